/-! checkIndex -/
def yP : MethodName := ⟨"jdk/internal/util/Preconditions", "checkIndex", "(IILjava/util/function/BiFunction;)I"⟩
def PJ0 (av : List Value) : Array Value → State → Prop := va_Pc av (fun _ => True)
theorem dj_pc_0 : decode prog_20_method_11_code 0 = .ok (.iload_n 0, 1) := by decide +kernel
theorem dj_pc_1 : decode prog_20_method_11_code 1 = .ok (.ifCond .lt 8, 3) := by decide +kernel
theorem dj_pc_4 : decode prog_20_method_11_code 4 = .ok (.iload_n 0, 1) := by decide +kernel
theorem dj_pc_5 : decode prog_20_method_11_code 5 = .ok (.iload_n 1, 1) := by decide +kernel
theorem dj_pc_6 : decode prog_20_method_11_code 6 = .ok (.if_icmp .lt 10, 3) := by decide +kernel
theorem dj_pc_16 : decode prog_20_method_11_code 16 = .ok (.iload_n 0, 1) := by decide +kernel
theorem dj_pc_17 : decode prog_20_method_11_code 17 = .ok (.ireturn, 1) := by decide +kernel
theorem jt_pre_n (l : Launch) (x n : Int32) (h0 : ¬ x < 0) (h1 : x < n) : Met l yP (Cond.code yP prog_20_method_11_code 3 (some .int) :: WT) (rmJ 1) (PJ0 [.int x, .int n, .null]) (QJ x) 0 0 (fun _ => False) := by
  refine Met.ofW (cc := prog_20_method_11_code) (maxL := 3) (ret := some .int) (by decide +kernel) rfl ?_
  intro p e s mm args below meth c s₁ B hml hv
  obtain ⟨rfl, -⟩ := hv
  have hx := B.exec
  have hb := B.bytes
  have hr := B.returns
  have hlocks := B.notSynchronized
  have hl := lv_entry ([.int x, .int n, .null]) (n := 3) (Nat.le_of_ble_eq_true rfl)
  rw [lg_entry_eq]
  generalize (lg_sl ([.int x, .int n, .null]) ++ List.replicate (3 - (lg_sl ([.int x, .int n, .null])).length) Slot.unset).toArray = ls at hl ⊢
  have hl : lv_has ls 3 [(0, .int x), (1, .int n), (2, .null)] := hl
  have hSF : va_S (fun _ => False) s.heap s.heap [] := va_S.rf
  show W p l e (rmJ 1) s mm #[.int x, .int n, .null] below meth c s.heap [] 0 0 _ _
  refine lv_iload_n hx hb dj_pc_0 rfl (lv_at hl 0 rfl) ?_
  refine lv_if_lt (tgt := 9) hx hb dj_pc_1 (by omega) (fun z => absurd z h0) (fun _ => ?_)
  refine lv_iload_n hx hb dj_pc_4 rfl (lv_at hl 0 rfl) ?_
  refine lv_iload_n hx hb dj_pc_5 rfl (lv_at hl 1 rfl) ?_
  refine lv_icmp_lt (tgt := 16) hx hb dj_pc_6 (by omega) (fun _ => ?_) (fun z => absurd h1 z)
  refine lv_iload_n hx hb dj_pc_16 rfl (lv_at hl 0 rfl) ?_
  exact W.iret (v := x) hx hb hr (fun t ht hW => ⟨⟨x, (), rfl, rfl, trivial⟩, hSF.F ht⟩) (fun _ h => by simp at h) dj_pc_17 hlocks
theorem jt_pre_r (l : Launch) (x n : Int32) (t9 : Nat) (h0 : ¬ x < 0) (h1 : x < n) : Met l yP (Cond.code yP prog_20_method_11_code 3 (some .int) :: WT) (rmJ 1) (PJ0 [.int x, .int n, .ref t9]) (QJ x) 0 0 (fun _ => False) := by
  refine Met.ofW (cc := prog_20_method_11_code) (maxL := 3) (ret := some .int) (by decide +kernel) rfl ?_
  intro p e s mm args below meth c s₁ B hml hv
  obtain ⟨rfl, -⟩ := hv
  have hx := B.exec
  have hb := B.bytes
  have hr := B.returns
  have hlocks := B.notSynchronized
  have hl := lv_entry ([.int x, .int n, .ref t9]) (n := 3) (Nat.le_of_ble_eq_true rfl)
  rw [lg_entry_eq]
  generalize (lg_sl ([.int x, .int n, .ref t9]) ++ List.replicate (3 - (lg_sl ([.int x, .int n, .ref t9])).length) Slot.unset).toArray = ls at hl ⊢
  have hl : lv_has ls 3 [(0, .int x), (1, .int n), (2, .ref t9)] := hl
  have hSF : va_S (fun _ => False) s.heap s.heap [] := va_S.rf
  show W p l e (rmJ 1) s mm #[.int x, .int n, .ref t9] below meth c s.heap [] 0 0 _ _
  refine lv_iload_n hx hb dj_pc_0 rfl (lv_at hl 0 rfl) ?_
  refine lv_if_lt (tgt := 9) hx hb dj_pc_1 (by omega) (fun z => absurd z h0) (fun _ => ?_)
  refine lv_iload_n hx hb dj_pc_4 rfl (lv_at hl 0 rfl) ?_
  refine lv_iload_n hx hb dj_pc_5 rfl (lv_at hl 1 rfl) ?_
  refine lv_icmp_lt (tgt := 16) hx hb dj_pc_6 (by omega) (fun _ => ?_) (fun z => absurd h1 z)
  refine lv_iload_n hx hb dj_pc_16 rfl (lv_at hl 0 rfl) ?_
  exact W.iret (v := x) hx hb hr (fun t ht hW => ⟨⟨x, (), rfl, rfl, trivial⟩, hSF.F ht⟩) (fun _ h => by simp at h) dj_pc_17 hlocks
