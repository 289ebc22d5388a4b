/-! String.checkIndex -/
def QJv : Array Value → State → Outcome → State → Prop := va_Qv (S := Unit) (fun _ => True) (fun _ _ => True) (fun _ => False)
theorem wj_8 : Cond.fieldLink "java/lang/String" 1053 "jdk/internal/util/Preconditions" "SIOOBE_FORMATTER" "Ljava/util/function/BiFunction;" ∈ WT := WT_in (mem_places (ws := [Cond.fieldLink "java/lang/String" 1053 "jdk/internal/util/Preconditions" "SIOOBE_FORMATTER" "Ljava/util/function/BiFunction;"]) [527] (by decide +kernel) _ (List.mem_singleton.mpr rfl)) rfl
theorem wj_9 : Cond.methodLink "java/lang/String" 1059 yP ∈ WT := WT_in (mem_places (ws := [Cond.methodLink "java/lang/String" 1059 yP]) [529] (by decide +kernel) _ (List.mem_singleton.mpr rfl)) rfl
theorem wj_10 : Cond.static yP ∈ WT := WT_in (mem_places (ws := [Cond.static yP]) [530] (by decide +kernel) _ (List.mem_singleton.mpr rfl)) rfl
theorem wj_11 : Cond.code yP prog_20_method_11_code 3 (some .int) ∈ WT := WT_in (mem_places (ws := [Cond.code yP prog_20_method_11_code 3 (some .int)]) [531] (by decide +kernel) _ (List.mem_singleton.mpr rfl)) rfl
theorem wj_12 : Cond.initialized "jdk/internal/util/Preconditions" ∈ WT := WT_in (mem_places (ws := [Cond.initialized "jdk/internal/util/Preconditions"]) [124] (by decide +kernel) _ (List.mem_singleton.mpr rfl)) rfl
theorem dj_ch_0 : decode prog_16_method_155_code 0 = .ok (.iload_n 0, 1) := by decide +kernel
theorem dj_ch_1 : decode prog_16_method_155_code 1 = .ok (.iload_n 1, 1) := by decide +kernel
theorem dj_ch_2 : decode prog_16_method_155_code 2 = .ok (.getstatic 1053, 3) := by decide +kernel
theorem dj_ch_5 : decode prog_16_method_155_code 5 = .ok (.invokestatic 1059, 3) := by decide +kernel
theorem dj_ch_8 : decode prog_16_method_155_code 8 = .ok (.pop, 1) := by decide +kernel
theorem dj_ch_9 : decode prog_16_method_155_code 9 = .ok (.return_, 1) := by decide +kernel
theorem jt_chk (l : Launch) (ad : Int → Nat) (A : Nat → Prop) (m : Mm) (x n : Int32) (h0 : ¬ x < 0) (h1 : x < n) : Met l (yJ "checkIndex" "(II)V") (Cond.code (yJ "checkIndex" "(II)V") prog_16_method_155_code 2 none :: WT) (rmJ 2) (PJ ad A m [.int x, .int n]) QJv 0 0 (fun _ => False) := by
  refine Met.ofW (cc := prog_16_method_155_code) (maxL := 2) (ret := none) (by decide +kernel) rfl ?_
  intro p e s mm args below meth c s₁ B hml hv
  obtain ⟨rfl, hSc⟩ := hv
  have hts0 := atoms_spec (ws := Cond.code (yJ "checkIndex" "(II)V") prog_16_method_155_code 2 none :: WT) B.pre
  have hts : ∀ w ∈ WT, w.before #[.int x, .int n] s = true := fun w hw => hts0 w (List.mem_cons_of_mem _ hw)
  have hown : s.vm.findClass "java/lang/String" = some mm.cls := findClass_of_methodNamed B.named
  have hx := B.exec
  have hb := B.bytes
  have hr := B.returns
  have hlocks := B.notSynchronized
  obtain ⟨-, -, -, -, -, -, -, hQ, -⟩ := hSc
  have hl := lv_entry ([.int x, .int n]) (n := 2) (Nat.le_of_ble_eq_true rfl)
  rw [lg_entry_eq]
  generalize (lg_sl ([.int x, .int n]) ++ List.replicate (2 - (lg_sl ([.int x, .int n])).length) Slot.unset).toArray = ls at hl ⊢
  have hl : lv_has ls 2 [(0, .int x), (1, .int n)] := hl
  have hS : va_S A s.heap s.heap [] := va_S.rf
  have hSF : va_S (fun _ => False) s.heap s.heap [] := va_S.rf
  show W p l e (rmJ 2) s mm #[.int x, .int n] below meth c s.heap [] 0 0 _ _
  refine lv_iload_n hx hb dj_ch_0 rfl (lv_at hl 0 rfl) ?_
  refine lv_iload_n hx hb dj_ch_1 rfl (lv_at hl 1 rfl) ?_
  rcases hQ with hZ | ⟨t9, hZ⟩
  · refine va_gets hx hb hZ hS hown (hts _ wj_8) (fun _ h => h) dj_ch_2 ?_
    have hps : PreS s s.heap (PJ0 [.int x, .int n, .null]) [.int x, .int n, .null] := ⟨fun a U g mk q0 => q0, fun U hU hW => ⟨rfl, trivial⟩⟩
    have hrun : va_Run p l e (rmJ 2) s mm #[.int x, .int n] below meth c s.heap [] 0 0 0 0 (F0 mm 5 ls (Value.null :: .int n :: .int x :: [])) [] (QJ x [.int x, .int n, .null].toArray) (fun _ => False) :=
      va_runS (As := [.int x, .int n, .null]) ⟨hx, hb, hml, hown, hts⟩ (jt_pre_n l x n h0 h1) ⟨callB_of 3 hts (goodWT wj_11) rfl rfl rfl (hts _ wj_12) (hts _ wj_9) ⟨by decide, by decide, by decide +kernel⟩ ⟨Nat.le_of_ble_eq_true rfl, Nat.le_of_ble_eq_true rfl⟩, hts _ wj_10⟩ hps rfl rfl hl.1 rfl (Nat.le_of_ble_eq_true rfl) dj_ch_5 ⟨Nat.le_of_ble_eq_true rfl, Nat.le_of_ble_eq_true rfl⟩
    refine va_calli hrun hSF (fun _ _ h => h) (fun _ h => h) (fun r u t H1 locs1 ht hvm hw hB hz1 hk1 hS1 => ?_)
    refine lv_pop hx hb dj_ch_8 rfl ?_
    exact W.vret hx hb hr (fun t ht hW => ⟨⟨(), rfl, trivial, trivial⟩, hS1.F ht⟩) hS1.2.2 dj_ch_9 hlocks
  · refine va_gets hx hb hZ hS hown (hts _ wj_8) (fun _ h => h) dj_ch_2 ?_
    have hps : PreS s s.heap (PJ0 [.int x, .int n, .ref t9]) [.int x, .int n, .ref t9] := ⟨fun a U g mk q0 => q0, fun U hU hW => ⟨rfl, trivial⟩⟩
    have hrun : va_Run p l e (rmJ 2) s mm #[.int x, .int n] below meth c s.heap [] 0 0 0 0 (F0 mm 5 ls (Value.ref t9 :: .int n :: .int x :: [])) [] (QJ x [.int x, .int n, .ref t9].toArray) (fun _ => False) :=
      va_runS (As := [.int x, .int n, .ref t9]) ⟨hx, hb, hml, hown, hts⟩ (jt_pre_r l x n t9 h0 h1) ⟨callB_of 3 hts (goodWT wj_11) rfl rfl rfl (hts _ wj_12) (hts _ wj_9) ⟨by decide, by decide, by decide +kernel⟩ ⟨Nat.le_of_ble_eq_true rfl, Nat.le_of_ble_eq_true rfl⟩, hts _ wj_10⟩ hps rfl rfl hl.1 rfl (Nat.le_of_ble_eq_true rfl) dj_ch_5 ⟨Nat.le_of_ble_eq_true rfl, Nat.le_of_ble_eq_true rfl⟩
    refine va_calli hrun hSF (fun _ _ h => h) (fun _ h => h) (fun r u t H1 locs1 ht hvm hw hB hz1 hk1 hS1 => ?_)
    refine lv_pop hx hb dj_ch_8 rfl ?_
    exact W.vret hx hb hr (fun t ht hW => ⟨⟨(), rfl, trivial, trivial⟩, hS1.F ht⟩) hS1.2.2 dj_ch_9 hlocks

