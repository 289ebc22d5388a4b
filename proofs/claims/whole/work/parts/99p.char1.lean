/-! StringLatin1.charAt -/
def yL (n d : String) : MethodName := ⟨"java/lang/StringLatin1", n, d⟩
def PL (ad : Int → Nat) (A : Nat → Prop) (m : Mm) (a N : Nat) (g : Nat → Int32) (av : List Value) : Array Value → State → Prop := va_Pc av (fun U => Sc NWL ad A U U.heap m ∧ va_T .byte a N (fun j => .int (g j)) A U U.heap)
theorem wj_13 : Cond.methodLink "java/lang/StringLatin1" 9 (yJ "checkIndex" "(II)V") ∈ WT := WT_in (mem_places (ws := [Cond.methodLink "java/lang/StringLatin1" 9 (yJ "checkIndex" "(II)V")]) [524] (by decide +kernel) _ (List.mem_singleton.mpr rfl)) rfl
theorem wj_14 : Cond.static (yJ "checkIndex" "(II)V") ∈ WT := WT_in (mem_places (ws := [Cond.static (yJ "checkIndex" "(II)V")]) [525] (by decide +kernel) _ (List.mem_singleton.mpr rfl)) rfl
theorem wj_15 : Cond.code (yJ "checkIndex" "(II)V") prog_16_method_155_code 2 none ∈ WT := WT_in (mem_places (ws := [Cond.code (yJ "checkIndex" "(II)V") prog_16_method_155_code 2 none]) [526] (by decide +kernel) _ (List.mem_singleton.mpr rfl)) rfl
theorem dj_lc_0 : decode prog_17_method_2_code 0 = .ok (.iload_n 1, 1) := by decide +kernel
theorem dj_lc_1 : decode prog_17_method_2_code 1 = .ok (.aload_n 0, 1) := by decide +kernel
theorem dj_lc_2 : decode prog_17_method_2_code 2 = .ok (.arraylength, 1) := by decide +kernel
theorem dj_lc_3 : decode prog_17_method_2_code 3 = .ok (.invokestatic 9, 3) := by decide +kernel
theorem dj_lc_6 : decode prog_17_method_2_code 6 = .ok (.aload_n 0, 1) := by decide +kernel
theorem dj_lc_7 : decode prog_17_method_2_code 7 = .ok (.iload_n 1, 1) := by decide +kernel
theorem dj_lc_8 : decode prog_17_method_2_code 8 = .ok (.baload, 1) := by decide +kernel
theorem dj_lc_9 : decode prog_17_method_2_code 9 = .ok (.sipush 255, 3) := by decide +kernel
theorem dj_lc_12 : decode prog_17_method_2_code 12 = .ok (.iand, 1) := by decide +kernel
theorem dj_lc_13 : decode prog_17_method_2_code 13 = .ok (.i2c, 1) := by decide +kernel
theorem dj_lc_14 : decode prog_17_method_2_code 14 = .ok (.ireturn, 1) := by decide +kernel
theorem jt_lchar (l : Launch) (ad : Int → Nat) (A : Nat → Prop) (m : Mm) (a N : Nat) (g : Nat → Int32) (x v : Int32) (h0 : ¬ x < 0) (h1 : x < Int32.ofNat N) (hin : vp_in x N) (hv : ((g x.toNatClampNeg &&& 255).toUInt32 % 65536).toInt32 = v) (hn : narrow .char (.int v) = .int v) : Met l (yL "charAt" "([BI)C") (Cond.code (yL "charAt" "([BI)C") prog_17_method_2_code 2 (some .char) :: WT) (rmJ 3) (PL ad A m a N g [.ref a, .int x]) (QJ v) 0 0 (fun _ => False) := by
  refine Met.ofW (cc := prog_17_method_2_code) (maxL := 2) (ret := some .char) (by decide +kernel) rfl ?_
  intro p e s mm args below meth c s₁ B hml hv9
  obtain ⟨rfl, hSc, hT⟩ := hv9
  have hts0 := atoms_spec (ws := Cond.code (yL "charAt" "([BI)C") prog_17_method_2_code 2 (some .char) :: WT) B.pre
  have hts : ∀ w ∈ WT, w.before #[.ref a, .int x] s = true := fun w hw => hts0 w (List.mem_cons_of_mem _ hw)
  have hown : s.vm.findClass "java/lang/StringLatin1" = some mm.cls := findClass_of_methodNamed B.named
  have hx := B.exec
  have hb := B.bytes
  have hr := B.returns
  have hlocks := B.notSynchronized
  have hl := lv_entry ([.ref a, .int x]) (n := 2) (Nat.le_of_ble_eq_true rfl)
  rw [lg_entry_eq]
  generalize (lg_sl ([.ref a, .int x]) ++ List.replicate (2 - (lg_sl ([.ref a, .int x])).length) Slot.unset).toArray = ls at hl ⊢
  have hl : lv_has ls 2 [(0, .ref a), (1, .int x)] := hl
  have hS : va_S A s.heap s.heap [] := va_S.rf
  have hSF : va_S (fun _ => False) s.heap s.heap [] := va_S.rf
  show W p l e (rmJ 3) s mm #[.ref a, .int x] below meth c s.heap [] 0 0 _ _
  refine lv_iload_n hx hb dj_lc_0 rfl (lv_at hl 1 rfl) ?_
  refine lv_aload_n hx hb dj_lc_1 rfl (lv_at hl 0 rfl) ?_
  refine va_tlen hx hb hT hS rfl dj_lc_2 ?_
  have hps : PreS s s.heap (PJ ad A m [.int x, .int (Int32.ofNat N)]) [.int x, .int (Int32.ofNat N)] := ⟨fun a U g mk q0 => ⟨q0.1, Sc_same (u := U) (U := U.calling g mk a) rfl q0.2⟩, fun U hU hW => ⟨rfl, by show Sc NWL ad A U U.heap m; rw [hU]; exact Sc_warm hW hSc⟩⟩
  have hrun : va_Run p l e (rmJ 3) s mm #[.ref a, .int x] below meth c s.heap [] 0 0 0 0 (F0 mm 3 ls (Value.int (Int32.ofNat N) :: .int x :: [])) [] (QJv [Value.int x, .int (Int32.ofNat N)].toArray) (fun _ => False) :=
    va_runS (As := [.int x, .int (Int32.ofNat N)]) ⟨hx, hb, hml, hown, hts⟩ (jt_chk l ad A m x (Int32.ofNat N) h0 h1) ⟨callB_of 2 hts (goodWT wj_15) rfl rfl rfl (hts _ wj_7) (hts _ wj_13) ⟨by decide, by decide, by decide +kernel⟩ ⟨Nat.le_of_ble_eq_true rfl, Nat.le_of_ble_eq_true rfl⟩, hts _ wj_14⟩ hps rfl rfl hl.1 rfl (Nat.le_of_ble_eq_true rfl) dj_lc_3 ⟨Nat.le_of_ble_eq_true rfl, Nat.le_of_ble_eq_true rfl⟩
  refine va_callv hrun hSF (fun _ _ h => h) (fun _ h => h) (fun u t H1 locs1 ht hvm hw hB hz1 hk1 hS1 => ?_)
  have hSA : va_S A s.heap H1 locs1 := ⟨hS1.1, fun q h _ => hS1.2.1 q h (fun z => z), fun l h => (hS1.2.2 l h).elim⟩
  refine lv_aload_n hx hb dj_lc_6 rfl (lv_at hl 0 rfl) ?_
  refine lv_iload_n hx hb dj_lc_7 rfl (lv_at hl 1 rfl) ?_
  refine va_tb hx hb hT hSA hin rfl dj_lc_8 ?_
  refine lv_sipush (v := 255) hx hb dj_lc_9 (by decide) ?_
  refine lv_iand hx hb dj_lc_12 ?_
  refine lv_i2c hx hb dj_lc_13 hv ?_
  exact W.zret (v := v) hx hb hr hn (fun t ht hW => ⟨⟨v, (), rfl, rfl, trivial⟩, hS1.F ht⟩) hS1.2.2 dj_lc_14 hlocks

