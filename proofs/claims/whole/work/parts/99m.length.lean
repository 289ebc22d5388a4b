/-! String.length -/
theorem len_shr : ∀ i, i < 2 → Int32.ofNat (LENS.getD i 0) >>> ((0 : Int32) &&& 31) = Int32.ofNat (LENS.getD i 0) := by decide +kernel
theorem wj_3 : Cond.methodLink "java/lang/String" 335 (yJ "coder" "()B") ∈ WT := WT_in (mem_places (ws := [Cond.methodLink "java/lang/String" 335 (yJ "coder" "()B")]) [507] (by decide +kernel) _ (List.mem_singleton.mpr rfl)) rfl
theorem wj_4 : Cond.instanceMethod (yJ "coder" "()B") ∈ WT := WT_in (mem_places (ws := [Cond.instanceMethod (yJ "coder" "()B")]) [508] (by decide +kernel) _ (List.mem_singleton.mpr rfl)) rfl
theorem wj_5 : Cond.selects "java/lang/String" (yJ "coder" "()B") (yJ "coder" "()B") ∈ WT := WT_in (mem_places (ws := [Cond.selects "java/lang/String" (yJ "coder" "()B") (yJ "coder" "()B")]) [509] (by decide +kernel) _ (List.mem_singleton.mpr rfl)) rfl
theorem wj_6 : Cond.code (yJ "coder" "()B") prog_16_method_152_code 1 (some .byte) ∈ WT := WT_in (mem_places (ws := [Cond.code (yJ "coder" "()B") prog_16_method_152_code 1 (some .byte)]) [510] (by decide +kernel) _ (List.mem_singleton.mpr rfl)) rfl
theorem wj_7 : Cond.initialized "java/lang/String" ∈ WT := WT_in (mem_places (ws := [Cond.initialized "java/lang/String"]) [122] (by decide +kernel) _ (List.mem_singleton.mpr rfl)) rfl
theorem dj_le_0 : decode prog_16_method_54_code 0 = .ok (.aload_n 0, 1) := by decide +kernel
theorem dj_le_1 : decode prog_16_method_54_code 1 = .ok (.getfield 9, 3) := by decide +kernel
theorem dj_le_4 : decode prog_16_method_54_code 4 = .ok (.arraylength, 1) := by decide +kernel
theorem dj_le_5 : decode prog_16_method_54_code 5 = .ok (.aload_n 0, 1) := by decide +kernel
theorem dj_le_6 : decode prog_16_method_54_code 6 = .ok (.invokevirtual 335, 3) := by decide +kernel
theorem dj_le_9 : decode prog_16_method_54_code 9 = .ok (.ishr, 1) := by decide +kernel
theorem dj_le_10 : decode prog_16_method_54_code 10 = .ok (.ireturn, 1) := by decide +kernel
theorem jt_length (l : Launch) (ad : Int → Nat) (A : Nat → Prop) (m : Mm) (i : Nat) (hi : i < 2) : Met l (yJ "length" "()I") (Cond.code (yJ "length" "()I") prog_16_method_54_code 1 (some .int) :: WT) (rmJ 2) (PJ ad A m [.ref (ad (502 + (i : Int)))]) (QJ (Int32.ofNat (LENS.getD i 0))) 0 0 (fun _ => False) := by
  refine Met.ofW (cc := prog_16_method_54_code) (maxL := 1) (ret := some .int) (by decide +kernel) rfl ?_
  intro p e s mm args below meth c s₁ B hml hv
  obtain ⟨rfl, hSc⟩ := hv
  have hts0 := atoms_spec (ws := Cond.code (yJ "length" "()I") prog_16_method_54_code 1 (some .int) :: WT) B.pre
  have hts : ∀ w ∈ WT, w.before #[.ref (ad (502 + (i : Int)))] s = true := fun w hw => hts0 w (List.mem_cons_of_mem _ hw)
  have hown : s.vm.findClass "java/lang/String" = some mm.cls := findClass_of_methodNamed B.named
  have hx := B.exec
  have hb := B.bytes
  have hr := B.returns
  have hlocks := B.notSynchronized
  have hSc0 := hSc
  obtain ⟨-, -, -, ⟨adV, hE⟩, -, -, hCS, -, -⟩ := hSc
  have hl := lv_entry ([.ref (ad (502 + (i : Int)))]) (n := 1) (Nat.le_of_ble_eq_true rfl)
  rw [lg_entry_eq]
  generalize (lg_sl ([.ref (ad (502 + (i : Int)))]) ++ List.replicate (1 - (lg_sl ([.ref (ad (502 + (i : Int)))])).length) Slot.unset).toArray = ls at hl ⊢
  have hl : lv_has ls 1 [(0, .ref (ad (502 + (i : Int))))] := hl
  have hS : va_S A s.heap s.heap [] := va_S.rf
  have hSF : va_S (fun _ => False) s.heap s.heap [] := va_S.rf
  show W p l e (rmJ 2) s mm #[.ref (ad (502 + (i : Int)))] below meth c s.heap [] 0 0 _ _
  refine lv_aload_n hx hb dj_le_0 rfl (lv_at hl 0 rfl) ?_
  refine vk_getf hx hb (hE.1 i hi).2.2.1 hS hown (hts _ wj_2) (fun _ h => h) dj_le_1 ?_
  refine va_tlen hx hb (hE.1 i hi).2.2.2 hS rfl dj_le_4 ?_
  refine lv_aload_n hx hb dj_le_5 rfl (lv_at hl 0 rfl) ?_
  have hps : PreV s s.heap "java/lang/String" (ad (502 + (i : Int))) (PJ ad A m [.ref (ad (502 + (i : Int)))]) [] := ⟨fun a U g mk q0 => ⟨q0.1, Sc_same (u := U) (U := U.calling g mk a) rfl q0.2⟩, vk_recv hE hi hS, fun U hU hW => ⟨rfl, by show Sc NWL ad A U U.heap m; rw [hU]; exact Sc_warm hW hSc0⟩⟩
  have hrun : va_Run p l e (rmJ 2) s mm #[.ref (ad (502 + (i : Int)))] below meth c s.heap [] 0 0 0 0 (F0 mm 6 ls (Value.ref (ad (502 + (i : Int))) :: .int (Int32.ofNat (LENS.getD i 0)) :: [])) [.int (Int32.ofNat (LENS.getD i 0))] (QJ 0 (Value.ref (ad (502 + (i : Int))) :: ([] : List Value)).toArray) (fun _ => False) :=
    va_runV (C := "java/lang/String") (As := []) ⟨hx, hb, hml, hown, hts⟩ (jt_coder l ad A m i hi) ⟨callB_of 0 hts (goodWT wj_6) rfl rfl rfl (hts _ wj_7) (hts _ wj_3) ⟨by decide, by decide, by decide +kernel⟩ ⟨Nat.le_of_ble_eq_true rfl, Nat.le_of_ble_eq_true rfl⟩, hts _ wj_4, hts _ wj_5⟩ hps rfl rfl hl.1 rfl (Nat.le_of_ble_eq_true rfl) dj_le_6 ⟨Nat.le_of_ble_eq_true rfl, Nat.le_of_ble_eq_true rfl⟩
  refine va_calli hrun hSF (fun _ _ h => h) (fun _ h => h) (fun r u t H1 locs1 ht hvm hw hB hz1 hk1 hS1 => ?_)
  obtain rfl : r = 0 := hw
  refine lv_ishr hx hb dj_le_9 ?_
  rw [len_shr i hi]
  exact W.iret (v := Int32.ofNat (LENS.getD i 0)) hx hb hr (fun t ht hW => ⟨⟨_, (), rfl, rfl, trivial⟩, hS1.F ht⟩) hS1.2.2 dj_le_10 hlocks
