/-! String.charAt -/
theorem wj_16 : Cond.methodLink "java/lang/String" 492 (yJ "isLatin1" "()Z") ∈ WT := WT_in (mem_places (ws := [Cond.methodLink "java/lang/String" 492 (yJ "isLatin1" "()Z")]) [517] (by decide +kernel) _ (List.mem_singleton.mpr rfl)) rfl
theorem wj_17 : Cond.instanceMethod (yJ "isLatin1" "()Z") ∈ WT := WT_in (mem_places (ws := [Cond.instanceMethod (yJ "isLatin1" "()Z")]) [518] (by decide +kernel) _ (List.mem_singleton.mpr rfl)) rfl
theorem wj_18 : Cond.selects "java/lang/String" (yJ "isLatin1" "()Z") (yJ "isLatin1" "()Z") ∈ WT := WT_in (mem_places (ws := [Cond.selects "java/lang/String" (yJ "isLatin1" "()Z") (yJ "isLatin1" "()Z")]) [519] (by decide +kernel) _ (List.mem_singleton.mpr rfl)) rfl
theorem wj_19 : Cond.code (yJ "isLatin1" "()Z") prog_16_method_154_code 1 (some .boolean) ∈ WT := WT_in (mem_places (ws := [Cond.code (yJ "isLatin1" "()Z") prog_16_method_154_code 1 (some .boolean)]) [520] (by decide +kernel) _ (List.mem_singleton.mpr rfl)) rfl
theorem wj_20 : Cond.methodLink "java/lang/String" 495 (yL "charAt" "([BI)C") ∈ WT := WT_in (mem_places (ws := [Cond.methodLink "java/lang/String" 495 (yL "charAt" "([BI)C")]) [521] (by decide +kernel) _ (List.mem_singleton.mpr rfl)) rfl
theorem wj_21 : Cond.static (yL "charAt" "([BI)C") ∈ WT := WT_in (mem_places (ws := [Cond.static (yL "charAt" "([BI)C")]) [522] (by decide +kernel) _ (List.mem_singleton.mpr rfl)) rfl
theorem wj_22 : Cond.code (yL "charAt" "([BI)C") prog_17_method_2_code 2 (some .char) ∈ WT := WT_in (mem_places (ws := [Cond.code (yL "charAt" "([BI)C") prog_17_method_2_code 2 (some .char)]) [523] (by decide +kernel) _ (List.mem_singleton.mpr rfl)) rfl
theorem wj_23 : Cond.initialized "java/lang/StringLatin1" ∈ WT := WT_in (mem_places (ws := [Cond.initialized "java/lang/StringLatin1"]) [123] (by decide +kernel) _ (List.mem_singleton.mpr rfl)) rfl
theorem dj_ca_0 : decode prog_16_method_56_code 0 = .ok (.aload_n 0, 1) := by decide +kernel
theorem dj_ca_1 : decode prog_16_method_56_code 1 = .ok (.invokevirtual 492, 3) := by decide +kernel
theorem dj_ca_4 : decode prog_16_method_56_code 4 = .ok (.ifCond .eq 12, 3) := by decide +kernel
theorem dj_ca_7 : decode prog_16_method_56_code 7 = .ok (.aload_n 0, 1) := by decide +kernel
theorem dj_ca_8 : decode prog_16_method_56_code 8 = .ok (.getfield 9, 3) := by decide +kernel
theorem dj_ca_11 : decode prog_16_method_56_code 11 = .ok (.iload_n 1, 1) := by decide +kernel
theorem dj_ca_12 : decode prog_16_method_56_code 12 = .ok (.invokestatic 495, 3) := by decide +kernel
theorem dj_ca_15 : decode prog_16_method_56_code 15 = .ok (.ireturn, 1) := by decide +kernel
theorem jt_char (l : Launch) (ad : Int → Nat) (A : Nat → Prop) (m : Mm) (i : Nat) (hi : i < 2) (x v : Int32) (h0 : ¬ x < 0) (h1 : x < Int32.ofNat (LENS.getD i 0)) (hin : vp_in x (LENS.getD i 0)) (hv : ((((BYTS.getD i []).getD x.toNatClampNeg 0) &&& 255).toUInt32 % 65536).toInt32 = v) (hn : narrow .char (.int v) = .int v) : Met l (yJ "charAt" "(I)C") (Cond.code (yJ "charAt" "(I)C") prog_16_method_56_code 2 (some .char) :: WT) (rmJ 4) (PJ ad A m [.ref (ad (502 + (i : Int))), .int x]) (QJ v) 0 0 (fun _ => False) := by
  refine Met.ofW (cc := prog_16_method_56_code) (maxL := 2) (ret := some .char) (by decide +kernel) rfl ?_
  intro p e s mm args below meth c s₁ B hml hv9
  obtain ⟨rfl, hSc⟩ := hv9
  have hts0 := atoms_spec (ws := Cond.code (yJ "charAt" "(I)C") prog_16_method_56_code 2 (some .char) :: WT) B.pre
  have hts : ∀ w ∈ WT, w.before #[.ref (ad (502 + (i : Int))), .int x] s = true := fun w hw => hts0 w (List.mem_cons_of_mem _ hw)
  have hown : s.vm.findClass "java/lang/String" = some mm.cls := findClass_of_methodNamed B.named
  have hx := B.exec
  have hb := B.bytes
  have hr := B.returns
  have hlocks := B.notSynchronized
  have hSc0 : Sc NWL ad A s s.heap m := hSc
  obtain ⟨-, -, -, ⟨adV, hE⟩, -, -, hCS, -, -⟩ := hSc
  have hl := lv_entry ([.ref (ad (502 + (i : Int))), .int x]) (n := 2) (Nat.le_of_ble_eq_true rfl)
  rw [lg_entry_eq]
  generalize (lg_sl ([.ref (ad (502 + (i : Int))), .int x]) ++ List.replicate (2 - (lg_sl ([.ref (ad (502 + (i : Int))), .int x])).length) Slot.unset).toArray = ls at hl ⊢
  have hl : lv_has ls 2 [(0, .ref (ad (502 + (i : Int)))), (1, .int x)] := hl
  have hS : va_S A s.heap s.heap [] := va_S.rf
  have hSF : va_S (fun _ => False) s.heap s.heap [] := va_S.rf
  show W p l e (rmJ 4) s mm #[.ref (ad (502 + (i : Int))), .int x] below meth c s.heap [] 0 0 _ _
  refine lv_aload_n hx hb dj_ca_0 rfl (lv_at hl 0 rfl) ?_
  have hps : PreV s s.heap "java/lang/String" (ad (502 + (i : Int))) (PJ ad A m [.ref (ad (502 + (i : Int)))]) [] := ⟨fun a U g mk q0 => ⟨q0.1, Sc_same (u := U) (U := U.calling g mk a) rfl q0.2⟩, vk_recv hE hi hS, fun U hU hW => ⟨rfl, by show Sc NWL ad A U U.heap m; rw [hU]; exact Sc_warm hW hSc0⟩⟩
  have hrun : va_Run p l e (rmJ 4) s mm #[.ref (ad (502 + (i : Int))), .int x] below meth c s.heap [] 0 0 0 0 (F0 mm 1 ls (Value.ref (ad (502 + (i : Int))) :: [])) [] (QJ 1 (Value.ref (ad (502 + (i : Int))) :: ([] : List Value)).toArray) (fun _ => False) :=
    va_runV (C := "java/lang/String") (As := []) ⟨hx, hb, hml, hown, hts⟩ (jt_latin l ad A m i hi) ⟨callB_of 0 hts (goodWT wj_19) rfl rfl rfl (hts _ wj_7) (hts _ wj_16) ⟨by decide, by decide, by decide +kernel⟩ ⟨Nat.le_of_ble_eq_true rfl, Nat.le_of_ble_eq_true rfl⟩, hts _ wj_17, hts _ wj_18⟩ hps rfl rfl hl.1 rfl (Nat.le_of_ble_eq_true rfl) dj_ca_1 ⟨Nat.le_of_ble_eq_true rfl, Nat.le_of_ble_eq_true rfl⟩
  refine va_calli hrun hSF (fun _ _ h => h) (fun _ h => h) (fun r u t H1 locs1 ht hvm hw hB hz1 hk1 hS1 => ?_)
  obtain rfl : r = 1 := hw
  have hSA : va_S A s.heap H1 locs1 := ⟨hS1.1, fun q h _ => hS1.2.1 q h (fun z => z), fun l h => (hS1.2.2 l h).elim⟩
  refine lv_if_eq (tgt := 16) hx hb dj_ca_4 (by omega) (fun z => absurd z (by decide)) (fun _ => ?_)
  refine lv_aload_n hx hb dj_ca_7 rfl (lv_at hl 0 rfl) ?_
  refine vk_getf hx hb (hE.1 i hi).2.2.1 hSA hown (hts _ wj_2) (fun _ h => h) dj_ca_8 ?_
  refine lv_iload_n hx hb dj_ca_11 rfl (lv_at hl 1 rfl) ?_
  have hSc1 : Sc NWL ad A s H1 m := Sc_kept hSc0 hSA.1 hSA.2.1
  have hT1 := (hE.1 i hi).2.2.2.kept hSA.2.1
  have hps2 : PreS s H1 (PL ad A m (adV i) (LENS.getD i 0) (fun j => (BYTS.getD i []).getD j 0) [.ref (adV i), .int x]) [.ref (adV i), .int x] := ⟨fun a U g mk q0 => ⟨q0.1, Sc_same (u := U) (U := U.calling g mk a) rfl q0.2.1, va_T.moved (Vm.Alike.refl _) q0.2.2⟩, fun U hU hW => ⟨rfl, by rw [hU]; exact Sc_warm hW hSc1, by rw [hU]; exact va_T.moved hW.alike hT1⟩⟩
  have hrun2 : va_Run p l e (rmJ 4) s mm #[.ref (ad (502 + (i : Int))), .int x] below meth c H1 locs1 0 0 0 0 (F0 mm 12 ls (Value.int x :: .ref (adV i) :: [])) [] (QJ v [Value.ref (adV i), .int x].toArray) (fun _ => False) :=
    va_runS (As := [.ref (adV i), .int x]) ⟨hx, hb, hml, hown, hts⟩ (jt_lchar l ad A m (adV i) (LENS.getD i 0) (fun j => (BYTS.getD i []).getD j 0) x v h0 h1 hin hv hn) ⟨callB_of 2 hts (goodWT wj_22) rfl rfl rfl (hts _ wj_23) (hts _ wj_20) ⟨by decide, by decide, by decide +kernel⟩ ⟨Nat.le_of_ble_eq_true rfl, Nat.le_of_ble_eq_true rfl⟩, hts _ wj_21⟩ hps2 rfl rfl hl.1 rfl (Nat.le_of_ble_eq_true rfl) dj_ca_12 ⟨Nat.le_of_ble_eq_true rfl, Nat.le_of_ble_eq_true rfl⟩
  refine va_calli hrun2 hS1 (fun _ _ h => h) (fun _ h => h) (fun r u t H2 locs2 ht2 hvm2 hw2 hB2 hz2 hk2 hS2 => ?_)
  obtain rfl : r = v := hw2
  exact W.zret (v := r) hx hb hr hn (fun t ht hW => ⟨⟨r, (), rfl, rfl, trivial⟩, hS2.F ht⟩) hS2.2.2 dj_ca_15 hlocks

