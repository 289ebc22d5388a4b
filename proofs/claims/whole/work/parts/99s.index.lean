/-! indexOf, from the innermost out -/
def ixr (g : Nat → Int32) (b : Int32) : Nat → Nat → Int32
  | 0, _ => -1
  | f + 1, j => if g j = b then Int32.ofInt (j : Int) else ixr g b f (j + 1)
theorem wj_24 : Cond.methodLink "java/lang/StringLatin1" 95 (yL "indexOfChar" "([BIII)I") ∈ WT := WT_in (mem_places (ws := [Cond.methodLink "java/lang/StringLatin1" 95 (yL "indexOfChar" "([BIII)I")]) [585] (by decide +kernel) _ (List.mem_singleton.mpr rfl)) rfl
theorem wj_25 : Cond.static (yL "indexOfChar" "([BIII)I") ∈ WT := WT_in (mem_places (ws := [Cond.static (yL "indexOfChar" "([BIII)I")]) [586] (by decide +kernel) _ (List.mem_singleton.mpr rfl)) rfl
theorem wj_26 : Cond.code (yL "indexOfChar" "([BIII)I") prog_17_method_23_code 6 (some .int) ∈ WT := WT_in (mem_places (ws := [Cond.code (yL "indexOfChar" "([BIII)I") prog_17_method_23_code 6 (some .int)]) [587] (by decide +kernel) _ (List.mem_singleton.mpr rfl)) rfl
theorem wj_27 : Cond.methodLink "java/lang/StringLatin1" 88 (yL "canEncode" "(I)Z") ∈ WT := WT_in (mem_places (ws := [Cond.methodLink "java/lang/StringLatin1" 88 (yL "canEncode" "(I)Z")]) [578] (by decide +kernel) _ (List.mem_singleton.mpr rfl)) rfl
theorem wj_28 : Cond.static (yL "canEncode" "(I)Z") ∈ WT := WT_in (mem_places (ws := [Cond.static (yL "canEncode" "(I)Z")]) [579] (by decide +kernel) _ (List.mem_singleton.mpr rfl)) rfl
theorem wj_29 : Cond.code (yL "canEncode" "(I)Z") prog_17_method_4_code 1 (some .boolean) ∈ WT := WT_in (mem_places (ws := [Cond.code (yL "canEncode" "(I)Z") prog_17_method_4_code 1 (some .boolean)]) [580] (by decide +kernel) _ (List.mem_singleton.mpr rfl)) rfl
theorem wj_30 : Cond.methodLink "java/lang/StringLatin1" 92 Lib.Math.max.name ∈ WT := WT_in (mem_places (ws := [Cond.methodLink "java/lang/StringLatin1" 92 Lib.Math.max.name]) [581] (by decide +kernel) _ (List.mem_singleton.mpr rfl)) rfl
theorem wj_31 : Cond.methodLink "java/lang/StringLatin1" 38 Lib.Math.min.name ∈ WT := WT_in (mem_places (ws := [Cond.methodLink "java/lang/StringLatin1" 38 Lib.Math.min.name]) [584] (by decide +kernel) _ (List.mem_singleton.mpr rfl)) rfl
theorem wj_32 : Cond.methodLink "java/lang/String" 637 (yL "indexOf" "([BIII)I") ∈ WT := WT_in (mem_places (ws := [Cond.methodLink "java/lang/String" 637 (yL "indexOf" "([BIII)I")]) [575] (by decide +kernel) _ (List.mem_singleton.mpr rfl)) rfl
theorem wj_33 : Cond.static (yL "indexOf" "([BIII)I") ∈ WT := WT_in (mem_places (ws := [Cond.static (yL "indexOf" "([BIII)I")]) [576] (by decide +kernel) _ (List.mem_singleton.mpr rfl)) rfl
theorem wj_34 : Cond.code (yL "indexOf" "([BIII)I") prog_17_method_22_code 4 (some .int) ∈ WT := WT_in (mem_places (ws := [Cond.code (yL "indexOf" "([BIII)I") prog_17_method_22_code 4 (some .int)]) [577] (by decide +kernel) _ (List.mem_singleton.mpr rfl)) rfl
theorem wj_35 : Cond.methodLink "java/lang/String" 633 (yJ "indexOf" "(II)I") ∈ WT := WT_in (mem_places (ws := [Cond.methodLink "java/lang/String" 633 (yJ "indexOf" "(II)I")]) [570] (by decide +kernel) _ (List.mem_singleton.mpr rfl)) rfl
theorem wj_36 : Cond.instanceMethod (yJ "indexOf" "(II)I") ∈ WT := WT_in (mem_places (ws := [Cond.instanceMethod (yJ "indexOf" "(II)I")]) [571] (by decide +kernel) _ (List.mem_singleton.mpr rfl)) rfl
theorem wj_37 : Cond.selects "java/lang/String" (yJ "indexOf" "(II)I") (yJ "indexOf" "(II)I") ∈ WT := WT_in (mem_places (ws := [Cond.selects "java/lang/String" (yJ "indexOf" "(II)I") (yJ "indexOf" "(II)I")]) [572] (by decide +kernel) _ (List.mem_singleton.mpr rfl)) rfl
theorem wj_38 : Cond.code (yJ "indexOf" "(II)I") prog_16_method_80_code 3 (some .int) ∈ WT := WT_in (mem_places (ws := [Cond.code (yJ "indexOf" "(II)I") prog_16_method_80_code 3 (some .int)]) [573] (by decide +kernel) _ (List.mem_singleton.mpr rfl)) rfl
theorem wj_39 : Cond.methodLink "java/lang/String" 505 (yJ "length" "()I") ∈ WT := WT_in (mem_places (ws := [Cond.methodLink "java/lang/String" 505 (yJ "length" "()I")]) [574] (by decide +kernel) _ (List.mem_singleton.mpr rfl)) rfl
theorem wj_40 : Cond.methodLink RX6 168 (yJ "length" "()I") ∈ WT := WT_in (mem_places (ws := [Cond.methodLink RX6 168 (yJ "length" "()I")]) [503] (by decide +kernel) _ (List.mem_singleton.mpr rfl)) rfl
theorem wj_41 : Cond.instanceMethod (yJ "length" "()I") ∈ WT := WT_in (mem_places (ws := [Cond.instanceMethod (yJ "length" "()I")]) [504] (by decide +kernel) _ (List.mem_singleton.mpr rfl)) rfl
theorem wj_42 : Cond.selects "java/lang/String" (yJ "length" "()I") (yJ "length" "()I") ∈ WT := WT_in (mem_places (ws := [Cond.selects "java/lang/String" (yJ "length" "()I") (yJ "length" "()I")]) [505] (by decide +kernel) _ (List.mem_singleton.mpr rfl)) rfl
theorem wj_43 : Cond.code (yJ "length" "()I") prog_16_method_54_code 1 (some .int) ∈ WT := WT_in (mem_places (ws := [Cond.code (yJ "length" "()I") prog_16_method_54_code 1 (some .int)]) [506] (by decide +kernel) _ (List.mem_singleton.mpr rfl)) rfl
theorem wj_44 : Cond.methodLink RX6 172 (yJ "charAt" "(I)C") ∈ WT := WT_in (mem_places (ws := [Cond.methodLink RX6 172 (yJ "charAt" "(I)C")]) [513] (by decide +kernel) _ (List.mem_singleton.mpr rfl)) rfl
theorem wj_45 : Cond.instanceMethod (yJ "charAt" "(I)C") ∈ WT := WT_in (mem_places (ws := [Cond.instanceMethod (yJ "charAt" "(I)C")]) [514] (by decide +kernel) _ (List.mem_singleton.mpr rfl)) rfl
theorem wj_46 : Cond.selects "java/lang/String" (yJ "charAt" "(I)C") (yJ "charAt" "(I)C") ∈ WT := WT_in (mem_places (ws := [Cond.selects "java/lang/String" (yJ "charAt" "(I)C") (yJ "charAt" "(I)C")]) [515] (by decide +kernel) _ (List.mem_singleton.mpr rfl)) rfl
theorem wj_47 : Cond.code (yJ "charAt" "(I)C") prog_16_method_56_code 2 (some .char) ∈ WT := WT_in (mem_places (ws := [Cond.code (yJ "charAt" "(I)C") prog_16_method_56_code 2 (some .char)]) [516] (by decide +kernel) _ (List.mem_singleton.mpr rfl)) rfl
theorem wj_48 : Cond.methodLink RX6 184 (yJ "indexOf" "(I)I") ∈ WT := WT_in (mem_places (ws := [Cond.methodLink RX6 184 (yJ "indexOf" "(I)I")]) [566] (by decide +kernel) _ (List.mem_singleton.mpr rfl)) rfl
theorem wj_49 : Cond.instanceMethod (yJ "indexOf" "(I)I") ∈ WT := WT_in (mem_places (ws := [Cond.instanceMethod (yJ "indexOf" "(I)I")]) [567] (by decide +kernel) _ (List.mem_singleton.mpr rfl)) rfl
theorem wj_50 : Cond.selects "java/lang/String" (yJ "indexOf" "(I)I") (yJ "indexOf" "(I)I") ∈ WT := WT_in (mem_places (ws := [Cond.selects "java/lang/String" (yJ "indexOf" "(I)I") (yJ "indexOf" "(I)I")]) [568] (by decide +kernel) _ (List.mem_singleton.mpr rfl)) rfl
theorem wj_51 : Cond.code (yJ "indexOf" "(I)I") prog_16_method_79_code 2 (some .int) ∈ WT := WT_in (mem_places (ws := [Cond.code (yJ "indexOf" "(I)I") prog_16_method_79_code 2 (some .int)]) [569] (by decide +kernel) _ (List.mem_singleton.mpr rfl)) rfl
theorem dj_ix_0 : decode prog_17_method_23_code 0 = .ok (.iload_n 1, 1) := by decide +kernel
theorem dj_ix_1 : decode prog_17_method_23_code 1 = .ok (.i2b, 1) := by decide +kernel
theorem dj_ix_2 : decode prog_17_method_23_code 2 = .ok (.istore 4, 2) := by decide +kernel
theorem dj_ix_4 : decode prog_17_method_23_code 4 = .ok (.iload_n 2, 1) := by decide +kernel
theorem dj_ix_5 : decode prog_17_method_23_code 5 = .ok (.istore 5, 2) := by decide +kernel
theorem dj_ix_7 : decode prog_17_method_23_code 7 = .ok (.iload 5, 2) := by decide +kernel
theorem dj_ix_9 : decode prog_17_method_23_code 9 = .ok (.iload_n 3, 1) := by decide +kernel
theorem dj_ix_10 : decode prog_17_method_23_code 10 = .ok (.if_icmp .ge 21, 3) := by decide +kernel
theorem dj_ix_13 : decode prog_17_method_23_code 13 = .ok (.aload_n 0, 1) := by decide +kernel
theorem dj_ix_14 : decode prog_17_method_23_code 14 = .ok (.iload 5, 2) := by decide +kernel
theorem dj_ix_16 : decode prog_17_method_23_code 16 = .ok (.baload, 1) := by decide +kernel
theorem dj_ix_17 : decode prog_17_method_23_code 17 = .ok (.iload 4, 2) := by decide +kernel
theorem dj_ix_19 : decode prog_17_method_23_code 19 = .ok (.if_icmp .ne 6, 3) := by decide +kernel
theorem dj_ix_22 : decode prog_17_method_23_code 22 = .ok (.iload 5, 2) := by decide +kernel
theorem dj_ix_24 : decode prog_17_method_23_code 24 = .ok (.ireturn, 1) := by decide +kernel
theorem dj_ix_25 : decode prog_17_method_23_code 25 = .ok (.iinc 5 1, 3) := by decide +kernel
theorem dj_ix_28 : decode prog_17_method_23_code 28 = .ok (.goto (-21), 3) := by decide +kernel
theorem dj_ix_31 : decode prog_17_method_23_code 31 = .ok (.iconst (-1), 1) := by decide +kernel
theorem dj_ix_32 : decode prog_17_method_23_code 32 = .ok (.ireturn, 1) := by decide +kernel
theorem dj_li_0 : decode prog_17_method_22_code 0 = .ok (.iload_n 1, 1) := by decide +kernel
theorem dj_li_1 : decode prog_17_method_22_code 1 = .ok (.invokestatic 88, 3) := by decide +kernel
theorem dj_li_4 : decode prog_17_method_22_code 4 = .ok (.ifCond .ne 5, 3) := by decide +kernel
theorem dj_li_7 : decode prog_17_method_22_code 7 = .ok (.iconst (-1), 1) := by decide +kernel
theorem dj_li_8 : decode prog_17_method_22_code 8 = .ok (.ireturn, 1) := by decide +kernel
theorem dj_li_9 : decode prog_17_method_22_code 9 = .ok (.iload_n 2, 1) := by decide +kernel
theorem dj_li_10 : decode prog_17_method_22_code 10 = .ok (.iconst 0, 1) := by decide +kernel
theorem dj_li_11 : decode prog_17_method_22_code 11 = .ok (.invokestatic 92, 3) := by decide +kernel
theorem dj_li_14 : decode prog_17_method_22_code 14 = .ok (.istore_n 2, 1) := by decide +kernel
theorem dj_li_15 : decode prog_17_method_22_code 15 = .ok (.iload_n 3, 1) := by decide +kernel
theorem dj_li_16 : decode prog_17_method_22_code 16 = .ok (.aload_n 0, 1) := by decide +kernel
theorem dj_li_17 : decode prog_17_method_22_code 17 = .ok (.arraylength, 1) := by decide +kernel
theorem dj_li_18 : decode prog_17_method_22_code 18 = .ok (.invokestatic 38, 3) := by decide +kernel
theorem dj_li_21 : decode prog_17_method_22_code 21 = .ok (.istore_n 3, 1) := by decide +kernel
theorem dj_li_22 : decode prog_17_method_22_code 22 = .ok (.iload_n 2, 1) := by decide +kernel
theorem dj_li_23 : decode prog_17_method_22_code 23 = .ok (.iload_n 3, 1) := by decide +kernel
theorem dj_li_24 : decode prog_17_method_22_code 24 = .ok (.if_icmp .lt 5, 3) := by decide +kernel
theorem dj_li_29 : decode prog_17_method_22_code 29 = .ok (.aload_n 0, 1) := by decide +kernel
theorem dj_li_30 : decode prog_17_method_22_code 30 = .ok (.iload_n 1, 1) := by decide +kernel
theorem dj_li_31 : decode prog_17_method_22_code 31 = .ok (.iload_n 2, 1) := by decide +kernel
theorem dj_li_32 : decode prog_17_method_22_code 32 = .ok (.iload_n 3, 1) := by decide +kernel
theorem dj_li_33 : decode prog_17_method_22_code 33 = .ok (.invokestatic 95, 3) := by decide +kernel
theorem dj_li_36 : decode prog_17_method_22_code 36 = .ok (.ireturn, 1) := by decide +kernel
theorem dj_i2_0 : decode prog_16_method_80_code 0 = .ok (.aload_n 0, 1) := by decide +kernel
theorem dj_i2_1 : decode prog_16_method_80_code 1 = .ok (.invokevirtual 492, 3) := by decide +kernel
theorem dj_i2_4 : decode prog_16_method_80_code 4 = .ok (.ifCond .eq 19, 3) := by decide +kernel
theorem dj_i2_7 : decode prog_16_method_80_code 7 = .ok (.aload_n 0, 1) := by decide +kernel
theorem dj_i2_8 : decode prog_16_method_80_code 8 = .ok (.getfield 9, 3) := by decide +kernel
theorem dj_i2_11 : decode prog_16_method_80_code 11 = .ok (.iload_n 1, 1) := by decide +kernel
theorem dj_i2_12 : decode prog_16_method_80_code 12 = .ok (.iload_n 2, 1) := by decide +kernel
theorem dj_i2_13 : decode prog_16_method_80_code 13 = .ok (.aload_n 0, 1) := by decide +kernel
theorem dj_i2_14 : decode prog_16_method_80_code 14 = .ok (.invokevirtual 505, 3) := by decide +kernel
theorem dj_i2_17 : decode prog_16_method_80_code 17 = .ok (.invokestatic 637, 3) := by decide +kernel
theorem dj_i2_20 : decode prog_16_method_80_code 20 = .ok (.goto 16, 3) := by decide +kernel
theorem dj_i2_36 : decode prog_16_method_80_code 36 = .ok (.ireturn, 1) := by decide +kernel
theorem dj_i1_0 : decode prog_16_method_79_code 0 = .ok (.aload_n 0, 1) := by decide +kernel
theorem dj_i1_1 : decode prog_16_method_79_code 1 = .ok (.iload_n 1, 1) := by decide +kernel
theorem dj_i1_2 : decode prog_16_method_79_code 2 = .ok (.iconst 0, 1) := by decide +kernel
theorem dj_i1_3 : decode prog_16_method_79_code 3 = .ok (.invokevirtual 633, 3) := by decide +kernel
theorem dj_i1_6 : decode prog_16_method_79_code 6 = .ok (.ireturn, 1) := by decide +kernel
theorem jt_ixc (l : Launch) (ad : Int → Nat) (A : Nat → Prop) (m : Mm) (a N : Nat) (g : Nat → Int32) (x v : Int32) (hN : N < 1000) (hv : ixr g x.toInt8.toInt32 N 0 = v) : Met l (yL "indexOfChar" "([BIII)I") (Cond.code (yL "indexOfChar" "([BIII)I") prog_17_method_23_code 6 (some .int) :: WT) (rmJ 1) (PL ad A m a N g [.ref a, .int x, .int 0, .int (Int32.ofNat N)]) (QJ v) 0 0 (fun _ => False) := by
  refine Met.ofW (cc := prog_17_method_23_code) (maxL := 6) (ret := some .int) (by decide +kernel) rfl ?_
  intro p e s mm args below meth c s₁ B hml hv9
  obtain ⟨rfl, hSc, hT⟩ := hv9
  have hts0 := atoms_spec (ws := Cond.code (yL "indexOfChar" "([BIII)I") prog_17_method_23_code 6 (some .int) :: WT) B.pre
  have hts : ∀ w ∈ WT, w.before #[.ref a, .int x, .int 0, .int (Int32.ofNat N)] s = true := fun w hw => hts0 w (List.mem_cons_of_mem _ hw)
  have hown : s.vm.findClass "java/lang/StringLatin1" = some mm.cls := findClass_of_methodNamed B.named
  have hx := B.exec
  have hb := B.bytes
  have hr := B.returns
  have hlocks := B.notSynchronized
  have hl := lv_entry ([.ref a, .int x, .int 0, .int (Int32.ofNat N)]) (n := 6) (Nat.le_of_ble_eq_true rfl)
  rw [lg_entry_eq]
  generalize (lg_sl ([.ref a, .int x, .int 0, .int (Int32.ofNat N)]) ++ List.replicate (6 - (lg_sl ([.ref a, .int x, .int 0, .int (Int32.ofNat N)])).length) Slot.unset).toArray = ls at hl ⊢
  have hl : lv_has ls 6 [(0, .ref a), (1, .int x), (2, .int 0), (3, .int (Int32.ofNat N))] := hl
  have hS : va_S A s.heap s.heap [] := va_S.rf
  have hSF : va_S (fun _ => False) s.heap s.heap [] := va_S.rf
  show W p l e (rmJ 1) s mm #[.ref a, .int x, .int 0, .int (Int32.ofNat N)] below meth c s.heap [] 0 0 _ _
  have hj32 : ∀ j : Nat, j < 2000 → in32 (j : Int) := fun j h => by unfold in32; omega
  have hNe : Int32.ofNat N = Int32.ofInt (N : Int) := rfl
  generalize hbb : x.toInt8.toInt32 = bb at hv
  have loop : ∀ (f j : Nat) (ls : Array Slot), j + f = N → ixr g bb f j = v → lv_has ls 6 [(5, .int (Int32.ofInt (j : Int))), (4, .int bb), (0, .ref a), (1, .int x), (2, .int 0), (3, .int (Int32.ofNat N))] → W p l e (rmJ 1) s mm #[.ref a, .int x, .int 0, .int (Int32.ofNat N)] below meth c s.heap [] 0 0 (MQ below (QJ v) #[.ref a, .int x, .int 0, .int (Int32.ofNat N)] s 0 0 (fun _ => False)) (F0 mm 7 ls []) := by
    intro f
    induction f with
    | zero =>
      intro j ls hjf hv hl
      refine lv_iload hx hb dj_ix_7 (lv_at hl 0 rfl) ?_
      refine lv_iload_n hx hb dj_ix_9 rfl (lv_at hl 5 rfl) ?_
      refine lv_icmp_ge (tgt := 31) hx hb dj_ix_10 (by omega) (fun _ => ?_) (fun z => ?_)
      · refine lv_iconst (v := -1) hx hb dj_ix_31 (by decide) ?_
        exact W.iret (v := -1) hx hb hr (fun t ht hW => ⟨⟨_, (), rfl, hv, trivial⟩, hSF.F ht⟩) (fun _ h => by simp at h) dj_ix_32 hlocks
      · exact absurd (by rw [hNe, Int32.le_iff_toInt_le, i32_of (hj32 j (by omega)), i32_of (hj32 N (by omega))]; omega) z
    | succ f ih =>
      intro j ls hjf hv hl
      have hjN : ¬ (Int32.ofNat N ≤ Int32.ofInt (j : Int)) := by rw [hNe, Int32.le_iff_toInt_le, i32_of (hj32 j (by omega)), i32_of (hj32 N (by omega))]; omega
      refine lv_iload hx hb dj_ix_7 (lv_at hl 0 rfl) ?_
      refine lv_iload_n hx hb dj_ix_9 rfl (lv_at hl 5 rfl) ?_
      refine lv_icmp_ge (tgt := 31) hx hb dj_ix_10 (by omega) (fun z => absurd z hjN) (fun _ => ?_)
      refine lv_aload_n hx hb dj_ix_13 rfl (lv_at hl 2 rfl) ?_
      refine lv_iload hx hb dj_ix_14 (lv_at hl 0 rfl) ?_
      refine va_tb (v := .int (g j)) hx hb hT hS (vp_in_o (hj32 j (by omega)) (by omega) (by omega)) (by rw [clamp_o (hj32 j (by omega))]; rfl) dj_ix_16 ?_
      refine lv_iload hx hb dj_ix_17 (lv_at hl 1 rfl) ?_
      refine lv_icmp_ne (tgt := 25) hx hb dj_ix_19 (by omega) (fun z => ?_) (fun z => ?_)
      · refine lv_iinc (k := 0) (v := Int32.ofInt ((j + 1 : Nat) : Int)) hx hb dj_ix_25 hl rfl (by rw [← Int32.ofInt_add]; rfl) (Nat.le_of_ble_eq_true rfl) rfl (fun ls' hl' => ?_)
        refine lv_goto (tgt := 7) hx hb dj_ix_28 (by omega) ?_
        exact ih (j + 1) ls' (by omega) (by rw [← hv]; show ixr g bb f (j + 1) = if g j = bb then _ else _; rw [if_neg z]) hl'
      · refine lv_iload hx hb dj_ix_22 (lv_at hl 0 rfl) ?_
        exact W.iret (v := Int32.ofInt (j : Int)) hx hb hr (fun t ht hW => ⟨⟨_, (), rfl, by rw [← hv]; show _ = if g j = bb then _ else _; rw [if_pos z], trivial⟩, hSF.F ht⟩) (fun _ h => by simp at h) dj_ix_24 hlocks
  refine lv_iload_n hx hb dj_ix_0 rfl (lv_at hl 1 rfl) ?_
  refine lv_i2b hx hb dj_ix_1 hbb ?_
  refine lv_istore hx hb dj_ix_2 hl (Nat.le_of_ble_eq_true rfl) rfl (fun ls1 hl1 => ?_)
  refine lv_iload_n hx hb dj_ix_4 rfl (lv_at hl1 3 rfl) ?_
  refine lv_istore hx hb dj_ix_5 hl1 (Nat.le_of_ble_eq_true rfl) rfl (fun ls2 hl2 => ?_)
  exact loop N 0 ls2 (by omega) hv hl2

theorem jt_lix (l : Launch) (ad : Int → Nat) (A : Nat → Prop) (m : Mm) (a N : Nat) (g : Nat → Int32) (x v : Int32) (hN0 : 0 < N) (hN : N < 1000) (hv : (if x < 0 ∨ 255 < x then -1 else ixr g x.toInt8.toInt32 N 0) = v) : Met l (yL "indexOf" "([BIII)I") (Cond.code (yL "indexOf" "([BIII)I") prog_17_method_22_code 4 (some .int) :: WT) (rmJ 2) (PL ad A m a N g [.ref a, .int x, .int 0, .int (Int32.ofNat N)]) (QJ v) 0 0 (fun _ => False) := by
  refine Met.ofW (cc := prog_17_method_22_code) (maxL := 4) (ret := some .int) (by decide +kernel) rfl ?_
  intro p e s mm args below meth c s₁ B hml hv9
  obtain ⟨rfl, hSc, hT⟩ := hv9
  have hts0 := atoms_spec (ws := Cond.code (yL "indexOf" "([BIII)I") prog_17_method_22_code 4 (some .int) :: WT) B.pre
  have hts : ∀ w ∈ WT, w.before #[.ref a, .int x, .int 0, .int (Int32.ofNat N)] s = true := fun w hw => hts0 w (List.mem_cons_of_mem _ hw)
  have hown : s.vm.findClass "java/lang/StringLatin1" = some mm.cls := findClass_of_methodNamed B.named
  have hx := B.exec
  have hb := B.bytes
  have hr := B.returns
  have hlocks := B.notSynchronized
  have hl := lv_entry ([.ref a, .int x, .int 0, .int (Int32.ofNat N)]) (n := 4) (Nat.le_of_ble_eq_true rfl)
  rw [lg_entry_eq]
  generalize (lg_sl ([.ref a, .int x, .int 0, .int (Int32.ofNat N)]) ++ List.replicate (4 - (lg_sl ([.ref a, .int x, .int 0, .int (Int32.ofNat N)])).length) Slot.unset).toArray = ls at hl ⊢
  have hl : lv_has ls 4 [(0, .ref a), (1, .int x), (2, .int 0), (3, .int (Int32.ofNat N))] := hl
  have hS : va_S A s.heap s.heap [] := va_S.rf
  have hSF : va_S (fun _ => False) s.heap s.heap [] := va_S.rf
  show W p l e (rmJ 2) s mm #[.ref a, .int x, .int 0, .int (Int32.ofNat N)] below meth c s.heap [] 0 0 _ _
  have hj32 : ∀ j : Nat, j < 2000 → in32 (j : Int) := fun j h => by unfold in32; omega
  have hNe : Int32.ofNat N = Int32.ofInt (N : Int) := rfl
  have hNp : (0 : Int32) < Int32.ofNat N := by rw [hNe, Int32.lt_iff_toInt_lt, i32_of (hj32 N (by omega))]; show (0 : Int) < _; omega
  have hmx : (if (0 : Int32) < 0 then (0 : Int32) else 0) = 0 := by decide
  have hmn : (if Int32.ofNat N < Int32.ofNat N then Int32.ofNat N else Int32.ofNat N) = Int32.ofNat N := by split <;> rfl
  generalize hcc : (if x < 0 ∨ 255 < x then (0 : Int32) else 1) = cn
  refine lv_iload_n hx hb dj_li_0 rfl (lv_at hl 1 rfl) ?_
  have hps : PreS s s.heap (PJ0 [.int x]) [.int x] := ⟨fun a U g mk q0 => q0, fun U hU hW => ⟨rfl, trivial⟩⟩
  have hrun : va_Run p l e (rmJ 2) s mm #[.ref a, .int x, .int 0, .int (Int32.ofNat N)] below meth c s.heap [] 0 0 0 0 (F0 mm 1 ls (Value.int x :: [])) [] (QJ cn [Value.int x].toArray) (fun _ => False) :=
    va_runS (As := [.int x]) ⟨hx, hb, hml, hown, hts⟩ (jt_can l x cn hcc.symm) ⟨callB_of 1 hts (goodWT wj_29) rfl rfl rfl (hts _ wj_23) (hts _ wj_27) ⟨by decide, by decide, by decide +kernel⟩ ⟨Nat.le_of_ble_eq_true rfl, Nat.le_of_ble_eq_true rfl⟩, hts _ wj_28⟩ hps rfl rfl hl.1 rfl (Nat.le_of_ble_eq_true rfl) dj_li_1 ⟨Nat.le_of_ble_eq_true rfl, Nat.le_of_ble_eq_true rfl⟩
  refine va_calli hrun hSF (fun _ _ h => h) (fun _ h => h) (fun r u t H1 locs1 ht hvm hw hB hz1 hk1 hS1 => ?_)
  obtain rfl : r = cn := hw
  have hSA : va_S A s.heap H1 locs1 := ⟨hS1.1, fun q h _ => hS1.2.1 q h (fun z => z), fun l h => (hS1.2.2 l h).elim⟩
  refine lv_if_ne (tgt := 9) hx hb dj_li_4 (by omega) (fun z => ?_) (fun z => ?_)
  · have hxx : ¬ (x < 0 ∨ 255 < x) := fun h => z (by rw [← hcc, if_pos h])
    rw [if_neg hxx] at hv
    refine lv_iload_n hx hb dj_li_9 rfl (lv_at hl 2 rfl) ?_
    refine lv_iconst (v := 0) hx hb dj_li_10 (by decide) ?_
    refine va_mmax hx hb (by rw [hml, hl.1]) hown (hts _ wj_30) (hts _ mat_s0) (hts _ mat_i) (hts _ mat_c0) (Nat.le_of_ble_eq_true rfl) (Nat.le_of_ble_eq_true rfl) (Nat.le_of_ble_eq_true rfl) (Nat.le_of_ble_eq_true rfl) dj_li_11 ?_
    rw [hmx]
    refine lv_istore_n hx hb dj_li_14 rfl hl (Nat.le_of_ble_eq_true rfl) rfl (fun ls1 hl1 => ?_)
    refine lv_iload_n hx hb dj_li_15 rfl (lv_at hl1 3 rfl) ?_
    refine lv_aload_n hx hb dj_li_16 rfl (lv_at hl1 1 rfl) ?_
    refine va_tlen hx hb hT hSA rfl dj_li_17 ?_
    refine va_mmin hx hb (by rw [hml, hl1.1]) hown (hts _ wj_31) (hts _ mat_s1) (hts _ mat_i) (hts _ mat_c1) (Nat.le_of_ble_eq_true rfl) (Nat.le_of_ble_eq_true rfl) (Nat.le_of_ble_eq_true rfl) (Nat.le_of_ble_eq_true rfl) dj_li_18 ?_
    rw [hmn]
    refine lv_istore_n hx hb dj_li_21 rfl hl1 (Nat.le_of_ble_eq_true rfl) rfl (fun ls2 hl2 => ?_)
    refine lv_iload_n hx hb dj_li_22 rfl (lv_at hl2 1 rfl) ?_
    refine lv_iload_n hx hb dj_li_23 rfl (lv_at hl2 0 rfl) ?_
    refine lv_icmp_lt (tgt := 29) hx hb dj_li_24 (by omega) (fun _ => ?_) (fun z2 => absurd hNp z2)
    refine lv_aload_n hx hb dj_li_29 rfl (lv_at hl2 2 rfl) ?_
    refine lv_iload_n hx hb dj_li_30 rfl (lv_at hl2 3 rfl) ?_
    refine lv_iload_n hx hb dj_li_31 rfl (lv_at hl2 1 rfl) ?_
    refine lv_iload_n hx hb dj_li_32 rfl (lv_at hl2 0 rfl) ?_
    have hSc1 : Sc NWL ad A s H1 m := Sc_kept hSc hSA.1 hSA.2.1
    have hT1 := hT.kept hSA.2.1
    have hps2 : PreS s H1 (PL ad A m a N g [.ref a, .int x, .int 0, .int (Int32.ofNat N)]) [.ref a, .int x, .int 0, .int (Int32.ofNat N)] := ⟨fun a U g mk q0 => ⟨q0.1, Sc_same (u := U) (U := U.calling g mk a) rfl q0.2.1, va_T.moved (Vm.Alike.refl _) q0.2.2⟩, fun U hU hW => ⟨rfl, by rw [hU]; exact Sc_warm hW hSc1, by rw [hU]; exact va_T.moved hW.alike hT1⟩⟩
    have hrun2 : va_Run p l e (rmJ 2) s mm #[.ref a, .int x, .int 0, .int (Int32.ofNat N)] below meth c H1 locs1 0 0 0 0 (F0 mm 33 ls2 (Value.int (Int32.ofNat N) :: .int 0 :: .int x :: .ref a :: [])) [] (QJ v [Value.ref a, .int x, .int 0, .int (Int32.ofNat N)].toArray) (fun _ => False) :=
      va_runS (As := [.ref a, .int x, .int 0, .int (Int32.ofNat N)]) ⟨hx, hb, hml, hown, hts⟩ (jt_ixc l ad A m a N g x v hN hv) ⟨callB_of 4 hts (goodWT wj_26) rfl rfl rfl (hts _ wj_23) (hts _ wj_24) ⟨by decide, by decide, by decide +kernel⟩ ⟨Nat.le_of_ble_eq_true rfl, Nat.le_of_ble_eq_true rfl⟩, hts _ wj_25⟩ hps2 rfl rfl hl2.1 rfl (Nat.le_of_ble_eq_true rfl) dj_li_33 ⟨Nat.le_of_ble_eq_true rfl, Nat.le_of_ble_eq_true rfl⟩
    refine va_calli hrun2 hS1 (fun _ _ h => h) (fun _ h => h) (fun r u t H2 locs2 ht2 hvm2 hw2 hB2 hz2 hk2 hS2 => ?_)
    exact W.iret (v := r) hx hb hr (fun t ht hW => ⟨⟨r, (), rfl, hw2, trivial⟩, hS2.F ht⟩) hS2.2.2 dj_li_36 hlocks
  · have hxx : x < 0 ∨ 255 < x := by
      apply Classical.byContradiction
      intro h
      rw [if_neg h] at hcc
      rw [← hcc] at z
      exact absurd z (by decide)
    rw [if_pos hxx] at hv
    refine lv_iconst (v := -1) hx hb dj_li_7 (by decide) ?_
    exact W.iret (v := -1) hx hb hr (fun t ht hW => ⟨⟨_, (), rfl, hv, trivial⟩, hS1.F ht⟩) hS1.2.2 dj_li_8 hlocks

theorem LENS_b : ∀ i : Nat, i < 2 → 0 < LENS.getD i 0 ∧ LENS.getD i 0 < 1000 := by decide
theorem jt_ix2 (l : Launch) (ad : Int → Nat) (A : Nat → Prop) (m : Mm) (i : Nat) (hi : i < 2) (x v : Int32) (hv : (if x < 0 ∨ 255 < x then -1 else ixr (fun j => (BYTS.getD i []).getD j 0) x.toInt8.toInt32 (LENS.getD i 0) 0) = v) : Met l (yJ "indexOf" "(II)I") (Cond.code (yJ "indexOf" "(II)I") prog_16_method_80_code 3 (some .int) :: WT) (rmJ 3) (PJ ad A m [.ref (ad (502 + (i : Int))), .int x, .int 0]) (QJ v) 0 0 (fun _ => False) := by
  refine Met.ofW (cc := prog_16_method_80_code) (maxL := 3) (ret := some .int) (by decide +kernel) rfl ?_
  intro p e s mm args below meth c s₁ B hml hv9
  obtain ⟨rfl, hSc⟩ := hv9
  have hts0 := atoms_spec (ws := Cond.code (yJ "indexOf" "(II)I") prog_16_method_80_code 3 (some .int) :: WT) B.pre
  have hts : ∀ w ∈ WT, w.before #[.ref (ad (502 + (i : Int))), .int x, .int 0] s = true := fun w hw => hts0 w (List.mem_cons_of_mem _ hw)
  have hown : s.vm.findClass "java/lang/String" = some mm.cls := findClass_of_methodNamed B.named
  have hx := B.exec
  have hb := B.bytes
  have hr := B.returns
  have hlocks := B.notSynchronized
  have hl := lv_entry ([.ref (ad (502 + (i : Int))), .int x, .int 0]) (n := 3) (Nat.le_of_ble_eq_true rfl)
  rw [lg_entry_eq]
  generalize (lg_sl ([.ref (ad (502 + (i : Int))), .int x, .int 0]) ++ List.replicate (3 - (lg_sl ([.ref (ad (502 + (i : Int))), .int x, .int 0])).length) Slot.unset).toArray = ls at hl ⊢
  have hl : lv_has ls 3 [(0, .ref (ad (502 + (i : Int)))), (1, .int x), (2, .int 0)] := hl
  have hS : va_S A s.heap s.heap [] := va_S.rf
  have hSF : va_S (fun _ => False) s.heap s.heap [] := va_S.rf
  show W p l e (rmJ 3) s mm #[.ref (ad (502 + (i : Int))), .int x, .int 0] below meth c s.heap [] 0 0 _ _
  have hSc0 : Sc NWL ad A s s.heap m := hSc
  obtain ⟨-, -, -, ⟨adV, hE⟩, -, -, hCS, -, -⟩ := hSc
  refine lv_aload_n hx hb dj_i2_0 rfl (lv_at hl 0 rfl) ?_
  have hps : PreV s s.heap "java/lang/String" (ad (502 + (i : Int))) (PJ ad A m [.ref (ad (502 + (i : Int)))]) [] := ⟨fun a U g mk q0 => ⟨q0.1, Sc_same (u := U) (U := U.calling g mk a) rfl q0.2⟩, vk_recv hE hi hS, fun U hU hW => ⟨rfl, by show Sc NWL ad A U U.heap m; rw [hU]; exact Sc_warm hW hSc0⟩⟩
  have hrun : va_Run p l e (rmJ 3) s mm #[.ref (ad (502 + (i : Int))), .int x, .int 0] below meth c s.heap [] 0 0 0 0 (F0 mm 1 ls (Value.ref (ad (502 + (i : Int))) :: [])) [] (QJ 1 (Value.ref (ad (502 + (i : Int))) :: ([] : List Value)).toArray) (fun _ => False) :=
    va_runV (C := "java/lang/String") (As := []) ⟨hx, hb, hml, hown, hts⟩ (jt_latin l ad A m i hi) ⟨callB_of 0 hts (goodWT wj_19) rfl rfl rfl (hts _ wj_7) (hts _ wj_16) ⟨by decide, by decide, by decide +kernel⟩ ⟨Nat.le_of_ble_eq_true rfl, Nat.le_of_ble_eq_true rfl⟩, hts _ wj_17, hts _ wj_18⟩ hps rfl rfl hl.1 rfl (Nat.le_of_ble_eq_true rfl) dj_i2_1 ⟨Nat.le_of_ble_eq_true rfl, Nat.le_of_ble_eq_true rfl⟩
  refine va_calli hrun hSF (fun _ _ h => h) (fun _ h => h) (fun r u t H1 locs1 ht hvm hw hB hz1 hk1 hS1 => ?_)
  obtain rfl : r = 1 := hw
  have hSA : va_S A s.heap H1 locs1 := ⟨hS1.1, fun q h _ => hS1.2.1 q h (fun z => z), fun l h => (hS1.2.2 l h).elim⟩
  refine lv_if_eq (tgt := 23) hx hb dj_i2_4 (by omega) (fun z => absurd z (by decide)) (fun _ => ?_)
  refine lv_aload_n hx hb dj_i2_7 rfl (lv_at hl 0 rfl) ?_
  refine vk_getf hx hb (hE.1 i hi).2.2.1 hSA hown (hts _ wj_2) (fun _ h => h) dj_i2_8 ?_
  refine lv_iload_n hx hb dj_i2_11 rfl (lv_at hl 1 rfl) ?_
  refine lv_iload_n hx hb dj_i2_12 rfl (lv_at hl 2 rfl) ?_
  refine lv_aload_n hx hb dj_i2_13 rfl (lv_at hl 0 rfl) ?_
  have hSc1 : Sc NWL ad A s H1 m := Sc_kept hSc0 hSA.1 hSA.2.1
  have hps3 : PreV s H1 "java/lang/String" (ad (502 + (i : Int))) (PJ ad A m [.ref (ad (502 + (i : Int)))]) [] := ⟨fun a U g mk q0 => ⟨q0.1, Sc_same (u := U) (U := U.calling g mk a) rfl q0.2⟩, vk_recv hE hi hSA, fun U hU hW => ⟨rfl, by show Sc NWL ad A U U.heap m; rw [hU]; exact Sc_warm hW hSc1⟩⟩
  have hrun3 : va_Run p l e (rmJ 3) s mm #[.ref (ad (502 + (i : Int))), .int x, .int 0] below meth c H1 locs1 0 0 0 0 (F0 mm 14 ls (Value.ref (ad (502 + (i : Int))) :: .int 0 :: .int x :: .ref (adV i) :: [])) [.int 0, .int x, .ref (adV i)] (QJ (Int32.ofNat (LENS.getD i 0)) (Value.ref (ad (502 + (i : Int))) :: ([] : List Value)).toArray) (fun _ => False) :=
    va_runV (C := "java/lang/String") (As := []) ⟨hx, hb, hml, hown, hts⟩ (jt_length l ad A m i hi) ⟨callB_of 0 hts (goodWT wj_43) rfl rfl rfl (hts _ wj_7) (hts _ wj_39) ⟨by decide, by decide, by decide +kernel⟩ ⟨Nat.le_of_ble_eq_true rfl, Nat.le_of_ble_eq_true rfl⟩, hts _ wj_41, hts _ wj_42⟩ hps3 rfl rfl hl.1 rfl (Nat.le_of_ble_eq_true rfl) dj_i2_14 ⟨Nat.le_of_ble_eq_true rfl, Nat.le_of_ble_eq_true rfl⟩
  refine va_calli hrun3 hS1 (fun _ _ h => h) (fun _ h => h) (fun r u t H3 locs3 ht3 hvm3 hw3 hB3 hz3 hk3 hS3 => ?_)
  obtain rfl : r = Int32.ofNat (LENS.getD i 0) := hw3
  have hSA3 : va_S A s.heap H3 locs3 := ⟨hS3.1, fun q h _ => hS3.2.1 q h (fun z => z), fun l h => (hS3.2.2 l h).elim⟩
  have hSc3 : Sc NWL ad A s H3 m := Sc_kept hSc0 hSA3.1 hSA3.2.1
  have hT3 := (hE.1 i hi).2.2.2.kept hSA3.2.1
  have hps2 : PreS s H3 (PL ad A m (adV i) (LENS.getD i 0) (fun j => (BYTS.getD i []).getD j 0) [.ref (adV i), .int x, .int 0, .int (Int32.ofNat (LENS.getD i 0))]) [.ref (adV i), .int x, .int 0, .int (Int32.ofNat (LENS.getD i 0))] := ⟨fun a U g mk q0 => ⟨q0.1, Sc_same (u := U) (U := U.calling g mk a) rfl q0.2.1, va_T.moved (Vm.Alike.refl _) q0.2.2⟩, fun U hU hW => ⟨rfl, by rw [hU]; exact Sc_warm hW hSc3, by rw [hU]; exact va_T.moved hW.alike hT3⟩⟩
  have hrun2 : va_Run p l e (rmJ 3) s mm #[.ref (ad (502 + (i : Int))), .int x, .int 0] below meth c H3 locs3 0 0 0 0 (F0 mm 17 ls (Value.int (Int32.ofNat (LENS.getD i 0)) :: .int 0 :: .int x :: .ref (adV i) :: [])) [] (QJ v [Value.ref (adV i), .int x, .int 0, .int (Int32.ofNat (LENS.getD i 0))].toArray) (fun _ => False) :=
    va_runS (As := [.ref (adV i), .int x, .int 0, .int (Int32.ofNat (LENS.getD i 0))]) ⟨hx, hb, hml, hown, hts⟩ (jt_lix l ad A m (adV i) (LENS.getD i 0) (fun j => (BYTS.getD i []).getD j 0) x v (LENS_b i hi).1 (LENS_b i hi).2 hv) ⟨callB_of 4 hts (goodWT wj_34) rfl rfl rfl (hts _ wj_23) (hts _ wj_32) ⟨by decide, by decide, by decide +kernel⟩ ⟨Nat.le_of_ble_eq_true rfl, Nat.le_of_ble_eq_true rfl⟩, hts _ wj_33⟩ hps2 rfl rfl hl.1 rfl (Nat.le_of_ble_eq_true rfl) dj_i2_17 ⟨Nat.le_of_ble_eq_true rfl, Nat.le_of_ble_eq_true rfl⟩
  refine va_calli hrun2 hS3 (fun _ _ h => h) (fun _ h => h) (fun r u t H2 locs2 ht2 hvm2 hw2 hB2 hz2 hk2 hS2 => ?_)
  refine lv_goto (tgt := 36) hx hb dj_i2_20 (by omega) ?_
  exact W.iret (v := r) hx hb hr (fun t ht hW => ⟨⟨r, (), rfl, hw2, trivial⟩, hS2.F ht⟩) hS2.2.2 dj_i2_36 hlocks

theorem jt_ix1 (l : Launch) (ad : Int → Nat) (A : Nat → Prop) (m : Mm) (i : Nat) (hi : i < 2) (x v : Int32) (hv : (if x < 0 ∨ 255 < x then -1 else ixr (fun j => (BYTS.getD i []).getD j 0) x.toInt8.toInt32 (LENS.getD i 0) 0) = v) : Met l (yJ "indexOf" "(I)I") (Cond.code (yJ "indexOf" "(I)I") prog_16_method_79_code 2 (some .int) :: WT) (rmJ 4) (PJ ad A m [.ref (ad (502 + (i : Int))), .int x]) (QJ v) 0 0 (fun _ => False) := by
  refine Met.ofW (cc := prog_16_method_79_code) (maxL := 2) (ret := some .int) (by decide +kernel) rfl ?_
  intro p e s mm args below meth c s₁ B hml hv9
  obtain ⟨rfl, hSc⟩ := hv9
  have hts0 := atoms_spec (ws := Cond.code (yJ "indexOf" "(I)I") prog_16_method_79_code 2 (some .int) :: WT) B.pre
  have hts : ∀ w ∈ WT, w.before #[.ref (ad (502 + (i : Int))), .int x] s = true := fun w hw => hts0 w (List.mem_cons_of_mem _ hw)
  have hown : s.vm.findClass "java/lang/String" = some mm.cls := findClass_of_methodNamed B.named
  have hx := B.exec
  have hb := B.bytes
  have hr := B.returns
  have hlocks := B.notSynchronized
  have hl := lv_entry ([.ref (ad (502 + (i : Int))), .int x]) (n := 2) (Nat.le_of_ble_eq_true rfl)
  rw [lg_entry_eq]
  generalize (lg_sl ([.ref (ad (502 + (i : Int))), .int x]) ++ List.replicate (2 - (lg_sl ([.ref (ad (502 + (i : Int))), .int x])).length) Slot.unset).toArray = ls at hl ⊢
  have hl : lv_has ls 2 [(0, .ref (ad (502 + (i : Int)))), (1, .int x)] := hl
  have hS : va_S A s.heap s.heap [] := va_S.rf
  have hSF : va_S (fun _ => False) s.heap s.heap [] := va_S.rf
  show W p l e (rmJ 4) s mm #[.ref (ad (502 + (i : Int))), .int x] below meth c s.heap [] 0 0 _ _
  have hSc0 : Sc NWL ad A s s.heap m := hSc
  obtain ⟨-, -, -, ⟨adV, hE⟩, -, -, hCS, -, -⟩ := hSc
  refine lv_aload_n hx hb dj_i1_0 rfl (lv_at hl 0 rfl) ?_
  refine lv_iload_n hx hb dj_i1_1 rfl (lv_at hl 1 rfl) ?_
  refine lv_iconst (v := 0) hx hb dj_i1_2 (by decide) ?_
  have hps : PreV s s.heap "java/lang/String" (ad (502 + (i : Int))) (PJ ad A m [.ref (ad (502 + (i : Int))), .int x, .int 0]) [.int x, .int 0] := ⟨fun a U g mk q0 => ⟨q0.1, Sc_same (u := U) (U := U.calling g mk a) rfl q0.2⟩, vk_recv hE hi hS, fun U hU hW => ⟨rfl, by show Sc NWL ad A U U.heap m; rw [hU]; exact Sc_warm hW hSc0⟩⟩
  have hrun : va_Run p l e (rmJ 4) s mm #[.ref (ad (502 + (i : Int))), .int x] below meth c s.heap [] 0 0 0 0 (F0 mm 3 ls (Value.int 0 :: .int x :: .ref (ad (502 + (i : Int))) :: [])) [] (QJ v (Value.ref (ad (502 + (i : Int))) :: ([.int x, .int 0] : List Value)).toArray) (fun _ => False) :=
    va_runV (C := "java/lang/String") (As := [.int x, .int 0]) ⟨hx, hb, hml, hown, hts⟩ (jt_ix2 l ad A m i hi x v hv) ⟨callB_of 2 hts (goodWT wj_38) rfl rfl rfl (hts _ wj_7) (hts _ wj_35) ⟨by decide, by decide, by decide +kernel⟩ ⟨Nat.le_of_ble_eq_true rfl, Nat.le_of_ble_eq_true rfl⟩, hts _ wj_36, hts _ wj_37⟩ hps rfl rfl hl.1 rfl (Nat.le_of_ble_eq_true rfl) dj_i1_3 ⟨Nat.le_of_ble_eq_true rfl, Nat.le_of_ble_eq_true rfl⟩
  refine va_calli hrun hSF (fun _ _ h => h) (fun _ h => h) (fun r u t H2 locs2 ht2 hvm2 hw2 hB2 hz2 hk2 hS2 => ?_)
  exact W.iret (v := r) hx hb hr (fun t ht hW => ⟨⟨r, (), rfl, hw2, trivial⟩, hS2.F ht⟩) hS2.2.2 dj_i1_6 hlocks

