/-! STRINGS: the JDK's own methods, at the two constant texts -/
def yJ (n d : String) : MethodName := ⟨"java/lang/String", n, d⟩
def rmJ (k : Nat) : Room := { frames := k, cells := 0, slots := 0, locals := 40 * k }
def PJ (ad : Int → Nat) (A : Nat → Prop) (m : Mm) (av : List Value) : Array Value → State → Prop := va_Pc av (fun U => Sc NWL ad A U U.heap m)
def QJ (v : Int32) : Array Value → State → Outcome → State → Prop := va_Qi (S := Unit) (fun r _ => r = v) (fun _ _ => True) (fun _ => False)
theorem wj_0 : Cond.fieldLink "java/lang/String" 38 "java/lang/String" "COMPACT_STRINGS" "Z" ∈ WT := WT_in (mem_places (ws := [Cond.fieldLink "java/lang/String" 38 "java/lang/String" "COMPACT_STRINGS" "Z"]) [511] (by decide +kernel) _ (List.mem_singleton.mpr rfl)) rfl
theorem wj_1 : Cond.fieldLink "java/lang/String" 15 "java/lang/String" "coder" "B" ∈ WT := WT_in (mem_places (ws := [Cond.fieldLink "java/lang/String" 15 "java/lang/String" "coder" "B"]) [1974] (by decide +kernel) _ (List.mem_singleton.mpr rfl)) rfl
theorem wj_2 : Cond.fieldLink "java/lang/String" 9 "java/lang/String" "value" "[B" ∈ WT := WT_in (mem_places (ws := [Cond.fieldLink "java/lang/String" 9 "java/lang/String" "value" "[B"]) [1973] (by decide +kernel) _ (List.mem_singleton.mpr rfl)) rfl
theorem dj_co_0 : decode prog_16_method_152_code 0 = .ok (.getstatic 38, 3) := by decide +kernel
theorem dj_co_3 : decode prog_16_method_152_code 3 = .ok (.ifCond .eq 10, 3) := by decide +kernel
theorem dj_co_6 : decode prog_16_method_152_code 6 = .ok (.aload_n 0, 1) := by decide +kernel
theorem dj_co_7 : decode prog_16_method_152_code 7 = .ok (.getfield 15, 3) := by decide +kernel
theorem dj_co_10 : decode prog_16_method_152_code 10 = .ok (.goto 4, 3) := by decide +kernel
theorem dj_co_14 : decode prog_16_method_152_code 14 = .ok (.ireturn, 1) := by decide +kernel
theorem dj_la_0 : decode prog_16_method_154_code 0 = .ok (.getstatic 38, 3) := by decide +kernel
theorem dj_la_3 : decode prog_16_method_154_code 3 = .ok (.ifCond .eq 14, 3) := by decide +kernel
theorem dj_la_6 : decode prog_16_method_154_code 6 = .ok (.aload_n 0, 1) := by decide +kernel
theorem dj_la_7 : decode prog_16_method_154_code 7 = .ok (.getfield 15, 3) := by decide +kernel
theorem dj_la_10 : decode prog_16_method_154_code 10 = .ok (.ifCond .ne 7, 3) := by decide +kernel
theorem dj_la_13 : decode prog_16_method_154_code 13 = .ok (.iconst 1, 1) := by decide +kernel
theorem dj_la_14 : decode prog_16_method_154_code 14 = .ok (.goto 4, 3) := by decide +kernel
theorem dj_la_18 : decode prog_16_method_154_code 18 = .ok (.ireturn, 1) := by decide +kernel
theorem jt_coder (l : Launch) (ad : Int → Nat) (A : Nat → Prop) (m : Mm) (i : Nat) (hi : i < 2) : Met l (yJ "coder" "()B") (Cond.code (yJ "coder" "()B") prog_16_method_152_code 1 (some .byte) :: WT) (rmJ 1) (PJ ad A m [.ref (ad (502 + (i : Int)))]) (QJ 0) 0 0 (fun _ => False) := by
  refine Met.ofW (cc := prog_16_method_152_code) (maxL := 1) (ret := some .byte) (by decide +kernel) rfl ?_
  intro p e s mm args below meth c s₁ B hml hv
  obtain ⟨rfl, hSc⟩ := hv
  have hts0 := atoms_spec (ws := Cond.code (yJ "coder" "()B") prog_16_method_152_code 1 (some .byte) :: WT) B.pre
  have hts : ∀ w ∈ WT, w.before #[.ref (ad (502 + (i : Int)))] s = true := fun w hw => hts0 w (List.mem_cons_of_mem _ hw)
  have hown : s.vm.findClass "java/lang/String" = some mm.cls := findClass_of_methodNamed B.named
  have hx := B.exec
  have hb := B.bytes
  have hr := B.returns
  have hlocks := B.notSynchronized
  have hSc0 := hSc
  obtain ⟨-, -, -, ⟨adV, hE⟩, -, -, hCS, -, -⟩ := hSc
  have hl := lv_entry ([.ref (ad (502 + (i : Int)))]) (n := 1) (Nat.le_of_ble_eq_true rfl)
  rw [lg_entry_eq]
  generalize (lg_sl ([.ref (ad (502 + (i : Int)))]) ++ List.replicate (1 - (lg_sl ([.ref (ad (502 + (i : Int)))])).length) Slot.unset).toArray = ls at hl ⊢
  have hl : lv_has ls 1 [(0, .ref (ad (502 + (i : Int))))] := hl
  have hS : va_S A s.heap s.heap [] := va_S.rf
  have hSF : va_S (fun _ => False) s.heap s.heap [] := va_S.rf
  show W p l e (rmJ 1) s mm #[.ref (ad (502 + (i : Int)))] below meth c s.heap [] 0 0 _ _
  refine va_gets hx hb hCS hS hown (hts _ wj_0) (fun _ h => h) dj_co_0 ?_
  refine lv_if_eq (tgt := 13) hx hb dj_co_3 (by omega) (fun z => absurd z (by decide)) (fun _ => ?_)
  refine lv_aload_n hx hb dj_co_6 rfl (lv_at hl 0 rfl) ?_
  refine vk_getf hx hb (hE.1 i hi).2.1 hS hown (hts _ wj_1) (fun _ h => h) dj_co_7 ?_
  refine lv_goto (tgt := 14) hx hb dj_co_10 (by omega) ?_
  exact W.zret (v := 0) hx hb hr rfl (fun t ht hW => ⟨⟨0, (), rfl, rfl, trivial⟩, hSF.F ht⟩) (fun _ h => by simp at h) dj_co_14 hlocks
theorem jt_latin (l : Launch) (ad : Int → Nat) (A : Nat → Prop) (m : Mm) (i : Nat) (hi : i < 2) : Met l (yJ "isLatin1" "()Z") (Cond.code (yJ "isLatin1" "()Z") prog_16_method_154_code 1 (some .boolean) :: WT) (rmJ 1) (PJ ad A m [.ref (ad (502 + (i : Int)))]) (QJ 1) 0 0 (fun _ => False) := by
  refine Met.ofW (cc := prog_16_method_154_code) (maxL := 1) (ret := some .boolean) (by decide +kernel) rfl ?_
  intro p e s mm args below meth c s₁ B hml hv
  obtain ⟨rfl, hSc⟩ := hv
  have hts0 := atoms_spec (ws := Cond.code (yJ "isLatin1" "()Z") prog_16_method_154_code 1 (some .boolean) :: WT) B.pre
  have hts : ∀ w ∈ WT, w.before #[.ref (ad (502 + (i : Int)))] s = true := fun w hw => hts0 w (List.mem_cons_of_mem _ hw)
  have hown : s.vm.findClass "java/lang/String" = some mm.cls := findClass_of_methodNamed B.named
  have hx := B.exec
  have hb := B.bytes
  have hr := B.returns
  have hlocks := B.notSynchronized
  have hSc0 := hSc
  obtain ⟨-, -, -, ⟨adV, hE⟩, -, -, hCS, -, -⟩ := hSc
  have hl := lv_entry ([.ref (ad (502 + (i : Int)))]) (n := 1) (Nat.le_of_ble_eq_true rfl)
  rw [lg_entry_eq]
  generalize (lg_sl ([.ref (ad (502 + (i : Int)))]) ++ List.replicate (1 - (lg_sl ([.ref (ad (502 + (i : Int)))])).length) Slot.unset).toArray = ls at hl ⊢
  have hl : lv_has ls 1 [(0, .ref (ad (502 + (i : Int))))] := hl
  have hS : va_S A s.heap s.heap [] := va_S.rf
  have hSF : va_S (fun _ => False) s.heap s.heap [] := va_S.rf
  show W p l e (rmJ 1) s mm #[.ref (ad (502 + (i : Int)))] below meth c s.heap [] 0 0 _ _
  refine va_gets hx hb hCS hS hown (hts _ wj_0) (fun _ h => h) dj_la_0 ?_
  refine lv_if_eq (tgt := 17) hx hb dj_la_3 (by omega) (fun z => absurd z (by decide)) (fun _ => ?_)
  refine lv_aload_n hx hb dj_la_6 rfl (lv_at hl 0 rfl) ?_
  refine vk_getf hx hb (hE.1 i hi).2.1 hS hown (hts _ wj_1) (fun _ h => h) dj_la_7 ?_
  refine lv_if_ne (tgt := 17) hx hb dj_la_10 (by omega) (fun z => absurd rfl z) (fun _ => ?_)
  refine lv_iconst (v := 1) hx hb dj_la_13 (by decide) ?_
  refine lv_goto (tgt := 18) hx hb dj_la_14 (by omega) ?_
  exact W.zret (v := 1) hx hb hr rfl (fun t ht hW => ⟨⟨1, (), rfl, rfl, trivial⟩, hSF.F ht⟩) (fun _ h => by simp at h) dj_la_18 hlocks
