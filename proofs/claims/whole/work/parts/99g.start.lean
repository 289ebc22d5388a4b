/-! START: what holds at the law's entry -/
theorem AO_3 : Cond.arrayOver (.object RX3) ∈ lw_tbl := mem_places (ws := [Cond.arrayOver (.object RX3)]) [192] (by decide +kernel) _ (List.mem_singleton.mpr rfl)
theorem AO_7 : Cond.arrayOver (.object RX7) ∈ lw_tbl := mem_places (ws := [Cond.arrayOver (.object RX7)]) [248] (by decide +kernel) _ (List.mem_singleton.mpr rfl)
theorem NWC_in : ∀ w ∈ NWC, w ∈ lw_tbl := mem_places [147, 238, 250, 307, 312, 357, 373, 388] (by decide +kernel)
def INSL : List Cond := [.instantiable RX0 11, .instantiable RX1 1, .instantiable RX2 3, .instantiable RX3 9, .instantiable RX4 3, .instantiable RX6 12, .instantiable RX7 12, .instantiable RX8 9, .instantiable RX9 34]
theorem INS_in : ∀ w ∈ INSL, w ∈ lw_tbl := mem_places [140, 237, 356, 146, 372, 306, 249, 132, 1268] (by decide +kernel)
theorem INS_c : ∀ c, c < 9 → Cond.instantiable (CR c) (CN c) ∈ INSL := lt9 (by simp [INSL, CR, CN]) (by simp [INSL, CR, CN]) (by simp [INSL, CR, CN]) (by simp [INSL, CR, CN]) (by simp [INSL, CR, CN]) (by simp [INSL, CR, CN]) (by simp [INSL, CR, CN]) (by simp [INSL, CR, CN]) (by simp [INSL, CR, CN])
theorem KC_start {s : State} {args : Array Value} (hts : ∀ w ∈ lw_tbl, w.before args s = true) : ∃ (D : va_G) (G : Nat → ClassId), KC D G s := by
  have c0 : ∀ ci : Nat, ∃ z : ClassId × (Nat → Nat), ci < 9 → u_Kn s (CR ci) (CT ci) (CN ci) z.1 z.2 := by
    intro ci
    by_cases hc : ci < 9
    · obtain ⟨cC, iS, h⟩ := u_known (n := CN ci) hts (cl_in ci hc) (hts _ (INS_in _ (INS_c ci hc)))
      exact ⟨(cC, iS), fun _ => h⟩
    · exact ⟨(default, fun _ => 0), fun h => absurd h hc⟩
  obtain ⟨dd, hd⟩ := Classical.axiomOfChoice c0
  have tA : ∀ ty : FieldType, Cond.arrayClass ty ∈ lw_tbl → (ty = .int ∨ ty = .long ∨ ty = .boolean) → ∃ cA, ArrOfT s cA ty ∧ va_RA s cA ty := by
    intro ty hw h3
    obtain ⟨cA, kA, comp, h1, h2, h4⟩ := Cond.arrayClass_spec (hts _ hw)
    refine ⟨cA, fun n z => ⟨fun k h => (by cases h), kA, h2, comp, h4⟩, ?_⟩
    rcases h3 with rfl | rfl | rfl <;> exact h1
  have tO : ∀ C : String, (Cond.arrayOver (.object C)).before args s = true → ∃ cA, ArrOfT s cA (.object C) ∧ va_RA s cA (.object C) := by
    intro C h
    obtain ⟨comp, cA, kA, f1, f2, f3, f4, f5⟩ := Cond.arrayOver_spec h
    exact ⟨cA, fun N z => ⟨(fun k h => by cases h), kA, f3, comp, f4⟩, kA, comp, f3, f4, f1, f5⟩
  obtain ⟨g0, i0⟩ := tA .int (List.mem_filter.mp ac_0).1 (Or.inl rfl)
  obtain ⟨g1, i1⟩ := tA .long (List.mem_filter.mp ac_1).1 (Or.inr (Or.inl rfl))
  obtain ⟨g2, i2⟩ := tA .boolean (List.mem_filter.mp ac_2).1 (Or.inr (Or.inr rfl))
  obtain ⟨g3, i3⟩ := tO RX3 (hts _ AO_3)
  obtain ⟨g4, i4⟩ := tO RX7 (hts _ AO_7)
  refine ⟨(fun c => (dd c).1, fun c => (dd c).2), fun t => if t = 0 then g0 else if t = 1 then g1 else if t = 2 then g2 else if t = 3 then g3 else g4, ⟨fun c q hq => ?_, fun k q hk => ?_⟩, va_AO.of (hts _ AO_3), va_AO.of (hts _ AO_7), fun w hw => va_Nw.of (NWC_tab w hw) (hts _ (NWC_in w hw))⟩
  · have hc : c < 9 := (List.getElem?_eq_some_iff.mp hq).1
    rw [cl_at c hc] at hq
    cases hq
    exact hd c hc
  · have hq := List.mem_of_getElem? hk
    simp only [TYS, List.mem_cons, List.not_mem_nil, or_false] at hq
    rcases hq with rfl | rfl | rfl | rfl | rfl
    · exact i0
    · exact i1
    · exact i2
    · exact i3
    · exact i4
