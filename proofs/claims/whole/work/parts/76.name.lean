/-! THE CLASS'S READER: may the name stand here -/
theorem isNameHere_c {d L q s : Nat} {B : Int → Int} {lw o so : Int} {m : Mm} (h : CSt B L lw m q s o) (hlw : lw = 16 + so) (hs : so = 0 ∨ so = 1) (hn : 24 ≤ tkT B L q ∧ tkT B L q ≤ 30) : (nmok so (tkT B L q - 24) → Cl (d + 1) k_Rd_isNameHere [(15, 80)] m (some (0, 1), m)) ∧ (¬ nmok so (tkT B L q - 24) → ∃ m', Cl (d + 1) k_Rd_isNameHere [(15, 80)] m (some (0, 0), m') ∧ flt_ m' 5 q ∧ FCf s m m') := by
  have e6 : m 80 6 = tkT B L q := h.1.2.2.2.1
  have e10 : m 80 10 = lw := h.2.2.2
  unfold nmok
  refine ⟨fun hk => cl_Rd_isNameHere (b_Rd_isNameHere ⟨fun z => ⟨fun _ => rfl, fun z2 => ?_⟩, fun z => ⟨fun z2 => ?_, fun z2 => ⟨fun _ => rfl, fun z3 => ?_⟩⟩⟩), fun hk => ?_⟩
  · omega
  · omega
  · omega
  · obtain ⟨m', c1, c2, c3⟩ := refuse_c (d := d) (f := 5) h
    have e12 : Ev (d + 1) K_Rd_isNameHere 2 12 [(15, 80), (9, 0)] [] m (some (0, 0), m') := b_Rd_isNameHere_12 ⟨_, _, c1, fun _ => rfl, fun z => absurd rfl z⟩
    refine ⟨m', cl_Rd_isNameHere (b_Rd_isNameHere ⟨fun z => ⟨fun z2 => ?_, fun z2 => ⟨_, _, c1, fun _ => rfl, fun z => absurd rfl z⟩⟩, fun z => ⟨fun z2 => e12, fun z2 => ⟨fun z3 => ?_, fun z3 => e12⟩⟩⟩), c2, c3⟩
    · omega
    · omega
