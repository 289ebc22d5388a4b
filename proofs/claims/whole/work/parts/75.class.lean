/-! THE CLASS'S READER: its small acts -/
def CSt (B : Int → Int) (L : Nat) (lw : Int) (m : Mm) (q s : Nat) (o : Int) : Prop := CTk B L m q ∧ m 82 5 = (s : Nat) ∧ m 80 11 = o ∧ m 80 10 = lw
/-- what reading a sum leaves as it was -/
def FCk (k : Int) (s : Nat) (m m' : Mm) : Prop := ∀ a b, ¬ (a = 80 ∧ k ≤ b) → ¬ (a = 82 ∧ b = 5) → ¬ (a = 86 ∧ (s : Int) ≤ b) → m' a b = m a b
abbrev FCl (s : Nat) (m m' : Mm) : Prop := FCk 6 s m m'
abbrev FCf (s : Nat) (m m' : Mm) : Prop := FCk 4 s m m'
theorem FCk.tr {k k2 : Int} {s s2 : Nat} {m m1 m2 : Mm} (h1 : FCk k s m m1) (h2 : FCk k2 s2 m1 m2) (hs : s ≤ s2) (hk : k2 ≤ k := by decide) : FCk k2 s m m2 := fun a b x y z => by rw [h2 a b x y (by omega), h1 a b (by omega) y z]
/-- a fault: which, where -/
def flt_ (m : Mm) (f : Int) (k : Nat) : Prop := m 80 4 = f ∧ m 80 5 = (k : Nat)
theorem refuse_c {d L q s : Nat} {B : Int → Int} {lw o f : Int} {m : Mm} (h : CSt B L lw m q s o) : ∃ m', Cl d k_Rd_refuse [(15, 80), (0, f)] m (some (0, 0), m') ∧ flt_ m' f q ∧ FCf s m m' := by
  refine ⟨_, c_Rd_refuse, ⟨by rw [up_nk (by omega), up_eq], by rw [up_eq]; exact h.1.2.2.2.2.1⟩, fun a b x y z => ?_⟩
  unfold up
  rw [if_neg (by omega), if_neg (by omega)]
theorem take_c {d L q s : Nat} {B : Int → Int} {lw o x : Int} {m : Mm} (hT : TPE B L) (h : CSt B L lw m q s o) : (tkT B L q = x → ∃ m', Cl (d + 3) k_Rd_take [(15, 80), (0, x)] m (some (0, 1), m') ∧ CSt B L lw m' (nxQ B L q) s o ∧ (∀ a b, ¬ (a = 80 ∧ 6 ≤ b ∧ b ≤ 9) → m' a b = m a b)) ∧ (tkT B L q ≠ x → ∃ m', Cl (d + 3) k_Rd_take [(15, 80), (0, x)] m (some (0, 0), m') ∧ flt_ m' 1 q ∧ FCf s m m') := by
  have e : m 80 6 = tkT B L q := h.1.2.2.2.1
  refine ⟨fun hx => ?_, fun hx => ?_⟩
  · obtain ⟨m', c1, c2, c3⟩ := adv_c (d := d) hT h.1
    exact ⟨m', cl_Rd_take (b_Rd_take ⟨fun _ => ⟨_, c1, rfl⟩, fun z => absurd (by rw [e]; exact hx) z⟩), ⟨c2, by rw [c3 _ _ (by omega)]; exact h.2.1, by rw [c3 _ _ (by omega)]; exact h.2.2.1, by rw [c3 _ _ (by omega)]; exact h.2.2.2⟩, c3⟩
  · obtain ⟨m', c1, c2, c3⟩ := refuse_c (d := d + 2) (f := 1) h
    exact ⟨m', cl_Rd_take (b_Rd_take ⟨fun z => absurd (by rw [← e]; exact z) hx, fun _ => ⟨_, _, c1, Or.inl rfl, rfl⟩⟩), c2, c3⟩
theorem emit_c {d L q s : Nat} {B : Int → Int} {lw o x y : Int} {m : Mm} (h : CSt B L lw m q s o) (hs : s < 300) (hx : 0 ≤ x ∧ x < 64) (hy : 0 ≤ y ∧ y ≤ 9999) : ∃ m', Cl d k_Tx_emit [(16, 82), (0, x), (0, y)] m (some (0, 1), m') ∧ CSt B L lw m' q (s + 1) o ∧ m' 86 (s : Nat) = x + y * 64 ∧ FCl s m m' := by
  refine ⟨_, c_Tx_emit h.2.1 hs hx hy, ⟨CTk_con h.1 (fun b _ => by rw [up_ne (by omega), up_ne (by omega)]) (fun b => by rw [up_ne (by omega), up_ne (by omega)]), up_eq, by rw [up_ne (by omega), up_ne (by omega)]; exact h.2.2.1, by rw [up_ne (by omega), up_ne (by omega)]; exact h.2.2.2⟩, by rw [up_ne (by omega), up_eq], fun a b z1 z2 z3 => ?_⟩
  unfold up
  rw [if_neg (by omega), if_neg (by omega)]
theorem emitAdv_c {d L q s : Nat} {B : Int → Int} {lw o x y : Int} {m : Mm} (hT : TPE B L) (h : CSt B L lw m q s o) (hs : s < 300) (hx : 0 ≤ x ∧ x < 64) (hy : 0 ≤ y ∧ y ≤ 9999) : ∃ m', Cl (d + 3) k_Rd_emitAndAdvance [(15, 80), (0, x), (0, y)] m (some (0, 1), m') ∧ CSt B L lw m' (nxQ B L q) (s + 1) o ∧ m' 86 (s : Nat) = x + y * 64 ∧ FCl s m m' := by
  obtain ⟨m1, a1, a2, a3, a4⟩ := emit_c (d := d + 2) h hs hx hy
  obtain ⟨m', c1, c2, c3⟩ := adv_c (d := d) hT a2.1
  refine ⟨m', cl_Rd_emitAndAdvance (b_Rd_emitAndAdvance ⟨_, _, a1, _, c1, rfl⟩), ⟨c2, by rw [c3 _ _ (by omega)]; exact a2.2.1, by rw [c3 _ _ (by omega)]; exact a2.2.2.1, by rw [c3 _ _ (by omega)]; exact a2.2.2.2⟩, by rw [c3 _ _ (by omega)]; exact a3, fun a b z1 z2 z3 => by rw [c3 a b (by omega), a4 a b z1 z2 z3]⟩
theorem isNumber_c {d L q s : Nat} {B : Int → Int} {lw o lo hi : Int} {m : Mm} (h : CSt B L lw m q s o) : (tkT B L q = 2 → lo ≤ tkV B L q ∧ tkV B L q ≤ hi → Cl (d + 1) k_Rd_isNumber [(15, 80), (0, lo), (0, hi)] m (some (0, 1), m)) ∧ (tkT B L q = 2 → ¬ (lo ≤ tkV B L q ∧ tkV B L q ≤ hi) → ∃ m', Cl (d + 1) k_Rd_isNumber [(15, 80), (0, lo), (0, hi)] m (some (0, 0), m') ∧ flt_ m' 2 q ∧ FCf s m m') ∧ (tkT B L q ≠ 2 → ∃ m', Cl (d + 1) k_Rd_isNumber [(15, 80), (0, lo), (0, hi)] m (some (0, 0), m') ∧ flt_ m' 1 q ∧ FCf s m m') := by
  obtain ⟨a1, a2, a3, a4, a5, a6, a7⟩ := h.1
  refine ⟨fun h2 hv => ?_, fun h2 hv => ?_, fun h2 => ?_⟩
  · have e8 := a7 h2
    exact cl_Rd_isNumber (b_Rd_isNumber ⟨fun _ => ⟨fun z => by omega, fun _ => ⟨fun _ => rfl, fun z => by omega⟩⟩, fun z => absurd (by rw [a4]; exact h2) z⟩)
  · have e8 := a7 h2
    obtain ⟨m', c1, c2, c3⟩ := refuse_c (d := d) (f := 2) h
    exact ⟨m', cl_Rd_isNumber (b_Rd_isNumber ⟨fun _ => ⟨fun _ => ⟨_, _, c1, fun _ => rfl, fun z => absurd rfl z⟩, fun z => ⟨fun z2 => absurd ⟨by omega, by omega⟩ hv, fun _ => ⟨_, _, c1, fun _ => rfl, fun z => absurd rfl z⟩⟩⟩, fun z => absurd (by rw [a4]; exact h2) z⟩), c2, c3⟩
  · obtain ⟨m', c1, c2, c3⟩ := refuse_c (d := d) (f := 1) h
    exact ⟨m', cl_Rd_isNumber (b_Rd_isNumber ⟨fun z => absurd (by rw [← a4]; exact z) h2, fun _ => ⟨_, _, c1, Or.inl rfl, rfl⟩⟩), c2, c3⟩
