/-! THE LAND: copied, taken back, told of -/
theorem isl1 {k : Nat} (hk : k < 31) : isl 1 (k : Nat) = ((2 ^ k : Nat) : Int) := by
  have h2 : 2 ^ k ≤ 2 ^ 30 := Nat.pow_le_pow_right (n := 2) (by omega) (by omega)
  have := isl_nat (a := 1) (k := k) (by omega) (by omega)
  rw [Nat.one_mul] at this
  exact this
theorem p2le {k n : Nat} (h : k ≤ n) : 2 ^ k ≤ 2 ^ n := Nat.pow_le_pow_right (n := 2) (by omega) h
theorem hom_n {a b T : Nat} (ha : a < 32) (hb : b < 32) (hT : T ≤ 5) : iro (ian (a : Int) (ixo (w32 (isl 1 (T : Nat) - 1)) (-1))) (b : Int) = ((ndf a (2 ^ T - 1) ||| b : Nat) : Int) := by
  have h1 := p2le hT
  have h0 := Nat.two_pow_pos T
  have e1 : w32 (((2 ^ T : Nat) : Int) - 1) = ((2 ^ T - 1 : Nat) : Int) := by rw [w32n (by omega) (by omega)]; omega
  rw [isl1 (by omega), e1, ian_not (by omega) (by omega)]
  have h3 := ndf_lt (b := 2 ^ T - 1) (show a < 2 ^ 5 from ha)
  exact iro_nat (by omega) (by omega)
theorem hom_bit {a b T c : Nat} (hb : b < 2 ^ T) : (ndf a (2 ^ T - 1) ||| b).testBit c = if c < T then b.testBit c else a.testBit c := by
  rw [Nat.testBit_or, ndf_bit, Nat.testBit_two_pow_sub_one]
  by_cases h : c < T
  · simp [h]
  · rw [if_neg h, Nat.testBit_lt_two_pow (x := b) (i := c) (Nat.lt_of_lt_of_le hb (p2le (by omega)))]
    simp [h]
theorem bits_eq {a b : Nat} (h : ∀ i, a.testBit i = b.testBit i) : a = b := Nat.eq_of_testBit_eq h
theorem c_La_copyFrom {d : Nat} {m : Mm} {o0 o1 : Int} (hne : o0 + 3 < o1 ∨ o1 + 3 < o0) (hT : 0 ≤ m o1 1 ∧ m o1 1 ≤ 5) (hh : 0 ≤ m o1 4 ∧ m o1 4 < ((2 ^ (m o1 1).toNat : Nat) : Int)) : ∃ m', Cl (d + 1) k_La_copyFrom [(13, o0), (13, o1)] m (none, m') ∧ (m' o0 0 = m o1 0 ∧ m' o0 1 = m o1 1 ∧ m' o0 4 = m o1 4 ∧ m' o0 5 = m o1 5 ∧ m' o0 6 = m o1 6 ∧ m' o0 7 = m o1 7) ∧ (∀ i, 0 ≤ i → i < 30 → m' (o0 + 3) i = m (o1 + 3) i) ∧ (∀ c, 0 ≤ c → c < m o1 1 → m' (o0 + 1) c = m (o1 + 1) c ∧ m' (o0 + 2) c = m (o1 + 2) c) ∧ (∀ a b, a < o0 ∨ o0 + 3 < a → m' a b = m a b) := by
  have f1 : ∀ a b, a ≠ o0 → up (up m o0 1 (m o1 1)) o0 4 (m o1 4) a b = m a b := fun a b h => by rw [up_ne h, up_ne h]
  obtain ⟨m', h1, h2, h3, h4, h5⟩ := c_La_takeBackTo (d := d) (m := up (up m o0 1 (m o1 1)) o0 4 (m o1 4)) hne (by rw [f1 _ _ (by omega)]; exact hT)
  refine ⟨m', cl_La_copyFrom (b_La_copyFrom ?_), ?_, ?_, ?_, ?_⟩
  · rintro m1 rfl m2 rfl
    rw [up_ne (a := o1) (by omega)]
    exact ⟨m', h1, rfl⟩
  · have u1 : up (up m o0 1 (m o1 1)) o0 4 (m o1 4) o0 1 = m o1 1 := by rw [up_nk (by omega), up_eq]
    have u4 : up (up m o0 1 (m o1 1)) o0 4 (m o1 4) o0 4 = m o1 4 := up_eq
    rw [f1 o1 0 (by omega), f1 o1 1 (by omega), f1 o1 4 (by omega), f1 o1 5 (by omega), f1 o1 6 (by omega), f1 o1 7 (by omega), u1, u4] at h2
    refine ⟨h2.1, h2.2.1, ?_, h2.2.2.2⟩
    rw [h2.2.2.1]
    obtain ⟨a, ha⟩ := Int.eq_ofNat_of_zero_le hh.1
    obtain ⟨T, hT2⟩ := Int.eq_ofNat_of_zero_le hT.1
    rw [ha, hT2]
    rw [ha, hT2, Int.toNat_natCast] at hh
    have h6 := p2le (k := T) (n := 5) (by omega)
    rw [hom_n (by omega) (by omega) (by omega)]
    congr 1
    refine bits_eq fun i => ?_
    rw [hom_bit (by omega)]
    simp
  · intro i h0 h30
    rw [h3 i h0 h30, f1 _ _ (by omega)]
  · intro c h0 hc
    obtain ⟨q1, q2⟩ := h4 c h0
    rw [f1 _ _ (by omega)] at q1 q2
    rw [q1, q2, if_pos hc, if_pos hc, f1 _ _ (by omega), f1 _ _ (by omega)]
    exact ⟨rfl, rfl⟩
  · intro a b hab
    rw [h5 a b hab, f1 _ _ (by omega)]
theorem LC_copy {d : Nat} {m : Mm} {o0 o1 T : Int} {g bk : Int → Int} (hne : o0 + 3 < o1 ∨ o1 + 3 < o0) (hc : LC m o1 T g) (hb : LB m o1 g bk) : ∃ m', Cl (d + 1) k_La_copyFrom [(13, o0), (13, o1)] m (none, m') ∧ LC m' o0 T g ∧ LB m' o0 g bk ∧ (∀ a b, a < o0 ∨ o0 + 3 < a → m' a b = m a b) := by
  obtain ⟨h1, ⟨h2, h2b, h2c⟩, h3, h4, h5, h6⟩ := hc
  subst h2c
  obtain ⟨m', k1, ⟨k2, k3, k4, k5, k6, k7⟩, k8, k9, k10⟩ := c_La_copyFrom (d := d) hne ⟨h2, h2b⟩ h5
  refine ⟨m', k1, ⟨?_, ⟨h2, h2b, k3⟩, ?_, ?_, ?_, ?_⟩, ⟨?_, ?_⟩, k10⟩
  · rw [k2]; exact h1
  · rw [k5]; exact h3
  · rw [k6]; exact h4
  · rw [k4]; exact h5
  · intro c hcT
    obtain ⟨q1, q2⟩ := k9 c (by omega) hcT
    rw [q1, q2, k4]
    exact h6 c hcT
  · rw [k7]; exact hb.1
  · intro i hi
    have := hb.1
    rw [k8 i (by omega) (by omega)]
    exact hb.2 i hi
theorem LC_back {d : Nat} {m : Mm} {o0 o1 T T1 : Int} {g g1 g' bk1 : Int → Int} (hne : o0 + 3 < o1 ∨ o1 + 3 < o0) (hc : LC m o0 T g) (hc1 : LC m o1 T1 g1) (hb1 : LB m o1 g1 bk1) (hT : T1 ≤ T) (hg1 : ∀ k, 0 ≤ k → k < 5 + 2 * T1 → g' k = g1 k) (hg2 : ∀ k, 5 + 2 * T1 ≤ k → k < 5 + 2 * T → g' k = g k) : ∃ m', Cl d k_La_takeBackTo [(13, o0), (13, o1)] m (none, m') ∧ LC m' o0 T g' ∧ LB m' o0 g' bk1 ∧ (∀ a b, a < o0 ∨ o0 + 3 < a → m' a b = m a b) := by
  obtain ⟨h1, ⟨h2, h2b, h2c⟩, h3, h4, h5, h6⟩ := hc
  obtain ⟨r1, ⟨r2, r2b, r2c⟩, r3, r4, r5, r6⟩ := hc1
  subst h2c r2c
  obtain ⟨m', k1, ⟨k2, k3, k4, k5, k6, k7⟩, k8, k9, k10⟩ := c_La_takeBackTo (d := d) hne ⟨r2, r2b⟩
  obtain ⟨a, ha⟩ := Int.eq_ofNat_of_zero_le h5.1
  obtain ⟨b, hb⟩ := Int.eq_ofNat_of_zero_le r5.1
  obtain ⟨T, hTn⟩ := Int.eq_ofNat_of_zero_le h2
  obtain ⟨T1, hT1n⟩ := Int.eq_ofNat_of_zero_le r2
  have h7 := p2le (k := T) (n := 5) (by omega)
  have h8 := p2le (k := T1) (n := T) (by omega)
  rw [ha, hTn, Int.toNat_natCast] at h5
  rw [hb, hT1n, Int.toNat_natCast] at r5
  rw [ha, hb, hT1n, hom_n (by omega) (by omega) (by omega)] at k4
  have hbl : b < 2 ^ T := by omega
  have hal : ndf a (2 ^ T1 - 1) < 2 ^ T := ndf_lt (by omega)
  refine ⟨m', k1, ⟨?_, ⟨h2, h2b, k3⟩, ?_, ?_, ?_, ?_⟩, ⟨?_, ?_⟩, k10⟩
  · rw [k2, hg1 2 (by omega) (by omega), hg1 3 (by omega) (by omega)]; exact r1
  · rw [k5, hg1 0 (by omega) (by omega)]; exact r3
  · rw [k6, hg1 1 (by omega) (by omega)]; exact r4
  · rw [k4, hTn, Int.toNat_natCast]
    have := Nat.or_lt_two_pow hal hbl
    omega
  · intro c hcT
    obtain ⟨q1, q2⟩ := k9 c (by omega)
    have hbit : bt_ (m' o0 4) c = if (c : Int) < m o1 1 then bt_ (m o1 4) c else bt_ (m o0 4) c := by
      rw [k4, hb, ha, hT1n]
      show (ndf a (2 ^ T1 - 1) ||| b).testBit c = _
      rw [hom_bit (by omega)]
      by_cases hcc : c < T1
      · rw [if_pos hcc, if_pos (by omega)]
        rfl
      · rw [if_neg hcc, if_neg (by omega)]
        rfl
    rw [hbit, q1, q2]
    by_cases hcc : (c : Int) < m o1 1
    · rw [if_pos hcc, if_pos hcc, if_pos hcc, hg1 _ (by omega) (by omega), hg1 _ (by omega) (by omega)]
      exact r6 c hcc
    · rw [if_neg hcc, if_neg hcc, if_neg hcc, hg2 _ (by omega) (by omega), hg2 _ (by omega) (by omega)]
      exact h6 c hcT
  · rw [k7, hg1 4 (by omega) (by omega)]; exact hb1.1
  · intro i hi
    have := hb1.1
    rw [hg1 4 (by omega) (by omega)] at hi
    rw [k8 i (by omega) (by omega)]
    exact hb1.2 i hi
theorem c_La_isCow {d : Nat} {m : Mm} {o x : Int} : Cl d k_La_isCow [(13, o), (0, x)] m (some (0, if 0 ≤ x ∧ x < m o 1 then 1 else 0), m) := by
  refine cl_La_isCow (b_La_isCow ⟨fun h => ?_, fun h => ⟨fun h2 => ?_, fun h2 => ?_⟩⟩)
  · rw [if_neg (by omega)]
  · rw [if_neg (by omega)]
  · rw [if_pos (by omega)]
theorem c_Mo_isCow {d : Nat} {m : Mm} {x : Int} (h : 0 ≤ m 401 1 ∧ m 401 1 ≤ 5) : Cl (d + 1) k_Mo_isCow [(18, 400), (0, x)] m (some (0, if 0 ≤ x ∧ x < m 401 1 then 1 else 0), m) := by
  refine cl_Mo_isCow (b_Mo_isCow ⟨_, _, c_Mo_isIn, b01, ?_⟩)
  rw [w32n (by omega) (by omega)]
  congr 3
  exact ite_iff (by omega)
theorem c_La_isHome {d : Nat} {m : Mm} {o x : Int} (hh : 0 ≤ m o 4 ∧ m o 4 < 2147483648) (hx : 0 ≤ x ∧ x < 32) : Cl d k_La_isHome [(13, o), (0, x)] m (some (0, if bt_ (m o 4) x = true then 1 else 0), m) := by
  refine cl_La_isHome (b_La_isHome ?_)
  rw [bit32 hh hx]
  by_cases h : bt_ (m o 4) x = true
  · rw [if_pos h]
    exact ⟨fun z => absurd rfl z, fun _ => rfl⟩
  · rw [if_neg h]
    exact ⟨fun _ => rfl, fun z => by omega⟩
theorem ce {x : Int} (h : 0 ≤ x ∧ x ≤ 5) : w32 (11 + w32 (2 * x)) = 11 + 2 * x ∧ w32 (11 + 2 * x + 1) = 12 + 2 * x ∧ w32 (21 + w32 (2 * x)) = 21 + 2 * x ∧ w32 (21 + 2 * x + 1) = 22 + 2 * x := by
  rw [w32n (x := 2 * x) (by omega) (by omega), w32n (x := 11 + 2 * x) (by omega) (by omega), w32n (x := 21 + 2 * x) (by omega) (by omega), w32n (by omega) (by omega), w32n (by omega) (by omega)]
  omega
theorem c_Mo_cellOf {d : Nat} {m : Mm} {x : Int} (h : 0 ≤ x ∧ x ≤ 5) : Cl d k_Mo_cellOf [(18, 400), (0, x)] m (some (0, m 401 (11 + 2 * x)), m) := by
  refine cl_Mo_cellOf (b_Mo_cellOf ?_)
  rw [(ce h).1]
  exact ⟨by omega, rfl⟩
theorem c_Mo_wayOf {d : Nat} {m : Mm} {x : Int} (h : 0 ≤ x ∧ x ≤ 5) : Cl d k_Mo_wayOf [(18, 400), (0, x)] m (some (0, m 401 (12 + 2 * x)), m) := by
  refine cl_Mo_wayOf (b_Mo_wayOf ?_)
  rw [(ce h).1, (ce h).2.1]
  exact ⟨by omega, rfl⟩
theorem c_Mo_put {d : Nat} {m : Mm} {x y z : Int} (h : 0 ≤ x ∧ x ≤ 5) : Cl d k_Mo_put [(18, 400), (0, x), (0, y), (0, z)] m (none, up (up m 401 (11 + 2 * x) y) 401 (12 + 2 * x) z) := by
  refine cl_Mo_put (b_Mo_put ?_)
  rw [(ce h).1]
  refine ⟨by omega, ?_⟩
  rintro m1 rfl
  rw [(ce h).2.1]
  refine ⟨by omega, ?_⟩
  rintro m2 rfl
  rfl
theorem c_Mo_isHome {d : Nat} {m : Mm} {x : Int} (h : 0 ≤ x ∧ x ≤ 5) : Cl (d + 1) k_Mo_isHome [(18, 400), (0, x)] m (some (0, if m 401 (11 + 2 * x) = -1 then 1 else 0), m) := by
  refine cl_Mo_isHome (b_Mo_isHome ⟨_, _, c_Mo_cellOf h, fun z => ?_, fun z => ?_⟩)
  · rw [if_neg z]
  · rw [Classical.not_not] at z
    rw [if_pos z]
