/-! THE TAPE -/
theorem ian_255 {a : Int} : 0 ≤ ian a 255 ∧ ian a 255 < 256 := by
  have h : (Int32.ofInt a &&& Int32.ofInt 255).toBitVec.toNat ≤ 255 := by
    rw [Int32.toBitVec_and, BitVec.toNat_and]
    exact Nat.and_le_right
  unfold ian
  have e : (Int32.ofInt a &&& Int32.ofInt 255).toInt = ((Int32.ofInt a &&& Int32.ofInt 255).toBitVec.toNat : Int) := BitVec.toInt_eq_toNat_of_lt (by omega)
  rw [e]
  omega
def fo4 (x j : Int) : Int := ian (isr x (24 - 8 * j)) 255
theorem c_Rd_addFour {d : Nat} {m : Mm} {x L : Int} (h : m 80 1 = L) (hL : 0 ≤ L ∧ L + 4 ≤ 300) : ∃ m', Cl d k_Rd_addFour [(15, 80), (0, x)] m (none, m') ∧ m' 80 1 = L + 4 ∧ (∀ j, 0 ≤ j → j < 4 → m' 81 (L + j) = fo4 x j) ∧ (∀ a b, ¬ (a = 81 ∧ L ≤ b ∧ b < L + 4) → ¬ (a = 80 ∧ b = 1) → m' a b = m a b) := by
  have key : ∀ (n k : Nat) (M : Mm), k + n = 4 → M 80 1 = L + k → (∀ j : Int, 0 ≤ j → j < k → M 81 (L + j) = fo4 x j) → (∀ a b, ¬ (a = 81 ∧ L ≤ b ∧ b < L + k) → ¬ (a = 80 ∧ b = 1) → M a b = m a b) → ∃ m', Ev d K_Rd_addFour 3 2 [(15, 80), (0, x), (0, 24 - 8 * (k : Int))] [] M (none, m') ∧ m' 80 1 = L + 4 ∧ (∀ j, 0 ≤ j → j < 4 → m' 81 (L + j) = fo4 x j) ∧ (∀ a b, ¬ (a = 81 ∧ L ≤ b ∧ b < L + 4) → ¬ (a = 80 ∧ b = 1) → m' a b = m a b) := by
    intro n
    induction n with
    | zero =>
      intro k M hk h1 h2 h3
      obtain rfl : k = 4 := by omega
      exact ⟨M, b_Rd_addFour_2 ⟨fun _ => rfl, fun z => absurd (by omega) z⟩, h1, h2, h3⟩
    | succ n ih =>
      intro k M hk h1 h2 h3
      obtain ⟨m', q1, q2⟩ := ih (k + 1) (up (up M 81 (L + k) (fo4 x k)) 80 1 (L + k + 1)) (by omega) (by rw [up_eq]; omega) (fun j j1 j2 => by
        rw [up_ne (by omega)]
        by_cases hj : j = k
        · subst hj; rw [up_eq]
        · rw [up_nk (by omega)]; exact h2 j j1 (by omega)) (fun a b z1 z2 => by
        by_cases hb : a = 80
        · rw [up_nk (by omega), up_ne (by omega)]; exact h3 a b (by omega) z2
        · rw [up_ne hb]
          by_cases ha : a = 81
          · rw [up_nk (by omega)]; exact h3 a b (by omega) z2
          · rw [up_ne ha]; exact h3 a b (by omega) z2)
      refine ⟨m', b_Rd_addFour_2 ⟨fun z => by omega, fun _ => ⟨fun z => by omega, fun _ => ⟨by omega, ?_⟩⟩⟩, q2⟩
      rintro m1 rfl
      rintro m2 rfl
      rw [h1, up_ne (by omega), h1, w32n (x := L + k + 1) (by omega) (by omega), w32n (by omega) (by omega)]
      rw [show (24 : Int) - 8 * ((k + 1 : Nat) : Int) = 24 - 8 * k + -8 by omega] at q1
      exact q1
  obtain ⟨m', q1, q2⟩ := key 4 0 m rfl (by omega) (fun j j1 j2 => by omega) (fun _ _ _ _ => rfl)
  exact ⟨m', cl_Rd_addFour (b_Rd_addFour q1), q2⟩
theorem c_Mo_four {d : Nat} {m : Mm} {x L : Int} (h : m 400 5 = L) (hL : 0 ≤ L ∧ L + 4 ≤ 300) : ∃ m', Cl d k_Mo_four [(18, 400), (0, x)] m (none, m') ∧ m' 400 5 = L + 4 ∧ (∀ j, 0 ≤ j → j < 4 → m' 405 (L + j) = fo4 x j) ∧ (∀ a b, ¬ (a = 405 ∧ L ≤ b ∧ b < L + 4) → ¬ (a = 400 ∧ b = 5) → m' a b = m a b) := by
  have key : ∀ (n k : Nat) (M : Mm), k + n = 4 → M 400 5 = L + k → (∀ j : Int, 0 ≤ j → j < k → M 405 (L + j) = fo4 x j) → (∀ a b, ¬ (a = 405 ∧ L ≤ b ∧ b < L + k) → ¬ (a = 400 ∧ b = 5) → M a b = m a b) → ∃ m', Ev d K_Mo_four 3 2 [(18, 400), (0, x), (0, 24 - 8 * (k : Int))] [] M (none, m') ∧ m' 400 5 = L + 4 ∧ (∀ j, 0 ≤ j → j < 4 → m' 405 (L + j) = fo4 x j) ∧ (∀ a b, ¬ (a = 405 ∧ L ≤ b ∧ b < L + 4) → ¬ (a = 400 ∧ b = 5) → m' a b = m a b) := by
    intro n
    induction n with
    | zero =>
      intro k M hk h1 h2 h3
      obtain rfl : k = 4 := by omega
      exact ⟨M, b_Mo_four_2 ⟨fun _ => rfl, fun z => absurd (by omega) z⟩, h1, h2, h3⟩
    | succ n ih =>
      intro k M hk h1 h2 h3
      obtain ⟨m', q1, q2⟩ := ih (k + 1) (up (up M 405 (L + k) (fo4 x k)) 400 5 (L + k + 1)) (by omega) (by rw [up_eq]; omega) (fun j j1 j2 => by
        rw [up_ne (by omega)]
        by_cases hj : j = k
        · subst hj; rw [up_eq]
        · rw [up_nk (by omega)]; exact h2 j j1 (by omega)) (fun a b z1 z2 => by
        by_cases hb : a = 400
        · rw [up_nk (by omega), up_ne (by omega)]; exact h3 a b (by omega) z2
        · rw [up_ne hb]
          by_cases ha : a = 405
          · rw [up_nk (by omega)]; exact h3 a b (by omega) z2
          · rw [up_ne ha]; exact h3 a b (by omega) z2)
      refine ⟨m', b_Mo_four_2 ⟨fun z => by omega, fun _ => ⟨by omega, ?_⟩⟩, q2⟩
      rintro m1 rfl
      rintro m2 rfl
      rw [h1, up_ne (by omega), h1, w32n (x := L + k + 1) (by omega) (by omega), w32n (by omega) (by omega)]
      rw [show (24 : Int) - 8 * ((k + 1 : Nat) : Int) = 24 - 8 * k + -8 by omega] at q1
      exact q1
  obtain ⟨m', q1, q2⟩ := key 4 0 m rfl (by omega) (fun j j1 j2 => by omega) (fun _ _ _ _ => rfl)
  exact ⟨m', cl_Mo_four (b_Mo_four q1), q2⟩
theorem R_tape {m m2 : Mm} (h : R m) (hf : RF m2) (H : ∀ a b, a ≠ 81 → a ≠ 405 → ¬ (a = 80 ∧ b = 1) → ¬ (a = 400 ∧ b = 5) → m2 a b = m a b) : R m2 ∧ m2 500 = m 500 := by
  have h0 := h
  obtain ⟨h1, h2, h3, h4, h5, _⟩ := h
  have e401 : m2 401 = m 401 := by funext b; exact H _ _ (by omega) (by omega) (by omega) (by omega)
  have e402 : m2 402 = m 402 := by funext b; exact H _ _ (by omega) (by omega) (by omega) (by omega)
  refine R_put h0 ?_ ?_ ?_ ?_ ?_ ?_ hf (fun a b hab => H _ _ (by omega) (by omega) (by omega) (by omega))
  · rw [e401]
    exact FC_con h1 (fun a b _ _ => H _ _ (by omega) (by omega) (by omega) (by omega))
  · rw [e402]
    exact FC_con h2 (fun a b _ _ => H _ _ (by omega) (by omega) (by omega) (by omega))
  · rw [e401]
    exact RH_con h3 h1.2.2.2.2.1.2 (fun b _ => H _ _ (by omega) (by omega) (by omega) (by omega)) rfl (fun _ _ _ => rfl)
  · rw [e402]
    exact RH_con h4 h2.2.2.2.2.1.2 (fun b _ => H _ _ (by omega) (by omega) (by omega) (by omega)) rfl (fun _ _ _ => rfl)
  · rw [e401, e402]
    exact h5
  · rw [e401]
    exact Int.le_refl _
theorem RF_tape {m m2 : Mm} (h : RF m) (h1 : 0 ≤ m2 400 5 ∧ m2 400 5 ≤ 300 ∧ m2 80 1 = m2 400 5) (h2 : ∀ i : Int, 0 ≤ i → i < m2 400 5 → m2 81 i = m2 405 i ∧ 0 ≤ m2 405 i ∧ m2 405 i < 256) (H : ∀ a b, a ≠ 81 → a ≠ 405 → ¬ (a = 80 ∧ b = 1) → ¬ (a = 400 ∧ b = 5) → m2 a b = m a b) : RF m2 := by
  obtain ⟨_, _, f5, f6⟩ := h
  refine ⟨h1, fun i hi => h2 i (by omega) hi, ?_, ?_⟩
  · rw [H 80 3 (by omega) (by omega) (by omega) (by omega), H 400 6 (by omega) (by omega) (by omega) (by omega), H 400 7 (by omega) (by omega) (by omega) (by omega)]
    exact f5
  · rw [H 80 3 (by omega) (by omega) (by omega) (by omega), H 400 6 (by omega) (by omega) (by omega) (by omega), H 400 7 (by omega) (by omega) (by omega) (by omega), H 80 4 (by omega) (by omega) (by omega) (by omega), H 80 5 (by omega) (by omega) (by omega) (by omega)]
    exact f6
def fives (x1 x2 x3 x4 x5 i : Int) : Int := if i < 4 then fo4 x1 i else if i < 8 then fo4 x2 (i - 4) else if i < 12 then fo4 x3 (i - 8) else if i < 16 then fo4 x4 (i - 12) else fo4 x5 (i - 16)
theorem fives_in {x1 x2 x3 x4 x5 i : Int} : 0 ≤ fives x1 x2 x3 x4 x5 i ∧ fives x1 x2 x3 x4 x5 i < 256 := by
  unfold fives
  split
  · exact ian_255
  · split
    · exact ian_255
    · split
      · exact ian_255
      · split
        · exact ian_255
        · exact ian_255
theorem c_Th_feed {m : Mm} {x1 x2 x3 x4 x5 L : Int} (h : m 80 1 = L) (hL : 0 ≤ L ∧ L + 20 ≤ 300) : ∃ m', Cl 120 k_Th_feed [(17, 0), (0, x1), (0, x2), (0, x3), (0, x4), (0, x5)] m (some (0, L + 20), m') ∧ m' 80 1 = L + 20 ∧ (∀ j, 0 ≤ j → j < 20 → m' 81 (L + j) = fives x1 x2 x3 x4 x5 j) ∧ (∀ a b, ¬ (a = 81 ∧ L ≤ b) → ¬ (a = 80 ∧ b = 1) → m' a b = m a b) := by
  obtain ⟨a1, p1, q1, r1, s1⟩ := c_Rd_addFour (d := 119) (m := m) (x := x1) h ⟨hL.1, by omega⟩
  obtain ⟨a2, p2, q2, r2, s2⟩ := c_Rd_addFour (d := 119) (x := x2) q1 ⟨by omega, by omega⟩
  obtain ⟨a3, p3, q3, r3, s3⟩ := c_Rd_addFour (d := 119) (x := x3) q2 ⟨by omega, by omega⟩
  obtain ⟨a4, p4, q4, r4, s4⟩ := c_Rd_addFour (d := 119) (x := x4) q3 ⟨by omega, by omega⟩
  obtain ⟨a5, p5, q5, r5, s5⟩ := c_Rd_addFour (d := 119) (x := x5) q4 ⟨by omega, by omega⟩
  have q6 : a5 80 1 = L + 20 := by rw [q5]; omega
  refine ⟨a5, cl_Th_feed (b_Th_feed ⟨1, m, cl_Rd_hasRoomFor (b_Rd_hasRoomFor ⟨fun z => ?_, fun _ => rfl⟩), fun _ => ⟨_, p1, _, p2, _, p3, _, p4, _, p5, by rw [q6]⟩, fun z => absurd (by decide) z⟩), q6, fun j j0 j1 => ?_, fun a b z1 z2 => ?_⟩
  · rw [h, w32n (by omega) (by omega)] at z
    omega
  · clear p1 p2 p3 p4 p5
    have l5 : ∀ b, b < L + 16 → a5 81 b = a4 81 b := fun b hb => s5 81 b (by omega) (by omega)
    have l4 : ∀ b, b < L + 12 → a4 81 b = a3 81 b := fun b hb => s4 81 b (by omega) (by omega)
    have l3 : ∀ b, b < L + 8 → a3 81 b = a2 81 b := fun b hb => s3 81 b (by omega) (by omega)
    have l2 : ∀ b, b < L + 4 → a2 81 b = a1 81 b := fun b hb => s2 81 b (by omega) (by omega)
    unfold fives
    by_cases h1 : j < 4
    · rw [if_pos h1, l5 _ (by omega), l4 _ (by omega), l3 _ (by omega), l2 _ (by omega)]
      exact r1 j j0 h1
    · rw [if_neg h1]
      by_cases h2 : j < 8
      · rw [if_pos h2, l5 _ (by omega), l4 _ (by omega), l3 _ (by omega), show L + j = L + 4 + (j - 4) by omega]
        exact r2 (j - 4) (by omega) (by omega)
      · rw [if_neg h2]
        by_cases h3 : j < 12
        · rw [if_pos h3, l5 _ (by omega), l4 _ (by omega), show L + j = L + 4 + 4 + (j - 8) by omega]
          exact r3 (j - 8) (by omega) (by omega)
        · rw [if_neg h3]
          by_cases h4 : j < 16
          · rw [if_pos h4, l5 _ (by omega), show L + j = L + 4 + 4 + 4 + (j - 12) by omega]
            exact r4 (j - 12) (by omega) (by omega)
          · rw [if_neg h4, show L + j = L + 4 + 4 + 4 + 4 + (j - 16) by omega]
            exact r5 (j - 16) (by omega) (by omega)
  · clear p1 p2 p3 p4 p5
    rw [s5 a b (by omega) z2, s4 a b (by omega) z2, s3 a b (by omega) z2, s2 a b (by omega) z2, s1 a b (by omega) z2]
theorem c_Mo_feed {m : Mm} {x1 x2 x3 x4 x5 L : Int} (h : m 400 5 = L) (hL : 0 ≤ L ∧ L + 20 ≤ 300) : ∃ m', Cl 120 k_Mo_feed [(18, 400), (0, x1), (0, x2), (0, x3), (0, x4), (0, x5)] m (some (0, L + 20), m') ∧ m' 400 5 = L + 20 ∧ (∀ j, 0 ≤ j → j < 20 → m' 405 (L + j) = fives x1 x2 x3 x4 x5 j) ∧ (∀ a b, ¬ (a = 405 ∧ L ≤ b) → ¬ (a = 400 ∧ b = 5) → m' a b = m a b) := by
  obtain ⟨a1, p1, q1, r1, s1⟩ := c_Mo_four (d := 119) (m := m) (x := x1) h ⟨hL.1, by omega⟩
  obtain ⟨a2, p2, q2, r2, s2⟩ := c_Mo_four (d := 119) (x := x2) q1 ⟨by omega, by omega⟩
  obtain ⟨a3, p3, q3, r3, s3⟩ := c_Mo_four (d := 119) (x := x3) q2 ⟨by omega, by omega⟩
  obtain ⟨a4, p4, q4, r4, s4⟩ := c_Mo_four (d := 119) (x := x4) q3 ⟨by omega, by omega⟩
  obtain ⟨a5, p5, q5, r5, s5⟩ := c_Mo_four (d := 119) (x := x5) q4 ⟨by omega, by omega⟩
  have q6 : a5 400 5 = L + 20 := by rw [q5]; omega
  refine ⟨a5, cl_Mo_feed (b_Mo_feed ⟨fun _ => ⟨_, p1, _, p2, _, p3, _, p4, _, p5, by rw [q6]⟩, fun z => ?_⟩), q6, fun j j0 j1 => ?_, fun a b z1 z2 => ?_⟩
  · rw [h, w32n (by omega) (by omega)] at z
    omega
  · clear p1 p2 p3 p4 p5
    have l5 : ∀ b, b < L + 16 → a5 405 b = a4 405 b := fun b hb => s5 405 b (by omega) (by omega)
    have l4 : ∀ b, b < L + 12 → a4 405 b = a3 405 b := fun b hb => s4 405 b (by omega) (by omega)
    have l3 : ∀ b, b < L + 8 → a3 405 b = a2 405 b := fun b hb => s3 405 b (by omega) (by omega)
    have l2 : ∀ b, b < L + 4 → a2 405 b = a1 405 b := fun b hb => s2 405 b (by omega) (by omega)
    unfold fives
    by_cases h1 : j < 4
    · rw [if_pos h1, l5 _ (by omega), l4 _ (by omega), l3 _ (by omega), l2 _ (by omega)]
      exact r1 j j0 h1
    · rw [if_neg h1]
      by_cases h2 : j < 8
      · rw [if_pos h2, l5 _ (by omega), l4 _ (by omega), l3 _ (by omega), show L + j = L + 4 + (j - 4) by omega]
        exact r2 (j - 4) (by omega) (by omega)
      · rw [if_neg h2]
        by_cases h3 : j < 12
        · rw [if_pos h3, l5 _ (by omega), l4 _ (by omega), show L + j = L + 4 + 4 + (j - 8) by omega]
          exact r3 (j - 8) (by omega) (by omega)
        · rw [if_neg h3]
          by_cases h4 : j < 16
          · rw [if_pos h4, l5 _ (by omega), show L + j = L + 4 + 4 + 4 + (j - 12) by omega]
            exact r4 (j - 12) (by omega) (by omega)
          · rw [if_neg h4, show L + j = L + 4 + 4 + 4 + 4 + (j - 16) by omega]
            exact r5 (j - 16) (by omega) (by omega)
  · clear p1 p2 p3 p4 p5
    rw [s5 a b (by omega) z2, s4 a b (by omega) z2, s3 a b (by omega) z2, s2 a b (by omega) z2, s1 a b (by omega) z2]
theorem op_feed {m : Mm} {x1 x2 x3 x4 x5 : Int} (h : R m) : OP k_Th_feed k_Mo_feed 0 [(0, x1), (0, x2), (0, x3), (0, x4), (0, x5)] m := by
  have h7 := h.2.2.2.2.2.2.1
  obtain ⟨⟨f1, f2, f3⟩, f4, _, _⟩ := id h7
  by_cases hA : m 400 5 + 20 ≤ 300
  · obtain ⟨a5, p1, p2, p3, p4⟩ := c_Th_feed (x1 := x1) (x2 := x2) (x3 := x3) (x4 := x4) (x5 := x5) f3 ⟨f1, hA⟩
    have e0 : a5 400 5 = m 400 5 := p4 _ _ (fun z => absurd z.1 (by decide)) (by decide)
    obtain ⟨b5, q1, q2, q3, q4⟩ := c_Mo_feed (x1 := x1) (x2 := x2) (x3 := x3) (x4 := x4) (x5 := x5) e0 ⟨f1, hA⟩
    have H : ∀ a b, a ≠ 81 → a ≠ 405 → ¬ (a = 80 ∧ b = 1) → ¬ (a = 400 ∧ b = 5) → b5 a b = m a b := fun a b z1 z2 z3 z4 => by
      rw [q4 a b (fun z => z2 z.1) z4, p4 a b (fun z => z1 z.1) z3]
    have e81 : ∀ b, b5 81 b = a5 81 b := fun b => q4 _ _ (fun z => absurd z.1 (by decide)) (fun z => absurd z.1 (by decide))
    have e80 : b5 80 1 = a5 80 1 := q4 _ _ (fun z => absurd z.1 (by decide)) (by decide)
    obtain ⟨g1, g2⟩ := R_tape h (RF_tape h7 ⟨by rw [q2]; omega, by rw [q2]; omega, by rw [e80, p2, q2]⟩ (fun i i0 i1 => by
      rw [q2] at i1
      rw [e81]
      by_cases hi : i < m 400 5
      · obtain ⟨k, rfl⟩ := Int.eq_ofNat_of_zero_le i0
        rw [q4 405 _ (fun z => by omega) (by omega), p4 81 _ (fun z => by omega) (by omega), p4 405 _ (by omega) (by omega)]
        exact f4 k hi
      · have y1 := p3 (i - m 400 5) (by omega) (by omega)
        have y2 := q3 (i - m 400 5) (by omega) (by omega)
        rw [show m 400 5 + (i - m 400 5) = i by omega] at y1 y2
        rw [y1, y2]
        exact ⟨rfl, fives_in⟩) H) H
    exact ⟨_, a5, b5, p1, q1, g1, g2⟩
  · refine OP_e h (v := -1) (cl_Th_feed (b_Th_feed ⟨0, _, cl_Rd_hasRoomFor (b_Rd_hasRoomFor ⟨fun _ => rfl, fun z => ?_⟩), fun z => absurd rfl z, fun _ => rfl⟩)) (cl_Mo_feed (b_Mo_feed ⟨fun z => ?_, fun _ => rfl⟩))
    · rw [f3, w32n (by omega) (by omega)] at z; omega
    · rw [w32n (by omega) (by omega)] at z; omega
theorem op_end {m : Mm} {x : Int} (h : R m) : OP k_Th_end k_Mo_end 0 [(0, x)] m := by
  have h0 := h
  have h7 := h.2.2.2.2.2.2.1
  obtain ⟨⟨f1, f2, f3⟩, f4, _, _⟩ := id h7
  clear h
  by_cases hA : 0 ≤ x ∧ x ≤ m 400 5
  · have H : ∀ a b, ¬ (a = 80 ∧ b = 1) → ¬ (a = 400 ∧ b = 5) → up (up m 80 1 x) 400 5 x a b = m a b := fun a b z1 z2 => by
      by_cases ha : a = 400
      · rw [up_nk (by omega), up_ne (by omega)]
      · rw [up_ne ha]
        by_cases ha : a = 80
        · rw [up_nk (by omega)]
        · rw [up_ne ha]
    obtain ⟨g1, g2⟩ := R_tape h0 (RF_tape h7 ⟨by rw [up_eq]; omega, by rw [up_eq]; omega, by rw [up_eq, up_ne (by omega), up_eq]⟩ (fun i i0 i1 => by
      rw [up_eq] at i1
      obtain ⟨k, rfl⟩ := Int.eq_ofNat_of_zero_le i0
      rw [H 81 _ (by omega) (by omega), H 405 _ (by omega) (by omega)]
      exact f4 k (by omega)) (fun a b _ _ z3 z4 => H a b z3 z4)) (fun a b _ _ z3 z4 => H a b z3 z4)
    refine ⟨x, up m 80 1 x, _, cl_Th_end (b_Th_end ⟨fun z => by omega, fun _ => ⟨fun _ m1 hm1 => by rw [hm1], fun z => by omega⟩⟩), cl_Mo_end (b_Mo_end ⟨_, _, c_Mo_isIn, fun _ m2 hm2 => by rw [hm2], fun z => ?_⟩), g1, g2⟩
    rw [ite_z1, up_ne (by omega)] at z
    exact absurd hA z
  · refine OP_e h0 (v := -1) (cl_Th_end (b_Th_end ⟨fun _ => rfl, fun z => ⟨fun z2 => by omega, fun _ => rfl⟩⟩)) (cl_Mo_end (b_Mo_end ⟨_, _, c_Mo_isIn, fun z => ?_, fun _ => rfl⟩))
    rw [ite_z1] at z
    exact absurd z hA
/-! BETWEEN -/
theorem iab {x : Int} : (if 0 ≤ x then x else -x) = (x.natAbs : Int) := by
  split <;> omega
theorem c_Mo_apart {d : Nat} {m : Mm} {a b : Int} (ha : cellI a) (hb : cellI b) : Cl (d + 1) k_Mo_apart [(0, a), (0, b)] m (some (0, apt a b), m) := by
  unfold cellI at *
  have e1 : irm a 5 = a % 5 := irm_n (by omega) (by omega) (by omega) (by omega)
  have e2 : idv a 5 = a / 5 := idv_n (by omega) (by omega) (by omega) (by omega)
  have e3 : irm b 5 = b % 5 := irm_n (by omega) (by omega) (by omega) (by omega)
  have e4 : idv b 5 = b / 5 := idv_n (by omega) (by omega) (by omega) (by omega)
  have e5 : w32 (a / 5 - b / 5) = a / 5 - b / 5 := w32n (by omega) (by omega)
  have e6 : w32 (a % 5 - b % 5) = a % 5 - b % 5 := w32n (by omega) (by omega)
  refine cl_Mo_apart (b_Mo_apart ?_)
  rw [e1, e2, e3, e4, e5, e6]
  refine ⟨_, _, c_Mo_size (by omega) (by omega), _, _, c_Mo_size (by omega) (by omega), ?_⟩
  rw [iab, iab, w32n (by omega) (by omega)]
  congr 3
  unfold apt
  rw [if_pos ⟨ha, hb⟩]
  split <;> split <;> omega
def btw (a b : Int) : Int := if bey a 0 = b then hby a 0 else if bey a 1 = b then hby a 1 else if bey a 2 = b then hby a 2 else if bey a 3 = b then hby a 3 else -1
theorem btw_1 : ∀ a : Nat, a < 25 → ∀ b : Nat, b < 25 → (apt ((a : Nat) : Int) ((b : Nat) : Int) = 1 → bey ((a : Nat) : Int) 0 = ((b : Nat) : Int) ∨ bey ((a : Nat) : Int) 1 = ((b : Nat) : Int) ∨ bey ((a : Nat) : Int) 2 = ((b : Nat) : Int) ∨ bey ((a : Nat) : Int) 3 = ((b : Nat) : Int)) ∧ (apt ((a : Nat) : Int) ((b : Nat) : Int) ≠ 1 → btw ((a : Nat) : Int) ((b : Nat) : Int) = -1) := by decide +kernel
theorem btw_2 : ∀ a : Nat, a < 25 → ∀ w : Nat, w < 4 → bey ((a : Nat) : Int) ((w : Nat) : Int) ≠ -1 → btw ((a : Nat) : Int) (bey ((a : Nat) : Int) ((w : Nat) : Int)) = hby ((a : Nat) : Int) ((w : Nat) : Int) := by decide +kernel
theorem op_between {m : Mm} {x y : Int} (h : R m) : OP k_Th_between k_Mo_between 0 [(0, x), (0, y)] m := by
  by_cases hx : 0 ≤ x ∧ x < 25
  · by_cases hy : 0 ≤ y ∧ y < 25
    · have hx' : cellI x := hx
      refine OP_e h (v := btw x y) (cl_Th_between (b_Th_between ⟨_, _, c_Pl_isCell, fun z => ?_, fun _ => ⟨_, _, c_Pl_isCell, fun _ => ?_, fun z => ?_⟩⟩)) (cl_Mo_between (b_Mo_between ⟨_, _, c_Mo_isCell, fun z => ?_, fun _ => ⟨_, _, c_Mo_isCell, fun z => ?_, fun _ => ⟨_, _, c_Mo_apart hx hy, fun z => ?_, fun z => ?_⟩⟩⟩))
      · rw [ite_z] at z; exact absurd hx z
      · unfold btw
        refine b_Th_between_10 ⟨fun z => by omega, fun _ => ⟨_, _, c_Pl_cellBeyond hx' ⟨by omega, by omega⟩, fun z => ?_, fun z => ?_⟩⟩
        · rw [if_neg z, show w32 (0 + 1) = 1 from rfl]
          refine b_Th_between_10 ⟨fun z => by omega, fun _ => ⟨_, _, c_Pl_cellBeyond hx' ⟨by omega, by omega⟩, fun z => ?_, fun z => ?_⟩⟩
          · rw [if_neg z, show w32 (1 + 1) = 2 from rfl]
            refine b_Th_between_10 ⟨fun z => by omega, fun _ => ⟨_, _, c_Pl_cellBeyond hx' ⟨by omega, by omega⟩, fun z => ?_, fun z => ?_⟩⟩
            · rw [if_neg z, show w32 (2 + 1) = 3 from rfl]
              refine b_Th_between_10 ⟨fun z => by omega, fun _ => ⟨_, _, c_Pl_cellBeyond hx' ⟨by omega, by omega⟩, fun z => ?_, fun z => ?_⟩⟩
              · rw [if_neg z, show w32 (3 + 1) = 4 from rfl]
                exact b_Th_between_10 ⟨fun _ => rfl, fun z => absurd (by omega) z⟩
              · rw [if_pos (Classical.not_not.mp z)]
                exact ⟨_, _, c_Pl_hedgeBy hx' ⟨by omega, by omega⟩, rfl⟩
            · rw [if_pos (Classical.not_not.mp z)]
              exact ⟨_, _, c_Pl_hedgeBy hx' ⟨by omega, by omega⟩, rfl⟩
          · rw [if_pos (Classical.not_not.mp z)]
            exact ⟨_, _, c_Pl_hedgeBy hx' ⟨by omega, by omega⟩, rfl⟩
        · rw [if_pos (Classical.not_not.mp z)]
          exact ⟨_, _, c_Pl_hedgeBy hx' ⟨by omega, by omega⟩, rfl⟩
      · rw [ite_z1] at z; exact absurd hy z
      · rw [ite_z] at z; exact absurd hx z
      · rw [ite_z] at z; exact absurd hy z
      · obtain ⟨a, rfl⟩ := Int.eq_ofNat_of_zero_le hx.1
        obtain ⟨b, rfl⟩ := Int.eq_ofNat_of_zero_le hy.1
        rw [(btw_1 a (by omega) b (by omega)).2 z]
      · rw [Classical.not_not] at z
        obtain ⟨a, rfl⟩ := Int.eq_ofNat_of_zero_le hx.1
        obtain ⟨b, rfl⟩ := Int.eq_ofNat_of_zero_le hy.1
        have hw : ∃ w : Nat, w < 4 ∧ bey (a : Int) (w : Nat) = (b : Int) := by
          rcases (btw_1 a (by omega) b (by omega)).1 z with q | q | q | q
          · exact ⟨0, by omega, q⟩
          · exact ⟨1, by omega, q⟩
          · exact ⟨2, by omega, q⟩
          · exact ⟨3, by omega, q⟩
        obtain ⟨w, w1, w2⟩ := hw
        have hne : bey (a : Int) (w : Nat) ≠ -1 := by omega
        have := btw_2 a (by omega) w w1 hne
        rw [← w2, this]
        exact ⟨_, _, c_Mo_hedgeOf hx' ⟨by omega, by omega⟩ hne, rfl⟩
    · refine OP_e h (v := -1) (cl_Th_between (b_Th_between ⟨_, _, c_Pl_isCell, fun z => rfl, fun _ => ⟨_, _, c_Pl_isCell, fun z => ?_, fun z => rfl⟩⟩)) (cl_Mo_between (b_Mo_between ⟨_, _, c_Mo_isCell, fun z => rfl, fun _ => ⟨_, _, c_Mo_isCell, fun z => rfl, fun z => ?_⟩⟩))
      · rw [ite_z1] at z; exact absurd z hy
      · rw [ite_z1] at z; exact absurd z hy
  · refine OP_e h (v := -1) (cl_Th_between (b_Th_between ⟨_, _, c_Pl_isCell, fun z => rfl, fun z => ?_⟩)) (cl_Mo_between (b_Mo_between ⟨_, _, c_Mo_isCell, fun z => rfl, fun z => ?_⟩))
    · rw [ite_z1] at z; exact absurd z hx
    · rw [ite_z1] at z; exact absurd z hx
/-! THICKEST, ENDS -/
def thk (f : Int → Int) : Nat → Nat
  | 0 => 0
  | k + 1 => if f ((k + 1 : Nat) : Int) ≤ f (thk f k : Nat) then thk f k else k + 1
theorem thk_le (f : Int → Int) : ∀ k, thk f k ≤ k := by
  intro k
  induction k with
  | zero => exact Nat.le_refl _
  | succ k ih => unfold thk; split <;> omega
theorem op_thickest {m : Mm} (h : R m) : OP k_Th_thickest k_Mo_thickest 0 [] m := by
  obtain ⟨v40, v8, v9, _, _, hb⟩ := R_h h
  obtain ⟨f, hf⟩ : ∃ f : Int → Int, ∀ c, f c = arn (HM m 401) c 4 := ⟨_, fun _ => rfl⟩
  have fc : ∀ (t k : Nat), k + t = 24 → Ev 120 K_Th_thickest 0 4 [(17, 0), (0, (thk f k : Nat)), (0, ((k + 1 : Nat) : Int))] [] m (some (0, (thk f 24 : Nat)), m) := by
    intro t
    induction t with
    | zero =>
      intro k hk
      obtain rfl : k = 24 := by omega
      exact b_Th_thickest_4 ⟨fun _ => rfl, fun z => absurd (by omega) z⟩
    | succ t ih =>
      intro k hk
      have hl := thk_le f k
      have c1 : cellI ((k + 1 : Nat) : Int) := ⟨by omega, by omega⟩
      have c2 : cellI ((thk f k : Nat) : Int) := ⟨by omega, by omega⟩
      have g := ih (k + 1) (by omega)
      refine b_Th_thickest_4 ⟨fun z => by omega, fun _ => ⟨_, _, c_La_around (o := 129) v40 c1, _, _, c_La_around (o := 129) v40 c2, fun z => ?_, fun z => ?_⟩⟩
      · rw [arn_con hb c1, arn_con hb c2] at z
        rw [thk, if_pos (by rw [hf, hf]; exact z)] at g
        rw [w32s (by omega)]
        exact g
      · rw [arn_con hb c1, arn_con hb c2] at z
        rw [thk, if_neg (by rw [hf, hf]; exact z)] at g
        rw [w32s (by omega)]
        exact g
  have fm : ∀ (t k : Nat), k + t = 24 → Ev 120 K_Mo_thickest 0 4 [(18, 400), (0, (thk f k : Nat)), (0, ((k + 1 : Nat) : Int))] [] m (some (0, (thk f 24 : Nat)), m) := by
    intro t
    induction t with
    | zero =>
      intro k hk
      obtain rfl : k = 24 := by omega
      exact b_Mo_thickest_4 ⟨fun _ => rfl, fun z => absurd (by omega) z⟩
    | succ t ih =>
      intro k hk
      have hl := thk_le f k
      have c1 : cellI ((k + 1 : Nat) : Int) := ⟨by omega, by omega⟩
      have c2 : cellI ((thk f k : Nat) : Int) := ⟨by omega, by omega⟩
      have g := ih (k + 1) (by omega)
      refine b_Mo_thickest_4 ⟨fun z => by omega, fun _ => ⟨_, _, c_Mo_aroundOf v8 v9 c1, _, _, c_Mo_aroundOf v8 v9 c2, fun z => ?_, fun z => ?_⟩⟩
      · rw [thk, if_pos (by rw [hf, hf]; exact z)] at g
        rw [w32s (by omega)]
        exact g
      · rw [thk, if_neg (by rw [hf, hf]; exact z)] at g
        rw [w32s (by omega)]
        exact g
  exact OP_e h (cl_Th_thickest (b_Th_thickest (fc 24 0 rfl))) (cl_Mo_thickest (b_Mo_thickest (fm 24 0 rfl)))
/-- the set of those of the first k that are such -/
def bs_ (p : Nat → Bool) : Nat → Nat
  | 0 => 0
  | k + 1 => bs_ p k + (if p k = true then 2 ^ k else 0)
theorem bst_lt (p : Nat → Bool) : ∀ k, bs_ p k < 2 ^ k := by
  intro k
  induction k with
  | zero => simp [bs_]
  | succ k ih =>
    unfold bs_
    rw [Nat.pow_succ]
    split <;> omega
theorem bst_bit (p : Nat → Bool) : ∀ (k j : Nat), (bs_ p k).testBit j = (decide (j < k) && p j) := by
  intro k
  induction k with
  | zero => intro j; simp [bs_]
  | succ k ih =>
    intro j
    have hlt := bst_lt p k
    unfold bs_
    by_cases hx : p k = true
    · rw [if_pos hx, ← or_pow hlt, Nat.testBit_or, ih, Nat.testBit_two_pow]
      by_cases hj : j = k
      · subst hj
        simp [hx]
      · by_cases h2 : j < k
        · have : j < k + 1 := by omega
          simp [h2, this, Ne.symm hj]
        · have : ¬ j < k + 1 := by omega
          simp [h2, this, Ne.symm hj]
    · rw [if_neg hx, Nat.add_zero, ih]
      by_cases hj : j = k
      · subst hj
        simp [hx]
      · by_cases h2 : j < k
        · have : j < k + 1 := by omega
          simp [h2, this]
        · have : ¬ j < k + 1 := by omega
          simp [h2, this]
theorem bst_s1 {p : Nat → Bool} {k : Nat} (h : p k = true) (hk : k < 30) : iro ((bs_ p k : Nat) : Int) (isl 1 (k : Nat)) = ((bs_ p (k + 1) : Nat) : Int) := by
  rw [iro_pow (bst_lt p k) hk, bs_, if_pos h]
theorem bst_s0 {p : Nat → Bool} {k : Nat} (h : ¬ p k = true) : bs_ p (k + 1) = bs_ p k := by
  rw [bs_, if_neg h, Nat.add_zero]
theorem bst_31 {p : Nat → Bool} {k : Nat} (h : k ≤ 30) : bs_ p k < 1073741824 := by
  have h1 := bst_lt p k
  have h2 := p2le h
  omega
theorem op_ends {m : Mm} (h : R m) : OP k_Th_ends k_Mo_ends 0 [] m := by
  obtain ⟨v40, v8, v9, _, _, hb⟩ := R_h h
  obtain ⟨p, hp⟩ : ∃ p : Nat → Bool, ∀ c : Nat, p c = true ↔ pc_ 32 (opw (HM m 401) (c : Nat) 4) = 1 := ⟨fun c => decide (pc_ 32 (opw (HM m 401) (c : Nat) 4) = 1), fun c => decide_eq_true_iff⟩
  have fc : ∀ (t k : Nat), k + t = 25 → Ev 120 K_Th_ends 0 4 [(17, 0), (0, (bs_ p k : Nat)), (0, (k : Nat))] [] m (some (0, (bs_ p 25 : Nat)), m) := by
    intro t
    induction t with
    | zero =>
      intro k hk
      obtain rfl : k = 25 := by omega
      exact b_Th_ends_4 ⟨fun _ => rfl, fun z => absurd (by omega) z⟩
    | succ t ih =>
      intro k hk
      have c1 : cellI ((k : Nat) : Int) := ⟨by omega, by omega⟩
      have g := ih (k + 1) (by omega)
      have hlt := opw_lt (bt_ (m 129 0)) (k : Nat) 4
      refine b_Th_ends_4 ⟨fun z => by omega, fun _ => ⟨_, _, c_La_openWays (o := 129) v40 c1, _, _, c_In_bitCount (by omega), fun z => ?_, fun z => ?_⟩⟩
      · rw [opw_con hb c1, Int.toNat_natCast] at z
        rw [bst_s0 (by rw [hp]; omega)] at g
        rw [w32s (by omega)]
        exact g
      · rw [opw_con hb c1, Int.toNat_natCast] at z
        rw [bst_s1 (by rw [hp]; omega) (by omega), w32s (by omega)]
        exact g
  have fm : ∀ (t k : Nat), k + t = 25 → Ev 120 K_Mo_ends 0 4 [(18, 400), (0, (bs_ p k : Nat)), (0, (k : Nat))] [] m (some (0, (bs_ p 25 : Nat)), m) := by
    intro t
    induction t with
    | zero =>
      intro k hk
      obtain rfl : k = 25 := by omega
      exact b_Mo_ends_4 ⟨fun _ => rfl, fun z => absurd (by omega) z⟩
    | succ t ih =>
      intro k hk
      have c1 : cellI ((k : Nat) : Int) := ⟨by omega, by omega⟩
      have g := ih (k + 1) (by omega)
      have hlt := opw_lt (HM m 401) (k : Nat) 4
      have h31 := bst_31 (p := p) (k := k) (by omega)
      refine b_Mo_ends_4 ⟨fun z => by omega, fun _ => ⟨_, _, c_Mo_openOf v8 v9 c1, _, _, c_Mo_bits (by omega), fun z => ?_, fun z => ?_⟩⟩
      · rw [Int.toNat_natCast] at z
        rw [bst_s0 (by rw [hp]; omega)] at g
        rw [w32s (by omega), iro_0 (by omega)]
        exact g
      · rw [Int.toNat_natCast] at z
        rw [bst_s1 (by rw [hp]; omega) (by omega), w32s (by omega)]
        exact g
  exact OP_e h (cl_Th_ends (b_Th_ends (fc 25 0 rfl))) (cl_Mo_ends (b_Mo_ends (fm 25 0 rfl)))
