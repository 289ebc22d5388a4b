/-! TEXTS: clauses one by one, by both -/
theorem clause_s {B : Int → Int} {L : Nat} {t : Int} {m N : Mm} {q s w n : Nat} (hT : TPE B L) (h0 : 0 ≤ t ∧ t ≤ 2043) (h : KS_ B L t m N q s w n) :
    (∃ m' N' q' s' w', Cl 84 k_Rd_clause [(15, 80)] m (some (0, 1), m') ∧ Cl 15 k_Mo_clause [(18, 400)] N (some (0, 0), N') ∧ KS_ B L t m' N' q' s' w' (n + 1) ∧ q < q' ∧ FRs m m' ∧ FRe t N N') ∨ (∃ f p m' N', 0 < f ∧ Cl 84 k_Rd_clause [(15, 80)] m (some (0, 0), m') ∧ flt_ m' f p ∧ FRd m m' ∧ Cl 15 k_Mo_clause [(18, 400)] N (some (0, f), N') ∧ N' 400 9 = (p : Nat) ∧ FRe t N N') := by
  have h' := h
  obtain ⟨⟨c1, c2, c3⟩, ⟨d1, d2, d3, d4⟩, ⟨l1, l2, l3⟩, ⟨t1, t2, t3, t4, t5, t6⟩⟩ := h
  have e6 : m 80 6 = tkT B L q := c1.2.2.2.1
  have hso := c_Mo_sortOf (d := 9) hT d1
  have hC : CSt B L (m 80 10) m q s 0 := ⟨c1, c2, c3, rfl⟩
  have hp : N 400 9 = (q : Nat) := d1.2.2.2.2.1
  have hFe : FRe t N N := fun _ _ _ _ _ => rfl
  obtain ⟨o1, o2, o3, _, _⟩ := once_ (lw_01 t4) (lw_01 t5)
  rw [← t6] at o1 o2 o3
  have z6 := lw_01 t4
  have z9 := lw_01 t5
  by_cases hk : 16 ≤ tkT B L q ∧ tkT B L q ≤ 24
  · have hsv : srt_ (tkT B L q) = tkT B L q - 16 := if_pos hk
    rw [hsv] at hso
    -- the 25th
    have late : n = 24 → (tkT B L q = 16 → m 82 6 = 0) → (tkT B L q = 17 → m 82 9 = 0) → ∃ m', Cl 84 k_Rd_clause [(15, 80)] m (some (0, 0), m') ∧ flt_ m' 6 q ∧ FRd m m' ∧ Cl 15 k_Mo_clause [(18, 400)] N (some (0, 6), N) := by
      intro hn q6 q7
      obtain ⟨m', k1, k2, k3⟩ := refuse_c (d := 83) (f := 6) hC
      have e34 : ∀ (x1 x2 : Int) (u3 : Vv), Ev 84 K_Rd_clause 2 34 [(15, 80), (0, x1), (0, x2), u3] [] m (some (0, 0), m') := fun x1 x2 u3 => b_Rd_clause_34 ⟨fun z => by omega, fun _ => ⟨0, m', k1, Or.inl rfl, rfl⟩⟩
      have e17 : ∀ (x1 : Int) (u2 u3 u4 : Vv), Ev 15 K_Mo_clause 0 17 [(18, 400), (0, x1), u2, u3, u4] [] N (some (0, 6), N) := fun x1 u2 u3 u4 => by
        refine b_Mo_clause_17 ?_
        rw [d2, d4]
        exact ⟨by omega, fun z => by omega, fun _ => rfl⟩
      refine ⟨m', cl_Rd_clause (b_Rd_clause ⟨fun z => by omega, fun _ => ⟨fun _ => ⟨fun z => ?_, fun z => ⟨fun z2 => e34 _ _ _, fun z2 => ?_⟩⟩, fun z => by omega⟩⟩), k2, FRd_Cl k3, cl_Mo_clause (b_Mo_clause ⟨_, _, hso, fun _ => ⟨fun _ => e17 _ _ _ _, fun z => ⟨_, _, c_Mo_has (by omega) (by omega), fun _ => e17 _ _ _ _, fun z2 => ?_⟩⟩, fun z => by omega⟩)⟩
      · refine b_Rd_clause_19 ⟨0, m, cl_Tx_has (b_Tx_has ⟨fun z2 => absurd z z2, fun _ => ?_⟩), fun _ => e34 _ _ _, fun z => absurd rfl z⟩
        rw [q6 (by omega)]
        exact ⟨Or.inl rfl, rfl⟩
      · refine b_Rd_clause_19 ⟨0, m, cl_Tx_has (b_Tx_has ⟨fun _ => ?_, fun z3 => absurd z z3⟩), fun _ => e34 _ _ _, fun z => absurd rfl z⟩
        rw [q7 (by omega)]
        exact ⟨Or.inl rfl, rfl⟩
      · rw [ite_z1] at z2
        by_cases h16 : tkT B L q = 16
        · rw [h16, show (16 : Int) - 16 = 0 from rfl, o2, q6 h16] at z2
          omega
        · have h17 : tkT B L q = 17 := by omega
          rw [h17, show (17 : Int) - 16 = 1 from rfl, o3, q7 h17] at z2
          omega
    -- again
    have again : ∀ f : Int, (tkT B L q = 16 ∧ f = 6) ∨ (tkT B L q = 17 ∧ f = 9) → m 82 f = 1 → ∃ m', Cl 84 k_Rd_clause [(15, 80)] m (some (0, 0), m') ∧ flt_ m' 4 q ∧ FRd m m' ∧ Cl 15 k_Mo_clause [(18, 400)] N (some (0, 4), N) := by
      intro f hf h1
      obtain ⟨m', k1, k2, k3⟩ := refuse_c (d := 83) (f := 4) hC
      have hh : Cl 83 k_Tx_has [(16, 82), (0, m 80 6)] m (some (0, 1), m) := by
        refine cl_Tx_has (b_Tx_has ⟨fun z => ?_, fun z => ?_⟩)
        · have : f = 9 := by omega
          rw [← this, h1]
          exact ⟨Or.inr rfl, rfl⟩
        · have : f = 6 := by omega
          rw [← this, h1]
          exact ⟨Or.inr rfl, rfl⟩
      have e19 : ∀ u2 u3 : Vv, Ev 84 K_Rd_clause 2 19 [(15, 80), (0, m 80 6), u2, u3] [] m (some (0, 0), m') := fun u2 u3 => b_Rd_clause_19 ⟨1, m, hh, fun z => absurd z (by decide), fun _ => ⟨0, m', k1, Or.inl rfl, rfl⟩⟩
      refine ⟨m', cl_Rd_clause (b_Rd_clause ⟨fun z => by omega, fun _ => ⟨fun _ => ⟨fun z => e19 _ _, fun z => ⟨fun z2 => by omega, fun z2 => e19 _ _⟩⟩, fun z => by omega⟩⟩), k2, FRd_Cl k3, cl_Mo_clause (b_Mo_clause ⟨_, _, hso, fun _ => ⟨fun z => by omega, fun z => ⟨_, _, c_Mo_has (by omega) (by omega), fun z2 => ?_, fun _ => rfl⟩⟩, fun z => by omega⟩)⟩
      rw [ite_z] at z2
      rcases hf with ⟨y1, rfl⟩ | ⟨y1, rfl⟩
      · rw [y1, show (16 : Int) - 16 = 0 from rfl, o2] at z2
        exact absurd h1 z2
      · rw [y1, show (17 : Int) - 16 = 1 from rfl, o3] at z2
        exact absurd h1 z2
    by_cases h16 : tkT B L q = 16 ∧ m 82 6 = 1
    · obtain ⟨m', k1, k2, k3, k4⟩ := again 6 (Or.inl ⟨h16.1, rfl⟩) h16.2
      exact Or.inr ⟨4, q, m', N, by decide, k1, k2, k3, k4, hp, hFe⟩
    by_cases h17 : tkT B L q = 17 ∧ m 82 9 = 1
    · obtain ⟨m', k1, k2, k3, k4⟩ := again 9 (Or.inr ⟨h17.1, rfl⟩) h17.2
      exact Or.inr ⟨4, q, m', N, by decide, k1, k2, k3, k4, hp, hFe⟩
    by_cases hn : n = 24
    · obtain ⟨m', k1, k2, k3, k4⟩ := late hn (fun z => by omega) (fun z => by omega)
      exact Or.inr ⟨6, q, m', N, by decide, k1, k2, k3, k4, hp, hFe⟩
    · clear late again
      by_cases y6 : tkT B L q = 16
      · exact clause_f hT h0 h' (by omega) (by omega) (by omega)
      by_cases y7 : tkT B L q = 17
      · exact clause_g hT h0 h' (by omega) (by omega) (by omega)
      · exact clause_d (k := tkT B L q - 16) hT h0 h' (by omega) (by omega) (by omega)
  · have hsv : srt_ (tkT B L q) = -1 := if_neg hk
    rw [hsv] at hso
    obtain ⟨m', k1, k2, k3⟩ := refuse_c (d := 83) (f := 1) hC
    exact Or.inr ⟨1, q, m', N, by decide, cl_Rd_clause (b_Rd_clause ⟨fun _ => ⟨0, m', k1, Or.inl rfl, rfl⟩, fun z => ⟨fun z2 => by omega, fun _ => ⟨0, m', k1, Or.inl rfl, rfl⟩⟩⟩), k2, FRd_Cl k3, cl_Mo_clause (b_Mo_clause ⟨_, _, hso, fun z => absurd z (by decide), fun _ => rfl⟩), hp, hFe⟩
/-- all of them -/
theorem clauses_s {B : Int → Int} {L : Nat} {t : Int} (hT : TPE B L) (h0 : 0 ≤ t ∧ t ≤ 2043) : ∀ (k : Nat) (m N : Mm) (q s w n : Nat) (u : Vv), L - q < k → KS_ B L t m N q s w n →
    (∃ m' N' q' s' w' n', Ev 85 K_Rd_reads 2 22 [(15, 80), (0, (n : Nat))] [] m (some (0, 1), m') ∧ Ev 16 K_Mo_readText 0 25 [(18, 400), u] [] N (some (0, 0), N') ∧ KS_ B L t m' N' q' s' w' n' ∧ FRs m m' ∧ FRe t N N') ∨ (∃ f p m' N', 0 < f ∧ Ev 85 K_Rd_reads 2 22 [(15, 80), (0, (n : Nat))] [] m (some (0, 0), m') ∧ flt_ m' f p ∧ FRd m m' ∧ Ev 16 K_Mo_readText 0 25 [(18, 400), u] [] N (some (0, f), N') ∧ N' 400 9 = (p : Nat) ∧ FRe t N N') := by
  intro k
  induction k with
  | zero => intro m N q s w n u hk; omega
  | succ k ih =>
    intro m N q s w n u hk h
    have h' := h
    obtain ⟨⟨c1, c2, c3⟩, ⟨d1, d2, d3, d4⟩, ⟨l1, l2, l3⟩, ⟨t1, t2, t3, t4, t5, t6⟩⟩ := h
    have e6 : m 80 6 = tkT B L q := c1.2.2.2.1
    have e10 : N 400 10 = tkM B L q := d1.2.2.2.1
    have e0 := tk_0 (q := q) hT.2
    by_cases hz : tkT B L q = 0
    · exact Or.inl ⟨m, N, q, s, w, n, b_Rd_reads_22 ⟨fun z => rfl, fun _ => ⟨fun _ => rfl, fun z => absurd (by rw [e6]; exact hz) z⟩⟩, b_Mo_readText_25 ⟨fun _ => rfl, fun z => absurd (by rw [e10]; exact e0.mp hz) z⟩, h', fun _ _ _ _ => rfl, fun _ _ _ _ _ => rfl⟩
    · have cc : ∀ (r : Option Vv × Mm), (∃ (v1 : Int) (m1 : Mm), Cl 84 k_Rd_clause [(15, 80)] m (some (0, v1), m1) ∧ ((¬ v1 = 0 → Ev 85 K_Rd_reads 2 22 [(15, 80), (0, w32 ((n : Nat) + 1))] [] m1 r) ∧ (¬ (¬ v1 = 0) → r = (some (0, 0), m1)))) → Ev 85 K_Rd_reads 2 22 [(15, 80), (0, (n : Nat))] [] m r := by
        have hn24 : ¬ (24 < (n : Int)) := by omega
        exact fun r hr => b_Rd_reads_22 ⟨fun z => absurd z hn24, fun _ => ⟨fun z => absurd (by rw [← e6]; exact z) hz, fun _ => hr⟩⟩
      have cm : ∀ (r : Option Vv × Mm), (∃ (v1 : Int) (m1 : Mm), Cl 15 k_Mo_clause [(18, 400)] N (some (0, v1), m1) ∧ ((v1 = 0 → Ev 16 K_Mo_readText 0 25 [(18, 400), (0, v1)] [] m1 r) ∧ (¬ (v1 = 0) → r = (some (0, v1), m1)))) → Ev 16 K_Mo_readText 0 25 [(18, 400), u] [] N r := fun r hr => b_Mo_readText_25 ⟨fun z => absurd (e0.mpr (by rw [← e10]; exact z)) hz, fun _ => hr⟩
      rcases clause_s hT h0 h' with ⟨m1, N1, q1, s1, w1, g1, g2, g3, g4, g5, g6⟩ | ⟨f, p, m1, N1, f0, g1, g2, g3, g4, g5, g6⟩
      · have hq1 := g3.2.2.1.2.2
        rcases ih m1 N1 q1 s1 w1 (n + 1) (0, 0) (by omega) g3 with ⟨m', N', q', s', w', n', i1, i2, i3, i4, i5⟩ | ⟨f, p, m', N', f0, i1, i2, i3, i4, i5, i6⟩
        · exact Or.inl ⟨m', N', q', s', w', n', cc _ ⟨1, m1, g1, fun _ => by rw [w32s (by omega)]; exact i1, fun z => absurd (by decide) z⟩, cm _ ⟨0, N1, g2, fun _ => i2, fun z => absurd rfl z⟩, i3, g5.tr i4, g6.tr i5⟩
        · exact Or.inr ⟨f, p, m', N', f0, cc _ ⟨1, m1, g1, fun _ => by rw [w32s (by omega)]; exact i1, fun z => absurd (by decide) z⟩, i2, g5.tr i3, cm _ ⟨0, N1, g2, fun _ => i4, fun z => absurd rfl z⟩, i5, g6.tr i6⟩
      · exact Or.inr ⟨f, p, m1, N1, f0, cc _ ⟨0, m1, g1, fun z => absurd rfl z, fun _ => rfl⟩, g2, g3, cm _ ⟨f, N1, g4, fun z => by omega, fun _ => rfl⟩, g5, g6⟩
/-- what a reading leaves as it was: the class's -/
def FRr (m m' : Mm) : Prop := ∀ a b, ¬ (a = 80 ∧ 3 ≤ b) → ¬ (82 ≤ a ∧ a ≤ 86) → m' a b = m a b
theorem read_s {B : Int → Int} {L T : Nat} (hT : TPE B L) (hT4 : T < 4) {m N : Mm} (h1 : m 80 1 = (L : Nat)) (hB : ∀ i : Nat, i < L → m 81 (i : Nat) = B (i : Nat)) (n1 : N 400 5 = (L : Nat)) (nB : ∀ i : Nat, i < L → N 405 (i : Nat) = B (i : Nat)) (n2 : N 401 2 = (T : Nat)) :
    (∃ m' N' q s w n, Cl 86 k_Rd_reads [(15, 80)] m (some (0, 1), m') ∧ Cl 17 k_Mo_readText [(18, 400)] N (some (0, 0), N') ∧ KS_ B L (681 * (T : Int)) m' N' q s w n ∧ m' 80 3 = 1 ∧ m' 80 4 = 0 ∧ m' 80 5 = -1 ∧ FRr m m' ∧ FRe (681 * (T : Int)) N N')
    ∨ (∃ f p m' N', 0 < f ∧ Cl 86 k_Rd_reads [(15, 80)] m (some (0, 0), m') ∧ flt_ m' f p ∧ m' 80 3 = 1 ∧ FRr m m' ∧ Cl 17 k_Mo_readText [(18, 400)] N (some (0, f), N') ∧ N' 400 9 = (p : Nat) ∧ FRe (681 * (T : Int)) N N') := by
  have h0 : 0 ≤ 681 * (T : Int) ∧ 681 * (T : Int) ≤ 2043 := by omega
  -- the class begins
  obtain ⟨m6, hm6⟩ : ∃ m6, m6 = up (up (up (up (up (up (up (up (up m 80 3 1) 80 4 0) 80 5 (-1)) 82 0 0) 82 5 0) 82 6 0) 82 9 0) 80 11 0) 80 9 0 := ⟨_, rfl⟩
  have E : ∀ a b, ¬ (a = 80 ∧ 3 ≤ b) → a ≠ 82 → m6 a b = m a b := fun a b x y => by
    rw [hm6]
    unfold up
    rw [if_neg (by omega), if_neg (by omega), if_neg (by omega), if_neg (by omega), if_neg (by omega), if_neg (by omega), if_neg (by omega), if_neg (by omega), if_neg (by omega)]
  have v3 : m6 80 3 = 1 := by rw [hm6, up_nk (by omega), up_nk (by omega), up_ne (by omega), up_ne (by omega), up_ne (by omega), up_ne (by omega), up_nk (by omega), up_nk (by omega), up_eq]
  have v4 : m6 80 4 = 0 := by rw [hm6, up_nk (by omega), up_nk (by omega), up_ne (by omega), up_ne (by omega), up_ne (by omega), up_ne (by omega), up_nk (by omega), up_eq]
  have v5 : m6 80 5 = -1 := by rw [hm6, up_nk (by omega), up_nk (by omega), up_ne (by omega), up_ne (by omega), up_ne (by omega), up_ne (by omega), up_eq]
  have v9 : m6 80 9 = ((0 : Nat) : Int) := by rw [hm6, up_eq]; rfl
  have v11 : m6 80 11 = 0 := by rw [hm6, up_nk (by omega), up_eq]
  have w0 : m6 82 0 = 0 := by rw [hm6, up_ne (by omega), up_ne (by omega), up_nk (by omega), up_nk (by omega), up_nk (by omega), up_eq]
  have w5 : m6 82 5 = 0 := by rw [hm6, up_ne (by omega), up_ne (by omega), up_nk (by omega), up_nk (by omega), up_eq]
  have w6 : m6 82 6 = 0 := by rw [hm6, up_ne (by omega), up_ne (by omega), up_nk (by omega), up_eq]
  have w9 : m6 82 9 = 0 := by rw [hm6, up_ne (by omega), up_ne (by omega), up_eq]
  obtain ⟨m7, a1, a2, a3, a4, a5, a6⟩ := c_Rd_advance (d := 83) (p := 0) (m := m6) (B := B) hT.1 (Nat.zero_le _) (by rw [E _ _ (by omega) (by omega)]; exact h1) v9 (fun i hi => by rw [E _ _ (by omega) (by omega)]; exact hB i hi) hT.2
  have cb : ∀ r, Ev 86 K_Rd_reads 2 22 [(15, 80), (0, ((0 : Nat) : Int))] [] m7 r → Cl 86 k_Rd_reads [(15, 80)] m r := fun r hr => by
    have hcl : Cl 85 k_Tx_clear [(16, 82)] (up (up (up m 80 3 1) 80 4 0) 80 5 (-1)) (none, up (up (up (up (up (up (up m 80 3 1) 80 4 0) 80 5 (-1)) 82 0 0) 82 5 0) 82 6 0) 82 9 0) := by
      refine cl_Tx_clear (b_Tx_clear ?_)
      rintro x1 rfl x2 rfl x3 rfl x4 rfl
      rfl
    refine cl_Rd_reads (b_Rd_reads ?_)
    rintro x1 rfl x2 rfl x3 rfl
    refine ⟨_, hcl, ?_⟩
    rintro x5 rfl x6 rfl
    rw [← hm6]
    exact ⟨m7, a1, hr⟩
  -- the model begins
  have et : w32 (681 * (T : Int)) = 681 * (T : Int) := w32n (by omega) (by omega)
  generalize ht : 681 * (T : Int) = t at *
  obtain ⟨N5, hN5⟩ : ∃ N5, N5 = up (up (up (up (up N 400 13 t) 403 t 0) 400 14 0) 400 20 0) 400 8 0 := ⟨_, rfl⟩
  have F : ∀ a b, ¬ (a = 400 ∧ 8 ≤ b ∧ b ≤ 20) → ¬ (a = 403 ∧ b = t) → N5 a b = N a b := fun a b x y => by
    rw [hN5]
    unfold up
    rw [if_neg (by omega), if_neg (by omega), if_neg (by omega), if_neg (by omega), if_neg (by omega)]
  have x13 : N5 400 13 = t := by rw [hN5, up_nk (by omega), up_nk (by omega), up_nk (by omega), up_ne (by omega), up_eq]
  have x14 : N5 400 14 = 0 := by rw [hN5, up_nk (by omega), up_nk (by omega), up_eq]
  have x20 : N5 400 20 = 0 := by rw [hN5, up_nk (by omega), up_eq]
  have x8 : N5 400 8 = ((0 : Nat) : Int) := by rw [hN5, up_eq]; rfl
  have xt : N5 403 t = 0 := by rw [hN5, up_ne (by omega), up_ne (by omega), up_ne (by omega), up_eq]
  obtain ⟨N6, b1, b2, b3, b4, b5, b6, b7⟩ := c_Mo_nextToken (d := 15) (p := 0) (m := N5) (B := B) hT.1 (Nat.zero_le _) (by rw [F _ _ (by omega) (by omega)]; exact n1) x8 (fun i hi => by rw [F _ _ (by omega) (by omega)]; exact nB i hi) hT.2
  have mb : ∀ r, Ev 17 K_Mo_readText 0 25 [(18, 400), (9, 0)] [] N6 r → Cl 17 k_Mo_readText [(18, 400)] N r := fun r hr => by
    refine cl_Mo_readText (b_Mo_readText ?_)
    rw [n2, ht, et]
    rintro x1 rfl
    rw [up_eq]
    refine ⟨by omega, ?_⟩
    rintro x2 rfl x3 rfl x4 rfl x5 rfl
    rw [← hN5]
    exact ⟨N6, b1, hr⟩
  obtain ⟨s1, s2, _⟩ := skW_v (P := blB) (B := B) (L - 0) 0
  have hq : tkQ B L 0 ≤ L := by unfold tkQ; omega
  have hKS : KS_ B L t m7 N6 (tkQ B L 0) 0 0 0 := by
    refine ⟨⟨⟨by rw [a6 _ _ (by omega), E _ _ (by omega) (by omega)]; exact h1, fun i hi => by rw [a6 _ _ (by omega), E _ _ (by omega) (by omega)]; exact hB i hi, hq, a2, a3, a4, a5⟩, by rw [a6 _ _ (by omega), w5]; rfl, by rw [a6 _ _ (by omega)]; exact v11⟩, ⟨⟨by rw [b7 _ _ (by omega), F _ _ (by omega) (by omega)]; exact n1, fun i hi => by rw [b7 _ _ (by omega), F _ _ (by omega) (by omega)]; exact nB i hi, hq, b2, b3, b4, b5, b6⟩, by rw [b7 _ _ (by omega)]; exact x13, by rw [b7 _ _ (by omega), x14]; rfl, by rw [b7 _ _ (by omega), xt]; rfl⟩, ⟨by omega, by omega, hq⟩, ⟨by rw [a6 _ _ (by omega), w0]; rfl, by omega, fun i hi => by omega, Or.inl ⟨by rw [a6 _ _ (by omega)]; exact w6, fun i hi => by omega⟩, Or.inl ⟨by rw [a6 _ _ (by omega)]; exact w9, fun i hi => by omega⟩, ?_⟩⟩
    rw [b7 _ _ (by omega), x20, a6 _ _ (by omega), a6 _ _ (by omega), w6, w9]
    rfl
  have hFe : FRe t N N6 := fun a b x y _ => by rw [b7 a b (by omega), F a b x (by omega)]
  have hFr : ∀ a b, ¬ (a = 80 ∧ 3 ≤ b) → ¬ (82 ≤ a ∧ a ≤ 86) → m7 a b = m a b := fun a b x y => by rw [a6 a b (by omega), E a b x (by omega)]
  rcases clauses_s hT h0 (L - tkQ B L 0 + 1) m7 N6 _ 0 0 0 (9, 0) (by omega) hKS with ⟨m', N', q', s', w', n', i1, i2, i3, i4, i5⟩ | ⟨f, p, m', N', f0, i1, i2, i3, i4, i5, i6⟩
  · refine Or.inl ⟨m', N', q', s', w', n', cb _ (i1.up (by decide)), mb _ (i2.up (by decide)), i3, ?_, ?_, ?_, fun a b x y => by rw [i4 a b (by omega) y]; exact hFr a b x y, hFe.tr i5⟩
    · rw [i4 _ _ (by omega) (by omega), a6 _ _ (by omega)]; exact v3
    · rw [i4 _ _ (by omega) (by omega), a6 _ _ (by omega)]; exact v4
    · rw [i4 _ _ (by omega) (by omega), a6 _ _ (by omega)]; exact v5
  · refine Or.inr ⟨f, p, m', N', f0, cb _ (i1.up (by decide)), i2, ?_, fun a b x y => by rw [i3 a b (by omega) y]; exact hFr a b x y, mb _ (i4.up (by decide)), i5, hFe.tr i6⟩
    rw [i3 _ _ (by omega) (by omega), a6 _ _ (by omega)]; exact v3
