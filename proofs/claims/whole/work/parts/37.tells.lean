/-! WHAT IS TOLD: cows, gates, rule, what was said -/
theorem CH_le {S : Int → Int} (h4 : 0 ≤ S 4 ∧ S 4 ≤ 30) (h : CH S) : ∀ i : Nat, (i : Int) < S 4 → S (56 + 46 * i) ≤ S 1 := by
  have key : ∀ (n i : Nat), (i : Int) + n + 1 = S 4 → S (56 + 46 * i) ≤ S 1 := by
    intro n
    induction n with
    | zero =>
      intro i hi
      have := (h.2 i (by omega)).1.2.1
      unfold nT at this
      rw [if_neg (by omega)] at this
      exact this
    | succ n ih =>
      intro i hi
      have := (h.2 i (by omega)).1.2.1
      unfold nT at this
      rw [if_pos (by omega)] at this
      have h2 := ih (i + 1) (by omega)
      rw [show ((i + 1 : Nat) : Int) = (i : Int) + 1 from rfl] at h2
      omega
  intro i hi
  exact key (S 4 - i - 1).toNat i (by omega)
def cw_S (S : Int → Int) (x y : Int) : Int → Int := ups (ups (ups (ups (ups S (21 + 2 * S 1) x) (22 + 2 * S 1) y) (11 + 2 * S 1) x) (12 + 2 * S 1) y) 1 (S 1 + 1)
theorem cw_S_v {S : Int → Int} {x y : Int} (h : 0 ≤ S 1 ∧ S 1 < 5) : cw_S S x y 1 = S 1 + 1 ∧ cw_S S x y (11 + 2 * S 1) = x ∧ cw_S S x y (12 + 2 * S 1) = y ∧ cw_S S x y (21 + 2 * S 1) = x ∧ cw_S S x y (22 + 2 * S 1) = y ∧ ∀ k, k ≠ 1 → k ≠ 11 + 2 * S 1 → k ≠ 12 + 2 * S 1 → k ≠ 21 + 2 * S 1 → k ≠ 22 + 2 * S 1 → cw_S S x y k = S k := by
  unfold cw_S
  refine ⟨ups_eq, ?_, ?_, ?_, ?_, ?_⟩
  · rw [ups_ne (by omega), ups_ne (by omega), ups_eq]
  · rw [ups_ne (by omega), ups_eq]
  · rw [ups_ne (by omega), ups_ne (by omega), ups_ne (by omega), ups_ne (by omega), ups_eq]
  · rw [ups_ne (by omega), ups_ne (by omega), ups_ne (by omega), ups_eq]
  · intro k h1 h2 h3 h5 h6
    rw [ups_ne h1, ups_ne h3, ups_ne h2, ups_ne h6, ups_ne h5]
theorem cw_S_CH {S : Int → Int} {x y : Int} (h : 0 ≤ S 1 ∧ S 1 < 5) (h4 : 0 ≤ S 4 ∧ S 4 ≤ 30) (hx : cellI x) (hy : wayI y) (hC : CH S) : CH (cw_S S x y) := by
  obtain ⟨v1, v2, v3, v4, v5, v6⟩ := cw_S_v (x := x) (y := y) h
  have hle := CH_le h4 hC
  obtain ⟨a1, a2⟩ := hC
  have e4 : cw_S S x y 4 = S 4 := v6 4 (by omega) (by omega) (by omega) (by omega) (by omega)
  have eb : ∀ k, 56 ≤ k → cw_S S x y k = S k := fun k hk => v6 k (by omega) (by omega) (by omega) (by omega) (by omega)
  refine ⟨fun c hc => ?_, fun i hi => ?_⟩
  · rw [v1] at hc
    by_cases hcT : (c : Int) = S 1
    · rw [hcT, v4, v5]; exact ⟨hx, hy⟩
    · rw [v6 _ (by omega) (by omega) (by omega) (by omega) (by omega), v6 _ (by omega) (by omega) (by omega) (by omega) (by omega)]
      exact a1 c (by omega)
  · rw [e4] at hi
    obtain ⟨q1, q2⟩ := a2 i hi
    have hli := hle i hi
    rw [eb _ (by omega)]
    by_cases hl : (i : Int) + 1 < S 4
    · have hl2 := hle (i + 1) (by omega)
      rw [show ((i + 1 : Nat) : Int) = (i : Int) + 1 from rfl] at hl2
      have e1 : nT (cw_S S x y) i = nT S i := by
        unfold nT
        rw [e4, if_pos hl, if_pos hl, eb _ (by omega)]
      have e0 : nT S i = S (56 + 46 * ((i : Int) + 1)) := by
        unfold nT
        rw [if_pos hl]
      have e2 : ∀ k, 0 ≤ k → nR (cw_S S x y) i k = nR S i k := by
        intro k hk
        unfold nR
        rw [e4, if_pos hl, if_pos hl, eb _ (by omega)]
      rw [e1]
      refine ⟨q1, fun c h1 h2 => ?_⟩
      rw [e2 _ (by omega), e2 _ (by omega), v6 (21 + 2 * c) (by omega) (by omega) (by omega) (by omega) (by omega), v6 (22 + 2 * c) (by omega) (by omega) (by omega) (by omega) (by omega)]
      exact q2 c h1 h2
    · have e1 : nT (cw_S S x y) i = S 1 + 1 := by
        unfold nT
        rw [e4, if_neg hl, v1]
      have e0 : nT S i = S 1 := by
        unfold nT
        rw [if_neg hl]
      rw [e1]
      refine ⟨by omega, fun c h1 h2 => ?_⟩
      have e2 : ∀ k, nR (cw_S S x y) i k = cw_S S x y (6 + k) := by
        intro k
        unfold nR
        rw [e4, if_neg hl]
      have e3 : ∀ k, nR S i k = S (6 + k) := by
        intro k
        unfold nR
        rw [if_neg hl]
      rw [e2, e2, show (6 : Int) + (5 + 2 * c) = 11 + 2 * c by omega, show (6 : Int) + (6 + 2 * c) = 12 + 2 * c by omega]
      by_cases hcT : (c : Int) = S 1
      · rw [hcT, v2, v3, v4, v5]; exact ⟨rfl, rfl⟩
      · have := q2 c h1 (by omega)
        rw [e3, e3, show (6 : Int) + (5 + 2 * c) = 11 + 2 * c by omega, show (6 : Int) + (6 + 2 * c) = 12 + 2 * c by omega] at this
        rw [v6 (11 + 2 * c) (by omega) (by omega) (by omega) (by omega) (by omega), v6 (12 + 2 * c) (by omega) (by omega) (by omega) (by omega) (by omega), v6 (21 + 2 * c) (by omega) (by omega) (by omega) (by omega) (by omega), v6 (22 + 2 * c) (by omega) (by omega) (by omega) (by omega) (by omega)]
        exact this
theorem c_La_tellCow {d : Nat} {m : Mm} {o : Int} {S : Int → Int} {x y : Int} (h : LSd m o S) (hk : LSk m o S) (hT : S 1 < 5) (hx : cellI x) (hy : wayI y) : ∃ m', Cl d k_La_tellCow [(13, o), (0, x), (0, y)] m (some (0, S 1), m') ∧ LSd m' o (cw_S S x y) ∧ LSk m' o (cw_S S x y) ∧ (∀ a b, a < o ∨ o + 2 < a → m' a b = m a b) := by
  obtain ⟨⟨t1, t2, t3⟩, t4, t5, t6, t7⟩ := LSd_t h
  obtain ⟨v1, v2, v3, v4, v5, v6⟩ := cw_S_v (S := S) (x := x) (y := y) (by omega)
  obtain ⟨T, hTn⟩ := Int.eq_ofNat_of_zero_le t1
  obtain ⟨a, ha⟩ := Int.eq_ofNat_of_zero_le t5.1
  have hTT : (S 1).toNat = T := by omega
  rw [hTT] at t4
  have hp := p2le (k := T) (n := 4) (by omega)
  have hnd : ndf a (2 ^ T) = a := by
    refine bits_eq fun i => ?_
    rw [ndf_bit, Nat.testBit_two_pow]
    by_cases hi : T = i
    · subst hi
      rw [Nat.testBit_lt_two_pow (by omega)]
      rfl
    · simp [hi]
  obtain ⟨M, hM⟩ : ∃ M, M = up (up (up (up m (o + 1) (S 1) x) (o + 2) (S 1) y) o 4 (m o 4)) o 1 (S 1 + 1) := ⟨_, rfl⟩
  have M1 : M o 1 = S 1 + 1 := by rw [hM, up_eq]
  have M4 : M o 4 = m o 4 := by rw [hM, up_nk (by omega), up_eq]
  have Mo : ∀ b, b ≠ 1 → M o b = m o b := fun b hb => by
    by_cases h4 : b = 4
    · rw [h4, M4]
    · rw [hM, up_nk hb, up_nk h4, up_ne (by omega), up_ne (by omega)]
  have Ma : M (o + 1) (S 1) = x := by rw [hM, up_ne (by omega), up_ne (by omega), up_ne (by omega), up_eq]
  have Mb : M (o + 2) (S 1) = y := by rw [hM, up_ne (by omega), up_ne (by omega), up_eq]
  have Mx : ∀ c, c ≠ S 1 → M (o + 1) c = m (o + 1) c ∧ M (o + 2) c = m (o + 2) c := fun c hc => by
    refine ⟨?_, ?_⟩
    · rw [hM, up_ne (by omega), up_ne (by omega), up_ne (by omega), up_nk hc]
    · rw [hM, up_ne (by omega), up_ne (by omega), up_nk hc, up_ne (by omega)]
  have Mf : ∀ a b, a < o ∨ o + 2 < a → M a b = m a b := fun a b hab => by
    rw [hM, up_ne (by omega), up_ne (by omega), up_ne (by omega), up_ne (by omega)]
  refine ⟨M, cl_La_tellCow (b_La_tellCow ⟨fun _ => ?_, fun z => absurd (by omega) z⟩), ?_, ?_, Mf⟩
  · rw [t3]
    refine ⟨by omega, ?_⟩
    intro m1 hm1
    have e1 : m1 o 1 = S 1 := by rw [hm1, up_ne (by omega), t3]
    rw [e1]
    refine ⟨by omega, ?_⟩
    intro m2 hm2 m3 hm3 m4 hm4
    have e2 : m2 o 4 = m o 4 := by rw [hm2, up_ne (by omega), hm1, up_ne (by omega)]
    have e3 : m2 o 1 = S 1 := by rw [hm2, up_ne (by omega), e1]
    have e4 : ian (m o 4) (ixo (isl 1 (S 1)) (-1)) = m o 4 := by
      rw [ha, hTn, isl1 (by omega), ian_not (by omega) (by omega), hnd]
    have e5 : m3 o 1 = S 1 := by rw [hm3, up_nk (by omega), e3]
    rw [e5, w32n (by omega) (by omega)] at hm4
    rw [e2, e3, e4] at hm3
    have e6 : m4 = M := by rw [hm4, hm3, hm2, hm1, hM]
    rw [e6, M1, w32n (by omega) (by omega), show S 1 + 1 - 1 = S 1 by omega]
  · unfold LSd
    rw [v1]
    have hc0 := fun (c : Int) (hc : 0 ≤ c ∧ c < S 1) => LSd_c h hc
    obtain ⟨a1, a2, a3, a4, a5, a6⟩ := h
    refine ⟨?_, ?_, ?_, ?_, ?_, ?_⟩
    · show hv20 (cw_S S x y (6 + 2)) ∧ hv20 (cw_S S x y (6 + 3)) ∧ _ = ((cmb (cw_S S x y (6 + 2)) (cw_S S x y (6 + 3)) : Nat) : Int)
      rw [v6 _ (by omega) (by omega) (by omega) (by omega) (by omega), v6 _ (by omega) (by omega) (by omega) (by omega) (by omega), Mo _ (by omega)]
      exact a1
    · rw [M1]; omega
    · show 0 ≤ cw_S S x y (6 + 0) ∧ cw_S S x y (6 + 0) ≤ 9999 ∧ _ = cw_S S x y (6 + 0)
      rw [v6 _ (by omega) (by omega) (by omega) (by omega) (by omega), Mo _ (by omega)]
      exact a3
    · show 0 ≤ cw_S S x y (6 + 1) ∧ cw_S S x y (6 + 1) < 30817 ∧ _ = cw_S S x y (6 + 1)
      rw [v6 _ (by omega) (by omega) (by omega) (by omega) (by omega), Mo _ (by omega)]
      exact a4
    · rw [M4]
      have := p2le (k := T) (n := (S 1 + 1).toNat) (by omega)
      omega
    · intro c hc
      show cellI _ ∧ wayI _ ∧ cw_S S x y (6 + (5 + 2 * (c : Int))) = _ ∧ cw_S S x y (6 + (6 + 2 * (c : Int))) = _
      rw [show (6 : Int) + (5 + 2 * c) = 11 + 2 * c by omega, show (6 : Int) + (6 + 2 * c) = 12 + 2 * c by omega, M4]
      by_cases hcT : (c : Int) = S 1
      · rw [hcT, v2, v3, Ma, Mb, if_neg]
        · exact ⟨hx, hy, rfl, rfl⟩
        · rw [ha, hTn]
          intro z
          have : a.testBit T = true := z
          rw [Nat.testBit_lt_two_pow (by omega)] at this
          cases this
      · rw [(Mx _ hcT).1, (Mx _ hcT).2, v6 _ (by omega) (by omega) (by omega) (by omega) (by omega), v6 _ (by omega) (by omega) (by omega) (by omega) (by omega)]
        exact hc0 (c : Int) (by omega)
  · exact LSk_con2 hk (Mo _ (by omega)) (fun b => Mf _ b (by omega)) ⟨v6 _ (by omega) (by omega) (by omega) (by omega) (by omega), fun k hk => v6 _ (by omega) (by omega) (by omega) (by omega) (by omega)⟩
def cw_A (S : Int → Int) (x y : Int) : Prop := (0 ≤ x ∧ x < 25) ∧ (0 ≤ y ∧ y < 4) ∧ S 1 < 5
theorem FC_cow {m m' : Mm} {S : Int → Int} {x y : Int} (h : FC m 128 S) (hA : cw_A S x y) (hd : LSd m' 129 (cw_S S x y)) (hk : LSk m' 129 (cw_S S x y)) (hfr : ∀ a b, a < 129 ∨ 131 < a → m' a b = m a b) : FC m' 128 (cw_S S x y) := by
  obtain ⟨⟨b1, b2⟩, ⟨b3, b4⟩, b5, b6⟩ := h
  have ht := (LSd_t b1).1
  obtain ⟨v1, v2, v3, v4, v5, v6⟩ := cw_S_v (S := S) (x := x) (y := y) ⟨ht.1, hA.2.2⟩
  have hT5 := hA.2.2
  have e4 : cw_S S x y 4 = S 4 := v6 4 (by omega) (by omega) (by omega) (by omega) (by omega)
  have eb : ∀ k, 56 ≤ k → cw_S S x y k = S k := fun k hk => v6 k (by omega) (by omega) (by omega) (by omega) (by omega)
  refine ⟨⟨hd, hk⟩, ⟨?_, ?_⟩, cw_S_CH ⟨ht.1, hA.2.2⟩ (by omega) hA.1 hA.2.1 b5, ?_⟩
  · rw [e4, hfr _ _ (by omega), hfr _ _ (by omega)]; exact b3
  · intro i hi
    rw [e4] at hi
    obtain ⟨q1, q2⟩ := b4 i hi
    rw [hfr 128 2 (by omega), eb (56 + 46 * i) (by omega)]
    exact ⟨LC_con q1 (fun a b _ _ => hfr a b (by omega)) (fun k h0 hk => eb _ (by omega)), LB_con q2 (fun b => hfr _ b (by omega)) (fun b => hfr _ b (by omega)) (eb _ (by omega)) (fun i h0 hi => eb _ (by omega))⟩
  · exact FO_con b6 (fun b hb => hfr _ b (by omega)) (fun b => hfr _ b (by omega)) (fun b => hfr _ b (by omega)) (fun k h0 hk h1 h4' h6 => v6 k (by omega) (by omega) (by omega) (by omega) (by omega))
theorem c_Th_cow {d : Nat} {m : Mm} {S : Int → Int} {x y : Int} (h : FC m 128 S) : ∃ v m', Cl (d + 1) k_Th_cow [(17, 0), (0, x), (0, y)] m (some (0, v), m') ∧ FRC m m' ∧ (cw_A S x y → v = S 1 ∧ FC m' 128 (cw_S S x y)) ∧ (¬ cw_A S x y → v = -1 ∧ m' = m) := by
  have ht := (LSd_t h.1.1).1
  by_cases hA : cw_A S x y
  · obtain ⟨m1, a1, a2, a3, a4⟩ := c_La_tellCow (d := d) h.1.1 h.1.2 hA.2.2 hA.1 hA.2.1
    refine ⟨_, m1, cl_Th_cow (b_Th_cow ⟨_, _, c_Pl_isCell, fun z => ?_, fun _ => ⟨_, _, c_Pl_isWay, fun _ => ⟨_, _, a1, rfl⟩, fun z => ?_⟩⟩), fun a b q _ _ => a4 a b (by omega), fun _ => ⟨rfl, FC_cow h hA a2 a3 (fun a b hab => a4 a b (by omega))⟩, fun z => absurd hA z⟩
    · rw [ite_z] at z; exact absurd hA.1 z
    · rw [ite_z1] at z; exact absurd hA.2.1 z
  · refine ⟨-1, m, cl_Th_cow (b_Th_cow ⟨_, _, c_Pl_isCell, fun z => rfl, fun z => ⟨_, _, c_Pl_isWay, fun z2 => ⟨_, _, cl_La_tellCow (b_La_tellCow ⟨fun z3 => ?_, fun _ => rfl⟩), rfl⟩, fun _ => rfl⟩⟩), FRC_refl, fun z => absurd z hA, fun _ => ⟨rfl, rfl⟩⟩
    rw [ite_z1] at z z2
    have e : m 129 1 = S 1 := ht.2.2
    rw [e] at z3
    exact absurd ⟨z, z2, z3⟩ hA
theorem c_Mo_cow {d : Nat} {m : Mm} {x y : Int} (h : RM (m 401)) : ∃ v m', Cl (d + 2) k_Mo_cow [(18, 400), (0, x), (0, y)] m (some (0, v), m') ∧ FRM m m' ∧ (cw_A (m 401) x y → v = m 401 1 ∧ m' 401 = cw_S (m 401) x y) ∧ (¬ cw_A (m 401) x y → v = -1 ∧ m' 401 = m 401) := by
  obtain ⟨h8, h9, h4, h1⟩ := h
  obtain ⟨_, _, e3, e4⟩ := ce (x := m 401 1) (by omega)
  by_cases hA : cw_A (m 401) x y
  · obtain ⟨p1, p2, p3⟩ := hA
    have hput := c_Mo_put (d := d + 1) (m := up (up m 401 (21 + 2 * m 401 1) x) 401 (22 + 2 * m 401 1) y) (x := m 401 1) (y := x) (z := y) (by omega)
    rw [sr_up (m := m), sr_up2, sr_up2, sr_up2] at hput
    refine ⟨m 401 1, sr m 401 (cw_S (m 401) x y), cl_Mo_cow (b_Mo_cow ⟨_, _, c_Mo_isCell, fun z => ?_, fun _ => ⟨_, _, c_Mo_isIn, fun z => ?_, fun _ => ⟨fun _ => ?_, fun z => absurd (by omega) z⟩⟩⟩), FRM_sr, fun _ => ⟨rfl, sr_eq⟩, fun z => absurd ⟨p1, p2, p3⟩ z⟩
    · rw [ite_z] at z; exact absurd p1 z
    · rw [ite_z] at z; omega
    · rw [e3, e4]
      refine ⟨by omega, ?_⟩
      rintro m3 rfl
      refine ⟨by omega, ?_⟩
      rintro m4 rfl
      rw [sr_up (m := m), sr_up2]
      refine ⟨_, hput, ?_⟩
      rintro m6 rfl
      rw [sr_up2, sr_eq]
      have e5 : ups (ups (ups (ups (m 401) (21 + 2 * m 401 1) x) (22 + 2 * m 401 1) y) (11 + 2 * m 401 1) x) (12 + 2 * m 401 1) y 1 = m 401 1 := by
        rw [ups_ne (by omega), ups_ne (by omega), ups_ne (by omega), ups_ne (by omega)]
      rw [e5, w32n (by omega) (by omega)]
      rfl
  · refine ⟨-1, m, cl_Mo_cow (b_Mo_cow ⟨_, _, c_Mo_isCell, fun z => rfl, fun z => ⟨_, _, c_Mo_isIn, fun _ => rfl, fun z2 => ⟨fun z3 => ?_, fun _ => rfl⟩⟩⟩), FRM_refl, fun z => absurd z hA, fun _ => ⟨rfl, rfl⟩⟩
    rw [ite_z1] at z z2
    exact absurd ⟨z, by omega, by omega⟩ hA
theorem op_cow {m : Mm} {x y : Int} (h : R m) : OP k_Th_cow k_Mo_cow 0 [(0, x), (0, y)] m := by
  have hM := FC_RM h.1
  refine OP_d (A := fun S => cw_A S x y) (N := fun S => cw_S S x y) h (c_Th_cow h.1) (fun m1 e _ => ?_) (fun hA => ?_)
  · have := c_Mo_cow (d := 118) (m := m1) (x := x) (y := y) (by rw [e]; exact hM)
    rw [e] at this
    exact this
  · obtain ⟨h8, h9, h4, h1⟩ := hM
    obtain ⟨v1, v2, v3, v4, v5, v6⟩ := cw_S_v (S := m 401) (x := x) (y := y) ⟨h1.1, hA.2.2⟩
    have := hA.2.2
    exact ⟨v6 _ (by omega) (by omega) (by omega) (by omega) (by omega), v6 _ (by omega) (by omega) (by omega) (by omega) (by omega), fun k _ _ => v6 _ (by omega) (by omega) (by omega) (by omega) (by omega)⟩
/-! gates -/
def rimI (c : Int) : Prop := c / 5 = 0 ∨ c / 5 = 4 ∨ c % 5 = 0 ∨ c % 5 = 4
theorem rim_dec : ∀ c : Nat, c < 25 → (ian (isr 33080895 ((c : Nat) : Int)) 1 = 0 ↔ ¬ (((c : Nat) : Int) / 5 = 0 ∨ ((c : Nat) : Int) / 5 = 4 ∨ ((c : Nat) : Int) % 5 = 0 ∨ ((c : Nat) : Int) % 5 = 4)) := by decide +kernel
theorem rim_bit {c : Int} (hc : cellI c) : ian (isr 33080895 c) 1 = 0 ↔ ¬ rimI c := by
  unfold cellI at hc
  obtain ⟨k, rfl⟩ := Int.eq_ofNat_of_zero_le hc.1
  exact rim_dec k (by omega)
theorem c_Mo_isRim {d : Nat} {m : Mm} {c : Int} (hc : cellI c) : ∃ v, Cl d k_Mo_isRim [(0, c)] m (some (0, v), m) ∧ (v = 0 ↔ ¬ rimI c) ∧ (v = 0 ∨ v = 1) := by
  unfold cellI at hc
  have e1 : irm c 5 = c % 5 := irm_n (by omega) (by omega) (by omega) (by omega)
  have e2 : idv c 5 = c / 5 := idv_n (by omega) (by omega) (by omega) (by omega)
  by_cases hr : rimI c
  · refine ⟨1, cl_Mo_isRim (b_Mo_isRim ?_), ⟨fun z => by omega, fun z => absurd hr z⟩, Or.inr rfl⟩
    rw [e1, e2]
    unfold rimI at hr
    exact ⟨fun _ => rfl, fun _ => ⟨fun _ => rfl, fun _ => ⟨fun _ => rfl, fun _ => ⟨fun _ => by omega, fun _ => rfl⟩⟩⟩⟩
  · refine ⟨0, cl_Mo_isRim (b_Mo_isRim ?_), ⟨fun _ => hr, fun _ => rfl⟩, Or.inl rfl⟩
    rw [e1, e2]
    unfold rimI at hr
    exact ⟨fun _ => by omega, fun _ => ⟨fun _ => by omega, fun _ => ⟨fun _ => by omega, fun _ => ⟨fun _ => rfl, fun _ => by omega⟩⟩⟩⟩
def gaV (g x y : Int) : Int := if y = 0 then ian g (ixo (isl 1 x) (-1)) else iro g (isl 1 x)
theorem gaV_in {g x y : Int} (hg : 0 ≤ g ∧ g < 33554432) (hx : cellI x) : 0 ≤ gaV g x y ∧ gaV g x y < 33554432 := by
  unfold cellI at hx
  obtain ⟨a, rfl⟩ := Int.eq_ofNat_of_zero_le hg.1
  obtain ⟨k, rfl⟩ := Int.eq_ofNat_of_zero_le hx.1
  have hp := p2le (k := k) (n := 24) (by omega)
  have ha : a < 2 ^ 25 := by omega
  unfold gaV
  rw [isl1 (by omega)]
  split
  · rw [ian_not (by omega) (by omega)]
    have := ndf_lt (b := 2 ^ k) ha
    omega
  · rw [iro_nat (by omega) (by omega)]
    have := Nat.or_lt_two_pow (y := 2 ^ k) ha (by omega)
    omega
def gaA (x : Int) : Prop := (0 ≤ x ∧ x < 25) ∧ rimI x
theorem FC_up {m : Mm} {S : Int → Int} {k j v : Int} (h : FC m 128 S) (hk : k ≠ 2 ∧ k ≠ 3) (hj : ¬ (j = 1 ∨ j = 4 ∨ (6 ≤ j ∧ j < 31) ∨ (56 ≤ j ∧ j < 1466))) (ho : FO (up m 128 k v) 128 (ups S j v)) : FC (up m 128 k v) 128 (ups S j v) :=
  FC_o h (fun a b _ _ => up_ne (by omega)) (up_nk (by omega)) (up_nk (by omega)) (fun i hi => ups_ne (by omega)) ho
theorem c_Th_gate {d : Nat} {m : Mm} {S : Int → Int} {x y : Int} (h : FC m 128 S) : ∃ v m', Cl (d + 1) k_Th_gate [(17, 0), (0, x), (0, y)] m (some (0, v), m') ∧ FRC m m' ∧ (gaA x → v = 1 ∧ FC m' 128 (ups S 31 (gaV (S 31) x y))) ∧ (¬ gaA x → v = 0 ∧ m' = m) := by
  obtain ⟨o1, o2, o3, o4, o5, o6⟩ := h.2.2.2
  by_cases hA : gaA x
  · have hr := rim_bit (c := x) hA.1
    have hin := gaV_in (y := y) o1.2 hA.1
    refine ⟨1, up m 128 4 (gaV (S 31) x y), cl_Th_gate (b_Th_gate ⟨_, _, c_Pl_isCell, fun z => ?_, fun _ => ⟨fun _ => ⟨fun z => ?_, fun z => ?_⟩, fun z => ?_⟩⟩), fun a b q _ _ => up_ne (by omega), fun _ => ⟨rfl, FC_up h (by omega) (by omega) ?_⟩, fun z => absurd hA z⟩
    · rw [ite_z] at z; exact absurd hA.1 z
    · rintro m2 rfl
      rw [o1.1]
      unfold gaV
      rw [if_pos z]
    · rintro m2 rfl
      rw [o1.1]
      unfold gaV
      rw [if_neg z]
    · rw [Classical.not_not, hr] at z; exact absurd hA.2 z
    · refine ⟨⟨by rw [up_eq, ups_eq], by rw [ups_eq]; exact hin⟩, ?_, ?_, ?_, ?_, fun i hi => ?_⟩
      · rw [up_nk (by omega), ups_ne (by omega)]; exact o2
      · rw [up_nk (by omega), ups_ne (by omega)]; exact o3
      · rw [up_nk (by omega), ups_ne (by omega), ups_ne (by omega)]; exact o4
      · rw [up_nk (by omega), ups_ne (by omega)]; exact o5
      · rw [ups_ne (by omega)] at hi
        rw [up_ne (by omega), up_ne (by omega), ups_ne (by omega), ups_ne (by omega)]
        exact o6 i hi
  · refine ⟨0, m, cl_Th_gate (b_Th_gate ⟨_, _, c_Pl_isCell, fun z => rfl, fun z => ⟨fun z2 => ?_, fun _ => rfl⟩⟩), FRC_refl, fun z => absurd z hA, fun _ => ⟨rfl, rfl⟩⟩
    rw [ite_z1] at z
    rw [rim_bit z, Classical.not_not] at z2
    exact absurd ⟨z, z2⟩ hA
theorem c_Mo_gate {d : Nat} {m : Mm} {x y : Int} : ∃ v m', Cl (d + 2) k_Mo_gate [(18, 400), (0, x), (0, y)] m (some (0, v), m') ∧ FRM m m' ∧ (gaA x → v = 1 ∧ m' 401 = ups (m 401) 31 (gaV (m 401 31) x y)) ∧ (¬ gaA x → v = 0 ∧ m' 401 = m 401) := by
  by_cases hA : gaA x
  · obtain ⟨v, r1, r2, r3⟩ := c_Mo_isRim (d := d + 1) (m := m) (c := x) hA.1
    refine ⟨1, sr m 401 (ups (m 401) 31 (gaV (m 401 31) x y)), cl_Mo_gate (b_Mo_gate ⟨_, _, c_Mo_isCell, fun z => ?_, fun _ => ⟨_, _, r1, fun _ => ⟨fun z => ?_, fun z => ?_⟩, fun z => ?_⟩⟩), FRM_sr, fun _ => ⟨rfl, sr_eq⟩, fun z => absurd hA z⟩
    · rw [ite_z] at z; exact absurd hA.1 z
    · rintro m2 rfl
      rw [sr_up]
      unfold gaV
      rw [if_pos z]
    · rintro m2 rfl
      rw [sr_up]
      unfold gaV
      rw [if_neg z]
    · rw [Classical.not_not, r2] at z; exact absurd hA.2 z
  · by_cases hx : 0 ≤ x ∧ x < 25
    · obtain ⟨v, r1, r2, r3⟩ := c_Mo_isRim (d := d + 1) (m := m) (c := x) hx
      refine ⟨0, m, cl_Mo_gate (b_Mo_gate ⟨_, _, c_Mo_isCell, fun z => rfl, fun z => ⟨_, _, r1, fun z2 => ?_, fun _ => rfl⟩⟩), FRM_refl, fun z => absurd z hA, fun _ => ⟨rfl, rfl⟩⟩
      rw [r2, Classical.not_not] at z2
      exact absurd ⟨hx, z2⟩ hA
    · refine ⟨0, m, cl_Mo_gate (b_Mo_gate ⟨_, _, c_Mo_isCell, fun z => rfl, fun z => ?_⟩), FRM_refl, fun z => absurd z hA, fun _ => ⟨rfl, rfl⟩⟩
      rw [ite_z1] at z
      exact absurd z hx
theorem op_gate {m : Mm} {x y : Int} (h : R m) : OP k_Th_gate k_Mo_gate 0 [(0, x), (0, y)] m := by
  refine OP_d (A := fun _ => gaA x) (N := fun S => ups S 31 (gaV (S 31) x y)) h (c_Th_gate h.1) (fun m1 e _ => ?_) (fun hA => ?_)
  · have := c_Mo_gate (d := 118) (m := m1) (x := x) (y := y)
    rw [e] at this
    exact this
  · exact ⟨ups_ne (by omega), ups_ne (by omega), fun k _ _ => ups_ne (by omega)⟩
/-! the rule -/
theorem c_Th_isText {d : Nat} {m : Mm} {x : Int} : Cl d k_Th_isText [(17, 0), (0, x)] m (some (0, if 0 ≤ x ∧ x < m 128 6 then 1 else 0), m) :=
  cl_Th_isText (b_Th_isText ⟨fun h => by rw [if_neg (by omega)], fun h => ⟨fun h2 => by rw [if_neg (by omega)], fun h2 => by rw [if_pos (by omega)]⟩⟩)
theorem op_by {m : Mm} {x : Int} (h : R m) : OP k_Th_by k_Mo_by 0 [(0, x)] m := by
  obtain ⟨o1, o2, o3, o4, o5, o6⟩ := h.1.2.2.2
  refine OP_d (A := fun S => -1 ≤ x ∧ x < S 2) (N := fun S => ups S 3 x) (a := 1) (b := 0) h ?_ (fun m1 e _ => ?_) (fun hA => ?_)
  · by_cases hA : -1 ≤ x ∧ x < m 401 2
    · refine ⟨1, up m 128 7 x, cl_Th_by (b_Th_by ⟨fun _ m1 hm1 => by rw [hm1], fun z => ⟨_, _, c_Th_isText, fun _ m1 hm1 => by rw [hm1], fun z2 => ?_⟩⟩), fun a b q _ _ => up_ne (by omega), fun _ => ⟨rfl, FC_up h.1 (by omega) (by omega) ?_⟩, fun z => absurd hA z⟩
      · rw [ite_z1, o3.1] at z2; omega
      · refine ⟨?_, ?_, ?_, ⟨by rw [up_eq, ups_eq], by rw [ups_eq, ups_ne (by omega)]; exact hA⟩, ?_, fun i hi => ?_⟩
        · rw [up_nk (by omega), ups_ne (by omega)]; exact o1
        · rw [up_nk (by omega), ups_ne (by omega)]; exact o2
        · rw [up_nk (by omega), ups_ne (by omega)]; exact o3
        · rw [up_nk (by omega), ups_ne (by omega)]; exact o5
        · rw [ups_ne (by omega)] at hi
          rw [up_ne (by omega), up_ne (by omega), ups_ne (by omega), ups_ne (by omega)]
          exact o6 i hi
    · refine ⟨0, m, cl_Th_by (b_Th_by ⟨fun z => by omega, fun z => ⟨_, _, c_Th_isText, fun z2 => ?_, fun z2 => rfl⟩⟩), FRC_refl, fun z => absurd z hA, fun _ => ⟨rfl, rfl⟩⟩
      rw [ite_z1, o3.1] at z2; omega
  · have e2 : m1 401 2 = m 401 2 := by rw [e]
    by_cases hA : -1 ≤ x ∧ x < m 401 2
    · refine ⟨1, up m1 401 3 x, cl_Mo_by (b_Mo_by ⟨_, _, c_Mo_isIn, fun _ m2 hm2 => by rw [hm2], fun z => ?_⟩), fun a b q _ _ => up_ne (by omega), fun _ => ⟨rfl, by rw [up_row, e]⟩, fun z => absurd hA z⟩
      rw [ite_z1, e2, w32n (by omega) (by omega)] at z; omega
    · refine ⟨0, m1, cl_Mo_by (b_Mo_by ⟨_, _, c_Mo_isIn, fun z => ?_, fun _ => rfl⟩), FRM_refl, fun z => absurd z hA, fun _ => ⟨rfl, e⟩⟩
      rw [ite_z1, e2, w32n (by omega) (by omega)] at z; omega
  · exact ⟨ups_ne (by omega), ups_ne (by omega), fun k _ _ => ups_ne (by omega)⟩
