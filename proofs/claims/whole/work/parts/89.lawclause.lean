/-! CLAUSES: a law's, and any -/
theorem once_ {a b : Int} (ha : a = 0 ∨ a = 1) (hb : b = 0 ∨ b = 1) : (0 ≤ a + 2 * b ∧ a + 2 * b < 4) ∧ (bt_ (a + 2 * b) 0 = true ↔ a = 1) ∧ (bt_ (a + 2 * b) 1 = true ↔ b = 1) ∧ (a = 0 → iro (a + 2 * b) (isl 1 0) = 1 + 2 * b) ∧ (b = 0 → iro (a + 2 * b) (isl 1 1) = a + 2 * 1) := by
  rcases ha with rfl | rfl <;> rcases hb with rfl | rfl <;> decide +kernel
theorem lw_01 {t f so : Int} {m N : Mm} {n s w : Nat} (h : lw_ t m N n s w f so) : m 82 f = 0 ∨ m 82 f = 1 := by
  rcases h with ⟨h, _⟩ | ⟨h, _⟩
  · exact Or.inl h
  · exact Or.inr h
theorem clause_f {B : Int → Int} {L : Nat} {t : Int} {m N : Mm} {q s w n : Nat} (hT : TPE B L) (h0 : 0 ≤ t ∧ t ≤ 2043) (h : KS_ B L t m N q s w n) (hn : n < 24) (hk : tkT B L q = 16 + 0) (hno : m 82 6 = 0) :
    (∃ m' N' q' s' w', Cl 84 k_Rd_clause [(15, 80)] m (some (0, 1), m') ∧ Cl 15 k_Mo_clause [(18, 400)] N (some (0, 0), N') ∧ KS_ B L t m' N' q' s' w' (n + 1) ∧ q < q' ∧ FRs m m' ∧ FRe t N N') ∨ (∃ f p m' N', 0 < f ∧ Cl 84 k_Rd_clause [(15, 80)] m (some (0, 0), m') ∧ flt_ m' f p ∧ FRd m m' ∧ Cl 15 k_Mo_clause [(18, 400)] N (some (0, f), N') ∧ N' 400 9 = (p : Nat) ∧ FRe t N N') := by
  obtain ⟨⟨c1, c2, c3⟩, ⟨d1, d2, d3, d4⟩, ⟨l1, l2, l3⟩, ⟨t1, t2, t3, t4, t5, t6⟩⟩ := h
  have hL := hT.1
  have e6 : m 80 6 = tkT B L q := c1.2.2.2.1
  have hs : srt_ (tkT B L q) = 0 := by unfold srt_; rw [if_pos (by omega), hk]; omega
  obtain ⟨nx1, nx2, nx3⟩ := nxQ_v (B := B) l3
  have nx4 := nx3 (by omega)
  obtain ⟨o1, o2, o3, o4, o5⟩ := once_ (lw_01 t4) (lw_01 t5)
  rw [← t6] at o1 o2 o3 o4 o5
  have hnb : ¬ bt_ (N 400 20) 0 = true := by rw [o2]; omega
  have hcv := o4 hno
  clear o2 o3 o4 o5
  obtain ⟨N4, b1, b2, b3, b4, b5, b6, b7⟩ := mo_head hT h0 d1 d2 d4 hn hs (by omega) (Or.inr ⟨by omega, o1, hnb, rfl⟩)
  -- the class up to the sum
  obtain ⟨m1, a1, a2, a3⟩ := adv_c (d := 81) hT c1
  obtain ⟨m2, hm2⟩ : ∃ m2, m2 = up m1 80 10 (16 + 0) := ⟨_, rfl⟩
  have f2 : ∀ a b, ¬ (a = 80 ∧ 6 ≤ b) → m2 a b = m a b := fun a b z => by
    rw [hm2]
    unfold up
    rw [if_neg (by omega), a3 a b (by omega)]
  obtain ⟨m3, k1, k2, k3, k4, k5, k6⟩ := c_Tx_beginLaw (d := 82) (m := m2) (n := n) (s := s) (so := 0) (f := 6) (by rw [f2 _ _ (by omega)]; exact t1) hn (by rw [f2 _ _ (by omega)]; exact c2) (by decide)
  have hC3 : CSt B L (16 + 0) m3 (nxQ B L q) s ((0 : Nat) : Int) := by
    refine ⟨CTk_con a2 (fun b hb => by rw [k6 _ _ (by omega) (by omega), hm2, up_nk (by omega)]) (fun b => by rw [k6 _ _ (by omega) (by omega), hm2, up_ne (by omega)]), ?_, ?_, ?_⟩
    · rw [k6 _ _ (by omega) (by omega), f2 _ _ (by omega)]; exact c2
    · rw [k6 _ _ (by omega) (by omega), hm2, up_nk (by omega), a3 _ _ (by omega)]; exact c3
    · rw [k6 _ _ (by omega) (by omega), hm2, up_eq]
  -- the model up to the sum
  generalize hx : t + 1 + 3 * (n : Int) = x at *
  have ex1 : w32 (x + 1) = x + 1 := w32n (by omega) (by omega)
  have ex2 : w32 (x + 2) = x + 2 := w32n (by omega) (by omega)
  have e414 : N4 400 14 = (w : Nat) := by rw [b5 _ _ (by omega) (by omega)]; exact d3
  obtain ⟨N4', hN4'⟩ : ∃ N4', N4' = up N4 403 (x + 1) (w : Nat) := ⟨_, rfl⟩
  have f4 : ∀ a b, ¬ (a = 403 ∧ b = x + 1) → N4' a b = N4 a b := fun a b z => by
    rw [hN4']
    unfold up
    rw [if_neg z]
  have body : ∀ (v : Int) (M : Mm), Cl 7 k_Mo_summed [(18, 400)] N4' (some (0, v), M) → Cl 14 k_Mo_body [(18, 400), (0, 0), (0, x)] N4 (some (0, v), up M 403 (x + 2) (M 400 14)) := fun v M hM => by
    have hl : Cl 13 k_Mo_lawClause [(18, 400), (0, x)] N4 (some (0, v), up M 403 (x + 2) (M 400 14)) := by
      refine cl_Mo_lawClause (b_Mo_lawClause ?_)
      rw [ex1, ex2, e414]
      refine ⟨by omega, ?_⟩
      rintro m1 rfl
      rw [← hN4']
      refine ⟨v, M, hM.up (by decide), by omega, ?_⟩
      rintro m3 rfl
      rfl
    exact cl_Mo_body (b_Mo_body ⟨fun z => by omega, fun _ => ⟨fun z => by omega, fun _ => ⟨fun z => by omega, fun _ => ⟨fun z => by omega, fun _ => ⟨fun z => by omega, fun _ => ⟨fun z => by omega, fun _ => ⟨fun z => by omega, fun _ => ⟨v, _, hl, rfl⟩⟩⟩⟩⟩⟩⟩⟩)
  have hh : Cl 83 k_Tx_has [(16, 82), (0, 16 + 0)] m (some (0, 0), m) := cl_Tx_has (b_Tx_has ⟨fun z => absurd (by decide) z, fun _ => ⟨by rw [hno]; exact Or.inl rfl, by rw [hno]⟩⟩)
  have q1 : ¬ ((16 : Int) + 0 < 16) := by decide
  have q2 : (16 : Int) + 0 ≤ 24 := by decide
  have q3 : ¬ ((16 : Int) + 0 = 16) → (16 : Int) + 0 = 17 := by decide
  have q4 : m 82 0 < 24 := by rw [t1]; omega
  have cl : ∀ r, (∃ (v4 : Int) (m4 : Mm), Cl 83 k_Rd_sum [(15, 80)] m3 (some (0, v4), m4) ∧ (∃ (m5 : Mm), Cl 83 k_Tx_endLaw [(16, 82), (0, 16 + 0)] m4 (none, m5) ∧ ((v4 = 0 → r = (some (0, 0), m5)) ∧ (¬ (v4 = 0) → ∃ (v6 : Int) (m6 : Mm), Cl 83 k_Rd_take [(15, 80), (0, 13)] m5 (some (0, v6), m6) ∧ ((v6 = 0 → r = (some (0, 0), m6)) ∧ (¬ (v6 = 0) → r = (some (0, 1), m6))))))) → Cl 84 k_Rd_clause [(15, 80)] m r := fun r hr => by
    have e34 : ∀ u3 : Vv, Ev 84 K_Rd_clause 2 34 [(15, 80), (0, 16 + 0), (0, 1), u3] [] m r := fun u3 => by
      refine b_Rd_clause_34 ⟨fun _ => ⟨m1, a1, fun _ => ?_, fun z => absurd (by decide) z⟩, fun z => ?_⟩
      · rintro mm rfl
        rw [← hm2]
        exact ⟨m3, k1, hr⟩
      · exact absurd q4 z
    have e19 : ∀ u2 u3 : Vv, Ev 84 K_Rd_clause 2 19 [(15, 80), (0, 16 + 0), u2, u3] [] m r := fun u2 u3 => by
      exact b_Rd_clause_19 ⟨0, m, hh, fun _ => e34 _, fun z => absurd rfl z⟩
    refine cl_Rd_clause (b_Rd_clause ⟨fun z => ?_, fun _ => ⟨fun _ => ⟨fun z => ?_, fun z0 => ⟨fun z => ?_, fun z => ?_⟩⟩, fun z => ?_⟩⟩)
    · exact absurd z (by rw [e6, hk]; exact q1)
    · rw [e6, hk]; exact e19 _ _
    · rw [e6, hk] at z0 z
      exact absurd (q3 z0) z
    · rw [e6, hk]; exact e19 _ _
    · exact absurd (by rw [e6, hk]; exact q2) z
  have hF4 : FRe t N N4' := fun a b y1 y2 _ => by rw [f4 a b (by omega), b5 a b (by omega) (by omega)]
  have hFm3 : FRs m m3 := fun a b y1 y2 => by rw [k6 a b (by omega) (by omega), f2 a b (by omega)]
  rcases law_sum (q := nxQ B L q) (s := s) (w := w) (m := m3) (N := N4') hT h0 (by decide) hC3 (MTk_con b1 (fun b _ => f4 _ _ (by omega)) (fun b => f4 _ _ (by omega))) (by rw [f4 _ _ (by omega), b5 _ _ (by omega) (by omega)]; exact d2) (by rw [f4 _ _ (by omega)]; exact e414) (by rw [f4 _ _ (by omega)]; exact b2) (by omega) (by omega) with ⟨q2, s2, w2, m4, N5, g1, g2, g3, g4, g5, g6, g7, g8, ⟨g9, g10, g11, g12, g13, g14⟩, g15⟩ | ⟨fl, p, m4, N5, f0, g1, g2, g3, g4, g5, g6⟩
  · have hend := c_Tx_endLaw (d := 83) (m := m4) (so := 0) (f := 6) (by decide)
    rw [g3.2.1] at hend
    obtain ⟨m5, hm5⟩ : ∃ m5, m5 = up m4 82 (6 + 2) (s2 : Nat) := ⟨_, rfl⟩
    rw [← hm5] at hend
    have hC5 : CSt B L (16 + 0) m5 q2 s2 ((0 : Nat) : Int) := by
      refine ⟨CTk_con g3.1 (fun b _ => by rw [hm5, up_ne (by omega)]) (fun b => by rw [hm5, up_ne (by omega)]), ?_, ?_, ?_⟩
      · rw [hm5, up_nk (by omega)]; exact g3.2.1
      · rw [hm5, up_ne (by omega)]; exact g3.2.2.1
      · rw [hm5, up_ne (by omega)]; exact g3.2.2.2
    have hbd := body 0 N5 g2
    rw [g6] at hbd
    obtain ⟨N6, hN6⟩ : ∃ N6, N6 = up N5 403 (x + 2) (w2 : Nat) := ⟨_, rfl⟩
    rw [← hN6] at hbd
    have f6 : ∀ a b, ¬ (a = 403 ∧ b = x + 2) → N6 a b = N5 a b := fun a b z => by
      rw [hN6]
      unfold up
      rw [if_neg z]
    have hM6 : MTk B L N6 q2 := MTk_con g5 (fun b _ => f6 _ _ (by omega)) (fun b => f6 _ _ (by omega))
    obtain ⟨j1, j2⟩ := b7 N6 q2 hbd (by rw [f6 _ _ (by omega)]; exact g8) (by rw [f6 _ _ (by omega), g7 _ _ (by omega) (by omega) (by omega), f4 _ _ (by omega), b5 _ _ (by omega) (by omega)]; exact d4) hM6
    have hF6 : FRe t N N6 := hF4.tr ((FRe_Mo g7).tr (fun a b y1 y2 _ => f6 a b (by omega)))
    have hFm5 : FRs m m5 := hFm3.tr ((FRd_Cl g4).tr (fun a b y1 y2 => by rw [hm5, up_ne (by omega)]))
    by_cases h13 : tkT B L q2 = 13
    · obtain ⟨N7, u1, u2, u3, u4⟩ := j1 h13
      clear j1 j2
      obtain ⟨m6, i1, i2, i3⟩ := (take_c (d := 80) (x := 13) hT hC5).1 h13
      obtain ⟨ox1, ox2, ox3⟩ := nxQ_v (B := B) g10
      have ox4 := ox3 (by omega)
      have G : ∀ a b, a ≠ 80 → ¬ (a = 82 ∧ (b = 0 ∨ b = 5 ∨ b = 6 ∨ b = 7 ∨ b = 8)) → ¬ (83 ≤ a ∧ a ≤ 85 ∧ b = (n : Int)) → ¬ (a = 86 ∧ (s : Int) ≤ b) → m6 a b = m a b := fun a b y1 y2 y3 y4 => by
        rw [i3 a b (by omega), hm5]
        unfold up
        rw [if_neg (by omega), g4 a b (by omega) (by omega) y4, k6 a b (by omega) y3, f2 a b (by omega)]
      have K : ∀ b, ¬ (x ≤ b ∧ b ≤ x + 2) → ¬ (t + 73 + 2 * (w : Int) ≤ b) → b ≠ t → N7 403 b = N 403 b := fun b y1 y2 y3 => by
        rw [u4 _ _ (by omega) (by omega), f6 _ _ (by omega), g7 _ _ (by omega) (by omega) (by omega), f4 _ _ (by omega), b5 _ _ (by omega) (by omega)]
      have K1 : N7 403 x = 0 := by rw [u4 _ _ (by omega) (by omega), f6 _ _ (by omega), g7 _ _ (by omega) (by omega) (by omega), f4 _ _ (by omega)]; exact b4
      have K2 : N7 403 (x + 1) = (w : Nat) := by rw [u4 _ _ (by omega) (by omega), f6 _ _ (by omega), g7 _ _ (by omega) (by omega) (by omega), hN4', up_eq]
      have K3 : N7 403 (x + 2) = (w2 : Nat) := by rw [u4 _ _ (by omega) (by omega), hN6, up_eq]
      have e0 : m6 82 0 = ((n + 1 : Nat) : Int) := by rw [i3 _ _ (by omega), hm5, up_nk (by omega), g4 _ _ (by omega) (by omega) (by omega)]; exact k2
      have ef : m6 82 6 = 1 := by rw [i3 _ _ (by omega), hm5, up_nk (by omega), g4 _ _ (by omega) (by omega) (by omega)]; exact k4
      have ef1 : m6 82 (6 + 1) = (s : Nat) := by rw [i3 _ _ (by omega), hm5, up_nk (by omega), g4 _ _ (by omega) (by omega) (by omega)]; exact k5
      have ef2 : m6 82 (6 + 2) = (s2 : Nat) := by rw [i3 _ _ (by omega), hm5, up_eq]
      have e83 : m6 83 (n : Nat) = 16 + 0 := by rw [i3 _ _ (by omega), hm5, up_ne (by omega), g4 _ _ (by omega) (by omega) (by omega)]; exact k3
      have old : lw_ t m N n s w 6 0 := t4
      have old' : lw_ t m N n s w 9 1 := t5
      have own : lw_ t m6 N7 (n + 1) s2 w2 6 0 := by
        refine Or.inr ⟨ef, n, s, s2, w, w2, by omega, by rw [hx]; exact K1, fun j hj => ?_, ef1, ef2, by rw [← K2]; congr 1; omega, by rw [← K3]; congr 1; omega, Nat.le_refl _, Nat.le_refl _, WX_ext g15 (fun j _ j2 => ?_) (fun j _ j2 => ⟨?_, ?_⟩)⟩
        · rw [K _ (by omega) (by omega) (by omega)]
          rcases old with ⟨_, y⟩ | ⟨y, _⟩
          · exact y j hj
          · omega
        · show m6 86 _ = m4 86 _
          rw [i3 _ _ (by omega), hm5, up_ne (by omega)]
        · show N7 403 _ = N5 403 _
          rw [u4 _ _ (by omega) (by omega), f6 _ _ (by omega)]
        · show N7 403 _ = N5 403 _
          rw [u4 _ _ (by omega) (by omega), f6 _ _ (by omega)]
      have oth : lw_ t m6 N7 (n + 1) s2 w2 9 1 := by
        refine lw_con old' (fun b y1 y2 => G _ _ (by omega) (by omega) (by omega) (by omega)) (fun j hj => G _ _ (by omega) (by omega) (by omega) (by omega)) (fun b y1 y2 => K b (by omega) (by omega) (by omega)) (fun b y1 y2 => K b (by omega) (by omega) (by omega)) g13 g14 (by omega) (fun i y1 y2 => ?_)
        obtain rfl : i = n := by omega
        rw [hx, K1]; omega
      have efo : m6 82 9 = m 82 9 := G _ _ (by omega) (by omega) (by omega) (by omega)
      refine Or.inl ⟨m6, N7, nxQ B L q2, s2, w2, cl _ ⟨1, m4, g1.up (by decide), m5, hend, fun z => absurd z (by decide), fun _ => ⟨1, m6, i1, fun z => absurd z (by decide), fun _ => rfl⟩⟩, u1, ⟨⟨i2.1, i2.2.1, i2.2.2.1⟩, ⟨u2, ?_, ?_, u3⟩, ⟨by omega, by omega, ox1⟩, ⟨e0, by omega, fun i hi => ?_, ?_, ?_, ?_⟩⟩, by omega, hFm5.tr (fun a b y1 y2 => i3 a b (by omega)), hF6.tr (fun a b y1 y2 _ => u4 a b (by omega) (by omega))⟩
      · rw [u4 _ _ (by omega) (by omega), f6 _ _ (by omega)]; exact g8
      · rw [u4 _ _ (by omega) (by omega), f6 _ _ (by omega)]; exact g6
      · by_cases hin : i < n
        · exact ent_con (t3 i hin) (fun a y1 y2 => G _ _ (by omega) (by omega) (by omega) (by omega)) (fun b y1 y2 => K b (by omega) (by omega) (by omega))
        · obtain rfl : i = n := by omega
          unfold ent_
          rw [hx, K1, e83]
          exact ⟨by omega, by omega, rfl, fun z => by omega, fun z => by omega⟩
      · exact own
      · exact oth
      · rw [u4 _ _ (by omega) (by omega), f6 _ _ (by omega), g7 _ _ (by omega) (by omega) (by omega), f4 _ _ (by omega), b3, ef, efo]
        exact hcv
    · obtain ⟨m6, i1, i2, i3⟩ := (take_c (d := 80) (x := 13) hT hC5).2 h13
      exact Or.inr ⟨1, q2, m6, _, by decide, cl _ ⟨1, m4, g1.up (by decide), m5, hend, fun z => absurd z (by decide), fun _ => ⟨0, m6, i1, fun _ => rfl, fun z => absurd rfl z⟩⟩, i2, hFm5.tr (FRd_Cl i3), j2 h13, by rw [up_ne (by omega)]; exact hM6.2.2.2.2.1, hF6.tr (fun a b y1 y2 _ => by unfold up; rw [if_neg (by omega)])⟩
  · have hend := c_Tx_endLaw (d := 83) (m := m4) (so := 0) (f := 6) (by decide)
    exact Or.inr ⟨fl, p, _, _, f0, cl _ ⟨0, m4, g1.up (by decide), _, hend, fun _ => rfl, fun z => absurd rfl z⟩, ⟨by rw [up_ne (by omega)]; exact g2.1, by rw [up_ne (by omega)]; exact g2.2⟩, hFm3.tr ((FRd_Cl g3).tr (fun a b y1 y2 => up_ne (by omega))), b6 fl _ (by omega) (body fl N5 g4), by rw [up_ne (by omega)]; exact g5, hF4.tr ((FRe_Mo g6).tr (fun a b y1 y2 _ => by unfold up; rw [if_neg (by omega)]))⟩
theorem clause_g {B : Int → Int} {L : Nat} {t : Int} {m N : Mm} {q s w n : Nat} (hT : TPE B L) (h0 : 0 ≤ t ∧ t ≤ 2043) (h : KS_ B L t m N q s w n) (hn : n < 24) (hk : tkT B L q = 16 + 1) (hno : m 82 9 = 0) :
    (∃ m' N' q' s' w', Cl 84 k_Rd_clause [(15, 80)] m (some (0, 1), m') ∧ Cl 15 k_Mo_clause [(18, 400)] N (some (0, 0), N') ∧ KS_ B L t m' N' q' s' w' (n + 1) ∧ q < q' ∧ FRs m m' ∧ FRe t N N') ∨ (∃ f p m' N', 0 < f ∧ Cl 84 k_Rd_clause [(15, 80)] m (some (0, 0), m') ∧ flt_ m' f p ∧ FRd m m' ∧ Cl 15 k_Mo_clause [(18, 400)] N (some (0, f), N') ∧ N' 400 9 = (p : Nat) ∧ FRe t N N') := by
  obtain ⟨⟨c1, c2, c3⟩, ⟨d1, d2, d3, d4⟩, ⟨l1, l2, l3⟩, ⟨t1, t2, t3, t4, t5, t6⟩⟩ := h
  have hL := hT.1
  have e6 : m 80 6 = tkT B L q := c1.2.2.2.1
  have hs : srt_ (tkT B L q) = 1 := by unfold srt_; rw [if_pos (by omega), hk]; omega
  obtain ⟨nx1, nx2, nx3⟩ := nxQ_v (B := B) l3
  have nx4 := nx3 (by omega)
  obtain ⟨o1, o2, o3, o4, o5⟩ := once_ (lw_01 t4) (lw_01 t5)
  rw [← t6] at o1 o2 o3 o4 o5
  have hnb : ¬ bt_ (N 400 20) 1 = true := by rw [o3]; omega
  have hcv := o5 hno
  clear o2 o3 o4 o5
  obtain ⟨N4, b1, b2, b3, b4, b5, b6, b7⟩ := mo_head hT h0 d1 d2 d4 hn hs (by omega) (Or.inr ⟨by omega, o1, hnb, rfl⟩)
  -- the class up to the sum
  obtain ⟨m1, a1, a2, a3⟩ := adv_c (d := 81) hT c1
  obtain ⟨m2, hm2⟩ : ∃ m2, m2 = up m1 80 10 (16 + 1) := ⟨_, rfl⟩
  have f2 : ∀ a b, ¬ (a = 80 ∧ 6 ≤ b) → m2 a b = m a b := fun a b z => by
    rw [hm2]
    unfold up
    rw [if_neg (by omega), a3 a b (by omega)]
  obtain ⟨m3, k1, k2, k3, k4, k5, k6⟩ := c_Tx_beginLaw (d := 82) (m := m2) (n := n) (s := s) (so := 1) (f := 9) (by rw [f2 _ _ (by omega)]; exact t1) hn (by rw [f2 _ _ (by omega)]; exact c2) (by decide)
  have hC3 : CSt B L (16 + 1) m3 (nxQ B L q) s ((0 : Nat) : Int) := by
    refine ⟨CTk_con a2 (fun b hb => by rw [k6 _ _ (by omega) (by omega), hm2, up_nk (by omega)]) (fun b => by rw [k6 _ _ (by omega) (by omega), hm2, up_ne (by omega)]), ?_, ?_, ?_⟩
    · rw [k6 _ _ (by omega) (by omega), f2 _ _ (by omega)]; exact c2
    · rw [k6 _ _ (by omega) (by omega), hm2, up_nk (by omega), a3 _ _ (by omega)]; exact c3
    · rw [k6 _ _ (by omega) (by omega), hm2, up_eq]
  -- the model up to the sum
  generalize hx : t + 1 + 3 * (n : Int) = x at *
  have ex1 : w32 (x + 1) = x + 1 := w32n (by omega) (by omega)
  have ex2 : w32 (x + 2) = x + 2 := w32n (by omega) (by omega)
  have e414 : N4 400 14 = (w : Nat) := by rw [b5 _ _ (by omega) (by omega)]; exact d3
  obtain ⟨N4', hN4'⟩ : ∃ N4', N4' = up N4 403 (x + 1) (w : Nat) := ⟨_, rfl⟩
  have f4 : ∀ a b, ¬ (a = 403 ∧ b = x + 1) → N4' a b = N4 a b := fun a b z => by
    rw [hN4']
    unfold up
    rw [if_neg z]
  have body : ∀ (v : Int) (M : Mm), Cl 7 k_Mo_summed [(18, 400)] N4' (some (0, v), M) → Cl 14 k_Mo_body [(18, 400), (0, 1), (0, x)] N4 (some (0, v), up M 403 (x + 2) (M 400 14)) := fun v M hM => by
    have hl : Cl 13 k_Mo_lawClause [(18, 400), (0, x)] N4 (some (0, v), up M 403 (x + 2) (M 400 14)) := by
      refine cl_Mo_lawClause (b_Mo_lawClause ?_)
      rw [ex1, ex2, e414]
      refine ⟨by omega, ?_⟩
      rintro m1 rfl
      rw [← hN4']
      refine ⟨v, M, hM.up (by decide), by omega, ?_⟩
      rintro m3 rfl
      rfl
    exact cl_Mo_body (b_Mo_body ⟨fun z => by omega, fun _ => ⟨fun z => by omega, fun _ => ⟨fun z => by omega, fun _ => ⟨fun z => by omega, fun _ => ⟨fun z => by omega, fun _ => ⟨fun z => by omega, fun _ => ⟨fun z => by omega, fun _ => ⟨v, _, hl, rfl⟩⟩⟩⟩⟩⟩⟩⟩)
  have hh : Cl 83 k_Tx_has [(16, 82), (0, 16 + 1)] m (some (0, 0), m) := cl_Tx_has (b_Tx_has ⟨fun _ => ⟨by rw [hno]; exact Or.inl rfl, by rw [hno]⟩, fun z => absurd (by decide) z⟩)
  have q1 : ¬ ((16 : Int) + 1 < 16) := by decide
  have q2 : (16 : Int) + 1 ≤ 24 := by decide
  have q3 : ¬ ((16 : Int) + 1 = 16) → (16 : Int) + 1 = 17 := by decide
  have q4 : m 82 0 < 24 := by rw [t1]; omega
  have cl : ∀ r, (∃ (v4 : Int) (m4 : Mm), Cl 83 k_Rd_sum [(15, 80)] m3 (some (0, v4), m4) ∧ (∃ (m5 : Mm), Cl 83 k_Tx_endLaw [(16, 82), (0, 16 + 1)] m4 (none, m5) ∧ ((v4 = 0 → r = (some (0, 0), m5)) ∧ (¬ (v4 = 0) → ∃ (v6 : Int) (m6 : Mm), Cl 83 k_Rd_take [(15, 80), (0, 13)] m5 (some (0, v6), m6) ∧ ((v6 = 0 → r = (some (0, 0), m6)) ∧ (¬ (v6 = 0) → r = (some (0, 1), m6))))))) → Cl 84 k_Rd_clause [(15, 80)] m r := fun r hr => by
    have e34 : ∀ u3 : Vv, Ev 84 K_Rd_clause 2 34 [(15, 80), (0, 16 + 1), (0, 1), u3] [] m r := fun u3 => by
      refine b_Rd_clause_34 ⟨fun _ => ⟨m1, a1, fun _ => ?_, fun z => absurd (by decide) z⟩, fun z => ?_⟩
      · rintro mm rfl
        rw [← hm2]
        exact ⟨m3, k1, hr⟩
      · exact absurd q4 z
    have e19 : ∀ u2 u3 : Vv, Ev 84 K_Rd_clause 2 19 [(15, 80), (0, 16 + 1), u2, u3] [] m r := fun u2 u3 => by
      exact b_Rd_clause_19 ⟨0, m, hh, fun _ => e34 _, fun z => absurd rfl z⟩
    refine cl_Rd_clause (b_Rd_clause ⟨fun z => ?_, fun _ => ⟨fun _ => ⟨fun z => ?_, fun z0 => ⟨fun z => ?_, fun z => ?_⟩⟩, fun z => ?_⟩⟩)
    · exact absurd z (by rw [e6, hk]; exact q1)
    · rw [e6, hk]; exact e19 _ _
    · rw [e6, hk] at z0 z
      exact absurd (q3 z0) z
    · rw [e6, hk]; exact e19 _ _
    · exact absurd (by rw [e6, hk]; exact q2) z
  have hF4 : FRe t N N4' := fun a b y1 y2 _ => by rw [f4 a b (by omega), b5 a b (by omega) (by omega)]
  have hFm3 : FRs m m3 := fun a b y1 y2 => by rw [k6 a b (by omega) (by omega), f2 a b (by omega)]
  rcases law_sum (q := nxQ B L q) (s := s) (w := w) (m := m3) (N := N4') hT h0 (by decide) hC3 (MTk_con b1 (fun b _ => f4 _ _ (by omega)) (fun b => f4 _ _ (by omega))) (by rw [f4 _ _ (by omega), b5 _ _ (by omega) (by omega)]; exact d2) (by rw [f4 _ _ (by omega)]; exact e414) (by rw [f4 _ _ (by omega)]; exact b2) (by omega) (by omega) with ⟨q2, s2, w2, m4, N5, g1, g2, g3, g4, g5, g6, g7, g8, ⟨g9, g10, g11, g12, g13, g14⟩, g15⟩ | ⟨fl, p, m4, N5, f0, g1, g2, g3, g4, g5, g6⟩
  · have hend := c_Tx_endLaw (d := 83) (m := m4) (so := 1) (f := 9) (by decide)
    rw [g3.2.1] at hend
    obtain ⟨m5, hm5⟩ : ∃ m5, m5 = up m4 82 (9 + 2) (s2 : Nat) := ⟨_, rfl⟩
    rw [← hm5] at hend
    have hC5 : CSt B L (16 + 1) m5 q2 s2 ((0 : Nat) : Int) := by
      refine ⟨CTk_con g3.1 (fun b _ => by rw [hm5, up_ne (by omega)]) (fun b => by rw [hm5, up_ne (by omega)]), ?_, ?_, ?_⟩
      · rw [hm5, up_nk (by omega)]; exact g3.2.1
      · rw [hm5, up_ne (by omega)]; exact g3.2.2.1
      · rw [hm5, up_ne (by omega)]; exact g3.2.2.2
    have hbd := body 0 N5 g2
    rw [g6] at hbd
    obtain ⟨N6, hN6⟩ : ∃ N6, N6 = up N5 403 (x + 2) (w2 : Nat) := ⟨_, rfl⟩
    rw [← hN6] at hbd
    have f6 : ∀ a b, ¬ (a = 403 ∧ b = x + 2) → N6 a b = N5 a b := fun a b z => by
      rw [hN6]
      unfold up
      rw [if_neg z]
    have hM6 : MTk B L N6 q2 := MTk_con g5 (fun b _ => f6 _ _ (by omega)) (fun b => f6 _ _ (by omega))
    obtain ⟨j1, j2⟩ := b7 N6 q2 hbd (by rw [f6 _ _ (by omega)]; exact g8) (by rw [f6 _ _ (by omega), g7 _ _ (by omega) (by omega) (by omega), f4 _ _ (by omega), b5 _ _ (by omega) (by omega)]; exact d4) hM6
    have hF6 : FRe t N N6 := hF4.tr ((FRe_Mo g7).tr (fun a b y1 y2 _ => f6 a b (by omega)))
    have hFm5 : FRs m m5 := hFm3.tr ((FRd_Cl g4).tr (fun a b y1 y2 => by rw [hm5, up_ne (by omega)]))
    by_cases h13 : tkT B L q2 = 13
    · obtain ⟨N7, u1, u2, u3, u4⟩ := j1 h13
      clear j1 j2
      obtain ⟨m6, i1, i2, i3⟩ := (take_c (d := 80) (x := 13) hT hC5).1 h13
      obtain ⟨ox1, ox2, ox3⟩ := nxQ_v (B := B) g10
      have ox4 := ox3 (by omega)
      have G : ∀ a b, a ≠ 80 → ¬ (a = 82 ∧ (b = 0 ∨ b = 5 ∨ b = 9 ∨ b = 10 ∨ b = 11)) → ¬ (83 ≤ a ∧ a ≤ 85 ∧ b = (n : Int)) → ¬ (a = 86 ∧ (s : Int) ≤ b) → m6 a b = m a b := fun a b y1 y2 y3 y4 => by
        rw [i3 a b (by omega), hm5]
        unfold up
        rw [if_neg (by omega), g4 a b (by omega) (by omega) y4, k6 a b (by omega) y3, f2 a b (by omega)]
      have K : ∀ b, ¬ (x ≤ b ∧ b ≤ x + 2) → ¬ (t + 73 + 2 * (w : Int) ≤ b) → b ≠ t → N7 403 b = N 403 b := fun b y1 y2 y3 => by
        rw [u4 _ _ (by omega) (by omega), f6 _ _ (by omega), g7 _ _ (by omega) (by omega) (by omega), f4 _ _ (by omega), b5 _ _ (by omega) (by omega)]
      have K1 : N7 403 x = 1 := by rw [u4 _ _ (by omega) (by omega), f6 _ _ (by omega), g7 _ _ (by omega) (by omega) (by omega), f4 _ _ (by omega)]; exact b4
      have K2 : N7 403 (x + 1) = (w : Nat) := by rw [u4 _ _ (by omega) (by omega), f6 _ _ (by omega), g7 _ _ (by omega) (by omega) (by omega), hN4', up_eq]
      have K3 : N7 403 (x + 2) = (w2 : Nat) := by rw [u4 _ _ (by omega) (by omega), hN6, up_eq]
      have e0 : m6 82 0 = ((n + 1 : Nat) : Int) := by rw [i3 _ _ (by omega), hm5, up_nk (by omega), g4 _ _ (by omega) (by omega) (by omega)]; exact k2
      have ef : m6 82 9 = 1 := by rw [i3 _ _ (by omega), hm5, up_nk (by omega), g4 _ _ (by omega) (by omega) (by omega)]; exact k4
      have ef1 : m6 82 (9 + 1) = (s : Nat) := by rw [i3 _ _ (by omega), hm5, up_nk (by omega), g4 _ _ (by omega) (by omega) (by omega)]; exact k5
      have ef2 : m6 82 (9 + 2) = (s2 : Nat) := by rw [i3 _ _ (by omega), hm5, up_eq]
      have e83 : m6 83 (n : Nat) = 16 + 1 := by rw [i3 _ _ (by omega), hm5, up_ne (by omega), g4 _ _ (by omega) (by omega) (by omega)]; exact k3
      have old : lw_ t m N n s w 9 1 := t5
      have old' : lw_ t m N n s w 6 0 := t4
      have own : lw_ t m6 N7 (n + 1) s2 w2 9 1 := by
        refine Or.inr ⟨ef, n, s, s2, w, w2, by omega, by rw [hx]; exact K1, fun j hj => ?_, ef1, ef2, by rw [← K2]; congr 1; omega, by rw [← K3]; congr 1; omega, Nat.le_refl _, Nat.le_refl _, WX_ext g15 (fun j _ j2 => ?_) (fun j _ j2 => ⟨?_, ?_⟩)⟩
        · rw [K _ (by omega) (by omega) (by omega)]
          rcases old with ⟨_, y⟩ | ⟨y, _⟩
          · exact y j hj
          · omega
        · show m6 86 _ = m4 86 _
          rw [i3 _ _ (by omega), hm5, up_ne (by omega)]
        · show N7 403 _ = N5 403 _
          rw [u4 _ _ (by omega) (by omega), f6 _ _ (by omega)]
        · show N7 403 _ = N5 403 _
          rw [u4 _ _ (by omega) (by omega), f6 _ _ (by omega)]
      have oth : lw_ t m6 N7 (n + 1) s2 w2 6 0 := by
        refine lw_con old' (fun b y1 y2 => G _ _ (by omega) (by omega) (by omega) (by omega)) (fun j hj => G _ _ (by omega) (by omega) (by omega) (by omega)) (fun b y1 y2 => K b (by omega) (by omega) (by omega)) (fun b y1 y2 => K b (by omega) (by omega) (by omega)) g13 g14 (by omega) (fun i y1 y2 => ?_)
        obtain rfl : i = n := by omega
        rw [hx, K1]; omega
      have efo : m6 82 6 = m 82 6 := G _ _ (by omega) (by omega) (by omega) (by omega)
      refine Or.inl ⟨m6, N7, nxQ B L q2, s2, w2, cl _ ⟨1, m4, g1.up (by decide), m5, hend, fun z => absurd z (by decide), fun _ => ⟨1, m6, i1, fun z => absurd z (by decide), fun _ => rfl⟩⟩, u1, ⟨⟨i2.1, i2.2.1, i2.2.2.1⟩, ⟨u2, ?_, ?_, u3⟩, ⟨by omega, by omega, ox1⟩, ⟨e0, by omega, fun i hi => ?_, ?_, ?_, ?_⟩⟩, by omega, hFm5.tr (fun a b y1 y2 => i3 a b (by omega)), hF6.tr (fun a b y1 y2 _ => u4 a b (by omega) (by omega))⟩
      · rw [u4 _ _ (by omega) (by omega), f6 _ _ (by omega)]; exact g8
      · rw [u4 _ _ (by omega) (by omega), f6 _ _ (by omega)]; exact g6
      · by_cases hin : i < n
        · exact ent_con (t3 i hin) (fun a y1 y2 => G _ _ (by omega) (by omega) (by omega) (by omega)) (fun b y1 y2 => K b (by omega) (by omega) (by omega))
        · obtain rfl : i = n := by omega
          unfold ent_
          rw [hx, K1, e83]
          exact ⟨by omega, by omega, rfl, fun z => by omega, fun z => by omega⟩
      · exact oth
      · exact own
      · rw [u4 _ _ (by omega) (by omega), f6 _ _ (by omega), g7 _ _ (by omega) (by omega) (by omega), f4 _ _ (by omega), b3, ef, efo]
        exact hcv
    · obtain ⟨m6, i1, i2, i3⟩ := (take_c (d := 80) (x := 13) hT hC5).2 h13
      exact Or.inr ⟨1, q2, m6, _, by decide, cl _ ⟨1, m4, g1.up (by decide), m5, hend, fun z => absurd z (by decide), fun _ => ⟨0, m6, i1, fun _ => rfl, fun z => absurd rfl z⟩⟩, i2, hFm5.tr (FRd_Cl i3), j2 h13, by rw [up_ne (by omega)]; exact hM6.2.2.2.2.1, hF6.tr (fun a b y1 y2 _ => by unfold up; rw [if_neg (by omega)])⟩
  · have hend := c_Tx_endLaw (d := 83) (m := m4) (so := 1) (f := 9) (by decide)
    exact Or.inr ⟨fl, p, _, _, f0, cl _ ⟨0, m4, g1.up (by decide), _, hend, fun _ => rfl, fun z => absurd rfl z⟩, ⟨by rw [up_ne (by omega)]; exact g2.1, by rw [up_ne (by omega)]; exact g2.2⟩, hFm3.tr ((FRd_Cl g3).tr (fun a b y1 y2 => up_ne (by omega))), b6 fl _ (by omega) (body fl N5 g4), by rw [up_ne (by omega)]; exact g5, hF4.tr ((FRe_Mo g6).tr (fun a b y1 y2 _ => by unfold up; rw [if_neg (by omega)]))⟩
