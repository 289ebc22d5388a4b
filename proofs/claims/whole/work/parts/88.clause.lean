/-! CLAUSES: one by both -/
def KS_ (B : Int → Int) (L : Nat) (t : Int) (m N : Mm) (q s w n : Nat) : Prop := (CTk B L m q ∧ m 82 5 = (s : Nat) ∧ m 80 11 = 0) ∧ (MTk B L N q ∧ N 400 13 = t ∧ N 400 14 = (w : Nat) ∧ N 403 t = (n : Nat)) ∧ (s ≤ q ∧ w ≤ q ∧ q ≤ L) ∧ TE_ t m N n s w
/-- what reading leaves as it was: the model's -/
def FRe (t : Int) (N N' : Mm) : Prop := ∀ a b, ¬ (a = 400 ∧ 8 ≤ b ∧ b ≤ 20) → ¬ (a = 403 ∧ t ≤ b) → a ≠ 406 → N' a b = N a b
theorem FRe.tr {t : Int} {N N1 N2 : Mm} (h : FRe t N N1) (h2 : FRe t N1 N2) : FRe t N N2 := fun a b x y z => by rw [h2 a b x y z, h a b x y z]
theorem FRe_Mo {t : Int} {w : Nat} {N N' : Mm} (h : FMo t w N N') : FRe t N N' := fun a b x y z => h a b (by omega) (by omega) z
theorem FRe_D {t x : Int} {N N' : Mm} (h : FDm x N N') (hx : t ≤ x) : FRe t N N' := fun a b y1 y2 _ => h a b (by omega) (by omega)
theorem mo_head {B : Int → Int} {L : Nat} {t k : Int} {N : Mm} {q n : Nat} (hT : TPE B L) (h0 : 0 ≤ t ∧ t ≤ 2043) (hM : MTk B L N q) (h13 : N 400 13 = t) (hn : N 403 t = (n : Nat)) (hn2 : n < 24) (hk : srt_ (tkT B L q) = k) (hk0 : 0 ≤ k) {c : Int} (hc : (2 ≤ k ∧ c = N 400 20) ∨ (k ≤ 1 ∧ (0 ≤ N 400 20 ∧ N 400 20 < 4) ∧ ¬ bt_ (N 400 20) k = true ∧ c = iro (N 400 20) (isl 1 k))) :
    ∃ N4, MTk B L N4 (nxQ B L q) ∧ N4 400 15 = k ∧ N4 400 20 = c ∧ N4 403 (t + 1 + 3 * n) = k ∧ (∀ a b, ¬ (a = 400 ∧ ((8 ≤ b ∧ b ≤ 12) ∨ b = 15 ∨ b = 20)) → ¬ (a = 403 ∧ b = t + 1 + 3 * n) → N4 a b = N a b)
      ∧ (∀ (f : Int) (N5 : Mm), f ≠ 0 → Cl 14 k_Mo_body [(18, 400), (0, k), (0, t + 1 + 3 * n)] N4 (some (0, f), N5) → Cl 15 k_Mo_clause [(18, 400)] N (some (0, f), N5))
      ∧ (∀ (N5 : Mm) (q2 : Nat), Cl 14 k_Mo_body [(18, 400), (0, k), (0, t + 1 + 3 * n)] N4 (some (0, 0), N5) → N5 400 13 = t → N5 403 t = (n : Nat) → MTk B L N5 q2 → (tkT B L q2 = 13 → ∃ N7, Cl 15 k_Mo_clause [(18, 400)] N (some (0, 0), N7) ∧ MTk B L N7 (nxQ B L q2) ∧ N7 403 t = ((n + 1 : Nat) : Int) ∧ ∀ a b, ¬ (a = 400 ∧ 8 ≤ b ∧ b ≤ 12) → ¬ (a = 403 ∧ b = t) → N7 a b = N5 a b) ∧ (tkT B L q2 ≠ 13 → Cl 15 k_Mo_clause [(18, 400)] N (some (0, 1), up N5 403 t ((n + 1 : Nat) : Int)))) := by
  have hso := c_Mo_sortOf (d := 9) hT hM
  rw [hk] at hso
  have ex : w32 (w32 (t + 1) + w32 (3 * (n : Int))) = t + 1 + 3 * n := by rw [w32n (x := t + 1) (by omega) (by omega), w32n (x := 3 * (n : Int)) (by omega) (by omega), w32n (by omega) (by omega)]
  obtain ⟨N1, hN1⟩ : ∃ N1, N1 = up (up N 400 20 c) 400 15 k := ⟨_, rfl⟩
  have f1 : ∀ a b, ¬ (a = 400 ∧ (b = 15 ∨ b = 20)) → N1 a b = N a b := fun a b z => by
    rw [hN1]
    unfold up
    rw [if_neg (by omega), if_neg (by omega)]
  have hM1 : MTk B L N1 q := MTk_con hM (fun b hb => f1 _ _ (by omega)) (fun b => f1 _ _ (by omega))
  obtain ⟨N3, n1, n2, n3⟩ := adv_m (d := 13) hT hM1
  obtain ⟨N4, hN4⟩ : ∃ N4, N4 = up N3 403 (t + 1 + 3 * n) k := ⟨_, rfl⟩
  have F : ∀ a b, ¬ (a = 400 ∧ ((8 ≤ b ∧ b ≤ 12) ∨ b = 15 ∨ b = 20)) → ¬ (a = 403 ∧ b = t + 1 + 3 * n) → N4 a b = N a b := fun a b z1 z2 => by
    rw [hN4]
    unfold up
    rw [if_neg z2, n3 a b (by omega), f1 a b (by omega)]
  have e13 : N3 400 13 = t := by rw [n3 _ _ (by omega), f1 _ _ (by omega)]; exact h13
  -- up to the body
  have go : ∀ r, (∃ (v4 : Int) (m4 : Mm), Cl 14 k_Mo_body [(18, 400), (0, k), (0, t + 1 + 3 * n)] N4 (some (0, v4), m4) ∧ ((v4 = 0 → (0 ≤ m4 400 13 ∧ m4 400 13 < 2724) ∧ ((0 ≤ m4 400 13 ∧ m4 400 13 < 2724) ∧ (∀ m5 : Mm, m5 = up m4 403 (m4 400 13) (w32 ((m4 403 (m4 400 13)) + 1)) → ((m5 400 10 = 59 → ∃ (m6 : Mm), Cl 14 k_Mo_nextToken [(18, 400)] m5 (none, m6) ∧ (r = (some (0, 0), m6))) ∧ (¬ (m5 400 10 = 59) → r = (some (0, 1), m5)))))) ∧ (¬ (v4 = 0) → r = (some (0, v4), m4)))) → Cl 15 k_Mo_clause [(18, 400)] N r := fun r hr => by
    have e39 : ∀ (M : Mm) (u3 u4 : Vv), up M 400 15 k = N1 → Ev 15 K_Mo_clause 0 39 [(18, 400), (0, k), (0, (n : Nat)), u3, u4] [] M r := fun M u3 u4 hM => by
      refine b_Mo_clause_39 ?_
      rintro m1 rfl
      rw [hM]
      refine ⟨N3, n1, ?_⟩
      rw [e13, ex]
      refine ⟨by omega, ?_⟩
      rintro m3 rfl
      rw [← hN4]
      exact hr
    have e17 : ∀ u2 u3 u4 : Vv, Ev 15 K_Mo_clause 0 17 [(18, 400), (0, k), u2, u3, u4] [] N r := fun u2 u3 u4 => by
      refine b_Mo_clause_17 ?_
      rw [h13, hn]
      refine ⟨by omega, fun _ => ⟨fun z => e39 _ _ _ ?_, fun z => ?_⟩, fun z => by omega⟩
      · rcases hc with ⟨y1, y2⟩ | ⟨y1, y2⟩
        · have : up N 400 20 c = N := by
            rw [y2]
            funext a b
            unfold up
            split
            · rename_i z2
              rw [z2.1, z2.2]
            · rfl
          rw [hN1, this]
        · omega
      · rintro m1 rfl
        refine e39 _ _ _ ?_
        rcases hc with ⟨y1, y2⟩ | ⟨y1, y2, y3, y4⟩
        · omega
        · rw [← y4, hN1]
    refine cl_Mo_clause (b_Mo_clause ⟨_, _, hso, fun _ => ⟨fun _ => e17 _ _ _, fun z => ?_⟩, fun z => by omega⟩)
    rcases hc with ⟨y1, y2⟩ | ⟨y1, y2, y3, y4⟩
    · omega
    · refine ⟨_, _, c_Mo_has (by omega) (by omega), fun _ => e17 _ _ _, fun z2 => ?_⟩
      rw [if_neg y3] at z2
      exact absurd rfl z2
  refine ⟨N4, MTk_con n2 (fun b _ => by rw [hN4, up_ne (by omega)]) (fun b => by rw [hN4, up_ne (by omega)]), by rw [hN4, up_ne (by omega), n3 _ _ (by omega), hN1, up_eq], by rw [hN4, up_ne (by omega), n3 _ _ (by omega), hN1, up_nk (by omega), up_eq], by rw [hN4, up_eq], F, fun f N5 hf hb => go _ ⟨f, N5, hb, fun z => absurd z hf, fun _ => rfl⟩, fun N5 q2 hb h5 h5n hM5 => ?_⟩
  have hM6 : MTk B L (up N5 403 t ((n + 1 : Nat) : Int)) q2 := MTk_con hM5 (fun b _ => up_ne (by omega)) (fun b => up_ne (by omega))
  have t13 := tk_n hT hM6 (x := (13, 59)) (by decide)
  refine ⟨fun hq => ?_, fun hq => ?_⟩
  · obtain ⟨N7, k1, k2, k3⟩ := adv_m (d := 13) hT hM6
    refine ⟨N7, go _ ⟨0, N5, hb, fun _ => ?_, fun z => absurd rfl z⟩, k2, by rw [k3 _ _ (by omega), up_eq], fun a b z1 z2 => ?_⟩
    · rw [h5, h5n, w32s (by omega)]
      refine ⟨by omega, by omega, ?_⟩
      rintro m5 rfl
      exact ⟨fun _ => ⟨N7, k1, rfl⟩, fun z => absurd (t13.mpr hq) z⟩
    · rw [k3 a b z1]
      unfold up
      rw [if_neg z2]
  · refine go _ ⟨0, N5, hb, fun _ => ?_, fun z => absurd rfl z⟩
    rw [h5, h5n, w32s (by omega)]
    refine ⟨by omega, by omega, ?_⟩
    rintro m5 rfl
    exact ⟨fun z => absurd (t13.mp z) hq, fun _ => rfl⟩
/-- a deed's clause -/
theorem clause_d {B : Int → Int} {L : Nat} {t k : Int} {m N : Mm} {q s w n : Nat} (hT : TPE B L) (h0 : 0 ≤ t ∧ t ≤ 2043) (h : KS_ B L t m N q s w n) (hn : n < 24) (hk : tkT B L q = 16 + k) (hk2 : 2 ≤ k ∧ k ≤ 8) :
    (∃ m' N' q' s' w', Cl 84 k_Rd_clause [(15, 80)] m (some (0, 1), m') ∧ Cl 15 k_Mo_clause [(18, 400)] N (some (0, 0), N') ∧ KS_ B L t m' N' q' s' w' (n + 1) ∧ q < q' ∧ FRs m m' ∧ FRe t N N') ∨ (∃ f p m' N', 0 < f ∧ Cl 84 k_Rd_clause [(15, 80)] m (some (0, 0), m') ∧ flt_ m' f p ∧ FRd m m' ∧ Cl 15 k_Mo_clause [(18, 400)] N (some (0, f), N') ∧ N' 400 9 = (p : Nat) ∧ FRe t N N') := by
  obtain ⟨⟨c1, c2, c3⟩, ⟨d1, d2, d3, d4⟩, ⟨l1, l2, l3⟩, ⟨t1, t2, t3, t4, t5, t6⟩⟩ := h
  have hL := hT.1
  have e6 : m 80 6 = tkT B L q := c1.2.2.2.1
  have hs : srt_ (tkT B L q) = k := by unfold srt_; rw [if_pos (by omega), hk]; omega
  obtain ⟨nx1, nx2, nx3⟩ := nxQ_v (B := B) l3
  have nx4 := nx3 (by omega)
  obtain ⟨m1, a1, a2, a3⟩ := adv_c (d := 81) hT c1
  have hC1 : CSt B L (m1 80 10) m1 (nxQ B L q) s 0 := ⟨a2, by rw [a3 _ _ (by omega)]; exact c2, by rw [a3 _ _ (by omega)]; exact c3, rfl⟩
  obtain ⟨N4, b1, b2, b3, b4, b5, b6, b7⟩ := mo_head hT h0 d1 d2 d4 hn hs (by omega) (Or.inl ⟨hk2.1, rfl⟩)
  have cl : ∀ r, (∃ (v7 : Int) (m7 : Mm), Cl 83 k_Rd_deed [(15, 80), (0, 16 + k)] m1 (some (0, v7), m7) ∧ ((v7 = 0 → r = (some (0, 0), m7)) ∧ (¬ (v7 = 0) → ∃ (v8 : Int) (m8 : Mm), Cl 83 k_Rd_take [(15, 80), (0, 13)] m7 (some (0, v8), m8) ∧ ((v8 = 0 → r = (some (0, 0), m8)) ∧ (¬ (v8 = 0) → r = (some (0, 1), m8)))))) → Cl 84 k_Rd_clause [(15, 80)] m r := fun r hr => by
    refine cl_Rd_clause (b_Rd_clause ⟨fun z => ?_, fun _ => ⟨fun _ => ⟨fun z => ?_, fun _ => ⟨fun _ => b_Rd_clause_34 ⟨fun _ => ⟨m1, a1, fun z => absurd rfl z, fun _ => ?_⟩, fun z => ?_⟩, fun z => ?_⟩⟩, fun z => ?_⟩⟩)
    · exact absurd z (by rw [e6, hk]; omega)
    · exact absurd z (by rw [e6, hk]; omega)
    · rw [e6, hk]; exact hr
    · exact absurd (by rw [t1]; omega) z
    · exact absurd (Classical.not_not.mp z) (by rw [e6, hk]; omega)
    · exact absurd (by rw [e6, hk]; omega) z
  have hF4 : FRe t N N4 := fun a b x y _ => b5 a b (by omega) (by omega)
  have hFm1 : FRs m m1 := fun a b y1 y2 => a3 a b (by omega)
  rcases deed_s (k := k) (x := t + 1 + 3 * n) hT hC1 b1 (by rw [a3 _ _ (by omega)]; exact t1) hn (by omega) hk2 with ⟨q2, m2, N5, g1, g2, g3, g4, ⟨g5, g6, g7, g8, g9, g10⟩, g11, g12, g13, g14⟩ | ⟨f, p, m2, N5, f0, g1, g2, g3, g4, g5, g6⟩
  · obtain ⟨j1, j2⟩ := b7 N5 q2 g2 (by rw [g12 _ _ (by omega) (by omega), b5 _ _ (by omega) (by omega)]; exact d2) (by rw [g12 _ _ (by omega) (by omega), b5 _ _ (by omega) (by omega)]; exact d4) g4
    have hF5 : FRe t N N5 := hF4.tr (FRe_D g12 (by omega))
    by_cases h13 : tkT B L q2 = 13
    · obtain ⟨N7, k1, k2, k3, k4⟩ := j1 h13
      obtain ⟨m3, i1, i2, i3⟩ := (take_c (d := 80) (x := 13) hT g3).1 h13
      obtain ⟨ox1, ox2, ox3⟩ := nxQ_v (B := B) g14
      have ox4 := ox3 (by omega)
      have G : ∀ a b, a ≠ 80 → ¬ (a = 82 ∧ b = 0) → ¬ (83 ≤ a ∧ a ≤ 85 ∧ b = (n : Int)) → m3 a b = m a b := fun a b x y z => by rw [i3 a b (by omega), g11 a b (by omega) y z, a3 a b (by omega)]
      have K : ∀ b, ¬ (t + 1 + 3 * (n : Int) ≤ b ∧ b ≤ t + 3 + 3 * (n : Int)) → b ≠ t → N7 403 b = N 403 b := fun b x y => by rw [k4 _ _ (by omega) (by omega), g12 _ _ (by omega) (by omega), b5 _ _ (by omega) (by omega)]
      have K1 : N7 403 (t + 1 + 3 * n) = k := by rw [k4 _ _ (by omega) (by omega), g12 _ _ (by omega) (by omega)]; exact b4
      have K2 : ∀ b, b ≠ t → N7 403 b = N5 403 b := fun b x => k4 _ _ (by omega) (by omega)
      refine Or.inl ⟨m3, N7, nxQ B L q2, s, w, cl _ ⟨1, m2, g1.up (by decide), fun z => absurd z (by decide), fun _ => ⟨1, m3, i1, fun z => absurd z (by decide), fun _ => rfl⟩⟩, k1, ⟨⟨i2.1, i2.2.1, i2.2.2.1⟩, ⟨k2, ?_, ?_, k3⟩, ⟨by omega, by omega, ox1⟩, ⟨?_, by omega, fun i hi => ?_, ?_, ?_, ?_⟩⟩, by omega, hFm1.tr ((FRd_D g11).tr (fun a b y1 y2 => i3 a b (by omega))), hF5.tr (fun a b x y _ => k4 a b (by omega) (by omega))⟩
      · rw [k4 _ _ (by omega) (by omega), g12 _ _ (by omega) (by omega), b5 _ _ (by omega) (by omega)]; exact d2
      · rw [k4 _ _ (by omega) (by omega), g12 _ _ (by omega) (by omega), b5 _ _ (by omega) (by omega)]; exact d3
      · rw [i3 _ _ (by omega)]; exact g5
      · by_cases hin : i < n
        · exact ent_con (t3 i hin) (fun a x y => G _ _ (by omega) (by omega) (by omega)) (fun b x y => K b (by omega) (by omega))
        · obtain rfl : i = n := by omega
          unfold ent_
          rw [K1, i3 _ _ (by omega), i3 _ _ (by omega), i3 _ _ (by omega), K2 _ (by omega), K2 _ (by omega), g6, g7]
          rw [show t + 1 + 3 * (i : Int) + 1 = t + 2 + 3 * i by omega] at g8 g9 ⊢
          rw [show t + 1 + 3 * (i : Int) + 2 = t + 3 + 3 * i by omega] at g10
          exact ⟨by omega, by omega, rfl, fun _ => ⟨rfl, g8, g9⟩, g10⟩
      · refine lw_con t4 (fun b x y => G _ _ (by omega) (by omega) (by omega)) (fun j hj => G _ _ (by omega) (by omega) (by omega)) (fun b x y => K b (by omega) (by omega)) (fun b x y => K b (by omega) (by omega)) (Nat.le_refl _) (Nat.le_refl _) (by omega) (fun i x y => ?_)
        obtain rfl : i = n := by omega
        rw [K1]; omega
      · refine lw_con t5 (fun b x y => G _ _ (by omega) (by omega) (by omega)) (fun j hj => G _ _ (by omega) (by omega) (by omega)) (fun b x y => K b (by omega) (by omega)) (fun b x y => K b (by omega) (by omega)) (Nat.le_refl _) (Nat.le_refl _) (by omega) (fun i x y => ?_)
        obtain rfl : i = n := by omega
        rw [K1]; omega
      · rw [k4 _ _ (by omega) (by omega), g12 _ _ (by omega) (by omega), b3, G _ _ (by omega) (by omega) (by omega), G _ _ (by omega) (by omega) (by omega)]; exact t6
    · obtain ⟨m3, i1, i2, i3⟩ := (take_c (d := 80) (x := 13) hT g3).2 h13
      exact Or.inr ⟨1, q2, m3, _, by decide, cl _ ⟨1, m2, g1.up (by decide), fun z => absurd z (by decide), fun _ => ⟨0, m3, i1, fun _ => rfl, fun z => absurd rfl z⟩⟩, i2, hFm1.tr ((FRd_D g11).tr (FRd_Cl i3)), j2 h13, by rw [up_ne (by omega)]; exact g4.2.2.2.2.1, hF5.tr (fun a b x y _ => by unfold up; rw [if_neg (by omega)])⟩
  · exact Or.inr ⟨f, p, m2, N5, f0, cl _ ⟨0, m2, g1.up (by decide), fun _ => rfl, fun z => absurd rfl z⟩, g2, hFm1.tr g3, b6 f N5 (by omega) g4, g5, hF4.tr (FRe_D g6 (by omega))⟩
