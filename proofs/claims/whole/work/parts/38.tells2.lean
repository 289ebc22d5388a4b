/-! WHAT IS SAID, TAKEN BACK, KEPT; HANDS TOLD; THE TAPE -/
theorem op_said {m : Mm} {x y : Int} (h : R m) : OP k_Th_said k_Mo_said 0 [(0, x), (0, y)] m := by
  obtain ⟨o1, o2, o3, o4, o5, o6⟩ := h.1.2.2.2
  by_cases hx : x = -1
  · refine OP_d (A := fun _ => True) (N := fun S => ups S 5 0) (a := 0) (b := 0) h ?_ (fun m1 e _ => ?_) (fun _ => ?_)
    · refine ⟨0, up m 128 8 0, cl_Th_said (b_Th_said ⟨fun z => absurd hx z, fun _ m1 hm1 => by rw [hm1]⟩), fun a b q _ _ => up_ne (by omega), fun _ => ⟨rfl, FC_up h.1 (by omega) (by omega) ?_⟩, fun z => absurd trivial z⟩
      refine ⟨?_, ?_, ?_, ?_, ⟨by rw [up_eq, ups_eq], by rw [ups_eq]; omega⟩, fun i hi => ?_⟩
      · rw [up_nk (by omega), ups_ne (by omega)]; exact o1
      · rw [up_nk (by omega), ups_ne (by omega)]; exact o2
      · rw [up_nk (by omega), ups_ne (by omega)]; exact o3
      · rw [up_nk (by omega), ups_ne (by omega), ups_ne (by omega)]; exact o4
      · rw [ups_eq] at hi; omega
    · exact ⟨0, up m1 401 5 0, cl_Mo_said (b_Mo_said ⟨fun z => absurd hx z, fun _ m2 hm2 => by rw [hm2]⟩), fun a b q _ _ => up_ne (by omega), fun _ => ⟨rfl, by rw [up_row, e]⟩, fun z => absurd trivial z⟩
    · exact ⟨ups_ne (by omega), ups_ne (by omega), fun k _ _ => ups_ne (by omega)⟩
  · refine OP_d (A := fun S => (0 ≤ x ∧ x < 40) ∧ (0 ≤ y ∧ y ≤ 10) ∧ S 5 < 8) (N := fun S => ups (ups (ups S (40 + 2 * S 5) x) (41 + 2 * S 5) y) 5 (S 5 + 1)) (a := m 401 5 + 1) (b := -2) h ?_ (fun m1 e _ => ?_) (fun hA => ?_)
    · by_cases hA : (0 ≤ x ∧ x < 40) ∧ (0 ≤ y ∧ y ≤ 10) ∧ m 401 5 < 8
      · obtain ⟨p1, p2, p3⟩ := hA
        refine ⟨m 401 5 + 1, up (up (up m 254 (m 401 5) x) 255 (m 401 5) y) 128 8 (m 401 5 + 1), cl_Th_said (b_Th_said ⟨fun _ => ⟨_, _, c_Pl_isHedge, fun z => ?_, fun _ => ⟨fun z => by omega, fun _ => ⟨fun z => by omega, fun _ => ⟨fun _ => ?_, fun z => ?_⟩⟩⟩⟩, fun z => absurd hx z⟩), fun a b q _ _ => by rw [up_ne (by omega), up_ne (by omega), up_ne (by omega)], fun _ => ⟨rfl, ?_⟩, fun z => absurd ⟨p1, p2, p3⟩ z⟩
        · rw [ite_z] at z; exact absurd p1 z
        · rw [o5.1]
          refine ⟨by omega, ?_⟩
          rintro m2 rfl
          rw [up_ne (by omega), o5.1]
          refine ⟨by omega, ?_⟩
          rintro m3 rfl
          rintro m4 rfl
          rw [up_eq, up_ne (by omega), up_ne (by omega), o5.1, w32n (by omega) (by omega)]
        · rw [o5.1] at z; omega
        · refine FC_o h.1 (fun a b _ _ => by rw [up_ne (by omega), up_ne (by omega), up_ne (by omega)]) (by rw [up_nk (by omega), up_ne (by omega), up_ne (by omega)]) (by rw [up_nk (by omega), up_ne (by omega), up_ne (by omega)]) (fun i hi => by rw [ups_ne (by omega), ups_ne (by omega), ups_ne (by omega)]) ?_
          have es : ∀ k, k ≠ 5 → k ≠ 40 + 2 * m 401 5 → k ≠ 41 + 2 * m 401 5 → ups (ups (ups (m 401) (40 + 2 * m 401 5) x) (41 + 2 * m 401 5) y) 5 (m 401 5 + 1) k = m 401 k := fun k q1 q2 q3 => by rw [ups_ne q1, ups_ne q3, ups_ne q2]
          have em : ∀ k, k ≠ 8 → up (up (up m 254 (m 401 5) x) 255 (m 401 5) y) 128 8 (m 401 5 + 1) 128 k = m 128 k := fun k q1 => by rw [up_nk q1, up_ne (by omega), up_ne (by omega)]
          refine ⟨?_, ?_, ?_, ?_, ⟨by rw [up_eq, ups_eq], by rw [ups_eq]; omega⟩, fun i hi => ?_⟩
          · rw [em _ (by omega), es _ (by omega) (by omega) (by omega)]; exact o1
          · rw [em _ (by omega), es _ (by omega) (by omega) (by omega)]; exact o2
          · rw [em _ (by omega), es _ (by omega) (by omega) (by omega)]; exact o3
          · rw [em _ (by omega), es _ (by omega) (by omega) (by omega), es _ (by omega) (by omega) (by omega)]; exact o4
          · rw [ups_eq] at hi
            have ea : up (up (up m 254 (m 401 5) x) 255 (m 401 5) y) 128 8 (m 401 5 + 1) 254 (i : Nat) = up m 254 (m 401 5) x 254 (i : Nat) := by rw [up_ne (by omega), up_ne (by omega)]
            have eb : up (up (up m 254 (m 401 5) x) 255 (m 401 5) y) 128 8 (m 401 5 + 1) 255 (i : Nat) = up (up m 254 (m 401 5) x) 255 (m 401 5) y 255 (i : Nat) := up_ne (by omega)
            have s1 : ups (ups (ups (m 401) (40 + 2 * m 401 5) x) (41 + 2 * m 401 5) y) 5 (m 401 5 + 1) (40 + 2 * m 401 5) = x := by rw [ups_ne (by omega), ups_ne (by omega), ups_eq]
            have s2 : ups (ups (ups (m 401) (40 + 2 * m 401 5) x) (41 + 2 * m 401 5) y) 5 (m 401 5 + 1) (41 + 2 * m 401 5) = y := by rw [ups_ne (by omega), ups_eq]
            rw [show (128 : Int) + 126 = 254 from rfl, show (128 : Int) + 127 = 255 from rfl, ea, eb]
            by_cases hik : (i : Int) = m 401 5
            · rw [hik, up_eq, up_eq, s1, s2]
              exact ⟨rfl, rfl, p1, p2⟩
            · rw [up_nk hik, up_nk hik, up_nk hik, es _ (by omega) (by omega) (by omega), es _ (by omega) (by omega) (by omega)]
              exact o6 i (by omega)
      · refine ⟨-2, m, cl_Th_said (b_Th_said ⟨fun _ => ⟨_, _, c_Pl_isHedge, fun _ => rfl, fun z => ⟨fun _ => rfl, fun z2 => ⟨fun _ => rfl, fun z3 => ⟨fun z4 => ?_, fun _ => rfl⟩⟩⟩⟩, fun z => absurd hx z⟩), FRC_refl, fun z => absurd z hA, fun _ => ⟨rfl, rfl⟩⟩
        rw [ite_z1] at z
        rw [o5.1] at z4
        exact absurd ⟨z, by omega, z4⟩ hA
    · have e5 : m1 401 5 = m 401 5 := by rw [e]
      by_cases hA : (0 ≤ x ∧ x < 40) ∧ (0 ≤ y ∧ y ≤ 10) ∧ m 401 5 < 8
      · obtain ⟨p1, p2, p3⟩ := hA
        have w1 : w32 (40 + w32 (2 * m 401 5)) = 40 + 2 * m 401 5 := by rw [w32n (x := 2 * m 401 5) (by omega) (by omega), w32n (by omega) (by omega)]
        have w2 : w32 (40 + 2 * m 401 5 + 1) = 41 + 2 * m 401 5 := by rw [w32n (by omega) (by omega)]; omega
        refine ⟨m 401 5 + 1, sr m1 401 (ups (ups (ups (m 401) (40 + 2 * m 401 5) x) (41 + 2 * m 401 5) y) 5 (m 401 5 + 1)), cl_Mo_said (b_Mo_said ⟨fun _ => ⟨_, _, c_Mo_isHedge, fun z => ?_, fun _ => ⟨_, _, c_Mo_isIn, fun z => ?_, fun _ => ⟨fun _ => ?_, fun z => by omega⟩⟩⟩, fun z => absurd hx z⟩), FRM_sr, fun _ => ⟨rfl, sr_eq⟩, fun z => absurd ⟨p1, p2, p3⟩ z⟩
        · rw [ite_z] at z; exact absurd p1 z
        · rw [ite_z] at z; exact absurd p2 z
        · rw [e5, w1]
          refine ⟨by omega, ?_⟩
          rintro m2 rfl
          rw [up_nk (by omega), e5, w1, w2]
          refine ⟨by omega, ?_⟩
          rintro m3 rfl
          rintro m4 rfl
          rw [up_eq, sr_up (m := m1), sr_up2, sr_eq, ups_ne (by omega), ups_ne (by omega), sr_up2, e, w32n (by omega) (by omega)]
      · refine ⟨-2, m1, cl_Mo_said (b_Mo_said ⟨fun _ => ⟨_, _, c_Mo_isHedge, fun _ => rfl, fun z => ⟨_, _, c_Mo_isIn, fun _ => rfl, fun z2 => ⟨fun z3 => ?_, fun _ => rfl⟩⟩⟩, fun z => absurd hx z⟩), FRM_refl, fun z => absurd z hA, fun _ => ⟨rfl, e⟩⟩
        rw [ite_z1] at z z2
        exact absurd ⟨z, z2, by omega⟩ hA
    · exact ⟨by rw [ups_ne (by omega), ups_ne (by omega), ups_ne (by omega)], by rw [ups_ne (by omega), ups_ne (by omega), ups_ne (by omega)], fun k _ _ => by rw [ups_ne (by omega), ups_ne (by omega), ups_ne (by omega)]⟩
theorem op_undo {m : Mm} (h : R m) : OP k_Th_undo k_Mo_undo 0 [] m := by
  have hb := h.1.2.1.1
  have ht := (LSd_t h.1.1.1).1
  have hCH := h.1.2.2.1
  have hn0 : m 401 4 ≠ 0 → (0 ≤ m 401 (56 + 46 * (m 401 4 - 1)) ∧ m 401 (56 + 46 * (m 401 4 - 1)) ≤ m 401 1 ∧ m 401 1 ≤ 5) := fun z => by
    obtain ⟨n, hn⟩ := Int.eq_ofNat_of_zero_le (show 0 ≤ m 401 4 - 1 by omega)
    rw [hn]
    have q1 := (hCH.2 n (by omega)).1
    have q2 := CH_le (by omega) hCH n (by omega)
    omega
  refine OP_d (A := fun S => S 4 ≠ 0) (N := fun S => unS S) (a := m 401 4 - 1) (b := -1) h ?_ (fun m1 e _ => ?_) (fun hA => ?_)
  · by_cases hA : m 401 4 ≠ 0
    · obtain ⟨m1, k1, k2, k3⟩ := c_Fa_takeBack (d := 118) h.1 hA
      obtain ⟨v1, _⟩ := unS_v (S := m 401) (n := m 401 4 - 1) (T := m 401 (56 + 46 * (m 401 4 - 1))) (by omega) (by omega) rfl (hn0 hA)
      refine ⟨_, m1, cl_Th_undo (b_Th_undo ⟨_, _, k1, fun z => by omega, fun _ => rfl⟩), FRC_far k3, fun _ => ⟨?_, k2⟩, fun z => absurd hA z⟩
      rw [k2.2.1.1.2.2.1, v1]
    · refine ⟨-1, m, cl_Th_undo (b_Th_undo ⟨_, _, cl_Fa_takeBack (b_Fa_takeBack ⟨fun z => ?_, fun _ => rfl⟩), fun _ => rfl, fun z => absurd rfl z⟩), FRC_refl, fun z => absurd z hA, fun _ => ⟨rfl, rfl⟩⟩
      rw [hb.2.2.1] at z
      exact absurd z hA
  · have e4 : m1 401 4 = m 401 4 := by rw [e]
    by_cases hA : m 401 4 ≠ 0
    · have := c_Mo_undo (d := 119) (m := m1) (by omega) (by rw [e]; exact hn0 hA)
      rw [e] at this
      exact ⟨_, _, this, FRM_sr, fun _ => ⟨rfl, sr_eq⟩, fun z => absurd hA z⟩
    · exact ⟨-1, m1, cl_Mo_undo (b_Mo_undo ⟨fun z => absurd (by omega) z, fun _ => rfl⟩), FRM_refl, fun z => absurd z hA, fun _ => ⟨rfl, e⟩⟩
  · obtain ⟨_, _, _, _, v5⟩ := unS_v (S := m 401) (n := m 401 4 - 1) (T := m 401 (56 + 46 * (m 401 4 - 1))) (by omega) (by omega) rfl (hn0 hA)
    exact ⟨v5 _ (by omega) (by omega) (by omega) (by omega), v5 _ (by omega) (by omega) (by omega) (by omega), fun k _ _ => v5 _ (by omega) (by omega) (by omega) (by omega)⟩
theorem RF_con {m m2 : Mm} (h : RF m) (e80 : ∀ b, b < 6 → m2 80 b = m 80 b) (e81 : ∀ b, m2 81 b = m 81 b) (e400 : ∀ b, b < 8 → m2 400 b = m 400 b) (e405 : ∀ b, m2 405 b = m 405 b) : RF m2 := by
  refine ⟨?_, ?_, ?_, ?_⟩
  · rw [e400 5 (by omega), e80 1 (by omega)]; exact h.1
  · intro i hi
    rw [e400 5 (by omega)] at hi
    rw [e81, e405]
    exact h.2.1 i hi
  · rw [e80 3 (by omega), e400 6 (by omega), e400 7 (by omega)]; exact h.2.2.1
  · rw [e80 3 (by omega), e400 6 (by omega), e400 7 (by omega), e80 4 (by omega), e80 5 (by omega)]; exact h.2.2.2
theorem R_put {m m2 : Mm} (h : R m) (hF : FC m2 128 (m2 401)) (hK : FC m2 256 (m2 402)) (hH : RH m2 (m2 401)) (hH2 : RH m2 (m2 402)) (hle : m2 402 0 ≤ m2 401 0 ∧ m2 402 2 ≤ m2 401 2) (hX : m2 401 2 ≤ m 401 2) (hf : RF m2) (hfr : ∀ a b, ((16 ≤ a ∧ a ≤ 52) ∨ a = 403 ∨ a = 404 ∨ a = 500 ∨ a = 501 ∨ (a = 400 ∧ b = 24)) → m2 a b = m a b) : R m2 ∧ m2 500 = m 500 := by
  obtain ⟨h1, h2, h3, h4, h5, h6, h7, h8, h9⟩ := h
  have hx4 := (h1.2.2.2).2.2.1
  refine ⟨⟨hF, hK, hH, hH2, hle, ?_, hf, ⟨?_, ?_, ?_⟩, ?_⟩, ?_⟩
  · intro t ht
    exact TXT_con (h6 t (by omega)) (fun a b ha hb => hfr a b (by omega)) (fun b => hfr _ _ (by omega))
  · unfold TRI
    rw [hfr 501 _ (by omega), hfr 501 _ (by omega), hfr 501 _ (by omega), hfr 501 _ (by omega)]
    exact h8.1
  · intro t k ht hk
    rw [hfr 404 _ (by omega)]
    exact h8.2.1 t k ht hk
  · rw [hfr 400 24 (by omega)]; exact h8.2.2
  · rw [hfr 48 _ (by omega), hfr 48 _ (by omega)]; exact h9
  · funext b
    exact hfr 500 b (by omega)
theorem RH_con {m m2 : Mm} {S S2 : Int → Int} (h : RH m S) (h0 : 0 ≤ S 0 ∧ S 0 ≤ 4) (hm : ∀ b, b < 8 * S 0 → m2 2 b = m 2 b) (h1 : S2 0 = S 0) (hS : ∀ k, 32 ≤ k → k < 40 → S2 k = S k) : RH m2 S2 := by
  intro j hj
  rw [h1] at hj
  obtain ⟨q1, q2, q3⟩ := h j hj
  rw [hS _ (by omega) (by omega), hS _ (by omega) (by omega)]
  refine ⟨q1, q2, fun t ht => ?_⟩
  rw [hm _ (by omega)]
  exact q3 t ht
theorem op_image {m : Mm} (h : R m) : OP k_Th_image k_Mo_image 0 [] m := by
  have h0 := h
  obtain ⟨h1, h2, h3, h4, h5, h6, h7, h8, h9⟩ := h
  obtain ⟨m1, k1, k2, k3⟩ := c_Fa_copyFrom (d := 117) (f0 := 256) (f1 := 128) (by omega) h1
  have f : ∀ a b, a < 256 ∨ 383 < a → m1 a b = m a b := fun a b hab => k3 a b (by omega)
  have e401 : m1 401 = m 401 := by funext b; exact f _ _ (by omega)
  have hcp := c_Mo_copy (d := 119) (m := m1) (a0 := 401) (a1 := 402) (by omega)
  have hS : ∀ k, 0 ≤ k → k < 1466 → fls (m1 402) 0 1466 (m1 401) k = m 401 k := fun k q1 q2 => by
    rw [fls_in (by omega), e401, show k - 0 = k by omega]
  have o := h1.2.2.2
  have e6 : m1 129 5 = m 401 6 := by rw [f _ _ (by omega)]; exact (LSd_t h1.1.1).2.2.2.1.2.2
  obtain ⟨r1, r2⟩ := R_put (m2 := sr m1 402 (fls (m1 402) 0 1466 (m1 401))) h0 (by
      rw [sr_ne (by omega), e401]
      exact FC_con h1 (fun a b ha hb => by rw [sr_ne (by omega), f _ _ (by omega)])) (by
      rw [sr_eq]
      exact FC_S (FC_con k2 (fun a b ha hb => by rw [sr_ne (by omega)])) hS) (by
      rw [sr_ne (by omega), e401]
      exact RH_con h3 o.2.1.2 (fun b _ => by rw [sr_ne (by omega), f _ _ (by omega)]) rfl (fun _ _ _ => rfl)) (by
      rw [sr_eq]
      exact RH_con h3 o.2.1.2 (fun b _ => by rw [sr_ne (by omega), f _ _ (by omega)]) (hS 0 (by omega) (by omega)) (fun k _ _ => hS k (by omega) (by omega))) (by
      rw [sr_eq, sr_ne (by omega), hS 0 (by omega) (by omega), hS 2 (by omega) (by omega), e401]
      exact ⟨Int.le_refl _, Int.le_refl _⟩) (by
      rw [sr_ne (by omega), e401]
      exact Int.le_refl _) (RF_con h7 (fun b _ => by rw [sr_ne (by omega), f _ _ (by omega)]) (fun b => by rw [sr_ne (by omega), f _ _ (by omega)]) (fun b _ => by rw [sr_ne (by omega), f _ _ (by omega)]) (fun b => by rw [sr_ne (by omega), f _ _ (by omega)])) (fun a b hab => by rw [sr_ne (by omega), f _ _ (by omega)])
  refine ⟨m 401 6, m1, _, cl_Th_image (b_Th_image ⟨_, k1, by rw [e6]⟩), cl_Mo_image (b_Mo_image ⟨_, hcp, ?_⟩), r1, r2⟩
  rw [sr_ne (by omega), e401]
theorem op_back {m : Mm} (h : R m) : OP k_Th_back k_Mo_back 0 [] m := by
  have h0 := h
  obtain ⟨h1, h2, h3, h4, h5, h6, h7, h8, h9⟩ := h
  obtain ⟨m1, k1, k2, k3⟩ := c_Fa_copyFrom (d := 117) (f0 := 128) (f1 := 256) (by omega) h2
  have f : ∀ a b, a < 128 ∨ 255 < a → m1 a b = m a b := fun a b hab => k3 a b (by omega)
  have e402 : m1 402 = m 402 := by funext b; exact f _ _ (by omega)
  have hcp := c_Mo_copy (d := 119) (m := m1) (a0 := 402) (a1 := 401) (by omega)
  have hS : ∀ k, 0 ≤ k → k < 1466 → fls (m1 401) 0 1466 (m1 402) k = m 402 k := fun k q1 q2 => by
    rw [fls_in (by omega), e402, show k - 0 = k by omega]
  have o := h2.2.2.2
  have e6 : m1 129 5 = m 402 6 := (LSd_t k2.1.1).2.2.2.1.2.2
  obtain ⟨r1, r2⟩ := R_put (m2 := sr m1 401 (fls (m1 401) 0 1466 (m1 402))) h0 (by
      rw [sr_eq]
      exact FC_S (FC_con k2 (fun a b ha hb => by rw [sr_ne (by omega)])) hS) (by
      rw [sr_ne (by omega), e402]
      exact FC_con h2 (fun a b ha hb => by rw [sr_ne (by omega), f _ _ (by omega)])) (by
      rw [sr_eq]
      exact RH_con h4 o.2.1.2 (fun b _ => by rw [sr_ne (by omega), f _ _ (by omega)]) (hS 0 (by omega) (by omega)) (fun k _ _ => hS k (by omega) (by omega))) (by
      rw [sr_ne (by omega), e402]
      exact RH_con h4 o.2.1.2 (fun b _ => by rw [sr_ne (by omega), f _ _ (by omega)]) rfl (fun _ _ _ => rfl)) (by
      rw [sr_eq, sr_ne (by omega), hS 0 (by omega) (by omega), hS 2 (by omega) (by omega), e402]
      exact ⟨Int.le_refl _, Int.le_refl _⟩) (by
      rw [sr_eq, hS 2 (by omega) (by omega)]
      exact h5.2) (RF_con h7 (fun b _ => by rw [sr_ne (by omega), f _ _ (by omega)]) (fun b => by rw [sr_ne (by omega), f _ _ (by omega)]) (fun b _ => by rw [sr_ne (by omega), f _ _ (by omega)]) (fun b => by rw [sr_ne (by omega), f _ _ (by omega)])) (fun a b hab => by rw [sr_ne (by omega), f _ _ (by omega)])
  refine ⟨m 402 6, m1, _, cl_Th_back (b_Th_back ⟨_, k1, by rw [e6]⟩), cl_Mo_back (b_Mo_back ⟨_, hcp, ?_⟩), r1, r2⟩
  rw [sr_eq, hS 6 (by omega) (by omega)]
theorem lro_cmb {x y : Int} (hx : hv20 x) (hy : hv20 y) : lro x (lsl y 20) = (cmb x y : Nat) := by
  unfold hv20 at hx hy
  obtain ⟨a, rfl⟩ := Int.eq_ofNat_of_zero_le hx.1
  obtain ⟨b, rfl⟩ := Int.eq_ofNat_of_zero_le hy.1
  have e1 : lsl (b : Int) 20 = ((b * 2 ^ 20 : Nat) : Int) := lsl_nat (a := b) (k := 20) (by omega) (by omega)
  have e2 := Nat.two_pow_add_eq_or_of_lt (i := 20) (b := a) (by omega) b
  have e3 : cmb (a : Nat) (b : Nat) = 2 ^ 20 * b + a := by
    unfold cmb
    rw [Int.toNat_natCast, Int.toNat_natCast]
    omega
  rw [e1, lro_nat (by omega) (by omega), Nat.or_comm, Nat.mul_comm, ← e2, e3]
theorem op_hand {m : Mm} {x y : Int} (h : R m) : OP k_Th_hand k_Mo_hand 0 [(0, x), (0, y)] m := by
  have h0 := h
  obtain ⟨h1, h2, h3, h4, h5, h6, h7, h8, h9⟩ := h
  obtain ⟨o1, o2, o3, o4, o5, o6⟩ := h1.2.2.2
  obtain ⟨n, hn⟩ := Int.eq_ofNat_of_zero_le o2.2.1
  have hk2 := h2.2.2.2.2.1
  by_cases hA : (0 ≤ x ∧ x ≤ 1048575) ∧ (0 ≤ y ∧ y ≤ 1048575) ∧ n < 4
  · obtain ⟨p1, p2, p3⟩ := hA
    have vx : hv20 x := ⟨p1.1, by omega⟩
    have vy : hv20 y := ⟨p2.1, by omega⟩
    have hcm := lro_cmb vx vy
    have hl := cmb_lt vx vy
    have hkp := c_Ha_keep (d := 116) (m := m) (h := n) (n := cmb x y) p3 hl
    have w1 : w32 (32 + w32 (2 * (n : Int))) = 32 + 2 * n := by rw [w32n (x := 2 * (n : Int)) (by omega) (by omega), w32n (by omega) (by omega)]
    have w2 : w32 (32 + 2 * (n : Int) + 1) = 33 + 2 * n := by rw [w32n (by omega) (by omega)]; omega
    have m1a : ∀ a b, a ≠ 2 → ¬ (a = 128 ∧ b = 5) → up (fil m 2 (8 * (n : Int)) 8 (fun t => (pat (cmb x y) t.toNat : Nat))) 128 5 (n + 1) a b = m a b := fun a b q1 q2 => by
      by_cases hb : b = 5
      · rw [up_ne (by omega), fil_ne q1]
      · rw [up_nk hb, fil_ne q1]
    have m12 : ∀ b, up (fil m 2 (8 * (n : Int)) 8 (fun t => (pat (cmb x y) t.toNat : Nat))) 128 5 (n + 1) 2 b = fil m 2 (8 * (n : Int)) 8 (fun t => (pat (cmb x y) t.toNat : Nat)) 2 b := fun b => up_ne (by omega)
    obtain ⟨M, hM⟩ : ∃ M, M = up (fil m 2 (8 * (n : Int)) 8 (fun t => (pat (cmb x y) t.toNat : Nat))) 128 5 ((n : Int) + 1) := ⟨_, rfl⟩
    have e401 : M 401 = m 401 := by funext b; rw [hM]; exact m1a _ _ (by omega) (by omega)
    obtain ⟨S', hS'⟩ : ∃ S', S' = ups (ups (ups (m 401) (32 + 2 * n) x) (33 + 2 * n) y) 0 (n + 1) := ⟨_, rfl⟩
    have s0 : S' 0 = n + 1 := by rw [hS', ups_eq]
    have sx : S' (32 + 2 * n) = x := by rw [hS', ups_ne (by omega), ups_ne (by omega), ups_eq]
    have sy : S' (33 + 2 * n) = y := by rw [hS', ups_ne (by omega), ups_eq]
    have sk : ∀ k : Int, k ≠ 0 → k ≠ 32 + 2 * n → k ≠ 33 + 2 * n → S' k = m 401 k := fun k q1 q2 q3 => by rw [hS', ups_ne q1, ups_ne q3, ups_ne q2]
    have fa : ∀ a b, a ≠ 2 → a ≠ 401 → ¬ (a = 128 ∧ b = 5) → sr M 401 S' a b = m a b := fun a b q1 q2 q3 => by rw [sr_ne q2, hM]; exact m1a a b q1 q3
    have f402 : sr M 401 S' 402 = m 402 := by funext b; exact fa _ _ (by omega) (by omega) (by omega)
    obtain ⟨r1, r2⟩ := R_put (m2 := sr M 401 S') h0 (by
        rw [sr_eq]
        refine FC_o h1 (fun a b _ _ => fa a b (by omega) (by omega) (by omega)) (fa _ _ (by omega) (by omega) (by omega)) (fa _ _ (by omega) (by omega) (by omega)) (fun k hk => sk k (by omega) (by omega) (by omega)) ⟨?_, ⟨?_, by omega⟩, ?_, ?_, ?_, fun i hi => ?_⟩
        · rw [fa _ _ (by omega) (by omega) (by omega), sk _ (by omega) (by omega) (by omega)]; exact o1
        · rw [sr_ne (by omega), hM, up_eq, s0]
        · rw [fa _ _ (by omega) (by omega) (by omega), sk _ (by omega) (by omega) (by omega)]; exact o3
        · rw [fa _ _ (by omega) (by omega) (by omega), sk _ (by omega) (by omega) (by omega), sk _ (by omega) (by omega) (by omega)]; exact o4
        · rw [fa _ _ (by omega) (by omega) (by omega), sk _ (by omega) (by omega) (by omega)]; exact o5
        · rw [sk _ (by omega) (by omega) (by omega)] at hi
          rw [fa _ _ (by omega) (by omega) (by omega), fa _ _ (by omega) (by omega) (by omega), sk _ (by omega) (by omega) (by omega), sk _ (by omega) (by omega) (by omega)]
          exact o6 i hi) (by
        rw [f402]
        exact FC_con h2 (fun a b ha hb => fa _ _ (by omega) (by omega) (by omega))) (by
        rw [sr_eq]
        intro j hj
        rw [s0] at hj
        by_cases hjn : j = n
        · subst hjn
          rw [sx, sy]
          refine ⟨vx, vy, fun t ht => ?_⟩
          rw [sr_ne (by omega), hM, m12, fil_in (by omega), show 8 * (j : Int) + t - 8 * j = t by omega, Int.toNat_natCast]
        · obtain ⟨q1, q2, q3⟩ := h3 j (by omega)
          rw [sk _ (by omega) (by omega) (by omega), sk _ (by omega) (by omega) (by omega)]
          refine ⟨q1, q2, fun t ht => ?_⟩
          rw [sr_ne (by omega), hM, m12, fil_out (by omega)]
          exact q3 t ht) (by
        rw [f402]
        exact RH_con h4 hk2.2 (fun b hb => by rw [sr_ne (by omega), hM, m12, fil_out (by omega)]) rfl (fun _ _ _ => rfl)) (by
        rw [f402, sr_eq, s0, sk 2 (by omega) (by omega) (by omega)]
        omega) (by
        rw [sr_eq, sk 2 (by omega) (by omega) (by omega)]
        exact Int.le_refl _) (RF_con h7 (fun b _ => fa _ _ (by omega) (by omega) (by omega)) (fun b => fa _ _ (by omega) (by omega) (by omega)) (fun b _ => fa _ _ (by omega) (by omega) (by omega)) (fun b => fa _ _ (by omega) (by omega) (by omega))) (fun a b hab => fa _ _ (by omega) (by omega) (by omega))
    refine ⟨n, M, sr M 401 S', cl_Th_hand (b_Th_hand ⟨fun z => by omega, fun _ => ⟨fun z => by omega, fun _ => ⟨fun z => by omega, fun _ => ⟨fun z => by omega, fun _ => ⟨fun _ => ?_, fun z => ?_⟩⟩⟩⟩⟩), cl_Mo_hand (b_Mo_hand ⟨_, _, c_Mo_isIn, fun z => ?_, fun _ => ⟨_, _, c_Mo_isIn, fun z => ?_, fun _ => ⟨fun _ => ?_, fun z => ?_⟩⟩⟩), r1, r2⟩
    · rw [hcm, o2.1, hn]
      refine ⟨_, hkp, ?_⟩
      rintro m2 rfl
      rw [fil_ne (by omega), o2.1, hn, w32n (x := (n : Int) + 1) (by omega) (by omega), up_eq, w32n (by omega) (by omega), hM, show (n : Int) + 1 - 1 = n by omega]
    · rw [o2.1, hn] at z; omega
    · rw [ite_z] at z; exact absurd p1 z
    · rw [ite_z] at z; exact absurd p2 z
    · rw [e401, hn, w1]
      refine ⟨by omega, ?_⟩
      rintro m3 rfl
      rw [up_nk (by omega), e401, hn, w1, w2]
      refine ⟨by omega, ?_⟩
      rintro m4 rfl
      rintro m5 rfl
      rw [up_eq, up_nk (by omega), up_nk (by omega), e401, hn, w32n (x := (n : Int) + 1) (by omega) (by omega), w32n (by omega) (by omega), show (n : Int) + 1 - 1 = n by omega, sr_up (m := M), sr_up2, sr_up2, e401, hS']
    · rw [e401, hn] at z; omega
  · refine OP_e h0 (v := -1) (cl_Th_hand (b_Th_hand ⟨fun _ => rfl, fun z1 => ⟨fun _ => rfl, fun z2 => ⟨fun _ => rfl, fun z3 => ⟨fun _ => rfl, fun z4 => ⟨fun z5 => ?_, fun _ => rfl⟩⟩⟩⟩⟩)) (cl_Mo_hand (b_Mo_hand ⟨_, _, c_Mo_isIn, fun _ => rfl, fun z1 => ⟨_, _, c_Mo_isIn, fun _ => rfl, fun z2 => ⟨fun z3 => ?_, fun _ => rfl⟩⟩⟩))
    · rw [o2.1, hn] at z5
      exact absurd ⟨by omega, by omega, by omega⟩ hA
    · rw [ite_z1] at z1 z2
      rw [hn] at z3
      exact absurd ⟨z1, z2, by omega⟩ hA
