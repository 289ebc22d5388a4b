/-! WHO IS HOME BY THEN; GATES FOR ALL -/
theorem op_home {m : Mm} {x : Int} (h : R m) : OP k_Th_home k_Mo_home 0 [(0, x)] m := by
  obtain ⟨_, v8, v9, _⟩ := R_h h
  obtain ⟨o1, _⟩ := R_o h
  have hL : LSd m 129 (m 401) := h.1.1.1
  have hRC := LSd_RC hL
  obtain ⟨⟨t1, t2, t3⟩, _⟩ := LSd_t hL
  obtain ⟨T, hT⟩ := Int.eq_ofNat_of_zero_le t1
  by_cases hx : 0 ≤ x ∧ x ≤ 99
  · obtain ⟨n, rfl⟩ := Int.eq_ofNat_of_zero_le hx.1
    obtain ⟨g, hg⟩ := Int.eq_ofNat_of_zero_le o1.2.1
    have hg25 : g < 2 ^ 25 := by omega
    obtain ⟨m1, q1, q2, q3⟩ := c_Th_mazeNow (d := 117) h
    have e401 : m1 401 = m 401 := by funext b; exact q3 _ _ (by omega)
    have hL1 : LSd m1 129 (m 401) := LC_con hL (fun a b _ _ => q3 a b (by omega)) (fun _ _ _ => rfl)
    have hwl := wth_lt (H := HM m 401) (A := AL) hg25 n
    obtain ⟨p, hp⟩ : ∃ p : Nat → Bool, ∀ c : Nat, p c = true ↔ m 401 (11 + 2 * c) = -1 ∨ (wth (HM m 401) AL g n).testBit (m 401 (11 + 2 * c)).toNat = true := ⟨fun c => decide (m 401 (11 + 2 * c) = -1) || (wth (HM m 401) AL g n).testBit (m 401 (11 + 2 * c)).toNat, fun c => by rw [Bool.or_eq_true, decide_eq_true_eq]⟩
    have fc : ∀ (t k : Nat), k + t = T → Ev 120 K_Th_home 0 19 [(17, 0), (0, (n : Nat)), (0, (wth (HM m 401) AL g n : Nat)), (0, (bs_ p k : Nat)), (0, (k : Nat))] [] m1 (some (0, (bs_ p T : Nat)), m1) := by
      have e1 : m1 129 1 = (T : Nat) := by rw [q3 _ _ (by omega), t3, hT]
      intro t
      induction t with
      | zero =>
        intro k hk
        obtain rfl : k = T := by omega
        exact b_Th_home_19 ⟨fun _ => rfl, fun z => absurd (by rw [e1]; omega) z⟩
      | succ t ih =>
        intro k hk
        have gg := ih (k + 1) (by omega)
        have hk0 : 0 ≤ ((k : Nat) : Int) ∧ ((k : Nat) : Int) < m 401 1 := ⟨by omega, by omega⟩
        obtain ⟨y1, y2⟩ := LSd_hm hL1 hk0
        refine b_Th_home_19 ⟨fun z => by rw [e1] at z; omega, fun _ => ⟨_, _, c_La_isHomeS hL1 hk0, fun z => ?_, fun z => ⟨by omega, ?_⟩⟩⟩
        · rw [ite_z1] at z
          rw [bst_s1 ((hp k).mpr (Or.inl z)) (by omega), w32s (by omega)]
          exact gg
        · rw [Classical.not_not, ite_z] at z
          obtain ⟨w1, w2⟩ := y2 z
          have w1' : m1 130 (k : Nat) = m 401 (11 + 2 * (k : Nat)) := w1.symm
          rw [w1']
          unfold cellI at w2
          obtain ⟨c, hc⟩ := Int.eq_ofNat_of_zero_le w2.1
          have hpk := hp k
          rw [hc, Int.toNat_natCast] at hpk
          rw [hc, bit32 (by omega) (by omega)]
          by_cases hb : bt_ ((wth (HM m 401) AL g n : Nat) : Int) (c : Nat) = true
          · rw [if_pos hb]
            refine ⟨fun z => absurd rfl z, fun _ => ?_⟩
            rw [bst_s1 (hpk.mpr (Or.inr hb)) (by omega), w32s (by omega)]
            exact gg
          · rw [if_neg hb]
            refine ⟨fun _ => ?_, fun z => absurd (by omega) z⟩
            rw [bst_s0 (fun q => by
              rcases hpk.mp q with q | q
              · omega
              · exact hb q)] at gg
            rw [w32s (by omega)]
            exact gg
    have fm : ∀ (t k : Nat) (M : Mm) (u4 u5 : Vv), k + t = T → (∀ a b, a ≠ 411 → M a b = m1 a b) → ∃ m2, Ev 120 K_Mo_home 0 11 [(18, 400), (0, (n : Nat)), (0, (bs_ p k : Nat)), (0, (k : Nat)), u4, u5] [] M (some (0, (bs_ p T : Nat)), m2) ∧ ∀ a b, a ≠ 411 → m2 a b = m1 a b := by
      intro t
      induction t with
      | zero =>
        intro k M u4 u5 hk hM
        have e1 : M 401 1 = (T : Nat) := by rw [hM _ _ (by omega), e401, hT]
        obtain rfl : k = T := by omega
        exact ⟨M, b_Mo_home_11 ⟨fun _ => rfl, fun z => absurd (by rw [e1]; omega) z⟩, hM⟩
      | succ t ih =>
        intro k M u4 u5 hk hM
        have e4 : M 401 = m 401 := by funext b; rw [hM _ _ (by omega), e401]
        have e1 : M 401 1 = (T : Nat) := by rw [e4, hT]
        have h31 := bst_31 (p := p) (k := k) (by omega)
        have hih := c_Mo_isHome (d := 118) (m := M) (x := (k : Nat)) (by omega)
        rw [e4] at hih
        by_cases hh : m 401 (11 + 2 * (k : Nat)) = -1
        · rw [if_pos hh] at hih
          obtain ⟨m2, g1, g2⟩ := ih (k + 1) M (0, 1) (0, 0) (by omega) hM
          refine ⟨m2, b_Mo_home_11 ⟨fun z => by rw [e1] at z; omega, fun _ => ⟨_, _, hih, fun _ => b_Mo_home_31 ⟨fun z => by omega, fun _ => ⟨fun _ => b_Mo_home_55 ⟨fun z => by omega, fun _ => ?_⟩, fun z => absurd (by omega) z⟩⟩, fun z => absurd (by omega) z⟩⟩, g2⟩
          rw [bst_s1 ((hp k).mpr (Or.inl hh)) (by omega), w32s (by omega)]
          exact g1
        · rw [if_neg hh] at hih
          have hcell : cellI (m 401 (11 + 2 * (k : Nat))) := by
            rcases (hRC (k : Nat) (by omega) (by omega)).1 with q | q
            · exact absurd q hh
            · exact q
          unfold cellI at hcell
          obtain ⟨c, hc⟩ := Int.eq_ofNat_of_zero_le hcell.1
          have hco := c_Mo_cellOf (d := 119) (m := M) (x := (k : Nat)) (by omega)
          rw [e4, hc] at hco
          obtain ⟨M2, f1, f2, f3⟩ := c_Mo_layFar (d := 116) (m := M) (x := 0) (s := c) (by rw [e4]; exact v8) (by rw [e4]; exact v9) (Or.inl rfl) (FARS_0 (by omega)) (by omega)
          rw [HM_row e4] at f2
          have hM2 : ∀ a b, a ≠ 411 → M2 a b = m1 a b := fun a b hab => by rw [f3 a b hab, hM a b hab]
          have eg : M2 401 31 = (g : Nat) := by rw [hM2 _ _ (by omega), e401, hg]
          have hpk := hp k
          rw [hc, Int.toNat_natCast] at hpk
          have hex : p k = true ↔ ∃ d, g.testBit d = true ∧ M2 411 (d : Nat) ≤ (n : Nat) := by
            rw [hpk]
            constructor
            · rintro (q | q)
              · omega
              · obtain ⟨a, a1, a2⟩ := (wth_walk hg25 n c).mp q
                have ha := bit_lt hg25 a1
                exact ⟨a, a1, ((f2 a ha).2 n (by omega)).mpr ((wth_one (by omega)).mpr (Wk_sym n a c a2))⟩
            · rintro ⟨a, a1, a2⟩
              have ha := bit_lt hg25 a1
              exact Or.inr ((wth_walk hg25 n c).mpr ⟨a, a1, Wk_sym n c a ((wth_one (by omega)).mp (((f2 a ha).2 n (by omega)).mp a2))⟩)
          have at55 : ∀ (y4 y5 : Int), (y4 = if p k = true then 1 else 0) → ∃ m2, Ev 120 K_Mo_home 0 55 [(18, 400), (0, (n : Nat)), (0, (bs_ p k : Nat)), (0, (k : Nat)), (0, y4), (0, y5)] [] M2 (some (0, (bs_ p T : Nat)), m2) ∧ ∀ a b, a ≠ 411 → m2 a b = m1 a b := by
            intro y4 y5 hy
            obtain ⟨m2, g1, g2⟩ := ih (k + 1) M2 (0, y4) (0, y5) (by omega) hM2
            by_cases hpt : p k = true
            · rw [if_pos hpt] at hy
              refine ⟨m2, b_Mo_home_55 ⟨fun z => by omega, fun _ => ?_⟩, g2⟩
              rw [bst_s1 hpt (by omega), w32s (by omega)]
              exact g1
            · rw [if_neg hpt] at hy
              refine ⟨m2, b_Mo_home_55 ⟨fun _ => ?_, fun z => absurd hy z⟩, g2⟩
              rw [bst_s0 hpt] at g1
              rw [iro_0 (by omega), w32s (by omega)]
              exact g1
          have lp : ∀ (s j : Nat), j + s = 25 → (∀ i, i < j → ¬ (g.testBit i = true ∧ M2 411 (i : Nat) ≤ (n : Nat))) → ∃ m2, Ev 120 K_Mo_home 0 31 [(18, 400), (0, (n : Nat)), (0, (bs_ p k : Nat)), (0, (k : Nat)), (0, 0), (0, (j : Nat))] [] M2 (some (0, (bs_ p T : Nat)), m2) ∧ ∀ a b, a ≠ 411 → m2 a b = m1 a b := by
            intro s
            induction s with
            | zero =>
              intro j hj hno
              obtain rfl : j = 25 := by omega
              obtain ⟨m2, g1, g2⟩ := at55 0 ((25 : Nat) : Int) (by
                rw [if_neg]
                intro q
                obtain ⟨d, d1, d2⟩ := hex.mp q
                exact hno d (bit_lt hg25 d1) ⟨d1, d2⟩)
              exact ⟨m2, b_Mo_home_31 ⟨fun _ => g1, fun z => absurd (by omega) z⟩, g2⟩
            | succ s ihs =>
              intro j hj hno
              have hhas := c_Mo_has (d := 119) (m := M2) (s := (g : Nat)) (k := (j : Nat)) (by omega) (by omega)
              by_cases hgb : bt_ ((g : Nat) : Int) (j : Nat) = true
              · rw [if_pos hgb] at hhas
                by_cases hle : M2 411 (j : Nat) ≤ (n : Nat)
                · obtain ⟨m2, g1, g2⟩ := at55 1 ((j + 1 : Nat) : Int) (by rw [if_pos (hex.mpr ⟨j, hgb, hle⟩)])
                  refine ⟨m2, b_Mo_home_31 ⟨fun z => by omega, fun _ => ⟨fun z => absurd rfl z, fun _ => ?_⟩⟩, g2⟩
                  rw [eg]
                  refine ⟨_, _, hhas, fun z => by omega, fun _ => ⟨by omega, fun z => by omega, fun _ => ?_⟩⟩
                  rw [w32s (by omega)]
                  by_cases hj25 : j + 1 = 25
                  · exact b_Mo_home_31 ⟨fun _ => g1, fun z => absurd (by omega) z⟩
                  · exact b_Mo_home_31 ⟨fun z => by omega, fun _ => ⟨fun _ => g1, fun z => absurd (by omega) z⟩⟩
                · obtain ⟨m2, g1, g2⟩ := ihs (j + 1) (by omega) (fun i hi => by
                    by_cases hij : i = j
                    · subst hij; exact fun z => hle z.2
                    · exact hno i (by omega))
                  refine ⟨m2, b_Mo_home_31 ⟨fun z => by omega, fun _ => ⟨fun z => absurd rfl z, fun _ => ?_⟩⟩, g2⟩
                  rw [eg]
                  refine ⟨_, _, hhas, fun z => by omega, fun _ => ⟨by omega, fun _ => ?_, fun z => by omega⟩⟩
                  rw [w32s (by omega)]
                  exact g1
              · rw [if_neg hgb] at hhas
                obtain ⟨m2, g1, g2⟩ := ihs (j + 1) (by omega) (fun i hi => by
                  by_cases hij : i = j
                  · subst hij; exact fun z => hgb z.1
                  · exact hno i (by omega))
                refine ⟨m2, b_Mo_home_31 ⟨fun z => by omega, fun _ => ⟨fun z => absurd rfl z, fun _ => ?_⟩⟩, g2⟩
                rw [eg]
                refine ⟨_, _, hhas, fun _ => ?_, fun z => absurd rfl z⟩
                rw [w32s (by omega)]
                exact g1
          obtain ⟨m2, g1, g2⟩ := lp 25 0 rfl (fun i hi => by omega)
          exact ⟨m2, b_Mo_home_11 ⟨fun z => by rw [e1] at z; omega, fun _ => ⟨_, _, hih, fun z => absurd rfl z, fun _ => ⟨_, _, hco, _, f1, g1⟩⟩⟩, g2⟩
    obtain ⟨m2, g1, g2⟩ := fm T 0 m1 (9, 0) (9, 0) (by omega) (fun _ _ _ => rfl)
    refine OP_q h (cl_Th_home (b_Th_home ⟨fun z => by omega, fun _ => ⟨fun _ => ⟨_, q1, ?_⟩, fun z => by omega⟩⟩)) (cl_Mo_home (b_Mo_home ⟨_, _, c_Mo_isIn, fun _ => g1, fun z => ?_⟩)) (SM_13 q3) (SM_411 g2)
    · rw [q3 _ _ (by omega), o1.1, hg]
      exact ⟨_, _, c_Mz_within q2 hg25 (by omega), fc T 0 (by omega)⟩
    · rw [ite_z1] at z; exact absurd hx z
  · refine OP_e h (v := -1) (cl_Th_home (b_Th_home ⟨fun _ => rfl, fun z => ⟨fun z2 => by omega, fun _ => rfl⟩⟩)) (cl_Mo_home (b_Mo_home ⟨_, _, c_Mo_isIn, fun z => ?_, fun _ => rfl⟩))
    rw [ite_z1] at z; exact absurd z hx
