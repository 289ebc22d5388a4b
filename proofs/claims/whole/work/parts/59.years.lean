/-! YEARS -/
def bfS (Lf Lg : Option Ef) (x : Int) (S : Int → Int) : Int → Int := if x % 7 = 0 then adS S (x / 7 % 40) else if x % 7 = 1 then rmS S (x / 7 % 40) else if x % 7 = 2 then (if S 0 ≤ 0 then S else prS S (x % S 0) (x / 7 % 8)) else if x % 7 = 3 then (if S 1 ≤ 0 then S else if cgB S (x % S 1) (x / 7 % 4) = true then gnS S (x % S 1) (x / 7 % 4) else S) else (if 9999 ≤ S 6 then S else psS Lf Lg true S)
theorem RV_hed {S S' : Int → Int} (h : RV S) (q8 : hv20 (S' 8)) (q9 : hv20 (S' 9)) (hS : ∀ k, k ≠ 8 → k ≠ 9 → S' k = S k) : RV S' := by
  obtain ⟨h8, h9, h1, h6, h7, hc, h10, h31⟩ := h
  exact ⟨q8, q9, by rw [hS 1 (by omega) (by omega)]; exact h1, by rw [hS 6 (by omega) (by omega)]; exact h6, by rw [hS 7 (by omega) (by omega)]; exact h7, RC_con hc (hS 1 (by omega) (by omega)) (fun k _ _ => hS k (by omega) (by omega)) h1.2, by rw [hS 10 (by omega) (by omega)]; exact h10, by rw [hS 31 (by omega) (by omega)]; exact h31⟩
theorem RV_pr {S : Int → Int} {x y : Int} (h : RV S) : RV (prS S x y) := by
  obtain ⟨q1, q2, q3⟩ := cmb_md (pat_lt (cmb (S (32 + 2 * x)) (S (33 + 2 * x))) y.toNat)
  refine RV_hed h ?_ ?_ (fun k h1 h2 => prS_k h1 h2)
  · unfold prS
    rw [ups_ne (by omega), ups_eq]
    exact q1
  · unfold prS
    rw [ups_eq]
    exact q2
theorem bfS_v {Lf Lg : Option Ef} {x : Int} {S : Int → Int} (h : RV S) (hx : 0 ≤ x ∧ x < 30817) : RV (bfS Lf Lg x S) ∧ ∀ k, ¬ (6 ≤ k ∧ k < 21) → k < 1436 → bfS Lf Lg x S k = S k := by
  have hed : hedI (x / 7 % 40) := by unfold hedI; omega
  have h1 := h.2.2.1
  unfold bfS
  split
  · obtain ⟨q1, q2, q3, _⟩ := adS_v h.1 h.2.1 hed
    exact ⟨RV_hed h q1 q2 q3, fun k hk _ => q3 k (by omega) (by omega)⟩
  · split
    · obtain ⟨q1, q2, q3, _⟩ := rmS_v h.1 h.2.1 hed
      exact ⟨RV_hed h q1 q2 q3, fun k hk _ => q3 k (by omega) (by omega)⟩
    · split
      · split
        · exact ⟨h, fun _ _ _ => rfl⟩
        · exact ⟨RV_pr h, fun k hk _ => prS_k (by omega) (by omega)⟩
      · split
        · split
          · exact ⟨h, fun _ _ _ => rfl⟩
          · split
            · rename_i hp
              obtain ⟨g1, g2, g3, g4⟩ := cgB_iff.mp hp
              exact ⟨RV_gn h g1 g3 g2 (opn_bey g4), fun k hk _ => gnS_k (by omega) (by omega)⟩
            · exact ⟨h, fun _ _ _ => rfl⟩
        · split
          · exact ⟨h, fun _ _ _ => rfl⟩
          · rename_i h9
            exact psS_v h (by omega)
theorem bf_n {x : Int} (hx : 0 ≤ x ∧ x < 30817) : irm x 7 = x % 7 ∧ irm (idv x 7) 40 = x / 7 % 40 ∧ irm (idv x 7) 8 = x / 7 % 8 ∧ irm (idv x 7) 4 = x / 7 % 4 := by
  have e := idv_n (a := x) (b := 7) (by omega) (by omega) (by omega) (by omega)
  rw [e, irm_n (by omega) (by omega) (by omega) (by omega), irm_n (by omega) (by omega) (by omega) (by omega), irm_n (by omega) (by omega) (by omega) (by omega), irm_n (by omega) (by omega) (by omega) (by omega)]
  exact ⟨rfl, rfl, rfl, rfl⟩
theorem c_Th_befall {d : Nat} {m : Mm} {Lf Lg : Option Ef} {S : Int → Int} {x : Int} (hd : LSd m 129 S) (hb : LSk m 129 S) (hX : HX m 129 Lf Lg S) (hH : RH m S) (h0 : m 128 5 = S 0 ∧ 0 ≤ S 0 ∧ S 0 ≤ 4) (hx : 0 ≤ x ∧ x < 30817) : ∃ m', Cl (d + 6) k_Th_befall [(17, 0), (0, x)] m (none, m') ∧ LSd m' 129 (bfS Lf Lg x S) ∧ LSk m' 129 (bfS Lf Lg x S) ∧ PF 129 m m' := by
  have hRV := LSd_RV hd hb hX.2.1.2
  obtain ⟨e7, e40, e8, e4⟩ := bf_n hx
  have hed : hedI (x / 7 % 40) := by unfold hedI; omega
  obtain ⟨⟨t1, t2, t3⟩, _, _, t4, _⟩ := LSd_t hd
  have hp0 : PF 129 m m := fun _ _ _ _ _ _ => rfl
  by_cases c0 : x % 7 = 0
  · have hbf : bfS Lf Lg x S = adS S (x / 7 % 40) := if_pos c0
    obtain ⟨q1, q2, q3, _⟩ := adS_v hRV.1 hRV.2.1 hed
    obtain ⟨v, a1, a2⟩ := c_La_addHedge (d := d + 5) hd hed
    rw [hbf]
    refine ⟨up m 129 0 v, cl_Th_befall (b_Th_befall ⟨fun _ => ?_, fun z => absurd (by rw [e7]; exact c0) z⟩), a2, LSk_up0 hb ⟨q3 10 (by omega) (by omega), fun k hk => q3 k (by omega) (by omega)⟩, PF_l (fun a b hab => up_ne (by omega))⟩
    rw [e40]
    exact ⟨_, a1, rfl⟩
  have n0 : ¬ irm x 7 = 0 := by rw [e7]; exact c0
  by_cases c1 : x % 7 = 1
  · have hbf : bfS Lf Lg x S = rmS S (x / 7 % 40) := by unfold bfS; rw [if_neg c0, if_pos c1]
    obtain ⟨q1, q2, q3, _⟩ := rmS_v hRV.1 hRV.2.1 hed
    obtain ⟨v, a1, a2⟩ := c_La_removeHedge (d := d + 5) hd hed
    rw [hbf]
    refine ⟨up m 129 0 v, cl_Th_befall (b_Th_befall ⟨fun z => absurd z n0, fun _ => ⟨fun _ => ?_, fun z => absurd (by rw [e7]; exact c1) z⟩⟩), a2, LSk_up0 hb ⟨q3 10 (by omega) (by omega), fun k hk => q3 k (by omega) (by omega)⟩, PF_l (fun a b hab => up_ne (by omega))⟩
    rw [e40]
    exact ⟨_, a1, rfl⟩
  have n1 : ¬ irm x 7 = 1 := by rw [e7]; exact c1
  by_cases c2 : x % 7 = 2
  · have y2 : irm x 7 = 2 := by rw [e7]; exact c2
    by_cases hz : S 0 ≤ 0
    · have hbf : bfS Lf Lg x S = S := by unfold bfS; rw [if_neg c0, if_neg c1, if_pos c2, if_pos hz]
      rw [hbf]
      exact ⟨m, cl_Th_befall (b_Th_befall ⟨fun z => absurd z n0, fun _ => ⟨fun z => absurd z n1, fun _ => ⟨fun _ => ⟨fun _ => rfl, fun z => absurd (by rw [h0.1]; exact hz) z⟩, fun z => absurd y2 z⟩⟩⟩), hd, hb, hp0⟩
    · have hbf : bfS Lf Lg x S = prS S (x % S 0) (x / 7 % 8) := by unfold bfS; rw [if_neg c0, if_neg c1, if_pos c2, if_neg hz]
      rw [hbf]
      have ha0 : 0 ≤ x % S 0 ∧ x % S 0 < S 0 := ⟨Int.emod_nonneg _ (by omega), Int.emod_lt_of_pos _ (by omega)⟩
      have er : irm x (m 128 5) = x % S 0 := by rw [h0.1, irm_n (by omega) (by omega) (by omega) (by omega)]
      obtain ⟨n, hn⟩ := Int.eq_ofNat_of_zero_le h0.2.1
      have ht0 : 0 ≤ x / 7 % 8 ∧ x / 7 % 8 < 8 := by omega
      generalize x % S 0 = u at *
      generalize x / 7 % 8 = w at *
      obtain ⟨a, rfl⟩ := Int.eq_ofNat_of_zero_le ha0.1
      obtain ⟨t, rfl⟩ := Int.eq_ofNat_of_zero_le ht0.1
      have hpt := c_Ha_pattern (d := d + 5) (h := a) (t := t) (RH_hnc hH hn) (by omega) (by omega) (by omega)
      have hL := LSd_press (x := (a : Nat)) (y := (t : Nat)) hd
      rw [Int.toNat_natCast] at hL
      refine ⟨up m 129 0 (pat (cmb (S (32 + 2 * (a : Nat))) (S (33 + 2 * (a : Nat)))) t : Nat), cl_Th_befall (b_Th_befall ⟨fun z => absurd z n0, fun _ => ⟨fun z => absurd z n1, fun _ => ⟨fun _ => ⟨fun z => absurd (by rw [← h0.1]; exact z) hz, fun _ => ⟨by rw [h0.1]; omega, ?_⟩⟩, fun z => absurd y2 z⟩⟩⟩), hL, LSk_up0 hb ⟨prS_k (by omega) (by omega), fun k hk => prS_k (by omega) (by omega)⟩, PF_l (fun a b hab => up_ne (by omega))⟩
      rw [er, e8]
      refine ⟨_, _, hpt, ?_⟩
      rintro m4 rfl
      rfl
  have n2 : ¬ irm x 7 = 2 := by rw [e7]; exact c2
  by_cases c3 : x % 7 = 3
  · have y3 : irm x 7 = 3 := by rw [e7]; exact c3
    have t3' : m 129 1 = S 1 := t3
    by_cases hz : S 1 ≤ 0
    · have hbf : bfS Lf Lg x S = S := by unfold bfS; rw [if_neg c0, if_neg c1, if_neg c2, if_pos c3, if_pos hz]
      rw [hbf]
      exact ⟨m, cl_Th_befall (b_Th_befall ⟨fun z => absurd z n0, fun _ => ⟨fun z => absurd z n1, fun _ => ⟨fun z => absurd z n2, fun _ => ⟨fun _ => ⟨fun _ => rfl, fun z => absurd (by rw [t3']; exact hz) z⟩, fun z => absurd y3 z⟩⟩⟩⟩), hd, hb, hp0⟩
    · have er : irm x (m 129 1) = x % S 1 := by rw [t3', irm_n (by omega) (by omega) (by omega) (by omega)]
      have hcg := c_La_canGo (d := d + 3) (m := m) (o := 129) (c := x % S 1) (w := x / 7 % 4) hd
      by_cases hg : cgB S (x % S 1) (x / 7 % 4) = true
      · have hbf : bfS Lf Lg x S = gnS S (x % S 1) (x / 7 % 4) := by unfold bfS; rw [if_neg c0, if_neg c1, if_neg c2, if_pos c3, if_neg hz, if_pos hg]
        rw [hbf]
        rw [if_pos hg] at hcg
        obtain ⟨g1, g2, g3, g4⟩ := cgB_iff.mp hg
        obtain ⟨m2, a1, a2, a3, a4, a5⟩ := c_La_comesHome (d := d + 4) hd hX.2.1.2 g1 g2 g3 (opn_bey g4)
        refine ⟨m2, cl_Th_befall (b_Th_befall ⟨fun z => absurd z n0, fun _ => ⟨fun z => absurd z n1, fun _ => ⟨fun z => absurd z n2, fun _ => ⟨fun _ => ⟨fun z => absurd (by rw [← t3']; exact z) hz, fun _ => ⟨by rw [t3']; omega, ?_⟩⟩, fun z => absurd y3 z⟩⟩⟩⟩), a2, LSk_con2 hb a4 (fun b => a5 _ b (by omega)) ⟨gnS_k (by omega) (by omega), fun k hk => gnS_k (by omega) (by omega)⟩, PF_l (fun a b hab => a5 a b (by omega))⟩
        rw [er, e4]
        refine ⟨_, _, hcg, fun z => absurd z (by decide), fun _ => ⟨by rw [t3']; omega, ?_⟩⟩
        rw [er, hX.2.1.1]
        exact ⟨_, _, a1, rfl⟩
      · have hbf : bfS Lf Lg x S = S := by unfold bfS; rw [if_neg c0, if_neg c1, if_neg c2, if_pos c3, if_neg hz, if_neg hg]
        rw [hbf]
        rw [if_neg hg] at hcg
        refine ⟨m, cl_Th_befall (b_Th_befall ⟨fun z => absurd z n0, fun _ => ⟨fun z => absurd z n1, fun _ => ⟨fun z => absurd z n2, fun _ => ⟨fun _ => ⟨fun z => absurd (by rw [← t3']; exact z) hz, fun _ => ⟨by rw [t3']; omega, ?_⟩⟩, fun z => absurd y3 z⟩⟩⟩⟩), hd, hb, hp0⟩
        rw [er, e4]
        exact ⟨_, _, hcg, fun _ => rfl, fun z => absurd rfl z⟩
  have n3 : ¬ irm x 7 = 3 := by rw [e7]; exact c3
  have t46 : m 129 5 = S 6 := t4.2.2
  by_cases h9 : 9999 ≤ S 6
  · have hbf : bfS Lf Lg x S = S := by unfold bfS; rw [if_neg c0, if_neg c1, if_neg c2, if_neg c3, if_pos h9]
    rw [hbf]
    exact ⟨m, cl_Th_befall (b_Th_befall ⟨fun z => absurd z n0, fun _ => ⟨fun z => absurd z n1, fun _ => ⟨fun z => absurd z n2, fun _ => ⟨fun z => absurd z n3, fun _ => ⟨fun _ => rfl, fun z => absurd (by rw [t46]; exact h9) z⟩⟩⟩⟩⟩), hd, hb, hp0⟩
  · have hbf : bfS Lf Lg x S = psS Lf Lg true S := by unfold bfS; rw [if_neg c0, if_neg c1, if_neg c2, if_neg c3, if_neg h9]
    rw [hbf]
    obtain ⟨m2, a1, a2, a3, a4⟩ := c_Th_passHour (d := d) hX hd hb (by omega)
    exact ⟨m2, cl_Th_befall (b_Th_befall ⟨fun z => absurd z n0, fun _ => ⟨fun z => absurd z n1, fun _ => ⟨fun z => absurd z n2, fun _ => ⟨fun z => absurd z n3, fun _ => ⟨fun z => absurd (by rw [← t46]; exact z) h9, fun _ => ⟨_, a1, rfl⟩⟩⟩⟩⟩⟩), a2, a3, a4⟩
theorem c_Mo_happens {d : Nat} {m : Mm} {Lf Lg : Option Ef} {x : Int} (hV : RV (m 401)) (h4 : 0 ≤ m 401 4 ∧ m 401 4 ≤ 30) (hY : TXL m (m 401 3) Lf Lg) (h24 : m 400 24 = 1) (hT : TU m) (hH : ∀ h : Nat, (h : Int) < m 401 0 → hv20 (m 401 (32 + 2 * h)) ∧ hv20 (m 401 (33 + 2 * h))) (h0 : 0 ≤ m 401 0 ∧ m 401 0 ≤ 4) (hx : 0 ≤ x ∧ x < 30817) : ∃ m', Cl (d + 7) k_Mo_happens [(18, 400), (0, x)] m (none, m') ∧ m' 401 = bfS Lf Lg x (m 401) ∧ PM m m' := by
  obtain ⟨e7, e40, e8, e4⟩ := bf_n hx
  have hed : hedI (x / 7 % 40) := by unfold hedI; omega
  have t1 := hV.2.2.1
  have hRM : RM (m 401) := ⟨hV.1, hV.2.1, h4, t1⟩
  have hp0 : PM m m := fun _ _ _ _ _ _ _ => rfl
  have hth := c_Mo_isThere (d := d + 5) hV.1 hV.2.1 hed
  have hHM : HM m 401 (x / 7 % 40) = HS (m 401) (x / 7 % 40) := rfl
  rw [hHM] at hth
  have hch := c_Mo_change (d := d + 6) (m := m) hed
  by_cases c0 : x % 7 = 0
  · have hbf : bfS Lf Lg x (m 401) = adS (m 401) (x / 7 % 40) := if_pos c0
    rw [hbf]
    unfold adS
    by_cases hh : HS (m 401) (x / 7 % 40) = true
    · rw [if_pos hh] at hth ⊢
      refine ⟨m, cl_Mo_happens (b_Mo_happens ⟨fun _ => ?_, fun z => absurd (by rw [e7]; exact c0) z⟩), rfl, hp0⟩
      rw [e40]
      exact ⟨_, _, hth, fun _ => rfl, fun z => absurd (by decide) z⟩
    · rw [if_neg hh] at hth ⊢
      refine ⟨_, cl_Mo_happens (b_Mo_happens ⟨fun _ => ?_, fun z => absurd (by rw [e7]; exact c0) z⟩), sr_eq, PM_sr⟩
      rw [e40]
      exact ⟨_, _, hth, fun z => absurd rfl z, fun _ => ⟨_, hch, rfl⟩⟩
  have n0 : ¬ irm x 7 = 0 := by rw [e7]; exact c0
  by_cases c1 : x % 7 = 1
  · have hbf : bfS Lf Lg x (m 401) = rmS (m 401) (x / 7 % 40) := by unfold bfS; rw [if_neg c0, if_pos c1]
    rw [hbf]
    unfold rmS
    by_cases hh : HS (m 401) (x / 7 % 40) = true
    · rw [if_pos hh] at hth ⊢
      refine ⟨_, cl_Mo_happens (b_Mo_happens ⟨fun z => absurd z n0, fun _ => ⟨fun _ => ?_, fun z => absurd (by rw [e7]; exact c1) z⟩⟩), sr_eq, PM_sr⟩
      rw [e40]
      exact ⟨_, _, hth, fun z => absurd z (by decide), fun _ => ⟨_, hch, rfl⟩⟩
    · rw [if_neg hh] at hth ⊢
      refine ⟨m, cl_Mo_happens (b_Mo_happens ⟨fun z => absurd z n0, fun _ => ⟨fun _ => ?_, fun z => absurd (by rw [e7]; exact c1) z⟩⟩), rfl, hp0⟩
      rw [e40]
      exact ⟨_, _, hth, fun _ => rfl, fun z => absurd rfl z⟩
  have n1 : ¬ irm x 7 = 1 := by rw [e7]; exact c1
  by_cases c2 : x % 7 = 2
  · have y2 : irm x 7 = 2 := by rw [e7]; exact c2
    by_cases hz : m 401 0 ≤ 0
    · have hbf : bfS Lf Lg x (m 401) = m 401 := by unfold bfS; rw [if_neg c0, if_neg c1, if_pos c2, if_pos hz]
      rw [hbf]
      exact ⟨m, cl_Mo_happens (b_Mo_happens ⟨fun z => absurd z n0, fun _ => ⟨fun z => absurd z n1, fun _ => ⟨fun _ => ⟨fun _ => rfl, fun z => absurd hz z⟩, fun z => absurd y2 z⟩⟩⟩), rfl, hp0⟩
    · have hbf : bfS Lf Lg x (m 401) = prS (m 401) (x % m 401 0) (x / 7 % 8) := by unfold bfS; rw [if_neg c0, if_neg c1, if_pos c2, if_neg hz]
      rw [hbf]
      have ha0 : 0 ≤ x % m 401 0 ∧ x % m 401 0 < m 401 0 := ⟨Int.emod_nonneg _ (by omega), Int.emod_lt_of_pos _ (by omega)⟩
      have er : irm x (m 401 0) = x % m 401 0 := irm_n (by omega) (by omega) (by omega) (by omega)
      obtain ⟨n, hn⟩ := Int.eq_ofNat_of_zero_le h0.1
      have ht0 : 0 ≤ x / 7 % 8 ∧ x / 7 % 8 < 8 := by omega
      generalize x % m 401 0 = u at *
      generalize x / 7 % 8 = w at *
      obtain ⟨a, rfl⟩ := Int.eq_ofNat_of_zero_le ha0.1
      obtain ⟨t, rfl⟩ := Int.eq_ofNat_of_zero_le ht0.1
      have hm : HNM m 401 n (fun h => cmb (m 401 (32 + 2 * h)) (m 401 (33 + 2 * h))) := fun j hj => by
        obtain ⟨q1, q2⟩ := hH j (by rw [hn]; omega)
        exact ⟨q1, q2, rfl⟩
      have hpr := c_Mo_pressNow (d := d + 3) (h := a) (t := t) hT hm (by omega) (by omega) (by omega)
      obtain ⟨M, hM⟩ : ∃ M, M = up (up m 401 8 (pat (cmb (m 401 (32 + 2 * (a : Nat))) (m 401 (33 + 2 * (a : Nat)))) t % 2 ^ 20 : Nat)) 401 9 (pat (cmb (m 401 (32 + 2 * (a : Nat))) (m 401 (33 + 2 * (a : Nat)))) t / 2 ^ 20 : Nat) := ⟨_, rfl⟩
      have hpr' : Cl (d + 6) k_Mo_pressNow [(18, 400), (0, (a : Nat)), (0, (t : Nat))] m (none, M) := by rw [hM]; exact hpr
      refine ⟨M, cl_Mo_happens (b_Mo_happens ⟨fun z => absurd z n0, fun _ => ⟨fun z => absurd z n1, fun _ => ⟨fun _ => ⟨fun z => absurd z hz, fun _ => ⟨by omega, ?_⟩⟩, fun z => absurd y2 z⟩⟩⟩), ?_, ?_⟩
      · rw [er, e8]
        exact ⟨_, hpr', rfl⟩
      · rw [hM, up_row, up_row]
        unfold prS
        rw [Int.toNat_natCast]
      · intro a b x1 _ _ _ _
        rw [hM, up_ne x1, up_ne x1]
  have n2 : ¬ irm x 7 = 2 := by rw [e7]; exact c2
  by_cases c3 : x % 7 = 3
  · have y3 : irm x 7 = 3 := by rw [e7]; exact c3
    by_cases hz : m 401 1 ≤ 0
    · have hbf : bfS Lf Lg x (m 401) = m 401 := by unfold bfS; rw [if_neg c0, if_neg c1, if_neg c2, if_pos c3, if_pos hz]
      rw [hbf]
      exact ⟨m, cl_Mo_happens (b_Mo_happens ⟨fun z => absurd z n0, fun _ => ⟨fun z => absurd z n1, fun _ => ⟨fun z => absurd z n2, fun _ => ⟨fun _ => ⟨fun _ => rfl, fun z => absurd hz z⟩, fun z => absurd y3 z⟩⟩⟩⟩), rfl, hp0⟩
    · have er : irm x (m 401 1) = x % m 401 1 := irm_n (by omega) (by omega) (by omega) (by omega)
      have hcg := c_Mo_canGo (d := d + 3) (m := m) (c := x % m 401 1) (w := x / 7 % 4) hRM hV.2.2.2.2.2.1
      by_cases hg : cgB (m 401) (x % m 401 1) (x / 7 % 4) = true
      · have hbf : bfS Lf Lg x (m 401) = gnS (m 401) (x % m 401 1) (x / 7 % 4) := by unfold bfS; rw [if_neg c0, if_neg c1, if_neg c2, if_pos c3, if_neg hz, if_pos hg]
        rw [hbf]
        rw [if_pos hg] at hcg
        obtain ⟨g1, g2, g3, g4⟩ := cgB_iff.mp hg
        have hcell : cellI (m 401 (11 + 2 * (x % m 401 1))) := by
          rcases (hV.2.2.2.2.2.1 _ g1.1 g1.2).1 with q | q
          · exact absurd q g3
          · exact q
        have hgo := c_Mo_goNow (d := d + 5) (m := m) hV.2.2.2.2.2.2.2 (by omega) g2 hcell (opn_bey g4)
        refine ⟨_, cl_Mo_happens (b_Mo_happens ⟨fun z => absurd z n0, fun _ => ⟨fun z => absurd z n1, fun _ => ⟨fun z => absurd z n2, fun _ => ⟨fun _ => ⟨fun z => absurd z hz, fun _ => ⟨by omega, ?_⟩⟩, fun z => absurd y3 z⟩⟩⟩⟩), sr_eq, PM_sr⟩
        rw [er, e4]
        refine ⟨_, _, hcg, fun z => absurd z (by decide), fun _ => ⟨by omega, ?_⟩⟩
        rw [er]
        exact ⟨_, _, hgo, fun _ => rfl, fun _ => rfl⟩
      · have hbf : bfS Lf Lg x (m 401) = m 401 := by unfold bfS; rw [if_neg c0, if_neg c1, if_neg c2, if_pos c3, if_neg hz, if_neg hg]
        rw [hbf]
        rw [if_neg hg] at hcg
        refine ⟨m, cl_Mo_happens (b_Mo_happens ⟨fun z => absurd z n0, fun _ => ⟨fun z => absurd z n1, fun _ => ⟨fun z => absurd z n2, fun _ => ⟨fun _ => ⟨fun z => absurd z hz, fun _ => ⟨by omega, ?_⟩⟩, fun z => absurd y3 z⟩⟩⟩⟩), rfl, hp0⟩
        rw [er, e4]
        exact ⟨_, _, hcg, fun _ => rfl, fun z => absurd rfl z⟩
  have n3 : ¬ irm x 7 = 3 := by rw [e7]; exact c3
  by_cases h9 : 9999 ≤ m 401 6
  · have hbf : bfS Lf Lg x (m 401) = m 401 := by unfold bfS; rw [if_neg c0, if_neg c1, if_neg c2, if_neg c3, if_pos h9]
    rw [hbf]
    exact ⟨m, cl_Mo_happens (b_Mo_happens ⟨fun z => absurd z n0, fun _ => ⟨fun z => absurd z n1, fun _ => ⟨fun z => absurd z n2, fun _ => ⟨fun z => absurd z n3, fun _ => ⟨fun _ => rfl, fun z => absurd h9 z⟩⟩⟩⟩⟩), rfl, hp0⟩
  · have hbf : bfS Lf Lg x (m 401) = psS Lf Lg true (m 401) := by unfold bfS; rw [if_neg c0, if_neg c1, if_neg c2, if_neg c3, if_neg h9]
    rw [hbf]
    obtain ⟨m2, a1, a2, a3, a4⟩ := c_Mo_pass (d := d) (m := m) hY hV (by omega)
    have hfl : flg m = true := by unfold flg; rw [h24]; rfl
    rw [hfl] at a2
    exact ⟨m2, cl_Mo_happens (b_Mo_happens ⟨fun z => absurd z n0, fun _ => ⟨fun z => absurd z n1, fun _ => ⟨fun z => absurd z n2, fun _ => ⟨fun z => absurd z n3, fun _ => ⟨fun z => absurd z h9, fun _ => ⟨_, a1, rfl⟩⟩⟩⟩⟩⟩), a2, a4⟩
def yrS (Lf Lg : Option Ef) : Nat → (Int → Int) → Int → Int
  | 0, S => S
  | n + 1, S => yrS Lf Lg n (bfS Lf Lg (S 7) (anS S))
theorem yr_1 {Lf Lg : Option Ef} {S : Int → Int} (h : RV S) : RV (bfS Lf Lg (S 7) (anS S)) ∧ ∀ k, ¬ (6 ≤ k ∧ k < 21) → k < 1436 → bfS Lf Lg (S 7) (anS S) k = S k := by
  obtain ⟨q1, q2⟩ := bfS_v (Lf := Lf) (Lg := Lg) (RV_an h) h.2.2.2.2.1
  exact ⟨q1, fun k hk hk2 => by rw [q2 k hk hk2, anS_k (by omega)]⟩
theorem yr_v {Lf Lg : Option Ef} : ∀ (n : Nat) (S : Int → Int), RV S → RV (yrS Lf Lg n S) ∧ ∀ k, ¬ (6 ≤ k ∧ k < 21) → k < 1436 → yrS Lf Lg n S k = S k := by
  intro n
  induction n with
  | zero => exact fun S h => ⟨h, fun _ _ _ => rfl⟩
  | succ n ih =>
    intro S h
    obtain ⟨q1, q2⟩ := yr_1 (Lf := Lf) (Lg := Lg) h
    obtain ⟨i1, i2⟩ := ih _ q1
    exact ⟨i1, fun k hk hk2 => by rw [← q2 k hk hk2]; exact i2 k hk hk2⟩
theorem yr_c {d n : Nat} {x : Int} {Lf Lg : Option Ef} (hn : n ≤ 40) : ∀ (t k : Nat) (M : Mm) (T : Int → Int), k + t = n → LSd M 129 T → LSk M 129 T → HX M 129 Lf Lg T → RH M T → M 128 5 = T 0 ∧ 0 ≤ T 0 ∧ T 0 ≤ 4 → ∃ m', Ev (d + 7) K_Th_years 0 27 [(17, 0), (0, x), (0, (n : Nat)), (0, (k : Nat))] [] M (some (0, yrS Lf Lg t T 6), m') ∧ LSd m' 129 (yrS Lf Lg t T) ∧ LSk m' 129 (yrS Lf Lg t T) ∧ PF 129 M m' := by
  intro t
  induction t with
  | zero =>
    intro k M T hk hd hb hX hH h0
    obtain ⟨_, _, _, t4, _⟩ := LSd_t hd
    refine ⟨M, b_Th_years_27 ⟨fun _ => ?_, fun z => absurd (by omega) z⟩, hd, hb, fun _ _ _ _ _ _ => rfl⟩
    have e : M 129 5 = T 6 := t4.2.2
    rw [e]
    rfl
  | succ t ih =>
    intro k M T hk hd hb hX hH h0
    have hRV := LSd_RV hd hb hX.2.1.2
    obtain ⟨M1, a1, a2, a3, a4⟩ := c_La_draw (d := d + 6) hd hb
    have p1 : PF 129 M M1 := fun a b _ _ _ w => a4 a b (by omega)
    have hH1 : RH M1 (anS T) := RH_con hH h0.2 (fun b _ => a4 _ _ (by omega)) (anS_k (by omega)) (fun k k1 k2 => anS_k (by omega))
    obtain ⟨M2, c1, c2, c3, c4⟩ := c_Th_befall (d := d) a2 a3 (HX_con hX p1 (anS_k (by omega))) hH1 (by rw [a4 _ _ (by omega), anS_k (by omega)]; exact h0) hRV.2.2.2.2.1
    obtain ⟨q1, q2⟩ := yr_1 (Lf := Lf) (Lg := Lg) hRV
    have p2 := p1.tr c4
    obtain ⟨m', g1, g2, g3, g4⟩ := ih (k + 1) M2 _ (by omega) c2 c3 (HX_con hX p2 (q2 31 (by omega) (by omega))) (RH_con hH h0.2 (fun b _ => p2 _ _ (by omega) (by omega) (by omega) (by omega)) (q2 0 (by omega) (by omega)) (fun k k1 k2 => q2 k (by omega) (by omega))) (by rw [p2 _ _ (by omega) (by omega) (by omega) (by omega), q2 0 (by omega) (by omega)]; exact h0)
    refine ⟨m', b_Th_years_27 ⟨fun z => by omega, fun _ => ⟨_, _, a1, _, c1, ?_⟩⟩, g2, g3, p2.tr g4⟩
    rw [w32s (by omega)]
    exact g1
theorem yr_m {d n : Nat} {x : Int} {m : Mm} {Lf Lg : Option Ef} (hn : n ≤ 40) (hY : TXL m (m 401 3) Lf Lg) (h24 : m 400 24 = 1) (hT : TU m) : ∀ (t k : Nat) (M : Mm) (T : Int → Int) (u : Vv), k + t = n → M 401 = T → RV T → 0 ≤ T 4 ∧ T 4 ≤ 30 → T 3 = m 401 3 → (∀ h : Nat, (h : Int) < T 0 → hv20 (T (32 + 2 * h)) ∧ hv20 (T (33 + 2 * h))) → 0 ≤ T 0 ∧ T 0 ≤ 4 → PM m M → ∃ m', Ev (d + 8) K_Mo_years 0 25 [(18, 400), (0, x), (0, (n : Nat)), (0, (k : Nat)), u] [] M (some (0, yrS Lf Lg t T 6), m') ∧ m' 401 = yrS Lf Lg t T ∧ PM m m' := by
  intro t
  induction t with
  | zero =>
    intro k M T u hk e hV h4 e3 hH h0 hp
    refine ⟨M, b_Mo_years_25 ⟨fun _ => ?_, fun z => absurd (by omega) z⟩, e, hp⟩
    rw [e]
    rfl
  | succ t ih =>
    intro k M T u hk e hV h4 e3 hH h0 hp
    have ha := c_Mo_anew (d := d + 7) (m := M) (by rw [e]; exact hV.2.2.2.2.1)
    have e1 : sr M 401 (anS (M 401)) 401 = anS T := by rw [sr_eq, e]
    have p1 : PM m (sr M 401 (anS (M 401))) := hp.tr PM_sr
    generalize sr M 401 (anS (M 401)) = M1 at *
    obtain ⟨M2, c1, c2, c3⟩ := c_Mo_happens (d := d) (m := M1) (Lf := Lf) (Lg := Lg) (x := T 7) (by rw [e1]; exact RV_an hV) (by rw [e1, anS_k (by omega)]; exact h4) (by rw [e1, anS_k (by omega), e3]; exact HY_con hY p1) (by rw [p1 _ _ (by omega) (by omega) (by omega) (by omega) (by omega)]; exact h24) (TU_row hT (by funext b; exact p1 _ _ (by omega) (by omega) (by omega) (by omega) (by omega))) (by
      rw [e1]
      intro h hh
      rw [anS_k (by omega)] at hh
      rw [anS_k (by omega), anS_k (by omega)]
      exact hH h hh) (by rw [e1, anS_k (by omega)]; exact h0) hV.2.2.2.2.1
    rw [e1] at c2
    obtain ⟨q1, q2⟩ := yr_1 (Lf := Lf) (Lg := Lg) hV
    obtain ⟨m', g1, g2, g3⟩ := ih (k + 1) M2 _ (0, T 7) (by omega) c2 q1 (by rw [q2 4 (by omega) (by omega)]; exact h4) (by rw [q2 3 (by omega) (by omega)]; exact e3) (by
      intro h hh
      rw [q2 0 (by omega) (by omega)] at hh
      rw [q2 _ (by omega) (by omega), q2 _ (by omega) (by omega)]
      exact hH h hh) (by rw [q2 0 (by omega) (by omega)]; exact h0) (p1.tr c3)
    refine ⟨m', b_Mo_years_25 ⟨fun z => by omega, fun _ => ⟨_, ha, ?_⟩⟩, g2, g3⟩
    rw [e, w32s (by omega)]
    exact ⟨_, c1, g1⟩
theorem LSd_7 {m : Mm} {o v : Int} {S : Int → Int} (h : LSd m o S) (hv : 0 ≤ v ∧ v < 30817) : LSd (up m o 6 v) o (ups S 7 v) := by
  obtain ⟨a1, a2, a3, a4, a5, a6⟩ := h
  unfold LSd
  rw [ups_ne (by omega)]
  refine ⟨?_, ?_, ?_, ?_, ?_, ?_⟩
  · show hv20 (ups S 7 v (6 + 2)) ∧ hv20 (ups S 7 v (6 + 3)) ∧ _ = ((cmb (ups S 7 v (6 + 2)) (ups S 7 v (6 + 3)) : Nat) : Int)
    rw [ups_ne (by omega), ups_ne (by omega), up_nk (by omega)]; exact a1
  · rw [up_nk (by omega)]; exact a2
  · show 0 ≤ ups S 7 v (6 + 0) ∧ ups S 7 v (6 + 0) ≤ 9999 ∧ _ = ups S 7 v (6 + 0)
    rw [ups_ne (by omega), up_nk (by omega)]; exact a3
  · show 0 ≤ ups S 7 v 7 ∧ ups S 7 v 7 < 30817 ∧ _ = ups S 7 v 7
    rw [ups_eq, up_eq]
    omega
  · rw [up_nk (by omega)]; exact a5
  · intro c hc
    show cellI _ ∧ wayI _ ∧ ups S 7 v (6 + (5 + 2 * (c : Int))) = _ ∧ ups S 7 v (6 + (6 + 2 * (c : Int))) = _
    rw [up_ne (by omega), up_ne (by omega), up_nk (by omega), ups_ne (by omega), ups_ne (by omega)]
    exact a6 c hc
theorem op_years {m : Mm} {x y : Int} (h : R m) : OP k_Th_years k_Mo_years 0 [(0, x), (0, y)] m := by
  by_cases hx : 0 ≤ x ∧ x ≤ 9999
  · have nx : ¬ (if 0 ≤ x ∧ x ≤ 9999 then (1 : Int) else 0) = 0 := by rw [ite_z1]; exact hx
    by_cases hy : 1 ≤ y ∧ y ≤ 40
    · have ny : ¬ (if 1 ≤ y ∧ y ≤ 40 then (1 : Int) else 0) = 0 := by rw [ite_z1]; exact hy
      obtain ⟨n, rfl⟩ := Int.eq_ofNat_of_zero_le (show 0 ≤ y by omega)
      obtain ⟨Lf, Lg, hX, hX2⟩ := R_HX h
      have hRV := R_RV h
      obtain ⟨o1, o2, _⟩ := R_o h
      have h4 : 0 ≤ m 401 4 ∧ m 401 4 ≤ 30 := ⟨h.1.2.1.1.1, h.1.2.1.1.2.1⟩
      have ev : w32 (w32 (x * 2) + 331) = 2 * x + 331 := by rw [w32n (x := x * 2) (by omega) (by omega), w32n (by omega) (by omega)]; omega
      obtain ⟨u1, u2, u3, u4⟩ := kpS_v h4
      obtain ⟨m1, a1, a2, a3⟩ := c_Fa_markStep (d := 117) h.1
      have f1 : FRC m m1 := FRC_far a3
      have hX1 : HX m1 129 Lf Lg (kpS (m 401)) := HX_FC hX h.1 a2 (u2 3 (by omega) (by omega)) f1
      -- the row when it begins
      obtain ⟨T, hT⟩ : ∃ T, T = ups (kpS (m 401)) 7 (2 * x + 331) := ⟨_, rfl⟩
      have tk : ∀ k, k < 56 → k ≠ 4 → k ≠ 7 → T k = m 401 k := fun k k1 k2 k3 => by rw [hT, ups_ne k3, u2 k k1 k2]
      have tk2 : ∀ k, k ≠ 7 → T k = kpS (m 401) k := fun k k3 => by rw [hT, ups_ne k3]
      have hd2 : LSd (up m1 129 6 (2 * x + 331)) 129 T := by rw [hT]; exact LSd_7 a2.1.1 (by omega)
      have hb2 : LSk (up m1 129 6 (2 * x + 331)) 129 T := LSk_con2 a2.1.2 (up_nk (by omega)) (fun b => up_ne (by omega)) ⟨tk2 10 (by omega), fun k hk => tk2 k (by omega)⟩
      have p2 : PF 129 m1 (up m1 129 6 (2 * x + 331)) := PF_l (fun a b hab => up_ne (by omega))
      have hX3 : HX (up m1 129 6 (2 * x + 331)) 129 Lf Lg T := HX_con hX1 p2 (tk2 31 (by omega))
      have hH2 : RH (up m1 129 6 (2 * x + 331)) T := RH_con h.2.2.1 o2.2 (fun b _ => by rw [up_ne (by omega), a3 _ _ (by omega)]) (tk 0 (by omega) (by omega) (by omega)) (fun k k1 k2 => tk k (by omega) (by omega) (by omega))
      have h02 : up m1 129 6 (2 * x + 331) 128 5 = T 0 ∧ 0 ≤ T 0 ∧ T 0 ≤ 4 := by
        have q : m1 128 5 = kpS (m 401) 0 := a2.2.2.2.2.1.1
        rw [up_ne (by omega), q, tk2 0 (by omega), u2 0 (by omega) (by omega)]
        omega
      have hVT : RV T := LSd_RV hd2 hb2 (by rw [tk 31 (by omega) (by omega) (by omega)]; exact o1.2)
      obtain ⟨m2, g1, g2, g3, g4⟩ := yr_c (d := 113) (n := n) (x := x) (by omega) n 0 _ T (by omega) hd2 hb2 hX3 hH2 h02
      obtain ⟨y1, y2⟩ := yr_v (Lf := Lf) (Lg := Lg) n T hVT
      have f2 : FRC m m2 := f1.tr (PF_FRC (Or.inr rfl) (p2.tr g4))
      have e401 : m2 401 = m 401 := f2.row (by omega) (by omega) (by omega)
      have g2' : LC m2 (128 + 1) (yrS Lf Lg n T 1) (fun k => yrS Lf Lg n T (6 + k)) := g2
      rw [y2 1 (by omega) (by omega), tk2 1 (by omega)] at g2'
      have hF : FC m2 128 (yrS Lf Lg n T) := FC_land a2 u4 (fun a b q1 q2 q3 => by rw [(p2.tr g4) a b (by omega) (by omega) (by omega) (by omega)]) (fun k k1 k2 k3 => by rw [y2 k k3 k2, tk2 k (by omega)]) g2' g3
      have hkp := c_Mo_keep (d := 119) (m := m2) (by rw [e401]; exact h4)
      rw [e401] at hkp
      have hm2 : up (sr m2 401 (kpS (m 401))) 401 7 (2 * x + 331) 401 = T := by rw [up_row, sr_eq, hT]
      have fm : FRM m2 (up (sr m2 401 (kpS (m 401))) 401 7 (2 * x + 331)) := fun a b q1 _ _ => by rw [up_ne q1, sr_ne q1]
      have hTX : TXL (up (sr m2 401 (kpS (m 401))) 401 7 (2 * x + 331)) (m 401 3) Lf Lg := TXL_con hX2 (fun a b hab => by rw [fm _ _ (by omega) (by omega) (by omega), f2 _ _ (by omega) (by omega) (by omega)])
      obtain ⟨m3, k1, k2, k3⟩ := yr_m (d := 112) (n := n) (x := x) (m := up (sr m2 401 (kpS (m 401))) 401 7 (2 * x + 331)) (Lf := Lf) (Lg := Lg) (by omega) (by rw [hm2, tk 3 (by omega) (by omega) (by omega)]; exact hTX) (by rw [fm _ _ (by omega) (by omega) (by omega), f2 _ _ (by omega) (by omega) (by omega)]; exact h.2.2.2.2.2.2.2.1.2.2) (TU_row (TU_row h.2.2.2.2.2.2.2.1.2.1 (f2.row (by omega) (by omega) (by omega))) (fm.row (by omega) (by omega) (by omega))) n 0 _ T (9, 0) (by omega) hm2 hVT (by rw [tk2 4 (by omega)]; omega) (by rw [hm2]) (fun j hj => by
        rw [tk 0 (by omega) (by omega) (by omega)] at hj
        obtain ⟨q1, q2, _⟩ := h.2.2.1 j hj
        rw [tk _ (by omega) (by omega) (by omega), tk _ (by omega) (by omega) (by omega)]
        exact ⟨q1, q2⟩) h02.2 (fun _ _ _ _ _ _ _ => rfl)
      refine OP_s (m1 := m2) (m2 := m3) (v := yrS Lf Lg n T 6) h (cl_Th_years (b_Th_years ⟨fun z => by omega, fun _ => ⟨fun z => by omega, fun _ => ⟨fun z => by omega, fun _ => ⟨fun _ => ⟨_, a1, ?_⟩, fun z => absurd (by omega) z⟩⟩⟩⟩)) hF f2 (cl_Mo_years (b_Mo_years ⟨_, _, c_Mo_isIn, fun z => absurd z nx, fun _ => ⟨_, _, c_Mo_isIn, fun _ => ⟨_, hkp, ?_⟩, fun z => absurd ny z⟩⟩)) k2 (fm.tr (PM_FRM k3)) ⟨by rw [y2 0 (by omega) (by omega), tk 0 (by omega) (by omega) (by omega)], by rw [y2 2 (by omega) (by omega), tk 2 (by omega) (by omega) (by omega)], fun k q1 q2 => by rw [y2 k (by omega) (by omega), tk k (by omega) (by omega) (by omega)]⟩
      · rintro m5 rfl
        rw [ev]
        exact g1
      · rintro m5 rfl
        rw [ev]
        exact k1
    · refine OP_e h (v := -1) (cl_Th_years (b_Th_years ⟨fun z => by omega, fun _ => ⟨fun z => by omega, fun _ => ⟨fun _ => rfl, fun _ => ⟨fun z => absurd ⟨by omega, z⟩ hy, fun _ => rfl⟩⟩⟩⟩)) (cl_Mo_years (b_Mo_years ⟨_, _, c_Mo_isIn, fun z => absurd z nx, fun _ => ⟨_, _, c_Mo_isIn, fun z => ?_, fun _ => rfl⟩⟩))
      rw [ite_z1] at z
      exact absurd z hy
  · refine OP_e h (v := -1) (cl_Th_years (b_Th_years ⟨fun _ => rfl, fun z => ⟨fun _ => rfl, fun z2 => absurd ⟨by omega, by omega⟩ hx⟩⟩)) (cl_Mo_years (b_Mo_years ⟨_, _, c_Mo_isIn, fun _ => rfl, fun z => ?_⟩))
    rw [ite_z1] at z
    exact absurd z hx
