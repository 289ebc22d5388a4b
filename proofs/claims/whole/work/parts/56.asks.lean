/-! CALLS THAT ASK THE LAWS -/
theorem PM_FRM {m m' : Mm} (h : PM m m') : FRM m m' := fun a b x y z => h a b x (by omega) (by omega) (by omega) (by omega)
theorem PF_FRC {m m' : Mm} {L : Int} (hL : L = 64 ∨ L = 129) (h : PF L m m') : FRC m m' := fun a b x y z => h a b (by omega) (by omega) (by omega) (by omega)
theorem JG_SM {m m' : Mm} (h : JG m m') : SM m m' := fun a b hab => by
  unfold scr at hab
  exact h a b (by omega) (by omega) (by omega)
theorem MG_SM {m m' : Mm} (h : MG m m') : SM m m' := fun a b hab => by
  unfold scr at hab
  exact h a b (by omega) (by omega) (by omega)
theorem R_RV {m : Mm} (h : R m) : RV (m 401) := LSd_RV h.1.1.1 h.1.1.2 h.1.2.2.2.1.2
theorem R_HX {m : Mm} (h : R m) : ∃ Lf Lg, HX m 129 Lf Lg (m 401) ∧ TXL m (m 401 3) Lf Lg := by
  obtain ⟨o1, o2, o3, o4, _⟩ := R_o h
  obtain ⟨Lf, Lg, hx⟩ := R_TXL h o4.2.1 o4.2.2
  refine ⟨Lf, Lg, ⟨h.2.2.2.2.2.2.2.1.1, o1, ?_, ?_, Or.inr rfl⟩, hx⟩
  · rw [o4.1, o3.1]
    omega
  · rw [o4.1]
    exact hx
theorem op_of {m : Mm} {x y : Int} (h : R m) : OP k_Th_of k_Mo_of 0 [(0, x), (0, y)] m := by
  have hL : LSd m 129 (m 401) := h.1.1.1
  obtain ⟨⟨t1, t2, t3⟩, _⟩ := LSd_t hL
  have hRV := R_RV h
  have hic := c_La_isCow (d := 119) (m := m) (o := 129) (x := x)
  rw [show m 129 1 = m 401 1 from t3] at hic
  by_cases hx : 0 ≤ x ∧ x < m 401 1
  · have nx : ¬ (if 0 ≤ x ∧ x < m 401 1 then (1 : Int) else 0) = 0 := by rw [ite_z1]; exact hx
    have hhm := c_La_isHomeS (d := 119) hL hx
    obtain ⟨p1, p2⟩ := LSd_hm hL hx
    obtain ⟨_, _, _, s4⟩ := LSd_c hL hx
    have s4' : m 131 x = m 401 (12 + 2 * x) := s4.symm
    by_cases y0 : y = 0
    · subst y0
      refine OP_e h (v := m 401 (11 + 2 * x)) (cl_Th_of (b_Th_of ⟨_, _, hic, fun _ => ⟨_, _, hhm, fun _ => ⟨fun z => ⟨by omega, ?_⟩, fun z => ?_⟩, fun z => absurd rfl z⟩, fun z => absurd nx z⟩)) (cl_Mo_of (b_Mo_of ⟨_, _, c_Mo_isCow ⟨t1, t2⟩, fun _ => ⟨fun z => absurd rfl z, fun _ => ⟨_, _, c_Mo_cellOf (by omega), rfl⟩⟩, fun z => absurd nx z⟩))
      · rw [ite_z] at z
        have q : m 401 (11 + 2 * x) = m 130 x := (p2 z).1
        rw [q]
      · rw [ite_z1] at z
        rw [z]
    · by_cases y1 : y = 1
      · subst y1
        refine OP_e h (v := m 401 (12 + 2 * x)) (cl_Th_of (b_Th_of ⟨_, _, hic, fun _ => ⟨_, _, hhm, fun z => absurd z y0, fun _ => ⟨fun _ => ⟨by omega, by rw [s4']⟩, fun z => absurd rfl z⟩⟩, fun z => absurd nx z⟩)) (cl_Mo_of (b_Mo_of ⟨_, _, c_Mo_isCow ⟨t1, t2⟩, fun _ => ⟨fun _ => ⟨fun z => absurd rfl z, fun _ => ⟨_, _, c_Mo_wayOf (by omega), rfl⟩⟩, fun z => absurd y0 z⟩, fun z => absurd nx z⟩))
      · by_cases y2 : y = 2
        · subst y2
          by_cases hh : m 401 (11 + 2 * x) = -1
          · rw [if_pos hh] at hhm
            have hmh := c_Mo_isHome (d := 118) (m := m) (x := x) (by omega)
            rw [if_pos hh] at hmh
            exact OP_e h (v := -100) (cl_Th_of (b_Th_of ⟨_, _, hic, fun _ => ⟨_, _, hhm, fun z => absurd z y0, fun _ => ⟨fun z => absurd z y1, fun _ => ⟨fun _ => ⟨fun z => absurd z (by decide), fun _ => rfl⟩, fun z => absurd rfl z⟩⟩⟩, fun z => absurd nx z⟩)) (cl_Mo_of (b_Mo_of ⟨_, _, c_Mo_isCow ⟨t1, t2⟩, fun _ => ⟨fun _ => ⟨fun _ => ⟨fun z => absurd rfl z, fun _ => ⟨_, _, hmh, fun _ => rfl, fun z => absurd (by decide) z⟩⟩, fun z => absurd y1 z⟩, fun z => absurd y0 z⟩, fun z => absurd nx z⟩))
          · rw [if_neg hh] at hhm
            obtain ⟨Lf, Lg, hX, hX2⟩ := R_HX h
            obtain ⟨m1, j1, j2⟩ := c_Ju_goesOf (d := 115) hL (by omega) (by omega) hX.2.2.2.1 hx hh
            have e401 : m1 401 = m 401 := by funext b; exact j2 _ _ (by omega) (by omega) (by omega)
            have hmh := c_Mo_isHome (d := 118) (m := m1) (x := x) (by omega)
            rw [e401, if_neg hh] at hmh
            have hmc := c_Mo_isCow (d := 118) (m := m1) (x := x) (by rw [e401]; exact ⟨t1, t2⟩)
            rw [e401] at hmc
            obtain ⟨r1, r2⟩ := hRV.2.2.2.2.2.1 x hx.1 hx.2
            obtain ⟨m2, g1, g2⟩ := c_Mo_goesOf (d := 114) (m := m1) (c := x) (Lf := Lf) (Lg := Lg) (by rw [e401]; exact hRV.1) (by rw [e401]; exact hRV.2.1) (by rw [e401]; exact hRV.2.2.2.1) (by rw [e401]; exact TXL_con hX2 (fun a b hab => j2 _ _ (by omega) (by omega) (by omega))) (by omega) (by rw [e401]; rcases r1 with q | q; exact absurd q hh; exact q) (by rw [e401]; exact r2)
            rw [e401] at g1
            exact OP_q h (cl_Th_of (b_Th_of ⟨_, _, hic, fun _ => ⟨_, _, hhm, fun z => absurd z y0, fun _ => ⟨fun z => absurd z y1, fun _ => ⟨fun _ => ⟨fun _ => ⟨_, _, c_Th_ruling (n := 0) ⟨hX.2.2.1.1, hX.2.2.1.2.1⟩ hX.2.2.1.2.2, _, _, j1, rfl⟩, fun z => absurd rfl z⟩, fun z => absurd rfl z⟩⟩⟩, fun z => absurd nx z⟩)) (cl_Mo_of (b_Mo_of ⟨_, _, hmc, fun _ => ⟨fun _ => ⟨fun _ => ⟨fun z => absurd rfl z, fun _ => ⟨_, _, hmh, fun z => absurd rfl z, fun _ => ⟨_, _, g1, rfl⟩⟩⟩, fun z => absurd y1 z⟩, fun z => absurd y0 z⟩, fun z => absurd nx z⟩)) (JG_SM j2) (MG_SM g2)
        · exact OP_e h (v := -100) (cl_Th_of (b_Th_of ⟨_, _, hic, fun _ => ⟨_, _, hhm, fun z => absurd z y0, fun _ => ⟨fun z => absurd z y1, fun _ => ⟨fun z => absurd z y2, fun _ => rfl⟩⟩⟩, fun z => absurd nx z⟩)) (cl_Mo_of (b_Mo_of ⟨_, _, c_Mo_isCow ⟨t1, t2⟩, fun _ => ⟨fun _ => ⟨fun _ => ⟨fun _ => rfl, fun z => absurd y2 z⟩, fun z => absurd y1 z⟩, fun z => absurd y0 z⟩, fun z => absurd nx z⟩))
  · refine OP_e h (v := -100) (cl_Th_of (b_Th_of ⟨_, _, hic, fun z => ?_, fun _ => rfl⟩)) (cl_Mo_of (b_Mo_of ⟨_, _, c_Mo_isCow ⟨t1, t2⟩, fun z => ?_, fun _ => rfl⟩))
    · rw [ite_z1] at z; exact absurd z hx
    · rw [ite_z1] at z; exact absurd z hx
theorem op_hedge {m : Mm} {x y : Int} (h : R m) : OP k_Th_hedge k_Mo_hedge 0 [(0, x), (0, y)] m := by
  have hL : LSd m 129 (m 401) := h.1.1.1
  have hRV := R_RV h
  by_cases hx : 0 ≤ x ∧ x < 40
  · have hx' : hedI x := hx
    have nx : ¬ (if 0 ≤ x ∧ x < 40 then (1 : Int) else 0) = 0 := by rw [ite_z1]; exact hx
    by_cases y0 : y = 0
    · subst y0
      have hha := c_La_has (d := 119) (h := x) hL
      have hth := c_Mo_isThere (d := 118) hRV.1 hRV.2.1 hx'
      have hHM : HM m 401 x = HS (m 401) x := rfl
      rw [hHM] at hth
      by_cases hb : HS (m 401) x = true
      · rw [if_pos ⟨hx, hb⟩] at hha
        rw [if_pos hb] at hth
        exact OP_e h (v := 1) (cl_Th_hedge (b_Th_hedge ⟨_, _, c_Pl_isHedge, fun _ => ⟨fun _ => ⟨_, _, hha, fun z => absurd z (by decide), fun _ => rfl⟩, fun z => absurd rfl z⟩, fun z => absurd nx z⟩)) (cl_Mo_hedge (b_Mo_hedge ⟨_, _, c_Mo_isHedge, fun _ => ⟨fun z => absurd rfl z, fun _ => ⟨_, _, hth, fun z => absurd z (by decide), fun _ => rfl⟩⟩, fun z => absurd nx z⟩))
      · rw [if_neg (fun z => hb z.2)] at hha
        rw [if_neg hb] at hth
        exact OP_e h (v := 0) (cl_Th_hedge (b_Th_hedge ⟨_, _, c_Pl_isHedge, fun _ => ⟨fun _ => ⟨_, _, hha, fun _ => rfl, fun z => absurd rfl z⟩, fun z => absurd rfl z⟩, fun z => absurd nx z⟩)) (cl_Mo_hedge (b_Mo_hedge ⟨_, _, c_Mo_isHedge, fun _ => ⟨fun z => absurd rfl z, fun _ => ⟨_, _, hth, fun _ => rfl, fun z => absurd rfl z⟩⟩, fun z => absurd nx z⟩))
    · by_cases y1 : y = 1
      · subst y1
        exact OP_e h (cl_Th_hedge (b_Th_hedge ⟨_, _, c_Pl_isHedge, fun _ => ⟨fun z => absurd z y0, fun _ => ⟨fun _ => ⟨_, _, c_Pl_firstCell hx', rfl⟩, fun z => absurd rfl z⟩⟩, fun z => absurd nx z⟩)) (cl_Mo_hedge (b_Mo_hedge ⟨_, _, c_Mo_isHedge, fun _ => ⟨fun _ => ⟨fun z => absurd rfl z, fun _ => ⟨_, _, c_Mo_westOf hx', rfl⟩⟩, fun z => absurd y0 z⟩, fun z => absurd nx z⟩))
      · by_cases y2 : y = 2
        · subst y2
          exact OP_e h (cl_Th_hedge (b_Th_hedge ⟨_, _, c_Pl_isHedge, fun _ => ⟨fun z => absurd z y0, fun _ => ⟨fun z => absurd z y1, fun _ => ⟨fun _ => ⟨_, _, c_Pl_secondCell hx', rfl⟩, fun z => absurd rfl z⟩⟩⟩, fun z => absurd nx z⟩)) (cl_Mo_hedge (b_Mo_hedge ⟨_, _, c_Mo_isHedge, fun _ => ⟨fun _ => ⟨fun _ => ⟨fun z => absurd rfl z, fun _ => ⟨_, _, c_Mo_eastOf hx', rfl⟩⟩, fun z => absurd y1 z⟩, fun z => absurd y0 z⟩, fun z => absurd nx z⟩))
        · by_cases y3 : y = 3
          · subst y3
            obtain ⟨Lf, Lg, hX, hX2⟩ := R_HX h
            obtain ⟨m1, j1, j2⟩ := c_Ju_frostsOf (d := 115) hL (by omega) (by omega) hX.2.2.2.1 hx'
            have e401 : m1 401 = m 401 := by funext b; exact j2 _ _ (by omega) (by omega) (by omega)
            obtain ⟨m2, g1, g2⟩ := c_Mo_frostsOf (d := 114) (m := m1) (h := x) (tx := m1 401 3) (Lf := Lf) (Lg := Lg) (by rw [e401]; exact hRV.1) (by rw [e401]; exact hRV.2.1) (by rw [e401]; exact hRV.2.2.2.1) (by rw [e401]; exact TXL_con hX2 (fun a b hab => j2 _ _ (by omega) (by omega) (by omega))) hx'
            have g1' : Cl 119 k_Mo_frostsOf [(18, 400), (0, m1 401 3), (0, x)] m1 (some (0, frv Lf (m 401) x), m2) := by rw [← e401]; exact g1
            exact OP_q h (cl_Th_hedge (b_Th_hedge ⟨_, _, c_Pl_isHedge, fun _ => ⟨fun z => absurd z y0, fun _ => ⟨fun z => absurd z y1, fun _ => ⟨fun z => absurd z y2, fun _ => ⟨fun _ => ⟨_, _, c_Th_ruling (n := 0) ⟨hX.2.2.1.1, hX.2.2.1.2.1⟩ hX.2.2.1.2.2, _, _, j1, rfl⟩, fun z => absurd rfl z⟩⟩⟩⟩, fun z => absurd nx z⟩)) (cl_Mo_hedge (b_Mo_hedge ⟨_, _, c_Mo_isHedge, fun _ => ⟨fun _ => ⟨fun _ => ⟨fun _ => ⟨fun z => absurd rfl z, fun _ => ⟨_, _, g1', rfl⟩⟩, fun z => absurd y2 z⟩, fun z => absurd y1 z⟩, fun z => absurd y0 z⟩, fun z => absurd nx z⟩)) (JG_SM j2) (MG_SM g2)
          · exact OP_e h (v := -1) (cl_Th_hedge (b_Th_hedge ⟨_, _, c_Pl_isHedge, fun _ => ⟨fun z => absurd z y0, fun _ => ⟨fun z => absurd z y1, fun _ => ⟨fun z => absurd z y2, fun _ => ⟨fun z => absurd z y3, fun _ => rfl⟩⟩⟩⟩, fun z => absurd nx z⟩)) (cl_Mo_hedge (b_Mo_hedge ⟨_, _, c_Mo_isHedge, fun _ => ⟨fun _ => ⟨fun _ => ⟨fun _ => ⟨fun _ => rfl, fun z => absurd y3 z⟩, fun z => absurd y2 z⟩, fun z => absurd y1 z⟩, fun z => absurd y0 z⟩, fun z => absurd nx z⟩))
  · refine OP_e h (v := -1) (cl_Th_hedge (b_Th_hedge ⟨_, _, c_Pl_isHedge, fun z => ?_, fun _ => rfl⟩)) (cl_Mo_hedge (b_Mo_hedge ⟨_, _, c_Mo_isHedge, fun z => ?_, fun _ => rfl⟩))
    · rw [ite_z1] at z; exact absurd z hx
    · rw [ite_z1] at z; exact absurd z hx
/-! whose law it was -/
def saB (Lf : Option Ef) (S : Int → Int) : Nat → Nat → Bool
  | 0, _ => true
  | t + 1, k => decide (frv Lf S (S (40 + 2 * (k : Int))) = S (41 + 2 * (k : Int))) && saB Lf S t (k + 1)
theorem JG.tr {m m1 m2 : Mm} (h1 : JG m m1) (h2 : JG m1 m2) : JG m m2 := fun a b x y z => by rw [h2 a b x y z, h1 a b x y z]
theorem MG.tr {m m1 m2 : Mm} (h1 : MG m m1) (h2 : MG m1 m2) : MG m m2 := fun a b x y z => by rw [h2 a b x y z, h1 a b x y z]
theorem op_whose {m : Mm} (h : R m) : OP k_Th_whose k_Mo_whose 0 [] m := by
  have hL : LSd m 129 (m 401) := h.1.1.1
  have hB : LSk m 129 (m 401) := h.1.1.2
  have hRV := R_RV h
  obtain ⟨_, _, o3, _, o5, o6, _⟩ := R_o h
  obtain ⟨n, hn⟩ := Int.eq_ofNat_of_zero_le o3.2.1
  obtain ⟨sn, hsn⟩ := Int.eq_ofNat_of_zero_le o5.2.1
  have hex : ∀ t : Nat, ∃ Lf Lg, t < n → TXL m (t : Nat) Lf Lg := fun t => by
    by_cases ht : t < n
    · obtain ⟨Lf, Lg, hx⟩ := R_TXL h (tx := (t : Nat)) (by omega) (by omega)
      exact ⟨Lf, Lg, fun _ => hx⟩
    · exact ⟨none, none, fun z => absurd z ht⟩
  obtain ⟨LF, hLF⟩ : ∃ LF : Nat → Option Ef, ∀ t, t < n → ∃ Lg, TXL m (t : Nat) (LF t) Lg := ⟨fun t => Classical.choose (hex t), fun t ht => by
    obtain ⟨Lg, hg⟩ := Classical.choose_spec (hex t)
    exact ⟨Lg, hg ht⟩⟩
  obtain ⟨p, hp⟩ : ∃ p : Nat → Bool, ∀ t, p t = saB (LF t) (m 401) sn 0 := ⟨_, fun _ => rfl⟩
  -- one text, the class
  have sa : ∀ (t : Nat) (M : Mm), t < n → JG m M → ∃ M', Cl 119 k_Th_saysAll [(17, 0), (16, 16 + 8 * (t : Int))] M (some (0, if p t = true then 1 else 0), M') ∧ JG m M' := by
    intro t M ht hJ
    obtain ⟨Lg, hX⟩ := hLF t ht
    have lp : ∀ (s k : Nat) (M : Mm), k + s = sn → JG m M → saB (LF t) (m 401) s k = p t → ∃ M', Ev 119 K_Th_saysAll 2 2 [(17, 0), (16, 16 + 8 * (t : Int)), (0, (k : Nat))] [] M (some (0, if p t = true then 1 else 0), M') ∧ JG m M' := by
      intro s
      induction s with
      | zero =>
        intro k M hk hJ hs
        have e8 : M 128 8 = (sn : Nat) := by rw [hJ _ _ (by omega) (by omega) (by omega), o5.1, hsn]
        refine ⟨M, b_Th_saysAll_2 ⟨fun _ => ?_, fun z => absurd (by rw [e8]; omega) z⟩, hJ⟩
        rw [← hs]
        rfl
      | succ s ih =>
        intro k M hk hJ hs
        have e8 : M 128 8 = (sn : Nat) := by rw [hJ _ _ (by omega) (by omega) (by omega), o5.1, hsn]
        obtain ⟨q1, q2, q3, q4⟩ := o6 k (by omega)
        have e254 : M 254 (k : Nat) = m 401 (40 + 2 * (k : Nat)) := by rw [hJ _ _ (by omega) (by omega) (by omega), q1]
        have hL2 := (JG_d hJ (by omega) hL hB).1
        obtain ⟨M1, j1, j2⟩ := c_Ju_frostsOf (d := 114) (h := m 401 (40 + 2 * (k : Nat))) hL2 (by omega) (by omega) (TXL_con hX (fun a b hab => hJ _ _ (by omega) (by omega) (by omega))) q3
        have ho : obj (t : Nat) = 16 + 8 * (t : Int) := by unfold obj; rw [if_neg (by omega)]
        rw [ho] at j1
        have hJ1 : JG m M1 := hJ.tr j2
        have e255 : M1 255 (k : Nat) = m 401 (41 + 2 * (k : Nat)) := by rw [hJ1 _ _ (by omega) (by omega) (by omega), q2]
        unfold saB at hs
        by_cases he : frv (LF t) (m 401) (m 401 (40 + 2 * (k : Nat))) = m 401 (41 + 2 * (k : Nat))
        · rw [decide_eq_true he, Bool.true_and] at hs
          obtain ⟨M', g1, g2⟩ := ih (k + 1) M1 (by omega) hJ1 hs
          refine ⟨M', b_Th_saysAll_2 ⟨fun z => by rw [e8] at z; omega, fun _ => ⟨by omega, ?_⟩⟩, g2⟩
          rw [e254]
          refine ⟨_, _, j1, by omega, fun _ => ?_, fun z => absurd (by rw [e255]; exact he) z⟩
          rw [w32s (by omega)]
          exact g1
        · rw [decide_eq_false he, Bool.false_and] at hs
          refine ⟨M1, b_Th_saysAll_2 ⟨fun z => by rw [e8] at z; omega, fun _ => ⟨by omega, ?_⟩⟩, hJ1⟩
          rw [e254]
          refine ⟨_, _, j1, by omega, fun z => absurd (by rw [← e255]; exact z) he, fun _ => ?_⟩
          rw [← hs]
          rfl
    obtain ⟨M', g1, g2⟩ := lp sn 0 M (by omega) hJ (hp t).symm
    exact ⟨M', cl_Th_saysAll (b_Th_saysAll g1), g2⟩
  have fc : ∀ (s k : Nat) (M : Mm), k + s = n → JG m M → ∃ M', Ev 120 K_Th_whose 0 4 [(17, 0), (0, (bs_ p k : Nat)), (0, (k : Nat))] [] M (some (0, (bs_ p n : Nat)), M') ∧ JG m M' := by
    intro s
    induction s with
    | zero =>
      intro k M hk hJ
      obtain rfl : k = n := by omega
      have e6 : M 128 6 = (k : Nat) := by rw [hJ _ _ (by omega) (by omega) (by omega), o3.1, hn]
      exact ⟨M, b_Th_whose_4 ⟨fun _ => rfl, fun z => absurd (by rw [e6]; omega) z⟩, hJ⟩
    | succ s ih =>
      intro k M hk hJ
      have e6 : M 128 6 = (n : Nat) := by rw [hJ _ _ (by omega) (by omega) (by omega), o3.1, hn]
      obtain ⟨M1, a1, a2⟩ := sa k M (by omega) hJ
      obtain ⟨M', g1, g2⟩ := ih (k + 1) M1 (by omega) a2
      refine ⟨M', b_Th_whose_4 ⟨fun z => by rw [e6] at z; omega, fun _ => ⟨by omega, _, _, a1, fun z => ?_, fun z => ?_⟩⟩, g2⟩
      · rw [ite_z] at z
        rw [bst_s0 z] at g1
        rw [w32s (by omega)]
        exact g1
      · rw [ite_z1] at z
        rw [bst_s1 z (by omega), w32s (by omega)]
        exact g1
  obtain ⟨m1, f1, f2⟩ := fc n 0 m (by omega) (fun _ _ _ _ _ => rfl)
  have e401 : m1 401 = m 401 := by funext b; exact f2 _ _ (by omega) (by omega) (by omega)
  have fm : ∀ (s k : Nat) (M : Mm) (u3 u4 : Vv), k + s = n → MG m1 M → ∃ M', Ev 120 K_Mo_whose 0 4 [(18, 400), (0, (bs_ p k : Nat)), (0, (k : Nat)), u3, u4] [] M (some (0, (bs_ p n : Nat)), M') ∧ MG m1 M' := by
    intro s
    induction s with
    | zero =>
      intro k M u3 u4 hk hJ
      obtain rfl : k = n := by omega
      have e6 : M 401 2 = (k : Nat) := by rw [hJ _ _ (by omega) (by omega) (by omega), e401, hn]
      exact ⟨M, b_Mo_whose_4 ⟨fun _ => rfl, fun z => absurd (by rw [e6]; omega) z⟩, hJ⟩
    | succ s ih =>
      intro k M u3 u4 hk hJ
      have e6 : M 401 2 = (n : Nat) := by rw [hJ _ _ (by omega) (by omega) (by omega), e401, hn]
      obtain ⟨Lg, hX⟩ := hLF k (by omega)
      have h31 := bst_31 (p := p) (k := k) (by omega)
      -- the row of what was said
      have lp : ∀ (t j : Nat) (is : Bool) (M : Mm), j + t = sn → MG m1 M → (is && saB (LF k) (m 401) t j) = p k → ∃ M', Ev 120 K_Mo_whose 0 14 [(18, 400), (0, (bs_ p k : Nat)), (0, (k : Nat)), (0, if is = true then 1 else 0), (0, 40 + 2 * (j : Int))] [] M (some (0, (bs_ p n : Nat)), M') ∧ MG m1 M' := by
        intro t
        induction t with
        | zero =>
          intro j is M hj hJ hs
          have e5 : w32 (40 + w32 (2 * M 401 5)) = 40 + 2 * sn := by
            rw [hJ _ _ (by omega) (by omega) (by omega), e401, hsn, w32n (x := 2 * ((sn : Nat) : Int)) (by omega) (by omega), w32n (by omega) (by omega)]
          have hs' : is = p k := by rw [← hs]; unfold saB; rw [Bool.and_true]
          obtain ⟨M', g1, g2⟩ := ih (k + 1) M (0, if is = true then 1 else 0) (0, 40 + 2 * (j : Int)) (by omega) hJ
          refine ⟨M', b_Mo_whose_14 ?_, g2⟩
          rw [e5]
          refine ⟨fun _ => ⟨fun z => ?_, fun z => ?_⟩, fun z => absurd (by omega) z⟩
          · rw [ite_z, hs'] at z
            rw [bst_s0 z] at g1
            rw [iro_0 (by omega), w32s (by omega)]
            exact g1
          · rw [ite_z1, hs'] at z
            rw [bst_s1 z (by omega), w32s (by omega)]
            exact g1
        | succ t iht =>
          intro j is M hj hJ hs
          have e5 : w32 (40 + w32 (2 * M 401 5)) = 40 + 2 * sn := by
            rw [hJ _ _ (by omega) (by omega) (by omega), e401, hsn, w32n (x := 2 * ((sn : Nat) : Int)) (by omega) (by omega), w32n (by omega) (by omega)]
          have e2 : w32 (40 + 2 * (j : Int) + 2) = 40 + 2 * ((j + 1 : Nat) : Int) := by rw [w32n (by omega) (by omega)]; omega
          obtain ⟨q1, q2, q3, q4⟩ := o6 j (by omega)
          cases is with
          | false =>
            obtain ⟨M', g1, g2⟩ := iht (j + 1) false M (by omega) hJ (by rw [← hs]; simp)
            refine ⟨M', b_Mo_whose_14 ?_, g2⟩
            rw [e5, e2]
            exact ⟨fun z => by omega, fun _ => ⟨fun _ => g1, fun z => absurd rfl z⟩⟩
          | true =>
            rw [Bool.true_and] at hs
            have e4 : M 401 = m 401 := by funext b; rw [hJ _ _ (by omega) (by omega) (by omega), e401]
            obtain ⟨M1, j1, j2⟩ := c_Mo_frostsOf (d := 114) (m := M) (h := m 401 (40 + 2 * (j : Nat))) (tx := (k : Nat)) (Lf := LF k) (Lg := Lg) (by rw [e4]; exact hRV.1) (by rw [e4]; exact hRV.2.1) (by rw [e4]; exact hRV.2.2.2.1) (TXL_con hX (fun a b hab => by rw [hJ _ _ (by omega) (by omega) (by omega), f2 _ _ (by omega) (by omega) (by omega)])) q3
            rw [e4] at j1
            have e40 : M 401 (40 + 2 * (j : Int)) = m 401 (40 + 2 * (j : Nat)) := by rw [e4]
            have e41 : M1 401 (w32 (40 + 2 * (j : Int) + 1)) = m 401 (41 + 2 * (j : Nat)) := by
              rw [j2 _ _ (by omega) (by omega) (by omega), e4, w32n (by omega) (by omega)]
              congr 1
              omega
            have ew : w32 (40 + 2 * (j : Int) + 1) = 41 + 2 * j := by rw [w32n (by omega) (by omega)]; omega
            unfold saB at hs
            by_cases he : frv (LF k) (m 401) (m 401 (40 + 2 * (j : Nat))) = m 401 (41 + 2 * (j : Nat))
            · rw [decide_eq_true he, Bool.true_and] at hs
              obtain ⟨M', g1, g2⟩ := iht (j + 1) true M1 (by omega) (hJ.tr j2) (by rw [Bool.true_and]; exact hs)
              refine ⟨M', b_Mo_whose_14 ?_, g2⟩
              rw [e5, e2]
              refine ⟨fun z => by omega, fun _ => ⟨fun z => absurd z (by decide), fun _ => ⟨by omega, ?_⟩⟩⟩
              rw [e40]
              refine ⟨_, _, j1, by rw [ew]; omega, fun z => absurd (by rw [e41]; exact he) z, fun _ => g1⟩
            · rw [decide_eq_false he, Bool.false_and] at hs
              obtain ⟨M', g1, g2⟩ := iht (j + 1) false M1 (by omega) (hJ.tr j2) (by rw [Bool.false_and]; exact hs)
              refine ⟨M', b_Mo_whose_14 ?_, g2⟩
              rw [e5, e2]
              refine ⟨fun z => by omega, fun _ => ⟨fun z => absurd z (by decide), fun _ => ⟨by omega, ?_⟩⟩⟩
              rw [e40]
              refine ⟨_, _, j1, by rw [ew]; omega, fun _ => g1, fun z => ?_⟩
              rw [Classical.not_not, e41] at z
              exact absurd z he
      obtain ⟨M', g1, g2⟩ := lp sn 0 true M (by omega) hJ (by rw [Bool.true_and]; exact (hp k).symm)
      exact ⟨M', b_Mo_whose_4 ⟨fun z => by rw [e6] at z; omega, fun _ => g1⟩, g2⟩
  obtain ⟨m2, g1, g2⟩ := fm n 0 m1 (9, 0) (9, 0) (by omega) (fun _ _ _ _ _ => rfl)
  exact OP_q h (cl_Th_whose (b_Th_whose f1)) (cl_Mo_whose (b_Mo_whose g1)) (JG_SM f2) (MG_SM g2)
