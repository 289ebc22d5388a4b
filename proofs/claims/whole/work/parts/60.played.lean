/-! PLAYED -/
def KP (T T' : Int → Int) : Prop := T' 0 = T 0 ∧ T' 2 = T 2 ∧ T' 3 = T 3 ∧ ∀ k, 32 ≤ k → k < 40 → T' k = T k
theorem KP_refl {T : Int → Int} : KP T T := ⟨rfl, rfl, rfl, fun _ _ _ => rfl⟩
theorem KP.tr {T T1 T2 : Int → Int} (h : KP T T1) (h2 : KP T1 T2) : KP T T2 := ⟨by rw [h2.1, h.1], by rw [h2.2.1, h.2.1], by rw [h2.2.2.1, h.2.2.1], fun k k1 k2 => by rw [h2.2.2.2 k k1 k2, h.2.2.2 k k1 k2]⟩
theorem pl_g {kc d : Nat} {args : List Vv} {M : Mm} {T : Int → Int} {A : Prop} {Nw : Int → Int} {a b : Int} (hF : FC M 128 T) (hc : ∃ v m', Cl d kc args M (some (0, v), m') ∧ FRC M m' ∧ (A → v = a ∧ FC m' 128 Nw) ∧ (¬ A → v = b ∧ m' = M)) (hS : A → KP T Nw) : ∃ (T' : Int → Int) (v : Int) (M' : Mm), Cl d kc args M (some (0, v), M') ∧ FC M' 128 T' ∧ FRC M M' ∧ KP T T' ∧ ((A ∧ v = a ∧ T' = Nw) ∨ (¬ A ∧ v = b ∧ T' = T)) := by
  obtain ⟨v, m', c1, c2, c3, c4⟩ := hc
  by_cases hA : A
  · exact ⟨Nw, v, m', c1, (c3 hA).2, c2, hS hA, Or.inl ⟨hA, (c3 hA).1, rfl⟩⟩
  · obtain ⟨q1, q2⟩ := c4 hA
    subst q2
    exact ⟨T, v, m', c1, hF, c2, KP_refl, Or.inr ⟨hA, q1, rfl⟩⟩
theorem pl_h {km d : Nat} {args : List Vv} {N : Mm} {T T' : Int → Int} {A : Prop} {Nw : Int → Int} {a b v : Int} (hm : ∃ v m', Cl d km args N (some (0, v), m') ∧ FRM N m' ∧ (A → v = a ∧ m' 401 = Nw) ∧ (¬ A → v = b ∧ m' 401 = T)) (hd : (A ∧ v = a ∧ T' = Nw) ∨ (¬ A ∧ v = b ∧ T' = T)) : ∃ N', Cl d km args N (some (0, v), N') ∧ N' 401 = T' ∧ FRM N N' := by
  obtain ⟨w, m', c1, c2, c3, c4⟩ := hm
  rcases hd with ⟨h1, h2, h3⟩ | ⟨h1, h2, h3⟩
  · obtain ⟨q1, q2⟩ := c3 h1
    subst h2 h3 q1
    exact ⟨m', c1, q2, c2⟩
  · obtain ⟨q1, q2⟩ := c4 h1
    subst h2 h3 q1
    exact ⟨m', c1, q2, c2⟩
def PLc (T : Int → Int) (K A B : Int) (T' : Int → Int) (v : Int) : Prop := ∀ (N : Mm) (p : Int), N 401 = T → TU N → 0 ≤ p → p < 2700 → N 403 p = K → N 403 (p + 1) = A → N 403 (p + 2) = B → ∃ N', Cl 119 k_Mo_isPlayed [(18, 400), (0, p)] N (some (0, v), N') ∧ N' 401 = T' ∧ FRM N N'
theorem pl_does {M : Mm} {T : Int → Int} {K A2 B2 A B : Int} (hF : FC M 128 T) (hH : RH M T) (hK : 0 ≤ K ∧ K < 8) (hA : 2 ≤ K → A2 = A) (hB : K = 2 ∨ K = 6 ∨ K = 7 → B2 = B) : ∃ (T' : Int → Int) (v : Int) (M' : Mm), Cl 119 k_Th_does [(17, 0), (0, 16 + K), (0, A2), (0, B2)] M (some (0, v), M') ∧ (v = 0 ∨ v = 1) ∧ FC M' 128 T' ∧ FRC M M' ∧ KP T T' ∧ PLc T K A B T' v := by
  have hM := FC_RM hF
  have hC : RC T := LSd_RC hF.1.1
  have hg := hF.2.2.2.1
  have h0 := hF.2.2.2.2.1
  obtain ⟨h8, h9, h4, h1⟩ := hM
  obtain ⟨u1, u2, u3, u4⟩ := kpS_v (S := T) h4
  have ad : ∀ p : Int, 0 ≤ p → p < 2700 → (0 ≤ w32 (p + 1) ∧ w32 (p + 1) < 2724) ∧ (0 ≤ w32 (p + 2) ∧ w32 (p + 2) < 2724) ∧ w32 (p + 1) = p + 1 ∧ w32 (p + 2) = p + 2 := fun p p1 p2 => by
    rw [w32n (x := p + 1) (by omega) (by omega), w32n (x := p + 2) (by omega) (by omega)]
    omega
  by_cases k2 : K = 2
  · subst k2
    have ha := hA (by omega)
    have hb := hB (by omega)
    subst ha hb
    obtain ⟨T', v, M', c1, c2, c3, c4, c5⟩ := pl_g (A := cw_A T A2 B2) (Nw := cw_S T A2 B2) (a := T 1) (b := -1) hF (c_Th_cow (d := 117) hF) (fun z => by
      obtain ⟨v1, v2, v3, v4, v5, v6⟩ := cw_S_v (S := T) (x := A2) (y := B2) ⟨h1.1, z.2.2⟩
      have := z.2.2
      exact ⟨v6 _ (by omega) (by omega) (by omega) (by omega) (by omega), v6 _ (by omega) (by omega) (by omega) (by omega) (by omega), v6 _ (by omega) (by omega) (by omega) (by omega) (by omega), fun k _ _ => v6 _ (by omega) (by omega) (by omega) (by omega) (by omega)⟩)
    have hv : v = -1 ∨ 0 ≤ v := by
      rcases c5 with ⟨_, q, _⟩ | ⟨_, q, _⟩
      · exact Or.inr (by omega)
      · exact Or.inl q
    refine ⟨T', if v = -1 then 0 else 1, M', cl_Th_does (b_Th_does ⟨fun _ => ⟨v, M', c1, fun z => by rw [if_pos z], fun z => by rw [if_neg z]⟩, fun z => absurd rfl z⟩), ?_, c2, c3, c4, ?_⟩
    · split
      · exact Or.inl rfl
      · exact Or.inr rfl
    · intro N p e hT p1 p2 n1 n2 n3
      obtain ⟨b1, b2, b3, b4⟩ := ad p p1 p2
      have hm := c_Mo_cow (d := 116) (m := N) (x := A2) (y := B2) (by rw [e]; exact ⟨h8, h9, h4, h1⟩)
      rw [e] at hm
      obtain ⟨N', g1, g2, g3⟩ := pl_h hm c5
      refine ⟨N', cl_Mo_isPlayed (b_Mo_isPlayed ⟨b1, b2, by omega, fun _ => ?_, fun z => absurd n1 z⟩), g2, g3⟩
      rw [b3, b4, n2, n3]
      exact ⟨_, _, g1, fun z => by rw [if_pos (by omega)], fun z => by rw [if_neg (by omega)]⟩
  by_cases k3 : K = 3
  · subst k3
    have ha := hA (by omega)
    subst ha
    obtain ⟨T', v, M', c1, c2, c3, c4, c5⟩ := pl_g (A := gaA A2) (Nw := ups T 31 (gaV (T 31) A2 1)) (a := 1) (b := 0) hF (c_Th_gate (d := 117) (y := 1) hF) (fun z => ⟨ups_ne (by omega), ups_ne (by omega), ups_ne (by omega), fun k _ _ => ups_ne (by omega)⟩)
    have hv : v = 0 ∨ v = 1 := by
      rcases c5 with ⟨_, q, _⟩ | ⟨_, q, _⟩
      · exact Or.inr q
      · exact Or.inl q
    refine ⟨T', v, M', cl_Th_does (b_Th_does ⟨fun z => absurd z (by decide), fun _ => ⟨fun _ => ⟨v, M', c1, hv, rfl⟩, fun z => absurd rfl z⟩⟩), hv, c2, c3, c4, ?_⟩
    intro N p e hT p1 p2 n1 n2 n3
    obtain ⟨b1, b2, b3, b4⟩ := ad p p1 p2
    have hm := c_Mo_gate (d := 116) (m := N) (x := A2) (y := 1)
    rw [e] at hm
    obtain ⟨N', g1, g2, g3⟩ := pl_h hm c5
    refine ⟨N', cl_Mo_isPlayed (b_Mo_isPlayed ⟨b1, b2, by omega, fun z => by omega, fun _ => ⟨fun _ => ?_, fun z => absurd n1 z⟩⟩), g2, g3⟩
    rw [b3, n2]
    exact ⟨_, _, g1, hv, rfl⟩
  by_cases k4 : K = 4
  · subst k4
    have ha := hA (by omega)
    subst ha
    obtain ⟨T', v, M', c1, c2, c3, c4, c5⟩ := pl_g (A := plA T A2) (Nw := chS (kpS T) A2) (a := 1) (b := 0) hF (c_Th_plant (d := 115) hF) (fun z => ⟨by rw [ch_k (by omega) (by omega), u2 _ (by omega) (by omega)], by rw [ch_k (by omega) (by omega), u2 _ (by omega) (by omega)], by rw [ch_k (by omega) (by omega), u2 _ (by omega) (by omega)], fun k _ _ => by rw [ch_k (by omega) (by omega), u2 _ (by omega) (by omega)]⟩)
    have hv : v = 0 ∨ v = 1 := by
      rcases c5 with ⟨_, q, _⟩ | ⟨_, q, _⟩
      · exact Or.inr q
      · exact Or.inl q
    refine ⟨T', v, M', cl_Th_does (b_Th_does ⟨fun z => absurd z (by decide), fun _ => ⟨fun z => absurd z (by decide), fun _ => ⟨fun _ => ⟨v, M', c1, hv, rfl⟩, fun z => absurd rfl z⟩⟩⟩), hv, c2, c3, c4, ?_⟩
    intro N p e hT p1 p2 n1 n2 n3
    obtain ⟨b1, b2, b3, b4⟩ := ad p p1 p2
    have hm := c_Mo_plant (d := 116) (m := N) (x := A2) (by rw [e]; exact ⟨h8, h9, h4, h1⟩)
    rw [e] at hm
    obtain ⟨N', g1, g2, g3⟩ := pl_h hm c5
    refine ⟨N', cl_Mo_isPlayed (b_Mo_isPlayed ⟨b1, b2, by omega, fun z => by omega, fun _ => ⟨fun z => by omega, fun _ => ⟨fun _ => ?_, fun z => absurd n1 z⟩⟩⟩), g2, g3⟩
    rw [b3, n2]
    exact ⟨_, _, g1, hv, rfl⟩
  by_cases k5 : K = 5
  · subst k5
    have ha := hA (by omega)
    subst ha
    obtain ⟨T', v, M', c1, c2, c3, c4, c5⟩ := pl_g (A := cuA T A2) (Nw := chS (kpS T) A2) (a := 1) (b := 0) hF (c_Th_cut (d := 115) hF) (fun z => ⟨by rw [ch_k (by omega) (by omega), u2 _ (by omega) (by omega)], by rw [ch_k (by omega) (by omega), u2 _ (by omega) (by omega)], by rw [ch_k (by omega) (by omega), u2 _ (by omega) (by omega)], fun k _ _ => by rw [ch_k (by omega) (by omega), u2 _ (by omega) (by omega)]⟩)
    have hv : v = 0 ∨ v = 1 := by
      rcases c5 with ⟨_, q, _⟩ | ⟨_, q, _⟩
      · exact Or.inr q
      · exact Or.inl q
    refine ⟨T', v, M', cl_Th_does (b_Th_does ⟨fun z => absurd z (by decide), fun _ => ⟨fun z => absurd z (by decide), fun _ => ⟨fun z => absurd z (by decide), fun _ => ⟨fun _ => ⟨v, M', c1, hv, rfl⟩, fun z => absurd rfl z⟩⟩⟩⟩), hv, c2, c3, c4, ?_⟩
    intro N p e hT p1 p2 n1 n2 n3
    obtain ⟨b1, b2, b3, b4⟩ := ad p p1 p2
    have hm := c_Mo_cut (d := 116) (m := N) (x := A2) (by rw [e]; exact ⟨h8, h9, h4, h1⟩)
    rw [e] at hm
    obtain ⟨N', g1, g2, g3⟩ := pl_h hm c5
    refine ⟨N', cl_Mo_isPlayed (b_Mo_isPlayed ⟨b1, b2, by omega, fun z => by omega, fun _ => ⟨fun z => by omega, fun _ => ⟨fun z => by omega, fun _ => ⟨fun _ => ?_, fun z => absurd n1 z⟩⟩⟩⟩), g2, g3⟩
    rw [b3, n2]
    exact ⟨_, _, g1, hv, rfl⟩
  by_cases k6 : K = 6
  · subst k6
    have ha := hA (by omega)
    have hb := hB (by omega)
    subst ha hb
    obtain ⟨n, hn⟩ := Int.eq_ofNat_of_zero_le h0.2.1
    obtain ⟨T', v, M', c1, c2, c3, c4, c5⟩ := pl_g (A := prA T A2 B2) (Nw := prS (kpS T) A2 B2) (a := 1) (b := 0) hF (c_Th_press (d := 115) hF hH) (fun z => ⟨by rw [prS_k (by omega) (by omega), u2 _ (by omega) (by omega)], by rw [prS_k (by omega) (by omega), u2 _ (by omega) (by omega)], by rw [prS_k (by omega) (by omega), u2 _ (by omega) (by omega)], fun k _ _ => by rw [prS_k (by omega) (by omega), u2 _ (by omega) (by omega)]⟩)
    have hv : v = 0 ∨ v = 1 := by
      rcases c5 with ⟨_, q, _⟩ | ⟨_, q, _⟩
      · exact Or.inr q
      · exact Or.inl q
    refine ⟨T', v, M', cl_Th_does (b_Th_does ⟨fun z => absurd z (by decide), fun _ => ⟨fun z => absurd z (by decide), fun _ => ⟨fun z => absurd z (by decide), fun _ => ⟨fun z => absurd z (by decide), fun _ => ⟨fun _ => ⟨v, M', c1, hv, rfl⟩, fun z => absurd rfl z⟩⟩⟩⟩⟩), hv, c2, c3, c4, ?_⟩
    intro N p e hT p1 p2 n1 n2 n3
    obtain ⟨b1, b2, b3, b4⟩ := ad p p1 p2
    have hm := c_Mo_press (d := 114) (m := N) (x := A2) (y := B2) (n := n) (by rw [e]; exact ⟨h8, h9, h4, h1⟩) (by rw [e]; exact hn) (by omega) hT (fun j hj => by
      obtain ⟨q1, q2, _⟩ := hH j (by rw [hn]; omega)
      rw [e]
      exact ⟨q1, q2, rfl⟩)
    rw [e] at hm
    obtain ⟨N', g1, g2, g3⟩ := pl_h hm c5
    refine ⟨N', cl_Mo_isPlayed (b_Mo_isPlayed ⟨b1, b2, by omega, fun z => by omega, fun _ => ⟨fun z => by omega, fun _ => ⟨fun z => by omega, fun _ => ⟨fun z => by omega, fun _ => ⟨fun _ => ?_, fun z => absurd n1 z⟩⟩⟩⟩⟩), g2, g3⟩
    rw [b3, b4, n2, n3]
    exact ⟨_, _, g1, hv, rfl⟩
  by_cases k7 : K = 7
  · subst k7
    have ha := hA (by omega)
    have hb := hB (by omega)
    subst ha hb
    obtain ⟨T', v, M', c1, c2, c3, c4, c5⟩ := pl_g (A := cgB T B2 A2 = true) (Nw := gnS (kpS T) B2 A2) (a := bey (T (11 + 2 * B2)) A2) (b := -1) hF (c_Th_go (d := 115) hF) (fun z => by
      have := (cgB_iff.mp z).1
      exact ⟨by rw [gnS_k (by omega) (by omega), u2 _ (by omega) (by omega)], by rw [gnS_k (by omega) (by omega), u2 _ (by omega) (by omega)], by rw [gnS_k (by omega) (by omega), u2 _ (by omega) (by omega)], fun k _ _ => by rw [gnS_k (by omega) (by omega), u2 _ (by omega) (by omega)]⟩)
    have hv : v = -1 ∨ 0 ≤ v := by
      rcases c5 with ⟨z, q, _⟩ | ⟨_, q, _⟩
      · obtain ⟨g1, g2, g3, g4⟩ := cgB_iff.mp z
        have hcell : cellI (T (11 + 2 * B2)) := by
          rcases (hC _ g1.1 g1.2).1 with q | q
          · exact absurd q g3
          · exact q
        have hbc := ((bey_hby (w := A2) hcell).2 (opn_bey g4)).2
        unfold cellI at hbc
        exact Or.inr (by omega)
      · exact Or.inl q
    refine ⟨T', if v = -1 then 0 else 1, M', cl_Th_does (b_Th_does ⟨fun z => absurd z (by decide), fun _ => ⟨fun z => absurd z (by decide), fun _ => ⟨fun z => absurd z (by decide), fun _ => ⟨fun z => absurd z (by decide), fun _ => ⟨fun z => absurd z (by decide), fun _ => ⟨fun _ => ⟨v, M', c1, fun z => by rw [if_pos z], fun z => by rw [if_neg z]⟩, fun z => absurd rfl z⟩⟩⟩⟩⟩⟩), ?_, c2, c3, c4, ?_⟩
    · split
      · exact Or.inl rfl
      · exact Or.inr rfl
    · intro N p e hT p1 p2 n1 n2 n3
      obtain ⟨b1, b2, b3, b4⟩ := ad p p1 p2
      have hm := c_Mo_go (d := 114) (m := N) (c := B2) (w := A2) (by rw [e]; exact ⟨h8, h9, h4, h1⟩) (by rw [e]; exact hC) (by rw [e]; exact hg.2)
      rw [e] at hm
      obtain ⟨N', g1, g2, g3⟩ := pl_h hm c5
      refine ⟨N', cl_Mo_isPlayed (b_Mo_isPlayed ⟨b1, b2, by omega, fun z => by omega, fun _ => ⟨fun z => by omega, fun _ => ⟨fun z => by omega, fun _ => ⟨fun z => by omega, fun _ => ⟨fun z => by omega, fun _ => ⟨fun _ => ?_, fun z => absurd n1 z⟩⟩⟩⟩⟩⟩), g2, g3⟩
      rw [b3, b4, n2, n3]
      exact ⟨_, _, g1, fun z => by rw [if_pos (by omega)], fun z => by rw [if_neg (by omega)]⟩
  refine ⟨T, 1, M, cl_Th_does (b_Th_does ⟨fun z => by omega, fun _ => ⟨fun z => by omega, fun _ => ⟨fun z => by omega, fun _ => ⟨fun z => by omega, fun _ => ⟨fun z => by omega, fun _ => ⟨fun z => by omega, fun _ => rfl⟩⟩⟩⟩⟩⟩), Or.inr rfl, hF, FRC_refl, KP_refl, ?_⟩
  intro N p e hT p1 p2 n1 n2 n3
  obtain ⟨b1, b2, b3, b4⟩ := ad p p1 p2
  exact ⟨N, cl_Mo_isPlayed (b_Mo_isPlayed ⟨b1, b2, by omega, fun z => by omega, fun _ => ⟨fun z => by omega, fun _ => ⟨fun z => by omega, fun _ => ⟨fun z => by omega, fun _ => ⟨fun z => by omega, fun _ => ⟨fun z => by omega, fun _ => ⟨fun z => by omega, fun _ => rfl⟩⟩⟩⟩⟩⟩⟩), e, FRM_refl⟩
/-- what the model's memory keeps while a text is played -/
def cn_P (m N : Mm) (Lf Lg : Option Ef) : Prop := (∀ b, N 403 b = m 403 b) ∧ TXL N (m 401 3) Lf Lg ∧ N 400 24 = 1 ∧ TU N
theorem cn_con {m N N' : Mm} {Lf Lg : Option Ef} (h : cn_P m N Lf Lg) (f : FRM N N') : cn_P m N' Lf Lg :=
  ⟨fun b => by rw [f _ _ (by omega) (by omega) (by omega)]; exact h.1 b, TXL_con h.2.1 (fun a b hab => f _ _ (by omega) (by omega) (by omega)), by rw [f _ _ (by omega) (by omega) (by omega)]; exact h.2.2.1, TU_row h.2.2.2 (f.row (by omega) (by omega) (by omega))⟩
theorem pl_loop {m : Mm} {t n : Nat} {Lf Lg : Option Ef} (ht : t < 4) (hX : TXT m t) (hn : m (16 + 8 * t) 0 = (n : Nat)) : ∀ (s k : Nat) (M : Mm) (T : Int → Int) (u4 u5 : Vv), k + s = n → FC M 128 T → HX M 129 Lf Lg T → RH M T → FRC m M → T 3 = m 401 3 → ∃ (v : Int) (m' : Mm) (T' : Int → Int), Ev 120 K_Th_played 0 13 [(17, 0), (0, (t : Nat)), (16, 16 + 8 * (t : Int)), (0, (k : Nat)), u4, u5] [] M (some (0, v), m') ∧ FC m' 128 T' ∧ FRC M m' ∧ KP T T' ∧ ∀ N : Mm, N 401 = T → cn_P m N Lf Lg → ∃ N', Ev 120 K_Mo_played 0 14 [(18, 400), (0, (t : Nat)), (0, (k : Nat))] [] N (some (0, v), N') ∧ N' 401 = T' ∧ FRM N N' := by
  obtain ⟨x1, x2, _⟩ := hX
  have ew : w32 (681 * ((t : Nat) : Int)) = 681 * t := by rw [w32n (by omega) (by omega)]
  intro s
  induction s with
  | zero =>
    intro k M T u4 u5 hk hF hX hH f e3
    have e0 : M (16 + 8 * (t : Int)) 0 = (n : Nat) := by rw [f _ _ (by omega) (by omega) (by omega), hn]
    refine ⟨-1, M, T, b_Th_played_13 ⟨fun _ => rfl, fun z => absurd (by rw [e0]; omega) z⟩, hF, FRC_refl, KP_refl, fun N e hN => ⟨N, b_Mo_played_14 ?_, e, FRM_refl⟩⟩
    rw [ew]
    exact ⟨by omega, fun _ => rfl, fun z => absurd (by rw [hN.1, x1.2.2, hn]; omega) z⟩
  | succ s ih =>
    intro k M T u4 u5 hk hF hX hH f e3
    have e0 : M (16 + 8 * (t : Int)) 0 = (n : Nat) := by rw [f _ _ (by omega) (by omega) (by omega), hn]
    have h0 := hF.2.2.2.2.1
    obtain ⟨y1, y2, y3, y4, y5⟩ := x2 k (by omega)
    have ek : M (16 + 8 * (t : Int) + 1) (k : Nat) = 16 + m 403 (681 * t + 1 + 3 * k) := by rw [f _ _ (by omega) (by omega) (by omega), y3]
    have ea : 2 ≤ m 403 (681 * t + 1 + 3 * k) → M (16 + 8 * (t : Int) + 2) (k : Nat) = m 403 (681 * t + 2 + 3 * k) := fun z => by rw [f _ _ (by omega) (by omega) (by omega), (y4 z).1]
    have eb : m 403 (681 * t + 1 + 3 * k) = 2 ∨ m 403 (681 * t + 1 + 3 * k) = 6 ∨ m 403 (681 * t + 1 + 3 * k) = 7 → M (16 + 8 * (t : Int) + 3) (k : Nat) = m 403 (681 * t + 3 + 3 * k) := fun z => by rw [f _ _ (by omega) (by omega) (by omega), y5 z]
    have ep : w32 (w32 (681 * ((t : Nat) : Int) + 1) + w32 (3 * ((k : Nat) : Int))) = 681 * t + 1 + 3 * k := by
      rw [w32n (x := 681 * ((t : Nat) : Int) + 1) (by omega) (by omega), w32n (x := 3 * ((k : Nat) : Int)) (by omega) (by omega), w32n (by omega) (by omega)]
    -- one clause, then the rest
    have one : ∀ (T1 : Int → Int) (v : Int) (M1 : Mm), FC M1 128 T1 → FRC M M1 → KP T T1 → (v = 0 ∨ v = 1) → (∀ N : Mm, N 401 = T → cn_P m N Lf Lg → ∃ N', Cl 119 k_Mo_isPlayed [(18, 400), (0, 681 * (t : Int) + 1 + 3 * k)] N (some (0, v), N') ∧ N' 401 = T1 ∧ FRM N N') → ∃ (w : Int) (m' : Mm) (T' : Int → Int), ((v = 0 → ((some (0, w), m') : Option Vv × Mm) = (some (0, ((k : Nat) : Int)), M1)) ∧ (¬ v = 0 → Ev 120 K_Th_played 0 13 [(17, 0), (0, (t : Nat)), (16, 16 + 8 * (t : Int)), (0, w32 ((k : Nat) + 1)), (0, M (16 + 8 * (t : Int) + 1) (k : Nat)), (0, M (16 + 8 * (t : Int) + 2) (k : Nat))] [] M1 (some (0, w), m'))) ∧ FC m' 128 T' ∧ FRC M m' ∧ KP T T' ∧ ∀ N : Mm, N 401 = T → cn_P m N Lf Lg → ∃ N', Ev 120 K_Mo_played 0 14 [(18, 400), (0, (t : Nat)), (0, (k : Nat))] [] N (some (0, w), N') ∧ N' 401 = T' ∧ FRM N N' := by
      intro T1 v M1 hF1 f1 kp hv hN
      by_cases hv0 : v = 0
      · refine ⟨(k : Nat), M1, T1, ⟨fun _ => rfl, fun z => absurd hv0 z⟩, hF1, f1, kp, fun N e hC => ?_⟩
        obtain ⟨N', g1, g2, g3⟩ := hN N e hC
        refine ⟨N', b_Mo_played_14 ?_, g2, g3⟩
        rw [ew, hC.1]
        refine ⟨by omega, fun z => by rw [x1.2.2, hn] at z; omega, fun _ => ?_⟩
        rw [ep]
        exact ⟨_, _, g1, fun z => absurd hv0 z, fun _ => rfl⟩
      · have e31 : T1 3 = m 401 3 := by rw [kp.2.2.1, e3]
        obtain ⟨w, m', T', i1, i2, i3, i4, i5⟩ := ih (k + 1) M1 T1 (0, M (16 + 8 * (t : Int) + 1) (k : Nat)) (0, M (16 + 8 * (t : Int) + 2) (k : Nat)) (by omega) hF1 (HX_FC hX hF hF1 kp.2.2.1 f1) (RH_con hH h0.2 (fun b _ => f1 _ _ (by omega) (by omega) (by omega)) kp.1 kp.2.2.2) (f.tr f1) e31
        refine ⟨w, m', T', ⟨fun z => absurd z hv0, fun _ => ?_⟩, i2, f1.tr i3, kp.tr i4, fun N e hC => ?_⟩
        · rw [w32s (by omega)]
          exact i1
        · obtain ⟨N', g1, g2, g3⟩ := hN N e hC
          obtain ⟨N2, j1, j2, j3⟩ := i5 N' g2 (cn_con hC g3)
          refine ⟨N2, b_Mo_played_14 ?_, j2, g3.tr j3⟩
          rw [ew, hC.1]
          refine ⟨by omega, fun z => by rw [x1.2.2, hn] at z; omega, fun _ => ?_⟩
          rw [ep, w32s (by omega)]
          exact ⟨_, _, g1, fun _ => j1, fun z => absurd hv0 z⟩
    by_cases h8 : m 403 (681 * t + 1 + 3 * k) = 8
    · -- hours
      obtain ⟨z1, z2, z3⟩ := y4 (by omega)
      obtain ⟨hh, hhe⟩ := Int.eq_ofNat_of_zero_le z2
      have hRV := FC_RV hF
      have h4 : 0 ≤ T 4 ∧ T 4 ≤ 30 := ⟨hF.2.1.1.1, hF.2.1.1.2.1⟩
      obtain ⟨i1, i2, i3, i4⟩ := hsS_v (Lf := Lf) (Lg := Lg) hh T hRV h4
      obtain ⟨M1, c1, c2, c3⟩ := c_Th_passHours (d := 113) (n := hh) hF hX (by omega)
      have hv : (if (hsS Lf Lg hh T).2 = true then (1 : Int) else 0) = 0 ∨ (if (hsS Lf Lg hh T).2 = true then (1 : Int) else 0) = 1 := by
        split
        · exact Or.inr rfl
        · exact Or.inl rfl
      obtain ⟨w, m', T', q1, q2, q3, q4, q5⟩ := one _ _ M1 c2 c3 ⟨i3 0 (by omega) (by omega) (by omega), i3 2 (by omega) (by omega) (by omega), i3 3 (by omega) (by omega) (by omega), fun k k1 k2 => i3 k (by omega) (by omega) (by omega)⟩ hv (fun N e hC => by
        obtain ⟨N', g1, g2, g3, g4⟩ := c_Mo_arePassed (d := 111) (n := hh) (m := N) (Lf := Lf) (Lg := Lg) (by rw [e, e3]; exact hC.2.1) (by rw [e]; exact hRV) (by rw [e]; exact h4) (by omega) hC.2.2.1
        rw [e] at g1 g2
        have n1 : N 403 (681 * (t : Int) + 1 + 3 * k) = 8 := by rw [hC.1]; exact h8
        have n2 : w32 (681 * (t : Int) + 1 + 3 * k + 1) = 681 * t + 2 + 3 * k := by rw [w32n (by omega) (by omega)]; omega
        have n3 : w32 (681 * (t : Int) + 1 + 3 * k + 2) = 681 * t + 3 + 3 * k := by rw [w32n (by omega) (by omega)]; omega
        refine ⟨N', cl_Mo_isPlayed (b_Mo_isPlayed ?_), g2, g4⟩
        rw [n1, n2, n3]
        refine ⟨by omega, by omega, by omega, fun z => absurd z (by decide), fun _ => ⟨fun z => absurd z (by decide), fun _ => ⟨fun z => absurd z (by decide), fun _ => ⟨fun z => absurd z (by decide), fun _ => ⟨fun z => absurd z (by decide), fun _ => ⟨fun z => absurd z (by decide), fun _ => ⟨fun _ => ?_, fun z => absurd rfl z⟩⟩⟩⟩⟩⟩⟩
        rw [hC.1, hhe]
        exact ⟨_, _, g1, hv, rfl⟩)
      refine ⟨w, m', T', b_Th_played_13 ⟨fun z => by rw [e0] at z; omega, fun _ => ⟨by omega, by omega, fun z => absurd (by rw [ek, h8]; rfl) z, fun _ => ?_⟩⟩, q2, q3, q4, q5⟩
      rw [ea (by omega), hhe] at q1
      rw [ea (by omega), hhe]
      exact ⟨_, _, c1, q1.1, q1.2⟩
    · obtain ⟨T1, v, M1, c1, hv, c2, c3, c4, c5⟩ := pl_does (A := m 403 (681 * t + 2 + 3 * k)) (B := m 403 (681 * t + 3 + 3 * k)) hF hH (K := m 403 (681 * t + 1 + 3 * k)) (by omega) ea eb
      obtain ⟨w, m', T', q1, q2, q3, q4, q5⟩ := one T1 v M1 c2 c3 c4 hv (fun N e hC => c5 N _ e hC.2.2.2 (by omega) (by omega) (hC.1 _) (by rw [hC.1]; congr 1; omega) (by rw [hC.1]; congr 1; omega))
      refine ⟨w, m', T', b_Th_played_13 ⟨fun z => by rw [e0] at z; omega, fun _ => ⟨by omega, by omega, fun _ => ⟨by omega, ?_⟩, fun z => absurd (fun q => h8 (by omega)) z⟩⟩, q2, q3, q4, q5⟩
      rw [ek] at q1 ⊢
      exact ⟨_, _, c1, q1.2, fun z => q1.1 (by rw [Classical.not_not] at z; exact z)⟩
theorem op_played {m : Mm} {x : Int} (h : R m) : OP k_Th_played k_Mo_played 0 [(0, x)] m := by
  obtain ⟨o1, o2, o3, o4, _⟩ := R_o h
  have ew : w32 (m 401 2 - 1) = m 401 2 - 1 := by rw [w32n (by omega) (by omega)]
  have hit := c_Th_isText (d := 119) (m := m) (x := x)
  rw [o3.1] at hit
  by_cases hx : 0 ≤ x ∧ x < m 401 2
  · have nx : ¬ (if 0 ≤ x ∧ x < m 401 2 then (1 : Int) else 0) = 0 := by rw [ite_z1]; exact hx
    obtain ⟨t, rfl⟩ := Int.eq_ofNat_of_zero_le hx.1
    have hX := h.2.2.2.2.2.1 t hx.2
    obtain ⟨n, hn⟩ := Int.eq_ofNat_of_zero_le hX.1.1
    obtain ⟨Lf, Lg, hHX, hX2⟩ := R_HX h
    obtain ⟨v, m1, T', g1, g2, g3, g4, g5⟩ := pl_loop (Lf := Lf) (Lg := Lg) (by omega) hX hn n 0 m (m 401) (9, 0) (9, 0) (by omega) h.1 hHX h.2.2.1 FRC_refl rfl
    have e401 : m1 401 = m 401 := g3.row (by omega) (by omega) (by omega)
    obtain ⟨m2, k1, k2, k3⟩ := g5 m1 e401 ⟨fun b => g3 _ _ (by omega) (by omega) (by omega), TXL_con hX2 (fun a b hab => g3 _ _ (by omega) (by omega) (by omega)), by rw [g3 _ _ (by omega) (by omega) (by omega)]; exact h.2.2.2.2.2.2.2.1.2.2, TU_row h.2.2.2.2.2.2.2.1.2.1 (g3.row (by omega) (by omega) (by omega))⟩
    refine OP_s (m1 := m1) (m2 := m2) (v := v) h (cl_Th_played (b_Th_played ⟨_, _, hit, fun _ => ⟨by omega, g1⟩, fun z => absurd nx z⟩)) g2 g3 (cl_Mo_played (b_Mo_played ?_)) k2 k3 ⟨g4.1, g4.2.1, g4.2.2.2⟩
    rw [e401, ew]
    refine ⟨_, _, c_Mo_isIn, fun _ => k1, fun z => ?_⟩
    rw [Classical.not_not, ite_z] at z
    omega
  · have nx : (if 0 ≤ x ∧ x < m 401 2 then (1 : Int) else 0) = 0 := if_neg hx
    refine OP_e h (v := -2) (cl_Th_played (b_Th_played ⟨_, _, hit, fun z => absurd nx z, fun _ => rfl⟩)) (cl_Mo_played (b_Mo_played ?_))
    rw [ew]
    refine ⟨_, _, c_Mo_isIn, fun z => ?_, fun _ => rfl⟩
    rw [ite_z1] at z
    omega
