/-! HOURS -/
theorem RV_eq {S S' : Int → Int} (h : RV S) (hS : ∀ k, k = 1 ∨ (6 ≤ k ∧ k < 21) ∨ k = 31 → S' k = S k) : RV S' := by
  obtain ⟨h8, h9, h1, h6, h7, hc, h10, h31⟩ := h
  exact ⟨by rw [hS 8 (by omega)]; exact h8, by rw [hS 9 (by omega)]; exact h9, by rw [hS 1 (by omega)]; exact h1, by rw [hS 6 (by omega)]; exact h6, by rw [hS 7 (by omega)]; exact h7, RC_con hc (hS 1 (by omega)) (fun k _ _ => hS k (by omega)) h1.2, by rw [hS 10 (by omega)]; exact h10, by rw [hS 31 (by omega)]; exact h31⟩
theorem frS_6 {Lf : Option Ef} {f : Bool} {S : Int → Int} (h : RV S) : frS Lf f S 6 = S 6 + 1 := by
  have hx := h40 h
  have a2 := RV_an (RV_an h)
  obtain ⟨c1, c2, c3, c4⟩ := chS_v (S := anS (anS S)) a2.1 a2.2.1 hx
  have h10 := (RV_ch a2 hx).2.2.2.2.2.2.1
  unfold frS
  split
  · split
    · unfold hrS
      rw [ups_eq, wrF_k h10 (by omega) (by omega), c3 _ (by omega) (by omega), anS_k (by omega), anS_k (by omega)]
    · unfold hrS
      rw [ups_eq, anS_k (by omega), anS_k (by omega)]
  · unfold hrS
    rw [ups_eq, anS_k (by omega)]
theorem psS_6 {Lf Lg : Option Ef} {f : Bool} {S : Int → Int} (h : RV S) : psS Lf Lg f S 6 = S 6 + 1 := by
  have h1 := h.2.2.1
  obtain ⟨i1, i2⟩ := cwF_v (Lg := Lg) (f := f) h (S 1).toNat (by omega)
  unfold psS
  rw [frS_6 i1, cwF_6 h _ (by omega) 6 (by omega) (by omega)]
def hsS (Lf Lg : Option Ef) : Nat → (Int → Int) → (Int → Int) × Bool
  | 0, S => (S, true)
  | n + 1, S => if S 6 < 9999 then hsS Lf Lg n (psS Lf Lg true (kpS S)) else (S, false)
theorem hs_1 {Lf Lg : Option Ef} {S : Int → Int} (h : RV S) (h4 : 0 ≤ S 4 ∧ S 4 ≤ 30) (h9 : S 6 < 9999) : RV (kpS S) ∧ kpS S 6 < 9999 ∧ RV (psS Lf Lg true (kpS S)) ∧ (0 ≤ psS Lf Lg true (kpS S) 4 ∧ psS Lf Lg true (kpS S) 4 ≤ 30) ∧ psS Lf Lg true (kpS S) 6 = S 6 + 1 ∧ (∀ k, k < 56 → k ≠ 4 → ¬ (6 ≤ k ∧ k < 21) → psS Lf Lg true (kpS S) k = S k) := by
  obtain ⟨u1, u2, u3, u4⟩ := kpS_v h4
  have hk : RV (kpS S) := RV_eq h (fun k hk => u2 k (by omega) (by omega))
  have e6 : kpS S 6 = S 6 := u2 6 (by omega) (by omega)
  obtain ⟨p1, p2⟩ := psS_v (Lf := Lf) (Lg := Lg) (f := true) hk (by omega)
  refine ⟨hk, by omega, p1, ?_, by rw [psS_6 hk, e6], fun k k1 k2 k3 => by rw [p2 k k3 (by omega), u2 k k1 k2]⟩
  rw [p2 4 (by omega) (by omega)]
  omega
theorem hsS_v {Lf Lg : Option Ef} : ∀ (n : Nat) (S : Int → Int), RV S → 0 ≤ S 4 ∧ S 4 ≤ 30 → RV (hsS Lf Lg n S).1 ∧ (0 ≤ (hsS Lf Lg n S).1 4 ∧ (hsS Lf Lg n S).1 4 ≤ 30) ∧ (∀ k, k < 56 → k ≠ 4 → ¬ (6 ≤ k ∧ k < 21) → (hsS Lf Lg n S).1 k = S k) ∧ (S 6 + n ≤ 9999 → (hsS Lf Lg n S).2 = true) := by
  intro n
  induction n with
  | zero => exact fun S h h4 => ⟨h, h4, fun _ _ _ _ => rfl, fun _ => rfl⟩
  | succ n ih =>
    intro S h h4
    unfold hsS
    by_cases h9 : S 6 < 9999
    · rw [if_pos h9]
      obtain ⟨q1, q2, q3, q4, q5, q6⟩ := hs_1 (Lf := Lf) (Lg := Lg) h h4 h9
      obtain ⟨i1, i2, i3, i4⟩ := ih _ q3 q4
      exact ⟨i1, i2, fun k k1 k2 k3 => by rw [i3 k k1 k2 k3, q6 k k1 k2 k3], fun z => i4 (by rw [q5]; omega)⟩
    · rw [if_neg h9]
      exact ⟨h, h4, fun _ _ _ _ => rfl, fun z => by omega⟩
theorem pc_cnt : ∀ (k n : Nat), pc_ k n = cntL (fun i => n.testBit i) k := by
  intro k
  induction k with
  | zero => intro n; rfl
  | succ k ih =>
    intro n
    rw [pc_add k 1 n, ih]
    show _ = cntL (fun i => n.testBit i) k + (if n.testBit k = true then 1 else 0)
    rw [cntL_con (p := fun i => (n % 2 ^ k).testBit i) (q := fun i => n.testBit i) k (fun i hi => by
      show (n % 2 ^ k).testBit i = n.testBit i
      rw [Nat.testBit_mod_two_pow, decide_eq_true hi, Bool.true_and])]
    congr 1
    rw [Nat.testBit_eq_decide_div_mod_eq]
    show n / 2 ^ k % 2 + 0 = _
    by_cases h : n / 2 ^ k % 2 = 1
    · rw [h]; rfl
    · rw [if_neg (by rw [decide_eq_true_eq]; exact h)]; omega
theorem pc_nhm {m : Mm} {o : Int} {S : Int → Int} (h : LSd m o S) : pc_ 32 (m o 4).toNat = nhm S (S 1).toNat := by
  obtain ⟨t1, t2, t3, _⟩ := LSd_t h
  have e : pc_ ((S 1).toNat + (32 - (S 1).toNat)) (m o 4).toNat = pc_ (S 1).toNat (m o 4).toNat := pc_ext _ _ (by omega)
  rw [show (S 1).toNat + (32 - (S 1).toNat) = 32 by omega] at e
  rw [e, pc_cnt]
  unfold nhm
  refine cntL_con _ (fun i hi => ?_)
  have q := (LSd_hm h (c := (i : Nat)) (by omega)).1
  have q2 : bt_ (m o 4) (i : Nat) = (m o 4).toNat.testBit i := rfl
  rw [q2] at q
  show (m o 4).toNat.testBit i = decide (S (11 + 2 * (i : Int)) = -1)
  by_cases hz : S (11 + 2 * (i : Int)) = -1
  · rw [q.mpr hz, decide_eq_true hz]
  · rw [decide_eq_false hz]
    exact Bool.eq_false_iff.mpr (fun z => hz (q.mp z))
theorem HX_FC {m m' : Mm} {Lf Lg : Option Ef} {S S' : Int → Int} (h : HX m 129 Lf Lg S) (hF : FC m 128 S) (hF' : FC m' 128 S') (hS : S' 3 = S 3) (hf : FRC m m') : HX m' 129 Lf Lg S' := by
  obtain ⟨h1, h2, h3, h4, h5⟩ := h
  have o1 := hF.2.2.2
  have o2 := hF'.2.2.2
  refine ⟨?_, o2.1, ?_, ?_, h5⟩
  · unfold TRI
    rw [hf _ _ (by omega) (by omega) (by omega), hf _ _ (by omega) (by omega) (by omega), hf _ _ (by omega) (by omega) (by omega), hf _ _ (by omega) (by omega) (by omega)]
    exact h1
  · obtain ⟨_, _, o3, o4, _⟩ := o2
    omega
  · rw [o2.2.2.2.1.1, hS, ← o1.2.2.2.1.1]
    exact TXL_con h4 (fun a b hab => hf _ _ (by omega) (by omega) (by omega))
theorem FC_RV {m : Mm} {f : Int} {S : Int → Int} (h : FC m f S) : RV S := LSd_RV h.1.1 h.1.2 h.2.2.2.1.2
theorem c_Th_passHours {d n : Nat} {m : Mm} {Lf Lg : Option Ef} {S : Int → Int} (hF : FC m 128 S) (hX : HX m 129 Lf Lg S) (hn : n ≤ 60) : ∃ m', Cl (d + 6) k_Th_passHours [(17, 0), (0, (n : Nat))] m (some (0, if (hsS Lf Lg n S).2 = true then 1 else 0), m') ∧ FC m' 128 (hsS Lf Lg n S).1 ∧ FRC m m' := by
  have lp : ∀ (t k : Nat) (M : Mm) (T : Int → Int), k + t = n → FC M 128 T → HX M 129 Lf Lg T → ∃ m', Ev (d + 6) K_Th_passHours 2 2 [(17, 0), (0, (n : Nat)), (0, (k : Nat))] [] M (some (0, if (hsS Lf Lg t T).2 = true then 1 else 0), m') ∧ FC m' 128 (hsS Lf Lg t T).1 ∧ FRC M m' := by
    intro t
    induction t with
    | zero =>
      intro k M T hk hF hX
      exact ⟨M, b_Th_passHours_2 ⟨fun _ => rfl, fun z => absurd (by omega) z⟩, hF, FRC_refl⟩
    | succ t ih =>
      intro k M T hk hF hX
      have hd : LSd M 129 T := hF.1.1
      obtain ⟨t1, _, _, t4, _⟩ := LSd_t hd
      have h4 : 0 ≤ T 4 ∧ T 4 ≤ 30 := ⟨hF.2.1.1.1, hF.2.1.1.2.1⟩
      by_cases h9 : T 6 < 9999
      · obtain ⟨q1, q2, q3, q4, q5, q6⟩ := hs_1 (Lf := Lf) (Lg := Lg) (FC_RV hF) h4 h9
        obtain ⟨u1, u2, u3, u4⟩ := kpS_v h4
        obtain ⟨M1, a1, a2, a3⟩ := c_Fa_markStep (d := d + 3) hF
        have f1 : FRC M M1 := FRC_far a3
        have hX1 : HX M1 129 Lf Lg (kpS T) := HX_FC hX hF a2 (u2 3 (by omega) (by omega)) f1
        obtain ⟨M2, c1, c2, c3, c4⟩ := c_Th_passHour (d := d) hX1 a2.1.1 a2.1.2 q2
        obtain ⟨p1, p2⟩ := psS_v (Lf := Lf) (Lg := Lg) (f := true) q1 q2
        have f2 : FRC M1 M2 := PF_FRC (Or.inr rfl) c4
        have e1 : psS Lf Lg true (kpS T) 1 = kpS T 1 := p2 1 (by omega) (by omega)
        have c2' : LC M2 (128 + 1) (psS Lf Lg true (kpS T) 1) (fun k => psS Lf Lg true (kpS T) (6 + k)) := c2
        rw [e1] at c2'
        have hF2 : FC M2 128 (psS Lf Lg true (kpS T)) := FC_land a2 u4 (fun a b x y z => c4 a b (by omega) (by omega) (by omega) (by omega)) (fun k k1 k2 k3 => p2 k k3 k2) c2' c3
        have hX2 := HX_FC hX1 a2 hF2 (p2 3 (by omega) (by omega)) f2
        obtain ⟨m', g1, g2, g3⟩ := ih (k + 1) M2 _ (by omega) hF2 hX2
        have he : hsS Lf Lg (t + 1) T = hsS Lf Lg t (psS Lf Lg true (kpS T)) := if_pos h9
        rw [he]
        refine ⟨m', b_Th_passHours_2 ⟨fun z => by omega, fun _ => ⟨fun _ => ⟨_, a1, _, c1, ?_⟩, fun z => absurd (by rw [t4.2.2]; exact h9) z⟩⟩, g2, (f1.tr f2).tr g3⟩
        rw [w32s (by omega)]
        exact g1
      · have he : hsS Lf Lg (t + 1) T = (T, false) := if_neg h9
        rw [he]
        exact ⟨M, b_Th_passHours_2 ⟨fun z => by omega, fun _ => ⟨fun z => absurd (by rw [← t4.2.2]; exact z) h9, fun _ => rfl⟩⟩, hF, FRC_refl⟩
  obtain ⟨m', g1, g2, g3⟩ := lp n 0 m S (by omega) hF hX
  exact ⟨m', cl_Th_passHours (b_Th_passHours g1), g2, g3⟩
theorem nhm_le {S : Int → Int} {n : Nat} : nhm S n ≤ n := cntL_le _ _
theorem c_Mo_arePassed {d n : Nat} {m : Mm} {Lf Lg : Option Ef} (hY : TXL m (m 401 3) Lf Lg) (hRV : RV (m 401)) (h4 : 0 ≤ m 401 4 ∧ m 401 4 ≤ 30) (hn : n ≤ 60) (h24 : m 400 24 = 1) : ∃ m', Cl (d + 7) k_Mo_arePassed [(18, 400), (0, (n : Nat))] m (some (0, if (hsS Lf Lg n (m 401)).2 = true then 1 else 0), m') ∧ m' 401 = (hsS Lf Lg n (m 401)).1 ∧ m' 400 25 = (nhm (hsS Lf Lg n (m 401)).1 (m 401 1).toNat : Int) - nhm (m 401) (m 401 1).toNat ∧ FRM m m' := by
  have lp : ∀ (t k : Nat) (M : Mm) (T : Int → Int), k + t = n → M 401 = T → RV T → 0 ≤ T 4 ∧ T 4 ≤ 30 → T 1 = m 401 1 → T 3 = m 401 3 → FRM m M → M 400 25 = (nhm T (m 401 1).toNat : Int) - nhm (m 401) (m 401 1).toNat → ∃ m', Ev (d + 7) K_Mo_arePassed 2 5 [(18, 400), (0, (n : Nat)), (0, (k : Nat))] [] M (some (0, if (hsS Lf Lg t T).2 = true then 1 else 0), m') ∧ m' 401 = (hsS Lf Lg t T).1 ∧ m' 400 25 = (nhm (hsS Lf Lg t T).1 (m 401 1).toNat : Int) - nhm (m 401) (m 401 1).toNat ∧ FRM m m' := by
    intro t
    induction t with
    | zero =>
      intro k M T hk e _ _ _ _ f h25
      exact ⟨M, b_Mo_arePassed_5 ⟨fun _ => rfl, fun z => absurd (by omega) z⟩, e, h25, f⟩
    | succ t ih =>
      intro k M T hk e hV hT4 e1 e3 f h25
      have h1 := hRV.2.2.1
      by_cases h9 : T 6 < 9999
      · obtain ⟨q1, q2, q3, q4, q5, q6⟩ := hs_1 (Lf := Lf) (Lg := Lg) hV hT4 h9
        obtain ⟨u1, u2, u3, u4⟩ := kpS_v hT4
        have a1 := c_Mo_keep (d := d + 6) (m := M) (by rw [e]; exact hT4)
        rw [e] at a1
        have f1 : FRM m (sr M 401 (kpS T)) := f.tr FRM_sr
        have eM : sr M 401 (kpS T) 401 = kpS T := sr_eq
        have h25' : sr M 401 (kpS T) 400 25 = (nhm T (m 401 1).toNat : Int) - nhm (m 401) (m 401 1).toNat := by rw [sr_ne (by omega)]; exact h25
        have hfl : flg (sr M 401 (kpS T)) = true := by
          unfold flg
          rw [f1 _ _ (by omega) (by omega) (by omega), h24]
          rfl
        have n1 := nhm_le (S := T) (n := (m 401 1).toNat)
        have n2 := nhm_le (S := m 401) (n := (m 401 1).toNat)
        have hTX : TXL (sr M 401 (kpS T)) (m 401 3) Lf Lg := TXL_con hY (fun a b hab => f1 _ _ (by omega) (by omega) (by omega))
        generalize sr M 401 (kpS T) = M1 at *
        obtain ⟨M2, c1, c2, c3, c4⟩ := c_Mo_pass (d := d) (m := M1) (Lf := Lf) (Lg := Lg) (by rw [eM, u2 3 (by omega) (by omega), e3]; exact hTX) (by rw [eM]; exact q1) (by rw [eM]; exact q2)
        have c3 := c3 (by unfold ok25; rw [h25']; omega)
        rw [hfl, eM] at c2 c3
        rw [u2 1 (by omega) (by omega), e1, h25', nhm_con (S := T) (S' := kpS T) (by omega) (fun k _ _ => u2 k (by omega) (by omega))] at c3
        obtain ⟨m', g1, g2, g3, g4⟩ := ih (k + 1) M2 _ (by omega) c2 q3 q4 (by rw [q6 1 (by omega) (by omega) (by omega), e1]) (by rw [q6 3 (by omega) (by omega) (by omega), e3]) (f1.tr (PM_FRM c4)) (by rw [c3]; omega)
        have he : hsS Lf Lg (t + 1) T = hsS Lf Lg t (psS Lf Lg true (kpS T)) := if_pos h9
        rw [he]
        refine ⟨m', b_Mo_arePassed_5 ⟨fun z => by omega, fun _ => ⟨fun _ => ⟨_, a1, _, c1, ?_⟩, fun z => absurd (by rw [e]; omega) z⟩⟩, g2, g3, g4⟩
        rw [w32s (by omega)]
        exact g1
      · have he : hsS Lf Lg (t + 1) T = (T, false) := if_neg h9
        have h6 := hV.2.2.2.1
        rw [he]
        exact ⟨M, b_Mo_arePassed_5 ⟨fun z => by omega, fun _ => ⟨fun z => absurd (by rw [e]; omega) z, fun _ => rfl⟩⟩, e, h25, f⟩
  have f0 : FRM m (up m 400 25 0) := fun a b x y z => by
    by_cases ha : a = 400
    · exact up_nk (fun w => z ⟨ha, by omega, by omega⟩)
    · exact up_ne ha
  obtain ⟨m', g1, g2, g3, g4⟩ := lp n 0 (up m 400 25 0) (m 401) (by omega) (up_row_ne (by omega)) hRV h4 rfl rfl f0 (by rw [up_eq]; omega)
  refine ⟨m', cl_Mo_arePassed (b_Mo_arePassed ?_), g2, g3, g4⟩
  rintro m1 rfl
  exact g1
theorem op_hour {m : Mm} {x : Int} (h : R m) : OP k_Th_hour k_Mo_hour 0 [(0, x)] m := by
  have hL : LSd m 129 (m 401) := h.1.1.1
  have hRV := R_RV h
  obtain ⟨t1, t2, t3, t4, t5⟩ := LSd_t hL
  have t46 : m 129 5 = m 401 6 := t4.2.2
  by_cases hx : 1 ≤ x ∧ x ≤ 60
  · have ew : w32 (m 129 5 + x) = m 401 6 + x := by rw [t46, w32n (by omega) (by omega)]
    have ew2 : w32 (m 401 6 + x) = m 401 6 + x := by rw [w32n (by omega) (by omega)]
    have nx : ¬ (if 1 ≤ x ∧ x ≤ 60 then (1 : Int) else 0) = 0 := by rw [ite_z1]; exact hx
    by_cases h9 : m 401 6 + x ≤ 9999
    · obtain ⟨n, rfl⟩ := Int.eq_ofNat_of_zero_le (show 0 ≤ x by omega)
      obtain ⟨Lf, Lg, hX, hX2⟩ := R_HX h
      have h4 : 0 ≤ m 401 4 ∧ m 401 4 ≤ 30 := ⟨h.1.2.1.1.1, h.1.2.1.1.2.1⟩
      obtain ⟨i1, i2, i3, i4⟩ := hsS_v (Lf := Lf) (Lg := Lg) n (m 401) hRV h4
      have ok := i4 h9
      obtain ⟨m1, c1, c2, c3⟩ := c_Th_passHours (d := 113) (n := n) h.1 hX (by omega)
      have e401 : m1 401 = m 401 := c3.row (by omega) (by omega) (by omega)
      have hY : TXL m1 (m 401 3) Lf Lg := TXL_con hX2 (fun a b hab => c3 _ _ (by omega) (by omega) (by omega))
      have e24 : m1 400 24 = 1 := by rw [c3 _ _ (by omega) (by omega) (by omega)]; exact h.2.2.2.2.2.2.2.1.2.2
      obtain ⟨m2, g1, g2, g3, g4⟩ := c_Mo_arePassed (d := 112) (n := n) (m := m1) (Lf := Lf) (Lg := Lg) (by rw [e401]; exact hY) (by rw [e401]; exact hRV) (by rw [e401]; exact h4) (by omega) e24
      rw [e401] at g1 g2 g3
      rw [ok, if_pos rfl] at c1 g1
      have hL1 : LSd m1 129 (hsS Lf Lg n (m 401)).1 := c2.1.1
      obtain ⟨s1, s2, s3, _⟩ := LSd_t hL1
      have p1 := pc_nhm hL
      have p2 := pc_nhm hL1
      rw [i3 1 (by omega) (by omega) (by omega)] at p2
      have n1 := nhm_le (S := m 401) (n := (m 401 1).toNat)
      have n2 := nhm_le (S := (hsS Lf Lg n (m 401)).1) (n := (m 401 1).toNat)
      have b1 := c_In_bitCount (d := 119) (m := m) (x := m 129 4) (by omega)
      have b2 := c_In_bitCount (d := 119) (m := m1) (x := m1 129 4) (by omega)
      rw [p1] at b1
      rw [p2] at b2
      have mi := c_Mo_isIn (d := 119) (m := m1) (v := ((n : Nat) : Int)) (lo := 1) (hi := 60)
      refine OP_s (m1 := m1) (m2 := m2) (v := (nhm (hsS Lf Lg n (m 401)).1 (m 401 1).toNat : Int) - nhm (m 401) (m 401 1).toNat) h (cl_Th_hour (b_Th_hour ⟨fun z => by omega, fun _ => ⟨fun z => by omega, fun _ => ⟨fun _ => ⟨_, _, b1, _, _, c1, _, _, b2, ?_⟩, fun z => absurd (by rw [ew]; exact h9) z⟩⟩⟩)) c2 c3 (cl_Mo_hour (b_Mo_hour ⟨_, _, mi, fun z => absurd z nx, fun _ => ⟨fun z => ?_, fun _ => ⟨_, _, g1, fun z => absurd z (by decide), fun _ => by rw [g3]⟩⟩⟩)) g2 g4 ⟨i3 0 (by omega) (by omega) (by omega), i3 2 (by omega) (by omega) (by omega), fun k k1 k2 => i3 k (by omega) (by omega) (by omega)⟩
      · rw [w32n (by omega) (by omega)]
      · rw [e401, ew2] at z
        omega
    · exact OP_e h (v := -1) (cl_Th_hour (b_Th_hour ⟨fun z => by omega, fun _ => ⟨fun z => by omega, fun _ => ⟨fun z => absurd (by rw [← ew]; exact z) h9, fun _ => rfl⟩⟩⟩)) (cl_Mo_hour (b_Mo_hour ⟨_, _, c_Mo_isIn, fun z => absurd z nx, fun _ => ⟨fun _ => rfl, fun z => absurd (by rw [ew2]; omega) z⟩⟩))
  · refine OP_e h (v := -1) (cl_Th_hour (b_Th_hour ⟨fun _ => rfl, fun z => ⟨fun _ => rfl, fun z2 => absurd ⟨by omega, by omega⟩ hx⟩⟩)) (cl_Mo_hour (b_Mo_hour ⟨_, _, c_Mo_isIn, fun _ => rfl, fun z => ?_⟩))
    rw [ite_z1] at z
    exact absurd z hx
