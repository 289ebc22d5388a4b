/-! AN HOUR: the class -/
theorem gnS_wr {S : Int → Int} {c w : Int} : gnS S c w (11 + 2 * c) = -1 ↔ (bt_ (S 31) (bey (S (11 + 2 * c)) w) = true ∨ bey (S (11 + 2 * c)) w = -1) := by
  rw [gnS_1.1]
  split
  · rename_i h; exact ⟨fun _ => Or.inl h, fun _ => rfl⟩
  · rename_i h; exact ⟨fun z => Or.inr z, fun z => by rcases z with z | z; exact absurd z h; exact z⟩
theorem c_La_wander {d : Nat} {m : Mm} {L c : Int} {S : Int → Int} (hT : TRI m) (h : LSd m L S) (hk : LSk m L S) (hg : 0 ≤ S 31 ∧ S 31 < 33554432) (hc : 0 ≤ c ∧ c < S 1) (hh : S (11 + 2 * c) ≠ -1) (hL : L < 498 ∧ 20 ≤ L) : ∃ m', Cl (d + 4) k_La_wander [(13, L), (0, c), (0, S 31)] m (none, m') ∧ LSd m' L (wnS true S c) ∧ LSk m' L (wnS true S c) ∧ (∀ a b, a < L ∨ L + 3 < a → m' a b = m a b) := by
  obtain ⟨p1, p2⟩ := LSd_hm h hc
  obtain ⟨q1, q2⟩ := p2 hh
  obtain ⟨_, s2, _, s4⟩ := LSd_c h hc
  obtain ⟨⟨t1, t2, t3⟩, _⟩ := LSd_t h
  have hw : wayI (S (12 + 2 * c)) := by rw [s4]; exact s2
  have hwb := c_La_wbh (d := d) hT h q2 hw
  unfold wnS
  by_cases hon : onw (HS S) (S (11 + 2 * c)) (S (12 + 2 * c)) = -1
  · rw [if_pos hon]
    rw [hon] at hwb
    refine ⟨m, cl_La_wander (b_La_wander ?_), h, hk, fun _ _ _ => rfl⟩
    rw [← q1, ← s4]
    exact ⟨by omega, by omega, _, _, hwb, fun _ => rfl, fun z => absurd rfl z⟩
  · rw [if_neg hon]
    obtain ⟨v1, v2⟩ := onw_v hw hon
    have hb := opn_bey v2
    have hbc := ((bey_hby (w := onw (HS S) (S (11 + 2 * c)) (S (12 + 2 * c))) q2).2 hb).2
    unfold cellI at hbc
    obtain ⟨m1, a1, a2, a3, a4, a5⟩ := c_La_comesHome (d := d + 2) h hg hc v1 hh hb
    have hk1 : LSk m1 L (gnS S c (onw (HS S) (S (11 + 2 * c)) (S (12 + 2 * c)))) := LSk_con2 hk a4 (fun b => a5 _ b (by omega)) ⟨gnS_k (by omega) (by omega), fun k hk => gnS_k (by omega) (by omega)⟩
    by_cases hgt : bt_ (S 31) (bey (S (11 + 2 * c)) (onw (HS S) (S (11 + 2 * c)) (S (12 + 2 * c)))) = true
    · rw [if_pos (gnS_wr.mpr (Or.inl hgt))]
      rw [if_pos hgt] at a1
      obtain ⟨m2, b1, b2, b3, b4, b5⟩ := c_La_write (d := d + 3) (w := 1) (k := c) a2 hk1 (by omega) (by omega)
      refine ⟨m2, cl_La_wander (b_La_wander ?_), b2, b3, fun a b hab => by rw [b4 a b (by omega) (by omega), a5 a b (by omega)]⟩
      rw [← q1, ← s4]
      exact ⟨by omega, by omega, _, _, hwb, fun z => absurd z hon, fun _ => ⟨_, _, a1, fun z => absurd z (by decide), fun _ => ⟨_, b1, rfl⟩⟩⟩
    · rw [if_neg (fun z => by
        rcases gnS_wr.mp z with y | y
        · exact hgt y
        · exact hb y)]
      rw [if_neg hgt] at a1
      refine ⟨m1, cl_La_wander (b_La_wander ?_), a2, hk1, fun a b hab => a5 a b (by omega)⟩
      rw [← q1, ← s4]
      exact ⟨by omega, by omega, _, _, hwb, fun z => absurd z hon, fun _ => ⟨_, _, a1, fun _ => rfl, fun z => absurd rfl z⟩⟩
def PF (L : Int) (m M : Mm) : Prop := ∀ a b, a ≠ 11 → a ≠ 12 → ¬ (a = 10 ∧ b = 2) → (a < L ∨ L + 3 < a) → M a b = m a b
theorem PF.tr {L : Int} {m m1 m2 : Mm} (h1 : PF L m m1) (h2 : PF L m1 m2) : PF L m m2 := fun a b x y z w => by rw [h2 a b x y z w, h1 a b x y z w]
theorem PF_j {L : Int} {m m' : Mm} (h : JG m m') : PF L m m' := fun a b x y z _ => h a b x y z
theorem PF_l {L : Int} {m m' : Mm} (h : ∀ a b, a < L ∨ L + 3 < a → m' a b = m a b) : PF L m m' := fun a b _ _ _ w => h a b w
theorem JG_d {m m' : Mm} {L : Int} {S : Int → Int} (h : JG m m') (hL : 20 ≤ L) (hd : LSd m L S) (hk : LSk m L S) : LSd m' L S ∧ LSk m' L S :=
  ⟨LC_con hd (fun a b _ _ => h a b (by omega) (by omega) (by omega)) (fun _ _ _ => rfl), LB_con hk (fun b => h _ b (by omega) (by omega) (by omega)) (fun b => h _ b (by omega) (by omega) (by omega)) rfl (fun _ _ _ => rfl)⟩
theorem c_Th_ruling {d : Nat} {m : Mm} {n : Int} (h7 : -1 ≤ m 128 7 ∧ m 128 7 < m 128 6) (h6 : m 128 6 ≤ 4) : Cl (d + 1) k_Th_ruling [(17, 0)] m (some (16, obj (m 128 7)), m) := by
  refine cl_Th_ruling (b_Th_ruling ⟨_, _, c_Th_isText, fun z => ?_, fun z => ?_⟩)
  · rw [ite_z] at z
    unfold obj
    rw [if_pos (by omega)]
  · rw [ite_z1] at z
    unfold obj
    rw [if_neg (by omega)]
    refine ⟨by omega, ?_⟩
    congr 3
/-- what stands by when an hour passes -/
def HX (m : Mm) (L : Int) (Lf Lg : Option Ef) (S : Int → Int) : Prop := TRI m ∧ (m 128 4 = S 31 ∧ 0 ≤ S 31 ∧ S 31 < 33554432) ∧ (-1 ≤ m 128 7 ∧ m 128 7 < m 128 6 ∧ m 128 6 ≤ 4) ∧ TXL m (m 128 7) Lf Lg ∧ (L = 64 ∨ L = 129)
theorem HX_con {m m' : Mm} {L : Int} {Lf Lg : Option Ef} {S S' : Int → Int} (h : HX m L Lf Lg S) (hp : PF L m m') (h31 : S' 31 = S 31) : HX m' L Lf Lg S' := by
  obtain ⟨h1, h2, h3, h4, h5⟩ := h
  have e : ∀ b, m' 128 b = m 128 b := fun b => hp _ _ (by omega) (by omega) (by omega) (by omega)
  have e5 : ∀ b, m' 501 b = m 501 b := fun b => hp _ _ (by omega) (by omega) (by omega) (by omega)
  refine ⟨?_, by rw [h31, e]; exact h2, by rw [e, e]; exact h3, ?_, h5⟩
  · unfold TRI
    rw [e5, e5, e5, e5]
    exact h1
  · rw [e]
    exact TXL_con h4 (fun a b hab => hp _ _ (by omega) (by omega) (by omega) (by omega))
theorem pass_cows {d : Nat} {L : Int} {Lf Lg : Option Ef} {S : Int → Int} {o2 : Int} {Φ : Mm → Prop} {m : Mm} (hX : HX m L Lf Lg S) (ho : o2 = obj (m 128 7)) (hRV : RV S) (hk : ∀ M : Mm, LSd M L (cwF Lg true S (S 1).toNat) → LSk M L (cwF Lg true S (S 1).toNat) → PF L m M → ∃ m', Ev (d + 5) K_Th_passHour 3 5 [(17, 0), (13, L), (16, o2), (0, S 1)] [] M (none, m') ∧ Φ m') : ∀ (t k : Nat) (M : Mm), (k : Int) + t = S 1 → LSd M L (cwF Lg true S k) → LSk M L (cwF Lg true S k) → PF L m M → ∃ m', Ev (d + 5) K_Th_passHour 3 5 [(17, 0), (13, L), (16, o2), (0, (k : Nat))] [] M (none, m') ∧ Φ m' := by
  have h1 := hRV.2.2.1
  intro t
  induction t with
  | zero =>
    intro k M hkt hd hb hp
    have hkk : (S 1).toNat = k := by omega
    rw [hkk] at hk
    rw [show S 1 = (k : Nat) by omega] at hk
    exact hk M hd hb hp
  | succ t ih =>
    intro k M hkt hd hb hp
    obtain ⟨i1, i2⟩ := cwF_v (Lg := Lg) (f := true) hRV k (by omega)
    have e1 : cwF Lg true S k 1 = S 1 := i2 1 (by omega) (by omega)
    have e31 : cwF Lg true S k 31 = S 31 := i2 31 (by omega) (by omega)
    obtain ⟨x1, x2, x3, x4, x5⟩ := HX_con (S' := cwF Lg true S k) hX hp e31
    have hcow : 0 ≤ ((k : Nat) : Int) ∧ ((k : Nat) : Int) < cwF Lg true S k 1 := by omega
    obtain ⟨⟨_, _, t3⟩, _⟩ := LSd_t hd
    have hho := c_La_isHomeS (d := d + 4) hd hcow
    have e7 : M 128 7 = m 128 7 := hp _ _ (by omega) (by omega) (by omega) (by rcases hX.2.2.2.2 with q | q <;> omega)
    have hL20 : 20 ≤ L ∧ 53 ≤ L ∧ L < 498 := by rcases x5 with q | q <;> omega
    by_cases hh : cwF Lg true S k (11 + 2 * (k : Nat)) = -1
    · rw [if_pos hh] at hho
      have hc : cwF Lg true S (k + 1) = cwF Lg true S k := by
        conv => lhs; unfold cwF
        rw [if_neg (fun z => z.1 hh)]
      obtain ⟨m', g1, g2⟩ := ih (k + 1) M (by omega) (by rw [hc]; exact hd) (by rw [hc]; exact hb) hp
      refine ⟨m', b_Th_passHour_5 ⟨fun z => by omega, fun _ => ⟨_, _, hho, fun _ => ?_, fun z => absurd (by decide) z⟩⟩, g2⟩
      rw [w32s (by omega)]
      exact g1
    · rw [if_neg hh] at hho
      obtain ⟨M1, j1, j2⟩ := c_Ju_goesOf (d := d) hd hL20.1 hL20.2.1 x4 hcow hh
      rw [e7, ← ho] at j1
      obtain ⟨hd1, hb1⟩ := JG_d j2 hL20.1 hd hb
      have hp1 : PF L m M1 := hp.tr (PF_j j2)
      by_cases hgo : 0 < gov Lg (cwF Lg true S k) (k : Nat)
      · have hc : cwF Lg true S (k + 1) = wnS true (cwF Lg true S k) (k : Nat) := by
          conv => lhs; unfold cwF
          rw [if_pos ⟨hh, hgo⟩]
        obtain ⟨y1, y2, y3, y4, y5⟩ := HX_con (S' := cwF Lg true S k) hX hp1 e31
        obtain ⟨M2, w1, w2, w3, w4⟩ := c_La_wander (d := d) y1 hd1 hb1 y2.2 hcow hh ⟨hL20.2.2, hL20.1⟩
        obtain ⟨m', g1, g2⟩ := ih (k + 1) M2 (by omega) (by rw [hc]; exact w2) (by rw [hc]; exact w3) (hp1.tr (PF_l w4))
        refine ⟨m', b_Th_passHour_5 ⟨fun z => by omega, fun _ => ⟨_, _, hho, fun z => absurd rfl z, fun _ => ⟨_, _, j1, fun z => by omega, fun _ => ?_⟩⟩⟩, g2⟩
        rw [y2.1]
        refine ⟨_, w1, ?_⟩
        rw [w32s (by omega)]
        exact g1
      · have hc : cwF Lg true S (k + 1) = cwF Lg true S k := by
          conv => lhs; unfold cwF
          rw [if_neg (fun z => hgo z.2)]
        obtain ⟨m', g1, g2⟩ := ih (k + 1) M1 (by omega) (by rw [hc]; exact hd1) (by rw [hc]; exact hb1) hp1
        refine ⟨m', b_Th_passHour_5 ⟨fun z => by omega, fun _ => ⟨_, _, hho, fun z => absurd rfl z, fun _ => ⟨_, _, j1, fun _ => ?_, fun z => by omega⟩⟩⟩, g2⟩
        rw [w32s (by omega)]
        exact g1
theorem c_Th_passHour {d : Nat} {m : Mm} {L : Int} {Lf Lg : Option Ef} {S : Int → Int} (hX : HX m L Lf Lg S) (hd : LSd m L S) (hb : LSk m L S) (h9 : S 6 < 9999) : ∃ m', Cl (d + 5) k_Th_passHour [(17, 0), (13, L)] m (none, m') ∧ LSd m' L (psS Lf Lg true S) ∧ LSk m' L (psS Lf Lg true S) ∧ PF L m m' := by
  have hRV := LSd_RV hd hb hX.2.1.2
  have h1 := hRV.2.2.1
  have hL20 : 20 ≤ L ∧ 53 ≤ L ∧ L < 498 := by rcases hX.2.2.2.2 with q | q <;> omega
  have run := pass_cows (d := d) (Φ := fun m' => LSd m' L (psS Lf Lg true S) ∧ LSk m' L (psS Lf Lg true S) ∧ PF L m m') hX rfl hRV (fun M hd1 hb1 hp => by
    obtain ⟨i1, i2⟩ := cwF_v (Lg := Lg) (f := true) hRV (S 1).toNat (by omega)
    have e1 : cwF Lg true S (S 1).toNat 1 = S 1 := i2 1 (by omega) (by omega)
    have e31 : cwF Lg true S (S 1).toNat 31 = S 31 := i2 31 (by omega) (by omega)
    have e6 : cwF Lg true S (S 1).toNat 6 = S 6 := cwF_6 hRV _ (by omega) 6 (by omega) (by omega)
    have hps : psS Lf Lg true S = frS Lf true (cwF Lg true S (S 1).toNat) := rfl
    rw [hps]
    generalize cwF Lg true S (S 1).toNat = T at *
    obtain ⟨⟨_, _, t3⟩, _⟩ := LSd_t hd1
    have h7 := i1.2.2.2.2.1
    have hx := h40 i1
    obtain ⟨M1, a1, a2, a3, a4⟩ := c_La_draw (d := d + 4) hd1 hb1
    have eir : irm (T 7) 40 = T 7 % 40 := irm_n (by omega) (by omega) (by omega) (by omega)
    have hha := c_La_has (d := d + 4) (h := T 7 % 40) a2
    have hp1 : PF L m M1 := hp.tr (fun a b _ _ _ w => a4 a b (by omega))
    unfold frS
    by_cases hth : HS (anS T) (T 7 % 40) = true
    · rw [if_pos ⟨hx, hth⟩] at hha
      rw [if_pos hth]
      obtain ⟨M2, b1, b2, b3, b4⟩ := c_La_draw (d := d + 4) a2 a3
      have i2' := RV_an i1
      have h72 := i2'.2.2.2.2.1
      have eir2 : irm (anS T 7) 10 = anS T 7 % 10 := irm_n (by omega) (by omega) (by omega) (by omega)
      have hp2 : PF L m M2 := hp1.tr (fun a b _ _ _ w => b4 a b (by omega))
      have e31' : (anS (anS T)) 31 = S 31 := by rw [anS_k (by omega), anS_k (by omega), e31]
      obtain ⟨x1, x2, x3, x4, x5⟩ := HX_con (S' := anS (anS T)) hX hp2 e31'
      have e7 : M2 128 7 = m 128 7 := hp2 _ _ (by omega) (by omega) (by omega) (by rcases hX.2.2.2.2 with q | q <;> omega)
      obtain ⟨M3, j1, j2⟩ := c_Ju_frostsOf (d := d) (h := T 7 % 40) b2 hL20.1 hL20.2.1 x4 hx
      rw [e7] at j1
      obtain ⟨hd3, hb3⟩ := JG_d j2 hL20.1 b2 b3
      have hp3 : PF L m M3 := hp2.tr (PF_j j2)
      by_cases hfr : anS T 7 % 10 < frv Lf (anS (anS T)) (T 7 % 40)
      · rw [if_pos hfr]
        obtain ⟨v, r1, r2⟩ := c_La_removeHedge (d := d + 4) (h := T 7 % 40) hd3 hx
        have hth2 : HS (anS (anS T)) (T 7 % 40) = true := by
          unfold HS at hth ⊢
          rw [anS_k (by omega), anS_k (by omega), anS_k (by omega), anS_k (by omega)]
          rw [anS_k (by omega), anS_k (by omega)] at hth
          exact hth
        have hrm : rmS (anS (anS T)) (T 7 % 40) = chS (anS (anS T)) (T 7 % 40) := by unfold rmS; rw [if_pos hth2]
        rw [hrm] at r2
        have i3 := RV_an i2'
        obtain ⟨c1, c2, c3, c4⟩ := chS_v (S := anS (anS T)) i3.1 i3.2.1 hx
        have hb4 : LSk (up M3 L 0 v) L (chS (anS (anS T)) (T 7 % 40)) := LSk_up0 hb3 ⟨c3 _ (by omega) (by omega), fun k hk => c3 _ (by omega) (by omega)⟩
        obtain ⟨M5, w1, w2, w3, w4, w5⟩ := c_La_write (d := d + 4) (w := 0) (k := T 7 % 40) r2 hb4 (by omega) hx
        have e6w : wrS (chS (anS (anS T)) (T 7 % 40)) 0 (T 7 % 40) 6 = S 6 := by
          rw [wrS_k (RV_ch i3 hx).2.2.2.2.2.2.1 (by omega) (by omega), c3 _ (by omega) (by omega), anS_k (by omega), anS_k (by omega), e6]
        obtain ⟨z1, z2, z3⟩ := c_La_hr w2 w3 (by rw [e6w]; exact h9)
        refine ⟨up M5 L 5 (wrS (chS (anS (anS T)) (T 7 % 40)) 0 (T 7 % 40) 6 + 1), b_Th_passHour_5 ⟨fun _ => ⟨_, _, a1, ?_⟩, fun z => absurd (by omega) z⟩, z2, z3, fun a b x y z w => ?_⟩
        · rw [eir]
          refine ⟨_, _, hha, fun z => absurd z (by decide), fun _ => ⟨_, _, b1, _, _, j1, fun z => ?_, fun _ => ⟨_, r1, _, w1, ?_⟩⟩⟩
          · rw [eir2] at z; omega
          · rintro m9 rfl
            rw [z1]
        · rw [up_ne (by omega), w4 a b (by omega) (by omega), up_ne (by omega)]
          exact hp3 a b x y z w
      · rw [if_neg hfr]
        have e6w : anS (anS T) 6 = S 6 := by rw [anS_k (by omega), anS_k (by omega), e6]
        obtain ⟨z1, z2, z3⟩ := c_La_hr hd3 hb3 (by rw [e6w]; exact h9)
        refine ⟨up M3 L 5 (anS (anS T) 6 + 1), b_Th_passHour_5 ⟨fun _ => ⟨_, _, a1, ?_⟩, fun z => absurd (by omega) z⟩, z2, z3, fun a b x y z w => ?_⟩
        · rw [eir]
          refine ⟨_, _, hha, fun z => absurd z (by decide), fun _ => ⟨_, _, b1, _, _, j1, fun _ => ?_, fun z => ?_⟩⟩
          · rintro m6 rfl
            rw [z1]
          · rw [eir2] at z; omega
        · rw [up_ne (by omega)]
          exact hp3 a b x y z w
    · rw [if_neg (fun z => hth z.2)] at hha
      rw [if_neg hth]
      have e6w : anS T 6 = S 6 := by rw [anS_k (by omega), e6]
      obtain ⟨z1, z2, z3⟩ := c_La_hr a2 a3 (by rw [e6w]; exact h9)
      refine ⟨up M1 L 5 (anS T 6 + 1), b_Th_passHour_5 ⟨fun _ => ⟨_, _, a1, ?_⟩, fun z => absurd (by omega) z⟩, z2, z3, fun a b x y z w => ?_⟩
      · rw [eir]
        refine ⟨_, _, hha, fun _ => ?_, fun z => absurd rfl z⟩
        rintro m3 rfl
        rw [z1]
      · rw [up_ne (by omega)]
        exact hp1 a b x y z w) (S 1).toNat 0 m (by omega) hd hb (fun _ _ _ _ _ _ => rfl)
  obtain ⟨m', g1, g2⟩ := run
  exact ⟨m', cl_Th_passHour (b_Th_passHour ⟨_, _, c_Th_ruling (n := 0) ⟨hX.2.2.1.1, hX.2.2.1.2.1⟩ hX.2.2.1.2.2, g1⟩), g2⟩
/-! AN HOUR: the model -/
def PM (m M : Mm) : Prop := ∀ a b, a ≠ 401 → a ≠ 407 → a ≠ 408 → a ≠ 409 → ¬ (a = 400 ∧ b = 25) → M a b = m a b
theorem PM.tr {m m1 m2 : Mm} (h1 : PM m m1) (h2 : PM m1 m2) : PM m m2 := fun a b x y z w v => by rw [h2 a b x y z w v, h1 a b x y z w v]
theorem PM_sr {m : Mm} {S : Int → Int} : PM m (sr m 401 S) := fun a b x _ _ _ _ => by rw [sr_ne x]
theorem PM_g {m M : Mm} (h : MG m M) : PM m M := fun a b _ y z w _ => h a b y z w
def flg (m : Mm) : Bool := decide (m 400 24 ≠ 0)
theorem flg_con {m M : Mm} (h : PM m M) : flg M = flg m := by
  unfold flg
  rw [h 400 24 (by omega) (by omega) (by omega) (by omega) (by omega)]
theorem c_Mo_write {d : Nat} {m : Mm} {w k : Int} (hV : RV (m 401)) (hw : 0 ≤ w ∧ w ≤ 1) (hk : 0 ≤ k ∧ k < 40) : Cl d k_Mo_write [(18, 400), (0, w), (0, k)] m (none, sr m 401 (wrF (flg m) (m 401) w k)) := by
  obtain ⟨_, _, _, h6, _, _, h10, _⟩ := hV
  obtain ⟨v1, v2, v3, v4⟩ := wr1_v (S := m 401) h10
  have tail : ∀ (u : Vv), Ev d K_Mo_write 3 39 [(18, 400), (0, w), (0, k), u] [] (sr m 401 (wr1 (m 401))) (none, sr m 401 (wrS (m 401) w k)) := by
    intro u
    refine b_Mo_write_39 ?_
    rw [sr_eq]
    have e1 : w32 (1436 + wr1 (m 401) 10) = 1436 + wr1 (m 401) 10 := w32n (by omega) (by omega)
    have e6 : wr1 (m 401) 6 = m 401 6 := v2 6 (by omega) (by omega)
    have ev : w32 (w32 (w32 (w32 (m 401 6 * 2) + w) * 40) + k) = (m 401 6 * 2 + w) * 40 + k := by
      rw [w32n (x := m 401 6 * 2) (by omega) (by omega), w32n (x := m 401 6 * 2 + w) (by omega) (by omega), w32n (x := (m 401 6 * 2 + w) * 40) (by omega) (by omega), w32n (by omega) (by omega)]
    rw [e1, e6, ev]
    refine ⟨by omega, ?_⟩
    rintro m1 rfl
    rintro m2 rfl
    rw [sr_up2, sr_eq, ups_ne (by omega), w32n (by omega) (by omega), sr_up2]
    rfl
  have hsr : ∀ S : Int → Int, S = m 401 → sr m 401 S = m := fun S hS => by rw [hS, sr_self]
  by_cases hf : m 400 24 = 0
  · have hfl : flg m = false := by unfold flg; simp [hf]
    rw [hfl]
    refine cl_Mo_write (b_Mo_write ⟨fun z => absurd hf z, fun _ => ?_⟩)
    have ew : wrF false (m 401) w k = m 401 := rfl
    rw [ew, hsr _ rfl]
  · have hfl : flg m = true := by unfold flg; simp [hf]
    rw [hfl]
    show Cl d k_Mo_write [(18, 400), (0, w), (0, k)] m (none, sr m 401 (wrS (m 401) w k))
    by_cases h30 : m 401 10 = 30
    · obtain ⟨w1, w2⟩ := v3 h30
      have lp : ∀ (t j : Nat), j + t = 30 → 1 ≤ j → Ev d K_Mo_write 3 12 [(18, 400), (0, w), (0, k), (0, (j : Nat))] [] (sr m 401 (fls (m 401) 1436 ((j - 1 : Nat) : Int) (fun i => m 401 (1437 + i)))) (none, sr m 401 (wrS (m 401) w k)) := by
        intro t
        induction t with
        | zero =>
          intro j hj hj1
          obtain rfl : j = 30 := by omega
          refine b_Mo_write_12 ⟨fun _ => ?_, fun z => absurd (by omega) z⟩
          rintro m1 rfl
          rw [sr_eq, fls_out (by omega), h30, w32n (by omega) (by omega), sr_up2]
          have := tail (0, ((30 : Nat) : Int))
          unfold wr1 at this
          rw [if_pos h30] at this
          exact this
        | succ t ih =>
          intro j hj hj1
          have e1 : w32 (1436 + (j : Int)) = 1436 + j := w32n (by omega) (by omega)
          have e2 : w32 (1436 + (j : Int) - 1) = 1436 + ((j - 1 : Nat) : Int) := by rw [w32n (by omega) (by omega)]; omega
          refine b_Mo_write_12 ⟨fun z => by omega, fun _ => ?_⟩
          rw [e1, e2]
          refine ⟨by omega, by omega, ?_⟩
          rintro m2 rfl
          rw [sr_eq, fls_out (by omega), sr_up2, fls_up (k := j - 1) (by omega) (by show m 401 (1436 + (j : Int)) = m 401 (1437 + ((j - 1 : Nat) : Int)); congr 1; omega), w32s (by omega)]
          have := ih (j + 1) (by omega) (by omega)
          rw [show j + 1 - 1 = j - 1 + 1 by omega] at this
          exact this
      refine cl_Mo_write (b_Mo_write ⟨fun _ => ⟨fun z => absurd h30 z, fun _ => ?_⟩, fun z => absurd hf z⟩)
      have := lp 29 1 rfl (by omega)
      rw [show ((1 - 1 : Nat) : Int) = 0 from rfl, fls_0, hsr _ rfl] at this
      exact this
    · have := tail (9, 0)
      rw [v4 h30, hsr _ rfl] at this
      exact cl_Mo_write (b_Mo_write ⟨fun _ => ⟨fun _ => this, fun z => absurd h30 z⟩, fun z => absurd hf z⟩)
theorem ldv_n {a b : Int} (ha : 0 ≤ a) (ha2 : a ≤ 9223372036854775807) (hb : 0 < b) (hb2 : b ≤ 9223372036854775807) : ldv a b = a / b := by
  have e1 : (Int64.ofInt a).toInt = a := i64_of ⟨by omega, ha2⟩
  have e2 : (Int64.ofInt b).toInt = b := i64_of ⟨by omega, hb2⟩
  unfold ldv
  rw [Int64.toInt_div, e1, e2, Int.tdiv_eq_ediv_of_nonneg ha]
  have h0 : 0 ≤ a / b := Int.ediv_nonneg ha (by omega)
  have h1 : a / b ≤ a := Int.ediv_le_self _ ha
  rw [Int.bmod_eq_of_le] <;> omega
theorem lrm_n {a b : Int} (ha : 0 ≤ a) (ha2 : a ≤ 9223372036854775807) (hb : 0 < b) (hb2 : b ≤ 9223372036854775807) : lrm a b = a % b := by
  have e1 : (Int64.ofInt a).toInt = a := i64_of ⟨by omega, ha2⟩
  have e2 : (Int64.ofInt b).toInt = b := i64_of ⟨by omega, hb2⟩
  have e3 : (Int64.ofInt a / Int64.ofInt b).toInt = a / b := ldv_n ha ha2 hb hb2
  have h0 : 0 ≤ a / b := Int.ediv_nonneg ha (by omega)
  have h3 : a / b * b ≤ a := Int.ediv_mul_le _ (by omega)
  have h4 : 0 ≤ a / b * b := Int.mul_nonneg h0 (by omega)
  unfold lrm
  rw [Int64.toInt_sub, Int64.toInt_mul, e1, e3, e2]
  rw [Int.bmod_eq_of_le (n := a / b * b) (by omega) (by omega)]
  have h5 : a - a / b * b = a % b := by rw [Int.emod_def, Int.mul_comm]
  rw [h5]
  have h6 := Int.emod_nonneg a (b := b) (by omega)
  have h7 := Int.emod_lt_of_pos a hb
  rw [Int.bmod_eq_of_le] <;> omega
theorem c_Mo_anew {d : Nat} {m : Mm} (h7 : 0 ≤ m 401 7 ∧ m 401 7 < 30817) : Cl d k_Mo_anew [(18, 400)] m (none, sr m 401 (anS (m 401))) := by
  refine cl_Mo_anew (b_Mo_anew ?_)
  have ev : w32 (lrm (w64 (w64 (m 401 7 * 587) + 457)) 30817) = (m 401 7 * 587 + 457) % 30817 := by
    rw [w64m (x := m 401 7 * 587) (by omega), w64m (by omega), lrm_n (by omega) (by omega) (by omega) (by omega), w32n (by omega) (by omega)]
  rw [ev]
  rintro m1 rfl
  rw [sr_up]
  rfl
theorem c_Mo_drawnBy {d : Nat} {m : Mm} {n : Int} (h7 : 0 ≤ m 401 7 ∧ m 401 7 < 30817) (hn : 0 < n ∧ n < 1000) : Cl (d + 1) k_Mo_drawnBy [(18, 400), (0, n)] m (some (0, m 401 7 % n), sr m 401 (anS (m 401))) := by
  refine cl_Mo_drawnBy (b_Mo_drawnBy ⟨by omega, _, c_Mo_anew h7, ?_⟩)
  rw [irm_n (by omega) (by omega) (by omega) (by omega)]
/-- cows that are home -/
def nhm (S : Int → Int) (n : Nat) : Nat := cntL (fun c => decide (S (11 + 2 * (c : Int)) = -1)) n
theorem cntL_con {p q : Nat → Bool} : ∀ k, (∀ i, i < k → p i = q i) → cntL p k = cntL q k := by
  intro k
  induction k with
  | zero => exact fun _ => rfl
  | succ k ih =>
    intro h
    unfold cntL
    rw [ih (fun i hi => h i (by omega)), h k (by omega)]
theorem cntL_one {p q : Nat → Bool} {j : Nat} : ∀ k, j < k → (∀ i, i < k → i ≠ j → p i = q i) → p j = true → q j = false → cntL p k = cntL q k + 1 := by
  intro k
  induction k with
  | zero => intro h; omega
  | succ k ih =>
    intro hj h h1 h2
    unfold cntL
    by_cases hk : k = j
    · subst hk
      rw [cntL_con k (fun i hi => h i (by omega) (by omega)), if_pos h1, if_neg (by rw [h2]; simp)]
    · rw [ih (by omega) (fun i hi => h i (by omega)) h1 h2, h k (by omega) hk]
      omega
theorem nhm_con {S S' : Int → Int} {n : Nat} (hn : n ≤ 5) (h : ∀ k, 11 ≤ k → k < 21 → S' k = S k) : nhm S' n = nhm S n := by
  unfold nhm
  exact cntL_con n (fun i hi => by rw [h _ (by omega) (by omega)])
/-- what a cow that goes adds to those that are home -/
def chm (S : Int → Int) (c : Int) : Int := if onw (HS S) (S (11 + 2 * c)) (S (12 + 2 * c)) = -1 then 0 else if gnS S c (onw (HS S) (S (11 + 2 * c)) (S (12 + 2 * c))) (11 + 2 * c) = -1 then 1 else 0
theorem wnS_n {f : Bool} {S : Int → Int} {n : Nat} {c : Nat} (h : RV S) (hn : n ≤ 5) (hc : c < n) (hh : S (11 + 2 * (c : Int)) ≠ -1) : (nhm (wnS f S (c : Nat)) n : Int) = nhm S n + chm S (c : Nat) := by
  have h10 : ∀ w, 0 ≤ gnS S (c : Nat) w 10 ∧ gnS S (c : Nat) w 10 ≤ 30 := fun w => by rw [gnS_k (by omega) (by omega)]; exact h.2.2.2.2.2.2.1
  unfold wnS chm
  by_cases hon : onw (HS S) (S (11 + 2 * (c : Int))) (S (12 + 2 * (c : Int))) = -1
  · rw [if_pos hon, if_pos hon]
    omega
  · rw [if_neg hon, if_neg hon]
    generalize onw (HS S) (S (11 + 2 * (c : Int))) (S (12 + 2 * (c : Int))) = w at *
    by_cases hg : gnS S (c : Nat) w (11 + 2 * (c : Int)) = -1
    · rw [if_pos hg, if_pos hg]
      have e1 : nhm (wrF f (gnS S (c : Nat) w) 1 (c : Nat)) n = nhm (gnS S (c : Nat) w) n := nhm_con hn (fun k h1 h2 => wrF_k (h10 w) (by omega) (by omega))
      have e2 : nhm (gnS S (c : Nat) w) n = nhm S n + 1 := by
        unfold nhm
        refine cntL_one (j := c) n hc (fun i hi hne => ?_) (by rw [decide_eq_true_eq]; exact hg) (by rw [decide_eq_false_iff_not]; exact hh)
        rw [gnS_k (by omega) (by omega)]
      rw [e1, e2]
      omega
    · rw [if_neg hg, if_neg hg]
      have e2 : nhm (gnS S (c : Nat) w) n = nhm S n := by
        unfold nhm
        refine cntL_con n (fun i hi => ?_)
        by_cases hic : i = c
        · subst hic
          rw [decide_eq_false hg, decide_eq_false hh]
        · rw [gnS_k (by omega) (by omega)]
      rw [e2]
      omega
theorem c_Mo_goOn {d : Nat} {m : Mm} {c : Int} (hV : RV (m 401)) (hc : 0 ≤ c ∧ c < m 401 1) (hh : m 401 (11 + 2 * c) ≠ -1) : ∃ m', Cl (d + 4) k_Mo_goOn [(18, 400), (0, c)] m (none, m') ∧ m' 401 = wnS (flg m) (m 401) c ∧ (-1000 ≤ m 400 25 ∧ m 400 25 < 1000000 → m' 400 25 = m 400 25 + chm (m 401) c) ∧ PM m m' := by
  have hV' := hV
  obtain ⟨h8, h9, h1, h6, h7, hrc, h10, h31⟩ := hV
  obtain ⟨r1, r2⟩ := hrc c hc.1 hc.2
  have hcell : cellI (m 401 (11 + 2 * c)) := by
    rcases r1 with q | q
    · exact absurd q hh
    · exact q
  have hO := c_Mo_onward (d := d) (m := m) h8 h9 hcell r2
  have hO' : Cl (d + 3) k_Mo_onward [(18, 400), (0, m 401 (11 + 2 * c)), (0, m 401 (12 + 2 * c))] m (some (0, onw (HS (m 401)) (m 401 (11 + 2 * c)) (m 401 (12 + 2 * c))), m) := hO
  unfold wnS chm
  by_cases hon : onw (HS (m 401)) (m 401 (11 + 2 * c)) (m 401 (12 + 2 * c)) = -1
  · rw [if_pos hon, if_pos hon]
    rw [hon] at hO'
    exact ⟨m, cl_Mo_goOn (b_Mo_goOn ⟨_, _, c_Mo_cellOf (by omega), _, _, c_Mo_wayOf (by omega), _, _, hO', fun z => absurd rfl z, fun _ => rfl⟩), rfl, fun _ => by omega, fun _ _ _ _ _ _ _ => rfl⟩
  · rw [if_neg hon, if_neg hon]
    obtain ⟨a1, a2, a3, a4⟩ := wnS_on hV' hc hh hon
    have hgo := c_Mo_goNow (d := d + 2) (m := m) (c := c) (w := onw (HS (m 401)) (m 401 (11 + 2 * c)) (m 401 (12 + 2 * c))) h31 (by omega) a3 hcell a4
    have hih := c_Mo_isHome (d := d + 2) (m := sr m 401 (gnS (m 401) c (onw (HS (m 401)) (m 401 (11 + 2 * c)) (m 401 (12 + 2 * c))))) (x := c) (by omega)
    rw [sr_eq] at hih
    have hV1 := RV_gn hV' hc hh a3 a4
    generalize onw (HS (m 401)) (m 401 (11 + 2 * c)) (m 401 (12 + 2 * c)) = w at *
    by_cases hg : gnS (m 401) c w (11 + 2 * c) = -1
    · rw [if_pos hg, if_pos hg]
      rw [if_pos hg] at hih
      obtain ⟨M, hM⟩ : ∃ M, M = up (sr m 401 (gnS (m 401) c w)) 400 25 (w32 (m 400 25 + 1)) := ⟨_, rfl⟩
      have r401 : M 401 = gnS (m 401) c w := by funext b; rw [hM, up_ne (by omega), sr_eq]
      have hfl : flg M = flg m := by unfold flg; rw [hM, up_nk (by omega), sr_ne (by omega)]
      have hwr := c_Mo_write (d := d + 3) (m := M) (w := 1) (k := c) (by rw [r401]; exact hV1) (by omega) (by omega)
      rw [r401, hfl] at hwr
      refine ⟨sr M 401 (wrF (flg m) (gnS (m 401) c w) 1 c), cl_Mo_goOn (b_Mo_goOn ⟨_, _, c_Mo_cellOf (by omega), _, _, c_Mo_wayOf (by omega), _, _, hO', fun _ => ⟨_, _, hgo, _, _, hih, fun _ => ?_, fun z => absurd (by decide) z⟩, fun z => absurd hon z⟩), sr_eq, ?_, ?_⟩
      · intro m6 hm6
        rw [sr_ne (by omega), ← hM] at hm6
        rw [hm6]
        exact ⟨_, hwr, rfl⟩
      · intro hq
        rw [sr_ne (by omega), hM, up_eq, w32n (by omega) (by omega)]
      · intro a b x y z w' v
        rw [sr_ne x, hM]
        by_cases ha : a = 400
        · rw [up_nk (by omega), sr_ne x]
        · rw [up_ne ha, sr_ne x]
    · rw [if_neg hg, if_neg hg]
      rw [if_neg hg] at hih
      exact ⟨_, cl_Mo_goOn (b_Mo_goOn ⟨_, _, c_Mo_cellOf (by omega), _, _, c_Mo_wayOf (by omega), _, _, hO', fun _ => ⟨_, _, hgo, _, _, hih, fun z => absurd rfl z, fun _ => rfl⟩, fun z => absurd hon z⟩), sr_eq, fun _ => by rw [sr_ne (by omega)]; omega, PM_sr⟩
def ok25 (x : Int) : Prop := -100 ≤ x ∧ x < 100000
/-- what stands by when an hour passes, the model's -/
def HY (m : Mm) (tx : Int) (Lf Lg : Option Ef) : Prop := TXL m tx Lf Lg
theorem HY_con {m m' : Mm} {tx : Int} {Lf Lg : Option Ef} (h : HY m tx Lf Lg) (hp : PM m m') : HY m' tx Lf Lg := TXL_con h (fun a b hab => hp _ _ (by omega) (by omega) (by omega) (by omega) (by omega))
theorem mo_cows {d : Nat} {tx : Int} {Lf Lg : Option Ef} {S : Int → Int} {f : Bool} {Φ : Mm → Prop} {m : Mm} (hY : HY m tx Lf Lg) (h3 : S 3 = tx) (hf : flg m = f) (hRV : RV S) (hk : ∀ M : Mm, M 401 = cwF Lg f S (S 1).toNat → (ok25 (m 400 25) → M 400 25 = m 400 25 + ((nhm (cwF Lg f S (S 1).toNat) (S 1).toNat : Int) - nhm S (S 1).toNat)) → PM m M → ∃ m', Ev (d + 6) K_Mo_pass 3 2 [(18, 400), (0, S 1)] [] M (none, m') ∧ Φ m') : ∀ (t k : Nat) (M : Mm), (k : Int) + t = S 1 → M 401 = cwF Lg f S k → (ok25 (m 400 25) → M 400 25 = m 400 25 + ((nhm (cwF Lg f S k) (S 1).toNat : Int) - nhm S (S 1).toNat)) → PM m M → ∃ m', Ev (d + 6) K_Mo_pass 3 2 [(18, 400), (0, (k : Nat))] [] M (none, m') ∧ Φ m' := by
  have h1 := hRV.2.2.1
  intro t
  induction t with
  | zero =>
    intro k M hkt he hc hp
    have hkk : (S 1).toNat = k := by omega
    rw [hkk] at hk hc
    rw [show S 1 = (k : Nat) by omega] at hk
    exact hk M he hc hp
  | succ t ih =>
    intro k M hkt he hcn hp
    obtain ⟨i1, i2⟩ := cwF_v (Lg := Lg) (f := f) hRV k (by omega)
    have e1 : cwF Lg f S k 1 = S 1 := i2 1 (by omega) (by omega)
    have e3 : cwF Lg f S k 3 = S 3 := i2 3 (by omega) (by omega)
    have i1' : RV (M 401) := by rw [he]; exact i1
    have hfl : flg M = f := by rw [flg_con hp, hf]
    have hcl := cntL_le (fun c => decide (cwF Lg f S k (11 + 2 * (c : Int)) = -1)) (S 1).toNat
    have hcl0 := cntL_le (fun c => decide (S (11 + 2 * (c : Int)) = -1)) (S 1).toNat
    have hih := c_Mo_isHome (d := d + 4) (m := M) (x := (k : Nat)) (by omega)
    rw [he] at hih
    by_cases hh : cwF Lg f S k (11 + 2 * (k : Nat)) = -1
    · rw [if_pos hh] at hih
      have hc : cwF Lg f S (k + 1) = cwF Lg f S k := by
        conv => lhs; unfold cwF
        rw [if_neg (fun z => z.1 hh)]
      obtain ⟨m', g1, g2⟩ := ih (k + 1) M (by omega) (by rw [hc]; exact he) (by rw [hc]; exact hcn) hp
      refine ⟨m', b_Mo_pass_2 ⟨fun z => by rw [he, e1] at z; omega, fun _ => ⟨_, _, hih, fun _ => ?_, fun z => absurd (by decide) z⟩⟩, g2⟩
      rw [w32s (by omega)]
      exact g1
    · rw [if_neg hh] at hih
      obtain ⟨r1, r2⟩ := i1.2.2.2.2.2.1 (k : Nat) (by omega) (by omega)
      have hcell : cellI (cwF Lg f S k (11 + 2 * (k : Nat))) := by
        rcases r1 with q | q
        · exact absurd q hh
        · exact q
      have hX : TXL M (M 401 3) Lf Lg := by
        rw [he, e3, h3]
        exact HY_con hY hp
      obtain ⟨M1, j1, j2⟩ := c_Mo_goesOf (d := d) (m := M) (c := (k : Nat)) i1'.1 i1'.2.1 i1'.2.2.2.1 hX (by omega) (by rw [he]; exact hcell) (by rw [he]; exact r2)
      rw [he] at j1
      have hp1 : PM m M1 := hp.tr (PM_g j2)
      have he1 : M1 401 = cwF Lg f S k := by funext b; rw [j2 _ _ (by omega) (by omega) (by omega), he]
      have hcn1 : M1 400 25 = M 400 25 := j2 _ _ (by omega) (by omega) (by omega)
      by_cases hgo : 0 < gov Lg (cwF Lg f S k) (k : Nat)
      · have hc : cwF Lg f S (k + 1) = wnS f (cwF Lg f S k) (k : Nat) := by
          conv => lhs; unfold cwF
          rw [if_pos ⟨hh, hgo⟩]
        unfold nhm at hcn
        obtain ⟨M2, w1, w2, w3, w4⟩ := c_Mo_goOn (d := d + 1) (m := M1) (c := (k : Nat)) (by rw [he1]; exact i1) (by rw [he1]; omega) (by rw [he1]; exact hh)
        rw [he1, flg_con hp1, hf] at w2
        rw [he1] at w3
        have hn := wnS_n (f := f) (S := cwF Lg f S k) (n := (S 1).toNat) (c := k) i1 (by omega) (by omega) hh
        obtain ⟨m', g1, g2⟩ := ih (k + 1) M2 (by omega) (by rw [hc]; exact w2) (fun hq => by
          have q := hcn hq
          unfold ok25 at hq
          have w := w3 (by rw [hcn1, q]; omega)
          rw [hc, hn, w, hcn1, q]
          unfold nhm
          omega) (hp1.tr w4)
        refine ⟨m', b_Mo_pass_2 ⟨fun z => by rw [he, e1] at z; omega, fun _ => ⟨_, _, hih, fun z => absurd rfl z, fun _ => ⟨_, _, j1, fun z => by omega, fun _ => ⟨_, w1, ?_⟩⟩⟩⟩, g2⟩
        rw [w32s (by omega)]
        exact g1
      · have hc : cwF Lg f S (k + 1) = cwF Lg f S k := by
          conv => lhs; unfold cwF
          rw [if_neg (fun z => hgo z.2)]
        obtain ⟨m', g1, g2⟩ := ih (k + 1) M1 (by omega) (by rw [hc]; exact he1) (by rw [hc, hcn1]; exact hcn) hp1
        refine ⟨m', b_Mo_pass_2 ⟨fun z => by rw [he, e1] at z; omega, fun _ => ⟨_, _, hih, fun z => absurd rfl z, fun _ => ⟨_, _, j1, fun _ => ?_, fun z => by omega⟩⟩⟩, g2⟩
        rw [w32s (by omega)]
        exact g1
theorem c_Mo_pass {d : Nat} {m : Mm} {Lf Lg : Option Ef} (hY : HY m (m 401 3) Lf Lg) (hRV : RV (m 401)) (h9 : m 401 6 < 9999) : ∃ m', Cl (d + 6) k_Mo_pass [(18, 400)] m (none, m') ∧ m' 401 = psS Lf Lg (flg m) (m 401) ∧ (ok25 (m 400 25) → m' 400 25 = m 400 25 + ((nhm (psS Lf Lg (flg m) (m 401)) (m 401 1).toNat : Int) - nhm (m 401) (m 401 1).toNat)) ∧ PM m m' := by
  have h1 := hRV.2.2.1
  have run := mo_cows (d := d) (m := m) (S := m 401) (f := flg m) (Φ := fun m' => m' 401 = psS Lf Lg (flg m) (m 401) ∧ (ok25 (m 400 25) → m' 400 25 = m 400 25 + ((nhm (psS Lf Lg (flg m) (m 401)) (m 401 1).toNat : Int) - nhm (m 401) (m 401 1).toNat)) ∧ PM m m') hY rfl rfl hRV (fun M he hcn hp => by
    obtain ⟨i1, i2⟩ := cwF_v (Lg := Lg) (f := flg m) hRV (m 401 1).toNat (by omega)
    have e1 : cwF Lg (flg m) (m 401) (m 401 1).toNat 1 = m 401 1 := i2 1 (by omega) (by omega)
    have e3 : cwF Lg (flg m) (m 401) (m 401 1).toNat 3 = m 401 3 := i2 3 (by omega) (by omega)
    have e6 : cwF Lg (flg m) (m 401) (m 401 1).toNat 6 = m 401 6 := cwF_6 hRV _ (by omega) 6 (by omega) (by omega)
    have hps : psS Lf Lg (flg m) (m 401) = frS Lf (flg m) (cwF Lg (flg m) (m 401) (m 401 1).toNat) := rfl
    rw [hps]
    generalize cwF Lg (flg m) (m 401) (m 401 1).toNat = T at *
    have hx := h40 i1
    have h7 := i1.2.2.2.2.1
    have i2' := RV_an i1
    have h72 := i2'.2.2.2.2.1
    have i3 := RV_an i2'
    obtain ⟨c1, c2, c3, c4⟩ := chS_v (S := anS (anS T)) i3.1 i3.2.1 hx
    have hdr := c_Mo_drawnBy (d := d + 4) (m := M) (n := 40) (by rw [he]; exact h7) (by omega)
    rw [he] at hdr
    have hth := c_Mo_isThere (d := d + 4) (m := sr M 401 (anS T)) (h := T 7 % 40) (by rw [sr_eq]; exact i2'.1) (by rw [sr_eq]; exact i2'.2.1) hx
    have hHM : HM (sr M 401 (anS T)) 401 (T 7 % 40) = HS (anS T) (T 7 % 40) := by unfold HM HS; rw [sr_eq]
    rw [hHM] at hth
    have fin : ∀ (M' : Mm) (U : Int → Int), M' 401 = U → RV U → U 6 = m 401 6 → (∀ k, 11 ≤ k → k < 21 → U k = T k) → M' 400 25 = M 400 25 → PM m M' → up M' 401 6 (w32 (M' 401 6 + 1)) 401 = hrS U ∧ (ok25 (m 400 25) → up M' 401 6 (w32 (M' 401 6 + 1)) 400 25 = m 400 25 + ((nhm (hrS U) (m 401 1).toNat : Int) - nhm (m 401) (m 401 1).toNat)) ∧ PM m (up M' 401 6 (w32 (M' 401 6 + 1))) := by
      intro M' U u1 u2 u3 u4 u5 u6
      have hu6 := u2.2.2.2.1
      refine ⟨?_, ?_, fun a b x y z w v => ?_⟩
      · rw [u1, w32n (by omega) (by omega), up_row, u1]
        rfl
      · intro hq
        rw [up_ne (by omega), u5, hcn hq]
        have : nhm (hrS U) (m 401 1).toNat = nhm T (m 401 1).toNat := by
          rw [nhm_con (S := U) (by omega) (fun k _ _ => hrS_k (by omega))]
          exact nhm_con (by omega) u4
        rw [this]
      · rw [up_ne x]; exact u6 a b x y z w v
    unfold frS
    by_cases hth' : HS (anS T) (T 7 % 40) = true
    · rw [if_pos hth'] at hth
      rw [if_pos hth']
      have hdr2 := c_Mo_drawnBy (d := d + 4) (m := sr M 401 (anS T)) (n := 10) (by rw [sr_eq]; exact h72) (by omega)
      rw [sr_eq, sr_sr] at hdr2
      have hp2 : PM m (sr M 401 (anS (anS T))) := hp.tr PM_sr
      have hX : TXL (sr M 401 (anS (anS T))) (sr M 401 (anS (anS T)) 401 3) Lf Lg := by
        rw [sr_eq, anS_k (by omega), anS_k (by omega), e3]
        exact HY_con hY hp2
      obtain ⟨M3, j1, j2⟩ := c_Mo_frostsOf (d := d) (m := sr M 401 (anS (anS T))) (h := T 7 % 40) (tx := sr M 401 (anS (anS T)) 401 3) (by rw [sr_eq]; exact i3.1) (by rw [sr_eq]; exact i3.2.1) (by rw [sr_eq]; exact i3.2.2.2.1) hX hx
      rw [sr_eq] at j1
      have he3 : M3 401 = anS (anS T) := by funext b; rw [j2 _ _ (by omega) (by omega) (by omega), sr_eq]
      have hp3 : PM m M3 := hp2.tr (PM_g j2)
      have h25' : M3 400 25 = M 400 25 := by rw [j2 _ _ (by omega) (by omega) (by omega), sr_ne (by omega)]
      by_cases hfr : anS T 7 % 10 < frv Lf (anS (anS T)) (T 7 % 40)
      · rw [if_pos hfr]
        have hch := c_Mo_change (d := d + 5) (m := M3) hx
        rw [he3] at hch
        have hfl : flg (sr M3 401 (chS (anS (anS T)) (T 7 % 40))) = flg m := flg_con (hp3.tr PM_sr)
        have hwr := c_Mo_write (d := d + 5) (m := sr M3 401 (chS (anS (anS T)) (T 7 % 40))) (w := 0) (k := T 7 % 40) (by rw [sr_eq]; exact RV_ch i3 hx) (by omega) hx
        rw [hfl, sr_eq, sr_sr] at hwr
        obtain ⟨z1, z2, z3⟩ := fin (sr M3 401 (wrF (flg m) (chS (anS (anS T)) (T 7 % 40)) 0 (T 7 % 40))) (wrF (flg m) (chS (anS (anS T)) (T 7 % 40)) 0 (T 7 % 40)) sr_eq (RV_wr (RV_ch i3 hx)) (by rw [wrF_k (RV_ch i3 hx).2.2.2.2.2.2.1 (by omega) (by omega), c3 _ (by omega) (by omega), anS_k (by omega), anS_k (by omega), e6]) (fun k _ _ => by rw [wrF_k (RV_ch i3 hx).2.2.2.2.2.2.1 (by omega) (by omega), c3 _ (by omega) (by omega), anS_k (by omega), anS_k (by omega)]) (by rw [sr_ne (by omega)]; exact h25') (hp3.tr PM_sr)
        refine ⟨_, b_Mo_pass_2 ⟨fun _ => ⟨_, _, hdr, _, _, hth, fun z => absurd z (by decide), fun _ => ⟨_, _, hdr2, ?_⟩⟩, fun z => absurd (by rw [he, e1]; omega) z⟩, z1, z2, z3⟩
        rw [sr_eq]
        refine ⟨_, _, j1, fun z => by omega, fun _ => ⟨_, hch, _, hwr, ?_⟩⟩
        rintro m9 rfl
        rfl
      · rw [if_neg hfr]
        obtain ⟨z1, z2, z3⟩ := fin M3 (anS (anS T)) he3 i3 (by rw [anS_k (by omega), anS_k (by omega), e6]) (fun k _ _ => by rw [anS_k (by omega), anS_k (by omega)]) h25' hp3
        refine ⟨_, b_Mo_pass_2 ⟨fun _ => ⟨_, _, hdr, _, _, hth, fun z => absurd z (by decide), fun _ => ⟨_, _, hdr2, ?_⟩⟩, fun z => absurd (by rw [he, e1]; omega) z⟩, z1, z2, z3⟩
        rw [sr_eq]
        refine ⟨_, _, j1, fun _ => ?_, fun z => by omega⟩
        rintro m6 rfl
        rfl
    · rw [if_neg hth'] at hth
      rw [if_neg hth']
      obtain ⟨z1, z2, z3⟩ := fin (sr M 401 (anS T)) (anS T) sr_eq i2' (by rw [anS_k (by omega), e6]) (fun k _ _ => by rw [anS_k (by omega)]) (by rw [sr_ne (by omega)]) (hp.tr PM_sr)
      refine ⟨_, b_Mo_pass_2 ⟨fun _ => ⟨_, _, hdr, _, _, hth, fun _ => ?_, fun z => absurd rfl z⟩, fun z => absurd (by rw [he, e1]; omega) z⟩, z1, z2, z3⟩
      rintro m3 rfl
      rfl) (m 401 1).toNat 0 m (by omega) rfl (fun _ => by unfold cwF; omega) (fun _ _ _ _ _ _ _ => rfl)
  obtain ⟨m', g1, g2⟩ := run
  exact ⟨m', cl_Mo_pass (b_Mo_pass g1), g2⟩
