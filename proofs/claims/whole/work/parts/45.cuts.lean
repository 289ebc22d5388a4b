/-! CUTS, WAYS, WHO IS HOME BY THEN -/
abbrev H0_ : Int → Bool := fun _ => false
theorem te0 : teS H0_ = 16236015 := by decide +kernel
theorem ts0 : tsS H0_ = 1048575 := by decide +kernel
theorem over_bits {s : Nat} (hs : s < 2 ^ 25) : s ||| (s &&& 16236015) * 2 ^ 1 ||| (s / 2 ^ 1 &&& 16236015) ||| (s * 2 ^ 5 &&& 33554431) ||| s / 2 ^ 5 = grw H0_ s := by
  rw [← grown_bits hs, te0, ts0]
  have e1 : s * 2 ^ 5 &&& 33554431 = (s &&& 1048575) * 2 ^ 5 := by
    refine bits_eq fun i => ?_
    rw [Nat.testBit_and, Nat.testBit_mul_two_pow, Nat.testBit_mul_two_pow, Nat.testBit_and, show (33554431 : Nat) = 2 ^ 25 - 1 from rfl, show (1048575 : Nat) = 2 ^ 20 - 1 from rfl, Nat.testBit_two_pow_sub_one, Nat.testBit_two_pow_sub_one]
    by_cases h5 : 5 ≤ i
    · by_cases h25 : i < 25
      · have : i - 5 < 20 := by omega
        simp [h5, h25, this]
      · have : ¬ i - 5 < 20 := by omega
        simp [h5, h25, this]
    · simp [h5]
  have e2 : s / 2 ^ 5 &&& 1048575 = s / 2 ^ 5 := by
    have : s / 2 ^ 5 < 2 ^ 20 := by omega
    rw [show (1048575 : Nat) = 2 ^ 20 - 1 from rfl, Nat.and_two_pow_sub_one_eq_mod, Nat.mod_eq_of_lt this]
  rw [e1, e2]
theorem c_Mz_grownOver {d : Nat} {m : Mm} {s : Nat} (hs : s < 2 ^ 25) : Cl d k_Mz_grownOver [(0, (s : Nat))] m (some (0, (grw H0_ s : Nat)), m) := by
  have a1 : s &&& 16236015 < 2 ^ 25 := Nat.lt_of_le_of_lt Nat.and_le_left hs
  have d1 : s / 2 ^ 1 < 2 ^ 25 := Nat.lt_of_le_of_lt (Nat.div_le_self _ _) hs
  have d2 : s / 2 ^ 5 < 2 ^ 25 := Nat.lt_of_le_of_lt (Nat.div_le_self _ _) hs
  have a3 : s / 2 ^ 1 &&& 16236015 < 2 ^ 25 := Nat.lt_of_le_of_lt Nat.and_le_left d1
  have m1 : (s &&& 16236015) * 2 ^ 1 < 2147483648 := mul_two_32 a1 (by omega)
  have m2 : s * 2 ^ 5 < 2147483648 := mul_two_32 hs (by omega)
  have a4 : s * 2 ^ 5 &&& 33554431 < 2147483648 := Nat.lt_of_le_of_lt Nat.and_le_left m2
  refine cl_Mz_grownOver (b_Mz_grownOver ?_)
  have e1 : isr ((s : Nat) : Int) 1 = ((s / 2 ^ 1 : Nat) : Int) := isr_nat (a := s) (k := 1) (by omega) (by omega)
  have e2 : isr ((s : Nat) : Int) 5 = ((s / 2 ^ 5 : Nat) : Int) := isr_nat (a := s) (k := 5) (by omega) (by omega)
  have e5 : ian ((s : Nat) : Int) 16236015 = ((s &&& 16236015 : Nat) : Int) := ian_nat (b := 16236015) (by omega) (by omega)
  have e6 : ian ((s / 2 ^ 1 : Nat) : Int) 16236015 = ((s / 2 ^ 1 &&& 16236015 : Nat) : Int) := ian_nat (b := 16236015) (by omega) (by omega)
  have e3 : isl ((s &&& 16236015 : Nat) : Int) 1 = (((s &&& 16236015) * 2 ^ 1 : Nat) : Int) := isl_nat (k := 1) (by omega) m1
  have e4 : isl ((s : Nat) : Int) 5 = ((s * 2 ^ 5 : Nat) : Int) := isl_nat (k := 5) (by omega) m2
  have e7 : ian ((s * 2 ^ 5 : Nat) : Int) 33554431 = ((s * 2 ^ 5 &&& 33554431 : Nat) : Int) := ian_nat (b := 33554431) m2 (by omega)
  have o1 := or_lt (k := 31) (show s < 2 ^ 31 by omega) (show (s &&& 16236015) * 2 ^ 1 < 2 ^ 31 by omega)
  have o2 := or_lt (k := 31) o1 (show s / 2 ^ 1 &&& 16236015 < 2 ^ 31 by omega)
  have o3 := or_lt (k := 31) o2 (show s * 2 ^ 5 &&& 33554431 < 2 ^ 31 by omega)
  rw [e1, e2, e5, e6, e3, e4, e7, iro_nat (a := s) (by omega) m1, iro_nat (a := s ||| (s &&& 16236015) * 2 ^ 1) o1 (by omega), iro_nat (a := s ||| (s &&& 16236015) * 2 ^ 1 ||| (s / 2 ^ 1 &&& 16236015)) o2 a4, iro_nat (a := s ||| (s &&& 16236015) * 2 ^ 1 ||| (s / 2 ^ 1 &&& 16236015) ||| (s * 2 ^ 5 &&& 33554431)) o3 (by omega), over_bits hs]
/-- what is come to by at most k cuts -/
def ctS (H : Int → Bool) (a : Nat) : Nat → Nat
  | 0 => rgn H a
  | k + 1 => cls H AL (grw H0_ (ctS H a k))
theorem ctS_lt {H : Int → Bool} {a : Nat} (ha : a < 25) : ∀ k, ctS H a k < 2 ^ 25 := by
  intro k
  cases k with
  | zero => exact rgn_lt ha
  | succ k => exact wth_lt grw_lt 25
theorem grw_base {H : Int → Bool} {s : Nat} (hs : s < 2 ^ 25) : sub_ s (grw H s) := fun i hi => grw_mem.mpr ⟨bit_lt hs hi, Or.inl hi⟩
theorem ctS_self {H : Int → Bool} {a : Nat} (ha : a < 25) : ∀ k, (ctS H a k).testBit a = true := by
  intro k
  induction k with
  | zero => exact rgn_self ha
  | succ k ih => exact wth_base grw_lt (sub_AL grw_lt) 25 a (grw_base (ctS_lt ha k) a ih)
theorem nz_of {s i : Nat} (h : s.testBit i = true) : s ≠ 0 := fun z => by rw [z, Nat.zero_testBit] at h; cases h
theorem ctS_nz {H : Int → Bool} {a : Nat} (ha : a < 25) (k : Nat) : grw H0_ (ctS H a k) ≠ 0 := nz_of (grw_base (ctS_lt ha k) a (ctS_self ha k))
theorem AL_mem {i : Nat} (h : i < 25) : AL.testBit i = true := by rw [AL_bit, decide_eq_true_eq]; exact h
theorem ctS_closed {H : Int → Bool} {a k c e : Nat} (ha : a < 25) (h : (ctS H a k).testBit c = true) (hn : nbr H c e) : (ctS H a k).testBit e = true := by
  have he : AL.testBit e = true := AL_mem (nbr_lt hn (bit_lt (ctS_lt ha k) h))
  cases k with
  | zero => exact cls_closed (p25 ha).1 (p25 ha).2.1 (p25 ha).2.2 h hn he
  | succ k => exact cls_closed grw_lt (sub_AL grw_lt) (ctS_nz ha k) h hn he
theorem nbr_0 {c w e : Nat} (hc : c < 25) (hw : w < 4) (he : bey (c : Nat) (w : Nat) = (e : Nat)) : nbr H0_ c e := by
  obtain ⟨e', h1, h2, h3⟩ := opn_nbr (H := H0_) hc hw (opn_iff.mpr ⟨by omega, by simp⟩)
  obtain rfl : e' = e := by omega
  exact h3
theorem FARS_1 {H : Int → Bool} {a : Nat} (ha : a < 25) : FARS H 1 a (fun k c => (ctS H a k).testBit c = true) := by
  obtain ⟨p1, p2, p3⟩ := p25 ha
  refine ⟨⟨ctS_self ha 0, fun k c h => ?_, fun k c w e hc hw he ho h => ?_, fun _ k c w e hc hw he h => ?_⟩, fun Q hQ => ?_⟩
  · exact wth_base grw_lt (sub_AL grw_lt) 25 c (grw_base (ctS_lt ha k) c h)
  · rw [if_neg (by omega)]
    obtain ⟨e', h1, h2, h3⟩ := opn_nbr hc hw ho
    obtain rfl : e' = e := by omega
    exact ctS_closed ha h h3
  · have hn := nbr_0 hc hw he
    exact wth_base grw_lt (sub_AL grw_lt) 25 e (grw_mem.mpr ⟨nbr_lt hn hc, Or.inr ⟨c, h, hn⟩⟩)
  · have step : ∀ (k s : Nat), s < 2 ^ 25 → (∀ c, s.testBit c = true → Q k c) → ∀ n c, (wth H AL s n).testBit c = true → Q k c := by
      intro k s hs h0 n
      induction n with
      | zero => exact h0
      | succ n ih =>
        intro c hc
        rw [wth_AL] at hc
        rcases (grw_mem.mp hc).2 with q | ⟨e, q1, q2⟩
        · exact ih c q
        · have he := bit_lt (wth_lt hs n) q1
          obtain ⟨w, w1, w2, w3⟩ := nbr_opn he q2
          have := hQ.2.2.1 k e w c he w1 w3 w2 (ih e q1)
          rw [if_neg (by omega)] at this
          exact this
    intro k
    induction k with
    | zero =>
      intro c h
      exact step 0 (2 ^ a) p1 (fun c hc => by rw [pow_mem] at hc; rw [hc]; exact hQ.1) 25 c h
    | succ k ih =>
      intro c h
      refine step (k + 1) (grw H0_ (ctS H a k)) grw_lt (fun c hc => ?_) 25 c h
      rcases (grw_mem.mp hc).2 with q | ⟨e, q1, q2⟩
      · exact hQ.2.1 k c (ih c q)
      · have he := bit_lt (ctS_lt ha k) q1
        obtain ⟨w, w1, w2, w3⟩ := nbr_opn he q2
        exact hQ.2.2.2 (by omega) k e w c he w1 w3 (ih e q1)
theorem grid_all : ∀ a, a < 25 → wth H0_ AL (2 ^ a) 8 = AL := by decide +kernel
theorem ctS_grid {H : Int → Bool} {a : Nat} (ha : a < 25) : ∀ k, sub_ (wth H0_ AL (2 ^ a) k) (ctS H a k) := by
  intro k
  induction k with
  | zero =>
    intro i hi
    have : i = a := pow_mem.mp hi
    rw [this]
    exact ctS_self ha 0
  | succ k ih =>
    intro i hi
    rw [wth_AL] at hi
    refine wth_base grw_lt (sub_AL grw_lt) 25 i ?_
    obtain ⟨h0, q⟩ := grw_mem.mp hi
    refine grw_mem.mpr ⟨h0, ?_⟩
    rcases q with q | ⟨c, q1, q2⟩
    · exact Or.inl (ih i q)
    · exact Or.inr ⟨c, ih c q1, q2⟩
def cto (H : Int → Bool) (a b : Nat) : Nat → Nat → Int
  | 0, _ => -1
  | t + 1, k => if (ctS H a k).testBit b = true then (k : Nat) else cto H a b t (k + 1)
theorem cto_v {H : Int → Bool} {a b : Nat} : ∀ t k, (∃ j, k ≤ j ∧ j < k + t ∧ (ctS H a j).testBit b = true) → ∃ v : Nat, cto H a b t k = (v : Nat) ∧ k ≤ v ∧ v < k + t ∧ (ctS H a v).testBit b = true ∧ ∀ j, k ≤ j → j < v → ¬ (ctS H a j).testBit b = true := by
  intro t
  induction t with
  | zero => rintro k ⟨j, h1, h2, _⟩; omega
  | succ t ih =>
    rintro k ⟨j, h1, h2, h3⟩
    unfold cto
    by_cases hb : (ctS H a k).testBit b = true
    · rw [if_pos hb]
      exact ⟨k, rfl, by omega, by omega, hb, fun j h1 h2 => by omega⟩
    · rw [if_neg hb]
      have hjk : j ≠ k := fun z => hb (by rw [← z]; exact h3)
      obtain ⟨v, q1, q2, q3, q4, q5⟩ := ih (k + 1) ⟨j, by omega, by omega, h3⟩
      refine ⟨v, q1, by omega, by omega, q4, fun j h1 h2 => ?_⟩
      by_cases hj : j = k
      · subst hj; exact hb
      · exact q5 j (by omega) h2
theorem c_Mz_cutsTo {d : Nat} {m : Mm} {H : Int → Bool} {a b : Nat} (hM : MZ m H) (ha : a < 25) (hb : b < 25) : Cl (d + 3) k_Mz_cutsTo [(14, 13), (0, (a : Nat)), (0, ((2 ^ b : Nat) : Int))] m (some (0, cto H a b 25 0), m) := by
  have pb := (p25 hb).1
  have key : ∀ (t k : Nat), k + t = 25 → Ev (d + 3) K_Mz_cutsTo 0 6 [(14, 13), (0, (a : Nat)), (0, ((2 ^ b : Nat) : Int)), (0, (ctS H a k : Nat)), (0, (k : Nat))] [] m (some (0, cto H a b t k), m) := by
    intro t
    induction t with
    | zero =>
      intro k hk
      obtain rfl : k = 25 := by omega
      exact b_Mz_cutsTo_6 ⟨fun _ => rfl, fun z => absurd (by omega) z⟩
    | succ t ih =>
      intro k hk
      have hl := ctS_lt (H := H) ha k
      refine b_Mz_cutsTo_6 ⟨fun z => by omega, fun _ => ?_⟩
      rw [ian_nat (by omega) (by omega)]
      have hz : (((ctS H a k &&& 2 ^ b : Nat) : Int) = 0) ↔ ¬ (ctS H a k).testBit b = true := by
        rw [← and_pow]
        omega
      rw [hz]
      unfold cto
      refine ⟨fun z => ⟨_, _, c_Mz_grownOver hl, _, _, c_Mz_flooded (A := AL) hM grw_lt (by decide), ?_⟩, fun z => ?_⟩
      · rw [if_neg z, w32s (by omega)]
        exact ih (k + 1) (by omega)
      · rw [Classical.not_not] at z
        rw [if_pos z]
  exact cl_Mz_cutsTo (b_Mz_cutsTo ⟨_, _, c_Mz_regionOf hM ha, key 25 0 rfl⟩)
theorem op_cuts {m : Mm} {x y : Int} (h : R m) : OP k_Th_cuts k_Mo_cuts 0 [(0, x), (0, y)] m := by
  obtain ⟨_, v8, v9, _⟩ := R_h h
  by_cases hx : 0 ≤ x ∧ x < 25
  · by_cases hy : 0 ≤ y ∧ y < 25
    · obtain ⟨a, rfl⟩ := Int.eq_ofNat_of_zero_le hx.1
      obtain ⟨b, rfl⟩ := Int.eq_ofNat_of_zero_le hy.1
      obtain ⟨m1, q1, q2, q3⟩ := c_Th_mazeNow (d := 117) h
      have e401 : m1 401 = m 401 := by funext b; exact q3 _ _ (by omega)
      obtain ⟨m2, p1, p2, p3⟩ := c_Mo_layFar (d := 116) (m := m1) (x := 1) (s := a) (by rw [e401]; exact v8) (by rw [e401]; exact v9) (Or.inr rfl) (FARS_1 (by omega)) (by omega)
      rw [HM_row e401] at p2
      obtain ⟨v, w1, w2, w3, w4, w5⟩ := cto_v (H := HM m 401) (a := a) (b := b) 25 0 ⟨8, by omega, by omega, ctS_grid (by omega) 8 b (by rw [grid_all a (by omega)]; exact AL_mem (by omega))⟩
      have hfar := FAR_at p2 (c := b) (v := v) (by omega) (by omega) w4 (fun k hk => w5 k (by omega) hk)
      refine OP_q h (v := (v : Nat)) (cl_Th_cuts (b_Th_cuts ⟨_, _, c_Pl_isCell, fun z => ?_, fun _ => ⟨_, _, c_Pl_isCell, fun _ => ⟨_, q1, ?_⟩, fun z => ?_⟩⟩)) (cl_Mo_cuts (b_Mo_cuts ⟨_, _, c_Mo_areCells, fun _ => ⟨_, p1, by omega, by rw [hfar]⟩, fun z => ?_⟩)) (SM_13 q3) (SM_411 p3)
      · rw [ite_z] at z; exact absurd hx z
      · rw [isl1 (by omega)]
        refine ⟨_, _, c_Mz_cutsTo q2 (by omega) (by omega), ?_⟩
        rw [w1]
      · rw [ite_z1] at z; exact absurd hy z
      · rw [ite_z1] at z; exact absurd ⟨hx, hy⟩ z
    · refine OP_e h (v := -1) (cl_Th_cuts (b_Th_cuts ⟨_, _, c_Pl_isCell, fun z => rfl, fun _ => ⟨_, _, c_Pl_isCell, fun z => ?_, fun z => rfl⟩⟩)) (cl_Mo_cuts (b_Mo_cuts ⟨_, _, c_Mo_areCells, fun z => ?_, fun z => rfl⟩))
      · rw [ite_z1] at z; exact absurd z hy
      · rw [ite_z1] at z; exact absurd z.2 hy
  · refine OP_e h (v := -1) (cl_Th_cuts (b_Th_cuts ⟨_, _, c_Pl_isCell, fun z => rfl, fun z => ?_⟩)) (cl_Mo_cuts (b_Mo_cuts ⟨_, _, c_Mo_areCells, fun z => ?_, fun z => rfl⟩))
    · rw [ite_z1] at z; exact absurd z hx
    · rw [ite_z1] at z; exact absurd z.1 hx
/-! WAYS -/
theorem bey_inj : ∀ c : Nat, c < 25 → ∀ w : Nat, w < 4 → ∀ v : Nat, v < 4 → bey ((c : Nat) : Int) ((w : Nat) : Int) ≠ -1 → bey ((c : Nat) : Int) ((w : Nat) : Int) = bey ((c : Nat) : Int) ((v : Nat) : Int) → w = v := by decide +kernel
theorem nbr_way {H : Int → Bool} {c w e : Nat} (hc : c < 25) (hw : w < 4) (he : bey (c : Nat) (w : Nat) = (e : Nat)) : nbr H c e ↔ opn H (c : Nat) (w : Nat) = true := by
  constructor
  · intro h
    obtain ⟨v, h1, h2, h3⟩ := nbr_opn hc h
    obtain rfl : w = v := bey_inj c hc w hw v h1 (by omega) (by omega)
    exact h2
  · intro h
    obtain ⟨e', h1, h2, h3⟩ := opn_nbr hc hw h
    obtain rfl : e' = e := by omega
    exact h3
/-- this way leads a mile nearer -/
def nrB (H : Int → Bool) (b c l w : Nat) : Bool := opn H (c : Nat) (w : Nat) && (wth H AL (2 ^ b) (l - 1)).testBit (bey (c : Nat) (w : Nat)).toNat
def nxw (H : Int → Bool) (b c l : Nat) : Nat → Nat → Int
  | 0, _ => -1
  | t + 1, w => if nrB H b c l w = true then (w : Nat) else nxw H b c l t (w + 1)
theorem nxw_v {H : Int → Bool} {b c l : Nat} : ∀ t w, (∃ j, w ≤ j ∧ j < w + t ∧ nrB H b c l j = true) → ∃ v : Nat, nxw H b c l t w = (v : Nat) ∧ w ≤ v ∧ v < w + t ∧ nrB H b c l v = true := by
  intro t
  induction t with
  | zero => rintro w ⟨j, h1, h2, _⟩; omega
  | succ t ih =>
    rintro w ⟨j, h1, h2, h3⟩
    unfold nxw
    by_cases hb : nrB H b c l w = true
    · rw [if_pos hb]
      exact ⟨w, rfl, by omega, by omega, hb⟩
    · rw [if_neg hb]
      have hjk : j ≠ w := fun z => hb (by rw [← z]; exact h3)
      obtain ⟨v, q1, q2, q3, q4⟩ := ih (w + 1) ⟨j, by omega, by omega, h3⟩
      exact ⟨v, q1, by omega, by omega, q4⟩
/-- a cell that is just l miles off -/
def offL (H : Int → Bool) (b c l : Nat) : Prop := c < 25 ∧ (wth H AL (2 ^ b) l).testBit c = true ∧ ∀ j, j < l → ¬ (wth H AL (2 ^ b) j).testBit c = true
theorem offL_n {H : Int → Bool} {b c l : Nat} (hb : b < 25) (h : offL H b c (l + 1)) : ∃ v e : Nat, nxw H b c (l + 1) 4 0 = (v : Nat) ∧ v < 4 ∧ bey (c : Nat) (v : Nat) = (e : Nat) ∧ offL H b e l ∧ opn H (c : Nat) (v : Nat) = true := by
  obtain ⟨h1, h2, h3⟩ := h
  have h2' := h2
  rw [wth_AL] at h2'
  obtain ⟨_, q⟩ := grw_mem.mp h2'
  have hex : ∃ j, 0 ≤ j ∧ j < 0 + 4 ∧ nrB H b c (l + 1) j = true := by
    rcases q with q | ⟨e, q1, q2⟩
    · exact absurd q (h3 l (by omega))
    · obtain ⟨w, w1, w2, w3⟩ := nbr_opn h1 (nbr_sym q2)
      refine ⟨w, by omega, by omega, ?_⟩
      unfold nrB
      rw [w2, w3, Bool.true_and, Nat.add_sub_cancel]
      exact q1
  obtain ⟨v, v1, v2, v3, v4⟩ := nxw_v 4 0 hex
  unfold nrB at v4
  rw [Bool.and_eq_true, Nat.add_sub_cancel] at v4
  obtain ⟨e, e1, e2, e3⟩ := opn_nbr h1 (by omega) v4.1
  rw [e1, Int.toNat_natCast] at v4
  refine ⟨v, e, v1, by omega, e1, ⟨e2, v4.2, fun j hj z => ?_⟩, v4.1⟩
  refine h3 (j + 1) (by omega) ?_
  rw [wth_AL]
  exact grw_mem.mpr ⟨h1, Or.inr ⟨e, z, nbr_sym e3⟩⟩
theorem c_Mz_wayNearer {d : Nat} {m : Mm} {H : Int → Bool} {b c l : Nat} (hM : MZ m H) (hb : b < 25) (hc : c < 25) (hl : 0 < l ∧ l < 100) : Cl (d + 2) k_Mz_wayNearer [(14, 13), (0, (c : Nat)), (0, ((2 ^ b : Nat) : Int)), (0, (l : Nat))] m (some (0, nxw H b c l 4 0), m) := by
  obtain ⟨p1, p2, p3⟩ := p25 hb
  obtain ⟨c1, c2, c3⟩ := p25 hc
  have hw := c_Mz_within (d := d) (m := m) (n := l - 1) hM p1 (by omega)
  have hlt := wth_lt (H := H) (A := AL) p1 (l - 1)
  have hgl := grw_lt (H := H) (s := 2 ^ c)
  have hcI : cellI ((c : Nat) : Int) := ⟨by omega, by omega⟩
  refine cl_Mz_wayNearer (b_Mz_wayNearer ?_)
  rw [w32n (by omega) (by omega), show ((l : Nat) : Int) - 1 = ((l - 1 : Nat) : Int) by omega]
  refine ⟨_, _, hw, ?_⟩
  have key : ∀ (t w : Nat) (u : Vv), w + t = 4 → Ev (d + 2) K_Mz_wayNearer 0 9 [(14, 13), (0, (c : Nat)), (0, ((2 ^ b : Nat) : Int)), (0, (l : Nat)), (0, (wth H AL (2 ^ b) (l - 1) : Nat)), (0, (w : Nat)), u] [] m (some (0, nxw H b c l t w), m) := by
    intro t
    induction t with
    | zero =>
      intro w u hw
      obtain rfl : w = 4 := by omega
      exact b_Mz_wayNearer_9 ⟨fun _ => rfl, fun z => absurd (by omega) z⟩
    | succ t ih =>
      intro w u hw
      have hwI : wayI ((w : Nat) : Int) := ⟨by omega, by omega⟩
      unfold nxw
      by_cases hbe : bey (c : Nat) (w : Nat) = -1
      · have hn : ¬ nrB H b c l w = true := by
          unfold nrB
          rw [Bool.and_eq_true]
          exact fun z => opn_bey z.1 hbe
        rw [if_neg hn]
        refine b_Mz_wayNearer_9 ⟨fun z => by omega, fun _ => ⟨_, _, c_Pl_cellBeyond hcI hwI, fun _ => ?_, fun z => absurd hbe z⟩⟩
        rw [w32s (by omega)]
        exact ih (w + 1) _ (by omega)
      · have he2 := ((bey_hby (c := (c : Int)) (w := (w : Int)) hcI).2 hbe).2
        unfold cellI at he2
        obtain ⟨e, he⟩ := Int.eq_ofNat_of_zero_le he2.1
        have hcb := c_Pl_cellBeyond (d := d + 1) (m := m) hcI hwI
        rw [he] at hcb
        have g1 := bit32 (x := ((wth H AL (2 ^ b) (l - 1) : Nat) : Int)) (k := (e : Nat)) (by omega) (by omega)
        have g2 := bit32 (x := ((grw H (2 ^ c) : Nat) : Int)) (k := (e : Nat)) (by omega) (by omega)
        have hec : e ≠ c := by
          intro z
          subst z
          rcases (show w = 0 ∨ w = 1 ∨ w = 2 ∨ w = 3 by omega) with q | q | q | q <;> subst q <;> simp only [bey] at he <;> split at he <;> omega
        have gn : bt_ ((grw H (2 ^ c) : Nat) : Int) (e : Nat) = true ↔ opn H (c : Nat) (w : Nat) = true := by
          rw [← nbr_way hc (by omega) he]
          show (grw H (2 ^ c)).testBit e = true ↔ _
          rw [grw_mem]
          constructor
          · rintro ⟨_, q | ⟨a, q1, q2⟩⟩
            · exact absurd (pow_mem.mp q) hec
            · rw [pow_mem] at q1
              rw [← q1]; exact q2
          · exact fun q => ⟨by omega, Or.inr ⟨c, pow_mem.mpr rfl, q⟩⟩
        have hnr : nrB H b c l w = true ↔ opn H (c : Nat) (w : Nat) = true ∧ bt_ ((wth H AL (2 ^ b) (l - 1) : Nat) : Int) (e : Nat) = true := by
          unfold nrB
          rw [Bool.and_eq_true, he, Int.toNat_natCast]
          exact Iff.rfl
        refine b_Mz_wayNearer_9 ⟨fun z => by omega, fun _ => ⟨_, _, hcb, fun z => by omega, fun _ => ?_⟩⟩
        rw [g1, isl1 (by omega)]
        by_cases hn : bt_ ((wth H AL (2 ^ b) (l - 1) : Nat) : Int) (e : Nat) = true
        · rw [if_pos hn]
          refine ⟨fun z => absurd rfl z, fun _ => ⟨_, _, c_Mz_grown hM c1, ?_⟩⟩
          rw [g2]
          by_cases ho : opn H (c : Nat) (w : Nat) = true
          · rw [if_pos (gn.mpr ho), if_pos (hnr.mpr ⟨ho, hn⟩)]
            exact ⟨fun z => absurd rfl z, fun _ => rfl⟩
          · rw [if_neg (fun z => ho (gn.mp z)), if_neg (fun z => ho (hnr.mp z).1), w32s (by omega)]
            exact ⟨fun _ => ih (w + 1) _ (by omega), fun z => absurd (by omega) z⟩
        · rw [if_neg hn, if_neg (fun z => hn (hnr.mp z).2), w32s (by omega)]
          exact ⟨fun _ => ih (w + 1) _ (by omega), fun z => absurd (by omega) z⟩
  exact key 4 0 _ rfl
/-- so many steps on: the last way -/
def wyS (H : Int → Bool) (b : Nat) : Nat → Nat → Nat → Int → Int
  | 0, _, _, s => s
  | t + 1, c, l, _ => wyS H b t (bey (c : Nat) (nxw H b c l 4 0)).toNat (l - 1) (nxw H b c l 4 0)
theorem cl_way {d : Nat} {m : Mm} {H : Int → Bool} {b : Nat} {x1 x3 x4 : Int} (hM : MZ m H) (hb : b < 25) (h3 : 0 ≤ x3 ∧ x3 < x4) (h4 : x4 < 25) : ∀ (t c l : Nat) (s : Int), (l : Int) = x4 - x3 - 1 + t → (t : Int) ≤ x3 + 1 → offL H b c l → Ev (d + 3) K_Th_way 0 29 [(17, 0), (0, x1), (0, (b : Nat)), (0, x3), (0, x4), (0, (c : Nat)), (0, s), (0, (l : Nat))] [] m (some (0, wyS H b t c l s), m) := by
  have e1 : w32 (w32 (x4 - x3) - 1) = x4 - x3 - 1 := by rw [w32n (x := x4 - x3) (by omega) (by omega), w32n (by omega) (by omega)]
  intro t
  induction t with
  | zero =>
    intro c l s hl ht ho
    refine b_Th_way_29 ⟨fun _ => rfl, fun z => absurd (by rw [e1]; omega) z⟩
  | succ t ih =>
    intro c l s hl ht ho
    obtain ⟨k, rfl⟩ : ∃ k, l = k + 1 := ⟨l - 1, by omega⟩
    obtain ⟨v, e, v1, v2, v3, v4, v5⟩ := offL_n hb ho
    have hc := ho.1
    have hcI : cellI ((c : Nat) : Int) := ⟨by omega, by omega⟩
    have hwI : wayI ((v : Nat) : Int) := ⟨by omega, by omega⟩
    have hcb := c_Pl_cellBeyond (d := d + 2) (m := m) hcI hwI
    rw [v3] at hcb
    have hwn := c_Mz_wayNearer (d := d) (m := m) hM hb hc (l := k + 1) (by omega)
    rw [v1] at hwn
    unfold wyS
    rw [v1, v3, Int.toNat_natCast, Nat.add_sub_cancel]
    refine b_Th_way_29 ⟨fun z => by rw [e1] at z; omega, fun _ => ⟨_, _, c_Pl_isCell, fun z => ?_, fun _ => ?_⟩⟩
    · rw [ite_z] at z; omega
    · rw [isl1 (by omega)]
      refine ⟨_, _, hwn, _, _, hcb, ?_⟩
      rw [w32n (by omega) (by omega), show ((k + 1 : Nat) : Int) + -1 = ((k : Nat) : Int) by omega]
      exact ih e k _ (by omega) (by omega) v4
theorem mo_way {d : Nat} {m : Mm} {b : Nat} {x1 x3 x4 : Int} (h8 : hv20 (m 401 8)) (h9 : hv20 (m 401 9)) (hF : FAR_ m (fun k c => (wth (HM m 401) AL (2 ^ b) k).testBit c = true)) (hb : b < 25) (h3 : 0 ≤ x3 ∧ x3 < x4) (h4 : x4 < 25) : ∀ (t c l : Nat) (s : Int) (k : Nat), (l : Int) = x4 - x3 - 1 + t → (k : Int) + t = x3 + 1 → offL (HM m 401) b c l → Ev (d + 3) K_Mo_way 0 20 [(18, 400), (0, x1), (0, (b : Nat)), (0, x3), (0, x4), (0, (c : Nat)), (0, s), (0, (k : Nat))] [] m (some (0, wyS (HM m 401) b t c l s), m) := by
  have hat : ∀ c l : Nat, offL (HM m 401) b c l → l < 1000000 → m 411 (c : Nat) = (l : Nat) := fun c l ho hl => FAR_at hF ho.1 hl ho.2.1 ho.2.2
  intro t
  induction t with
  | zero =>
    intro c l s k hl hk ho
    exact b_Mo_way_20 ⟨fun _ => rfl, fun z => absurd (by omega) z⟩
  | succ t ih =>
    intro c l s k hl hk ho
    obtain ⟨j, rfl⟩ : ∃ j, l = j + 1 := ⟨l - 1, by omega⟩
    obtain ⟨v, e, v1, v2, v3, v4, v5⟩ := offL_n hb ho
    have hc := ho.1
    have hcI : cellI ((c : Nat) : Int) := ⟨by omega, by omega⟩
    have hfc := hat c (j + 1) ho (by omega)
    unfold wyS
    refine b_Mo_way_20 ⟨fun z => by omega, fun _ => ?_⟩
    have key : ∀ (n w : Nat), w + n = 4 → w ≤ v → nxw (HM m 401) b c (j + 1) n w = (v : Nat) → Ev (d + 3) K_Mo_way 0 25 [(18, 400), (0, x1), (0, (b : Nat)), (0, x3), (0, x4), (0, (c : Nat)), (0, (w : Nat)), (0, (k : Nat))] [] m (some (0, wyS (HM m 401) b t (bey (c : Nat) (nxw (HM m 401) b c (j + 1) 4 0)).toNat (j + 1 - 1) (nxw (HM m 401) b c (j + 1) 4 0)), m) := by
      intro n
      induction n with
      | zero => intro w hw hwv hx; omega
      | succ n ihn =>
        intro w hw hwv hx
        have hwI : wayI ((w : Nat) : Int) := ⟨by omega, by omega⟩
        unfold nxw at hx
        by_cases hnr : nrB (HM m 401) b c (j + 1) w = true
        · rw [if_pos hnr] at hx
          obtain rfl : w = v := by omega
          have hbs := c_Mo_beside (d := d + 2) (m := m) hcI hwI
          rw [v3] at hbs
          have hfe := hat e j v4 (by omega)
          have he25 := v4.1
          refine b_Mo_way_25 ⟨_, _, c_Mo_isOpen h8 h9 hcI hwI, fun z => ?_, fun _ => ⟨_, _, hbs, by omega, by omega, fun _ => ⟨_, _, hbs, ?_⟩, fun z => ?_⟩⟩
          · rw [ite_z] at z; exact absurd v5 z
          · rw [w32s (by omega), v1, v3, Int.toNat_natCast, Nat.add_sub_cancel]
            exact ih e j _ (k + 1) (by omega) (by omega) v4
          · rw [hfe, hfc, w32n (by omega) (by omega)] at z
            omega
        · rw [if_neg hnr] at hx
          have hgo := ihn (w + 1) (by omega) (by
            rcases Nat.lt_or_ge w v with q | q
            · omega
            · obtain rfl : w = v := by omega
              exfalso
              apply hnr
              unfold nrB
              rw [v5, v3, Bool.true_and, Int.toNat_natCast, Nat.add_sub_cancel]
              exact v4.2.1) hx
          refine b_Mo_way_25 ⟨_, _, c_Mo_isOpen h8 h9 hcI hwI, fun _ => ?_, fun z => ?_⟩
          · rw [w32s (by omega)]; exact hgo
          · rw [ite_z1] at z
            obtain ⟨f, f1, f2, f3⟩ := opn_nbr hc (by omega) z
            have hbs := c_Mo_beside (d := d + 2) (m := m) hcI hwI
            rw [f1] at hbs
            refine ⟨_, _, hbs, by omega, by omega, fun z2 => ?_, fun _ => ?_⟩
            · rw [hfc, w32n (by omega) (by omega)] at z2
              have := ((hF f f2).2 j (by omega)).mp (by omega)
              exfalso
              apply hnr
              unfold nrB
              rw [z, f1, Bool.true_and, Int.toNat_natCast, Nat.add_sub_cancel]
              exact this
            · rw [w32s (by omega)]; exact hgo
    exact key 4 0 rfl (by omega) v1
theorem op_way {m : Mm} {x y i : Int} (h : R m) : OP k_Th_way k_Mo_way 0 [(0, x), (0, y), (0, i)] m := by
  obtain ⟨_, v8, v9, _⟩ := R_h h
  by_cases hxy : (0 ≤ x ∧ x < 25) ∧ 0 ≤ y ∧ y < 25
  · obtain ⟨hx, hy⟩ := hxy
    obtain ⟨a, rfl⟩ := Int.eq_ofNat_of_zero_le hx.1
    obtain ⟨b, rfl⟩ := Int.eq_ofNat_of_zero_le hy.1
    obtain ⟨m1, q1, q2, q3⟩ := c_Th_mazeNow (d := 117) h
    have e401 : m1 401 = m 401 := by funext b; exact q3 _ _ (by omega)
    have nx : ¬ (if 0 ≤ ((a : Nat) : Int) ∧ ((a : Nat) : Int) < 25 then (1 : Int) else 0) = 0 := by rw [ite_z1]; exact hx
    have ny : ¬ (if 0 ≤ ((b : Nat) : Int) ∧ ((b : Nat) : Int) < 25 then (1 : Int) else 0) = 0 := by rw [ite_z1]; exact hy
    have hmt := c_Mz_milesTo (d := 118) (m := m1) (a := a) (b := b) q2 (by omega) (by omega)
    rcases mls_v (H := HM m 401) (a := a) (b := b) (by omega) with ⟨z1, z2⟩ | ⟨v, z1, z2, z3, z4⟩
    · by_cases hi : 0 ≤ i
      · obtain ⟨m2, p1, p2, p3⟩ := c_Mo_miles (d := 115) (m := m1) (a := a) (b := b) (by rw [e401]; exact v8) (by rw [e401]; exact v9) (by omega) (by omega)
        rw [HM_row e401, z1] at p1
        rw [z1] at hmt
        refine OP_q h (v := -2) (cl_Th_way (b_Th_way ⟨_, _, c_Pl_isCell, fun z => absurd z nx, fun _ => ⟨_, _, c_Pl_isCell, fun z => absurd z ny, fun _ => ⟨fun _ => ⟨_, q1, ?_⟩, fun z => absurd hi z⟩⟩⟩)) (cl_Mo_way (b_Mo_way ⟨_, _, p1, _, _, c_Mo_isIn, fun z => ?_, fun _ => rfl⟩)) (SM_13 q3) (SM_411 p3)
        · rw [isl1 (by omega)]
          exact ⟨_, _, hmt, fun z => by omega, fun _ => rfl⟩
        · rw [ite_z1, w32n (by omega) (by omega)] at z; omega
      · obtain ⟨m2, p1, p2, p3⟩ := c_Mo_miles (d := 115) (m := m) (a := a) (b := b) v8 v9 (by omega) (by omega)
        refine OP_q h (v := -2) (m1 := m) (cl_Th_way (b_Th_way ⟨_, _, c_Pl_isCell, fun _ => rfl, fun _ => ⟨_, _, c_Pl_isCell, fun _ => rfl, fun _ => ⟨fun z => absurd z hi, fun _ => rfl⟩⟩⟩)) (cl_Mo_way (b_Mo_way ⟨_, _, p1, _, _, c_Mo_isIn, fun z => ?_, fun _ => rfl⟩)) SM_refl (SM_411 p3)
        rw [ite_z1] at z; omega
    · by_cases hi : 0 ≤ i
      · obtain ⟨m2, p1, p2, p3⟩ := c_Mo_miles (d := 115) (m := m1) (a := a) (b := b) (by rw [e401]; exact v8) (by rw [e401]; exact v9) (by omega) (by omega)
        rw [HM_row e401] at p1 p2
        rw [z1] at hmt p1
        by_cases hiv : i < v
        · obtain ⟨k, rfl⟩ := Int.eq_ofNat_of_zero_le hi
          have e402 : m2 401 = m 401 := by funext b; rw [p3 _ _ (by omega), e401]
          have hof : offL (HM m 401) b a v := ⟨by omega, (wth_sym (by omega) (by omega)).mp z3, fun j hj z => z4 j hj ((wth_sym (by omega) (by omega)).mp z)⟩
          have g1 := cl_way (d := 117) (x1 := (a : Nat)) (x3 := (k : Nat)) (x4 := (v : Nat)) q2 (show b < 25 by omega) (by omega) (by omega) (k + 1) a v (-2) (by omega) (by omega) hof
          have g2 := mo_way (d := 117) (m := m2) (b := b) (x1 := (a : Nat)) (x3 := (k : Nat)) (x4 := (v : Nat)) (by rw [e402]; exact v8) (by rw [e402]; exact v9) (by rw [HM_row e402]; exact p2) (by omega) (by omega) (by omega) (k + 1) a v 0 0 (by omega) (by omega) (by rw [HM_row e402]; exact hof)
          rw [HM_row e402] at g2
          refine OP_q h (cl_Th_way (b_Th_way ⟨_, _, c_Pl_isCell, fun z => ?_, fun _ => ⟨_, _, c_Pl_isCell, fun z => ?_, fun _ => ⟨fun _ => ⟨_, q1, ?_⟩, fun z => absurd hi z⟩⟩⟩)) (cl_Mo_way (b_Mo_way ⟨_, _, p1, _, _, c_Mo_isIn, fun _ => g2, fun z => ?_⟩)) (SM_13 q3) (SM_411 p3)
          · rw [ite_z] at z; exact absurd hx z
          · rw [ite_z] at z; exact absurd hy z
          · rw [isl1 (by omega)]
            exact ⟨_, _, hmt, fun _ => g1, fun z => absurd hiv z⟩
          · rw [ite_z1, w32n (by omega) (by omega)] at z; omega
        · refine OP_q h (v := -2) (cl_Th_way (b_Th_way ⟨_, _, c_Pl_isCell, fun z => absurd z nx, fun _ => ⟨_, _, c_Pl_isCell, fun z => absurd z ny, fun _ => ⟨fun _ => ⟨_, q1, ?_⟩, fun z => absurd hi z⟩⟩⟩)) (cl_Mo_way (b_Mo_way ⟨_, _, p1, _, _, c_Mo_isIn, fun z => ?_, fun _ => rfl⟩)) (SM_13 q3) (SM_411 p3)
          · rw [isl1 (by omega)]
            exact ⟨_, _, hmt, fun z => absurd z hiv, fun _ => rfl⟩
          · rw [ite_z1, w32n (by omega) (by omega)] at z; omega
      · obtain ⟨m2, p1, p2, p3⟩ := c_Mo_miles (d := 115) (m := m) (a := a) (b := b) v8 v9 (by omega) (by omega)
        refine OP_q h (v := -2) (m1 := m) (cl_Th_way (b_Th_way ⟨_, _, c_Pl_isCell, fun _ => rfl, fun _ => ⟨_, _, c_Pl_isCell, fun _ => rfl, fun _ => ⟨fun z => absurd z hi, fun _ => rfl⟩⟩⟩)) (cl_Mo_way (b_Mo_way ⟨_, _, p1, _, _, c_Mo_isIn, fun z => ?_, fun _ => rfl⟩)) SM_refl (SM_411 p3)
        rw [ite_z1] at z; omega
  · have hmm : Cl 119 k_Mo_miles [(18, 400), (0, x), (0, y)] m (some (0, -1), m) := by
      refine cl_Mo_miles (b_Mo_miles ⟨_, _, c_Mo_areCells, fun z => ?_, fun _ => rfl⟩)
      rw [ite_z1] at z
      exact absurd z hxy
    refine OP_e h (v := -2) (cl_Th_way (b_Th_way ⟨_, _, c_Pl_isCell, fun _ => rfl, fun z => ⟨_, _, c_Pl_isCell, fun _ => rfl, fun z2 => ?_⟩⟩)) (cl_Mo_way (b_Mo_way ⟨_, _, hmm, _, _, c_Mo_isIn, fun z => ?_, fun _ => rfl⟩))
    · rw [ite_z1] at z z2
      exact absurd ⟨z, z2⟩ hxy
    · rw [ite_z1, w32n (by omega) (by omega)] at z; omega
