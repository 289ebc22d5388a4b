/-! THE SAME ON BOTH SIDES: tests of ranges, sets of bits, hedges, open ways -/
theorem c_Pl_isCell {d : Nat} {m : Mm} {c : Int} : Cl d k_Pl_isCell [(0, c)] m (some (0, if 0 ≤ c ∧ c < 25 then 1 else 0), m) :=
  cl_Pl_isCell (b_Pl_isCell ⟨fun h => by rw [if_neg (by omega)], fun h => ⟨fun h2 => by rw [if_neg (by omega)], fun h2 => by rw [if_pos (by omega)]⟩⟩)
theorem c_Pl_isWay {d : Nat} {m : Mm} {c : Int} : Cl d k_Pl_isWay [(0, c)] m (some (0, if 0 ≤ c ∧ c < 4 then 1 else 0), m) :=
  cl_Pl_isWay (b_Pl_isWay ⟨fun h => by rw [if_neg (by omega)], fun h => ⟨fun h2 => by rw [if_neg (by omega)], fun h2 => by rw [if_pos (by omega)]⟩⟩)
theorem c_Pl_isHedge {d : Nat} {m : Mm} {c : Int} : Cl d k_Pl_isHedge [(0, c)] m (some (0, if 0 ≤ c ∧ c < 40 then 1 else 0), m) :=
  cl_Pl_isHedge (b_Pl_isHedge ⟨fun h => by rw [if_neg (by omega)], fun h => ⟨fun h2 => by rw [if_neg (by omega)], fun h2 => by rw [if_pos (by omega)]⟩⟩)
theorem c_Mo_isIn {d : Nat} {m : Mm} {v lo hi : Int} : Cl d k_Mo_isIn [(0, v), (0, lo), (0, hi)] m (some (0, if lo ≤ v ∧ v ≤ hi then 1 else 0), m) :=
  cl_Mo_isIn (b_Mo_isIn ⟨fun h => by rw [if_neg (by omega)], fun h => ⟨fun h2 => by rw [if_neg (by omega)], fun h2 => by rw [if_pos (by omega)]⟩⟩)
theorem b01 {p : Prop} [Decidable p] : (if p then (1 : Int) else 0) = 0 ∨ (if p then (1 : Int) else 0) = 1 := by
  split
  · exact Or.inr rfl
  · exact Or.inl rfl
theorem ite_iff {p q : Prop} [Decidable p] [Decidable q] (h : p ↔ q) : (if p then (1 : Int) else 0) = if q then 1 else 0 := by
  by_cases hp : p
  · rw [if_pos hp, if_pos (h.mp hp)]
  · rw [if_neg hp, if_neg (fun z => hp (h.mpr z))]
theorem ite_z {p : Prop} [Decidable p] : (if p then (1 : Int) else 0) = 0 ↔ ¬ p := by
  by_cases hp : p
  · simp [hp]
  · simp [hp]
theorem c_Mo_isCell {d : Nat} {m : Mm} {c : Int} : Cl (d + 1) k_Mo_isCell [(0, c)] m (some (0, if 0 ≤ c ∧ c < 25 then 1 else 0), m) :=
  cl_Mo_isCell (b_Mo_isCell ⟨_, _, c_Mo_isIn, b01, by rw [ite_iff (p := 0 ≤ c ∧ c ≤ 24) (q := 0 ≤ c ∧ c < 25) (by omega)]⟩)
theorem c_Mo_isHedge {d : Nat} {m : Mm} {c : Int} : Cl (d + 1) k_Mo_isHedge [(0, c)] m (some (0, if 0 ≤ c ∧ c < 40 then 1 else 0), m) :=
  cl_Mo_isHedge (b_Mo_isHedge ⟨_, _, c_Mo_isIn, b01, by rw [ite_iff (p := 0 ≤ c ∧ c ≤ 39) (q := 0 ≤ c ∧ c < 40) (by omega)]⟩)
theorem c_Mo_size {d : Nat} {m : Mm} {x : Int} (h1 : -2147483647 ≤ x) (h2 : x ≤ 2147483647) : Cl d k_Mo_size [(0, x)] m (some (0, if 0 ≤ x then x else -x), m) :=
  cl_Mo_size (b_Mo_size ⟨fun h => by rw [if_pos h], fun h => by rw [if_neg h, w32n (by omega) (by omega)]⟩)
theorem c_Mo_has {d : Nat} {m : Mm} {s k : Int} (hs : 0 ≤ s ∧ s < 2147483648) (hk : 0 ≤ k ∧ k < 32) : Cl d k_Mo_has [(0, s), (0, k)] m (some (0, if bt_ s k = true then 1 else 0), m) := by
  refine cl_Mo_has (b_Mo_has ?_)
  rw [bit32 hs hk]
  by_cases hb : bt_ s k = true
  · simp [hb]
  · simp [hb]
theorem c_Mo_beside {d : Nat} {m : Mm} {c w : Int} (hc : cellI c) (hw : wayI w) : Cl d k_Mo_beside [(0, c), (0, w)] m (some (0, bey c w), m) := by
  unfold cellI wayI at *
  have e1 : irm c 5 = c % 5 := irm_n (by omega) (by omega) (by omega) (by omega)
  refine cl_Mo_beside (b_Mo_beside ?_)
  rw [e1]
  unfold bey
  refine ⟨fun h0 => ⟨fun h => ?_, fun h => ?_⟩, fun h0 => ⟨fun h1 => ⟨fun h => ?_, fun h => ?_⟩, fun h1 => ⟨fun h2 => ⟨fun h => ?_, fun h => ?_⟩, fun h2 => ⟨fun h => ?_, fun h => ?_⟩⟩⟩⟩
  · rw [if_pos h0, if_pos h]
  · rw [if_pos h0, if_neg h, w32n (by omega) (by omega)]
  · rw [if_neg h0, if_pos h1, if_neg (by omega)]
  · rw [if_neg h0, if_pos h1, if_pos (by omega), w32n (by omega) (by omega)]
  · rw [if_neg h0, if_neg h1, if_pos h2, if_neg (by omega)]
  · rw [if_neg h0, if_neg h1, if_pos h2, if_pos (by omega), w32n (by omega) (by omega)]
  · rw [if_neg h0, if_neg h1, if_neg h2, if_neg (by omega)]
  · rw [if_neg h0, if_neg h1, if_neg h2, if_pos (by omega), w32n (by omega) (by omega)]
theorem c_Mo_hedgeOf {d : Nat} {m : Mm} {c w : Int} (hc : cellI c) (hw : wayI w) (hb : bey c w ≠ -1) : Cl (d + 1) k_Mo_hedgeOf [(0, c), (0, bey c w)] m (some (0, hby c w), m) := by
  have hc2 := ((bey_hby (w := w) hc).2 hb).2
  have hrel : (w = 0 ∧ bey c w = c - 5 ∧ hby c w = 15 + c) ∨ (w = 1 ∧ bey c w = c + 1 ∧ hby c w = c / 5 * 4 + c % 5 ∧ c % 5 < 4) ∨ (w = 2 ∧ bey c w = c + 5 ∧ hby c w = 20 + c) ∨ (w = 3 ∧ bey c w = c - 1 ∧ hby c w = c / 5 * 4 + c % 5 - 1 ∧ 0 < c % 5) := by
    unfold cellI wayI at *
    have hw4 : w = 0 ∨ w = 1 ∨ w = 2 ∨ w = 3 := by omega
    rcases hw4 with rfl | rfl | rfl | rfl
    · by_cases h5 : c < 5
      · exact absurd (by simp [bey, h5]) hb
      · exact Or.inl ⟨rfl, by simp [bey, h5], by simp [hby, h5]⟩
    · by_cases h5 : c % 5 < 4
      · exact Or.inr (Or.inl ⟨rfl, by simp [bey, h5], by simp [hby, h5], h5⟩)
      · exact absurd (by simp [bey, h5]) hb
    · by_cases h5 : c < 20
      · exact Or.inr (Or.inr (Or.inl ⟨rfl, by simp [bey, h5], by simp [hby, h5]⟩))
      · exact absurd (by simp [bey, h5]) hb
    · by_cases h5 : 0 < c % 5
      · exact Or.inr (Or.inr (Or.inr ⟨rfl, by simp [bey, h5], by simp [hby, h5], h5⟩))
      · exact absurd (by simp [bey, h5]) hb
  generalize bey c w = e at *
  generalize hby c w = g at *
  unfold cellI at *
  have e1 : irm c 5 = c % 5 := irm_n (by omega) (by omega) (by omega) (by omega)
  have e2 : idv c 5 = c / 5 := idv_n (by omega) (by omega) (by omega) (by omega)
  have e3 : irm e 5 = e % 5 := irm_n (by omega) (by omega) (by omega) (by omega)
  have e4 : idv e 5 = e / 5 := idv_n (by omega) (by omega) (by omega) (by omega)
  have e5 : w32 (c - e) = c - e := w32n (by omega) (by omega)
  refine cl_Mo_hedgeOf (b_Mo_hedgeOf ?_)
  rw [e1, e2, e3, e4, e5]
  have z1 : w32 (20 + e) = 20 + e := w32n (by omega) (by omega)
  have z2 : w32 (20 + c) = 20 + c := w32n (by omega) (by omega)
  have z3 : w32 (4 * (e / 5)) = 4 * (e / 5) := w32n (by omega) (by omega)
  have z4 : w32 (4 * (c / 5)) = 4 * (c / 5) := w32n (by omega) (by omega)
  have z5 : w32 (4 * (e / 5) + e % 5) = 4 * (e / 5) + e % 5 := w32n (by omega) (by omega)
  have z6 : w32 (4 * (c / 5) + c % 5) = 4 * (c / 5) + c % 5 := w32n (by omega) (by omega)
  rw [z1, z2, z3, z4, z5, z6]
  refine ⟨fun h => ⟨_, _, c_Mo_size (by omega) (by omega), fun h2 => ?_, fun h2 => ?_⟩, fun h => ⟨_, _, c_Mo_size (by omega) (by omega), fun h2 => ?_, fun h2 => ?_⟩⟩
  · rw [if_pos (by omega)] at h2
    congr 3
    omega
  · rw [if_pos (by omega)] at h2
    congr 3
    omega
  · rw [if_neg (by omega)] at h2
    congr 3
    omega
  · rw [if_neg (by omega)] at h2
    congr 3
    omega
/-- the model's hedges, as a set -/
def HM (m : Mm) (A : Int) (h : Int) : Bool := if h < 20 then bt_ (m A 8) h else bt_ (m A 9) (h - 20)
def hv20 (x : Int) : Prop := 0 ≤ x ∧ x < 1048576
theorem c_Mo_isThere {d : Nat} {m : Mm} {h : Int} (h8 : hv20 (m 401 8)) (h9 : hv20 (m 401 9)) (hh : hedI h) : Cl (d + 1) k_Mo_isThere [(18, 400), (0, h)] m (some (0, if HM m 401 h = true then 1 else 0), m) := by
  unfold hv20 hedI at *
  refine cl_Mo_isThere (b_Mo_isThere ⟨fun h0 => ?_, fun h0 => ?_⟩)
  · rw [w32n (by omega) (by omega)]
    refine ⟨_, _, c_Mo_has ⟨by omega, by omega⟩ ⟨by omega, by omega⟩, b01, ?_⟩
    simp only [HM, if_neg (show ¬ h < 20 by omega)]
  · refine ⟨_, _, c_Mo_has ⟨by omega, by omega⟩ ⟨by omega, by omega⟩, b01, ?_⟩
    simp only [HM, if_pos (show h < 20 by omega)]
theorem c_Mo_isOpen {d : Nat} {m : Mm} {c w : Int} (h8 : hv20 (m 401 8)) (h9 : hv20 (m 401 9)) (hc : cellI c) (hw : wayI w) : Cl (d + 2) k_Mo_isOpen [(18, 400), (0, c), (0, w)] m (some (0, if opn (HM m 401) c w = true then 1 else 0), m) := by
  refine cl_Mo_isOpen (b_Mo_isOpen ⟨_, _, c_Mo_beside hc hw, fun h => ?_, fun h => ⟨_, _, c_Mo_beside hc hw, _, _, c_Mo_hedgeOf hc hw h, _, _, c_Mo_isThere h8 h9 ((bey_hby hc).2 h).1, fun h2 => ?_, fun h2 => ?_⟩⟩)
  · simp [opn, h]
  · by_cases hx : HM m 401 (hby c w) = true
    · simp [opn, hx]
    · rw [if_neg hx] at h2
      exact absurd rfl h2
  · by_cases hx : HM m 401 (hby c w) = true
    · rw [if_pos hx] at h2
      exact absurd (by omega) h2
    · simp [opn, hx, h]
theorem iro_0 {a : Nat} (ha : a < 2147483648) : iro (a : Int) 0 = a := by
  have := iro_nat (a := a) (b := 0) ha (by omega)
  rw [show ((0 : Nat) : Int) = 0 from rfl, Nat.or_zero] at this
  exact this
theorem iro_pow {a k : Nat} (h : a < 2 ^ k) (hk : k < 30) : iro (a : Int) (isl 1 (k : Nat)) = ((a + 2 ^ k : Nat) : Int) := by
  have h2 : 2 ^ k ≤ 2 ^ 29 := Nat.pow_le_pow_right (n := 2) (by omega) (by omega)
  have e3 := isl_nat (a := 1) (k := k) (by omega) (by omega)
  rw [show ((1 : Nat) : Int) = 1 from rfl, Nat.one_mul] at e3
  rw [e3, iro_nat (by omega) (by omega), or_pow h]
theorem c_Mo_openOf {d : Nat} {m : Mm} {c : Int} (h8 : hv20 (m 401 8)) (h9 : hv20 (m 401 9)) (hc : cellI c) : Cl (d + 3) k_Mo_openOf [(18, 400), (0, c)] m (some (0, (opw (HM m 401) c 4 : Nat)), m) := by
  refine cl_Mo_openOf (b_Mo_openOf ?_)
  have key : ∀ (n k : Nat), k + n = 4 → Ev (d + 3) K_Mo_openOf 0 4 [(18, 400), (0, c), (0, (opw (HM m 401) c k : Nat)), (0, (k : Nat))] [] m (some (0, (opw (HM m 401) c 4 : Nat)), m) := by
    intro n
    induction n with
    | zero =>
      intro k hk
      obtain rfl : k = 4 := by omega
      exact b_Mo_openOf_4 ⟨fun _ => rfl, fun h => absurd (by omega) h⟩
    | succ n ih =>
      intro k hk
      have e1 : w32 ((k : Int) + 1) = ((k + 1 : Nat) : Int) := by rw [w32n (by omega) (by omega)]; rfl
      have h3 := opw_lt (HM m 401) c k
      have h4 : 2 ^ k ≤ 8 := Nat.pow_le_pow_right (n := 2) (by omega) (show k ≤ 3 by omega)
      refine b_Mo_openOf_4 ⟨fun h => by omega, fun _ => ⟨_, _, c_Mo_isOpen h8 h9 hc ⟨by omega, by omega⟩, fun h => ?_, fun h => ?_⟩⟩
      · rw [e1, iro_0 (by omega)]
        have e2 : opw (HM m 401) c (k + 1) = opw (HM m 401) c k := by
          by_cases hx : opn (HM m 401) c k = true
          · rw [if_pos hx] at h; omega
          · simp [opw, hx]
        rw [← e2]
        exact ih (k + 1) (by omega)
      · rw [e1, iro_pow h3 (by omega)]
        have e2 : opw (HM m 401) c k + 2 ^ k = opw (HM m 401) c (k + 1) := by
          by_cases hx : opn (HM m 401) c k = true
          · simp [opw, hx]
          · rw [if_neg hx] at h; exact absurd rfl h
        rw [e2]
        exact ih (k + 1) (by omega)
  exact key 4 0 rfl
theorem arn_s (H : Int → Bool) (c : Int) (k : Nat) : arn H c (k + 1) = arn H c k + (if bey c (k : Nat) ≠ -1 ∧ H (hby c (k : Nat)) = true then 1 else 0) := rfl
theorem arn_le (H : Int → Bool) (c : Int) : ∀ k, 0 ≤ arn H c k ∧ arn H c k ≤ k := by
  intro k
  induction k with
  | zero => simp [arn]
  | succ k ih =>
    unfold arn
    split <;> omega
theorem c_La_around {d : Nat} {m : Mm} {o c : Int} (hv : hv40 (m o 0)) (hc : cellI c) : Cl (d + 1) k_La_around [(13, o), (0, c)] m (some (0, arn (bt_ (m o 0)) c 4), m) := by
  refine cl_La_around (b_La_around ?_)
  have key : ∀ (n k : Nat), k + n = 4 → Ev (d + 1) K_La_around 0 4 [(13, o), (0, c), (0, arn (bt_ (m o 0)) c k), (0, (k : Nat))] [] m (some (0, arn (bt_ (m o 0)) c 4), m) := by
    intro n
    induction n with
    | zero =>
      intro k hk
      obtain rfl : k = 4 := by omega
      exact b_La_around_4 ⟨fun _ => rfl, fun h => absurd (by omega) h⟩
    | succ n ih =>
      intro k hk
      have e1 : w32 ((k : Int) + 1) = ((k + 1 : Nat) : Int) := by rw [w32n (by omega) (by omega)]; rfl
      have h3 := arn_le (bt_ (m o 0)) c k
      obtain ⟨q1, q2⟩ := bey_hby (w := (k : Nat)) hc
      have q3 : (bey c (k : Nat) ≠ -1 ∧ bt_ (m o 0) (hby c (k : Nat)) = true) ↔ ((0 ≤ hby c (k : Nat) ∧ hby c (k : Nat) < 40) ∧ bt_ (m o 0) (hby c (k : Nat)) = true) := by
        constructor
        · intro z
          exact ⟨(q2 z.1).1, z.2⟩
        · intro z
          exact ⟨fun y => by have := q1.mp y; omega, z.2⟩
      refine b_La_around_4 ⟨fun h => by omega, fun _ => ⟨_, _, c_Pl_hedgeBy hc ⟨by omega, by omega⟩, _, _, c_La_hasHedge hv, fun h => ?_, fun h => ?_⟩⟩
      · rw [e1]
        have e2 : arn (bt_ (m o 0)) c (k + 1) = arn (bt_ (m o 0)) c k := by
          rw [arn_s]
          rw [if_neg, Int.add_zero]
          intro z
          rw [if_pos (q3.mp z)] at h
          omega
        rw [← e2]
        exact ih (k + 1) (by omega)
      · rw [e1, w32n (by omega) (by omega)]
        have e2 : arn (bt_ (m o 0)) c (k + 1) = arn (bt_ (m o 0)) c k + 1 := by
          rw [arn_s]
          rw [if_pos]
          by_cases z : (0 ≤ hby c (k : Nat) ∧ hby c (k : Nat) < 40) ∧ bt_ (m o 0) (hby c (k : Nat)) = true
          · exact q3.mpr z
          · rw [if_neg z] at h; exact absurd rfl h
        rw [← e2]
        exact ih (k + 1) (by omega)
  exact key 4 0 rfl
theorem c_Mo_aroundOf {d : Nat} {m : Mm} {c : Int} (h8 : hv20 (m 401 8)) (h9 : hv20 (m 401 9)) (hc : cellI c) : Cl (d + 3) k_Mo_aroundOf [(18, 400), (0, c)] m (some (0, arn (HM m 401) c 4), m) := by
  refine cl_Mo_aroundOf (b_Mo_aroundOf ?_)
  have key : ∀ (n k : Nat), k + n = 4 → Ev (d + 3) K_Mo_aroundOf 0 4 [(18, 400), (0, c), (0, arn (HM m 401) c k), (0, (k : Nat))] [] m (some (0, arn (HM m 401) c 4), m) := by
    intro n
    induction n with
    | zero =>
      intro k hk
      obtain rfl : k = 4 := by omega
      exact b_Mo_aroundOf_4 ⟨fun _ => rfl, fun h => absurd (by omega) h⟩
    | succ n ih =>
      intro k hk
      have e1 : w32 ((k : Int) + 1) = ((k + 1 : Nat) : Int) := by rw [w32n (by omega) (by omega)]; rfl
      have h3 := arn_le (HM m 401) c k
      have e0 : w32 (arn (HM m 401) c k + 0) = arn (HM m 401) c k := by rw [w32n (by omega) (by omega)]; omega
      refine b_Mo_aroundOf_4 ⟨fun h => by omega, fun _ => ⟨_, _, c_Mo_beside hc ⟨by omega, by omega⟩, fun h => ?_, fun h => ⟨_, _, c_Mo_isOpen h8 h9 hc ⟨by omega, by omega⟩, fun h2 => ?_, fun h2 => ?_⟩⟩⟩
      · rw [e1, e0]
        have e2 : arn (HM m 401) c (k + 1) = arn (HM m 401) c k := by
          rw [arn_s]
          rw [if_neg (fun z => z.1 h), Int.add_zero]
        rw [← e2]
        exact ih (k + 1) (by omega)
      · rw [e1, e0]
        have hx : opn (HM m 401) c k = true := by
          by_cases hx : opn (HM m 401) c k = true
          · exact hx
          · rw [if_neg hx] at h2; exact absurd rfl h2
        have e2 : arn (HM m 401) c (k + 1) = arn (HM m 401) c k := by
          rw [arn_s]
          rw [if_neg, Int.add_zero]
          intro z
          simp [opn, z.2] at hx
        rw [← e2]
        exact ih (k + 1) (by omega)
      · rw [e1, w32n (by omega) (by omega)]
        have hx : ¬ opn (HM m 401) c k = true := by
          intro hx
          rw [if_pos hx] at h2
          exact h2 (by omega)
        have e2 : arn (HM m 401) c (k + 1) = arn (HM m 401) c k + 1 := by
          rw [arn_s]
          rw [if_pos]
          refine ⟨h, ?_⟩
          simp only [opn, h, ne_eq, not_false_eq_true, decide_true, Bool.true_and, Bool.not_eq_true', Bool.not_eq_false] at hx
          exact hx
        rw [← e2]
        exact ih (k + 1) (by omega)
  exact key 4 0 rfl
/-! going round by the hedge -/
def onw (H : Int → Bool) (c w : Int) : Int := if opn H c ((w + 1) % 4) = true then (w + 1) % 4 else if opn H c w = true then w else if opn H c ((w + 3) % 4) = true then (w + 3) % 4 else if opn H c ((w + 2) % 4) = true then (w + 2) % 4 else -1
theorem opw_bit (H : Int → Bool) (c : Int) : ∀ (k j : Nat), (opw H c k).testBit j = (decide (j < k) && opn H c (j : Nat)) := by
  intro k
  induction k with
  | zero => intro j; simp [opw]
  | succ k ih =>
    intro j
    have hlt := opw_lt H c k
    unfold opw
    by_cases hx : opn H c (k : Nat) = true
    · rw [if_pos hx, ← or_pow hlt, Nat.testBit_or, ih, Nat.testBit_two_pow]
      by_cases hj : j = k
      · subst hj
        simp [hx]
      · have : (k = j) = False := by simp; omega
        by_cases h2 : j < k
        · have : j < k + 1 := by omega
          simp [h2, this, Ne.symm hj]
        · have : ¬ j < k + 1 := by omega
          simp [h2, this, Ne.symm hj]
    · rw [if_neg hx, Nat.add_zero, ih]
      by_cases hj : j = k
      · subst hj
        simp [hx]
      · by_cases h2 : j < k
        · have : j < k + 1 := by omega
          simp [h2, this]
        · have : ¬ j < k + 1 := by omega
          simp [h2, this]
theorem opw_bt (H : Int → Bool) {c w : Int} (hw : wayI w) : bt_ ((opw H c 4 : Nat) : Int) w = opn H c w := by
  unfold wayI at hw
  obtain ⟨j, rfl⟩ := Int.eq_ofNat_of_zero_le hw.1
  show (opw H c 4).testBit j = _
  rw [opw_bit, decide_eq_true (by omega), Bool.true_and]
/-- the static row of turns -/
def TRI (m : Mm) : Prop := m 501 0 = 1 ∧ m 501 1 = 0 ∧ m 501 2 = 3 ∧ m 501 3 = 2
theorem c_La_wayByHedge {d : Nat} {m : Mm} {o c w : Int} (hT : TRI m) (hv : hv40 (m o 0)) (hc : cellI c) (hw : wayI w) : Cl (d + 3) k_La_wayByHedge [(13, o), (0, c), (0, w)] m (some (0, onw (bt_ (m o 0)) c w), m) := by
  obtain ⟨t0, t1, t2, t3⟩ := hT
  have hw' := hw
  unfold wayI at hw
  have hlt := opw_lt (bt_ (m o 0)) c 4
  have rng : 0 ≤ ((opw (bt_ (m o 0)) c 4 : Nat) : Int) ∧ ((opw (bt_ (m o 0)) c 4 : Nat) : Int) < 2147483648 := by omega
  have stp : ∀ t : Int, 0 ≤ t → t ≤ 3 → irm (w32 (w + t)) 4 = (w + t) % 4 := fun t h1 h2 => by
    rw [w32n (by omega) (by omega), irm_n (by omega) (by omega) (by omega) (by omega)]
  have bit : ∀ n : Int, 0 ≤ n → n < 4 → (ian (isr ((opw (bt_ (m o 0)) c 4 : Nat) : Int) n) 1 = 1 ↔ opn (bt_ (m o 0)) c n = true) := fun n h1 h2 => by
    rw [bit32 rng ⟨h1, by omega⟩, opw_bt _ ⟨h1, h2⟩]
    split <;> simp_all
  refine cl_La_wayByHedge (b_La_wayByHedge ⟨_, _, c_La_openWays hv hc, ?_⟩)
  unfold onw
  refine b_La_wayByHedge_6 ⟨fun h => by omega, fun _ => ⟨⟨by omega, by omega⟩, fun h => ?_, fun h => ?_⟩⟩
  · rw [t0, stp 1 (by omega) (by omega), bit _ (by omega) (by omega)] at h
    rw [if_neg h, show w32 (0 + 1) = 1 from rfl]
    refine b_La_wayByHedge_6 ⟨fun h => by omega, fun _ => ⟨⟨by omega, by omega⟩, fun h => ?_, fun h => ?_⟩⟩
    · rw [t1, stp 0 (by omega) (by omega), bit _ (by omega) (by omega), show (w + 0) % 4 = w by omega] at h
      rw [if_neg h, show w32 (1 + 1) = 2 from rfl]
      refine b_La_wayByHedge_6 ⟨fun h => by omega, fun _ => ⟨⟨by omega, by omega⟩, fun h => ?_, fun h => ?_⟩⟩
      · rw [t2, stp 3 (by omega) (by omega), bit _ (by omega) (by omega)] at h
        rw [if_neg h, show w32 (2 + 1) = 3 from rfl]
        refine b_La_wayByHedge_6 ⟨fun h => by omega, fun _ => ⟨⟨by omega, by omega⟩, fun h => ?_, fun h => ?_⟩⟩
        · rw [t3, stp 2 (by omega) (by omega), bit _ (by omega) (by omega)] at h
          rw [if_neg h, show w32 (3 + 1) = 4 from rfl]
          exact b_La_wayByHedge_6 ⟨fun _ => rfl, fun h => absurd (by omega) h⟩
        · rw [t3, stp 2 (by omega) (by omega), bit _ (by omega) (by omega)] at h
          rw [if_pos (Classical.not_not.mp h), t3, stp 2 (by omega) (by omega)]
      · rw [t2, stp 3 (by omega) (by omega), bit _ (by omega) (by omega)] at h
        rw [if_pos (Classical.not_not.mp h), t2, stp 3 (by omega) (by omega)]
    · rw [t1, stp 0 (by omega) (by omega), bit _ (by omega) (by omega), show (w + 0) % 4 = w by omega] at h
      rw [if_pos (Classical.not_not.mp h), t1, stp 0 (by omega) (by omega), show (w + 0) % 4 = w by omega]
  · rw [t0, stp 1 (by omega) (by omega), bit _ (by omega) (by omega)] at h
    rw [if_pos (Classical.not_not.mp h), t0, stp 1 (by omega) (by omega)]
theorem c_Mo_onward {d : Nat} {m : Mm} {c w : Int} (h8 : hv20 (m 401 8)) (h9 : hv20 (m 401 9)) (hc : cellI c) (hw : wayI w) : Cl (d + 3) k_Mo_onward [(18, 400), (0, c), (0, w)] m (some (0, onw (HM m 401) c w), m) := by
  have hw' := hw
  unfold wayI at hw
  have stp : ∀ t : Int, 0 ≤ t → t ≤ 3 → irm (w32 (w + t)) 4 = (w + t) % 4 := fun t h1 h2 => by
    rw [w32n (by omega) (by omega), irm_n (by omega) (by omega) (by omega) (by omega)]
  have e1 := stp 1 (by omega) (by omega)
  have e2 := stp 2 (by omega) (by omega)
  have e3 := stp 3 (by omega) (by omega)
  refine cl_Mo_onward (b_Mo_onward ?_)
  rw [e1, e2, e3]
  unfold onw
  refine ⟨_, _, c_Mo_isOpen h8 h9 hc ⟨by omega, by omega⟩, fun h1 => ⟨_, _, c_Mo_isOpen h8 h9 hc hw', fun h2 => ⟨_, _, c_Mo_isOpen h8 h9 hc ⟨by omega, by omega⟩, fun h3 => ⟨_, _, c_Mo_isOpen h8 h9 hc ⟨by omega, by omega⟩, fun h4 => ?_, fun h4 => ?_⟩, fun h3 => ?_⟩, fun h2 => ?_⟩, fun h1 => ?_⟩
  · rw [ite_z] at h1 h2 h3 h4
    rw [if_neg h1, if_neg h2, if_neg h3, if_neg h4]
  · rw [ite_z] at h1 h2 h3 h4
    rw [if_neg h1, if_neg h2, if_neg h3, if_pos (Classical.not_not.mp h4)]
  · rw [ite_z] at h1 h2 h3
    rw [if_neg h1, if_neg h2, if_pos (Classical.not_not.mp h3)]
  · rw [ite_z] at h1 h2
    rw [if_neg h1, if_pos (Classical.not_not.mp h2)]
  · rw [ite_z] at h1
    rw [if_pos (Classical.not_not.mp h1)]
