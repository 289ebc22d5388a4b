/-! CELLS, WAYS, HEDGES: what the two sides answer, as functions of which hedges are there -/
def bey (c w : Int) : Int := if w = 0 then (if c < 5 then -1 else c - 5) else if w = 1 then (if c % 5 < 4 then c + 1 else -1) else if w = 2 then (if c < 20 then c + 5 else -1) else (if 0 < c % 5 then c - 1 else -1)
def hby (c w : Int) : Int := if w = 0 then (if c < 5 then -1 else 15 + c) else if w = 1 then (if c % 5 < 4 then c / 5 * 4 + c % 5 else -1) else if w = 2 then (if c < 20 then 20 + c else -1) else (if 0 < c % 5 then c / 5 * 4 + c % 5 - 1 else -1)
def cellI (c : Int) : Prop := 0 ≤ c ∧ c < 25
def wayI (w : Int) : Prop := 0 ≤ w ∧ w < 4
def hedI (h : Int) : Prop := 0 ≤ h ∧ h < 40
def opn (H : Int → Bool) (c w : Int) : Bool := decide (bey c w ≠ -1) && !H (hby c w)
/-- the open ways of a cell, the first k of them -/
def opw (H : Int → Bool) (c : Int) : Nat → Nat
  | 0 => 0
  | k + 1 => opw H c k + (if opn H c (k : Nat) then 2 ^ k else 0)
def arn (H : Int → Bool) (c : Int) : Nat → Int
  | 0 => 0
  | k + 1 => arn H c k + (if bey c (k : Nat) ≠ -1 ∧ H (hby c (k : Nat)) = true then 1 else 0)
theorem bey_hby {c w : Int} (hc : cellI c) : (bey c w = -1 ↔ hby c w = -1) ∧ (bey c w ≠ -1 → hedI (hby c w) ∧ cellI (bey c w)) := by
  unfold bey hby hedI cellI at *
  split
  · split <;> omega
  · split
    · split <;> omega
    · split
      · split <;> omega
      · split <;> omega
theorem c_Pl_cellBeyond {d : Nat} {m : Mm} {c w : Int} (hc : cellI c) (hw : wayI w) : Cl d k_Pl_cellBeyond [(0, c), (0, w)] m (some (0, bey c w), m) := by
  unfold cellI wayI at *
  have e1 : irm c 5 = c % 5 := irm_n (by omega) (by omega) (by omega) (by omega)
  refine cl_Pl_cellBeyond (b_Pl_cellBeyond ?_)
  rw [e1]
  unfold bey
  refine ⟨fun h0 => ⟨fun h => ?_, fun h => ?_⟩, fun h0 => ⟨fun h1 => ⟨fun h => ?_, fun h => ?_⟩, fun h1 => ⟨fun h2 => ⟨fun h => ?_, fun h => ?_⟩, fun h2 => ⟨fun h3 => ⟨fun h => ?_, fun h => ?_⟩, fun h3 => ?_⟩⟩⟩⟩
  · rw [if_pos h0, if_pos h]
  · rw [if_pos h0, if_neg h, w32n (by omega) (by omega)]
  · rw [if_neg h0, if_pos h1, if_neg (by omega)]
  · rw [if_neg h0, if_pos h1, if_pos (by omega), w32n (by omega) (by omega)]
  · rw [if_neg h0, if_neg h1, if_pos h2, if_neg (by omega)]
  · rw [if_neg h0, if_neg h1, if_pos h2, if_pos (by omega), w32n (by omega) (by omega)]
  · rw [if_neg h0, if_neg h1, if_neg h2, if_neg (by omega)]
  · rw [if_neg h0, if_neg h1, if_neg h2, if_pos (by omega), w32n (by omega) (by omega)]
  · omega
theorem c_Pl_hedgeBy {d : Nat} {m : Mm} {c w : Int} (hc : cellI c) (hw : wayI w) : Cl d k_Pl_hedgeBy [(0, c), (0, w)] m (some (0, hby c w), m) := by
  unfold cellI wayI at *
  have e1 : irm c 5 = c % 5 := irm_n (by omega) (by omega) (by omega) (by omega)
  have e2 : idv c 5 = c / 5 := idv_n (by omega) (by omega) (by omega) (by omega)
  have e3 : w32 (20 + c) = 20 + c := w32n (by omega) (by omega)
  have e4 : w32 (c / 5 * 4) = c / 5 * 4 := w32n (by omega) (by omega)
  have e5 : w32 (c / 5 * 4 + c % 5) = c / 5 * 4 + c % 5 := w32n (by omega) (by omega)
  refine cl_Pl_hedgeBy (b_Pl_hedgeBy ?_)
  rw [e1, e2, e3, e4, e5]
  unfold hby
  refine ⟨fun h0 => ⟨fun h => ?_, fun h => ?_⟩, fun h0 => ⟨fun h1 => ⟨fun h => ?_, fun h => ?_⟩, fun h1 => ⟨fun h2 => ⟨fun h => ?_, fun h => ?_⟩, fun h2 => ⟨fun h3 => ⟨fun h => ?_, fun h => ?_⟩, fun h3 => ?_⟩⟩⟩⟩
  · rw [if_pos h0, if_pos (by omega)]
  · rw [if_pos h0, if_neg (by omega), w32n (by omega) (by omega)]
    congr 3
    omega
  · rw [if_neg h0, if_pos h1, if_neg (by omega)]
  · rw [if_neg h0, if_pos h1, if_pos (by omega)]
  · rw [if_neg h0, if_neg h1, if_pos h2, if_neg (by omega)]
  · rw [if_neg h0, if_neg h1, if_pos h2, if_pos (by omega)]
  · rw [if_neg h0, if_neg h1, if_neg h2, if_neg (by omega)]
  · rw [if_neg h0, if_neg h1, if_neg h2, if_pos (by omega), w32n (by omega) (by omega)]
  · omega
theorem lcm_0 {a b : Int} : lcm a b = 0 ↔ a = b := by
  unfold lcm
  split
  · omega
  · split <;> omega
def hv40 (x : Int) : Prop := 0 ≤ x ∧ x < 1099511627776
theorem c_La_hasHedge {d : Nat} {m : Mm} {o h : Int} (hv : hv40 (m o 0)) : Cl d k_La_hasHedge [(13, o), (0, h)] m (some (0, if (0 ≤ h ∧ h < 40) ∧ bt_ (m o 0) h = true then 1 else 0), m) := by
  unfold hv40 at hv
  refine cl_La_hasHedge (b_La_hasHedge ⟨fun h0 => ?_, fun h0 => ⟨fun h1 => ?_, fun h1 => ?_⟩⟩)
  · rw [if_neg (by omega)]
  · rw [if_neg (by omega)]
  · have e := bit64 (x := m o 0) (k := h) ⟨by omega, by omega⟩ ⟨by omega, by omega⟩
    rw [e, lcm_0]
    by_cases hb : bt_ (m o 0) h = true
    · simp only [hb, if_true]
      refine ⟨fun z => absurd trivial z, fun _ => ?_⟩
      rw [if_pos ⟨⟨by omega, by omega⟩, trivial⟩]
    · simp only [hb, Bool.false_eq_true, if_false]
      refine ⟨fun _ => ?_, fun z => absurd (by omega) z⟩
      rw [if_neg (fun z => z.2)]
theorem c_La_isOpen {d : Nat} {m : Mm} {o c w : Int} (hv : hv40 (m o 0)) (hc : cellI c) (hw : wayI w) : Cl (d + 1) k_La_isOpen [(13, o), (0, c), (0, w)] m (some (0, if opn (bt_ (m o 0)) c w = true then 1 else 0), m) := by
  obtain ⟨q1, q2⟩ := bey_hby (w := w) hc
  refine cl_La_isOpen (b_La_isOpen ⟨_, _, c_Pl_hedgeBy hc hw, fun h => ?_, fun h => ⟨_, _, c_La_hasHedge hv, fun h2 => ?_, fun h2 => ?_⟩⟩)
  · have := q1.mpr h
    simp [opn, this]
  · have hb : bey c w ≠ -1 := fun z => h (q1.mp z)
    have := (q2 hb).1
    unfold hedI at this
    by_cases hx : bt_ (m o 0) (hby c w) = true
    · simp [opn, hx]
    · rw [if_neg (fun z => hx z.2)] at h2
      exact absurd rfl h2
  · have hb : bey c w ≠ -1 := fun z => h (q1.mp z)
    have := (q2 hb).1
    unfold hedI at this
    by_cases hx : bt_ (m o 0) (hby c w) = true
    · rw [if_pos ⟨this, hx⟩] at h2
      exact absurd (by omega) h2
    · simp [opn, hx, hb]
theorem opw_lt (H : Int → Bool) (c : Int) : ∀ k, opw H c k < 2 ^ k := by
  intro k
  induction k with
  | zero => simp [opw]
  | succ k ih =>
    unfold opw
    rw [Nat.pow_succ]
    split <;> omega
theorem or_pow {a k : Nat} (h : a < 2 ^ k) : a ||| 2 ^ k = a + 2 ^ k := by
  have := Nat.two_pow_add_eq_or_of_lt h 1
  rw [Nat.mul_one] at this
  rw [Nat.or_comm, ← this, Nat.add_comm]
theorem c_La_openWays {d : Nat} {m : Mm} {o c : Int} (hv : hv40 (m o 0)) (hc : cellI c) : Cl (d + 2) k_La_openWays [(13, o), (0, c)] m (some (0, (opw (bt_ (m o 0)) c 4 : Nat)), m) := by
  refine cl_La_openWays (b_La_openWays ?_)
  have key : ∀ (n k : Nat), k + n = 4 → Ev (d + 2) K_La_openWays 0 4 [(13, o), (0, c), (0, (opw (bt_ (m o 0)) c k : Nat)), (0, (k : Nat))] [] m (some (0, (opw (bt_ (m o 0)) c 4 : Nat)), m) := by
    intro n
    induction n with
    | zero =>
      intro k hk
      obtain rfl : k = 4 := by omega
      exact b_La_openWays_4 ⟨fun _ => rfl, fun h => absurd (by omega) h⟩
    | succ n ih =>
      intro k hk
      have e1 : w32 ((k : Int) + 1) = ((k + 1 : Nat) : Int) := by rw [w32n (by omega) (by omega)]; rfl
      refine b_La_openWays_4 ⟨fun h => by omega, fun _ => ⟨_, _, c_La_isOpen hv hc ⟨by omega, by omega⟩, fun h => ?_, fun h => ?_⟩⟩
      · rw [e1]
        have e2 : opw (bt_ (m o 0)) c (k + 1) = opw (bt_ (m o 0)) c k := by
          by_cases hx : opn (bt_ (m o 0)) c k = true
          · rw [if_pos hx] at h; omega
          · simp [opw, hx]
        rw [← e2]
        exact ih (k + 1) (by omega)
      · rw [e1]
        have e2 : iro ((opw (bt_ (m o 0)) c k : Nat) : Int) (isl 1 (k : Nat)) = ((opw (bt_ (m o 0)) c (k + 1) : Nat) : Int) := by
          have hx : opn (bt_ (m o 0)) c k = true := by
            by_cases hx : opn (bt_ (m o 0)) c k = true
            · exact hx
            · rw [if_neg hx] at h; exact absurd rfl h
          have h2 : 2 ^ k ≤ 8 := Nat.pow_le_pow_right (n := 2) (by omega) (show k ≤ 3 by omega)
          have e3 := isl_nat (a := 1) (k := k) (by omega) (by omega)
          rw [show ((1 : Nat) : Int) = 1 from rfl, Nat.one_mul] at e3
          have h3 := opw_lt (bt_ (m o 0)) c k
          rw [e3, iro_nat (by omega) (by omega), or_pow h3]
          simp [opw, hx]
        rw [e2]
        exact ih (k + 1) (by omega)
  exact key 4 0 rfl
