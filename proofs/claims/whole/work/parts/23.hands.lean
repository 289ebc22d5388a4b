/-! HANDS TURNED: bits moved by a permutation of the 40 hedges -/
def fcell (h : Int) : Int := if h < 20 then h / 4 * 5 + h % 4 else h - 20
theorem c_Pl_firstCell {d : Nat} {m : Mm} {h : Int} (hh : hedI h) : Cl d k_Pl_firstCell [(0, h)] m (some (0, fcell h), m) := by
  unfold hedI at hh
  have e1 : irm h 4 = h % 4 := irm_n (by omega) (by omega) (by omega) (by omega)
  have e2 : idv h 4 = h / 4 := idv_n (by omega) (by omega) (by omega) (by omega)
  refine cl_Pl_firstCell (b_Pl_firstCell ⟨fun h0 => ?_, fun h0 => ?_⟩)
  · rw [fcell, if_neg (by omega), w32n (by omega) (by omega)]
  · rw [e1, e2, fcell, if_pos (by omega), w32n (x := h / 4 * 5) (by omega) (by omega), w32n (by omega) (by omega)]
theorem c_Mo_westOf {d : Nat} {m : Mm} {h : Int} (hh : hedI h) : Cl d k_Mo_westOf [(0, h)] m (some (0, fcell h), m) := by
  unfold hedI at hh
  have e1 : irm h 4 = h % 4 := irm_n (by omega) (by omega) (by omega) (by omega)
  have e2 : idv h 4 = h / 4 := idv_n (by omega) (by omega) (by omega) (by omega)
  refine cl_Mo_westOf (b_Mo_westOf ⟨fun h0 => ?_, fun h0 => ?_⟩)
  · rw [fcell, if_neg (by omega), w32n (by omega) (by omega)]
  · rw [e1, e2, fcell, if_pos (by omega), w32n (x := 5 * (h / 4)) (by omega) (by omega), w32n (by omega) (by omega), Int.mul_comm]
def scell (h : Int) : Int := fcell h + (if h < 20 then 1 else 5)
theorem fcell_in {h : Int} (hh : hedI h) : 0 ≤ fcell h ∧ scell h < 25 ∧ fcell h < scell h := by
  unfold hedI at hh
  unfold scell fcell
  split <;> omega
theorem c_Pl_secondCell {d : Nat} {m : Mm} {h : Int} (hh : hedI h) : Cl (d + 1) k_Pl_secondCell [(0, h)] m (some (0, scell h), m) := by
  have := fcell_in hh
  unfold scell at this
  refine cl_Pl_secondCell (b_Pl_secondCell ⟨_, _, c_Pl_firstCell hh, fun h0 => ?_, fun h0 => ?_⟩)
  · rw [if_neg (by omega)] at this
    rw [scell, if_neg (by omega), w32n (by omega) (by omega)]
  · rw [if_pos (by omega)] at this
    rw [scell, if_pos (by omega), w32n (by omega) (by omega)]
theorem c_Mo_eastOf {d : Nat} {m : Mm} {h : Int} (hh : hedI h) : Cl (d + 1) k_Mo_eastOf [(0, h)] m (some (0, scell h), m) := by
  have := fcell_in hh
  unfold scell at this
  refine cl_Mo_eastOf (b_Mo_eastOf ⟨_, _, c_Mo_westOf hh, fun h0 => ?_, fun h0 => ?_⟩)
  · rw [if_neg (by omega)] at this
    rw [scell, if_neg (by omega), w32n (by omega) (by omega)]
  · rw [if_pos (by omega)] at this
    rw [scell, if_pos (by omega), w32n (by omega) (by omega)]
def mirH (h : Int) : Int := if h < 20 then h - fcell h % 5 + (3 - fcell h % 5) else h - fcell h % 5 + (4 - fcell h % 5)
def quaH (h : Int) : Int := if h < 20 then 20 + fcell h % 5 * 5 + (4 - fcell h / 5) else fcell h % 5 * 4 + (3 - fcell h / 5)
theorem mq_in {h : Int} (hh : hedI h) : hedI (mirH h) ∧ hedI (quaH h) := by
  unfold hedI at *
  unfold mirH quaH fcell
  split <;> omega
theorem c_Ha_mirroredHedge {d : Nat} {m : Mm} {h : Int} (hh : hedI h) : Cl (d + 1) k_Ha_mirroredHedge [(0, h)] m (some (0, mirH h), m) := by
  have hf := fcell_in hh
  have hm := (mq_in hh).1
  unfold hedI at hh hm
  unfold mirH at hm ⊢
  have e1 : irm (fcell h) 5 = fcell h % 5 := irm_n (by omega) (by unfold scell at hf; split at hf <;> omega) (by omega) (by omega)
  refine cl_Ha_mirroredHedge (b_Ha_mirroredHedge ⟨_, _, c_Pl_firstCell hh, fun h0 => ?_, fun h0 => ?_⟩)
  · rw [if_neg (by omega)] at hm ⊢
    rw [e1, w32n (x := h - fcell h % 5) (by omega) (by omega), w32n (x := 4 - fcell h % 5) (by omega) (by omega), w32n (by omega) (by omega)]
  · rw [if_pos (by omega)] at hm ⊢
    rw [e1, w32n (x := h - fcell h % 5) (by omega) (by omega), w32n (x := 3 - fcell h % 5) (by omega) (by omega), w32n (by omega) (by omega)]
theorem c_Ha_quarterHedge {d : Nat} {m : Mm} {h : Int} (hh : hedI h) : Cl (d + 1) k_Ha_quarterHedge [(0, h)] m (some (0, quaH h), m) := by
  have hf := fcell_in hh
  have hm := (mq_in hh).2
  unfold hedI at hh hm
  unfold quaH at hm ⊢
  have hb : fcell h < 25 := by unfold scell at hf; split at hf <;> omega
  have e1 : irm (fcell h) 5 = fcell h % 5 := irm_n (by omega) (by omega) (by omega) (by omega)
  have e2 : idv (fcell h) 5 = fcell h / 5 := idv_n (by omega) (by omega) (by omega) (by omega)
  refine cl_Ha_quarterHedge (b_Ha_quarterHedge ⟨_, _, c_Pl_firstCell hh, fun h0 => ?_, fun h0 => ?_⟩)
  · rw [if_neg (by omega)] at hm ⊢
    rw [e1, e2, w32n (x := fcell h % 5 * 4) (by omega) (by omega), w32n (x := 3 - fcell h / 5) (by omega) (by omega), w32n (by omega) (by omega)]
  · rw [if_pos (by omega)] at hm ⊢
    rw [e1, e2, w32n (x := fcell h % 5 * 5) (by omega) (by omega), w32n (x := 20 + fcell h % 5 * 5) (by omega) (by omega), w32n (x := 4 - fcell h / 5) (by omega) (by omega), w32n (by omega) (by omega)]
/-- bits moved: the first k bits of x, each to its place by f -/
def mov (f : Int → Int) (x : Nat) : Nat → Nat
  | 0 => 0
  | k + 1 => if x.testBit k = true then mov f x k ||| 2 ^ (f (k : Nat)).toNat else mov f x k
theorem mov_lt {f : Int → Int} (hf : ∀ h, hedI h → hedI (f h)) (x : Nat) : ∀ k, k ≤ 40 → mov f x k < 2 ^ 40 := by
  intro k
  induction k with
  | zero => intro _; simp [mov]
  | succ k ih =>
    intro hk
    have h0 := ih (by omega)
    unfold mov
    split
    · have := hf (k : Nat) ⟨by omega, by omega⟩
      unfold hedI at this
      exact Nat.or_lt_two_pow h0 (Nat.pow_lt_pow_right (by omega) (by omega))
    · exact h0
theorem mov_bit {f : Int → Int} (x : Nat) : ∀ (k j : Nat), (mov f x k).testBit j = true ↔ ∃ i, i < k ∧ x.testBit i = true ∧ (f (i : Nat)).toNat = j := by
  intro k
  induction k with
  | zero => intro j; simp [mov]
  | succ k ih =>
    intro j
    unfold mov
    split
    · rename_i hx
      rw [Nat.testBit_or, Bool.or_eq_true, ih, Nat.testBit_two_pow]
      simp only [decide_eq_true_eq]
      constructor
      · rintro (⟨i, h1, h2, h3⟩ | h)
        · exact ⟨i, by omega, h2, h3⟩
        · exact ⟨k, by omega, hx, h⟩
      · rintro ⟨i, h1, h2, h3⟩
        by_cases hi : i = k
        · subst hi
          exact Or.inr h3
        · exact Or.inl ⟨i, by omega, h2, h3⟩
    · rename_i hx
      rw [ih]
      constructor
      · rintro ⟨i, h1, h2, h3⟩
        exact ⟨i, by omega, h2, h3⟩
      · rintro ⟨i, h1, h2, h3⟩
        by_cases hi : i = k
        · subst hi
          exact absurd h2 hx
        · exact ⟨i, by omega, h2, h3⟩
theorem lro_pow {a k : Nat} (h : a < 2 ^ 40) (hk : k < 40) : lro (a : Int) (lsl 1 (k : Nat)) = ((a ||| 2 ^ k : Nat) : Int) := by
  have h2 : 2 ^ k ≤ 2 ^ 39 := Nat.pow_le_pow_right (n := 2) (by omega) (by omega)
  have e3 := lsl_nat (a := 1) (k := k) (by omega) (by omega)
  rw [show ((1 : Nat) : Int) = 1 from rfl, Nat.one_mul] at e3
  rw [e3, lro_nat (by omega) (by omega)]
theorem lbit {n j : Nat} (hn : n < 2 ^ 40) (hj : j < 40) : lcm (lan (lsr (n : Int) (j : Nat)) 1) 1 = 0 ↔ n.testBit j = true := by
  rw [bit64 (x := (n : Int)) (k := (j : Nat)) ⟨by omega, by omega⟩ ⟨by omega, by omega⟩, lcm_0]
  show (if n.testBit j = true then (1 : Int) else 0) = 1 ↔ _
  split <;> simp_all
theorem c_Ha_mirrored {d : Nat} {m : Mm} {n : Nat} (hn : n < 2 ^ 40) : Cl (d + 2) k_Ha_mirrored [(1, (n : Int))] m (some (1, (mov mirH n 40 : Nat)), m) := by
  refine cl_Ha_mirrored (b_Ha_mirrored ?_)
  have hl := mov_lt (f := mirH) (fun h hh => (mq_in hh).1) n
  have key : ∀ (t k : Nat), k + t = 40 → Ev (d + 2) K_Ha_mirrored 1 4 [(1, (n : Int)), (9, 0), (1, (mov mirH n k : Nat)), (9, 0), (0, (k : Nat))] [] m (some (1, (mov mirH n 40 : Nat)), m) := by
    intro t
    induction t with
    | zero =>
      intro k hk
      obtain rfl : k = 40 := by omega
      exact b_Ha_mirrored_4 ⟨fun _ => rfl, fun h => absurd (by omega) h⟩
    | succ t ih =>
      intro k hk
      have e1 : w32 ((k : Int) + 1) = ((k + 1 : Nat) : Int) := by rw [w32n (by omega) (by omega)]; rfl
      have hm := (mq_in (h := (k : Nat)) ⟨by omega, by omega⟩).1
      unfold hedI at hm
      have hg := ih (k + 1) (by omega)
      refine b_Ha_mirrored_4 ⟨fun h => by omega, fun _ => ⟨fun h => ?_, fun h => ⟨_, _, c_Ha_mirroredHedge ⟨by omega, by omega⟩, ?_⟩⟩⟩
      · rw [lbit hn (by omega)] at h
        rw [e1]
        unfold mov at hg
        rw [if_neg h] at hg
        exact hg
      · rw [lbit hn (by omega), Classical.not_not] at h
        unfold mov at hg
        rw [if_pos h] at hg
        have e2 := lro_pow (a := mov mirH n k) (k := (mirH (k : Nat)).toNat) (hl k (by omega)) (by omega)
        rw [Int.toNat_of_nonneg hm.1] at e2
        rw [e1, e2]
        exact hg
  exact key 40 0 rfl
theorem c_Ha_quarterRight {d : Nat} {m : Mm} {n : Nat} (hn : n < 2 ^ 40) : Cl (d + 2) k_Ha_quarterRight [(1, (n : Int))] m (some (1, (mov quaH n 40 : Nat)), m) := by
  refine cl_Ha_quarterRight (b_Ha_quarterRight ?_)
  have hl := mov_lt (f := quaH) (fun h hh => (mq_in hh).2) n
  have key : ∀ (t k : Nat), k + t = 40 → Ev (d + 2) K_Ha_quarterRight 1 4 [(1, (n : Int)), (9, 0), (1, (mov quaH n k : Nat)), (9, 0), (0, (k : Nat))] [] m (some (1, (mov quaH n 40 : Nat)), m) := by
    intro t
    induction t with
    | zero =>
      intro k hk
      obtain rfl : k = 40 := by omega
      exact b_Ha_quarterRight_4 ⟨fun _ => rfl, fun h => absurd (by omega) h⟩
    | succ t ih =>
      intro k hk
      have e1 : w32 ((k : Int) + 1) = ((k + 1 : Nat) : Int) := by rw [w32n (by omega) (by omega)]; rfl
      have hm := (mq_in (h := (k : Nat)) ⟨by omega, by omega⟩).2
      unfold hedI at hm
      have hg := ih (k + 1) (by omega)
      refine b_Ha_quarterRight_4 ⟨fun h => by omega, fun _ => ⟨fun h => ?_, fun h => ⟨_, _, c_Ha_quarterHedge ⟨by omega, by omega⟩, ?_⟩⟩⟩
      · rw [lbit hn (by omega)] at h
        rw [e1]
        unfold mov at hg
        rw [if_neg h] at hg
        exact hg
      · rw [lbit hn (by omega), Classical.not_not] at h
        unfold mov at hg
        rw [if_pos h] at hg
        have e2 := lro_pow (a := mov quaH n k) (k := (quaH (k : Nat)).toNat) (hl k (by omega)) (by omega)
        rw [Int.toNat_of_nonneg hm.1] at e2
        rw [e1, e2]
        exact hg
  exact key 40 0 rfl
