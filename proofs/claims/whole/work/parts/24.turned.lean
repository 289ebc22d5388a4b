/-! HANDS TURNED: the eight turns, the class's kept patterns -/
/-- a row of cells written anew -/
def fil (m : Mm) (o p n : Int) (f : Int → Int) : Mm := fun a b => if a = o ∧ p ≤ b ∧ b < p + n then f (b - p) else m a b
theorem fil_0 {m : Mm} {o p : Int} {f : Int → Int} : fil m o p 0 f = m := by
  funext a b
  unfold fil
  rw [if_neg (by omega)]
theorem fil_up {m : Mm} {o p q : Int} {f : Int → Int} {k : Nat} {v : Int} (hq : q = p + k) (hv : v = f k) : up (fil m o p k f) o q v = fil m o p ((k + 1 : Nat) : Int) f := by
  subst hq hv
  funext a b
  unfold up fil
  by_cases h : a = o ∧ b = p + k
  · obtain ⟨rfl, rfl⟩ := h
    rw [if_pos ⟨rfl, rfl⟩, if_pos ⟨rfl, by omega, by omega⟩, show p + (k : Int) - p = k by omega]
  · rw [if_neg h]
    by_cases h2 : a = o ∧ p ≤ b ∧ b < p + k
    · rw [if_pos h2, if_pos ⟨h2.1, h2.2.1, by omega⟩]
    · rw [if_neg h2, if_neg]
      rintro ⟨h3, h4, h5⟩
      exact h2 ⟨h3, h4, Classical.byContradiction fun h6 => h ⟨h3, by omega⟩⟩
theorem fil_ne {m : Mm} {o p n a b : Int} {f : Int → Int} (h : a ≠ o) : fil m o p n f a b = m a b := by
  unfold fil
  rw [if_neg (fun z => h z.1)]
theorem fil_out {m : Mm} {o p n a b : Int} {f : Int → Int} (h : b < p ∨ p + n ≤ b) : fil m o p n f a b = m a b := by
  unfold fil
  rw [if_neg (fun z => by omega)]
theorem fil_in {m : Mm} {o p n b : Int} {f : Int → Int} (h : p ≤ b ∧ b < p + n) : fil m o p n f o b = f (b - p) := by
  unfold fil
  rw [if_pos ⟨rfl, h⟩]
theorem up_eq {m : Mm} {o k v : Int} : up m o k v o k = v := by
  unfold up
  rw [if_pos ⟨rfl, rfl⟩]
theorem cpy_fil {m : Mm} {s sp o p n : Int} : cpy m s sp o p n = fil m o p n (fun j => m s (sp + j)) := rfl
def qit : Nat → Int → Int
  | 0, h => h
  | k + 1, h => quaH (qit k h)
def trn (t : Nat) (h : Int) : Int := qit (t % 4) (if t < 4 then h else mirH h)
theorem qit_in {h : Int} (hh : hedI h) : ∀ k, hedI (qit k h) := by
  intro k
  induction k with
  | zero => exact hh
  | succ k ih => exact (mq_in ih).2
theorem trn_in (t : Nat) {h : Int} (hh : hedI h) : hedI (trn t h) := by
  unfold trn
  split
  · exact qit_in hh _
  · exact qit_in (mq_in hh).1 _
theorem trn_s {t : Nat} (ht : t < 8) (h4 : t + 1 ≠ 4) (h8 : t + 1 ≠ 8) (h : Int) : trn (t + 1) h = quaH (trn t h) := by
  have : ∀ t, t < 7 → t + 1 ≠ 4 → (t + 1) % 4 = t % 4 + 1 ∧ ((t + 1 < 4) ↔ (t < 4)) := by decide
  obtain ⟨h1, h2⟩ := this t (by omega) h4
  unfold trn
  rw [h1]
  by_cases h3 : t < 4
  · rw [if_pos h3, if_pos (h2.mpr h3)]
    rfl
  · rw [if_neg h3, if_neg (fun z => h3 (h2.mp z))]
    rfl
theorem mov_ext {f g : Int → Int} (h : ∀ i : Nat, i < 40 → f (i : Nat) = g (i : Nat)) (x : Nat) : mov f x 40 = mov g x 40 := by
  have key : ∀ k, k ≤ 40 → mov f x k = mov g x k := by
    intro k
    induction k with
    | zero => intro _; rfl
    | succ k ih =>
      intro hk
      unfold mov
      rw [ih (by omega), h k (by omega)]
  exact key 40 (Nat.le_refl _)
theorem mov_mov {f g : Int → Int} (hg : ∀ h, hedI h → hedI (g h)) (x : Nat) : mov f (mov g x 40) 40 = mov (fun h => f (g h)) x 40 := by
  apply Nat.eq_of_testBit_eq
  intro j
  have : (mov f (mov g x 40) 40).testBit j = true ↔ (mov (fun h => f (g h)) x 40).testBit j = true := by
    rw [mov_bit, mov_bit]
    constructor
    · rintro ⟨i, h1, h2, h3⟩
      rw [mov_bit] at h2
      obtain ⟨l, h4, h5, h6⟩ := h2
      have h7 := hg (l : Nat) ⟨by omega, by omega⟩
      unfold hedI at h7
      refine ⟨l, h4, h5, ?_⟩
      rw [← h3, ← h6, Int.toNat_of_nonneg h7.1]
    · rintro ⟨l, h4, h5, h6⟩
      have h7 := hg (l : Nat) ⟨by omega, by omega⟩
      unfold hedI at h7
      refine ⟨(g (l : Nat)).toNat, by omega, ?_, ?_⟩
      · rw [mov_bit]
        exact ⟨l, h4, h5, rfl⟩
      · rw [Int.toNat_of_nonneg h7.1]
        exact h6
  exact Bool.eq_iff_iff.mpr this
theorem mov_id {x : Nat} (hx : x < 2 ^ 40) : mov (trn 0) x 40 = x := by
  apply Nat.eq_of_testBit_eq
  intro j
  have : (mov (trn 0) x 40).testBit j = true ↔ x.testBit j = true := by
    rw [mov_bit]
    constructor
    · rintro ⟨i, h1, h2, h3⟩
      have : i = j := h3
      rw [← this]
      exact h2
    · intro h
      refine ⟨j, ?_, h, rfl⟩
      apply Classical.byContradiction
      intro hj
      rw [Nat.testBit_lt_two_pow (Nat.lt_of_lt_of_le hx (Nat.pow_le_pow_right (by omega) (by omega)))] at h
      cases h
  exact Bool.eq_iff_iff.mpr this
theorem mov_4 (x : Nat) : mov (trn 4) x 40 = mov mirH x 40 := rfl
theorem mov_t {t : Nat} (ht : t < 8) (h4 : t + 1 ≠ 4) (h8 : t + 1 ≠ 8) (x : Nat) : mov quaH (mov (trn t) x 40) 40 = mov (trn (t + 1)) x 40 := by
  rw [mov_mov (fun h hh => trn_in t hh)]
  exact mov_ext (fun i _ => (trn_s ht h4 h8 _).symm) x
abbrev pat (x t : Nat) : Nat := mov (trn t) x 40
theorem pat_lt (x t : Nat) : pat x t < 2 ^ 40 := mov_lt (fun _ hh => trn_in t hh) x 40 (Nat.le_refl _)
theorem c_Ha_keep {d : Nat} {m : Mm} {h n : Nat} (hh : h < 4) (hn : n < 2 ^ 40) : Cl (d + 3) k_Ha_keep [(11, 1), (0, (h : Nat)), (1, (n : Nat))] m (none, fil m 2 (8 * h) 8 (fun t => (pat n t.toNat : Nat))) := by
  refine cl_Ha_keep (b_Ha_keep ?_)
  have key : ∀ (t k x : Nat), k + t = 8 → x < 2 ^ 40 → (k ≠ 4 → k ≠ 8 → x = pat n k) → Ev (d + 2 + 1) K_Ha_keep 3 4 [(11, 1), (0, (h : Nat)), (1, (n : Nat)), (9, 0), (1, (x : Nat)), (9, 0), (0, (k : Nat))] [] (fil m 2 (8 * h) k (fun t => (pat n t.toNat : Nat))) (none, fil m 2 (8 * h) 8 (fun t => (pat n t.toNat : Nat))) := by
    intro t
    induction t with
    | zero =>
      intro k x hk hx hp
      obtain rfl : k = 8 := by omega
      exact b_Ha_keep_4 ⟨fun _ => rfl, fun z => absurd (by omega) z⟩
    | succ t ih =>
      intro k x hk hx hp
      have e1 : w32 ((k : Int) + 1) = ((k + 1 : Nat) : Int) := by rw [w32n (by omega) (by omega)]; rfl
      have e2 : w32 (w32 ((h : Int) * 8) + (k : Int)) = 8 * h + k := by rw [w32n (x := (h : Int) * 8) (by omega) (by omega), w32n (by omega) (by omega)]; omega
      have go : ∀ y : Nat, y = pat n k → Ev (d + 2 + 1) K_Ha_keep 3 13 [(11, 1), (0, (h : Nat)), (1, (n : Nat)), (9, 0), (1, (y : Nat)), (9, 0), (0, (k : Nat))] [] (fil m 2 (8 * h) k (fun t => (pat n t.toNat : Nat))) (none, fil m 2 (8 * h) 8 (fun t => (pat n t.toNat : Nat))) := by
        rintro y rfl
        have hl := pat_lt n k
        refine b_Ha_keep_13 ⟨?_, ?_⟩
        · rw [e2]; omega
        · rintro m1 rfl
          refine ⟨_, _, c_Ha_quarterRight hl, ?_⟩
          rw [e1, e2, fil_up (k := k) rfl (by rw [Int.toNat_natCast])]
          refine ih (k + 1) _ (by omega) (mov_lt (fun _ hh => (mq_in hh).2) _ 40 (Nat.le_refl _)) (fun h4 h8 => mov_t (by omega) h4 h8 n)
      refine b_Ha_keep_4 ⟨fun z => by omega, fun _ => ⟨fun h4 => go x (hp (by omega) (by omega)), fun h4 => ⟨_, _, c_Ha_mirrored hn, ?_⟩⟩⟩
      obtain rfl : k = 4 := by omega
      exact go _ rfl
  have := key 8 0 n rfl hn (fun _ _ => (mov_id hn).symm)
  rw [show ((0 : Nat) : Int) = 0 from rfl, fil_0] at this
  exact this
def HNC (m : Mm) (n : Nat) (f : Nat → Nat) : Prop := ∀ h t : Nat, h < n → t < 8 → m 2 (8 * h + t) = (pat (f h) t : Nat)
theorem c_Ha_pattern {d : Nat} {m : Mm} {n h t : Nat} {f : Nat → Nat} (hc : HNC m n f) (hn : n ≤ 4) (hh : h < n) (ht : t < 8) : Cl d k_Ha_pattern [(11, 1), (0, (h : Nat)), (0, (t : Nat))] m (some (1, (pat (f h) t : Nat)), m) := by
  have e2 : w32 (w32 ((h : Int) * 8) + (t : Int)) = 8 * h + t := by rw [w32n (x := (h : Int) * 8) (by omega) (by omega), w32n (by omega) (by omega)]; omega
  refine cl_Ha_pattern (b_Ha_pattern ⟨?_, ?_⟩)
  · rw [e2]; omega
  · rw [e2, hc h t hh ht]
def unl (X x t : Nat) : Nat := pc_ 64 (pat x t ^^^ X)
theorem c_Ha_unlikeness {d : Nat} {m : Mm} {n h t X : Nat} {f : Nat → Nat} (hc : HNC m n f) (hn : n ≤ 4) (hh : h < n) (ht : t < 8) (hX : X < 2 ^ 40) : Cl (d + 1) k_Ha_unlikeness [(11, 1), (0, (h : Nat)), (0, (t : Nat)), (1, (X : Nat))] m (some (0, (unl X (f h) t : Nat)), m) := by
  have hp := pat_lt (f h) t
  have hx := xor_lt hp hX
  have e := lxo_nat (a := pat (f h) t) (b := X) (by omega) (by omega)
  refine cl_Ha_unlikeness (b_Ha_unlikeness ⟨_, _, c_Ha_pattern hc hn hh ht, ?_⟩)
  rw [e]
  refine ⟨_, _, c_Lo_bitCount ⟨by omega, by omega⟩, ?_⟩
  rfl
def bsT (X x : Nat) : Nat → Nat
  | 0 => 0
  | k + 1 => if unl X x (k + 1) < unl X x (bsT X x k) then k + 1 else bsT X x k
theorem bsT_le (X x : Nat) : ∀ k, bsT X x k ≤ k := by
  intro k
  induction k with
  | zero => exact Nat.le_refl _
  | succ k ih => unfold bsT; split <;> omega
theorem c_Ha_likestTurn {d : Nat} {m : Mm} {n h X : Nat} {f : Nat → Nat} (hc : HNC m n f) (hn : n ≤ 4) (hh : h < n) (hX : X < 2 ^ 40) : Cl (d + 2) k_Ha_likestTurn [(11, 1), (0, (h : Nat)), (1, (X : Nat))] m (some (0, (bsT X (f h) 7 : Nat)), m) := by
  refine cl_Ha_likestTurn (b_Ha_likestTurn ?_)
  have key : ∀ (t k : Nat), k + t = 7 → Ev (d + 1 + 1) K_Ha_likestTurn 0 4 [(11, 1), (0, (h : Nat)), (1, (X : Nat)), (9, 0), (0, (bsT X (f h) k : Nat)), (0, ((k + 1 : Nat) : Int))] [] m (some (0, (bsT X (f h) 7 : Nat)), m) := by
    intro t
    induction t with
    | zero =>
      intro k hk
      obtain rfl : k = 7 := by omega
      exact b_Ha_likestTurn_4 ⟨fun _ => rfl, fun z => absurd (by omega) z⟩
    | succ t ih =>
      intro k hk
      have hb := bsT_le X (f h) k
      have e1 : w32 (((k + 1 : Nat) : Int) + 1) = ((k + 1 + 1 : Nat) : Int) := by rw [w32n (by omega) (by omega)]; rfl
      have hg := ih (k + 1) (by omega)
      refine b_Ha_likestTurn_4 ⟨fun z => by omega, fun _ => ⟨_, _, c_Ha_unlikeness hc hn hh (by omega) hX, _, _, c_Ha_unlikeness hc hn hh (by omega) hX, fun z => ?_, fun z => ?_⟩⟩
      · rw [e1]
        rw [bsT, if_neg (by omega)] at hg
        exact hg
      · rw [e1]
        rw [bsT, if_pos (by omega)] at hg
        exact hg
  exact key 7 0 rfl
/-- the lowest turn, from k on, by which the first is the second; -1 without -/
def tin (x y : Nat) : Nat → Nat → Int
  | 0, _ => -1
  | t + 1, k => if pat x k = y then (k : Int) else tin x y t (k + 1)
theorem c_Ha_turnInto {d : Nat} {m : Mm} {n h g : Nat} {f : Nat → Nat} (hc : HNC m n f) (hf : ∀ h, h < n → f h < 2 ^ 40) (hn : n ≤ 4) (hh : h < n) (hg : g < n) : Cl (d + 1) k_Ha_turnInto [(11, 1), (0, (h : Nat)), (0, (g : Nat))] m (some (0, tin (f h) (f g) 8 0), m) := by
  refine cl_Ha_turnInto (b_Ha_turnInto ?_)
  have key : ∀ (t k : Nat), k + t = 8 → Ev (d + 1) K_Ha_turnInto 0 2 [(11, 1), (0, (h : Nat)), (0, (g : Nat)), (0, (k : Nat))] [] m (some (0, tin (f h) (f g) t k), m) := by
    intro t
    induction t with
    | zero =>
      intro k hk
      exact b_Ha_turnInto_2 ⟨fun _ => rfl, fun z => absurd (by omega) z⟩
    | succ t ih =>
      intro k hk
      have e1 : w32 ((k : Int) + 1) = ((k + 1 : Nat) : Int) := by rw [w32n (by omega) (by omega)]; rfl
      refine b_Ha_turnInto_2 ⟨fun z => by omega, fun _ => ⟨_, _, c_Ha_pattern hc hn hh (by omega), _, _, c_Ha_pattern (t := 0) hc hn hg (by omega), fun z => ?_, fun z => ?_⟩⟩
      · rw [lcm_0, show pat (f g) 0 = f g from mov_id (hf g hg)] at z
        rw [e1, tin, if_neg (fun y => z (by rw [y]))]
        exact ih (k + 1) (by omega)
      · rw [Classical.not_not, lcm_0, show pat (f g) 0 = f g from mov_id (hf g hg)] at z
        rw [tin, if_pos (by omega)]
  exact key 8 0 rfl
/-- whether one of the elder ones, from k on, is a twin -/
def eld (f : Nat → Nat) (h : Nat) : Nat → Nat → Bool
  | 0, _ => false
  | t + 1, k => if tin (f k) (f h) 8 0 = -1 then eld f h t (k + 1) else true
theorem c_Ha_hasElderTwin {d : Nat} {m : Mm} {n h : Nat} {f : Nat → Nat} (hc : HNC m n f) (hf : ∀ h, h < n → f h < 2 ^ 40) (hn : n ≤ 4) (hh : h < n) : Cl (d + 2) k_Ha_hasElderTwin [(11, 1), (0, (h : Nat))] m (some (0, if eld f h h 0 = true then 1 else 0), m) := by
  refine cl_Ha_hasElderTwin (b_Ha_hasElderTwin ?_)
  have key : ∀ (t k : Nat), k + t = h → Ev (d + 1 + 1) K_Ha_hasElderTwin 2 2 [(11, 1), (0, (h : Nat)), (0, (k : Nat))] [] m (some (0, if eld f h t k = true then 1 else 0), m) := by
    intro t
    induction t with
    | zero =>
      intro k hk
      exact b_Ha_hasElderTwin_2 ⟨fun _ => rfl, fun z => absurd (by omega) z⟩
    | succ t ih =>
      intro k hk
      have e1 : w32 ((k : Int) + 1) = ((k + 1 : Nat) : Int) := by rw [w32n (by omega) (by omega)]; rfl
      refine b_Ha_hasElderTwin_2 ⟨fun z => by omega, fun _ => ⟨_, _, c_Ha_turnInto hc hf hn (by omega) hh, fun z => ?_, fun z => ?_⟩⟩
      · rw [e1, eld, if_pos z]
        exact ih (k + 1) (by omega)
      · rw [eld, if_neg z]
        rfl
  exact key h 0 (by omega)
/-- of the turns from k on, how many are the hand itself -/
def slf (x : Nat) : Nat → Nat
  | 0 => 0
  | k + 1 => slf x k + (if pat x k = x then 1 else 0)
theorem slf_le (x : Nat) : ∀ k, slf x k ≤ k := by
  intro k
  induction k with
  | zero => exact Nat.le_refl _
  | succ k ih => unfold slf; split <;> omega
theorem c_Ha_selfTurns {d : Nat} {m : Mm} {n h : Nat} {f : Nat → Nat} (hc : HNC m n f) (hf : ∀ h, h < n → f h < 2 ^ 40) (hn : n ≤ 4) (hh : h < n) : Cl (d + 1) k_Ha_selfTurns [(11, 1), (0, (h : Nat))] m (some (0, (slf (f h) 8 : Nat)), m) := by
  refine cl_Ha_selfTurns (b_Ha_selfTurns ?_)
  have key : ∀ (t k : Nat), k + t = 8 → Ev (d + 1) K_Ha_selfTurns 0 4 [(11, 1), (0, (h : Nat)), (0, (slf (f h) k : Nat)), (0, (k : Nat))] [] m (some (0, (slf (f h) 8 : Nat)), m) := by
    intro t
    induction t with
    | zero =>
      intro k hk
      obtain rfl : k = 8 := by omega
      exact b_Ha_selfTurns_4 ⟨fun _ => rfl, fun z => absurd (by omega) z⟩
    | succ t ih =>
      intro k hk
      have hs := slf_le (f h) k
      have e1 : w32 ((k : Int) + 1) = ((k + 1 : Nat) : Int) := by rw [w32n (by omega) (by omega)]; rfl
      have e2 : w32 ((slf (f h) k : Int) + 1) = ((slf (f h) k + 1 : Nat) : Int) := by rw [w32n (by omega) (by omega)]; rfl
      have hg := ih (k + 1) (by omega)
      refine b_Ha_selfTurns_4 ⟨fun z => by omega, fun _ => ⟨_, _, c_Ha_pattern hc hn hh (by omega), _, _, c_Ha_pattern (t := 0) hc hn hh (by omega), fun z => ?_, fun z => ?_⟩⟩
      · rw [lcm_0, show pat (f h) 0 = f h from mov_id (hf h hh)] at z
        rw [slf, if_neg (fun y => z (by rw [y]))] at hg
        rw [e1]
        exact hg
      · rw [Classical.not_not, lcm_0, show pat (f h) 0 = f h from mov_id (hf h hh)] at z
        rw [slf, if_pos (by omega)] at hg
        rw [e1, e2]
        exact hg
  exact key 8 0 rfl
