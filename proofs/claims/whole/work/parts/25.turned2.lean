/-! HANDS TURNED: the model's table of turns, its answers -/
theorem trn_inj : ∀ t, t < 8 → ∀ i, i < 40 → ∀ j, j < 40 → trn t ((i : Nat) : Int) = trn t ((j : Nat) : Int) → i = j := by decide +kernel
theorem trn_sur : ∀ t, t < 8 → ∀ k, k < 40 → (List.range 40).any (fun h => decide (trn t ((h : Nat) : Int) = ((k : Nat) : Int))) = true := by decide +kernel
def TU (m : Mm) : Prop := ∀ t k : Nat, t < 8 → k < 40 → ∃ h : Nat, h < 40 ∧ m 404 (40 * t + k) = (h : Nat) ∧ trn t (h : Nat) = (k : Nat)
def cmb (e s : Int) : Nat := e.toNat + 1048576 * s.toNat
theorem cmb_lt {e s : Int} (he : hv20 e) (hs : hv20 s) : cmb e s < 2 ^ 40 := by
  unfold hv20 at *
  unfold cmb
  omega
theorem cmb_bit {e s : Int} (he : hv20 e) {h : Nat} : (cmb e s).testBit h = if h < 20 then bt_ e h else bt_ s ((h : Int) - 20) := by
  unfold hv20 at *
  unfold cmb bt_
  rw [Nat.add_comm, show (1048576 : Nat) = 2 ^ 20 from rfl, Nat.testBit_two_pow_mul_add _ (by omega)]
  split
  · rfl
  · rw [show ((h : Int) - 20).toNat = h - 20 by omega]
theorem pat_bit {x t h k : Nat} (ht : t < 8) (hh : h < 40) (hk : trn t (h : Nat) = (k : Nat)) : (pat x t).testBit k = x.testBit h := by
  have : (pat x t).testBit k = true ↔ x.testBit h = true := by
    rw [mov_bit]
    constructor
    · rintro ⟨i, h1, h2, h3⟩
      have hi := trn_in t (h := (i : Nat)) ⟨by omega, by omega⟩
      unfold hedI at hi
      have : i = h := trn_inj t ht i h1 h hh (by omega)
      rw [← this]
      exact h2
    · intro h2
      exact ⟨h, hh, h2, by omega⟩
  exact Bool.eq_iff_iff.mpr this
theorem mod_s (z k : Nat) : z % 2 ^ (k + 1) = z % 2 ^ k + (if z.testBit k = true then 2 ^ k else 0) := by
  rw [Nat.mod_pow_succ]
  congr 1
  have h1 : (z / 2 ^ k) % 2 = 0 ∨ (z / 2 ^ k) % 2 = 1 := by omega
  have h2 : z.testBit k = decide (z / 2 ^ k % 2 = 1) := Nat.testBit_eq_decide_div_mod_eq
  rcases h1 with h | h
  · rw [h2, h]
    rfl
  · rw [h2, h, Nat.mul_one]
    rfl
theorem iro_p2 {z k : Nat} (hk : k < 20) : iro ((z % 2 ^ k : Nat) : Int) (isl 1 (k : Nat)) = ((z % 2 ^ k + 2 ^ k : Nat) : Int) := iro_pow (Nat.mod_lt _ (Nat.two_pow_pos k)) (by omega)
theorem iro_p0 {z k : Nat} (hk : k < 20) : iro ((z % 2 ^ k : Nat) : Int) 0 = ((z % 2 ^ k : Nat) : Int) := by
  refine iro_0 ?_
  have h1 : z % 2 ^ k < 2 ^ k := Nat.mod_lt _ (Nat.two_pow_pos k)
  have h2 : 2 ^ k ≤ 2 ^ 20 := Nat.pow_le_pow_right (n := 2) (by omega) (by omega)
  omega
theorem c_Mo_turnedBy {d : Nat} {m : Mm} {e s b : Int} {t : Nat} (hT : TU m) (he : hv20 e) (hs : hv20 s) (ht : t < 8) : Cl (d + 1) k_Mo_turnedBy [(18, 400), (0, e), (0, s), (0, (t : Nat)), (0, b)] m (some (0, ((if b = 0 then pat (cmb e s) t % 2 ^ 20 else pat (cmb e s) t / 2 ^ 20 : Nat) : Int)), m) := by
  refine cl_Mo_turnedBy (b_Mo_turnedBy ?_)
  have hl := pat_lt (cmb e s) t
  generalize hZ : (if b = 0 then pat (cmb e s) t % 2 ^ 20 else pat (cmb e s) t / 2 ^ 20 : Nat) = Z
  have hZl : Z < 2 ^ 20 := by
    rw [← hZ]
    split <;> omega
  have hZb : ∀ k : Nat, k < 20 → Z.testBit k = (pat (cmb e s) t).testBit (k + if b = 0 then 0 else 20) := by
    intro k hk
    rw [← hZ]
    by_cases h : b = 0
    · rw [if_pos h, if_pos h, Nat.testBit_mod_two_pow]
      simp [hk]
    · rw [if_neg h, if_neg h, Nat.testBit_div_two_pow]
  have key : ∀ (f k : Nat) (u : Vv), k + f = 20 → Ev (d + 1) K_Mo_turnedBy 0 4 [(18, 400), (0, e), (0, s), (0, (t : Nat)), (0, b), (0, (Z % 2 ^ k : Nat)), (0, (k : Nat)), u] [] m (some (0, (Z : Nat)), m) := by
    intro f
    induction f with
    | zero =>
      intro k u hk
      obtain rfl : k = 20 := by omega
      refine b_Mo_turnedBy_4 ⟨fun _ => ?_, fun z => absurd (by omega) z⟩
      rw [Nat.mod_eq_of_lt hZl]
    | succ f ih =>
      intro k u hk
      have e1 : w32 ((k : Int) + 1) = ((k + 1 : Nat) : Int) := by rw [w32n (by omega) (by omega)]; rfl
      have hg := fun u => ih (k + 1) u (by omega)
      rw [mod_s] at hg
      have p0 := iro_p0 (z := Z) (k := k) (by omega)
      have p2 := iro_p2 (z := Z) (k := k) (by omega)
      have hb := hZb k (by omega)
      refine b_Mo_turnedBy_4 ⟨fun z => by omega, fun _ => ⟨fun hb0 => ?_, fun hb0 => ?_⟩⟩
      · have e2 : w32 (w32 (40 * (t : Int)) + (k : Int)) = 40 * t + k := by rw [w32n (x := 40 * (t : Int)) (by omega) (by omega), w32n (by omega) (by omega)]
        rw [if_pos hb0] at hb
        obtain ⟨h, h1, h2, h3⟩ := hT t k ht (by omega)
        rw [Nat.add_zero, pat_bit ht h1 h3, cmb_bit he] at hb
        rw [e2, h2]
        refine ⟨by omega, fun h20 => ?_, fun h20 => ?_⟩
        · rw [if_neg (by omega)] at hb
          have e3 : w32 ((h : Int) - 20) = (h : Int) - 20 := w32n (by omega) (by omega)
          rw [e3]
          refine ⟨_, _, c_Mo_has (by unfold hv20 at hs; omega) (by omega), fun z => ?_, fun z => ?_⟩
          · rw [ite_z, ← hb] at z
            rw [if_neg z] at hg
            rw [p0, e1]
            exact hg _
          · rw [ite_z, Classical.not_not, ← hb] at z
            rw [if_pos z] at hg
            rw [p2, e1]
            exact hg _
        · rw [if_pos (by omega)] at hb
          refine ⟨_, _, c_Mo_has (by unfold hv20 at he; omega) (by omega), fun z => ?_, fun z => ?_⟩
          · rw [ite_z, ← hb] at z
            rw [if_neg z] at hg
            rw [p0, e1]
            exact hg _
          · rw [ite_z, Classical.not_not, ← hb] at z
            rw [if_pos z] at hg
            rw [p2, e1]
            exact hg _
      · have e2 : w32 (w32 (40 * (t : Int)) + w32 (20 + (k : Int))) = 40 * t + ((k + 20 : Nat) : Int) := by rw [w32n (x := 40 * (t : Int)) (by omega) (by omega), w32n (x := 20 + (k : Int)) (by omega) (by omega), w32n (by omega) (by omega)]; omega
        rw [if_neg hb0] at hb
        obtain ⟨h, h1, h2, h3⟩ := hT t (k + 20) ht (by omega)
        rw [pat_bit ht h1 h3, cmb_bit he] at hb
        rw [e2, h2]
        refine ⟨by omega, fun h20 => ?_, fun h20 => ?_⟩
        · rw [if_neg (by omega)] at hb
          have e3 : w32 ((h : Int) - 20) = (h : Int) - 20 := w32n (by omega) (by omega)
          rw [e3]
          refine ⟨_, _, c_Mo_has (by unfold hv20 at hs; omega) (by omega), fun z => ?_, fun z => ?_⟩
          · rw [ite_z, ← hb] at z
            rw [if_neg z] at hg
            rw [p0, e1]
            exact hg _
          · rw [ite_z, Classical.not_not, ← hb] at z
            rw [if_pos z] at hg
            rw [p2, e1]
            exact hg _
        · rw [if_pos (by omega)] at hb
          refine ⟨_, _, c_Mo_has (by unfold hv20 at he; omega) (by omega), fun z => ?_, fun z => ?_⟩
          · rw [ite_z, ← hb] at z
            rw [if_neg z] at hg
            rw [p0, e1]
            exact hg _
          · rw [ite_z, Classical.not_not, ← hb] at z
            rw [if_pos z] at hg
            rw [p2, e1]
            exact hg _
  have := key 20 0 (9, 0) rfl
  rw [Nat.pow_zero, Nat.mod_one] at this
  exact this
/-- the model's hands -/
def HNM (m : Mm) (A : Int) (n : Nat) (f : Nat → Nat) : Prop := ∀ h : Nat, h < n → hv20 (m A (32 + 2 * h)) ∧ hv20 (m A (33 + 2 * h)) ∧ f h = cmb (m A (32 + 2 * h)) (m A (33 + 2 * h))
theorem HNM_lt {m : Mm} {A : Int} {n : Nat} {f : Nat → Nat} (h : HNM m A n f) : ∀ h, h < n → f h < 2 ^ 40 := by
  intro j hj
  obtain ⟨h1, h2, h3⟩ := h j hj
  rw [h3]
  exact cmb_lt h1 h2
theorem c_Mo_ofHand {d : Nat} {m : Mm} {n h t : Nat} {f : Nat → Nat} {b : Int} (hT : TU m) (hm : HNM m 401 n f) (hn : n ≤ 4) (hh : h < n) (ht : t < 8) : Cl (d + 2) k_Mo_ofHand [(18, 400), (0, (h : Nat)), (0, (t : Nat)), (0, b)] m (some (0, ((if b = 0 then pat (f h) t % 2 ^ 20 else pat (f h) t / 2 ^ 20 : Nat) : Int)), m) := by
  obtain ⟨h1, h2, h3⟩ := hm h hh
  have e1 : w32 (32 + w32 (2 * (h : Int))) = 32 + 2 * h := by rw [w32n (x := 2 * (h : Int)) (by omega) (by omega), w32n (by omega) (by omega)]
  have e2 : w32 (32 + 2 * (h : Int) + 1) = 33 + 2 * h := by rw [w32n (by omega) (by omega)]; omega
  refine cl_Mo_ofHand (b_Mo_ofHand ?_)
  rw [e1, e2]
  refine ⟨by omega, by omega, _, _, c_Mo_turnedBy hT h1 h2 ht, ?_⟩
  rw [h3]
theorem c_Mo_pressNow {d : Nat} {m : Mm} {n h t : Nat} {f : Nat → Nat} (hT : TU m) (hm : HNM m 401 n f) (hn : n ≤ 4) (hh : h < n) (ht : t < 8) : Cl (d + 3) k_Mo_pressNow [(18, 400), (0, (h : Nat)), (0, (t : Nat))] m (none, up (up m 401 8 (pat (f h) t % 2 ^ 20 : Nat)) 401 9 (pat (f h) t / 2 ^ 20 : Nat)) := by
  refine cl_Mo_pressNow (b_Mo_pressNow ⟨_, _, c_Mo_ofHand hT hm hn hh ht, ?_⟩)
  rintro m2 rfl
  refine ⟨_, _, c_Mo_ofHand (n := n) (f := f) ?_ ?_ hn hh ht, ?_⟩
  · intro t k h1 h2
    rw [up_ne (by omega)]
    exact hT t k h1 h2
  · intro h h1
    rw [up_nk (by omega), up_nk (by omega)]
    exact hm h h1
  · rintro m4 rfl
    rfl
theorem pc_xor {p e s : Nat} (hp : p < 2 ^ 40) (he : e < 1048576) (hs : s < 1048576) : pc_ 64 (p ^^^ (e + 1048576 * s)) = pc_ 32 (p % 2 ^ 20 ^^^ e) + pc_ 32 (p / 2 ^ 20 ^^^ s) := by
  have h1 : p % 2 ^ 20 ^^^ e < 2 ^ 20 := Nat.xor_lt_two_pow (Nat.mod_lt _ (by omega)) he
  have h2 : p / 2 ^ 20 ^^^ s < 2 ^ 20 := Nat.xor_lt_two_pow (by omega) hs
  rw [← pc_two h1 h2]
  congr 1
  apply Nat.eq_of_testBit_eq
  intro i
  rw [Nat.testBit_xor, Nat.add_comm e, Nat.add_comm (p % 2 ^ 20 ^^^ e), show (1048576 : Nat) = 2 ^ 20 from rfl, Nat.testBit_two_pow_mul_add _ he, Nat.testBit_two_pow_mul_add _ h1]
  split
  · rename_i hi
    rw [Nat.testBit_xor, Nat.testBit_mod_two_pow]
    simp [hi]
  · rename_i hi
    rw [Nat.testBit_xor, Nat.testBit_div_two_pow, show i - 20 + 20 = i by omega]
def LX (m : Mm) (A : Int) : Nat := cmb (m A 8) (m A 9)
theorem c_Mo_unlikeBy {d : Nat} {m : Mm} {n h t : Nat} {f : Nat → Nat} (hT : TU m) (hm : HNM m 401 n f) (hn : n ≤ 4) (hh : h < n) (ht : t < 8) (h8 : hv20 (m 401 8)) (h9 : hv20 (m 401 9)) : Cl (d + 3) k_Mo_unlikeBy [(18, 400), (0, (h : Nat)), (0, (t : Nat))] m (some (0, (unl (LX m 401) (f h) t : Nat)), m) := by
  have hl := pat_lt (f h) t
  unfold hv20 at h8 h9
  obtain ⟨a, ha⟩ := Int.eq_ofNat_of_zero_le h8.1
  obtain ⟨b, hb⟩ := Int.eq_ofNat_of_zero_le h9.1
  have h1 : pat (f h) t % 2 ^ 20 < 2 ^ 20 := Nat.mod_lt _ (by omega)
  have h2 : pat (f h) t / 2 ^ 20 < 2 ^ 20 := by omega
  have x1 : pat (f h) t % 2 ^ 20 ^^^ a < 2 ^ 20 := Nat.xor_lt_two_pow h1 (by omega)
  have x2 : pat (f h) t / 2 ^ 20 ^^^ b < 2 ^ 20 := Nat.xor_lt_two_pow h2 (by omega)
  have e1 := ixo_nat (a := pat (f h) t % 2 ^ 20) (b := a) (by omega) (by omega)
  have e2 := ixo_nat (a := pat (f h) t / 2 ^ 20) (b := b) (by omega) (by omega)
  refine cl_Mo_unlikeBy (b_Mo_unlikeBy ⟨_, _, c_Mo_ofHand hT hm hn hh ht, ?_⟩)
  rw [if_pos rfl, ha, e1]
  refine ⟨_, _, c_Mo_bits ⟨by omega, by omega⟩, _, _, c_Mo_ofHand hT hm hn hh ht, ?_⟩
  rw [if_neg (by omega), hb, e2]
  refine ⟨_, _, c_Mo_bits ⟨by omega, by omega⟩, ?_⟩
  rw [Int.toNat_natCast, Int.toNat_natCast]
  have q1 := pc_le 32 (pat (f h) t % 2 ^ 20 ^^^ a)
  have q2 := pc_le 32 (pat (f h) t / 2 ^ 20 ^^^ b)
  have := pc_xor (p := pat (f h) t) (e := a) (s := b) hl (by omega) (by omega)
  rw [unl, LX, cmb, ha, hb, Int.toNat_natCast, Int.toNat_natCast, this, w32n (by omega) (by omega)]
  rfl
theorem c_Mo_bestTurn {d : Nat} {m : Mm} {n h : Nat} {f : Nat → Nat} (hT : TU m) (hm : HNM m 401 n f) (hn : n ≤ 4) (hh : h < n) (h8 : hv20 (m 401 8)) (h9 : hv20 (m 401 9)) : Cl (d + 4) k_Mo_bestTurn [(18, 400), (0, (h : Nat))] m (some (0, (bsT (LX m 401) (f h) 7 : Nat)), m) := by
  refine cl_Mo_bestTurn (b_Mo_bestTurn ?_)
  have key : ∀ (t k : Nat), k + t = 7 → Ev (d + 3 + 1) K_Mo_bestTurn 0 4 [(18, 400), (0, (h : Nat)), (0, (bsT (LX m 401) (f h) k : Nat)), (0, ((k + 1 : Nat) : Int))] [] m (some (0, (bsT (LX m 401) (f h) 7 : Nat)), m) := by
    intro t
    induction t with
    | zero =>
      intro k hk
      obtain rfl : k = 7 := by omega
      exact b_Mo_bestTurn_4 ⟨fun _ => rfl, fun z => absurd (by omega) z⟩
    | succ t ih =>
      intro k hk
      have hb := bsT_le (LX m 401) (f h) k
      have e1 : w32 (((k + 1 : Nat) : Int) + 1) = ((k + 1 + 1 : Nat) : Int) := by rw [w32n (by omega) (by omega)]; rfl
      have hg := ih (k + 1) (by omega)
      refine b_Mo_bestTurn_4 ⟨fun z => by omega, fun _ => ⟨_, _, c_Mo_unlikeBy hT hm hn hh (by omega) h8 h9, _, _, c_Mo_unlikeBy hT hm hn hh (by omega) h8 h9, fun z => ?_, fun z => ?_⟩⟩
      · rw [e1]
        rw [bsT, if_neg (by omega)] at hg
        exact hg
      · rw [e1]
        rw [bsT, if_pos (by omega)] at hg
        exact hg
  exact key 7 0 rfl
theorem c_Mo_isHand {d : Nat} {m : Mm} {x : Int} (h : 0 ≤ m 401 0 ∧ m 401 0 ≤ 4) : Cl (d + 1) k_Mo_isHand [(18, 400), (0, x)] m (some (0, if 0 ≤ x ∧ x < m 401 0 then 1 else 0), m) := by
  refine cl_Mo_isHand (b_Mo_isHand ⟨_, _, c_Mo_isIn, b01, ?_⟩)
  rw [w32n (by omega) (by omega)]
  congr 3
  exact ite_iff (by omega)
theorem c_Th_isHand {d : Nat} {m : Mm} {x : Int} : Cl d k_Th_isHand [(17, 0), (0, x)] m (some (0, if 0 ≤ x ∧ x < m 128 5 then 1 else 0), m) := by
  refine cl_Th_isHand (b_Th_isHand ⟨fun h => ?_, fun h => ⟨fun h2 => ?_, fun h2 => ?_⟩⟩)
  · rw [if_neg (by omega)]
  · rw [if_neg (by omega)]
  · rw [if_pos (by omega)]
