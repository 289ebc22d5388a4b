/-! THE FIRST MEMORY, and that both agree there -/
def isLd (a : Int) : Bool := decide (a = 64 ∨ a = 129 ∨ a = 257 ∨ (134 ≤ a ∧ a ≤ 250 ∧ (a - 134) % 4 = 0) ∨ (262 ≤ a ∧ a ≤ 378 ∧ (a - 262) % 4 = 0))
/-- what lies there before the model's last acts -/
def mZ (xs ys : Int → Int) : Mm := fun a b => if a = 500 then xs b else if a = 501 then ys b else if isLd a = true ∧ b = 6 then 331 else if (a = 128 ∨ a = 256) ∧ b = 7 then -1 else if a = 400 ∧ (b = 6 ∨ b = 7) then -1 else if a = 400 ∧ b = 24 then 1 else 0
theorem mZ_0 {xs ys : Int → Int} {a b : Int} (h0 : a ≠ 500) (h1 : a ≠ 501) (h2 : ¬ (isLd a = true ∧ b = 6)) (h3 : ¬ ((a = 128 ∨ a = 256) ∧ b = 7)) (h4 : ¬ (a = 400 ∧ (b = 6 ∨ b = 7))) (h5 : ¬ (a = 400 ∧ b = 24)) : mZ xs ys a b = 0 := by
  unfold mZ
  rw [if_neg h0, if_neg h1, if_neg h2, if_neg h3, if_neg h4, if_neg h5]
/-- behind them -/
def mI (xs ys tu : Int → Int) : Mm := fun a b => if a = 404 then tu b else if (a = 401 ∨ a = 402) ∧ 0 ≤ b ∧ b < 1466 then (if b = 7 then 331 else if b = 3 then -1 else 0) else mZ xs ys a b
theorem R_first {xs ys tu : Int → Int} (hy : ys 0 = 1 ∧ ys 1 = 0 ∧ ys 2 = 3 ∧ ys 3 = 2) (ht : ∀ t k : Nat, t < 8 → k < 40 → ∃ h : Nat, h < 40 ∧ tu (40 * t + k) = (h : Nat) ∧ trn t (h : Nat) = (k : Nat)) : R (mI xs ys tu) := by
  have e7 : ∀ a, a = 401 ∨ a = 402 → mI xs ys tu a 7 = 331 := fun a ha => by unfold mI; rw [if_neg (by omega), if_pos (by omega), if_pos rfl]
  have e3 : ∀ a, a = 401 ∨ a = 402 → mI xs ys tu a 3 = -1 := fun a ha => by unfold mI; rw [if_neg (by omega), if_pos (by omega), if_neg (by omega), if_pos rfl]
  have e0 : ∀ a b, a = 401 ∨ a = 402 → b ≠ 7 → b ≠ 3 → 0 ≤ b → b < 1466 → mI xs ys tu a b = 0 := fun a b ha h7 h3 b0 b1 => by unfold mI; rw [if_neg (by omega), if_pos (by omega), if_neg h7, if_neg h3]
  have eo : ∀ a b, a ≠ 401 → a ≠ 402 → a ≠ 404 → mI xs ys tu a b = mZ xs ys a b := fun a b h1 h2 h3 => by unfold mI; rw [if_neg h3, if_neg (by omega)]
  have ez : ∀ a b, a < 400 → ¬ (isLd a = true ∧ b = 6) → ¬ ((a = 128 ∨ a = 256) ∧ b = 7) → mI xs ys tu a b = 0 := fun a b h1 h2 h3 => by rw [eo a b (by omega) (by omega) (by omega)]; exact mZ_0 (by omega) (by omega) h2 h3 (by omega) (by omega)
  have hld : ∀ a, isLd a = true ↔ (a = 64 ∨ a = 129 ∨ a = 257 ∨ (134 ≤ a ∧ a ≤ 250 ∧ (a - 134) % 4 = 0) ∨ (262 ≤ a ∧ a ≤ 378 ∧ (a - 262) % 4 = 0)) := fun a => by unfold isLd; exact decide_eq_true_iff
  have FCx : ∀ f a, (f = 128 ∧ a = 401) ∨ (f = 256 ∧ a = 402) → FC (mI xs ys tu) f (mI xs ys tu a) := by
    intro f a hfa
    have ha : a = 401 ∨ a = 402 := by omega
    have hx : mI xs ys tu (f + 1) 6 = 331 := by
      rw [eo _ _ (by omega) (by omega) (by omega)]
      unfold mZ
      rw [if_neg (by omega), if_neg (by omega), if_pos ⟨(hld _).mpr (by omega), rfl⟩]
    have h7 : mI xs ys tu f 7 = -1 := by
      rw [eo _ _ (by omega) (by omega) (by omega)]
      unfold mZ
      rw [if_neg (by omega), if_neg (by omega), if_neg (by rw [hld]; omega), if_pos (by omega)]
    have z1 := e0 a 1 ha (by omega) (by omega) (by omega) (by omega)
    have z4 := e0 a 4 ha (by omega) (by omega) (by omega) (by omega)
    have sv : ∀ b, b ≠ 7 → b ≠ 3 → 0 ≤ b → b < 1466 → mI xs ys tu a b = 0 := fun b h7 h3 b0 b1 => e0 a b ha h7 h3 b0 b1
    have lz : ∀ b, b ≠ 6 → mI xs ys tu (f + 1) b = 0 := fun b hb => ez _ _ (by omega) (fun z => hb z.2) (by omega)
    have fz : ∀ b, b ≠ 7 → mI xs ys tu f b = 0 := fun b hb => ez _ _ (by omega) (by rw [hld]; omega) (fun z => hb z.2)
    refine ⟨⟨⟨⟨?_, ?_, ?_⟩, ?_, ?_, ?_, ?_, fun c hc => ?_⟩, ⟨?_, fun i hi => ?_⟩⟩, ⟨?_, fun i hi => ?_⟩, ⟨fun c hc => ?_, fun i hi => ?_⟩, ?_, ?_, ?_, ?_, ?_, fun i hi => ?_⟩
    · show hv20 (mI xs ys tu a (6 + 2))
      rw [sv _ (by omega) (by omega) (by omega) (by omega)]
      exact ⟨by omega, by omega⟩
    · show hv20 (mI xs ys tu a (6 + 3))
      rw [sv _ (by omega) (by omega) (by omega) (by omega)]
      exact ⟨by omega, by omega⟩
    · show _ = ((cmb (mI xs ys tu a (6 + 2)) (mI xs ys tu a (6 + 3)) : Nat) : Int)
      rw [sv _ (by omega) (by omega) (by omega) (by omega), sv _ (by omega) (by omega) (by omega) (by omega), lz _ (by omega)]
      rfl
    · rw [z1, lz _ (by omega)]
      exact ⟨by omega, by omega, rfl⟩
    · show 0 ≤ mI xs ys tu a (6 + 0) ∧ mI xs ys tu a (6 + 0) ≤ 9999 ∧ _ = mI xs ys tu a (6 + 0)
      rw [sv _ (by omega) (by omega) (by omega) (by omega), lz _ (by omega)]
      exact ⟨by omega, by omega, rfl⟩
    · show 0 ≤ mI xs ys tu a (6 + 1) ∧ mI xs ys tu a (6 + 1) < 30817 ∧ _ = mI xs ys tu a (6 + 1)
      rw [show (6 : Int) + 1 = 7 from rfl, e7 a ha, hx]
      exact ⟨by omega, by omega, rfl⟩
    · rw [lz _ (by omega), z1]
      exact ⟨by omega, by decide⟩
    · rw [z1] at hc; omega
    · show 0 ≤ mI xs ys tu a (6 + 4) ∧ mI xs ys tu a (6 + 4) ≤ 30 ∧ _ = mI xs ys tu a (6 + 4)
      rw [sv _ (by omega) (by omega) (by omega) (by omega), lz _ (by omega)]
      exact ⟨by omega, by omega, rfl⟩
    · have hi2 : (i : Int) < mI xs ys tu a (6 + 4) := hi
      rw [sv _ (by omega) (by omega) (by omega) (by omega)] at hi2
      omega
    · rw [z4, fz _ (by omega), fz _ (by omega)]
      exact ⟨by omega, by omega, rfl, by omega, by omega⟩
    · rw [z4] at hi; omega
    · rw [z1] at hc; omega
    · rw [z4] at hi; omega
    · rw [fz _ (by omega), sv 31 (by omega) (by omega) (by omega) (by omega)]
      exact ⟨rfl, by omega, by omega⟩
    · rw [fz _ (by omega), sv 0 (by omega) (by omega) (by omega) (by omega)]
      exact ⟨rfl, by omega, by omega⟩
    · rw [fz _ (by omega), sv 2 (by omega) (by omega) (by omega) (by omega)]
      exact ⟨rfl, by omega, by omega⟩
    · rw [h7, e3 a ha, sv 2 (by omega) (by omega) (by omega) (by omega)]
      exact ⟨rfl, by omega, by omega⟩
    · rw [fz _ (by omega), sv 5 (by omega) (by omega) (by omega) (by omega)]
      exact ⟨rfl, by omega, by omega⟩
    · rw [sv 5 (by omega) (by omega) (by omega) (by omega)] at hi; omega
  have m4 : ∀ b, ¬ (b = 6 ∨ b = 7) → b ≠ 24 → mI xs ys tu 400 b = 0 := fun b h1 h2 => by rw [eo _ _ (by omega) (by omega) (by omega)]; exact mZ_0 (by omega) (by omega) (by rw [hld]; omega) (by omega) (by omega) (by omega)
  have m46 : mI xs ys tu 400 6 = -1 ∧ mI xs ys tu 400 7 = -1 := by
    rw [eo _ _ (by omega) (by omega) (by omega), eo _ _ (by omega) (by omega) (by omega)]
    unfold mZ
    rw [if_neg (by omega), if_neg (by omega), if_neg (by rw [hld]; omega), if_neg (by omega), if_pos (by omega), if_neg (by omega), if_neg (by omega), if_neg (by rw [hld]; omega), if_neg (by omega), if_pos (by omega)]
    exact ⟨rfl, rfl⟩
  have s0 := e0 401 0 (by omega) (by omega) (by omega) (by omega) (by omega)
  have s2 := e0 401 2 (by omega) (by omega) (by omega) (by omega) (by omega)
  have t0 := e0 402 0 (by omega) (by omega) (by omega) (by omega) (by omega)
  have t2 := e0 402 2 (by omega) (by omega) (by omega) (by omega) (by omega)
  refine ⟨FCx 128 401 (by omega), FCx 256 402 (by omega), fun j hj => by rw [s0] at hj; omega, fun j hj => by rw [t0] at hj; omega, by rw [s0, s2, t0, t2]; omega, fun t ht2 => by rw [s2] at ht2; omega, ⟨?_, fun i hi => ?_, fun _ => m46, fun z => ?_⟩, ⟨?_, ?_, ?_⟩, ?_⟩
  · rw [m4 _ (by omega) (by omega), ez 80 1 (by omega) (by rw [hld]; omega) (by omega)]
    exact ⟨by omega, by omega, rfl⟩
  · rw [m4 _ (by omega) (by omega)] at hi; omega
  · exact absurd (ez 80 3 (by omega) (by rw [hld]; omega) (by omega)) z
  · have ey : ∀ b, mI xs ys tu 501 b = ys b := fun b => by
      rw [eo _ _ (by omega) (by omega) (by omega)]
      unfold mZ
      rw [if_neg (by omega), if_pos rfl]
    unfold TRI
    rw [ey, ey, ey, ey]
    exact hy
  · intro t k h1 h2
    have : mI xs ys tu 404 (40 * (t : Int) + k) = tu (40 * (t : Int) + k) := by unfold mI; rw [if_pos rfl]
    rw [this]
    exact ht t k h1 h2
  · rw [eo _ _ (by omega) (by omega) (by omega)]
    unfold mZ
    rw [if_neg (by omega), if_neg (by omega), if_neg (by rw [hld]; omega), if_neg (by omega), if_neg (by omega), if_pos (by omega)]
  · rw [ez 48 6 (by omega) (by rw [hld]; omega) (by omega), ez 48 9 (by omega) (by rw [hld]; omega) (by omega)]
    exact ⟨rfl, rfl⟩
