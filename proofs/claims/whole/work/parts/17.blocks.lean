theorem b_Fa_copyFrom {d : Nat} {r : Option Vv × Mm} {m : Mm} {o0 o1 : Int} (h : ∃ (m1 : Mm), Cl d k_La_copyFrom [(13, o0 + 1), (13, o1 + 1)] m (none, m1) ∧ (∀ m2 : Mm, m2 = up m1 o0 2 (m1 o1 2) → (∀ m3 : Mm, m3 = up m2 o0 3 (m2 o1 3) → (Ev (d + 1) K_Fa_copyFrom 3 15 [(10, o0), (10, o1), (0, 0), (9, 0)] [] m3 r)))) : Ev (d + 1) K_Fa_copyFrom 3 0 [(10, o0), (10, o1), (9, 0), (9, 0)] [] m r := by
  refine Ev_rn (q := (4, [(10, o0), (10, o1), (9, 0), (9, 0)], [(13, o1 + 1), (13, o0 + 1)], m)) 4 rfl ?_
  obtain ⟨m1, hc, h⟩ := h
  refine Ev_call (rest := []) rfl rfl (Nat.le_of_ble_eq_true rfl) hc ?_
  refine Ev_rn (q := (9, [(10, o0), (10, o1), (9, 0), (9, 0)], [], up m1 o0 2 (m1 o1 2))) 4 rfl ?_
  generalize e2 : up m1 o0 2 (m1 o1 2) = m2
  replace h := h m2 e2.symm
  refine Ev_rn (q := (13, [(10, o0), (10, o1), (9, 0), (9, 0)], [], up m2 o0 3 (m2 o1 3))) 4 rfl ?_
  generalize e3 : up m2 o0 3 (m2 o1 3) = m3
  replace h := h m3 e3.symm
  refine Ev_rn (q := (15, [(10, o0), (10, o1), (0, 0), (9, 0)], [], m3)) 2 rfl ?_
  exact h
theorem b_Fa_copyFrom_15 {d : Nat} {r : Option Vv × Mm} {m : Mm} {o0 o1 x2 : Int} {u3 : Vv} (h : (m o0 3 ≤ x2 → ∀ m1 : Mm, m1 = up m o0 4 (m o1 4) → (∀ m2 : Mm, m2 = up m1 o0 5 (m1 o1 5) → (∀ m3 : Mm, m3 = up m2 o0 6 (m2 o1 6) → (∀ m4 : Mm, m4 = up m3 o0 7 (m3 o1 7) → (∀ m5 : Mm, m5 = up m4 o0 8 (m4 o1 8) → (∀ m6 : Mm, m6 = cpy m5 (o1 + 126) 0 (o0 + 126) 0 8 → (∀ m7 : Mm, m7 = cpy m6 (o1 + 127) 0 (o0 + 127) 0 8 → (r = (none, m7))))))))) ∧ (¬ (m o0 3 ≤ x2) → (0 ≤ irm (w32 ((m o0 2) + x2)) 30 ∧ irm (w32 ((m o0 2) + x2)) 30 < 30) ∧ ((0 ≤ irm (w32 ((m o0 2) + x2)) 30 ∧ irm (w32 ((m o0 2) + x2)) 30 < 30) ∧ (∃ (m8 : Mm), Cl d k_La_copyFrom [(13, (o0 + 5) + 1 + 4 * (irm (w32 ((m o0 2) + x2)) 30)), (13, (o1 + 5) + 1 + 4 * (irm (w32 ((m o0 2) + x2)) 30))] m (none, m8) ∧ (Ev (d + 1) K_Fa_copyFrom 3 15 [(10, o0), (10, o1), (0, w32 (x2 + 1)), (0, irm (w32 ((m o0 2) + x2)) 30)] [] m8 r))))) : Ev (d + 1) K_Fa_copyFrom 3 15 [(10, o0), (10, o1), (0, x2), u3] [] m r := by
  refine Ev_rn (q := (18, [(10, o0), (10, o1), (0, x2), u3], [(0, m o0 3), (0, x2)], m)) 3 rfl ?_
  refine Ev_icmp rfl (fun hc => ?_) (fun hc => ?_)
  · replace h := h.1 hc
    refine Ev_rn (q := (41, [(10, o0), (10, o1), (0, x2), u3], [], up m o0 4 (m o1 4))) 4 rfl ?_
    generalize e1 : up m o0 4 (m o1 4) = m1
    replace h := h m1 e1.symm
    refine Ev_rn (q := (45, [(10, o0), (10, o1), (0, x2), u3], [], up m1 o0 5 (m1 o1 5))) 4 rfl ?_
    generalize e2 : up m1 o0 5 (m1 o1 5) = m2
    replace h := h m2 e2.symm
    refine Ev_rn (q := (49, [(10, o0), (10, o1), (0, x2), u3], [], up m2 o0 6 (m2 o1 6))) 4 rfl ?_
    generalize e3 : up m2 o0 6 (m2 o1 6) = m3
    replace h := h m3 e3.symm
    refine Ev_rn (q := (53, [(10, o0), (10, o1), (0, x2), u3], [], up m3 o0 7 (m3 o1 7))) 4 rfl ?_
    generalize e4 : up m3 o0 7 (m3 o1 7) = m4
    replace h := h m4 e4.symm
    refine Ev_rn (q := (57, [(10, o0), (10, o1), (0, x2), u3], [], up m4 o0 8 (m4 o1 8))) 4 rfl ?_
    generalize e5 : up m4 o0 8 (m4 o1 8) = m5
    replace h := h m5 e5.symm
    refine Ev_rn (q := (64, [(10, o0), (10, o1), (0, x2), u3], [(0, 8), (0, 0), (164, o0 + 126), (0, 0), (164, o1 + 126)], m5)) 7 rfl ?_
    refine Ev_acp (ls := 8) (ld := 8) rfl (by decide) (by decide) (by decide) ?_
    generalize e6 : cpy m5 (o1 + 126) 0 (o0 + 126) 0 8 = m6
    replace h := h m6 e6.symm
    refine Ev_rn (q := (72, [(10, o0), (10, o1), (0, x2), u3], [(0, 8), (0, 0), (164, o0 + 127), (0, 0), (164, o1 + 127)], m6)) 7 rfl ?_
    refine Ev_acp (ls := 8) (ld := 8) rfl (by decide) (by decide) (by decide) ?_
    generalize e7 : cpy m6 (o1 + 127) 0 (o0 + 127) 0 8 = m7
    replace h := h m7 e7.symm
    exact Ev_ret rfl rfl h
  · replace h := h.2 hc
    refine Ev_rn (q := (24, [(10, o0), (10, o1), (0, x2), u3], [(0, 30), (0, w32 ((m o0 2) + x2))], m)) 5 rfl ?_
    refine Ev_irem rfl (by decide) ?_
    refine Ev_rn (q := (29, [(10, o0), (10, o1), (0, x2), (0, irm (w32 ((m o0 2) + x2)) 30)], [(0, irm (w32 ((m o0 2) + x2)) 30), (343, o0 + 5)], m)) 4 rfl ?_
    obtain ⟨hc, h⟩ := h
    refine Ev_aald3 (n := 30) rfl (by decide) (by decide) hc ?_
    refine Ev_rn (q := (33, [(10, o0), (10, o1), (0, x2), (0, irm (w32 ((m o0 2) + x2)) 30)], [(0, irm (w32 ((m o0 2) + x2)) 30), (343, o1 + 5), (13, (o0 + 5) + 1 + 4 * (irm (w32 ((m o0 2) + x2)) 30))], m)) 3 rfl ?_
    obtain ⟨hc, h⟩ := h
    refine Ev_aald3 (n := 30) rfl (by decide) (by decide) hc ?_
    obtain ⟨m8, hc, h⟩ := h
    refine Ev_call (rest := []) rfl rfl (Nat.le_of_ble_eq_true rfl) hc ?_
    refine Ev_rn (q := (15, [(10, o0), (10, o1), (0, w32 (x2 + 1)), (0, irm (w32 ((m o0 2) + x2)) 30)], [], m8)) 2 rfl ?_
    exact h
theorem b_Fa_markStep {d : Nat} {r : Option Vv × Mm} {m : Mm} {o0 : Int} (h : (¬ m o0 3 = 30 → Ev (d + 1) K_Fa_markStep 3 18 [(10, o0)] [] m r) ∧ (¬ (¬ m o0 3 = 30) → ∀ m1 : Mm, m1 = up m o0 2 (irm (w32 ((m o0 2) + 1)) 30) → (∀ m2 : Mm, m2 = up m1 o0 3 (w32 ((m1 o0 3) - 1)) → (Ev (d + 1) K_Fa_markStep 3 18 [(10, o0)] [] m2 r)))) : Ev (d + 1) K_Fa_markStep 3 0 [(10, o0)] [] m r := by
  refine Ev_rn (q := (3, [(10, o0)], [(0, 30), (0, m o0 3)], m)) 3 rfl ?_
  refine Ev_icmp rfl (fun hc => ?_) (fun hc => ?_)
  · replace h := h.1 hc
    exact h
  · replace h := h.2 hc
    refine Ev_rn (q := (10, [(10, o0)], [(0, 30), (0, w32 ((m o0 2) + 1)), (10, o0)], m)) 6 rfl ?_
    refine Ev_irem rfl (by decide) ?_
    refine Ev_rn (q := (12, [(10, o0)], [], up m o0 2 (irm (w32 ((m o0 2) + 1)) 30))) 1 rfl ?_
    generalize e1 : up m o0 2 (irm (w32 ((m o0 2) + 1)) 30) = m1
    replace h := h m1 e1.symm
    refine Ev_rn (q := (18, [(10, o0)], [], up m1 o0 3 (w32 ((m1 o0 3) - 1)))) 6 rfl ?_
    generalize e2 : up m1 o0 3 (w32 ((m1 o0 3) - 1)) = m2
    replace h := h m2 e2.symm
    exact h
theorem b_Fa_markStep_18 {d : Nat} {r : Option Vv × Mm} {m : Mm} {o0 : Int} (h : (0 ≤ irm (w32 ((m o0 2) + (m o0 3))) 30 ∧ irm (w32 ((m o0 2) + (m o0 3))) 30 < 30) ∧ (∃ (m1 : Mm), Cl d k_La_copyFrom [(13, (o0 + 5) + 1 + 4 * (irm (w32 ((m o0 2) + (m o0 3))) 30)), (13, o0 + 1)] m (none, m1) ∧ (∀ m2 : Mm, m2 = up m1 o0 3 (w32 ((m1 o0 3) + 1)) → (r = (none, m2))))) : Ev (d + 1) K_Fa_markStep 3 18 [(10, o0)] [] m r := by
  refine Ev_rn (q := (26, [(10, o0)], [(0, 30), (0, w32 ((m o0 2) + (m o0 3))), (343, o0 + 5)], m)) 8 rfl ?_
  refine Ev_irem rfl (by decide) ?_
  obtain ⟨hc, h⟩ := h
  refine Ev_aald3 (n := 30) rfl (by decide) (by decide) hc ?_
  refine Ev_rn (q := (30, [(10, o0)], [(13, o0 + 1), (13, (o0 + 5) + 1 + 4 * (irm (w32 ((m o0 2) + (m o0 3))) 30))], m)) 2 rfl ?_
  obtain ⟨m1, hc, h⟩ := h
  refine Ev_call (rest := []) rfl rfl (Nat.le_of_ble_eq_true rfl) hc ?_
  refine Ev_rn (q := (37, [(10, o0)], [], up m1 o0 3 (w32 ((m1 o0 3) + 1)))) 6 rfl ?_
  generalize e2 : up m1 o0 3 (w32 ((m1 o0 3) + 1)) = m2
  replace h := h m2 e2.symm
  exact Ev_ret rfl rfl h
theorem b_Fa_takeBack {d : Nat} {r : Option Vv × Mm} {m : Mm} {o0 : Int} (h : (¬ m o0 3 = 0 → ∀ m1 : Mm, m1 = up m o0 3 (w32 ((m o0 3) - 1)) → ((0 ≤ irm (w32 ((m1 o0 2) + (m1 o0 3))) 30 ∧ irm (w32 ((m1 o0 2) + (m1 o0 3))) 30 < 30) ∧ (∃ (m2 : Mm), Cl d k_La_takeBackTo [(13, o0 + 1), (13, (o0 + 5) + 1 + 4 * (irm (w32 ((m1 o0 2) + (m1 o0 3))) 30))] m1 (none, m2) ∧ (r = (some (0, 1), m2))))) ∧ (¬ (¬ m o0 3 = 0) → r = (some (0, 0), m))) : Ev (d + 1) K_Fa_takeBack 2 0 [(10, o0)] [] m r := by
  refine Ev_rn (q := (2, [(10, o0)], [(0, m o0 3)], m)) 2 rfl ?_
  refine Ev_if rfl (fun hc => ?_) (fun hc => ?_)
  · replace h := h.1 hc
    refine Ev_rn (q := (11, [(10, o0)], [], up m o0 3 (w32 ((m o0 3) - 1)))) 6 rfl ?_
    generalize e1 : up m o0 3 (w32 ((m o0 3) - 1)) = m1
    replace h := h m1 e1.symm
    refine Ev_rn (q := (21, [(10, o0)], [(0, 30), (0, w32 ((m1 o0 2) + (m1 o0 3))), (343, o0 + 5), (13, o0 + 1)], m1)) 10 rfl ?_
    refine Ev_irem rfl (by decide) ?_
    obtain ⟨hc, h⟩ := h
    refine Ev_aald3 (n := 30) rfl (by decide) (by decide) hc ?_
    obtain ⟨m2, hc, h⟩ := h
    refine Ev_call (rest := []) rfl rfl (Nat.le_of_ble_eq_true rfl) hc ?_
    refine Ev_rn (q := (25, [(10, o0)], [(0, 1)], m2)) 1 rfl ?_
    exact Ev_zret rfl rfl (by decide) h
  · replace h := h.2 hc
    refine Ev_rn (q := (4, [(10, o0)], [(0, 0)], m)) 1 rfl ?_
    exact Ev_zret rfl rfl (by decide) h
theorem b_Ha_isTurn {d : Nat} {r : Option Vv × Mm} {m : Mm} {x0 : Int} (h : (x0 < 0 → r = (some (0, 0), m)) ∧ (¬ (x0 < 0) → (8 ≤ x0 → r = (some (0, 0), m)) ∧ (¬ (8 ≤ x0) → r = (some (0, 1), m)))) : Ev d K_Ha_isTurn 2 0 [(0, x0)] [] m r := by
  refine Ev_rn (q := (1, [(0, x0)], [(0, x0)], m)) 1 rfl ?_
  refine Ev_if rfl (fun hc => ?_) (fun hc => ?_)
  · replace h := h.1 hc
    refine Ev_rn (q := (8, [(0, x0)], [(0, 0)], m)) 1 rfl ?_
    exact Ev_zret rfl rfl (by decide) h
  · replace h := h.2 hc
    refine Ev_rn (q := (4, [(0, x0)], [(0, 8), (0, x0)], m)) 2 rfl ?_
    refine Ev_icmp rfl (fun hc => ?_) (fun hc => ?_)
    · replace h := h.1 hc
      refine Ev_rn (q := (8, [(0, x0)], [(0, 0)], m)) 1 rfl ?_
      exact Ev_zret rfl rfl (by decide) h
    · replace h := h.2 hc
      refine Ev_rn (q := (8, [(0, x0)], [(0, 1)], m)) 2 rfl ?_
      exact Ev_zret rfl rfl (by decide) h
theorem b_Ha_eastOf {d : Nat} {r : Option Vv × Mm} {m : Mm} {x0 : Int} (h : r = (some (0, w32 (lan x0 1048575)), m)) : Ev d K_Ha_eastOf 0 0 [(1, x0), (9, 0)] [] m r := by
  refine Ev_rn (q := (4, [(1, x0), (9, 0)], [(0, w32 (lan x0 1048575))], m)) 4 rfl ?_
  exact Ev_ret rfl rfl h
theorem b_Ha_southOf {d : Nat} {r : Option Vv × Mm} {m : Mm} {x0 : Int} (h : r = (some (0, w32 (lan (lsr x0 20) 1048575)), m)) : Ev d K_Ha_southOf 0 0 [(1, x0), (9, 0)] [] m r := by
  refine Ev_rn (q := (6, [(1, x0), (9, 0)], [(0, w32 (lan (lsr x0 20) 1048575))], m)) 6 rfl ?_
  exact Ev_ret rfl rfl h
theorem b_Ha_keep {d : Nat} {r : Option Vv × Mm} {m : Mm} {x1 x2 : Int} (h : Ev (d + 1) K_Ha_keep 3 4 [(11, 1), (0, x1), (1, x2), (9, 0), (1, x2), (9, 0), (0, 0)] [] m r) : Ev (d + 1) K_Ha_keep 3 0 [(11, 1), (0, x1), (1, x2), (9, 0), (9, 0), (9, 0), (9, 0)] [] m r := by
  refine Ev_rn (q := (4, [(11, 1), (0, x1), (1, x2), (9, 0), (1, x2), (9, 0), (0, 0)], [], m)) 4 rfl ?_
  exact h
theorem b_Ha_keep_4 {d : Nat} {r : Option Vv × Mm} {m : Mm} {x1 x2 x4 x6 : Int} (h : (8 ≤ x6 → r = (none, m)) ∧ (¬ (8 ≤ x6) → (¬ x6 = 4 → Ev (d + 1) K_Ha_keep 3 13 [(11, 1), (0, x1), (1, x2), (9, 0), (1, x4), (9, 0), (0, x6)] [] m r) ∧ (¬ (¬ x6 = 4) → ∃ (v1 : Int) (m1 : Mm), Cl d k_Ha_mirrored [(1, x2)] m (some (1, v1), m1) ∧ (Ev (d + 1) K_Ha_keep 3 13 [(11, 1), (0, x1), (1, x2), (9, 0), (1, v1), (9, 0), (0, x6)] [] m1 r)))) : Ev (d + 1) K_Ha_keep 3 4 [(11, 1), (0, x1), (1, x2), (9, 0), (1, x4), (9, 0), (0, x6)] [] m r := by
  refine Ev_rn (q := (6, [(11, 1), (0, x1), (1, x2), (9, 0), (1, x4), (9, 0), (0, x6)], [(0, 8), (0, x6)], m)) 2 rfl ?_
  refine Ev_icmp rfl (fun hc => ?_) (fun hc => ?_)
  · replace h := h.1 hc
    exact Ev_ret rfl rfl h
  · replace h := h.2 hc
    refine Ev_rn (q := (9, [(11, 1), (0, x1), (1, x2), (9, 0), (1, x4), (9, 0), (0, x6)], [(0, 4), (0, x6)], m)) 2 rfl ?_
    refine Ev_icmp rfl (fun hc => ?_) (fun hc => ?_)
    · replace h := h.1 hc
      exact h
    · replace h := h.2 hc
      refine Ev_rn (q := (11, [(11, 1), (0, x1), (1, x2), (9, 0), (1, x4), (9, 0), (0, x6)], [(1, x2)], m)) 1 rfl ?_
      obtain ⟨v1, m1, hc, h⟩ := h
      refine Ev_call (rest := []) rfl rfl (Nat.le_of_ble_eq_true rfl) hc ?_
      refine Ev_rn (q := (13, [(11, 1), (0, x1), (1, x2), (9, 0), (1, v1), (9, 0), (0, x6)], [], m1)) 1 rfl ?_
      exact h
theorem b_Ha_keep_13 {d : Nat} {r : Option Vv × Mm} {m : Mm} {x1 x2 x4 x6 : Int} (h : (0 ≤ w32 ((w32 (x1 * 8)) + x6) ∧ w32 ((w32 (x1 * 8)) + x6) < 32) ∧ (∀ m1 : Mm, m1 = up m 2 (w32 ((w32 (x1 * 8)) + x6)) x4 → (∃ (v2 : Int) (m2 : Mm), Cl d k_Ha_quarterRight [(1, x4)] m1 (some (1, v2), m2) ∧ (Ev (d + 1) K_Ha_keep 3 4 [(11, 1), (0, x1), (1, x2), (9, 0), (1, v2), (9, 0), (0, w32 (x6 + 1))] [] m2 r)))) : Ev (d + 1) K_Ha_keep 3 13 [(11, 1), (0, x1), (1, x2), (9, 0), (1, x4), (9, 0), (0, x6)] [] m r := by
  refine Ev_rn (q := (21, [(11, 1), (0, x1), (1, x2), (9, 0), (1, x4), (9, 0), (0, x6)], [(1, x4), (0, w32 ((w32 (x1 * 8)) + x6)), (357, 2)], m)) 8 rfl ?_
  obtain ⟨hc, h⟩ := h
  refine Ev_last (n := 32) rfl (by decide) (by decide) hc ?_
  generalize e1 : up m 2 (w32 ((w32 (x1 * 8)) + x6)) x4 = m1
  replace h := h m1 e1.symm
  refine Ev_rn (q := (23, [(11, 1), (0, x1), (1, x2), (9, 0), (1, x4), (9, 0), (0, x6)], [(1, x4)], m1)) 1 rfl ?_
  obtain ⟨v2, m2, hc, h⟩ := h
  refine Ev_call (rest := []) rfl rfl (Nat.le_of_ble_eq_true rfl) hc ?_
  refine Ev_rn (q := (4, [(11, 1), (0, x1), (1, x2), (9, 0), (1, v2), (9, 0), (0, w32 (x6 + 1))], [], m2)) 3 rfl ?_
  exact h
theorem b_Ha_mirrored {d : Nat} {r : Option Vv × Mm} {m : Mm} {x0 : Int} (h : Ev (d + 1) K_Ha_mirrored 1 4 [(1, x0), (9, 0), (1, 0), (9, 0), (0, 0)] [] m r) : Ev (d + 1) K_Ha_mirrored 1 0 [(1, x0), (9, 0), (9, 0), (9, 0), (9, 0)] [] m r := by
  refine Ev_rn (q := (4, [(1, x0), (9, 0), (1, 0), (9, 0), (0, 0)], [], m)) 4 rfl ?_
  exact h
theorem b_Ha_mirrored_4 {d : Nat} {r : Option Vv × Mm} {m : Mm} {x0 x2 x4 : Int} (h : (40 ≤ x4 → r = (some (1, x2), m)) ∧ (¬ (40 ≤ x4) → (¬ lcm (lan (lsr x0 x4) 1) 1 = 0 → Ev (d + 1) K_Ha_mirrored 1 4 [(1, x0), (9, 0), (1, x2), (9, 0), (0, w32 (x4 + 1))] [] m r) ∧ (¬ (¬ lcm (lan (lsr x0 x4) 1) 1 = 0) → ∃ (v1 : Int) (m1 : Mm), Cl d k_Ha_mirroredHedge [(0, x4)] m (some (0, v1), m1) ∧ (Ev (d + 1) K_Ha_mirrored 1 4 [(1, x0), (9, 0), (1, lro x2 (lsl 1 v1)), (9, 0), (0, w32 (x4 + 1))] [] m1 r)))) : Ev (d + 1) K_Ha_mirrored 1 4 [(1, x0), (9, 0), (1, x2), (9, 0), (0, x4)] [] m r := by
  refine Ev_rn (q := (6, [(1, x0), (9, 0), (1, x2), (9, 0), (0, x4)], [(0, 40), (0, x4)], m)) 2 rfl ?_
  refine Ev_icmp rfl (fun hc => ?_) (fun hc => ?_)
  · replace h := h.1 hc
    refine Ev_rn (q := (25, [(1, x0), (9, 0), (1, x2), (9, 0), (0, x4)], [(1, x2)], m)) 1 rfl ?_
    exact Ev_ret rfl rfl h
  · replace h := h.2 hc
    refine Ev_rn (q := (14, [(1, x0), (9, 0), (1, x2), (9, 0), (0, x4)], [(0, lcm (lan (lsr x0 x4) 1) 1)], m)) 7 rfl ?_
    refine Ev_if rfl (fun hc => ?_) (fun hc => ?_)
    · replace h := h.1 hc
      refine Ev_rn (q := (4, [(1, x0), (9, 0), (1, x2), (9, 0), (0, w32 (x4 + 1))], [], m)) 2 rfl ?_
      exact h
    · replace h := h.2 hc
      refine Ev_rn (q := (18, [(1, x0), (9, 0), (1, x2), (9, 0), (0, x4)], [(0, x4), (1, 1), (1, x2)], m)) 3 rfl ?_
      obtain ⟨v1, m1, hc, h⟩ := h
      refine Ev_call (rest := [(1, 1), (1, x2)]) rfl rfl (Nat.le_of_ble_eq_true rfl) hc ?_
      refine Ev_rn (q := (4, [(1, x0), (9, 0), (1, lro x2 (lsl 1 v1)), (9, 0), (0, w32 (x4 + 1))], [], m1)) 5 rfl ?_
      exact h
theorem b_Ha_mirroredHedge {d : Nat} {r : Option Vv × Mm} {m : Mm} {x0 : Int} (h : ∃ (v1 : Int) (m1 : Mm), Cl d k_Pl_firstCell [(0, x0)] m (some (0, v1), m1) ∧ ((20 ≤ x0 → r = (some (0, w32 ((w32 (x0 - (irm v1 5))) + (w32 (4 - (irm v1 5))))), m1)) ∧ (¬ (20 ≤ x0) → r = (some (0, w32 ((w32 (x0 - (irm v1 5))) + (w32 (3 - (irm v1 5))))), m1)))) : Ev (d + 1) K_Ha_mirroredHedge 0 0 [(0, x0), (9, 0), (9, 0)] [] m r := by
  refine Ev_rn (q := (1, [(0, x0), (9, 0), (9, 0)], [(0, x0)], m)) 1 rfl ?_
  obtain ⟨v1, m1, hc, h⟩ := h
  refine Ev_call (rest := []) rfl rfl (Nat.le_of_ble_eq_true rfl) hc ?_
  refine Ev_rn (q := (3, [(0, x0), (9, 0), (9, 0)], [(0, 5), (0, v1)], m1)) 1 rfl ?_
  refine Ev_irem rfl (by decide) ?_
  refine Ev_rn (q := (7, [(0, x0), (0, irm v1 5), (9, 0)], [(0, 20), (0, x0)], m1)) 3 rfl ?_
  refine Ev_icmp rfl (fun hc => ?_) (fun hc => ?_)
  · replace h := h.1 hc
    refine Ev_rn (q := (19, [(0, x0), (0, irm v1 5), (0, 4)], [(0, w32 ((w32 (x0 - (irm v1 5))) + (w32 (4 - (irm v1 5)))))], m1)) 9 rfl ?_
    exact Ev_ret rfl rfl h
  · replace h := h.2 hc
    refine Ev_rn (q := (19, [(0, x0), (0, irm v1 5), (0, 3)], [(0, w32 ((w32 (x0 - (irm v1 5))) + (w32 (3 - (irm v1 5)))))], m1)) 10 rfl ?_
    exact Ev_ret rfl rfl h
theorem b_Ha_quarterRight {d : Nat} {r : Option Vv × Mm} {m : Mm} {x0 : Int} (h : Ev (d + 1) K_Ha_quarterRight 1 4 [(1, x0), (9, 0), (1, 0), (9, 0), (0, 0)] [] m r) : Ev (d + 1) K_Ha_quarterRight 1 0 [(1, x0), (9, 0), (9, 0), (9, 0), (9, 0)] [] m r := by
  refine Ev_rn (q := (4, [(1, x0), (9, 0), (1, 0), (9, 0), (0, 0)], [], m)) 4 rfl ?_
  exact h
theorem b_Ha_quarterRight_4 {d : Nat} {r : Option Vv × Mm} {m : Mm} {x0 x2 x4 : Int} (h : (40 ≤ x4 → r = (some (1, x2), m)) ∧ (¬ (40 ≤ x4) → (¬ lcm (lan (lsr x0 x4) 1) 1 = 0 → Ev (d + 1) K_Ha_quarterRight 1 4 [(1, x0), (9, 0), (1, x2), (9, 0), (0, w32 (x4 + 1))] [] m r) ∧ (¬ (¬ lcm (lan (lsr x0 x4) 1) 1 = 0) → ∃ (v1 : Int) (m1 : Mm), Cl d k_Ha_quarterHedge [(0, x4)] m (some (0, v1), m1) ∧ (Ev (d + 1) K_Ha_quarterRight 1 4 [(1, x0), (9, 0), (1, lro x2 (lsl 1 v1)), (9, 0), (0, w32 (x4 + 1))] [] m1 r)))) : Ev (d + 1) K_Ha_quarterRight 1 4 [(1, x0), (9, 0), (1, x2), (9, 0), (0, x4)] [] m r := by
  refine Ev_rn (q := (6, [(1, x0), (9, 0), (1, x2), (9, 0), (0, x4)], [(0, 40), (0, x4)], m)) 2 rfl ?_
  refine Ev_icmp rfl (fun hc => ?_) (fun hc => ?_)
  · replace h := h.1 hc
    refine Ev_rn (q := (25, [(1, x0), (9, 0), (1, x2), (9, 0), (0, x4)], [(1, x2)], m)) 1 rfl ?_
    exact Ev_ret rfl rfl h
  · replace h := h.2 hc
    refine Ev_rn (q := (14, [(1, x0), (9, 0), (1, x2), (9, 0), (0, x4)], [(0, lcm (lan (lsr x0 x4) 1) 1)], m)) 7 rfl ?_
    refine Ev_if rfl (fun hc => ?_) (fun hc => ?_)
    · replace h := h.1 hc
      refine Ev_rn (q := (4, [(1, x0), (9, 0), (1, x2), (9, 0), (0, w32 (x4 + 1))], [], m)) 2 rfl ?_
      exact h
    · replace h := h.2 hc
      refine Ev_rn (q := (18, [(1, x0), (9, 0), (1, x2), (9, 0), (0, x4)], [(0, x4), (1, 1), (1, x2)], m)) 3 rfl ?_
      obtain ⟨v1, m1, hc, h⟩ := h
      refine Ev_call (rest := [(1, 1), (1, x2)]) rfl rfl (Nat.le_of_ble_eq_true rfl) hc ?_
      refine Ev_rn (q := (4, [(1, x0), (9, 0), (1, lro x2 (lsl 1 v1)), (9, 0), (0, w32 (x4 + 1))], [], m1)) 5 rfl ?_
      exact h
theorem b_Ha_quarterHedge {d : Nat} {r : Option Vv × Mm} {m : Mm} {x0 : Int} (h : ∃ (v1 : Int) (m1 : Mm), Cl d k_Pl_firstCell [(0, x0)] m (some (0, v1), m1) ∧ ((20 ≤ x0 → r = (some (0, w32 ((w32 ((irm v1 5) * 4)) + (w32 (3 - (idv v1 5))))), m1)) ∧ (¬ (20 ≤ x0) → r = (some (0, w32 ((w32 (20 + (w32 ((irm v1 5) * 5)))) + (w32 (4 - (idv v1 5))))), m1)))) : Ev (d + 1) K_Ha_quarterHedge 0 0 [(0, x0), (9, 0), (9, 0), (9, 0)] [] m r := by
  refine Ev_rn (q := (1, [(0, x0), (9, 0), (9, 0), (9, 0)], [(0, x0)], m)) 1 rfl ?_
  obtain ⟨v1, m1, hc, h⟩ := h
  refine Ev_call (rest := []) rfl rfl (Nat.le_of_ble_eq_true rfl) hc ?_
  refine Ev_rn (q := (5, [(0, x0), (0, v1), (9, 0), (9, 0)], [(0, 5), (0, v1)], m1)) 3 rfl ?_
  refine Ev_idiv rfl (by decide) ?_
  refine Ev_rn (q := (9, [(0, x0), (0, v1), (0, idv v1 5), (9, 0)], [(0, 5), (0, v1)], m1)) 3 rfl ?_
  refine Ev_irem rfl (by decide) ?_
  refine Ev_rn (q := (13, [(0, x0), (0, v1), (0, idv v1 5), (0, irm v1 5)], [(0, 20), (0, x0)], m1)) 3 rfl ?_
  refine Ev_icmp rfl (fun hc => ?_) (fun hc => ?_)
  · replace h := h.1 hc
    refine Ev_rn (q := (31, [(0, x0), (0, v1), (0, idv v1 5), (0, irm v1 5)], [(0, w32 ((w32 ((irm v1 5) * 4)) + (w32 (3 - (idv v1 5)))))], m1)) 7 rfl ?_
    exact Ev_ret rfl rfl h
  · replace h := h.2 hc
    refine Ev_rn (q := (23, [(0, x0), (0, v1), (0, idv v1 5), (0, irm v1 5)], [(0, w32 ((w32 (20 + (w32 ((irm v1 5) * 5)))) + (w32 (4 - (idv v1 5)))))], m1)) 9 rfl ?_
    exact Ev_ret rfl rfl h
theorem b_Ha_pattern {d : Nat} {r : Option Vv × Mm} {m : Mm} {x1 x2 : Int} (h : (0 ≤ w32 ((w32 (x1 * 8)) + x2) ∧ w32 ((w32 (x1 * 8)) + x2) < 32) ∧ (r = (some (1, m 2 (w32 ((w32 (x1 * 8)) + x2))), m))) : Ev d K_Ha_pattern 1 0 [(11, 1), (0, x1), (0, x2)] [] m r := by
  refine Ev_rn (q := (7, [(11, 1), (0, x1), (0, x2)], [(0, w32 ((w32 (x1 * 8)) + x2)), (357, 2)], m)) 7 rfl ?_
  obtain ⟨hc, h⟩ := h
  refine Ev_lald (n := 32) rfl (by decide) (by decide) hc ?_
  exact Ev_ret rfl rfl h
theorem b_Ha_unlikeness {d : Nat} {r : Option Vv × Mm} {m : Mm} {x1 x2 x3 : Int} (h : ∃ (v1 : Int) (m1 : Mm), Cl d k_Ha_pattern [(11, 1), (0, x1), (0, x2)] m (some (1, v1), m1) ∧ (∃ (v2 : Int) (m2 : Mm), Cl d k_Lo_bitCount [(1, lxo v1 x3)] m1 (some (0, v2), m2) ∧ (r = (some (0, v2), m2)))) : Ev (d + 1) K_Ha_unlikeness 0 0 [(11, 1), (0, x1), (0, x2), (1, x3), (9, 0)] [] m r := by
  refine Ev_rn (q := (3, [(11, 1), (0, x1), (0, x2), (1, x3), (9, 0)], [(0, x2), (0, x1), (11, 1)], m)) 3 rfl ?_
  obtain ⟨v1, m1, hc, h⟩ := h
  refine Ev_call (rest := []) rfl rfl (Nat.le_of_ble_eq_true rfl) hc ?_
  refine Ev_rn (q := (6, [(11, 1), (0, x1), (0, x2), (1, x3), (9, 0)], [(1, lxo v1 x3)], m1)) 2 rfl ?_
  obtain ⟨v2, m2, hc, h⟩ := h
  refine Ev_call (rest := []) rfl rfl (Nat.le_of_ble_eq_true rfl) hc ?_
  exact Ev_ret rfl rfl h
theorem b_Ha_likestTurn {d : Nat} {r : Option Vv × Mm} {m : Mm} {x1 x2 : Int} (h : Ev (d + 1) K_Ha_likestTurn 0 4 [(11, 1), (0, x1), (1, x2), (9, 0), (0, 0), (0, 1)] [] m r) : Ev (d + 1) K_Ha_likestTurn 0 0 [(11, 1), (0, x1), (1, x2), (9, 0), (9, 0), (9, 0)] [] m r := by
  refine Ev_rn (q := (4, [(11, 1), (0, x1), (1, x2), (9, 0), (0, 0), (0, 1)], [], m)) 4 rfl ?_
  exact h
theorem b_Ha_likestTurn_4 {d : Nat} {r : Option Vv × Mm} {m : Mm} {x1 x2 x4 x5 : Int} (h : (8 ≤ x5 → r = (some (0, x4), m)) ∧ (¬ (8 ≤ x5) → ∃ (v1 : Int) (m1 : Mm), Cl d k_Ha_unlikeness [(11, 1), (0, x1), (0, x5), (1, x2)] m (some (0, v1), m1) ∧ (∃ (v2 : Int) (m2 : Mm), Cl d k_Ha_unlikeness [(11, 1), (0, x1), (0, x4), (1, x2)] m1 (some (0, v2), m2) ∧ ((v2 ≤ v1 → Ev (d + 1) K_Ha_likestTurn 0 4 [(11, 1), (0, x1), (1, x2), (9, 0), (0, x4), (0, w32 (x5 + 1))] [] m2 r) ∧ (¬ (v2 ≤ v1) → Ev (d + 1) K_Ha_likestTurn 0 4 [(11, 1), (0, x1), (1, x2), (9, 0), (0, x5), (0, w32 (x5 + 1))] [] m2 r))))) : Ev (d + 1) K_Ha_likestTurn 0 4 [(11, 1), (0, x1), (1, x2), (9, 0), (0, x4), (0, x5)] [] m r := by
  refine Ev_rn (q := (6, [(11, 1), (0, x1), (1, x2), (9, 0), (0, x4), (0, x5)], [(0, 8), (0, x5)], m)) 2 rfl ?_
  refine Ev_icmp rfl (fun hc => ?_) (fun hc => ?_)
  · replace h := h.1 hc
    refine Ev_rn (q := (23, [(11, 1), (0, x1), (1, x2), (9, 0), (0, x4), (0, x5)], [(0, x4)], m)) 1 rfl ?_
    exact Ev_ret rfl rfl h
  · replace h := h.2 hc
    refine Ev_rn (q := (11, [(11, 1), (0, x1), (1, x2), (9, 0), (0, x4), (0, x5)], [(1, x2), (0, x5), (0, x1), (11, 1)], m)) 4 rfl ?_
    obtain ⟨v1, m1, hc, h⟩ := h
    refine Ev_call (rest := []) rfl rfl (Nat.le_of_ble_eq_true rfl) hc ?_
    refine Ev_rn (q := (16, [(11, 1), (0, x1), (1, x2), (9, 0), (0, x4), (0, x5)], [(1, x2), (0, x4), (0, x1), (11, 1), (0, v1)], m1)) 4 rfl ?_
    obtain ⟨v2, m2, hc, h⟩ := h
    refine Ev_call (rest := [(0, v1)]) rfl rfl (Nat.le_of_ble_eq_true rfl) hc ?_
    refine Ev_icmp rfl (fun hc => ?_) (fun hc => ?_)
    · replace h := h.1 hc
      refine Ev_rn (q := (4, [(11, 1), (0, x1), (1, x2), (9, 0), (0, x4), (0, w32 (x5 + 1))], [], m2)) 2 rfl ?_
      exact h
    · replace h := h.2 hc
      refine Ev_rn (q := (4, [(11, 1), (0, x1), (1, x2), (9, 0), (0, x5), (0, w32 (x5 + 1))], [], m2)) 4 rfl ?_
      exact h
theorem b_Ha_turnInto {d : Nat} {r : Option Vv × Mm} {m : Mm} {x1 x2 : Int} (h : Ev (d + 1) K_Ha_turnInto 0 2 [(11, 1), (0, x1), (0, x2), (0, 0)] [] m r) : Ev (d + 1) K_Ha_turnInto 0 0 [(11, 1), (0, x1), (0, x2), (9, 0)] [] m r := by
  refine Ev_rn (q := (2, [(11, 1), (0, x1), (0, x2), (0, 0)], [], m)) 2 rfl ?_
  exact h
theorem b_Ha_turnInto_2 {d : Nat} {r : Option Vv × Mm} {m : Mm} {x1 x2 x3 : Int} (h : (8 ≤ x3 → r = (some (0, (-1)), m)) ∧ (¬ (8 ≤ x3) → ∃ (v1 : Int) (m1 : Mm), Cl d k_Ha_pattern [(11, 1), (0, x1), (0, x3)] m (some (1, v1), m1) ∧ (∃ (v2 : Int) (m2 : Mm), Cl d k_Ha_pattern [(11, 1), (0, x2), (0, 0)] m1 (some (1, v2), m2) ∧ ((¬ lcm v1 v2 = 0 → Ev (d + 1) K_Ha_turnInto 0 2 [(11, 1), (0, x1), (0, x2), (0, w32 (x3 + 1))] [] m2 r) ∧ (¬ (¬ lcm v1 v2 = 0) → r = (some (0, x3), m2)))))) : Ev (d + 1) K_Ha_turnInto 0 2 [(11, 1), (0, x1), (0, x2), (0, x3)] [] m r := by
  refine Ev_rn (q := (4, [(11, 1), (0, x1), (0, x2), (0, x3)], [(0, 8), (0, x3)], m)) 2 rfl ?_
  refine Ev_icmp rfl (fun hc => ?_) (fun hc => ?_)
  · replace h := h.1 hc
    refine Ev_rn (q := (20, [(11, 1), (0, x1), (0, x2), (0, x3)], [(0, (-1))], m)) 1 rfl ?_
    exact Ev_ret rfl rfl h
  · replace h := h.2 hc
    refine Ev_rn (q := (8, [(11, 1), (0, x1), (0, x2), (0, x3)], [(0, x3), (0, x1), (11, 1)], m)) 3 rfl ?_
    obtain ⟨v1, m1, hc, h⟩ := h
    refine Ev_call (rest := []) rfl rfl (Nat.le_of_ble_eq_true rfl) hc ?_
    refine Ev_rn (q := (12, [(11, 1), (0, x1), (0, x2), (0, x3)], [(0, 0), (0, x2), (11, 1), (1, v1)], m1)) 3 rfl ?_
    obtain ⟨v2, m2, hc, h⟩ := h
    refine Ev_call (rest := [(1, v1)]) rfl rfl (Nat.le_of_ble_eq_true rfl) hc ?_
    refine Ev_rn (q := (14, [(11, 1), (0, x1), (0, x2), (0, x3)], [(0, lcm v1 v2)], m2)) 1 rfl ?_
    refine Ev_if rfl (fun hc => ?_) (fun hc => ?_)
    · replace h := h.1 hc
      refine Ev_rn (q := (2, [(11, 1), (0, x1), (0, x2), (0, w32 (x3 + 1))], [], m2)) 2 rfl ?_
      exact h
    · replace h := h.2 hc
      refine Ev_rn (q := (16, [(11, 1), (0, x1), (0, x2), (0, x3)], [(0, x3)], m2)) 1 rfl ?_
      exact Ev_ret rfl rfl h
theorem b_Ha_hasElderTwin {d : Nat} {r : Option Vv × Mm} {m : Mm} {x1 : Int} (h : Ev (d + 1) K_Ha_hasElderTwin 2 2 [(11, 1), (0, x1), (0, 0)] [] m r) : Ev (d + 1) K_Ha_hasElderTwin 2 0 [(11, 1), (0, x1), (9, 0)] [] m r := by
  refine Ev_rn (q := (2, [(11, 1), (0, x1), (0, 0)], [], m)) 2 rfl ?_
  exact h
theorem b_Ha_hasElderTwin_2 {d : Nat} {r : Option Vv × Mm} {m : Mm} {x1 x2 : Int} (h : (x1 ≤ x2 → r = (some (0, 0), m)) ∧ (¬ (x1 ≤ x2) → ∃ (v1 : Int) (m1 : Mm), Cl d k_Ha_turnInto [(11, 1), (0, x2), (0, x1)] m (some (0, v1), m1) ∧ ((v1 = (-1) → Ev (d + 1) K_Ha_hasElderTwin 2 2 [(11, 1), (0, x1), (0, w32 (x2 + 1))] [] m1 r) ∧ (¬ (v1 = (-1)) → r = (some (0, 1), m1))))) : Ev (d + 1) K_Ha_hasElderTwin 2 2 [(11, 1), (0, x1), (0, x2)] [] m r := by
  refine Ev_rn (q := (4, [(11, 1), (0, x1), (0, x2)], [(0, x1), (0, x2)], m)) 2 rfl ?_
  refine Ev_icmp rfl (fun hc => ?_) (fun hc => ?_)
  · replace h := h.1 hc
    refine Ev_rn (q := (16, [(11, 1), (0, x1), (0, x2)], [(0, 0)], m)) 1 rfl ?_
    exact Ev_zret rfl rfl (by decide) h
  · replace h := h.2 hc
    refine Ev_rn (q := (8, [(11, 1), (0, x1), (0, x2)], [(0, x1), (0, x2), (11, 1)], m)) 3 rfl ?_
    obtain ⟨v1, m1, hc, h⟩ := h
    refine Ev_call (rest := []) rfl rfl (Nat.le_of_ble_eq_true rfl) hc ?_
    refine Ev_rn (q := (10, [(11, 1), (0, x1), (0, x2)], [(0, (-1)), (0, v1)], m1)) 1 rfl ?_
    refine Ev_icmp rfl (fun hc => ?_) (fun hc => ?_)
    · replace h := h.1 hc
      refine Ev_rn (q := (2, [(11, 1), (0, x1), (0, w32 (x2 + 1))], [], m1)) 2 rfl ?_
      exact h
    · replace h := h.2 hc
      refine Ev_rn (q := (12, [(11, 1), (0, x1), (0, x2)], [(0, 1)], m1)) 1 rfl ?_
      exact Ev_zret rfl rfl (by decide) h
theorem b_Ha_selfTurns {d : Nat} {r : Option Vv × Mm} {m : Mm} {x1 : Int} (h : Ev (d + 1) K_Ha_selfTurns 0 4 [(11, 1), (0, x1), (0, 0), (0, 0)] [] m r) : Ev (d + 1) K_Ha_selfTurns 0 0 [(11, 1), (0, x1), (9, 0), (9, 0)] [] m r := by
  refine Ev_rn (q := (4, [(11, 1), (0, x1), (0, 0), (0, 0)], [], m)) 4 rfl ?_
  exact h
theorem b_Ha_selfTurns_4 {d : Nat} {r : Option Vv × Mm} {m : Mm} {x1 x2 x3 : Int} (h : (8 ≤ x3 → r = (some (0, x2), m)) ∧ (¬ (8 ≤ x3) → ∃ (v1 : Int) (m1 : Mm), Cl d k_Ha_pattern [(11, 1), (0, x1), (0, x3)] m (some (1, v1), m1) ∧ (∃ (v2 : Int) (m2 : Mm), Cl d k_Ha_pattern [(11, 1), (0, x1), (0, 0)] m1 (some (1, v2), m2) ∧ ((¬ lcm v1 v2 = 0 → Ev (d + 1) K_Ha_selfTurns 0 4 [(11, 1), (0, x1), (0, x2), (0, w32 (x3 + 1))] [] m2 r) ∧ (¬ (¬ lcm v1 v2 = 0) → Ev (d + 1) K_Ha_selfTurns 0 4 [(11, 1), (0, x1), (0, w32 (x2 + 1)), (0, w32 (x3 + 1))] [] m2 r))))) : Ev (d + 1) K_Ha_selfTurns 0 4 [(11, 1), (0, x1), (0, x2), (0, x3)] [] m r := by
  refine Ev_rn (q := (6, [(11, 1), (0, x1), (0, x2), (0, x3)], [(0, 8), (0, x3)], m)) 2 rfl ?_
  refine Ev_icmp rfl (fun hc => ?_) (fun hc => ?_)
  · replace h := h.1 hc
    refine Ev_rn (q := (21, [(11, 1), (0, x1), (0, x2), (0, x3)], [(0, x2)], m)) 1 rfl ?_
    exact Ev_ret rfl rfl h
  · replace h := h.2 hc
    refine Ev_rn (q := (10, [(11, 1), (0, x1), (0, x2), (0, x3)], [(0, x3), (0, x1), (11, 1)], m)) 3 rfl ?_
    obtain ⟨v1, m1, hc, h⟩ := h
    refine Ev_call (rest := []) rfl rfl (Nat.le_of_ble_eq_true rfl) hc ?_
    refine Ev_rn (q := (14, [(11, 1), (0, x1), (0, x2), (0, x3)], [(0, 0), (0, x1), (11, 1), (1, v1)], m1)) 3 rfl ?_
    obtain ⟨v2, m2, hc, h⟩ := h
    refine Ev_call (rest := [(1, v1)]) rfl rfl (Nat.le_of_ble_eq_true rfl) hc ?_
    refine Ev_rn (q := (16, [(11, 1), (0, x1), (0, x2), (0, x3)], [(0, lcm v1 v2)], m2)) 1 rfl ?_
    refine Ev_if rfl (fun hc => ?_) (fun hc => ?_)
    · replace h := h.1 hc
      refine Ev_rn (q := (4, [(11, 1), (0, x1), (0, x2), (0, w32 (x3 + 1))], [], m2)) 2 rfl ?_
      exact h
    · replace h := h.2 hc
      refine Ev_rn (q := (4, [(11, 1), (0, x1), (0, w32 (x2 + 1)), (0, w32 (x3 + 1))], [], m2)) 3 rfl ?_
      exact h
theorem b_Ha_partingHedge {d : Nat} {r : Option Vv × Mm} {m : Mm} {x1 x2 x4 : Int} (h : ∃ (v1 : Int) (m1 : Mm), Cl d k_Ha_likePatterns [(11, 1), (0, x1), (1, x2), (0, x4), (0, (-1))] m (some (0, v1), m1) ∧ ((2 ≤ v1 → Ev (d + 1) K_Ha_partingHedge 0 20 [(11, 1), (0, x1), (1, x2), (9, 0), (0, x4), (0, v1), (0, (-1)), (0, w32 (v1 + 1)), (0, 0), (9, 0), (9, 0)] [] m1 r) ∧ (¬ (2 ≤ v1) → r = (some (0, (-1)), m1)))) : Ev (d + 1) K_Ha_partingHedge 0 0 [(11, 1), (0, x1), (1, x2), (9, 0), (0, x4), (9, 0), (9, 0), (9, 0), (9, 0), (9, 0), (9, 0)] [] m r := by
  refine Ev_rn (q := (5, [(11, 1), (0, x1), (1, x2), (9, 0), (0, x4), (9, 0), (9, 0), (9, 0), (9, 0), (9, 0), (9, 0)], [(0, (-1)), (0, x4), (1, x2), (0, x1), (11, 1)], m)) 5 rfl ?_
  obtain ⟨v1, m1, hc, h⟩ := h
  refine Ev_call (rest := []) rfl rfl (Nat.le_of_ble_eq_true rfl) hc ?_
  refine Ev_rn (q := (9, [(11, 1), (0, x1), (1, x2), (9, 0), (0, x4), (0, v1), (9, 0), (9, 0), (9, 0), (9, 0), (9, 0)], [(0, 2), (0, v1)], m1)) 3 rfl ?_
  refine Ev_icmp rfl (fun hc => ?_) (fun hc => ?_)
  · replace h := h.1 hc
    refine Ev_rn (q := (20, [(11, 1), (0, x1), (1, x2), (9, 0), (0, x4), (0, v1), (0, (-1)), (0, w32 (v1 + 1)), (0, 0), (9, 0), (9, 0)], [], m1)) 8 rfl ?_
    exact h
  · replace h := h.2 hc
    refine Ev_rn (q := (11, [(11, 1), (0, x1), (1, x2), (9, 0), (0, x4), (0, v1), (9, 0), (9, 0), (9, 0), (9, 0), (9, 0)], [(0, (-1))], m1)) 1 rfl ?_
    exact Ev_ret rfl rfl h
theorem b_Ha_partingHedge_20 {d : Nat} {r : Option Vv × Mm} {m : Mm} {x1 x2 x4 x5 x6 x7 x8 : Int} {u9 u10 : Vv} (h : (40 ≤ x8 → r = (some (0, x6), m)) ∧ (¬ (40 ≤ x8) → ∃ (v1 : Int) (m1 : Mm), Cl d k_Ha_likePatterns [(11, 1), (0, x1), (1, x2), (0, x4), (0, x8)] m (some (0, v1), m1) ∧ ((x7 ≤ max v1 (w32 (x5 - v1)) → Ev (d + 1) K_Ha_partingHedge 0 20 [(11, 1), (0, x1), (1, x2), (9, 0), (0, x4), (0, x5), (0, x6), (0, x7), (0, w32 (x8 + 1)), (0, v1), (0, max v1 (w32 (x5 - v1)))] [] m1 r) ∧ (¬ (x7 ≤ max v1 (w32 (x5 - v1))) → Ev (d + 1) K_Ha_partingHedge 0 20 [(11, 1), (0, x1), (1, x2), (9, 0), (0, x4), (0, x5), (0, x8), (0, max v1 (w32 (x5 - v1))), (0, w32 (x8 + 1)), (0, v1), (0, max v1 (w32 (x5 - v1)))] [] m1 r)))) : Ev (d + 1) K_Ha_partingHedge 0 20 [(11, 1), (0, x1), (1, x2), (9, 0), (0, x4), (0, x5), (0, x6), (0, x7), (0, x8), u9, u10] [] m r := by
  refine Ev_rn (q := (22, [(11, 1), (0, x1), (1, x2), (9, 0), (0, x4), (0, x5), (0, x6), (0, x7), (0, x8), u9, u10], [(0, 40), (0, x8)], m)) 2 rfl ?_
  refine Ev_icmp rfl (fun hc => ?_) (fun hc => ?_)
  · replace h := h.1 hc
    refine Ev_rn (q := (46, [(11, 1), (0, x1), (1, x2), (9, 0), (0, x4), (0, x5), (0, x6), (0, x7), (0, x8), u9, u10], [(0, x6)], m)) 1 rfl ?_
    exact Ev_ret rfl rfl h
  · replace h := h.2 hc
    refine Ev_rn (q := (28, [(11, 1), (0, x1), (1, x2), (9, 0), (0, x4), (0, x5), (0, x6), (0, x7), (0, x8), u9, u10], [(0, x8), (0, x4), (1, x2), (0, x1), (11, 1)], m)) 5 rfl ?_
    obtain ⟨v1, m1, hc, h⟩ := h
    refine Ev_call (rest := []) rfl rfl (Nat.le_of_ble_eq_true rfl) hc ?_
    refine Ev_rn (q := (38, [(11, 1), (0, x1), (1, x2), (9, 0), (0, x4), (0, x5), (0, x6), (0, x7), (0, x8), (0, v1), (0, max v1 (w32 (x5 - v1)))], [(0, x7), (0, max v1 (w32 (x5 - v1)))], m1)) 9 rfl ?_
    refine Ev_icmp rfl (fun hc => ?_) (fun hc => ?_)
    · replace h := h.1 hc
      refine Ev_rn (q := (20, [(11, 1), (0, x1), (1, x2), (9, 0), (0, x4), (0, x5), (0, x6), (0, x7), (0, w32 (x8 + 1)), (0, v1), (0, max v1 (w32 (x5 - v1)))], [], m1)) 2 rfl ?_
      exact h
    · replace h := h.2 hc
      refine Ev_rn (q := (20, [(11, 1), (0, x1), (1, x2), (9, 0), (0, x4), (0, x5), (0, x8), (0, max v1 (w32 (x5 - v1))), (0, w32 (x8 + 1)), (0, v1), (0, max v1 (w32 (x5 - v1)))], [], m1)) 6 rfl ?_
      exact h
theorem b_Ha_likePatterns {d : Nat} {r : Option Vv × Mm} {m : Mm} {x1 x2 x4 x5 : Int} (h : Ev (d + 1) K_Ha_likePatterns 0 4 [(11, 1), (0, x1), (1, x2), (9, 0), (0, x4), (0, x5), (0, 0), (0, 0), (9, 0)] [] m r) : Ev (d + 1) K_Ha_likePatterns 0 0 [(11, 1), (0, x1), (1, x2), (9, 0), (0, x4), (0, x5), (9, 0), (9, 0), (9, 0)] [] m r := by
  refine Ev_rn (q := (4, [(11, 1), (0, x1), (1, x2), (9, 0), (0, x4), (0, x5), (0, 0), (0, 0), (9, 0)], [], m)) 4 rfl ?_
  exact h
theorem b_Ha_likePatterns_4 {d : Nat} {r : Option Vv × Mm} {m : Mm} {x1 x2 x4 x5 x6 x7 : Int} {u8 : Vv} (h : (w32 (x1 * 8) ≤ x7 → r = (some (0, x6), m)) ∧ (¬ (w32 (x1 * 8) ≤ x7) → (0 ≤ x7 ∧ x7 < 32) ∧ (∃ (v1 : Int) (m1 : Mm), Cl d k_Lo_bitCount [(1, lxo (m 2 x7) x2)] m (some (0, v1), m1) ∧ ((x4 < v1 → Ev (d + 1) K_Ha_likePatterns 0 4 [(11, 1), (0, x1), (1, x2), (9, 0), (0, x4), (0, x5), (0, x6), (0, w32 (x7 + 1)), (0, 0)] [] m1 r) ∧ (¬ (x4 < v1) → (x5 = (-1) → Ev (d + 1) K_Ha_likePatterns 0 4 [(11, 1), (0, x1), (1, x2), (9, 0), (0, x4), (0, x5), (0, w32 (x6 + 1)), (0, w32 (x7 + 1)), (0, 1)] [] m1 r) ∧ (¬ (x5 = (-1)) → (0 ≤ x7 ∧ x7 < 32) ∧ ((¬ lcm (lan (lsr (m1 2 x7) x5) 1) 1 = 0 → Ev (d + 1) K_Ha_likePatterns 0 4 [(11, 1), (0, x1), (1, x2), (9, 0), (0, x4), (0, x5), (0, x6), (0, w32 (x7 + 1)), (0, 1)] [] m1 r) ∧ (¬ (¬ lcm (lan (lsr (m1 2 x7) x5) 1) 1 = 0) → Ev (d + 1) K_Ha_likePatterns 0 4 [(11, 1), (0, x1), (1, x2), (9, 0), (0, x4), (0, x5), (0, w32 (x6 + 1)), (0, w32 (x7 + 1)), (0, 1)] [] m1 r)))))))) : Ev (d + 1) K_Ha_likePatterns 0 4 [(11, 1), (0, x1), (1, x2), (9, 0), (0, x4), (0, x5), (0, x6), (0, x7), u8] [] m r := by
  refine Ev_rn (q := (8, [(11, 1), (0, x1), (1, x2), (9, 0), (0, x4), (0, x5), (0, x6), (0, x7), u8], [(0, w32 (x1 * 8)), (0, x7)], m)) 4 rfl ?_
  refine Ev_icmp rfl (fun hc => ?_) (fun hc => ?_)
  · replace h := h.1 hc
    refine Ev_rn (q := (42, [(11, 1), (0, x1), (1, x2), (9, 0), (0, x4), (0, x5), (0, x6), (0, x7), u8], [(0, x6)], m)) 1 rfl ?_
    exact Ev_ret rfl rfl h
  · replace h := h.2 hc
    refine Ev_rn (q := (12, [(11, 1), (0, x1), (1, x2), (9, 0), (0, x4), (0, x5), (0, x6), (0, x7), u8], [(0, x7), (357, 2)], m)) 3 rfl ?_
    obtain ⟨hc, h⟩ := h
    refine Ev_lald (n := 32) rfl (by decide) (by decide) hc ?_
    refine Ev_rn (q := (15, [(11, 1), (0, x1), (1, x2), (9, 0), (0, x4), (0, x5), (0, x6), (0, x7), u8], [(1, lxo (m 2 x7) x2)], m)) 2 rfl ?_
    obtain ⟨v1, m1, hc, h⟩ := h
    refine Ev_call (rest := []) rfl rfl (Nat.le_of_ble_eq_true rfl) hc ?_
    refine Ev_rn (q := (17, [(11, 1), (0, x1), (1, x2), (9, 0), (0, x4), (0, x5), (0, x6), (0, x7), u8], [(0, x4), (0, v1)], m1)) 1 rfl ?_
    refine Ev_icmp rfl (fun hc => ?_) (fun hc => ?_)
    · replace h := h.1 hc
      refine Ev_rn (q := (23, [(11, 1), (0, x1), (1, x2), (9, 0), (0, x4), (0, x5), (0, x6), (0, x7), (0, 0)], [(0, 0)], m1)) 3 rfl ?_
      refine Ev_if rfl (fun _ => ?_) (fun hc => absurd (by simp [cmpP]) hc)
      refine Ev_rn (q := (4, [(11, 1), (0, x1), (1, x2), (9, 0), (0, x4), (0, x5), (0, x6), (0, w32 (x7 + 1)), (0, 0)], [], m1)) 2 rfl ?_
      exact h
    · replace h := h.2 hc
      refine Ev_rn (q := (23, [(11, 1), (0, x1), (1, x2), (9, 0), (0, x4), (0, x5), (0, x6), (0, x7), (0, 1)], [(0, 1)], m1)) 4 rfl ?_
      refine Ev_if rfl (fun hc => absurd hc (by simp [cmpP])) (fun _ => ?_)
      refine Ev_rn (q := (26, [(11, 1), (0, x1), (1, x2), (9, 0), (0, x4), (0, x5), (0, x6), (0, x7), (0, 1)], [(0, (-1)), (0, x5)], m1)) 2 rfl ?_
      refine Ev_icmp rfl (fun hc => ?_) (fun hc => ?_)
      · replace h := h.1 hc
        refine Ev_rn (q := (4, [(11, 1), (0, x1), (1, x2), (9, 0), (0, x4), (0, x5), (0, w32 (x6 + 1)), (0, w32 (x7 + 1)), (0, 1)], [], m1)) 3 rfl ?_
        exact h
      · replace h := h.2 hc
        refine Ev_rn (q := (30, [(11, 1), (0, x1), (1, x2), (9, 0), (0, x4), (0, x5), (0, x6), (0, x7), (0, 1)], [(0, x7), (357, 2)], m1)) 3 rfl ?_
        obtain ⟨hc, h⟩ := h
        refine Ev_lald (n := 32) rfl (by decide) (by decide) hc ?_
        refine Ev_rn (q := (37, [(11, 1), (0, x1), (1, x2), (9, 0), (0, x4), (0, x5), (0, x6), (0, x7), (0, 1)], [(0, lcm (lan (lsr (m1 2 x7) x5) 1) 1)], m1)) 6 rfl ?_
        refine Ev_if rfl (fun hc => ?_) (fun hc => ?_)
        · replace h := h.1 hc
          refine Ev_rn (q := (4, [(11, 1), (0, x1), (1, x2), (9, 0), (0, x4), (0, x5), (0, x6), (0, w32 (x7 + 1)), (0, 1)], [], m1)) 2 rfl ?_
          exact h
        · replace h := h.2 hc
          refine Ev_rn (q := (4, [(11, 1), (0, x1), (1, x2), (9, 0), (0, x4), (0, x5), (0, w32 (x6 + 1)), (0, w32 (x7 + 1)), (0, 1)], [], m1)) 3 rfl ?_
          exact h
theorem b_Ju_frostsOf {d : Nat} {r : Option Vv × Mm} {m : Mm} {o1 o2 x3 : Int} (h : (¬ m o1 6 = 0 → ∃ (v1 : Int) (m1 : Mm), Cl d k_Pl_firstCell [(0, x3)] m (some (0, v1), m1) ∧ (∃ (m2 : Mm), Cl d k_Ju_nameCommon [(12, 10), (13, o2), (0, v1)] m1 (none, m2) ∧ (∀ m3 : Mm, m3 = up m2 11 4 x3 → (∃ (v4 : Int) (m4 : Mm), Cl d k_Ju_valueOf [(12, 10), (2500, o1 + 4), (0, m3 o1 7), (0, m3 o1 8), (13, o2)] m3 (some (0, v4), m4) ∧ (r = (some (0, max 0 (min 10 v4)), m4)))))) ∧ (¬ (¬ m o1 6 = 0) → r = (some (0, 3), m))) : Ev (d + 1) K_Ju_frostsOf 0 0 [(12, 10), (16, o1), (13, o2), (0, x3)] [] m r := by
  refine Ev_rn (q := (2, [(12, 10), (16, o1), (13, o2), (0, x3)], [(0, m o1 6)], m)) 2 rfl ?_
  refine Ev_if rfl (fun hc => ?_) (fun hc => ?_)
  · replace h := h.1 hc
    refine Ev_rn (q := (8, [(12, 10), (16, o1), (13, o2), (0, x3)], [(0, x3), (13, o2), (12, 10)], m)) 3 rfl ?_
    obtain ⟨v1, m1, hc, h⟩ := h
    refine Ev_call (rest := [(13, o2), (12, 10)]) rfl rfl (Nat.le_of_ble_eq_true rfl) hc ?_
    obtain ⟨m2, hc, h⟩ := h
    refine Ev_call (rest := []) rfl rfl (Nat.le_of_ble_eq_true rfl) hc ?_
    refine Ev_rn (q := (14, [(12, 10), (16, o1), (13, o2), (0, x3)], [(0, x3), (0, 4), (156, 11)], m2)) 4 rfl ?_
    refine Ev_iast (n := 7) rfl (by decide) (by decide) ⟨by decide, by decide⟩ ?_
    generalize e3 : up m2 11 4 x3 = m3
    replace h := h m3 e3.symm
    refine Ev_rn (q := (25, [(12, 10), (16, o1), (13, o2), (0, x3)], [(13, o2), (0, m3 o1 8), (0, m3 o1 7), (2500, o1 + 4), (12, 10), (0, 10), (0, 0)], m3)) 10 rfl ?_
    obtain ⟨v4, m4, hc, h⟩ := h
    refine Ev_call (rest := [(0, 10), (0, 0)]) rfl rfl (Nat.le_of_ble_eq_true rfl) hc ?_
    refine Ev_rn (q := (28, [(12, 10), (16, o1), (13, o2), (0, x3)], [(0, max 0 (min 10 v4))], m4)) 2 rfl ?_
    exact Ev_ret rfl rfl h
  · replace h := h.2 hc
    refine Ev_rn (q := (4, [(12, 10), (16, o1), (13, o2), (0, x3)], [(0, 3)], m)) 1 rfl ?_
    exact Ev_ret rfl rfl h
theorem b_Ju_goesOf {d : Nat} {r : Option Vv × Mm} {m : Mm} {o1 o2 x3 : Int} (h : (¬ m o1 9 = 0 → (0 ≤ x3 ∧ x3 < 5) ∧ (∃ (m1 : Mm), Cl d k_Ju_nameCommon [(12, 10), (13, o2), (0, m (o2 + 1) x3)] m (none, m1) ∧ (∀ m2 : Mm, m2 = up m1 11 5 x3 → ((0 ≤ x3 ∧ x3 < 5) ∧ (∀ m3 : Mm, m3 = up m2 11 6 (m2 (o2 + 2) x3) → (∃ (v4 : Int) (m4 : Mm), Cl d k_Ju_valueOf [(12, 10), (2500, o1 + 4), (0, m3 o1 10), (0, m3 o1 11), (13, o2)] m3 (some (0, v4), m4) ∧ (r = (some (0, max (-99) (min 99 v4)), m4)))))))) ∧ (¬ (¬ m o1 9 = 0) → r = (some (0, 1), m))) : Ev (d + 1) K_Ju_goesOf 0 0 [(12, 10), (16, o1), (13, o2), (0, x3)] [] m r := by
  refine Ev_rn (q := (2, [(12, 10), (16, o1), (13, o2), (0, x3)], [(0, m o1 9)], m)) 2 rfl ?_
  refine Ev_if rfl (fun hc => ?_) (fun hc => ?_)
  · replace h := h.1 hc
    refine Ev_rn (q := (10, [(12, 10), (16, o1), (13, o2), (0, x3)], [(0, x3), (140, o2 + 1), (13, o2), (12, 10)], m)) 5 rfl ?_
    obtain ⟨hc, h⟩ := h
    refine Ev_iald (n := 5) rfl (by decide) (by decide) hc ?_
    obtain ⟨m1, hc, h⟩ := h
    refine Ev_call (rest := []) rfl rfl (Nat.le_of_ble_eq_true rfl) hc ?_
    refine Ev_rn (q := (16, [(12, 10), (16, o1), (13, o2), (0, x3)], [(0, x3), (0, 5), (156, 11)], m1)) 4 rfl ?_
    refine Ev_iast (n := 7) rfl (by decide) (by decide) ⟨by decide, by decide⟩ ?_
    generalize e2 : up m1 11 5 x3 = m2
    replace h := h m2 e2.symm
    refine Ev_rn (q := (23, [(12, 10), (16, o1), (13, o2), (0, x3)], [(0, x3), (140, o2 + 2), (0, 6), (156, 11)], m2)) 6 rfl ?_
    obtain ⟨hc, h⟩ := h
    refine Ev_iald (n := 5) rfl (by decide) (by decide) hc ?_
    refine Ev_iast (n := 7) rfl (by decide) (by decide) ⟨by decide, by decide⟩ ?_
    generalize e3 : up m2 11 6 (m2 (o2 + 2) x3) = m3
    replace h := h m3 e3.symm
    refine Ev_rn (q := (35, [(12, 10), (16, o1), (13, o2), (0, x3)], [(13, o2), (0, m3 o1 11), (0, m3 o1 10), (2500, o1 + 4), (12, 10), (0, 99), (0, (-99))], m3)) 10 rfl ?_
    obtain ⟨v4, m4, hc, h⟩ := h
    refine Ev_call (rest := [(0, 99), (0, (-99))]) rfl rfl (Nat.le_of_ble_eq_true rfl) hc ?_
    refine Ev_rn (q := (38, [(12, 10), (16, o1), (13, o2), (0, x3)], [(0, max (-99) (min 99 v4))], m4)) 2 rfl ?_
    exact Ev_ret rfl rfl h
  · replace h := h.2 hc
    refine Ev_rn (q := (4, [(12, 10), (16, o1), (13, o2), (0, x3)], [(0, 1)], m)) 1 rfl ?_
    exact Ev_ret rfl rfl h
theorem b_Ju_nameCommon {d : Nat} {r : Option Vv × Mm} {m : Mm} {o1 x2 : Int} (h : ∀ m1 : Mm, m1 = up m 11 0 (m o1 5) → (∀ m2 : Mm, m2 = up m1 11 1 x2 → (∃ (v3 : Int) (m3 : Mm), Cl d k_La_around [(13, o1), (0, x2)] m2 (some (0, v3), m3) ∧ (∀ m4 : Mm, m4 = up m3 11 2 v3 → (∃ (v5 : Int) (m5 : Mm), Cl d k_Lo_bitCount [(1, m4 o1 0)] m4 (some (0, v5), m5) ∧ (∀ m6 : Mm, m6 = up m5 11 3 v5 → (r = (none, m6)))))))) : Ev (d + 1) K_Ju_nameCommon 3 0 [(12, 10), (13, o1), (0, x2)] [] m r := by
  refine Ev_rn (q := (5, [(12, 10), (13, o1), (0, x2)], [(0, m o1 5), (0, 0), (156, 11)], m)) 5 rfl ?_
  refine Ev_iast (n := 7) rfl (by decide) (by decide) ⟨by decide, by decide⟩ ?_
  generalize e1 : up m 11 0 (m o1 5) = m1
  replace h := h m1 e1.symm
  refine Ev_rn (q := (10, [(12, 10), (13, o1), (0, x2)], [(0, x2), (0, 1), (156, 11)], m1)) 4 rfl ?_
  refine Ev_iast (n := 7) rfl (by decide) (by decide) ⟨by decide, by decide⟩ ?_
  generalize e2 : up m1 11 1 x2 = m2
  replace h := h m2 e2.symm
  refine Ev_rn (q := (16, [(12, 10), (13, o1), (0, x2)], [(0, x2), (13, o1), (0, 2), (156, 11)], m2)) 5 rfl ?_
  obtain ⟨v3, m3, hc, h⟩ := h
  refine Ev_call (rest := [(0, 2), (156, 11)]) rfl rfl (Nat.le_of_ble_eq_true rfl) hc ?_
  refine Ev_iast (n := 7) rfl (by decide) (by decide) ⟨by decide, by decide⟩ ?_
  generalize e4 : up m3 11 2 v3 = m4
  replace h := h m4 e4.symm
  refine Ev_rn (q := (23, [(12, 10), (13, o1), (0, x2)], [(1, m4 o1 0), (0, 3), (156, 11)], m4)) 5 rfl ?_
  obtain ⟨v5, m5, hc, h⟩ := h
  refine Ev_call (rest := [(0, 3), (156, 11)]) rfl rfl (Nat.le_of_ble_eq_true rfl) hc ?_
  refine Ev_iast (n := 7) rfl (by decide) (by decide) ⟨by decide, by decide⟩ ?_
  generalize e6 : up m5 11 3 v5 = m6
  replace h := h m6 e6.symm
  exact Ev_ret rfl rfl h
theorem b_Ju_valueOf {d : Nat} {r : Option Vv × Mm} {m : Mm} {a1 x2 x3 o4 : Int} (h : ∀ m1 : Mm, m1 = up m 10 2 0 → (Ev (d + 1) K_Ju_valueOf 0 7 [(12, 10), (2500, a1), (0, x2), (0, x3), (13, o4), (0, x2), (0, 0), (9, 0), (9, 0), (9, 0)] [] m1 r)) : Ev (d + 1) K_Ju_valueOf 0 0 [(12, 10), (2500, a1), (0, x2), (0, x3), (13, o4), (9, 0), (9, 0), (9, 0), (9, 0), (9, 0)] [] m r := by
  refine Ev_rn (q := (3, [(12, 10), (2500, a1), (0, x2), (0, x3), (13, o4), (9, 0), (9, 0), (9, 0), (9, 0), (9, 0)], [], up m 10 2 0)) 3 rfl ?_
  generalize e1 : up m 10 2 0 = m1
  replace h := h m1 e1.symm
  refine Ev_rn (q := (7, [(12, 10), (2500, a1), (0, x2), (0, x3), (13, o4), (0, x2), (0, 0), (9, 0), (9, 0), (9, 0)], [], m1)) 4 rfl ?_
  exact h
theorem b_Ju_valueOf_7 {d : Nat} {r : Option Vv × Mm} {m : Mm} {a1 x2 x3 o4 x5 x6 : Int} {u7 u8 u9 : Vv} (h : (300 ≤ x6 → ∃ (v1 : Int) (m1 : Mm), Cl d k_Ju_pop [(12, 10)] m (some (0, v1), m1) ∧ (r = (some (0, v1), m1))) ∧ (¬ (300 ≤ x6) → (x5 < 0 → ∃ (v2 : Int) (m2 : Mm), Cl d k_Ju_pop [(12, 10)] m (some (0, v2), m2) ∧ (r = (some (0, v2), m2))) ∧ (¬ (x5 < 0) → (x3 ≤ x5 → ∃ (v3 : Int) (m3 : Mm), Cl d k_Ju_pop [(12, 10)] m (some (0, v3), m3) ∧ (r = (some (0, v3), m3))) ∧ (¬ (x3 ≤ x5) → (300 ≤ x5 → ∃ (v4 : Int) (m4 : Mm), Cl d k_Ju_pop [(12, 10)] m (some (0, v4), m4) ∧ (r = (some (0, v4), m4))) ∧ (¬ (300 ≤ x5) → (0 ≤ x5 ∧ x5 < 300) ∧ ((0 ≤ x5 ∧ x5 < 300) ∧ ((¬ irm (m a1 x5) 64 = 46 → (¬ irm (m a1 x5) 64 = 45 → (¬ irm (m a1 x5) 64 = 2 → (¬ irm (m a1 x5) 64 = 43 → (¬ irm (m a1 x5) 64 = 35 → (¬ irm (m a1 x5) 64 = 44 → (¬ irm (m a1 x5) 64 = 42 → ∃ (v5 : Int) (m5 : Mm), Cl d k_Ju_pop [(12, 10)] m (some (0, v5), m5) ∧ (∃ (v6 : Int) (m6 : Mm), Cl d k_Ju_pop [(12, 10)] m5 (some (0, v6), m6) ∧ (∃ (v7 : Int) (m7 : Mm), Cl d k_Ju_ofTwo [(0, irm (m a1 x5) 64), (0, v6), (0, v5)] m6 (some (0, v7), m7) ∧ (∃ (m8 : Mm), Cl d k_Ju_push [(12, 10), (0, v7)] m7 (none, m8) ∧ (Ev (d + 1) K_Ju_valueOf 0 7 [(12, 10), (2500, a1), (0, x2), (0, x3), (13, o4), (0, w32 (x5 + 1)), (0, w32 (x6 + 1)), (0, irm (m a1 x5) 64), (0, idv (m a1 x5) 64), (0, v5)] [] m8 r))))) ∧ (¬ (¬ irm (m a1 x5) 64 = 42) → ∃ (v9 : Int) (m9 : Mm), Cl d k_Ju_pop [(12, 10)] m (some (0, v9), m9) ∧ (∃ (m10 : Mm), Cl d k_Ju_push [(12, 10), (0, w32 (1 - v9))] m9 (none, m10) ∧ (Ev (d + 1) K_Ju_valueOf 0 7 [(12, 10), (2500, a1), (0, x2), (0, x3), (13, o4), (0, w32 (x5 + 1)), (0, w32 (x6 + 1)), (0, irm (m a1 x5) 64), (0, idv (m a1 x5) 64), u9] [] m10 r)))) ∧ (¬ (¬ irm (m a1 x5) 64 = 44) → ∃ (v11 : Int) (m11 : Mm), Cl d k_Ju_pop [(12, 10)] m (some (0, v11), m11) ∧ (∃ (m12 : Mm), Cl d k_Ju_push [(12, 10), (0, w32 (-v11))] m11 (none, m12) ∧ (Ev (d + 1) K_Ju_valueOf 0 7 [(12, 10), (2500, a1), (0, x2), (0, x3), (13, o4), (0, w32 (x5 + 1)), (0, w32 (x6 + 1)), (0, irm (m a1 x5) 64), (0, idv (m a1 x5) 64), u9] [] m12 r)))) ∧ (¬ (¬ irm (m a1 x5) 64 = 35) → ∃ (v13 : Int) (m13 : Mm), Cl d k_Ju_pop [(12, 10)] m (some (0, v13), m13) ∧ (∃ (v14 : Int) (m14 : Mm), Cl d k_La_hasHedge [(13, o4), (0, v13)] m13 (some (0, v14), m14) ∧ ((v14 = 0 → ∃ (m15 : Mm), Cl d k_Ju_push [(12, 10), (0, 0)] m14 (none, m15) ∧ (Ev (d + 1) K_Ju_valueOf 0 7 [(12, 10), (2500, a1), (0, x2), (0, x3), (13, o4), (0, w32 (x5 + 1)), (0, w32 (x6 + 1)), (0, irm (m a1 x5) 64), (0, idv (m a1 x5) 64), u9] [] m15 r)) ∧ (¬ (v14 = 0) → ∃ (m16 : Mm), Cl d k_Ju_push [(12, 10), (0, 1)] m14 (none, m16) ∧ (Ev (d + 1) K_Ju_valueOf 0 7 [(12, 10), (2500, a1), (0, x2), (0, x3), (13, o4), (0, w32 (x5 + 1)), (0, w32 (x6 + 1)), (0, irm (m a1 x5) 64), (0, idv (m a1 x5) 64), u9] [] m16 r)))))) ∧ (¬ (¬ irm (m a1 x5) 64 = 43) → (7 ≤ idv (m a1 x5) 64 → ∃ (m17 : Mm), Cl d k_Ju_push [(12, 10), (0, 0)] m (none, m17) ∧ (Ev (d + 1) K_Ju_valueOf 0 7 [(12, 10), (2500, a1), (0, x2), (0, x3), (13, o4), (0, w32 (x5 + 1)), (0, w32 (x6 + 1)), (0, irm (m a1 x5) 64), (0, idv (m a1 x5) 64), u9] [] m17 r)) ∧ (¬ (7 ≤ idv (m a1 x5) 64) → (0 ≤ idv (m a1 x5) 64 ∧ idv (m a1 x5) 64 < 7) ∧ (∃ (m18 : Mm), Cl d k_Ju_push [(12, 10), (0, m 11 (idv (m a1 x5) 64))] m (none, m18) ∧ (Ev (d + 1) K_Ju_valueOf 0 7 [(12, 10), (2500, a1), (0, x2), (0, x3), (13, o4), (0, w32 (x5 + 1)), (0, w32 (x6 + 1)), (0, irm (m a1 x5) 64), (0, idv (m a1 x5) 64), u9] [] m18 r))))) ∧ (¬ (¬ irm (m a1 x5) 64 = 2) → ∃ (m19 : Mm), Cl d k_Ju_push [(12, 10), (0, idv (m a1 x5) 64)] m (none, m19) ∧ (Ev (d + 1) K_Ju_valueOf 0 7 [(12, 10), (2500, a1), (0, x2), (0, x3), (13, o4), (0, w32 (x5 + 1)), (0, w32 (x6 + 1)), (0, irm (m a1 x5) 64), (0, idv (m a1 x5) 64), u9] [] m19 r))) ∧ (¬ (¬ irm (m a1 x5) 64 = 45) → ∃ (v20 : Int) (m20 : Mm), Cl d k_Ju_pop [(12, 10)] m (some (0, v20), m20) ∧ ((¬ v20 = 0 → Ev (d + 1) K_Ju_valueOf 0 7 [(12, 10), (2500, a1), (0, x2), (0, x3), (13, o4), (0, w32 (x5 + 1)), (0, w32 (x6 + 1)), (0, irm (m a1 x5) 64), (0, idv (m a1 x5) 64), u9] [] m20 r) ∧ (¬ (¬ v20 = 0) → Ev (d + 1) K_Ju_valueOf 0 7 [(12, 10), (2500, a1), (0, x2), (0, x3), (13, o4), (0, idv (m a1 x5) 64), (0, w32 (x6 + 1)), (0, irm (m a1 x5) 64), (0, idv (m a1 x5) 64), u9] [] m20 r)))) ∧ (¬ (¬ irm (m a1 x5) 64 = 46) → Ev (d + 1) K_Ju_valueOf 0 7 [(12, 10), (2500, a1), (0, x2), (0, x3), (13, o4), (0, idv (m a1 x5) 64), (0, w32 (x6 + 1)), (0, irm (m a1 x5) 64), (0, idv (m a1 x5) 64), u9] [] m r)))))))) : Ev (d + 1) K_Ju_valueOf 0 7 [(12, 10), (2500, a1), (0, x2), (0, x3), (13, o4), (0, x5), (0, x6), u7, u8, u9] [] m r := by
  refine Ev_rn (q := (9, [(12, 10), (2500, a1), (0, x2), (0, x3), (13, o4), (0, x5), (0, x6), u7, u8, u9], [(0, 300), (0, x6)], m)) 2 rfl ?_
  refine Ev_icmp rfl (fun hc => ?_) (fun hc => ?_)
  · replace h := h.1 hc
    refine Ev_rn (q := (119, [(12, 10), (2500, a1), (0, x2), (0, x3), (13, o4), (0, x5), (0, x6), u7, u8, u9], [(12, 10)], m)) 1 rfl ?_
    obtain ⟨v1, m1, hc, h⟩ := h
    refine Ev_call (rest := []) rfl rfl (Nat.le_of_ble_eq_true rfl) hc ?_
    exact Ev_ret rfl rfl h
  · replace h := h.2 hc
    refine Ev_rn (q := (11, [(12, 10), (2500, a1), (0, x2), (0, x3), (13, o4), (0, x5), (0, x6), u7, u8, u9], [(0, x5)], m)) 1 rfl ?_
    refine Ev_if rfl (fun hc => ?_) (fun hc => ?_)
    · replace h := h.1 hc
      refine Ev_rn (q := (119, [(12, 10), (2500, a1), (0, x2), (0, x3), (13, o4), (0, x5), (0, x6), u7, u8, u9], [(12, 10)], m)) 1 rfl ?_
      obtain ⟨v2, m2, hc, h⟩ := h
      refine Ev_call (rest := []) rfl rfl (Nat.le_of_ble_eq_true rfl) hc ?_
      exact Ev_ret rfl rfl h
    · replace h := h.2 hc
      refine Ev_rn (q := (14, [(12, 10), (2500, a1), (0, x2), (0, x3), (13, o4), (0, x5), (0, x6), u7, u8, u9], [(0, x3), (0, x5)], m)) 2 rfl ?_
      refine Ev_icmp rfl (fun hc => ?_) (fun hc => ?_)
      · replace h := h.1 hc
        refine Ev_rn (q := (119, [(12, 10), (2500, a1), (0, x2), (0, x3), (13, o4), (0, x5), (0, x6), u7, u8, u9], [(12, 10)], m)) 1 rfl ?_
        obtain ⟨v3, m3, hc, h⟩ := h
        refine Ev_call (rest := []) rfl rfl (Nat.le_of_ble_eq_true rfl) hc ?_
        exact Ev_ret rfl rfl h
      · replace h := h.2 hc
        refine Ev_rn (q := (18, [(12, 10), (2500, a1), (0, x2), (0, x3), (13, o4), (0, x5), (0, x6), u7, u8, u9], [(0, 300), (0, x5)], m)) 3 rfl ?_
        refine Ev_icmp rfl (fun hc => ?_) (fun hc => ?_)
        · replace h := h.1 hc
          refine Ev_rn (q := (119, [(12, 10), (2500, a1), (0, x2), (0, x3), (13, o4), (0, x5), (0, x6), u7, u8, u9], [(12, 10)], m)) 1 rfl ?_
          obtain ⟨v4, m4, hc, h⟩ := h
          refine Ev_call (rest := []) rfl rfl (Nat.le_of_ble_eq_true rfl) hc ?_
          exact Ev_ret rfl rfl h
        · replace h := h.2 hc
          refine Ev_rn (q := (21, [(12, 10), (2500, a1), (0, x2), (0, x3), (13, o4), (0, x5), (0, x6), u7, u8, u9], [(0, x5), (2500, a1)], m)) 2 rfl ?_
          obtain ⟨hc, h⟩ := h
          refine Ev_iald (n := 300) rfl (by decide) (by decide) hc ?_
          refine Ev_rn (q := (23, [(12, 10), (2500, a1), (0, x2), (0, x3), (13, o4), (0, x5), (0, x6), u7, u8, u9], [(0, 64), (0, m a1 x5)], m)) 1 rfl ?_
          refine Ev_irem rfl (by decide) ?_
          refine Ev_rn (q := (27, [(12, 10), (2500, a1), (0, x2), (0, x3), (13, o4), (0, x5), (0, x6), (0, irm (m a1 x5) 64), u8, u9], [(0, x5), (2500, a1)], m)) 3 rfl ?_
          obtain ⟨hc, h⟩ := h
          refine Ev_iald (n := 300) rfl (by decide) (by decide) hc ?_
          refine Ev_rn (q := (29, [(12, 10), (2500, a1), (0, x2), (0, x3), (13, o4), (0, x5), (0, x6), (0, irm (m a1 x5) 64), u8, u9], [(0, 64), (0, m a1 x5)], m)) 1 rfl ?_
          refine Ev_idiv rfl (by decide) ?_
          refine Ev_rn (q := (34, [(12, 10), (2500, a1), (0, x2), (0, x3), (13, o4), (0, w32 (x5 + 1)), (0, x6), (0, irm (m a1 x5) 64), (0, idv (m a1 x5) 64), u9], [(0, 46), (0, irm (m a1 x5) 64)], m)) 4 rfl ?_
          refine Ev_icmp rfl (fun hc => ?_) (fun hc => ?_)
          · replace h := h.1 hc
            refine Ev_rn (q := (40, [(12, 10), (2500, a1), (0, x2), (0, x3), (13, o4), (0, w32 (x5 + 1)), (0, x6), (0, irm (m a1 x5) 64), (0, idv (m a1 x5) 64), u9], [(0, 45), (0, irm (m a1 x5) 64)], m)) 2 rfl ?_
            refine Ev_icmp rfl (fun hc => ?_) (fun hc => ?_)
            · replace h := h.1 hc
              refine Ev_rn (q := (51, [(12, 10), (2500, a1), (0, x2), (0, x3), (13, o4), (0, w32 (x5 + 1)), (0, x6), (0, irm (m a1 x5) 64), (0, idv (m a1 x5) 64), u9], [(0, 2), (0, irm (m a1 x5) 64)], m)) 2 rfl ?_
              refine Ev_icmp rfl (fun hc => ?_) (fun hc => ?_)
              · replace h := h.1 hc
                refine Ev_rn (q := (58, [(12, 10), (2500, a1), (0, x2), (0, x3), (13, o4), (0, w32 (x5 + 1)), (0, x6), (0, irm (m a1 x5) 64), (0, idv (m a1 x5) 64), u9], [(0, 43), (0, irm (m a1 x5) 64)], m)) 2 rfl ?_
                refine Ev_icmp rfl (fun hc => ?_) (fun hc => ?_)
                · replace h := h.1 hc
                  refine Ev_rn (q := (75, [(12, 10), (2500, a1), (0, x2), (0, x3), (13, o4), (0, w32 (x5 + 1)), (0, x6), (0, irm (m a1 x5) 64), (0, idv (m a1 x5) 64), u9], [(0, 35), (0, irm (m a1 x5) 64)], m)) 2 rfl ?_
                  refine Ev_icmp rfl (fun hc => ?_) (fun hc => ?_)
                  · replace h := h.1 hc
                    refine Ev_rn (q := (89, [(12, 10), (2500, a1), (0, x2), (0, x3), (13, o4), (0, w32 (x5 + 1)), (0, x6), (0, irm (m a1 x5) 64), (0, idv (m a1 x5) 64), u9], [(0, 44), (0, irm (m a1 x5) 64)], m)) 2 rfl ?_
                    refine Ev_icmp rfl (fun hc => ?_) (fun hc => ?_)
                    · replace h := h.1 hc
                      refine Ev_rn (q := (98, [(12, 10), (2500, a1), (0, x2), (0, x3), (13, o4), (0, w32 (x5 + 1)), (0, x6), (0, irm (m a1 x5) 64), (0, idv (m a1 x5) 64), u9], [(0, 42), (0, irm (m a1 x5) 64)], m)) 2 rfl ?_
                      refine Ev_icmp rfl (fun hc => ?_) (fun hc => ?_)
                      · replace h := h.1 hc
                        refine Ev_rn (q := (107, [(12, 10), (2500, a1), (0, x2), (0, x3), (13, o4), (0, w32 (x5 + 1)), (0, x6), (0, irm (m a1 x5) 64), (0, idv (m a1 x5) 64), u9], [(12, 10)], m)) 1 rfl ?_
                        obtain ⟨v5, m5, hc, h⟩ := h
                        refine Ev_call (rest := []) rfl rfl (Nat.le_of_ble_eq_true rfl) hc ?_
                        refine Ev_rn (q := (112, [(12, 10), (2500, a1), (0, x2), (0, x3), (13, o4), (0, w32 (x5 + 1)), (0, x6), (0, irm (m a1 x5) 64), (0, idv (m a1 x5) 64), (0, v5)], [(12, 10), (0, irm (m a1 x5) 64), (12, 10)], m5)) 4 rfl ?_
                        obtain ⟨v6, m6, hc, h⟩ := h
                        refine Ev_call (rest := [(0, irm (m a1 x5) 64), (12, 10)]) rfl rfl (Nat.le_of_ble_eq_true rfl) hc ?_
                        refine Ev_rn (q := (114, [(12, 10), (2500, a1), (0, x2), (0, x3), (13, o4), (0, w32 (x5 + 1)), (0, x6), (0, irm (m a1 x5) 64), (0, idv (m a1 x5) 64), (0, v5)], [(0, v5), (0, v6), (0, irm (m a1 x5) 64), (12, 10)], m6)) 1 rfl ?_
                        obtain ⟨v7, m7, hc, h⟩ := h
                        refine Ev_call (rest := [(12, 10)]) rfl rfl (Nat.le_of_ble_eq_true rfl) hc ?_
                        obtain ⟨m8, hc, h⟩ := h
                        refine Ev_call (rest := []) rfl rfl (Nat.le_of_ble_eq_true rfl) hc ?_
                        refine Ev_rn (q := (7, [(12, 10), (2500, a1), (0, x2), (0, x3), (13, o4), (0, w32 (x5 + 1)), (0, w32 (x6 + 1)), (0, irm (m a1 x5) 64), (0, idv (m a1 x5) 64), (0, v5)], [], m8)) 2 rfl ?_
                        exact h
                      · replace h := h.2 hc
                        refine Ev_rn (q := (102, [(12, 10), (2500, a1), (0, x2), (0, x3), (13, o4), (0, w32 (x5 + 1)), (0, x6), (0, irm (m a1 x5) 64), (0, idv (m a1 x5) 64), u9], [(12, 10), (0, 1), (12, 10)], m)) 3 rfl ?_
                        obtain ⟨v9, m9, hc, h⟩ := h
                        refine Ev_call (rest := [(0, 1), (12, 10)]) rfl rfl (Nat.le_of_ble_eq_true rfl) hc ?_
                        refine Ev_rn (q := (104, [(12, 10), (2500, a1), (0, x2), (0, x3), (13, o4), (0, w32 (x5 + 1)), (0, x6), (0, irm (m a1 x5) 64), (0, idv (m a1 x5) 64), u9], [(0, w32 (1 - v9)), (12, 10)], m9)) 1 rfl ?_
                        obtain ⟨m10, hc, h⟩ := h
                        refine Ev_call (rest := []) rfl rfl (Nat.le_of_ble_eq_true rfl) hc ?_
                        refine Ev_rn (q := (7, [(12, 10), (2500, a1), (0, x2), (0, x3), (13, o4), (0, w32 (x5 + 1)), (0, w32 (x6 + 1)), (0, irm (m a1 x5) 64), (0, idv (m a1 x5) 64), u9], [], m10)) 3 rfl ?_
                        exact h
                    · replace h := h.2 hc
                      refine Ev_rn (q := (92, [(12, 10), (2500, a1), (0, x2), (0, x3), (13, o4), (0, w32 (x5 + 1)), (0, x6), (0, irm (m a1 x5) 64), (0, idv (m a1 x5) 64), u9], [(12, 10), (12, 10)], m)) 2 rfl ?_
                      obtain ⟨v11, m11, hc, h⟩ := h
                      refine Ev_call (rest := [(12, 10)]) rfl rfl (Nat.le_of_ble_eq_true rfl) hc ?_
                      refine Ev_rn (q := (94, [(12, 10), (2500, a1), (0, x2), (0, x3), (13, o4), (0, w32 (x5 + 1)), (0, x6), (0, irm (m a1 x5) 64), (0, idv (m a1 x5) 64), u9], [(0, w32 (-v11)), (12, 10)], m11)) 1 rfl ?_
                      obtain ⟨m12, hc, h⟩ := h
                      refine Ev_call (rest := []) rfl rfl (Nat.le_of_ble_eq_true rfl) hc ?_
                      refine Ev_rn (q := (7, [(12, 10), (2500, a1), (0, x2), (0, x3), (13, o4), (0, w32 (x5 + 1)), (0, w32 (x6 + 1)), (0, irm (m a1 x5) 64), (0, idv (m a1 x5) 64), u9], [], m12)) 3 rfl ?_
                      exact h
                  · replace h := h.2 hc
                    refine Ev_rn (q := (79, [(12, 10), (2500, a1), (0, x2), (0, x3), (13, o4), (0, w32 (x5 + 1)), (0, x6), (0, irm (m a1 x5) 64), (0, idv (m a1 x5) 64), u9], [(12, 10), (13, o4), (12, 10)], m)) 3 rfl ?_
                    obtain ⟨v13, m13, hc, h⟩ := h
                    refine Ev_call (rest := [(13, o4), (12, 10)]) rfl rfl (Nat.le_of_ble_eq_true rfl) hc ?_
                    obtain ⟨v14, m14, hc, h⟩ := h
                    refine Ev_call (rest := [(12, 10)]) rfl rfl (Nat.le_of_ble_eq_true rfl) hc ?_
                    refine Ev_if rfl (fun hc => ?_) (fun hc => ?_)
                    · replace h := h.1 hc
                      refine Ev_rn (q := (85, [(12, 10), (2500, a1), (0, x2), (0, x3), (13, o4), (0, w32 (x5 + 1)), (0, x6), (0, irm (m a1 x5) 64), (0, idv (m a1 x5) 64), u9], [(0, 0), (12, 10)], m14)) 1 rfl ?_
                      obtain ⟨m15, hc, h⟩ := h
                      refine Ev_call (rest := []) rfl rfl (Nat.le_of_ble_eq_true rfl) hc ?_
                      refine Ev_rn (q := (7, [(12, 10), (2500, a1), (0, x2), (0, x3), (13, o4), (0, w32 (x5 + 1)), (0, w32 (x6 + 1)), (0, irm (m a1 x5) 64), (0, idv (m a1 x5) 64), u9], [], m15)) 3 rfl ?_
                      exact h
                    · replace h := h.2 hc
                      refine Ev_rn (q := (85, [(12, 10), (2500, a1), (0, x2), (0, x3), (13, o4), (0, w32 (x5 + 1)), (0, x6), (0, irm (m a1 x5) 64), (0, idv (m a1 x5) 64), u9], [(0, 1), (12, 10)], m14)) 2 rfl ?_
                      obtain ⟨m16, hc, h⟩ := h
                      refine Ev_call (rest := []) rfl rfl (Nat.le_of_ble_eq_true rfl) hc ?_
                      refine Ev_rn (q := (7, [(12, 10), (2500, a1), (0, x2), (0, x3), (13, o4), (0, w32 (x5 + 1)), (0, w32 (x6 + 1)), (0, irm (m a1 x5) 64), (0, idv (m a1 x5) 64), u9], [], m16)) 3 rfl ?_
                      exact h
                · replace h := h.2 hc
                  refine Ev_rn (q := (64, [(12, 10), (2500, a1), (0, x2), (0, x3), (13, o4), (0, w32 (x5 + 1)), (0, x6), (0, irm (m a1 x5) 64), (0, idv (m a1 x5) 64), u9], [(0, 7), (0, idv (m a1 x5) 64), (12, 10)], m)) 5 rfl ?_
                  refine Ev_icmp rfl (fun hc => ?_) (fun hc => ?_)
                  · replace h := h.1 hc
                    refine Ev_rn (q := (71, [(12, 10), (2500, a1), (0, x2), (0, x3), (13, o4), (0, w32 (x5 + 1)), (0, x6), (0, irm (m a1 x5) 64), (0, idv (m a1 x5) 64), u9], [(0, 0), (12, 10)], m)) 1 rfl ?_
                    obtain ⟨m17, hc, h⟩ := h
                    refine Ev_call (rest := []) rfl rfl (Nat.le_of_ble_eq_true rfl) hc ?_
                    refine Ev_rn (q := (7, [(12, 10), (2500, a1), (0, x2), (0, x3), (13, o4), (0, w32 (x5 + 1)), (0, w32 (x6 + 1)), (0, irm (m a1 x5) 64), (0, idv (m a1 x5) 64), u9], [], m17)) 3 rfl ?_
                    exact h
                  · replace h := h.2 hc
                    refine Ev_rn (q := (68, [(12, 10), (2500, a1), (0, x2), (0, x3), (13, o4), (0, w32 (x5 + 1)), (0, x6), (0, irm (m a1 x5) 64), (0, idv (m a1 x5) 64), u9], [(0, idv (m a1 x5) 64), (156, 11), (12, 10)], m)) 3 rfl ?_
                    obtain ⟨hc, h⟩ := h
                    refine Ev_iald (n := 7) rfl (by decide) (by decide) hc ?_
                    refine Ev_rn (q := (71, [(12, 10), (2500, a1), (0, x2), (0, x3), (13, o4), (0, w32 (x5 + 1)), (0, x6), (0, irm (m a1 x5) 64), (0, idv (m a1 x5) 64), u9], [(0, m 11 (idv (m a1 x5) 64)), (12, 10)], m)) 1 rfl ?_
                    obtain ⟨m18, hc, h⟩ := h
                    refine Ev_call (rest := []) rfl rfl (Nat.le_of_ble_eq_true rfl) hc ?_
                    refine Ev_rn (q := (7, [(12, 10), (2500, a1), (0, x2), (0, x3), (13, o4), (0, w32 (x5 + 1)), (0, w32 (x6 + 1)), (0, irm (m a1 x5) 64), (0, idv (m a1 x5) 64), u9], [], m18)) 3 rfl ?_
                    exact h
              · replace h := h.2 hc
                refine Ev_rn (q := (54, [(12, 10), (2500, a1), (0, x2), (0, x3), (13, o4), (0, w32 (x5 + 1)), (0, x6), (0, irm (m a1 x5) 64), (0, idv (m a1 x5) 64), u9], [(0, idv (m a1 x5) 64), (12, 10)], m)) 2 rfl ?_
                obtain ⟨m19, hc, h⟩ := h
                refine Ev_call (rest := []) rfl rfl (Nat.le_of_ble_eq_true rfl) hc ?_
                refine Ev_rn (q := (7, [(12, 10), (2500, a1), (0, x2), (0, x3), (13, o4), (0, w32 (x5 + 1)), (0, w32 (x6 + 1)), (0, irm (m a1 x5) 64), (0, idv (m a1 x5) 64), u9], [], m19)) 3 rfl ?_
                exact h
            · replace h := h.2 hc
              refine Ev_rn (q := (42, [(12, 10), (2500, a1), (0, x2), (0, x3), (13, o4), (0, w32 (x5 + 1)), (0, x6), (0, irm (m a1 x5) 64), (0, idv (m a1 x5) 64), u9], [(12, 10)], m)) 1 rfl ?_
              obtain ⟨v20, m20, hc, h⟩ := h
              refine Ev_call (rest := []) rfl rfl (Nat.le_of_ble_eq_true rfl) hc ?_
              refine Ev_if rfl (fun hc => ?_) (fun hc => ?_)
              · replace h := h.1 hc
                refine Ev_rn (q := (7, [(12, 10), (2500, a1), (0, x2), (0, x3), (13, o4), (0, w32 (x5 + 1)), (0, w32 (x6 + 1)), (0, irm (m a1 x5) 64), (0, idv (m a1 x5) 64), u9], [], m20)) 5 rfl ?_
                exact h
              · replace h := h.2 hc
                refine Ev_rn (q := (7, [(12, 10), (2500, a1), (0, x2), (0, x3), (13, o4), (0, idv (m a1 x5) 64), (0, w32 (x6 + 1)), (0, irm (m a1 x5) 64), (0, idv (m a1 x5) 64), u9], [], m20)) 6 rfl ?_
                exact h
          · replace h := h.2 hc
            refine Ev_rn (q := (7, [(12, 10), (2500, a1), (0, x2), (0, x3), (13, o4), (0, idv (m a1 x5) 64), (0, w32 (x6 + 1)), (0, irm (m a1 x5) 64), (0, idv (m a1 x5) 64), u9], [], m)) 5 rfl ?_
            exact h
theorem b_Ju_pop {d : Nat} {r : Option Vv × Mm} {m : Mm} (h : (0 < m 10 2 → ∀ m1 : Mm, m1 = up m 10 2 (w32 ((m 10 2) - 1)) → ((0 ≤ m1 10 2 ∧ m1 10 2 < 300) ∧ (r = (some (0, m1 12 (m1 10 2)), m1)))) ∧ (¬ (0 < m 10 2) → r = (some (0, 0), m))) : Ev d K_Ju_pop 0 0 [(12, 10)] [] m r := by
  refine Ev_rn (q := (2, [(12, 10)], [(0, m 10 2)], m)) 2 rfl ?_
  refine Ev_if rfl (fun hc => ?_) (fun hc => ?_)
  · replace h := h.1 hc
    refine Ev_rn (q := (11, [(12, 10)], [], up m 10 2 (w32 ((m 10 2) - 1)))) 6 rfl ?_
    generalize e1 : up m 10 2 (w32 ((m 10 2) - 1)) = m1
    replace h := h m1 e1.symm
    refine Ev_rn (q := (15, [(12, 10)], [(0, m1 10 2), (2500, 12)], m1)) 4 rfl ?_
    obtain ⟨hc, h⟩ := h
    refine Ev_iald (n := 300) rfl (by decide) (by decide) hc ?_
    exact Ev_ret rfl rfl h
  · replace h := h.2 hc
    refine Ev_rn (q := (4, [(12, 10)], [(0, 0)], m)) 1 rfl ?_
    exact Ev_ret rfl rfl h
theorem b_Ju_push {d : Nat} {r : Option Vv × Mm} {m : Mm} {x1 : Int} (h : (300 ≤ m 10 2 → r = (none, m)) ∧ (¬ (300 ≤ m 10 2) → (0 ≤ m 10 2 ∧ m 10 2 < 300) ∧ (∀ m1 : Mm, m1 = up m 12 (m 10 2) x1 → (∀ m2 : Mm, m2 = up m1 10 2 (w32 ((m1 10 2) + 1)) → (r = (none, m2)))))) : Ev d K_Ju_push 3 0 [(12, 10), (0, x1)] [] m r := by
  refine Ev_rn (q := (3, [(12, 10), (0, x1)], [(0, 300), (0, m 10 2)], m)) 3 rfl ?_
  refine Ev_icmp rfl (fun hc => ?_) (fun hc => ?_)
  · replace h := h.1 hc
    exact Ev_ret rfl rfl h
  · replace h := h.2 hc
    refine Ev_rn (q := (9, [(12, 10), (0, x1)], [(0, x1), (0, m 10 2), (2500, 12)], m)) 5 rfl ?_
    obtain ⟨hc, h⟩ := h
    refine Ev_iast (n := 300) rfl (by decide) (by decide) hc ?_
    generalize e1 : up m 12 (m 10 2) x1 = m1
    replace h := h m1 e1.symm
    refine Ev_rn (q := (16, [(12, 10), (0, x1)], [], up m1 10 2 (w32 ((m1 10 2) + 1)))) 6 rfl ?_
    generalize e2 : up m1 10 2 (w32 ((m1 10 2) + 1)) = m2
    replace h := h m2 e2.symm
    exact Ev_ret rfl rfl h
theorem b_Ju_ofTwo {d : Nat} {r : Option Vv × Mm} {m : Mm} {x0 x1 x2 : Int} (h : (x0 = 7 → ∃ (v1 : Int) (m1 : Mm), Cl d k_Ju_bounded [(1, w64 (x1 + x2))] m (some (0, v1), m1) ∧ (r = (some (0, v1), m1))) ∧ (¬ x0 = 7 → (x0 = 8 → ∃ (v2 : Int) (m2 : Mm), Cl d k_Ju_bounded [(1, w64 (x1 - x2))] m (some (0, v2), m2) ∧ (r = (some (0, v2), m2))) ∧ (¬ x0 = 8 → (x0 = 9 → ∃ (v3 : Int) (m3 : Mm), Cl d k_Ju_bounded [(1, w64 (x1 * x2))] m (some (0, v3), m3) ∧ (r = (some (0, v3), m3))) ∧ (¬ x0 = 9 → (x0 = 10 → (¬ x2 = 0 → (x2 ≠ 0) ∧ (r = (some (0, idv x1 x2), m))) ∧ (¬ (¬ x2 = 0) → r = (some (0, 0), m))) ∧ (¬ x0 = 10 → (x0 = 33 → ∃ (v4 : Int) (m4 : Mm), Cl d k_Pl_apart [(0, x1), (0, x2)] m (some (0, v4), m4) ∧ (r = (some (0, v4), m4))) ∧ (¬ x0 = 33 → (x0 = 40 → r = (some (0, iro x1 x2), m)) ∧ (¬ x0 = 40 → (x0 = 41 → r = (some (0, ian x1 x2), m)) ∧ (¬ x0 = 41 → ∃ (v5 : Int) (m5 : Mm), Cl d k_Ju_compares [(0, x0), (0, x1), (0, x2)] m (some (0, v5), m5) ∧ ((v5 = 0 → r = (some (0, 0), m5)) ∧ (¬ (v5 = 0) → r = (some (0, 1), m5))))))))))) : Ev (d + 1) K_Ju_ofTwo 0 0 [(0, x0), (0, x1), (0, x2)] [] m r := by
  refine Ev_rn (q := (1, [(0, x0), (0, x1), (0, x2)], [(0, x0)], m)) 1 rfl ?_
  refine Ev_lsw rfl ?_
  refine ⟨fun hc => ?_, fun hc => ?_⟩
  · replace h := h.1 hc
    refine Ev_rn (q := (7, [(0, x0), (0, x1), (0, x2)], [(1, w64 (x1 + x2))], m)) 5 rfl ?_
    obtain ⟨v1, m1, hc, h⟩ := h
    refine Ev_call (rest := []) rfl rfl (Nat.le_of_ble_eq_true rfl) hc ?_
    exact Ev_ret rfl rfl h
  · replace h := h.2 hc
    refine ⟨fun hc => ?_, fun hc => ?_⟩
    · replace h := h.1 hc
      refine Ev_rn (q := (14, [(0, x0), (0, x1), (0, x2)], [(1, w64 (x1 - x2))], m)) 5 rfl ?_
      obtain ⟨v2, m2, hc, h⟩ := h
      refine Ev_call (rest := []) rfl rfl (Nat.le_of_ble_eq_true rfl) hc ?_
      exact Ev_ret rfl rfl h
    · replace h := h.2 hc
      refine ⟨fun hc => ?_, fun hc => ?_⟩
      · replace h := h.1 hc
        refine Ev_rn (q := (21, [(0, x0), (0, x1), (0, x2)], [(1, w64 (x1 * x2))], m)) 5 rfl ?_
        obtain ⟨v3, m3, hc, h⟩ := h
        refine Ev_call (rest := []) rfl rfl (Nat.le_of_ble_eq_true rfl) hc ?_
        exact Ev_ret rfl rfl h
      · replace h := h.2 hc
        refine ⟨fun hc => ?_, fun hc => ?_⟩
        · replace h := h.1 hc
          refine Ev_rn (q := (24, [(0, x0), (0, x1), (0, x2)], [(0, x2)], m)) 1 rfl ?_
          refine Ev_if rfl (fun hc => ?_) (fun hc => ?_)
          · replace h := h.1 hc
            refine Ev_rn (q := (29, [(0, x0), (0, x1), (0, x2)], [(0, x2), (0, x1)], m)) 2 rfl ?_
            obtain ⟨hc, h⟩ := h
            refine Ev_idiv rfl hc ?_
            exact Ev_ret rfl rfl h
          · replace h := h.2 hc
            refine Ev_rn (q := (30, [(0, x0), (0, x1), (0, x2)], [(0, 0)], m)) 2 rfl ?_
            exact Ev_ret rfl rfl h
        · replace h := h.2 hc
          refine ⟨fun hc => ?_, fun hc => ?_⟩
          · replace h := h.1 hc
            refine Ev_rn (q := (33, [(0, x0), (0, x1), (0, x2)], [(0, x2), (0, x1)], m)) 2 rfl ?_
            obtain ⟨v4, m4, hc, h⟩ := h
            refine Ev_call (rest := []) rfl rfl (Nat.le_of_ble_eq_true rfl) hc ?_
            exact Ev_ret rfl rfl h
          · replace h := h.2 hc
            refine ⟨fun hc => ?_, fun hc => ?_⟩
            · replace h := h.1 hc
              refine Ev_rn (q := (42, [(0, x0), (0, x1), (0, x2)], [(0, iro x1 x2)], m)) 3 rfl ?_
              exact Ev_ret rfl rfl h
            · replace h := h.2 hc
              refine ⟨fun hc => ?_, fun hc => ?_⟩
              · replace h := h.1 hc
                refine Ev_rn (q := (38, [(0, x0), (0, x1), (0, x2)], [(0, ian x1 x2)], m)) 3 rfl ?_
                exact Ev_ret rfl rfl h
              · replace h := h.2 hc
                refine Ev_rn (q := (46, [(0, x0), (0, x1), (0, x2)], [(0, x2), (0, x1), (0, x0)], m)) 3 rfl ?_
                obtain ⟨v5, m5, hc, h⟩ := h
                refine Ev_call (rest := []) rfl rfl (Nat.le_of_ble_eq_true rfl) hc ?_
                refine Ev_if rfl (fun hc => ?_) (fun hc => ?_)
                · replace h := h.1 hc
                  refine Ev_rn (q := (51, [(0, x0), (0, x1), (0, x2)], [(0, 0)], m5)) 1 rfl ?_
                  exact Ev_ret rfl rfl h
                · replace h := h.2 hc
                  refine Ev_rn (q := (51, [(0, x0), (0, x1), (0, x2)], [(0, 1)], m5)) 2 rfl ?_
                  exact Ev_ret rfl rfl h
theorem b_Ju_bounded {d : Nat} {r : Option Vv × Mm} {m : Mm} {x0 : Int} (h : r = (some (0, w32 (max (-1000000) (min 1000000 x0))), m)) : Ev d K_Ju_bounded 0 0 [(1, x0), (9, 0)] [] m r := by
  refine Ev_rn (q := (6, [(1, x0), (9, 0)], [(0, w32 (max (-1000000) (min 1000000 x0)))], m)) 6 rfl ?_
  exact Ev_ret rfl rfl h
theorem b_Ju_compares {d : Nat} {r : Option Vv × Mm} {m : Mm} {x0 x1 x2 : Int} (h : (x0 = 3 → (x2 ≤ x1 → r = (some (0, 0), m)) ∧ (¬ (x2 ≤ x1) → r = (some (0, 1), m))) ∧ (¬ x0 = 3 → (x0 = 4 → (x1 ≤ x2 → r = (some (0, 0), m)) ∧ (¬ (x1 ≤ x2) → r = (some (0, 1), m))) ∧ (¬ x0 = 4 → (x0 = 5 → (¬ x1 = x2 → r = (some (0, 0), m)) ∧ (¬ (¬ x1 = x2) → r = (some (0, 1), m))) ∧ (¬ x0 = 5 → (x0 = 6 → (x1 = x2 → r = (some (0, 0), m)) ∧ (¬ (x1 = x2) → r = (some (0, 1), m))) ∧ (¬ x0 = 6 → (x0 = 7 → (x1 = x2 → r = (some (0, 0), m)) ∧ (¬ (x1 = x2) → r = (some (0, 1), m))) ∧ (¬ x0 = 7 → (x0 = 8 → (x1 = x2 → r = (some (0, 0), m)) ∧ (¬ (x1 = x2) → r = (some (0, 1), m))) ∧ (¬ x0 = 8 → (x0 = 9 → (x1 = x2 → r = (some (0, 0), m)) ∧ (¬ (x1 = x2) → r = (some (0, 1), m))) ∧ (¬ x0 = 9 → (x0 = 10 → (x1 = x2 → r = (some (0, 0), m)) ∧ (¬ (x1 = x2) → r = (some (0, 1), m))) ∧ (¬ x0 = 10 → (x0 = 11 → (x1 = x2 → r = (some (0, 0), m)) ∧ (¬ (x1 = x2) → r = (some (0, 1), m))) ∧ (¬ x0 = 11 → (x0 = 12 → (x1 = x2 → r = (some (0, 0), m)) ∧ (¬ (x1 = x2) → r = (some (0, 1), m))) ∧ (¬ x0 = 12 → (x0 = 13 → (x1 = x2 → r = (some (0, 0), m)) ∧ (¬ (x1 = x2) → r = (some (0, 1), m))) ∧ (¬ x0 = 13 → (x0 = 14 → (x2 < x1 → r = (some (0, 0), m)) ∧ (¬ (x2 < x1) → r = (some (0, 1), m))) ∧ (¬ x0 = 14 → (x0 = 15 → (x1 < x2 → r = (some (0, 0), m)) ∧ (¬ (x1 < x2) → r = (some (0, 1), m))) ∧ (¬ x0 = 15 → (x1 = x2 → r = (some (0, 0), m)) ∧ (¬ (x1 = x2) → r = (some (0, 1), m)))))))))))))))) : Ev d K_Ju_compares 2 0 [(0, x0), (0, x1), (0, x2)] [] m r := by
  refine Ev_rn (q := (1, [(0, x0), (0, x1), (0, x2)], [(0, x0)], m)) 1 rfl ?_
  refine Ev_tsw rfl ?_
  refine ⟨fun hc => ?_, fun hc => ?_⟩
  · replace h := h.1 hc
    refine Ev_rn (q := (4, [(0, x0), (0, x1), (0, x2)], [(0, x2), (0, x1)], m)) 2 rfl ?_
    refine Ev_icmp rfl (fun hc => ?_) (fun hc => ?_)
    · replace h := h.1 hc
      refine Ev_rn (q := (8, [(0, x0), (0, x1), (0, x2)], [(0, 0)], m)) 1 rfl ?_
      exact Ev_zret rfl rfl (by decide) h
    · replace h := h.2 hc
      refine Ev_rn (q := (8, [(0, x0), (0, x1), (0, x2)], [(0, 1)], m)) 2 rfl ?_
      exact Ev_zret rfl rfl (by decide) h
  · replace h := h.2 hc
    refine ⟨fun hc => ?_, fun hc => ?_⟩
    · replace h := h.1 hc
      refine Ev_rn (q := (18, [(0, x0), (0, x1), (0, x2)], [(0, x2), (0, x1)], m)) 2 rfl ?_
      refine Ev_icmp rfl (fun hc => ?_) (fun hc => ?_)
      · replace h := h.1 hc
        refine Ev_rn (q := (22, [(0, x0), (0, x1), (0, x2)], [(0, 0)], m)) 1 rfl ?_
        exact Ev_zret rfl rfl (by decide) h
      · replace h := h.2 hc
        refine Ev_rn (q := (22, [(0, x0), (0, x1), (0, x2)], [(0, 1)], m)) 2 rfl ?_
        exact Ev_zret rfl rfl (by decide) h
    · replace h := h.2 hc
      refine ⟨fun hc => ?_, fun hc => ?_⟩
      · replace h := h.1 hc
        refine Ev_rn (q := (32, [(0, x0), (0, x1), (0, x2)], [(0, x2), (0, x1)], m)) 2 rfl ?_
        refine Ev_icmp rfl (fun hc => ?_) (fun hc => ?_)
        · replace h := h.1 hc
          refine Ev_rn (q := (36, [(0, x0), (0, x1), (0, x2)], [(0, 0)], m)) 1 rfl ?_
          exact Ev_zret rfl rfl (by decide) h
        · replace h := h.2 hc
          refine Ev_rn (q := (36, [(0, x0), (0, x1), (0, x2)], [(0, 1)], m)) 2 rfl ?_
          exact Ev_zret rfl rfl (by decide) h
      · replace h := h.2 hc
        refine ⟨fun hc => ?_, fun hc => ?_⟩
        · replace h := h.1 hc
          refine Ev_rn (q := (39, [(0, x0), (0, x1), (0, x2)], [(0, x2), (0, x1)], m)) 2 rfl ?_
          refine Ev_icmp rfl (fun hc => ?_) (fun hc => ?_)
          · replace h := h.1 hc
            refine Ev_rn (q := (43, [(0, x0), (0, x1), (0, x2)], [(0, 0)], m)) 1 rfl ?_
            exact Ev_zret rfl rfl (by decide) h
          · replace h := h.2 hc
            refine Ev_rn (q := (43, [(0, x0), (0, x1), (0, x2)], [(0, 1)], m)) 2 rfl ?_
            exact Ev_zret rfl rfl (by decide) h
        · replace h := h.2 hc
          refine ⟨fun hc => ?_, fun hc => ?_⟩
          · replace h := h.1 hc
            refine Ev_rn (q := (39, [(0, x0), (0, x1), (0, x2)], [(0, x2), (0, x1)], m)) 2 rfl ?_
            refine Ev_icmp rfl (fun hc => ?_) (fun hc => ?_)
            · replace h := h.1 hc
              refine Ev_rn (q := (43, [(0, x0), (0, x1), (0, x2)], [(0, 0)], m)) 1 rfl ?_
              exact Ev_zret rfl rfl (by decide) h
            · replace h := h.2 hc
              refine Ev_rn (q := (43, [(0, x0), (0, x1), (0, x2)], [(0, 1)], m)) 2 rfl ?_
              exact Ev_zret rfl rfl (by decide) h
          · replace h := h.2 hc
            refine ⟨fun hc => ?_, fun hc => ?_⟩
            · replace h := h.1 hc
              refine Ev_rn (q := (39, [(0, x0), (0, x1), (0, x2)], [(0, x2), (0, x1)], m)) 2 rfl ?_
              refine Ev_icmp rfl (fun hc => ?_) (fun hc => ?_)
              · replace h := h.1 hc
                refine Ev_rn (q := (43, [(0, x0), (0, x1), (0, x2)], [(0, 0)], m)) 1 rfl ?_
                exact Ev_zret rfl rfl (by decide) h
              · replace h := h.2 hc
                refine Ev_rn (q := (43, [(0, x0), (0, x1), (0, x2)], [(0, 1)], m)) 2 rfl ?_
                exact Ev_zret rfl rfl (by decide) h
            · replace h := h.2 hc
              refine ⟨fun hc => ?_, fun hc => ?_⟩
              · replace h := h.1 hc
                refine Ev_rn (q := (39, [(0, x0), (0, x1), (0, x2)], [(0, x2), (0, x1)], m)) 2 rfl ?_
                refine Ev_icmp rfl (fun hc => ?_) (fun hc => ?_)
                · replace h := h.1 hc
                  refine Ev_rn (q := (43, [(0, x0), (0, x1), (0, x2)], [(0, 0)], m)) 1 rfl ?_
                  exact Ev_zret rfl rfl (by decide) h
                · replace h := h.2 hc
                  refine Ev_rn (q := (43, [(0, x0), (0, x1), (0, x2)], [(0, 1)], m)) 2 rfl ?_
                  exact Ev_zret rfl rfl (by decide) h
              · replace h := h.2 hc
                refine ⟨fun hc => ?_, fun hc => ?_⟩
                · replace h := h.1 hc
                  refine Ev_rn (q := (39, [(0, x0), (0, x1), (0, x2)], [(0, x2), (0, x1)], m)) 2 rfl ?_
                  refine Ev_icmp rfl (fun hc => ?_) (fun hc => ?_)
                  · replace h := h.1 hc
                    refine Ev_rn (q := (43, [(0, x0), (0, x1), (0, x2)], [(0, 0)], m)) 1 rfl ?_
                    exact Ev_zret rfl rfl (by decide) h
                  · replace h := h.2 hc
                    refine Ev_rn (q := (43, [(0, x0), (0, x1), (0, x2)], [(0, 1)], m)) 2 rfl ?_
                    exact Ev_zret rfl rfl (by decide) h
                · replace h := h.2 hc
                  refine ⟨fun hc => ?_, fun hc => ?_⟩
                  · replace h := h.1 hc
                    refine Ev_rn (q := (39, [(0, x0), (0, x1), (0, x2)], [(0, x2), (0, x1)], m)) 2 rfl ?_
                    refine Ev_icmp rfl (fun hc => ?_) (fun hc => ?_)
                    · replace h := h.1 hc
                      refine Ev_rn (q := (43, [(0, x0), (0, x1), (0, x2)], [(0, 0)], m)) 1 rfl ?_
                      exact Ev_zret rfl rfl (by decide) h
                    · replace h := h.2 hc
                      refine Ev_rn (q := (43, [(0, x0), (0, x1), (0, x2)], [(0, 1)], m)) 2 rfl ?_
                      exact Ev_zret rfl rfl (by decide) h
                  · replace h := h.2 hc
                    refine ⟨fun hc => ?_, fun hc => ?_⟩
                    · replace h := h.1 hc
                      refine Ev_rn (q := (39, [(0, x0), (0, x1), (0, x2)], [(0, x2), (0, x1)], m)) 2 rfl ?_
                      refine Ev_icmp rfl (fun hc => ?_) (fun hc => ?_)
                      · replace h := h.1 hc
                        refine Ev_rn (q := (43, [(0, x0), (0, x1), (0, x2)], [(0, 0)], m)) 1 rfl ?_
                        exact Ev_zret rfl rfl (by decide) h
                      · replace h := h.2 hc
                        refine Ev_rn (q := (43, [(0, x0), (0, x1), (0, x2)], [(0, 1)], m)) 2 rfl ?_
                        exact Ev_zret rfl rfl (by decide) h
                    · replace h := h.2 hc
                      refine ⟨fun hc => ?_, fun hc => ?_⟩
                      · replace h := h.1 hc
                        refine Ev_rn (q := (39, [(0, x0), (0, x1), (0, x2)], [(0, x2), (0, x1)], m)) 2 rfl ?_
                        refine Ev_icmp rfl (fun hc => ?_) (fun hc => ?_)
                        · replace h := h.1 hc
                          refine Ev_rn (q := (43, [(0, x0), (0, x1), (0, x2)], [(0, 0)], m)) 1 rfl ?_
                          exact Ev_zret rfl rfl (by decide) h
                        · replace h := h.2 hc
                          refine Ev_rn (q := (43, [(0, x0), (0, x1), (0, x2)], [(0, 1)], m)) 2 rfl ?_
                          exact Ev_zret rfl rfl (by decide) h
                      · replace h := h.2 hc
                        refine ⟨fun hc => ?_, fun hc => ?_⟩
                        · replace h := h.1 hc
                          refine Ev_rn (q := (11, [(0, x0), (0, x1), (0, x2)], [(0, x2), (0, x1)], m)) 2 rfl ?_
                          refine Ev_icmp rfl (fun hc => ?_) (fun hc => ?_)
                          · replace h := h.1 hc
                            refine Ev_rn (q := (15, [(0, x0), (0, x1), (0, x2)], [(0, 0)], m)) 1 rfl ?_
                            exact Ev_zret rfl rfl (by decide) h
                          · replace h := h.2 hc
                            refine Ev_rn (q := (15, [(0, x0), (0, x1), (0, x2)], [(0, 1)], m)) 2 rfl ?_
                            exact Ev_zret rfl rfl (by decide) h
                        · replace h := h.2 hc
                          refine ⟨fun hc => ?_, fun hc => ?_⟩
                          · replace h := h.1 hc
                            refine Ev_rn (q := (25, [(0, x0), (0, x1), (0, x2)], [(0, x2), (0, x1)], m)) 2 rfl ?_
                            refine Ev_icmp rfl (fun hc => ?_) (fun hc => ?_)
                            · replace h := h.1 hc
                              refine Ev_rn (q := (29, [(0, x0), (0, x1), (0, x2)], [(0, 0)], m)) 1 rfl ?_
                              exact Ev_zret rfl rfl (by decide) h
                            · replace h := h.2 hc
                              refine Ev_rn (q := (29, [(0, x0), (0, x1), (0, x2)], [(0, 1)], m)) 2 rfl ?_
                              exact Ev_zret rfl rfl (by decide) h
                          · replace h := h.2 hc
                            refine Ev_rn (q := (39, [(0, x0), (0, x1), (0, x2)], [(0, x2), (0, x1)], m)) 2 rfl ?_
                            refine Ev_icmp rfl (fun hc => ?_) (fun hc => ?_)
                            · replace h := h.1 hc
                              refine Ev_rn (q := (43, [(0, x0), (0, x1), (0, x2)], [(0, 0)], m)) 1 rfl ?_
                              exact Ev_zret rfl rfl (by decide) h
                            · replace h := h.2 hc
                              refine Ev_rn (q := (43, [(0, x0), (0, x1), (0, x2)], [(0, 1)], m)) 2 rfl ?_
                              exact Ev_zret rfl rfl (by decide) h
theorem b_La_copyFrom {d : Nat} {r : Option Vv × Mm} {m : Mm} {o0 o1 : Int} (h : ∀ m1 : Mm, m1 = up m o0 1 (m o1 1) → (∀ m2 : Mm, m2 = up m1 o0 4 (m1 o1 4) → (∃ (m3 : Mm), Cl d k_La_takeBackTo [(13, o0), (13, o1)] m2 (none, m3) ∧ (r = (none, m3))))) : Ev (d + 1) K_La_copyFrom 3 0 [(13, o0), (13, o1)] [] m r := by
  refine Ev_rn (q := (4, [(13, o0), (13, o1)], [], up m o0 1 (m o1 1))) 4 rfl ?_
  generalize e1 : up m o0 1 (m o1 1) = m1
  replace h := h m1 e1.symm
  refine Ev_rn (q := (8, [(13, o0), (13, o1)], [], up m1 o0 4 (m1 o1 4))) 4 rfl ?_
  generalize e2 : up m1 o0 4 (m1 o1 4) = m2
  replace h := h m2 e2.symm
  refine Ev_rn (q := (10, [(13, o0), (13, o1)], [(13, o1), (13, o0)], m2)) 2 rfl ?_
  obtain ⟨m3, hc, h⟩ := h
  refine Ev_call (rest := []) rfl rfl (Nat.le_of_ble_eq_true rfl) hc ?_
  exact Ev_ret rfl rfl h
theorem b_La_takeBackTo {d : Nat} {r : Option Vv × Mm} {m : Mm} {o0 o1 : Int} (h : ∀ m1 : Mm, m1 = up m o0 0 (m o1 0) → (∀ m2 : Mm, m2 = up m1 o0 5 (m1 o1 5) → (∀ m3 : Mm, m3 = up m2 o0 6 (m2 o1 6) → (∀ m4 : Mm, m4 = up m3 o0 7 (m3 o1 7) → (∀ m5 : Mm, m5 = cpy m4 (o1 + 3) 0 (o0 + 3) 0 30 → (∀ m6 : Mm, m6 = up m5 o0 4 (iro (ian (m5 o0 4) (ixo (w32 ((isl 1 (m5 o1 1)) - 1)) (-1))) (m5 o1 4)) → (Ev d K_La_takeBackTo 3 44 [(13, o0), (13, o1), (0, w32 ((isl 1 (m5 o1 1)) - 1)), (0, 0)] [] m6 r))))))) : Ev d K_La_takeBackTo 3 0 [(13, o0), (13, o1), (9, 0), (9, 0)] [] m r := by
  refine Ev_rn (q := (4, [(13, o0), (13, o1), (9, 0), (9, 0)], [], up m o0 0 (m o1 0))) 4 rfl ?_
  generalize e1 : up m o0 0 (m o1 0) = m1
  replace h := h m1 e1.symm
  refine Ev_rn (q := (8, [(13, o0), (13, o1), (9, 0), (9, 0)], [], up m1 o0 5 (m1 o1 5))) 4 rfl ?_
  generalize e2 : up m1 o0 5 (m1 o1 5) = m2
  replace h := h m2 e2.symm
  refine Ev_rn (q := (12, [(13, o0), (13, o1), (9, 0), (9, 0)], [], up m2 o0 6 (m2 o1 6))) 4 rfl ?_
  generalize e3 : up m2 o0 6 (m2 o1 6) = m3
  replace h := h m3 e3.symm
  refine Ev_rn (q := (16, [(13, o0), (13, o1), (9, 0), (9, 0)], [], up m3 o0 7 (m3 o1 7))) 4 rfl ?_
  generalize e4 : up m3 o0 7 (m3 o1 7) = m4
  replace h := h m4 e4.symm
  refine Ev_rn (q := (23, [(13, o0), (13, o1), (9, 0), (9, 0)], [(0, 30), (0, 0), (340, o0 + 3), (0, 0), (340, o1 + 3)], m4)) 7 rfl ?_
  refine Ev_acp (ls := 30) (ld := 30) rfl (by decide) (by decide) (by decide) ?_
  generalize e5 : cpy m4 (o1 + 3) 0 (o0 + 3) 0 30 = m5
  replace h := h m5 e5.symm
  refine Ev_rn (q := (42, [(13, o0), (13, o1), (0, w32 ((isl 1 (m5 o1 1)) - 1)), (9, 0)], [], up m5 o0 4 (iro (ian (m5 o0 4) (ixo (w32 ((isl 1 (m5 o1 1)) - 1)) (-1))) (m5 o1 4)))) 18 rfl ?_
  generalize e6 : up m5 o0 4 (iro (ian (m5 o0 4) (ixo (w32 ((isl 1 (m5 o1 1)) - 1)) (-1))) (m5 o1 4)) = m6
  replace h := h m6 e6.symm
  refine Ev_rn (q := (44, [(13, o0), (13, o1), (0, w32 ((isl 1 (m5 o1 1)) - 1)), (0, 0)], [], m6)) 2 rfl ?_
  exact h
theorem b_La_takeBackTo_44 {d : Nat} {r : Option Vv × Mm} {m : Mm} {o0 o1 x2 x3 : Int} (h : (m o1 1 ≤ x3 → r = (none, m)) ∧ (¬ (m o1 1 ≤ x3) → (0 ≤ x3 ∧ x3 < 5) ∧ ((0 ≤ x3 ∧ x3 < 5) ∧ (∀ m1 : Mm, m1 = up m (o0 + 1) x3 (m (o1 + 1) x3) → ((0 ≤ x3 ∧ x3 < 5) ∧ ((0 ≤ x3 ∧ x3 < 5) ∧ (∀ m2 : Mm, m2 = up m1 (o0 + 2) x3 (m1 (o1 + 2) x3) → (Ev d K_La_takeBackTo 3 44 [(13, o0), (13, o1), (0, x2), (0, w32 (x3 + 1))] [] m2 r)))))))) : Ev d K_La_takeBackTo 3 44 [(13, o0), (13, o1), (0, x2), (0, x3)] [] m r := by
  refine Ev_rn (q := (47, [(13, o0), (13, o1), (0, x2), (0, x3)], [(0, m o1 1), (0, x3)], m)) 3 rfl ?_
  refine Ev_icmp rfl (fun hc => ?_) (fun hc => ?_)
  · replace h := h.1 hc
    exact Ev_ret rfl rfl h
  · replace h := h.2 hc
    refine Ev_rn (q := (54, [(13, o0), (13, o1), (0, x2), (0, x3)], [(0, x3), (140, o1 + 1), (0, x3), (140, o0 + 1)], m)) 6 rfl ?_
    obtain ⟨hc, h⟩ := h
    refine Ev_iald (n := 5) rfl (by decide) (by decide) hc ?_
    obtain ⟨hc, h⟩ := h
    refine Ev_iast (n := 5) rfl (by decide) (by decide) hc ?_
    generalize e1 : up m (o0 + 1) x3 (m (o1 + 1) x3) = m1
    replace h := h m1 e1.symm
    refine Ev_rn (q := (62, [(13, o0), (13, o1), (0, x2), (0, x3)], [(0, x3), (140, o1 + 2), (0, x3), (140, o0 + 2)], m1)) 6 rfl ?_
    obtain ⟨hc, h⟩ := h
    refine Ev_iald (n := 5) rfl (by decide) (by decide) hc ?_
    obtain ⟨hc, h⟩ := h
    refine Ev_iast (n := 5) rfl (by decide) (by decide) hc ?_
    generalize e2 : up m1 (o0 + 2) x3 (m1 (o1 + 2) x3) = m2
    replace h := h m2 e2.symm
    refine Ev_rn (q := (44, [(13, o0), (13, o1), (0, x2), (0, w32 (x3 + 1))], [], m2)) 2 rfl ?_
    exact h
theorem b_La_tellCow {d : Nat} {r : Option Vv × Mm} {m : Mm} {o0 x1 x2 : Int} (h : (m o0 1 < 5 → (0 ≤ m o0 1 ∧ m o0 1 < 5) ∧ (∀ m1 : Mm, m1 = up m (o0 + 1) (m o0 1) x1 → ((0 ≤ m1 o0 1 ∧ m1 o0 1 < 5) ∧ (∀ m2 : Mm, m2 = up m1 (o0 + 2) (m1 o0 1) x2 → (∀ m3 : Mm, m3 = up m2 o0 4 (ian (m2 o0 4) (ixo (isl 1 (m2 o0 1)) (-1))) → (∀ m4 : Mm, m4 = up m3 o0 1 (w32 ((m3 o0 1) + 1)) → (r = (some (0, w32 ((m4 o0 1) - 1)), m4)))))))) ∧ (¬ (m o0 1 < 5) → r = (some (0, (-1)), m))) : Ev d K_La_tellCow 0 0 [(13, o0), (0, x1), (0, x2)] [] m r := by
  refine Ev_rn (q := (3, [(13, o0), (0, x1), (0, x2)], [(0, 5), (0, m o0 1)], m)) 3 rfl ?_
  refine Ev_icmp rfl (fun hc => ?_) (fun hc => ?_)
  · replace h := h.1 hc
    refine Ev_rn (q := (11, [(13, o0), (0, x1), (0, x2)], [(0, x1), (0, m o0 1), (140, o0 + 1)], m)) 5 rfl ?_
    obtain ⟨hc, h⟩ := h
    refine Ev_iast (n := 5) rfl (by decide) (by decide) hc ?_
    generalize e1 : up m (o0 + 1) (m o0 1) x1 = m1
    replace h := h m1 e1.symm
    refine Ev_rn (q := (17, [(13, o0), (0, x1), (0, x2)], [(0, x2), (0, m1 o0 1), (140, o0 + 2)], m1)) 5 rfl ?_
    obtain ⟨hc, h⟩ := h
    refine Ev_iast (n := 5) rfl (by decide) (by decide) hc ?_
    generalize e2 : up m1 (o0 + 2) (m1 o0 1) x2 = m2
    replace h := h m2 e2.symm
    refine Ev_rn (q := (29, [(13, o0), (0, x1), (0, x2)], [], up m2 o0 4 (ian (m2 o0 4) (ixo (isl 1 (m2 o0 1)) (-1))))) 11 rfl ?_
    generalize e3 : up m2 o0 4 (ian (m2 o0 4) (ixo (isl 1 (m2 o0 1)) (-1))) = m3
    replace h := h m3 e3.symm
    refine Ev_rn (q := (35, [(13, o0), (0, x1), (0, x2)], [], up m3 o0 1 (w32 ((m3 o0 1) + 1)))) 6 rfl ?_
    generalize e4 : up m3 o0 1 (w32 ((m3 o0 1) + 1)) = m4
    replace h := h m4 e4.symm
    refine Ev_rn (q := (39, [(13, o0), (0, x1), (0, x2)], [(0, w32 ((m4 o0 1) - 1))], m4)) 4 rfl ?_
    exact Ev_ret rfl rfl h
  · replace h := h.2 hc
    refine Ev_rn (q := (5, [(13, o0), (0, x1), (0, x2)], [(0, (-1))], m)) 1 rfl ?_
    exact Ev_ret rfl rfl h
theorem b_La_isCow {d : Nat} {r : Option Vv × Mm} {m : Mm} {o0 x1 : Int} (h : (x1 < 0 → r = (some (0, 0), m)) ∧ (¬ (x1 < 0) → (m o0 1 ≤ x1 → r = (some (0, 0), m)) ∧ (¬ (m o0 1 ≤ x1) → r = (some (0, 1), m)))) : Ev d K_La_isCow 2 0 [(13, o0), (0, x1)] [] m r := by
  refine Ev_rn (q := (1, [(13, o0), (0, x1)], [(0, x1)], m)) 1 rfl ?_
  refine Ev_if rfl (fun hc => ?_) (fun hc => ?_)
  · replace h := h.1 hc
    refine Ev_rn (q := (9, [(13, o0), (0, x1)], [(0, 0)], m)) 1 rfl ?_
    exact Ev_zret rfl rfl (by decide) h
  · replace h := h.2 hc
    refine Ev_rn (q := (5, [(13, o0), (0, x1)], [(0, m o0 1), (0, x1)], m)) 3 rfl ?_
    refine Ev_icmp rfl (fun hc => ?_) (fun hc => ?_)
    · replace h := h.1 hc
      refine Ev_rn (q := (9, [(13, o0), (0, x1)], [(0, 0)], m)) 1 rfl ?_
      exact Ev_zret rfl rfl (by decide) h
    · replace h := h.2 hc
      refine Ev_rn (q := (9, [(13, o0), (0, x1)], [(0, 1)], m)) 2 rfl ?_
      exact Ev_zret rfl rfl (by decide) h
theorem b_La_isHome {d : Nat} {r : Option Vv × Mm} {m : Mm} {o0 x1 : Int} (h : (¬ ian (isr (m o0 4) x1) 1 = 1 → r = (some (0, 0), m)) ∧ (¬ (¬ ian (isr (m o0 4) x1) 1 = 1) → r = (some (0, 1), m))) : Ev d K_La_isHome 2 0 [(13, o0), (0, x1)] [] m r := by
  refine Ev_rn (q := (7, [(13, o0), (0, x1)], [(0, 1), (0, ian (isr (m o0 4) x1) 1)], m)) 7 rfl ?_
  refine Ev_icmp rfl (fun hc => ?_) (fun hc => ?_)
  · replace h := h.1 hc
    refine Ev_rn (q := (11, [(13, o0), (0, x1)], [(0, 0)], m)) 1 rfl ?_
    exact Ev_zret rfl rfl (by decide) h
  · replace h := h.2 hc
    refine Ev_rn (q := (11, [(13, o0), (0, x1)], [(0, 1)], m)) 2 rfl ?_
    exact Ev_zret rfl rfl (by decide) h
theorem b_La_hasHedge {d : Nat} {r : Option Vv × Mm} {m : Mm} {o0 x1 : Int} (h : (x1 < 0 → r = (some (0, 0), m)) ∧ (¬ (x1 < 0) → (40 ≤ x1 → r = (some (0, 0), m)) ∧ (¬ (40 ≤ x1) → (¬ lcm (lan (lsr (m o0 0) x1) 1) 1 = 0 → r = (some (0, 0), m)) ∧ (¬ (¬ lcm (lan (lsr (m o0 0) x1) 1) 1 = 0) → r = (some (0, 1), m))))) : Ev d K_La_hasHedge 2 0 [(13, o0), (0, x1)] [] m r := by
  refine Ev_rn (q := (1, [(13, o0), (0, x1)], [(0, x1)], m)) 1 rfl ?_
  refine Ev_if rfl (fun hc => ?_) (fun hc => ?_)
  · replace h := h.1 hc
    refine Ev_rn (q := (17, [(13, o0), (0, x1)], [(0, 0)], m)) 1 rfl ?_
    exact Ev_zret rfl rfl (by decide) h
  · replace h := h.2 hc
    refine Ev_rn (q := (4, [(13, o0), (0, x1)], [(0, 40), (0, x1)], m)) 2 rfl ?_
    refine Ev_icmp rfl (fun hc => ?_) (fun hc => ?_)
    · replace h := h.1 hc
      refine Ev_rn (q := (17, [(13, o0), (0, x1)], [(0, 0)], m)) 1 rfl ?_
      exact Ev_zret rfl rfl (by decide) h
    · replace h := h.2 hc
      refine Ev_rn (q := (13, [(13, o0), (0, x1)], [(0, lcm (lan (lsr (m o0 0) x1) 1) 1)], m)) 8 rfl ?_
      refine Ev_if rfl (fun hc => ?_) (fun hc => ?_)
      · replace h := h.1 hc
        refine Ev_rn (q := (17, [(13, o0), (0, x1)], [(0, 0)], m)) 1 rfl ?_
        exact Ev_zret rfl rfl (by decide) h
      · replace h := h.2 hc
        refine Ev_rn (q := (17, [(13, o0), (0, x1)], [(0, 1)], m)) 2 rfl ?_
        exact Ev_zret rfl rfl (by decide) h
theorem b_La_addHedge {d : Nat} {r : Option Vv × Mm} {m : Mm} {o0 x1 : Int} (h : ∀ m1 : Mm, m1 = up m o0 0 (lro (m o0 0) (lsl 1 x1)) → (r = (none, m1))) : Ev d K_La_addHedge 3 0 [(13, o0), (0, x1)] [] m r := by
  refine Ev_rn (q := (8, [(13, o0), (0, x1)], [], up m o0 0 (lro (m o0 0) (lsl 1 x1)))) 8 rfl ?_
  generalize e1 : up m o0 0 (lro (m o0 0) (lsl 1 x1)) = m1
  replace h := h m1 e1.symm
  exact Ev_ret rfl rfl h
theorem b_La_removeHedge {d : Nat} {r : Option Vv × Mm} {m : Mm} {o0 x1 : Int} (h : ∀ m1 : Mm, m1 = up m o0 0 (lan (m o0 0) (lxo (lsl 1 x1) (-1))) → (r = (none, m1))) : Ev d K_La_removeHedge 3 0 [(13, o0), (0, x1)] [] m r := by
  refine Ev_rn (q := (10, [(13, o0), (0, x1)], [], up m o0 0 (lan (m o0 0) (lxo (lsl 1 x1) (-1))))) 10 rfl ?_
  generalize e1 : up m o0 0 (lan (m o0 0) (lxo (lsl 1 x1) (-1))) = m1
  replace h := h m1 e1.symm
  exact Ev_ret rfl rfl h
theorem b_La_isOpen {d : Nat} {r : Option Vv × Mm} {m : Mm} {o0 x1 x2 : Int} (h : ∃ (v1 : Int) (m1 : Mm), Cl d k_Pl_hedgeBy [(0, x1), (0, x2)] m (some (0, v1), m1) ∧ ((v1 = (-1) → r = (some (0, 0), m1)) ∧ (¬ (v1 = (-1)) → ∃ (v2 : Int) (m2 : Mm), Cl d k_La_hasHedge [(13, o0), (0, v1)] m1 (some (0, v2), m2) ∧ ((¬ v2 = 0 → r = (some (0, 0), m2)) ∧ (¬ (¬ v2 = 0) → r = (some (0, 1), m2)))))) : Ev (d + 1) K_La_isOpen 2 0 [(13, o0), (0, x1), (0, x2), (9, 0)] [] m r := by
  refine Ev_rn (q := (2, [(13, o0), (0, x1), (0, x2), (9, 0)], [(0, x2), (0, x1)], m)) 2 rfl ?_
  obtain ⟨v1, m1, hc, h⟩ := h
  refine Ev_call (rest := []) rfl rfl (Nat.le_of_ble_eq_true rfl) hc ?_
  refine Ev_rn (q := (6, [(13, o0), (0, x1), (0, x2), (0, v1)], [(0, (-1)), (0, v1)], m1)) 3 rfl ?_
  refine Ev_icmp rfl (fun hc => ?_) (fun hc => ?_)
  · replace h := h.1 hc
    refine Ev_rn (q := (14, [(13, o0), (0, x1), (0, x2), (0, v1)], [(0, 0)], m1)) 1 rfl ?_
    exact Ev_zret rfl rfl (by decide) h
  · replace h := h.2 hc
    refine Ev_rn (q := (9, [(13, o0), (0, x1), (0, x2), (0, v1)], [(0, v1), (13, o0)], m1)) 2 rfl ?_
    obtain ⟨v2, m2, hc, h⟩ := h
    refine Ev_call (rest := []) rfl rfl (Nat.le_of_ble_eq_true rfl) hc ?_
    refine Ev_if rfl (fun hc => ?_) (fun hc => ?_)
    · replace h := h.1 hc
      refine Ev_rn (q := (14, [(13, o0), (0, x1), (0, x2), (0, v1)], [(0, 0)], m2)) 1 rfl ?_
      exact Ev_zret rfl rfl (by decide) h
    · replace h := h.2 hc
      refine Ev_rn (q := (14, [(13, o0), (0, x1), (0, x2), (0, v1)], [(0, 1)], m2)) 2 rfl ?_
      exact Ev_zret rfl rfl (by decide) h
theorem b_La_openWays {d : Nat} {r : Option Vv × Mm} {m : Mm} {o0 x1 : Int} (h : Ev (d + 1) K_La_openWays 0 4 [(13, o0), (0, x1), (0, 0), (0, 0)] [] m r) : Ev (d + 1) K_La_openWays 0 0 [(13, o0), (0, x1), (9, 0), (9, 0)] [] m r := by
  refine Ev_rn (q := (4, [(13, o0), (0, x1), (0, 0), (0, 0)], [], m)) 4 rfl ?_
  exact h
theorem b_La_openWays_4 {d : Nat} {r : Option Vv × Mm} {m : Mm} {o0 x1 x2 x3 : Int} (h : (4 ≤ x3 → r = (some (0, x2), m)) ∧ (¬ (4 ≤ x3) → ∃ (v1 : Int) (m1 : Mm), Cl d k_La_isOpen [(13, o0), (0, x1), (0, x3)] m (some (0, v1), m1) ∧ ((v1 = 0 → Ev (d + 1) K_La_openWays 0 4 [(13, o0), (0, x1), (0, x2), (0, w32 (x3 + 1))] [] m1 r) ∧ (¬ (v1 = 0) → Ev (d + 1) K_La_openWays 0 4 [(13, o0), (0, x1), (0, iro x2 (isl 1 x3)), (0, w32 (x3 + 1))] [] m1 r)))) : Ev (d + 1) K_La_openWays 0 4 [(13, o0), (0, x1), (0, x2), (0, x3)] [] m r := by
  refine Ev_rn (q := (6, [(13, o0), (0, x1), (0, x2), (0, x3)], [(0, 4), (0, x3)], m)) 2 rfl ?_
  refine Ev_icmp rfl (fun hc => ?_) (fun hc => ?_)
  · replace h := h.1 hc
    refine Ev_rn (q := (21, [(13, o0), (0, x1), (0, x2), (0, x3)], [(0, x2)], m)) 1 rfl ?_
    exact Ev_ret rfl rfl h
  · replace h := h.2 hc
    refine Ev_rn (q := (10, [(13, o0), (0, x1), (0, x2), (0, x3)], [(0, x3), (0, x1), (13, o0)], m)) 3 rfl ?_
    obtain ⟨v1, m1, hc, h⟩ := h
    refine Ev_call (rest := []) rfl rfl (Nat.le_of_ble_eq_true rfl) hc ?_
    refine Ev_if rfl (fun hc => ?_) (fun hc => ?_)
    · replace h := h.1 hc
      refine Ev_rn (q := (4, [(13, o0), (0, x1), (0, x2), (0, w32 (x3 + 1))], [], m1)) 2 rfl ?_
      exact h
    · replace h := h.2 hc
      refine Ev_rn (q := (4, [(13, o0), (0, x1), (0, iro x2 (isl 1 x3)), (0, w32 (x3 + 1))], [], m1)) 8 rfl ?_
      exact h
theorem b_La_around {d : Nat} {r : Option Vv × Mm} {m : Mm} {o0 x1 : Int} (h : Ev (d + 1) K_La_around 0 4 [(13, o0), (0, x1), (0, 0), (0, 0)] [] m r) : Ev (d + 1) K_La_around 0 0 [(13, o0), (0, x1), (9, 0), (9, 0)] [] m r := by
  refine Ev_rn (q := (4, [(13, o0), (0, x1), (0, 0), (0, 0)], [], m)) 4 rfl ?_
  exact h
theorem b_La_around_4 {d : Nat} {r : Option Vv × Mm} {m : Mm} {o0 x1 x2 x3 : Int} (h : (4 ≤ x3 → r = (some (0, x2), m)) ∧ (¬ (4 ≤ x3) → ∃ (v1 : Int) (m1 : Mm), Cl d k_Pl_hedgeBy [(0, x1), (0, x3)] m (some (0, v1), m1) ∧ (∃ (v2 : Int) (m2 : Mm), Cl d k_La_hasHedge [(13, o0), (0, v1)] m1 (some (0, v2), m2) ∧ ((v2 = 0 → Ev (d + 1) K_La_around 0 4 [(13, o0), (0, x1), (0, x2), (0, w32 (x3 + 1))] [] m2 r) ∧ (¬ (v2 = 0) → Ev (d + 1) K_La_around 0 4 [(13, o0), (0, x1), (0, w32 (x2 + 1)), (0, w32 (x3 + 1))] [] m2 r))))) : Ev (d + 1) K_La_around 0 4 [(13, o0), (0, x1), (0, x2), (0, x3)] [] m r := by
  refine Ev_rn (q := (6, [(13, o0), (0, x1), (0, x2), (0, x3)], [(0, 4), (0, x3)], m)) 2 rfl ?_
  refine Ev_icmp rfl (fun hc => ?_) (fun hc => ?_)
  · replace h := h.1 hc
    refine Ev_rn (q := (17, [(13, o0), (0, x1), (0, x2), (0, x3)], [(0, x2)], m)) 1 rfl ?_
    exact Ev_ret rfl rfl h
  · replace h := h.2 hc
    refine Ev_rn (q := (10, [(13, o0), (0, x1), (0, x2), (0, x3)], [(0, x3), (0, x1), (13, o0)], m)) 3 rfl ?_
    obtain ⟨v1, m1, hc, h⟩ := h
    refine Ev_call (rest := [(13, o0)]) rfl rfl (Nat.le_of_ble_eq_true rfl) hc ?_
    obtain ⟨v2, m2, hc, h⟩ := h
    refine Ev_call (rest := []) rfl rfl (Nat.le_of_ble_eq_true rfl) hc ?_
    refine Ev_if rfl (fun hc => ?_) (fun hc => ?_)
    · replace h := h.1 hc
      refine Ev_rn (q := (4, [(13, o0), (0, x1), (0, x2), (0, w32 (x3 + 1))], [], m2)) 2 rfl ?_
      exact h
    · replace h := h.2 hc
      refine Ev_rn (q := (4, [(13, o0), (0, x1), (0, w32 (x2 + 1)), (0, w32 (x3 + 1))], [], m2)) 3 rfl ?_
      exact h
theorem b_La_canGo {d : Nat} {r : Option Vv × Mm} {m : Mm} {o0 x1 x2 : Int} (h : ∃ (v1 : Int) (m1 : Mm), Cl d k_La_isCow [(13, o0), (0, x1)] m (some (0, v1), m1) ∧ ((v1 = 0 → r = (some (0, 0), m1)) ∧ (¬ (v1 = 0) → ∃ (v2 : Int) (m2 : Mm), Cl d k_La_isHome [(13, o0), (0, x1)] m1 (some (0, v2), m2) ∧ ((¬ v2 = 0 → r = (some (0, 0), m2)) ∧ (¬ (¬ v2 = 0) → ∃ (v3 : Int) (m3 : Mm), Cl d k_Pl_isWay [(0, x2)] m2 (some (0, v3), m3) ∧ ((v3 = 0 → r = (some (0, 0), m3)) ∧ (¬ (v3 = 0) → (0 ≤ x1 ∧ x1 < 5) ∧ (∃ (v4 : Int) (m4 : Mm), Cl d k_La_isOpen [(13, o0), (0, m3 (o0 + 1) x1), (0, x2)] m3 (some (0, v4), m4) ∧ ((v4 = 0 → r = (some (0, 0), m4)) ∧ (¬ (v4 = 0) → r = (some (0, 1), m4))))))))))) : Ev (d + 1) K_La_canGo 2 0 [(13, o0), (0, x1), (0, x2)] [] m r := by
  refine Ev_rn (q := (2, [(13, o0), (0, x1), (0, x2)], [(0, x1), (13, o0)], m)) 2 rfl ?_
  obtain ⟨v1, m1, hc, h⟩ := h
  refine Ev_call (rest := []) rfl rfl (Nat.le_of_ble_eq_true rfl) hc ?_
  refine Ev_if rfl (fun hc => ?_) (fun hc => ?_)
  · replace h := h.1 hc
    refine Ev_rn (q := (22, [(13, o0), (0, x1), (0, x2)], [(0, 0)], m1)) 1 rfl ?_
    exact Ev_zret rfl rfl (by decide) h
  · replace h := h.2 hc
    refine Ev_rn (q := (6, [(13, o0), (0, x1), (0, x2)], [(0, x1), (13, o0)], m1)) 2 rfl ?_
    obtain ⟨v2, m2, hc, h⟩ := h
    refine Ev_call (rest := []) rfl rfl (Nat.le_of_ble_eq_true rfl) hc ?_
    refine Ev_if rfl (fun hc => ?_) (fun hc => ?_)
    · replace h := h.1 hc
      refine Ev_rn (q := (22, [(13, o0), (0, x1), (0, x2)], [(0, 0)], m2)) 1 rfl ?_
      exact Ev_zret rfl rfl (by decide) h
    · replace h := h.2 hc
      refine Ev_rn (q := (9, [(13, o0), (0, x1), (0, x2)], [(0, x2)], m2)) 1 rfl ?_
      obtain ⟨v3, m3, hc, h⟩ := h
      refine Ev_call (rest := []) rfl rfl (Nat.le_of_ble_eq_true rfl) hc ?_
      refine Ev_if rfl (fun hc => ?_) (fun hc => ?_)
      · replace h := h.1 hc
        refine Ev_rn (q := (22, [(13, o0), (0, x1), (0, x2)], [(0, 0)], m3)) 1 rfl ?_
        exact Ev_zret rfl rfl (by decide) h
      · replace h := h.2 hc
        refine Ev_rn (q := (15, [(13, o0), (0, x1), (0, x2)], [(0, x1), (140, o0 + 1), (13, o0)], m3)) 4 rfl ?_
        obtain ⟨hc, h⟩ := h
        refine Ev_iald (n := 5) rfl (by decide) (by decide) hc ?_
        refine Ev_rn (q := (17, [(13, o0), (0, x1), (0, x2)], [(0, x2), (0, m3 (o0 + 1) x1), (13, o0)], m3)) 1 rfl ?_
        obtain ⟨v4, m4, hc, h⟩ := h
        refine Ev_call (rest := []) rfl rfl (Nat.le_of_ble_eq_true rfl) hc ?_
        refine Ev_if rfl (fun hc => ?_) (fun hc => ?_)
        · replace h := h.1 hc
          refine Ev_rn (q := (22, [(13, o0), (0, x1), (0, x2)], [(0, 0)], m4)) 1 rfl ?_
          exact Ev_zret rfl rfl (by decide) h
        · replace h := h.2 hc
          refine Ev_rn (q := (22, [(13, o0), (0, x1), (0, x2)], [(0, 1)], m4)) 2 rfl ?_
          exact Ev_zret rfl rfl (by decide) h
theorem b_La_comesHome {d : Nat} {r : Option Vv × Mm} {m : Mm} {o0 x1 x2 x3 : Int} (h : (0 ≤ x1 ∧ x1 < 5) ∧ (∃ (v1 : Int) (m1 : Mm), Cl d k_Pl_cellBeyond [(0, m (o0 + 1) x1), (0, x2)] m (some (0, v1), m1) ∧ ((0 ≤ x1 ∧ x1 < 5) ∧ (∀ m2 : Mm, m2 = up m1 (o0 + 1) x1 v1 → ((0 ≤ x1 ∧ x1 < 5) ∧ (∀ m3 : Mm, m3 = up m2 (o0 + 2) x1 x2 → ((0 ≤ x1 ∧ x1 < 5) ∧ ((¬ ian (isr x3 (m3 (o0 + 1) x1)) 1 = 0 → ∀ m4 : Mm, m4 = up m3 o0 4 (iro (m3 o0 4) (isl 1 x1)) → (r = (some (0, 1), m4))) ∧ (¬ (¬ ian (isr x3 (m3 (o0 + 1) x1)) 1 = 0) → r = (some (0, 0), m3)))))))))) : Ev (d + 1) K_La_comesHome 2 0 [(13, o0), (0, x1), (0, x2), (0, x3)] [] m r := by
  refine Ev_rn (q := (6, [(13, o0), (0, x1), (0, x2), (0, x3)], [(0, x1), (140, o0 + 1), (0, x1), (140, o0 + 1)], m)) 6 rfl ?_
  obtain ⟨hc, h⟩ := h
  refine Ev_iald (n := 5) rfl (by decide) (by decide) hc ?_
  refine Ev_rn (q := (8, [(13, o0), (0, x1), (0, x2), (0, x3)], [(0, x2), (0, m (o0 + 1) x1), (0, x1), (140, o0 + 1)], m)) 1 rfl ?_
  obtain ⟨v1, m1, hc, h⟩ := h
  refine Ev_call (rest := [(0, x1), (140, o0 + 1)]) rfl rfl (Nat.le_of_ble_eq_true rfl) hc ?_
  obtain ⟨hc, h⟩ := h
  refine Ev_iast (n := 5) rfl (by decide) (by decide) hc ?_
  generalize e2 : up m1 (o0 + 1) x1 v1 = m2
  replace h := h m2 e2.symm
  refine Ev_rn (q := (14, [(13, o0), (0, x1), (0, x2), (0, x3)], [(0, x2), (0, x1), (140, o0 + 2)], m2)) 4 rfl ?_
  obtain ⟨hc, h⟩ := h
  refine Ev_iast (n := 5) rfl (by decide) (by decide) hc ?_
  generalize e3 : up m2 (o0 + 2) x1 x2 = m3
  replace h := h m3 e3.symm
  refine Ev_rn (q := (19, [(13, o0), (0, x1), (0, x2), (0, x3)], [(0, x1), (140, o0 + 1), (0, x3)], m3)) 4 rfl ?_
  obtain ⟨hc, h⟩ := h
  refine Ev_iald (n := 5) rfl (by decide) (by decide) hc ?_
  refine Ev_rn (q := (23, [(13, o0), (0, x1), (0, x2), (0, x3)], [(0, ian (isr x3 (m3 (o0 + 1) x1)) 1)], m3)) 3 rfl ?_
  refine Ev_if rfl (fun hc => ?_) (fun hc => ?_)
  · replace h := h.1 hc
    refine Ev_rn (q := (34, [(13, o0), (0, x1), (0, x2), (0, x3)], [], up m3 o0 4 (iro (m3 o0 4) (isl 1 x1)))) 8 rfl ?_
    generalize e4 : up m3 o0 4 (iro (m3 o0 4) (isl 1 x1)) = m4
    replace h := h m4 e4.symm
    refine Ev_rn (q := (35, [(13, o0), (0, x1), (0, x2), (0, x3)], [(0, 1)], m4)) 1 rfl ?_
    exact Ev_zret rfl rfl (by decide) h
  · replace h := h.2 hc
    refine Ev_rn (q := (25, [(13, o0), (0, x1), (0, x2), (0, x3)], [(0, 0)], m3)) 1 rfl ?_
    exact Ev_zret rfl rfl (by decide) h
theorem b_La_wander {d : Nat} {r : Option Vv × Mm} {m : Mm} {o0 x1 x2 : Int} (h : (0 ≤ x1 ∧ x1 < 5) ∧ ((0 ≤ x1 ∧ x1 < 5) ∧ (∃ (v1 : Int) (m1 : Mm), Cl d k_La_wayByHedge [(13, o0), (0, m (o0 + 1) x1), (0, m (o0 + 2) x1)] m (some (0, v1), m1) ∧ ((v1 = (-1) → r = (none, m1)) ∧ (¬ (v1 = (-1)) → ∃ (v2 : Int) (m2 : Mm), Cl d k_La_comesHome [(13, o0), (0, x1), (0, v1), (0, x2)] m1 (some (0, v2), m2) ∧ ((v2 = 0 → r = (none, m2)) ∧ (¬ (v2 = 0) → ∃ (m3 : Mm), Cl d k_La_write [(13, o0), (0, 1), (0, x1)] m2 (none, m3) ∧ (r = (none, m3))))))))) : Ev (d + 1) K_La_wander 3 0 [(13, o0), (0, x1), (0, x2), (9, 0)] [] m r := by
  refine Ev_rn (q := (4, [(13, o0), (0, x1), (0, x2), (9, 0)], [(0, x1), (140, o0 + 1), (13, o0)], m)) 4 rfl ?_
  obtain ⟨hc, h⟩ := h
  refine Ev_iald (n := 5) rfl (by decide) (by decide) hc ?_
  refine Ev_rn (q := (8, [(13, o0), (0, x1), (0, x2), (9, 0)], [(0, x1), (140, o0 + 2), (0, m (o0 + 1) x1), (13, o0)], m)) 3 rfl ?_
  obtain ⟨hc, h⟩ := h
  refine Ev_iald (n := 5) rfl (by decide) (by decide) hc ?_
  obtain ⟨v1, m1, hc, h⟩ := h
  refine Ev_call (rest := []) rfl rfl (Nat.le_of_ble_eq_true rfl) hc ?_
  refine Ev_rn (q := (13, [(13, o0), (0, x1), (0, x2), (0, v1)], [(0, (-1)), (0, v1)], m1)) 3 rfl ?_
  refine Ev_icmp rfl (fun hc => ?_) (fun hc => ?_)
  · replace h := h.1 hc
    exact Ev_ret rfl rfl h
  · replace h := h.2 hc
    refine Ev_rn (q := (18, [(13, o0), (0, x1), (0, x2), (0, v1)], [(0, x2), (0, v1), (0, x1), (13, o0)], m1)) 4 rfl ?_
    obtain ⟨v2, m2, hc, h⟩ := h
    refine Ev_call (rest := []) rfl rfl (Nat.le_of_ble_eq_true rfl) hc ?_
    refine Ev_if rfl (fun hc => ?_) (fun hc => ?_)
    · replace h := h.1 hc
      exact Ev_ret rfl rfl h
    · replace h := h.2 hc
      refine Ev_rn (q := (23, [(13, o0), (0, x1), (0, x2), (0, v1)], [(0, x1), (0, 1), (13, o0)], m2)) 3 rfl ?_
      obtain ⟨m3, hc, h⟩ := h
      refine Ev_call (rest := []) rfl rfl (Nat.le_of_ble_eq_true rfl) hc ?_
      exact Ev_ret rfl rfl h
theorem b_La_wayByHedge {d : Nat} {r : Option Vv × Mm} {m : Mm} {o0 x1 x2 : Int} (h : ∃ (v1 : Int) (m1 : Mm), Cl d k_La_openWays [(13, o0), (0, x1)] m (some (0, v1), m1) ∧ (Ev (d + 1) K_La_wayByHedge 0 6 [(13, o0), (0, x1), (0, x2), (0, v1), (0, 0), (9, 0)] [] m1 r)) : Ev (d + 1) K_La_wayByHedge 0 0 [(13, o0), (0, x1), (0, x2), (9, 0), (9, 0), (9, 0)] [] m r := by
  refine Ev_rn (q := (2, [(13, o0), (0, x1), (0, x2), (9, 0), (9, 0), (9, 0)], [(0, x1), (13, o0)], m)) 2 rfl ?_
  obtain ⟨v1, m1, hc, h⟩ := h
  refine Ev_call (rest := []) rfl rfl (Nat.le_of_ble_eq_true rfl) hc ?_
  refine Ev_rn (q := (6, [(13, o0), (0, x1), (0, x2), (0, v1), (0, 0), (9, 0)], [], m1)) 3 rfl ?_
  exact h
theorem b_La_wayByHedge_6 {d : Nat} {r : Option Vv × Mm} {m : Mm} {o0 x1 x2 x3 x4 : Int} {u5 : Vv} (h : (4 ≤ x4 → r = (some (0, (-1)), m)) ∧ (¬ (4 ≤ x4) → (0 ≤ x4 ∧ x4 < 4) ∧ ((¬ ian (isr x3 (irm (w32 (x2 + (m 501 x4))) 4)) 1 = 1 → Ev (d + 1) K_La_wayByHedge 0 6 [(13, o0), (0, x1), (0, x2), (0, x3), (0, w32 (x4 + 1)), (0, irm (w32 (x2 + (m 501 x4))) 4)] [] m r) ∧ (¬ (¬ ian (isr x3 (irm (w32 (x2 + (m 501 x4))) 4)) 1 = 1) → r = (some (0, irm (w32 (x2 + (m 501 x4))) 4), m))))) : Ev (d + 1) K_La_wayByHedge 0 6 [(13, o0), (0, x1), (0, x2), (0, x3), (0, x4), u5] [] m r := by
  refine Ev_rn (q := (8, [(13, o0), (0, x1), (0, x2), (0, x3), (0, x4), u5], [(0, 4), (0, x4)], m)) 2 rfl ?_
  refine Ev_icmp rfl (fun hc => ?_) (fun hc => ?_)
  · replace h := h.1 hc
    refine Ev_rn (q := (29, [(13, o0), (0, x1), (0, x2), (0, x3), (0, x4), u5], [(0, (-1))], m)) 1 rfl ?_
    exact Ev_ret rfl rfl h
  · replace h := h.2 hc
    refine Ev_rn (q := (12, [(13, o0), (0, x1), (0, x2), (0, x3), (0, x4), u5], [(0, x4), (51, 501), (0, x2)], m)) 3 rfl ?_
    obtain ⟨hc, h⟩ := h
    refine Ev_tri rfl hc ?_
    refine Ev_rn (q := (15, [(13, o0), (0, x1), (0, x2), (0, x3), (0, x4), u5], [(0, 4), (0, w32 (x2 + (m 501 x4)))], m)) 2 rfl ?_
    refine Ev_irem rfl (by decide) ?_
    refine Ev_rn (q := (23, [(13, o0), (0, x1), (0, x2), (0, x3), (0, x4), (0, irm (w32 (x2 + (m 501 x4))) 4)], [(0, 1), (0, ian (isr x3 (irm (w32 (x2 + (m 501 x4))) 4)) 1)], m)) 7 rfl ?_
    refine Ev_icmp rfl (fun hc => ?_) (fun hc => ?_)
    · replace h := h.1 hc
      refine Ev_rn (q := (6, [(13, o0), (0, x1), (0, x2), (0, x3), (0, w32 (x4 + 1)), (0, irm (w32 (x2 + (m 501 x4))) 4)], [], m)) 2 rfl ?_
      exact h
    · replace h := h.2 hc
      refine Ev_rn (q := (25, [(13, o0), (0, x1), (0, x2), (0, x3), (0, x4), (0, irm (w32 (x2 + (m 501 x4))) 4)], [(0, irm (w32 (x2 + (m 501 x4))) 4)], m)) 1 rfl ?_
      exact Ev_ret rfl rfl h
theorem b_La_draw {d : Nat} {r : Option Vv × Mm} {m : Mm} {o0 : Int} (h : ∀ m1 : Mm, m1 = up m o0 6 (irm (w32 ((w32 ((m o0 6) * 587)) + 457)) 30817) → (r = (some (0, m o0 6), m1))) : Ev d K_La_draw 0 0 [(13, o0), (9, 0)] [] m r := by
  refine Ev_rn (q := (11, [(13, o0), (0, m o0 6)], [(0, 30817), (0, w32 ((w32 ((m o0 6) * 587)) + 457)), (13, o0)], m)) 11 rfl ?_
  refine Ev_irem rfl (by decide) ?_
  refine Ev_rn (q := (13, [(13, o0), (0, m o0 6)], [], up m o0 6 (irm (w32 ((w32 ((m o0 6) * 587)) + 457)) 30817))) 1 rfl ?_
  generalize e1 : up m o0 6 (irm (w32 ((w32 ((m o0 6) * 587)) + 457)) 30817) = m1
  replace h := h m1 e1.symm
  refine Ev_rn (q := (14, [(13, o0), (0, m o0 6)], [(0, m o0 6)], m1)) 1 rfl ?_
  exact Ev_ret rfl rfl h
theorem b_La_write {d : Nat} {r : Option Vv × Mm} {m : Mm} {o0 x1 x2 : Int} (h : (¬ m o0 7 = 30 → Ev d K_La_write 3 18 [(13, o0), (0, x1), (0, x2)] [] m r) ∧ (¬ (¬ m o0 7 = 30) → ∀ m1 : Mm, m1 = cpy m (o0 + 3) 1 (o0 + 3) 0 29 → (∀ m2 : Mm, m2 = up m1 o0 7 (w32 ((m1 o0 7) - 1)) → (Ev d K_La_write 3 18 [(13, o0), (0, x1), (0, x2)] [] m2 r)))) : Ev d K_La_write 3 0 [(13, o0), (0, x1), (0, x2)] [] m r := by
  refine Ev_rn (q := (3, [(13, o0), (0, x1), (0, x2)], [(0, 30), (0, m o0 7)], m)) 3 rfl ?_
  refine Ev_icmp rfl (fun hc => ?_) (fun hc => ?_)
  · replace h := h.1 hc
    exact h
  · replace h := h.2 hc
    refine Ev_rn (q := (11, [(13, o0), (0, x1), (0, x2)], [(0, 29), (0, 0), (340, o0 + 3), (0, 1), (340, o0 + 3)], m)) 7 rfl ?_
    refine Ev_acp (ls := 30) (ld := 30) rfl (by decide) (by decide) (by decide) ?_
    generalize e1 : cpy m (o0 + 3) 1 (o0 + 3) 0 29 = m1
    replace h := h m1 e1.symm
    refine Ev_rn (q := (18, [(13, o0), (0, x1), (0, x2)], [], up m1 o0 7 (w32 ((m1 o0 7) - 1)))) 6 rfl ?_
    generalize e2 : up m1 o0 7 (w32 ((m1 o0 7) - 1)) = m2
    replace h := h m2 e2.symm
    exact h
theorem b_La_write_18 {d : Nat} {r : Option Vv × Mm} {m : Mm} {o0 x1 x2 : Int} (h : (0 ≤ m o0 7 ∧ m o0 7 < 30) ∧ (∀ m1 : Mm, m1 = up m (o0 + 3) (m o0 7) (w32 ((w32 ((w32 ((m o0 5) * 100)) + (w32 (x1 * 50)))) + x2)) → (∀ m2 : Mm, m2 = up m1 o0 7 (w32 ((m1 o0 7) + 1)) → (r = (none, m2))))) : Ev d K_La_write 3 18 [(13, o0), (0, x1), (0, x2)] [] m r := by
  refine Ev_rn (q := (32, [(13, o0), (0, x1), (0, x2)], [(0, w32 ((w32 ((w32 ((m o0 5) * 100)) + (w32 (x1 * 50)))) + x2)), (0, m o0 7), (340, o0 + 3)], m)) 14 rfl ?_
  obtain ⟨hc, h⟩ := h
  refine Ev_iast (n := 30) rfl (by decide) (by decide) hc ?_
  generalize e1 : up m (o0 + 3) (m o0 7) (w32 ((w32 ((w32 ((m o0 5) * 100)) + (w32 (x1 * 50)))) + x2)) = m1
  replace h := h m1 e1.symm
  refine Ev_rn (q := (39, [(13, o0), (0, x1), (0, x2)], [], up m1 o0 7 (w32 ((m1 o0 7) + 1)))) 6 rfl ?_
  generalize e2 : up m1 o0 7 (w32 ((m1 o0 7) + 1)) = m2
  replace h := h m2 e2.symm
  exact Ev_ret rfl rfl h
theorem b_La_lineHour {d : Nat} {r : Option Vv × Mm} {m : Mm} {o0 x1 : Int} (h : (0 ≤ x1 ∧ x1 < 30) ∧ (r = (some (0, idv (m (o0 + 3) x1) 100), m))) : Ev d K_La_lineHour 0 0 [(13, o0), (0, x1)] [] m r := by
  refine Ev_rn (q := (3, [(13, o0), (0, x1)], [(0, x1), (340, o0 + 3)], m)) 3 rfl ?_
  obtain ⟨hc, h⟩ := h
  refine Ev_iald (n := 30) rfl (by decide) (by decide) hc ?_
  refine Ev_rn (q := (5, [(13, o0), (0, x1)], [(0, 100), (0, m (o0 + 3) x1)], m)) 1 rfl ?_
  refine Ev_idiv rfl (by decide) ?_
  exact Ev_ret rfl rfl h
theorem b_La_lineKind {d : Nat} {r : Option Vv × Mm} {m : Mm} {o0 x1 : Int} (h : (0 ≤ x1 ∧ x1 < 30) ∧ (r = (some (0, irm (idv (m (o0 + 3) x1) 50) 2), m))) : Ev d K_La_lineKind 0 0 [(13, o0), (0, x1)] [] m r := by
  refine Ev_rn (q := (3, [(13, o0), (0, x1)], [(0, x1), (340, o0 + 3)], m)) 3 rfl ?_
  obtain ⟨hc, h⟩ := h
  refine Ev_iald (n := 30) rfl (by decide) (by decide) hc ?_
  refine Ev_rn (q := (5, [(13, o0), (0, x1)], [(0, 50), (0, m (o0 + 3) x1)], m)) 1 rfl ?_
  refine Ev_idiv rfl (by decide) ?_
  refine Ev_rn (q := (7, [(13, o0), (0, x1)], [(0, 2), (0, idv (m (o0 + 3) x1) 50)], m)) 1 rfl ?_
  refine Ev_irem rfl (by decide) ?_
  exact Ev_ret rfl rfl h
theorem b_La_lineWhich {d : Nat} {r : Option Vv × Mm} {m : Mm} {o0 x1 : Int} (h : (0 ≤ x1 ∧ x1 < 30) ∧ (r = (some (0, irm (m (o0 + 3) x1) 50), m))) : Ev d K_La_lineWhich 0 0 [(13, o0), (0, x1)] [] m r := by
  refine Ev_rn (q := (3, [(13, o0), (0, x1)], [(0, x1), (340, o0 + 3)], m)) 3 rfl ?_
  obtain ⟨hc, h⟩ := h
  refine Ev_iald (n := 30) rfl (by decide) (by decide) hc ?_
  refine Ev_rn (q := (5, [(13, o0), (0, x1)], [(0, 50), (0, m (o0 + 3) x1)], m)) 1 rfl ?_
  refine Ev_irem rfl (by decide) ?_
  exact Ev_ret rfl rfl h
theorem b_La_stepsHome {d : Nat} {r : Option Vv × Mm} {m : Mm} {o0 x1 x2 : Int} (h : (0 ≤ x1 ∧ x1 < 5) ∧ ((0 ≤ x1 ∧ x1 < 5) ∧ (∃ (v1 : Int) (m1 : Mm), Cl d k_La_wayByHedge [(13, o0), (0, m (o0 + 1) x1), (0, m (o0 + 2) x1)] m (some (0, v1), m1) ∧ (Ev (d + 1) K_La_stepsHome 0 15 [(13, o0), (0, x1), (0, x2), (0, m (o0 + 1) x1), (0, v1), (0, 1)] [] m1 r)))) : Ev (d + 1) K_La_stepsHome 0 0 [(13, o0), (0, x1), (0, x2), (9, 0), (9, 0), (9, 0)] [] m r := by
  refine Ev_rn (q := (3, [(13, o0), (0, x1), (0, x2), (9, 0), (9, 0), (9, 0)], [(0, x1), (140, o0 + 1)], m)) 3 rfl ?_
  obtain ⟨hc, h⟩ := h
  refine Ev_iald (n := 5) rfl (by decide) (by decide) hc ?_
  refine Ev_rn (q := (10, [(13, o0), (0, x1), (0, x2), (0, m (o0 + 1) x1), (9, 0), (9, 0)], [(0, x1), (140, o0 + 2), (0, m (o0 + 1) x1), (13, o0)], m)) 6 rfl ?_
  obtain ⟨hc, h⟩ := h
  refine Ev_iald (n := 5) rfl (by decide) (by decide) hc ?_
  obtain ⟨v1, m1, hc, h⟩ := h
  refine Ev_call (rest := []) rfl rfl (Nat.le_of_ble_eq_true rfl) hc ?_
  refine Ev_rn (q := (15, [(13, o0), (0, x1), (0, x2), (0, m (o0 + 1) x1), (0, v1), (0, 1)], [], m1)) 3 rfl ?_
  exact h
theorem b_La_stepsHome_15 {d : Nat} {r : Option Vv × Mm} {m : Mm} {o0 x1 x2 x3 x4 x5 : Int} (h : (100 < x5 → r = (some (0, (-1)), m)) ∧ (¬ (100 < x5) → (x4 = (-1) → r = (some (0, (-1)), m)) ∧ (¬ (x4 = (-1)) → ∃ (v1 : Int) (m1 : Mm), Cl d k_Pl_cellBeyond [(0, x3), (0, x4)] m (some (0, v1), m1) ∧ ((¬ ian (isr x2 v1) 1 = 1 → ∃ (v2 : Int) (m2 : Mm), Cl d k_La_wayByHedge [(13, o0), (0, v1), (0, x4)] m1 (some (0, v2), m2) ∧ (Ev (d + 1) K_La_stepsHome 0 15 [(13, o0), (0, x1), (0, x2), (0, v1), (0, v2), (0, w32 (x5 + 1))] [] m2 r)) ∧ (¬ (¬ ian (isr x2 v1) 1 = 1) → r = (some (0, x5), m1)))))) : Ev (d + 1) K_La_stepsHome 0 15 [(13, o0), (0, x1), (0, x2), (0, x3), (0, x4), (0, x5)] [] m r := by
  refine Ev_rn (q := (17, [(13, o0), (0, x1), (0, x2), (0, x3), (0, x4), (0, x5)], [(0, 100), (0, x5)], m)) 2 rfl ?_
  refine Ev_icmp rfl (fun hc => ?_) (fun hc => ?_)
  · replace h := h.1 hc
    refine Ev_rn (q := (42, [(13, o0), (0, x1), (0, x2), (0, x3), (0, x4), (0, x5)], [(0, (-1))], m)) 1 rfl ?_
    exact Ev_ret rfl rfl h
  · replace h := h.2 hc
    refine Ev_rn (q := (20, [(13, o0), (0, x1), (0, x2), (0, x3), (0, x4), (0, x5)], [(0, (-1)), (0, x4)], m)) 2 rfl ?_
    refine Ev_icmp rfl (fun hc => ?_) (fun hc => ?_)
    · replace h := h.1 hc
      refine Ev_rn (q := (42, [(13, o0), (0, x1), (0, x2), (0, x3), (0, x4), (0, x5)], [(0, (-1))], m)) 1 rfl ?_
      exact Ev_ret rfl rfl h
    · replace h := h.2 hc
      refine Ev_rn (q := (23, [(13, o0), (0, x1), (0, x2), (0, x3), (0, x4), (0, x5)], [(0, x4), (0, x3)], m)) 2 rfl ?_
      obtain ⟨v1, m1, hc, h⟩ := h
      refine Ev_call (rest := []) rfl rfl (Nat.le_of_ble_eq_true rfl) hc ?_
      refine Ev_rn (q := (31, [(13, o0), (0, x1), (0, x2), (0, v1), (0, x4), (0, x5)], [(0, 1), (0, ian (isr x2 v1) 1)], m1)) 7 rfl ?_
      refine Ev_icmp rfl (fun hc => ?_) (fun hc => ?_)
      · replace h := h.1 hc
        refine Ev_rn (q := (37, [(13, o0), (0, x1), (0, x2), (0, v1), (0, x4), (0, x5)], [(0, x4), (0, v1), (13, o0)], m1)) 3 rfl ?_
        obtain ⟨v2, m2, hc, h⟩ := h
        refine Ev_call (rest := []) rfl rfl (Nat.le_of_ble_eq_true rfl) hc ?_
        refine Ev_rn (q := (15, [(13, o0), (0, x1), (0, x2), (0, v1), (0, v2), (0, w32 (x5 + 1))], [], m2)) 3 rfl ?_
        exact h
      · replace h := h.2 hc
        refine Ev_rn (q := (33, [(13, o0), (0, x1), (0, x2), (0, v1), (0, x4), (0, x5)], [(0, x5)], m1)) 1 rfl ?_
        exact Ev_ret rfl rfl h
theorem b_La_ringOf {d : Nat} {r : Option Vv × Mm} {m : Mm} {o0 x1 : Int} (h : (0 ≤ x1 ∧ x1 < 5) ∧ ((0 ≤ x1 ∧ x1 < 5) ∧ (∃ (v1 : Int) (m1 : Mm), Cl d k_La_wayByHedge [(13, o0), (0, m (o0 + 1) x1), (0, m (o0 + 2) x1)] m (some (0, v1), m1) ∧ ((¬ v1 = (-1) → (0 ≤ x1 ∧ x1 < 5) ∧ (∃ (v2 : Int) (m2 : Mm), Cl d k_Pl_cellBeyond [(0, m1 (o0 + 1) x1), (0, v1)] m1 (some (0, v2), m2) ∧ (Ev (d + 1) K_La_ringOf 0 29 [(13, o0), (0, x1), (0, v1), (0, v2), (0, v1), (0, v2), (0, 1)] [] m2 r))) ∧ (¬ (¬ v1 = (-1)) → r = (some (0, 0), m1)))))) : Ev (d + 1) K_La_ringOf 0 0 [(13, o0), (0, x1), (9, 0), (9, 0), (9, 0), (9, 0), (9, 0)] [] m r := by
  refine Ev_rn (q := (4, [(13, o0), (0, x1), (9, 0), (9, 0), (9, 0), (9, 0), (9, 0)], [(0, x1), (140, o0 + 1), (13, o0)], m)) 4 rfl ?_
  obtain ⟨hc, h⟩ := h
  refine Ev_iald (n := 5) rfl (by decide) (by decide) hc ?_
  refine Ev_rn (q := (8, [(13, o0), (0, x1), (9, 0), (9, 0), (9, 0), (9, 0), (9, 0)], [(0, x1), (140, o0 + 2), (0, m (o0 + 1) x1), (13, o0)], m)) 3 rfl ?_
  obtain ⟨hc, h⟩ := h
  refine Ev_iald (n := 5) rfl (by decide) (by decide) hc ?_
  obtain ⟨v1, m1, hc, h⟩ := h
  refine Ev_call (rest := []) rfl rfl (Nat.le_of_ble_eq_true rfl) hc ?_
  refine Ev_rn (q := (13, [(13, o0), (0, x1), (0, v1), (9, 0), (9, 0), (9, 0), (9, 0)], [(0, (-1)), (0, v1)], m1)) 3 rfl ?_
  refine Ev_icmp rfl (fun hc => ?_) (fun hc => ?_)
  · replace h := h.1 hc
    refine Ev_rn (q := (19, [(13, o0), (0, x1), (0, v1), (9, 0), (9, 0), (9, 0), (9, 0)], [(0, x1), (140, o0 + 1)], m1)) 3 rfl ?_
    obtain ⟨hc, h⟩ := h
    refine Ev_iald (n := 5) rfl (by decide) (by decide) hc ?_
    refine Ev_rn (q := (21, [(13, o0), (0, x1), (0, v1), (9, 0), (9, 0), (9, 0), (9, 0)], [(0, v1), (0, m1 (o0 + 1) x1)], m1)) 1 rfl ?_
    obtain ⟨v2, m2, hc, h⟩ := h
    refine Ev_call (rest := []) rfl rfl (Nat.le_of_ble_eq_true rfl) hc ?_
    refine Ev_rn (q := (29, [(13, o0), (0, x1), (0, v1), (0, v2), (0, v1), (0, v2), (0, 1)], [], m2)) 7 rfl ?_
    exact h
  · replace h := h.2 hc
    refine Ev_rn (q := (15, [(13, o0), (0, x1), (0, v1), (9, 0), (9, 0), (9, 0), (9, 0)], [(0, 0)], m1)) 1 rfl ?_
    exact Ev_ret rfl rfl h
theorem b_La_ringOf_29 {d : Nat} {r : Option Vv × Mm} {m : Mm} {o0 x1 x2 x3 x4 x5 x6 : Int} (h : (100 < x6 → r = (some (0, 0), m)) ∧ (¬ (100 < x6) → ∃ (v1 : Int) (m1 : Mm), Cl d k_La_wayByHedge [(13, o0), (0, x5), (0, x2)] m (some (0, v1), m1) ∧ (∃ (v2 : Int) (m2 : Mm), Cl d k_Pl_cellBeyond [(0, x5), (0, v1)] m1 (some (0, v2), m2) ∧ ((¬ v2 = x3 → Ev (d + 1) K_La_ringOf 0 29 [(13, o0), (0, x1), (0, v1), (0, x3), (0, x4), (0, v2), (0, w32 (x6 + 1))] [] m2 r) ∧ (¬ (¬ v2 = x3) → (¬ v1 = x4 → Ev (d + 1) K_La_ringOf 0 29 [(13, o0), (0, x1), (0, v1), (0, x3), (0, x4), (0, v2), (0, w32 (x6 + 1))] [] m2 r) ∧ (¬ (¬ v1 = x4) → r = (some (0, x6), m2))))))) : Ev (d + 1) K_La_ringOf 0 29 [(13, o0), (0, x1), (0, x2), (0, x3), (0, x4), (0, x5), (0, x6)] [] m r := by
  refine Ev_rn (q := (31, [(13, o0), (0, x1), (0, x2), (0, x3), (0, x4), (0, x5), (0, x6)], [(0, 100), (0, x6)], m)) 2 rfl ?_
  refine Ev_icmp rfl (fun hc => ?_) (fun hc => ?_)
  · replace h := h.1 hc
    refine Ev_rn (q := (52, [(13, o0), (0, x1), (0, x2), (0, x3), (0, x4), (0, x5), (0, x6)], [(0, 0)], m)) 1 rfl ?_
    exact Ev_ret rfl rfl h
  · replace h := h.2 hc
    refine Ev_rn (q := (35, [(13, o0), (0, x1), (0, x2), (0, x3), (0, x4), (0, x5), (0, x6)], [(0, x2), (0, x5), (13, o0)], m)) 3 rfl ?_
    obtain ⟨v1, m1, hc, h⟩ := h
    refine Ev_call (rest := []) rfl rfl (Nat.le_of_ble_eq_true rfl) hc ?_
    refine Ev_rn (q := (39, [(13, o0), (0, x1), (0, v1), (0, x3), (0, x4), (0, x5), (0, x6)], [(0, v1), (0, x5)], m1)) 3 rfl ?_
    obtain ⟨v2, m2, hc, h⟩ := h
    refine Ev_call (rest := []) rfl rfl (Nat.le_of_ble_eq_true rfl) hc ?_
    refine Ev_rn (q := (43, [(13, o0), (0, x1), (0, v1), (0, x3), (0, x4), (0, v2), (0, x6)], [(0, x3), (0, v2)], m2)) 3 rfl ?_
    refine Ev_icmp rfl (fun hc => ?_) (fun hc => ?_)
    · replace h := h.1 hc
      refine Ev_rn (q := (29, [(13, o0), (0, x1), (0, v1), (0, x3), (0, x4), (0, v2), (0, w32 (x6 + 1))], [], m2)) 2 rfl ?_
      exact h
    · replace h := h.2 hc
      refine Ev_rn (q := (46, [(13, o0), (0, x1), (0, v1), (0, x3), (0, x4), (0, v2), (0, x6)], [(0, x4), (0, v1)], m2)) 2 rfl ?_
      refine Ev_icmp rfl (fun hc => ?_) (fun hc => ?_)
      · replace h := h.1 hc
        refine Ev_rn (q := (29, [(13, o0), (0, x1), (0, v1), (0, x3), (0, x4), (0, v2), (0, w32 (x6 + 1))], [], m2)) 2 rfl ?_
        exact h
      · replace h := h.2 hc
        refine Ev_rn (q := (48, [(13, o0), (0, x1), (0, v1), (0, x3), (0, x4), (0, v2), (0, x6)], [(0, x6)], m2)) 1 rfl ?_
        exact Ev_ret rfl rfl h
theorem b_Mz_layOut {d : Nat} {r : Option Vv × Mm} {m : Mm} {x1 : Int} (h : ∃ (v1 : Int) (m1 : Mm), Cl d k_Ha_eastOf [(1, x1)] m (some (0, v1), m1) ∧ (∀ m2 : Mm, m2 = up m1 13 0 0 → (Ev (d + 1) K_Mz_layOut 3 8 [(14, 13), (1, x1), (9, 0), (0, v1), (0, 0)] [] m2 r))) : Ev (d + 1) K_Mz_layOut 3 0 [(14, 13), (1, x1), (9, 0), (9, 0), (9, 0)] [] m r := by
  refine Ev_rn (q := (1, [(14, 13), (1, x1), (9, 0), (9, 0), (9, 0)], [(1, x1)], m)) 1 rfl ?_
  obtain ⟨v1, m1, hc, h⟩ := h
  refine Ev_call (rest := []) rfl rfl (Nat.le_of_ble_eq_true rfl) hc ?_
  refine Ev_rn (q := (6, [(14, 13), (1, x1), (9, 0), (0, v1), (9, 0)], [], up m1 13 0 0)) 4 rfl ?_
  generalize e2 : up m1 13 0 0 = m2
  replace h := h m2 e2.symm
  refine Ev_rn (q := (8, [(14, 13), (1, x1), (9, 0), (0, v1), (0, 0)], [], m2)) 2 rfl ?_
  exact h
theorem b_Mz_layOut_8 {d : Nat} {r : Option Vv × Mm} {m : Mm} {x1 x3 x4 : Int} (h : (5 ≤ x4 → ∃ (v1 : Int) (m1 : Mm), Cl d k_Ha_southOf [(1, x1)] m (some (0, v1), m1) ∧ (∀ m2 : Mm, m2 = up m1 13 1 (ian (ixo v1 (-1)) 1048575) → (r = (none, m2)))) ∧ (¬ (5 ≤ x4) → ∀ m3 : Mm, m3 = up m 13 0 (iro (m 13 0) (isl (ian (ixo (isr x3 (w32 (x4 * 4))) (-1)) 15) (w32 (x4 * 5)))) → (Ev (d + 1) K_Mz_layOut 3 8 [(14, 13), (1, x1), (9, 0), (0, x3), (0, w32 (x4 + 1))] [] m3 r))) : Ev (d + 1) K_Mz_layOut 3 8 [(14, 13), (1, x1), (9, 0), (0, x3), (0, x4)] [] m r := by
  refine Ev_rn (q := (10, [(14, 13), (1, x1), (9, 0), (0, x3), (0, x4)], [(0, 5), (0, x4)], m)) 2 rfl ?_
  refine Ev_icmp rfl (fun hc => ?_) (fun hc => ?_)
  · replace h := h.1 hc
    refine Ev_rn (q := (33, [(14, 13), (1, x1), (9, 0), (0, x3), (0, x4)], [(1, x1), (14, 13)], m)) 2 rfl ?_
    obtain ⟨v1, m1, hc, h⟩ := h
    refine Ev_call (rest := [(14, 13)]) rfl rfl (Nat.le_of_ble_eq_true rfl) hc ?_
    refine Ev_rn (q := (39, [(14, 13), (1, x1), (9, 0), (0, x3), (0, x4)], [], up m1 13 1 (ian (ixo v1 (-1)) 1048575))) 5 rfl ?_
    generalize e2 : up m1 13 1 (ian (ixo v1 (-1)) 1048575) = m2
    replace h := h m2 e2.symm
    exact Ev_ret rfl rfl h
  · replace h := h.2 hc
    refine Ev_rn (q := (29, [(14, 13), (1, x1), (9, 0), (0, x3), (0, x4)], [], up m 13 0 (iro (m 13 0) (isl (ian (ixo (isr x3 (w32 (x4 * 4))) (-1)) 15) (w32 (x4 * 5)))))) 18 rfl ?_
    generalize e3 : up m 13 0 (iro (m 13 0) (isl (ian (ixo (isr x3 (w32 (x4 * 4))) (-1)) 15) (w32 (x4 * 5)))) = m3
    replace h := h m3 e3.symm
    refine Ev_rn (q := (8, [(14, 13), (1, x1), (9, 0), (0, x3), (0, w32 (x4 + 1))], [], m3)) 2 rfl ?_
    exact h
theorem b_Mz_grown {d : Nat} {r : Option Vv × Mm} {m : Mm} {x1 : Int} (h : r = (some (0, iro (iro (iro (iro x1 (isl (ian x1 (m 13 0)) 1)) (ian (isr x1 1) (m 13 0))) (isl (ian x1 (m 13 1)) 5)) (ian (isr x1 5) (m 13 1))), m)) : Ev d K_Mz_grown 0 0 [(14, 13), (0, x1)] [] m r := by
  refine Ev_rn (q := (29, [(14, 13), (0, x1)], [(0, iro (iro (iro (iro x1 (isl (ian x1 (m 13 0)) 1)) (ian (isr x1 1) (m 13 0))) (isl (ian x1 (m 13 1)) 5)) (ian (isr x1 5) (m 13 1)))], m)) 29 rfl ?_
  exact Ev_ret rfl rfl h
theorem b_Mz_grownOver {d : Nat} {r : Option Vv × Mm} {m : Mm} {x0 : Int} (h : r = (some (0, iro (iro (iro (iro x0 (isl (ian x0 16236015) 1)) (ian (isr x0 1) 16236015)) (ian (isl x0 5) 33554431)) (isr x0 5)), m)) : Ev d K_Mz_grownOver 0 0 [(0, x0)] [] m r := by
  refine Ev_rn (q := (23, [(0, x0)], [(0, iro (iro (iro (iro x0 (isl (ian x0 16236015) 1)) (ian (isr x0 1) 16236015)) (ian (isl x0 5) 33554431)) (isr x0 5))], m)) 23 rfl ?_
  exact Ev_ret rfl rfl h
theorem b_Mz_within {d : Nat} {r : Option Vv × Mm} {m : Mm} {x1 x2 : Int} (h : Ev (d + 1) K_Mz_within 0 4 [(14, 13), (0, x1), (0, x2), (0, x1), (0, 0)] [] m r) : Ev (d + 1) K_Mz_within 0 0 [(14, 13), (0, x1), (0, x2), (9, 0), (9, 0)] [] m r := by
  refine Ev_rn (q := (4, [(14, 13), (0, x1), (0, x2), (0, x1), (0, 0)], [], m)) 4 rfl ?_
  exact h
theorem b_Mz_within_4 {d : Nat} {r : Option Vv × Mm} {m : Mm} {x1 x2 x3 x4 : Int} (h : (x2 ≤ x4 → r = (some (0, x3), m)) ∧ (¬ (x2 ≤ x4) → (25 ≤ x4 → r = (some (0, x3), m)) ∧ (¬ (25 ≤ x4) → ∃ (v1 : Int) (m1 : Mm), Cl d k_Mz_grown [(14, 13), (0, x3)] m (some (0, v1), m1) ∧ (Ev (d + 1) K_Mz_within 0 4 [(14, 13), (0, x1), (0, x2), (0, v1), (0, w32 (x4 + 1))] [] m1 r)))) : Ev (d + 1) K_Mz_within 0 4 [(14, 13), (0, x1), (0, x2), (0, x3), (0, x4)] [] m r := by
  refine Ev_rn (q := (6, [(14, 13), (0, x1), (0, x2), (0, x3), (0, x4)], [(0, x2), (0, x4)], m)) 2 rfl ?_
  refine Ev_icmp rfl (fun hc => ?_) (fun hc => ?_)
  · replace h := h.1 hc
    refine Ev_rn (q := (17, [(14, 13), (0, x1), (0, x2), (0, x3), (0, x4)], [(0, x3)], m)) 1 rfl ?_
    exact Ev_ret rfl rfl h
  · replace h := h.2 hc
    refine Ev_rn (q := (9, [(14, 13), (0, x1), (0, x2), (0, x3), (0, x4)], [(0, 25), (0, x4)], m)) 2 rfl ?_
    refine Ev_icmp rfl (fun hc => ?_) (fun hc => ?_)
    · replace h := h.1 hc
      refine Ev_rn (q := (17, [(14, 13), (0, x1), (0, x2), (0, x3), (0, x4)], [(0, x3)], m)) 1 rfl ?_
      exact Ev_ret rfl rfl h
    · replace h := h.2 hc
      refine Ev_rn (q := (12, [(14, 13), (0, x1), (0, x2), (0, x3), (0, x4)], [(0, x3), (14, 13)], m)) 2 rfl ?_
      obtain ⟨v1, m1, hc, h⟩ := h
      refine Ev_call (rest := []) rfl rfl (Nat.le_of_ble_eq_true rfl) hc ?_
      refine Ev_rn (q := (4, [(14, 13), (0, x1), (0, x2), (0, v1), (0, w32 (x4 + 1))], [], m1)) 3 rfl ?_
      exact h
theorem b_Mz_flooded {d : Nat} {r : Option Vv × Mm} {m : Mm} {x1 x2 : Int} (h : Ev (d + 1) K_Mz_flooded 0 4 [(14, 13), (0, x1), (0, x2), (0, x1), (0, 0), (9, 0)] [] m r) : Ev (d + 1) K_Mz_flooded 0 0 [(14, 13), (0, x1), (0, x2), (9, 0), (9, 0), (9, 0)] [] m r := by
  refine Ev_rn (q := (4, [(14, 13), (0, x1), (0, x2), (0, x1), (0, 0), (9, 0)], [], m)) 4 rfl ?_
  exact h
theorem b_Mz_flooded_4 {d : Nat} {r : Option Vv × Mm} {m : Mm} {x1 x2 x3 x4 : Int} {u5 : Vv} (h : (25 ≤ x4 → r = (some (0, x3), m)) ∧ (¬ (25 ≤ x4) → ∃ (v1 : Int) (m1 : Mm), Cl d k_Mz_grown [(14, 13), (0, x3)] m (some (0, v1), m1) ∧ ((¬ ian v1 x2 = x3 → Ev (d + 1) K_Mz_flooded 0 4 [(14, 13), (0, x1), (0, x2), (0, ian v1 x2), (0, w32 (x4 + 1)), (0, ian v1 x2)] [] m1 r) ∧ (¬ (¬ ian v1 x2 = x3) → r = (some (0, x3), m1))))) : Ev (d + 1) K_Mz_flooded 0 4 [(14, 13), (0, x1), (0, x2), (0, x3), (0, x4), u5] [] m r := by
  refine Ev_rn (q := (6, [(14, 13), (0, x1), (0, x2), (0, x3), (0, x4), u5], [(0, 25), (0, x4)], m)) 2 rfl ?_
  refine Ev_icmp rfl (fun hc => ?_) (fun hc => ?_)
  · replace h := h.1 hc
    refine Ev_rn (q := (23, [(14, 13), (0, x1), (0, x2), (0, x3), (0, x4), u5], [(0, x3)], m)) 1 rfl ?_
    exact Ev_ret rfl rfl h
  · replace h := h.2 hc
    refine Ev_rn (q := (9, [(14, 13), (0, x1), (0, x2), (0, x3), (0, x4), u5], [(0, x3), (14, 13)], m)) 2 rfl ?_
    obtain ⟨v1, m1, hc, h⟩ := h
    refine Ev_call (rest := []) rfl rfl (Nat.le_of_ble_eq_true rfl) hc ?_
    refine Ev_rn (q := (15, [(14, 13), (0, x1), (0, x2), (0, x3), (0, x4), (0, ian v1 x2)], [(0, x3), (0, ian v1 x2)], m1)) 5 rfl ?_
    refine Ev_icmp rfl (fun hc => ?_) (fun hc => ?_)
    · replace h := h.1 hc
      refine Ev_rn (q := (4, [(14, 13), (0, x1), (0, x2), (0, ian v1 x2), (0, w32 (x4 + 1)), (0, ian v1 x2)], [], m1)) 4 rfl ?_
      exact h
    · replace h := h.2 hc
      refine Ev_rn (q := (17, [(14, 13), (0, x1), (0, x2), (0, x3), (0, x4), (0, ian v1 x2)], [(0, x3)], m1)) 1 rfl ?_
      exact Ev_ret rfl rfl h
theorem b_Mz_regionOf {d : Nat} {r : Option Vv × Mm} {m : Mm} {x1 : Int} (h : ∃ (v1 : Int) (m1 : Mm), Cl d k_Mz_flooded [(14, 13), (0, isl 1 x1), (0, 33554431)] m (some (0, v1), m1) ∧ (r = (some (0, v1), m1))) : Ev (d + 1) K_Mz_regionOf 0 0 [(14, 13), (0, x1)] [] m r := by
  refine Ev_rn (q := (5, [(14, 13), (0, x1)], [(0, 33554431), (0, isl 1 x1), (14, 13)], m)) 5 rfl ?_
  obtain ⟨v1, m1, hc, h⟩ := h
  refine Ev_call (rest := []) rfl rfl (Nat.le_of_ble_eq_true rfl) hc ?_
  exact Ev_ret rfl rfl h
theorem b_Mz_milesTo {d : Nat} {r : Option Vv × Mm} {m : Mm} {x1 x2 : Int} (h : Ev (d + 1) K_Mz_milesTo 0 6 [(14, 13), (0, x1), (0, x2), (0, isl 1 x1), (0, 0)] [] m r) : Ev (d + 1) K_Mz_milesTo 0 0 [(14, 13), (0, x1), (0, x2), (9, 0), (9, 0)] [] m r := by
  refine Ev_rn (q := (6, [(14, 13), (0, x1), (0, x2), (0, isl 1 x1), (0, 0)], [], m)) 6 rfl ?_
  exact h
theorem b_Mz_milesTo_6 {d : Nat} {r : Option Vv × Mm} {m : Mm} {x1 x2 x3 x4 : Int} (h : (25 ≤ x4 → r = (some (0, (-1)), m)) ∧ (¬ (25 ≤ x4) → (ian x3 x2 = 0 → ∃ (v1 : Int) (m1 : Mm), Cl d k_Mz_grown [(14, 13), (0, x3)] m (some (0, v1), m1) ∧ (Ev (d + 1) K_Mz_milesTo 0 6 [(14, 13), (0, x1), (0, x2), (0, v1), (0, w32 (x4 + 1))] [] m1 r)) ∧ (¬ (ian x3 x2 = 0) → r = (some (0, x4), m)))) : Ev (d + 1) K_Mz_milesTo 0 6 [(14, 13), (0, x1), (0, x2), (0, x3), (0, x4)] [] m r := by
  refine Ev_rn (q := (8, [(14, 13), (0, x1), (0, x2), (0, x3), (0, x4)], [(0, 25), (0, x4)], m)) 2 rfl ?_
  refine Ev_icmp rfl (fun hc => ?_) (fun hc => ?_)
  · replace h := h.1 hc
    refine Ev_rn (q := (22, [(14, 13), (0, x1), (0, x2), (0, x3), (0, x4)], [(0, (-1))], m)) 1 rfl ?_
    exact Ev_ret rfl rfl h
  · replace h := h.2 hc
    refine Ev_rn (q := (12, [(14, 13), (0, x1), (0, x2), (0, x3), (0, x4)], [(0, ian x3 x2)], m)) 3 rfl ?_
    refine Ev_if rfl (fun hc => ?_) (fun hc => ?_)
    · replace h := h.1 hc
      refine Ev_rn (q := (17, [(14, 13), (0, x1), (0, x2), (0, x3), (0, x4)], [(0, x3), (14, 13)], m)) 2 rfl ?_
      obtain ⟨v1, m1, hc, h⟩ := h
      refine Ev_call (rest := []) rfl rfl (Nat.le_of_ble_eq_true rfl) hc ?_
      refine Ev_rn (q := (6, [(14, 13), (0, x1), (0, x2), (0, v1), (0, w32 (x4 + 1))], [], m1)) 3 rfl ?_
      exact h
    · replace h := h.2 hc
      refine Ev_rn (q := (14, [(14, 13), (0, x1), (0, x2), (0, x3), (0, x4)], [(0, x4)], m)) 1 rfl ?_
      exact Ev_ret rfl rfl h
theorem b_Mz_wayNearer {d : Nat} {r : Option Vv × Mm} {m : Mm} {x1 x2 x3 : Int} (h : ∃ (v1 : Int) (m1 : Mm), Cl d k_Mz_within [(14, 13), (0, x2), (0, w32 (x3 - 1))] m (some (0, v1), m1) ∧ (Ev (d + 1) K_Mz_wayNearer 0 9 [(14, 13), (0, x1), (0, x2), (0, x3), (0, v1), (0, 0), (9, 0)] [] m1 r)) : Ev (d + 1) K_Mz_wayNearer 0 0 [(14, 13), (0, x1), (0, x2), (0, x3), (9, 0), (9, 0), (9, 0)] [] m r := by
  refine Ev_rn (q := (5, [(14, 13), (0, x1), (0, x2), (0, x3), (9, 0), (9, 0), (9, 0)], [(0, w32 (x3 - 1)), (0, x2), (14, 13)], m)) 5 rfl ?_
  obtain ⟨v1, m1, hc, h⟩ := h
  refine Ev_call (rest := []) rfl rfl (Nat.le_of_ble_eq_true rfl) hc ?_
  refine Ev_rn (q := (9, [(14, 13), (0, x1), (0, x2), (0, x3), (0, v1), (0, 0), (9, 0)], [], m1)) 3 rfl ?_
  exact h
theorem b_Mz_wayNearer_9 {d : Nat} {r : Option Vv × Mm} {m : Mm} {x1 x2 x3 x4 x5 : Int} {u6 : Vv} (h : (4 ≤ x5 → r = (some (0, (-1)), m)) ∧ (¬ (4 ≤ x5) → ∃ (v1 : Int) (m1 : Mm), Cl d k_Pl_cellBeyond [(0, x1), (0, x5)] m (some (0, v1), m1) ∧ ((v1 = (-1) → Ev (d + 1) K_Mz_wayNearer 0 9 [(14, 13), (0, x1), (0, x2), (0, x3), (0, x4), (0, w32 (x5 + 1)), (0, v1)] [] m1 r) ∧ (¬ (v1 = (-1)) → (¬ ian (isr x4 v1) 1 = 1 → Ev (d + 1) K_Mz_wayNearer 0 9 [(14, 13), (0, x1), (0, x2), (0, x3), (0, x4), (0, w32 (x5 + 1)), (0, v1)] [] m1 r) ∧ (¬ (¬ ian (isr x4 v1) 1 = 1) → ∃ (v2 : Int) (m2 : Mm), Cl d k_Mz_grown [(14, 13), (0, isl 1 x1)] m1 (some (0, v2), m2) ∧ ((¬ ian (isr v2 v1) 1 = 1 → Ev (d + 1) K_Mz_wayNearer 0 9 [(14, 13), (0, x1), (0, x2), (0, x3), (0, x4), (0, w32 (x5 + 1)), (0, v1)] [] m2 r) ∧ (¬ (¬ ian (isr v2 v1) 1 = 1) → r = (some (0, x5), m2)))))))) : Ev (d + 1) K_Mz_wayNearer 0 9 [(14, 13), (0, x1), (0, x2), (0, x3), (0, x4), (0, x5), u6] [] m r := by
  refine Ev_rn (q := (11, [(14, 13), (0, x1), (0, x2), (0, x3), (0, x4), (0, x5), u6], [(0, 4), (0, x5)], m)) 2 rfl ?_
  refine Ev_icmp rfl (fun hc => ?_) (fun hc => ?_)
  · replace h := h.1 hc
    refine Ev_rn (q := (42, [(14, 13), (0, x1), (0, x2), (0, x3), (0, x4), (0, x5), u6], [(0, (-1))], m)) 1 rfl ?_
    exact Ev_ret rfl rfl h
  · replace h := h.2 hc
    refine Ev_rn (q := (14, [(14, 13), (0, x1), (0, x2), (0, x3), (0, x4), (0, x5), u6], [(0, x5), (0, x1)], m)) 2 rfl ?_
    obtain ⟨v1, m1, hc, h⟩ := h
    refine Ev_call (rest := []) rfl rfl (Nat.le_of_ble_eq_true rfl) hc ?_
    refine Ev_rn (q := (18, [(14, 13), (0, x1), (0, x2), (0, x3), (0, x4), (0, x5), (0, v1)], [(0, (-1)), (0, v1)], m1)) 3 rfl ?_
    refine Ev_icmp rfl (fun hc => ?_) (fun hc => ?_)
    · replace h := h.1 hc
      refine Ev_rn (q := (9, [(14, 13), (0, x1), (0, x2), (0, x3), (0, x4), (0, w32 (x5 + 1)), (0, v1)], [], m1)) 2 rfl ?_
      exact h
    · replace h := h.2 hc
      refine Ev_rn (q := (25, [(14, 13), (0, x1), (0, x2), (0, x3), (0, x4), (0, x5), (0, v1)], [(0, 1), (0, ian (isr x4 v1) 1)], m1)) 6 rfl ?_
      refine Ev_icmp rfl (fun hc => ?_) (fun hc => ?_)
      · replace h := h.1 hc
        refine Ev_rn (q := (9, [(14, 13), (0, x1), (0, x2), (0, x3), (0, x4), (0, w32 (x5 + 1)), (0, v1)], [], m1)) 2 rfl ?_
        exact h
      · replace h := h.2 hc
        refine Ev_rn (q := (30, [(14, 13), (0, x1), (0, x2), (0, x3), (0, x4), (0, x5), (0, v1)], [(0, isl 1 x1), (14, 13)], m1)) 4 rfl ?_
        obtain ⟨v2, m2, hc, h⟩ := h
        refine Ev_call (rest := []) rfl rfl (Nat.le_of_ble_eq_true rfl) hc ?_
        refine Ev_rn (q := (36, [(14, 13), (0, x1), (0, x2), (0, x3), (0, x4), (0, x5), (0, v1)], [(0, 1), (0, ian (isr v2 v1) 1)], m2)) 5 rfl ?_
        refine Ev_icmp rfl (fun hc => ?_) (fun hc => ?_)
        · replace h := h.1 hc
          refine Ev_rn (q := (9, [(14, 13), (0, x1), (0, x2), (0, x3), (0, x4), (0, w32 (x5 + 1)), (0, v1)], [], m2)) 2 rfl ?_
          exact h
        · replace h := h.2 hc
          refine Ev_rn (q := (38, [(14, 13), (0, x1), (0, x2), (0, x3), (0, x4), (0, x5), (0, v1)], [(0, x5)], m2)) 1 rfl ?_
          exact Ev_ret rfl rfl h
theorem b_Mz_cutsTo {d : Nat} {r : Option Vv × Mm} {m : Mm} {x1 x2 : Int} (h : ∃ (v1 : Int) (m1 : Mm), Cl d k_Mz_regionOf [(14, 13), (0, x1)] m (some (0, v1), m1) ∧ (Ev (d + 1) K_Mz_cutsTo 0 6 [(14, 13), (0, x1), (0, x2), (0, v1), (0, 0)] [] m1 r)) : Ev (d + 1) K_Mz_cutsTo 0 0 [(14, 13), (0, x1), (0, x2), (9, 0), (9, 0)] [] m r := by
  refine Ev_rn (q := (2, [(14, 13), (0, x1), (0, x2), (9, 0), (9, 0)], [(0, x1), (14, 13)], m)) 2 rfl ?_
  obtain ⟨v1, m1, hc, h⟩ := h
  refine Ev_call (rest := []) rfl rfl (Nat.le_of_ble_eq_true rfl) hc ?_
  refine Ev_rn (q := (6, [(14, 13), (0, x1), (0, x2), (0, v1), (0, 0)], [], m1)) 3 rfl ?_
  exact h
theorem b_Mz_cutsTo_6 {d : Nat} {r : Option Vv × Mm} {m : Mm} {x1 x2 x3 x4 : Int} (h : (25 ≤ x4 → r = (some (0, (-1)), m)) ∧ (¬ (25 ≤ x4) → (ian x3 x2 = 0 → ∃ (v1 : Int) (m1 : Mm), Cl d k_Mz_grownOver [(0, x3)] m (some (0, v1), m1) ∧ (∃ (v2 : Int) (m2 : Mm), Cl d k_Mz_flooded [(14, 13), (0, v1), (0, 33554431)] m1 (some (0, v2), m2) ∧ (Ev (d + 1) K_Mz_cutsTo 0 6 [(14, 13), (0, x1), (0, x2), (0, v2), (0, w32 (x4 + 1))] [] m2 r))) ∧ (¬ (ian x3 x2 = 0) → r = (some (0, x4), m)))) : Ev (d + 1) K_Mz_cutsTo 0 6 [(14, 13), (0, x1), (0, x2), (0, x3), (0, x4)] [] m r := by
  refine Ev_rn (q := (8, [(14, 13), (0, x1), (0, x2), (0, x3), (0, x4)], [(0, 25), (0, x4)], m)) 2 rfl ?_
  refine Ev_icmp rfl (fun hc => ?_) (fun hc => ?_)
  · replace h := h.1 hc
    refine Ev_rn (q := (24, [(14, 13), (0, x1), (0, x2), (0, x3), (0, x4)], [(0, (-1))], m)) 1 rfl ?_
    exact Ev_ret rfl rfl h
  · replace h := h.2 hc
    refine Ev_rn (q := (12, [(14, 13), (0, x1), (0, x2), (0, x3), (0, x4)], [(0, ian x3 x2)], m)) 3 rfl ?_
    refine Ev_if rfl (fun hc => ?_) (fun hc => ?_)
    · replace h := h.1 hc
      refine Ev_rn (q := (17, [(14, 13), (0, x1), (0, x2), (0, x3), (0, x4)], [(0, x3), (14, 13)], m)) 2 rfl ?_
      obtain ⟨v1, m1, hc, h⟩ := h
      refine Ev_call (rest := [(14, 13)]) rfl rfl (Nat.le_of_ble_eq_true rfl) hc ?_
      refine Ev_rn (q := (19, [(14, 13), (0, x1), (0, x2), (0, x3), (0, x4)], [(0, 33554431), (0, v1), (14, 13)], m1)) 1 rfl ?_
      obtain ⟨v2, m2, hc, h⟩ := h
      refine Ev_call (rest := []) rfl rfl (Nat.le_of_ble_eq_true rfl) hc ?_
      refine Ev_rn (q := (6, [(14, 13), (0, x1), (0, x2), (0, v2), (0, w32 (x4 + 1))], [], m2)) 3 rfl ?_
      exact h
    · replace h := h.2 hc
      refine Ev_rn (q := (14, [(14, 13), (0, x1), (0, x2), (0, x3), (0, x4)], [(0, x4)], m)) 1 rfl ?_
      exact Ev_ret rfl rfl h
theorem b_Mz_farthestFrom {d : Nat} {r : Option Vv × Mm} {m : Mm} {x1 : Int} (h : Ev (d + 1) K_Mz_farthestFrom 0 8 [(14, 13), (0, x1), (0, isl 1 x1), (0, isl 1 x1), (0, 0), (9, 0)] [] m r) : Ev (d + 1) K_Mz_farthestFrom 0 0 [(14, 13), (0, x1), (9, 0), (9, 0), (9, 0), (9, 0)] [] m r := by
  refine Ev_rn (q := (8, [(14, 13), (0, x1), (0, isl 1 x1), (0, isl 1 x1), (0, 0), (9, 0)], [], m)) 8 rfl ?_
  exact h
theorem b_Mz_farthestFrom_8 {d : Nat} {r : Option Vv × Mm} {m : Mm} {x1 x2 x3 x4 : Int} {u5 : Vv} (h : (25 ≤ x4 → ∃ (v1 : Int) (m1 : Mm), Cl d k_Mz_lowest [(0, x3)] m (some (0, v1), m1) ∧ (r = (some (0, v1), m1))) ∧ (¬ (25 ≤ x4) → ∃ (v2 : Int) (m2 : Mm), Cl d k_Mz_grown [(14, 13), (0, x2)] m (some (0, v2), m2) ∧ ((¬ v2 = x2 → Ev (d + 1) K_Mz_farthestFrom 0 8 [(14, 13), (0, x1), (0, v2), (0, ian v2 (ixo x2 (-1))), (0, w32 (x4 + 1)), (0, v2)] [] m2 r) ∧ (¬ (¬ v2 = x2) → ∃ (v3 : Int) (m3 : Mm), Cl d k_Mz_lowest [(0, x3)] m2 (some (0, v3), m3) ∧ (r = (some (0, v3), m3)))))) : Ev (d + 1) K_Mz_farthestFrom 0 8 [(14, 13), (0, x1), (0, x2), (0, x3), (0, x4), u5] [] m r := by
  refine Ev_rn (q := (10, [(14, 13), (0, x1), (0, x2), (0, x3), (0, x4), u5], [(0, 25), (0, x4)], m)) 2 rfl ?_
  refine Ev_icmp rfl (fun hc => ?_) (fun hc => ?_)
  · replace h := h.1 hc
    refine Ev_rn (q := (30, [(14, 13), (0, x1), (0, x2), (0, x3), (0, x4), u5], [(0, x3)], m)) 1 rfl ?_
    obtain ⟨v1, m1, hc, h⟩ := h
    refine Ev_call (rest := []) rfl rfl (Nat.le_of_ble_eq_true rfl) hc ?_
    exact Ev_ret rfl rfl h
  · replace h := h.2 hc
    refine Ev_rn (q := (13, [(14, 13), (0, x1), (0, x2), (0, x3), (0, x4), u5], [(0, x2), (14, 13)], m)) 2 rfl ?_
    obtain ⟨v2, m2, hc, h⟩ := h
    refine Ev_call (rest := []) rfl rfl (Nat.le_of_ble_eq_true rfl) hc ?_
    refine Ev_rn (q := (17, [(14, 13), (0, x1), (0, x2), (0, x3), (0, x4), (0, v2)], [(0, x2), (0, v2)], m2)) 3 rfl ?_
    refine Ev_icmp rfl (fun hc => ?_) (fun hc => ?_)
    · replace h := h.1 hc
      refine Ev_rn (q := (8, [(14, 13), (0, x1), (0, v2), (0, ian v2 (ixo x2 (-1))), (0, w32 (x4 + 1)), (0, v2)], [], m2)) 10 rfl ?_
      exact h
    · replace h := h.2 hc
      refine Ev_rn (q := (30, [(14, 13), (0, x1), (0, x2), (0, x3), (0, x4), (0, v2)], [(0, x3)], m2)) 2 rfl ?_
      obtain ⟨v3, m3, hc, h⟩ := h
      refine Ev_call (rest := []) rfl rfl (Nat.le_of_ble_eq_true rfl) hc ?_
      exact Ev_ret rfl rfl h
theorem b_Mz_lowest {d : Nat} {r : Option Vv × Mm} {m : Mm} {x0 : Int} (h : ∃ (v1 : Int) (m1 : Mm), Cl d k_In_bitCount [(0, w32 ((ian x0 (w32 (-x0))) - 1))] m (some (0, v1), m1) ∧ (r = (some (0, v1), m1))) : Ev (d + 1) K_Mz_lowest 0 0 [(0, x0)] [] m r := by
  refine Ev_rn (q := (6, [(0, x0)], [(0, w32 ((ian x0 (w32 (-x0))) - 1))], m)) 6 rfl ?_
  obtain ⟨v1, m1, hc, h⟩ := h
  refine Ev_call (rest := []) rfl rfl (Nat.le_of_ble_eq_true rfl) hc ?_
  exact Ev_ret rfl rfl h
theorem b_Mz_regionCount {d : Nat} {r : Option Vv × Mm} {m : Mm} (h : Ev (d + 1) K_Mz_regionCount 0 6 [(14, 13), (0, 33554431), (0, 0), (0, 0)] [] m r) : Ev (d + 1) K_Mz_regionCount 0 0 [(14, 13), (9, 0), (9, 0), (9, 0)] [] m r := by
  refine Ev_rn (q := (6, [(14, 13), (0, 33554431), (0, 0), (0, 0)], [], m)) 6 rfl ?_
  exact h
theorem b_Mz_regionCount_6 {d : Nat} {r : Option Vv × Mm} {m : Mm} {x1 x2 x3 : Int} (h : (25 ≤ x3 → r = (some (0, x2), m)) ∧ (¬ (25 ≤ x3) → (x1 = 0 → r = (some (0, x2), m)) ∧ (¬ (x1 = 0) → ∃ (v1 : Int) (m1 : Mm), Cl d k_Mz_lowest [(0, x1)] m (some (0, v1), m1) ∧ (∃ (v2 : Int) (m2 : Mm), Cl d k_Mz_regionOf [(14, 13), (0, v1)] m1 (some (0, v2), m2) ∧ (Ev (d + 1) K_Mz_regionCount 0 6 [(14, 13), (0, ian x1 (ixo v2 (-1))), (0, w32 (x2 + 1)), (0, w32 (x3 + 1))] [] m2 r))))) : Ev (d + 1) K_Mz_regionCount 0 6 [(14, 13), (0, x1), (0, x2), (0, x3)] [] m r := by
  refine Ev_rn (q := (8, [(14, 13), (0, x1), (0, x2), (0, x3)], [(0, 25), (0, x3)], m)) 2 rfl ?_
  refine Ev_icmp rfl (fun hc => ?_) (fun hc => ?_)
  · replace h := h.1 hc
    refine Ev_rn (q := (24, [(14, 13), (0, x1), (0, x2), (0, x3)], [(0, x2)], m)) 1 rfl ?_
    exact Ev_ret rfl rfl h
  · replace h := h.2 hc
    refine Ev_rn (q := (10, [(14, 13), (0, x1), (0, x2), (0, x3)], [(0, x1)], m)) 1 rfl ?_
    refine Ev_if rfl (fun hc => ?_) (fun hc => ?_)
    · replace h := h.1 hc
      refine Ev_rn (q := (24, [(14, 13), (0, x1), (0, x2), (0, x3)], [(0, x2)], m)) 1 rfl ?_
      exact Ev_ret rfl rfl h
    · replace h := h.2 hc
      refine Ev_rn (q := (14, [(14, 13), (0, x1), (0, x2), (0, x3)], [(0, x1), (14, 13), (0, x1)], m)) 3 rfl ?_
      obtain ⟨v1, m1, hc, h⟩ := h
      refine Ev_call (rest := [(14, 13), (0, x1)]) rfl rfl (Nat.le_of_ble_eq_true rfl) hc ?_
      obtain ⟨v2, m2, hc, h⟩ := h
      refine Ev_call (rest := [(0, x1)]) rfl rfl (Nat.le_of_ble_eq_true rfl) hc ?_
      refine Ev_rn (q := (6, [(14, 13), (0, ian x1 (ixo v2 (-1))), (0, w32 (x2 + 1)), (0, w32 (x3 + 1))], [], m2)) 7 rfl ?_
      exact h
theorem b_Mz_greatestRegion {d : Nat} {r : Option Vv × Mm} {m : Mm} (h : Ev (d + 1) K_Mz_greatestRegion 0 6 [(14, 13), (0, 33554431), (0, 0), (0, 0), (9, 0)] [] m r) : Ev (d + 1) K_Mz_greatestRegion 0 0 [(14, 13), (9, 0), (9, 0), (9, 0), (9, 0)] [] m r := by
  refine Ev_rn (q := (6, [(14, 13), (0, 33554431), (0, 0), (0, 0), (9, 0)], [], m)) 6 rfl ?_
  exact h
theorem b_Mz_greatestRegion_6 {d : Nat} {r : Option Vv × Mm} {m : Mm} {x1 x2 x3 : Int} {u4 : Vv} (h : (25 ≤ x3 → r = (some (0, x2), m)) ∧ (¬ (25 ≤ x3) → (x1 = 0 → r = (some (0, x2), m)) ∧ (¬ (x1 = 0) → ∃ (v1 : Int) (m1 : Mm), Cl d k_Mz_lowest [(0, x1)] m (some (0, v1), m1) ∧ (∃ (v2 : Int) (m2 : Mm), Cl d k_Mz_regionOf [(14, 13), (0, v1)] m1 (some (0, v2), m2) ∧ (∃ (v3 : Int) (m3 : Mm), Cl d k_In_bitCount [(0, v2)] m2 (some (0, v3), m3) ∧ (Ev (d + 1) K_Mz_greatestRegion 0 6 [(14, 13), (0, ian x1 (ixo v2 (-1))), (0, max x2 v3), (0, w32 (x3 + 1)), (0, v2)] [] m3 r)))))) : Ev (d + 1) K_Mz_greatestRegion 0 6 [(14, 13), (0, x1), (0, x2), (0, x3), u4] [] m r := by
  refine Ev_rn (q := (8, [(14, 13), (0, x1), (0, x2), (0, x3), u4], [(0, 25), (0, x3)], m)) 2 rfl ?_
  refine Ev_icmp rfl (fun hc => ?_) (fun hc => ?_)
  · replace h := h.1 hc
    refine Ev_rn (q := (30, [(14, 13), (0, x1), (0, x2), (0, x3), u4], [(0, x2)], m)) 1 rfl ?_
    exact Ev_ret rfl rfl h
  · replace h := h.2 hc
    refine Ev_rn (q := (10, [(14, 13), (0, x1), (0, x2), (0, x3), u4], [(0, x1)], m)) 1 rfl ?_
    refine Ev_if rfl (fun hc => ?_) (fun hc => ?_)
    · replace h := h.1 hc
      refine Ev_rn (q := (30, [(14, 13), (0, x1), (0, x2), (0, x3), u4], [(0, x2)], m)) 1 rfl ?_
      exact Ev_ret rfl rfl h
    · replace h := h.2 hc
      refine Ev_rn (q := (13, [(14, 13), (0, x1), (0, x2), (0, x3), u4], [(0, x1), (14, 13)], m)) 2 rfl ?_
      obtain ⟨v1, m1, hc, h⟩ := h
      refine Ev_call (rest := [(14, 13)]) rfl rfl (Nat.le_of_ble_eq_true rfl) hc ?_
      obtain ⟨v2, m2, hc, h⟩ := h
      refine Ev_call (rest := []) rfl rfl (Nat.le_of_ble_eq_true rfl) hc ?_
      refine Ev_rn (q := (18, [(14, 13), (0, x1), (0, x2), (0, x3), (0, v2)], [(0, v2), (0, x2)], m2)) 3 rfl ?_
      obtain ⟨v3, m3, hc, h⟩ := h
      refine Ev_call (rest := [(0, x2)]) rfl rfl (Nat.le_of_ble_eq_true rfl) hc ?_
      refine Ev_rn (q := (6, [(14, 13), (0, ian x1 (ixo v2 (-1))), (0, max x2 v3), (0, w32 (x3 + 1)), (0, v2)], [], m3)) 10 rfl ?_
      exact h
theorem b_Mz_isNeck {d : Nat} {r : Option Vv × Mm} {m : Mm} {x1 : Int} (h : ∃ (v1 : Int) (m1 : Mm), Cl d k_Mz_regionOf [(14, 13), (0, x1)] m (some (0, v1), m1) ∧ ((ian v1 (ixo (isl 1 x1) (-1)) = 0 → r = (some (0, 0), m1)) ∧ (¬ (ian v1 (ixo (isl 1 x1) (-1)) = 0) → ∃ (v2 : Int) (m2 : Mm), Cl d k_Mz_flooded [(14, 13), (0, ian (ian v1 (ixo (isl 1 x1) (-1))) (w32 (-(ian v1 (ixo (isl 1 x1) (-1)))))), (0, ian v1 (ixo (isl 1 x1) (-1)))] m1 (some (0, v2), m2) ∧ ((v2 = ian v1 (ixo (isl 1 x1) (-1)) → r = (some (0, 0), m2)) ∧ (¬ (v2 = ian v1 (ixo (isl 1 x1) (-1))) → r = (some (0, 1), m2)))))) : Ev (d + 1) K_Mz_isNeck 2 0 [(14, 13), (0, x1), (9, 0)] [] m r := by
  refine Ev_rn (q := (2, [(14, 13), (0, x1), (9, 0)], [(0, x1), (14, 13)], m)) 2 rfl ?_
  obtain ⟨v1, m1, hc, h⟩ := h
  refine Ev_call (rest := []) rfl rfl (Nat.le_of_ble_eq_true rfl) hc ?_
  refine Ev_rn (q := (11, [(14, 13), (0, x1), (0, ian v1 (ixo (isl 1 x1) (-1)))], [(0, ian v1 (ixo (isl 1 x1) (-1)))], m1)) 8 rfl ?_
  refine Ev_if rfl (fun hc => ?_) (fun hc => ?_)
  · replace h := h.1 hc
    refine Ev_rn (q := (24, [(14, 13), (0, x1), (0, ian v1 (ixo (isl 1 x1) (-1)))], [(0, 0)], m1)) 1 rfl ?_
    exact Ev_zret rfl rfl (by decide) h
  · replace h := h.2 hc
    refine Ev_rn (q := (18, [(14, 13), (0, x1), (0, ian v1 (ixo (isl 1 x1) (-1)))], [(0, ian v1 (ixo (isl 1 x1) (-1))), (0, ian (ian v1 (ixo (isl 1 x1) (-1))) (w32 (-(ian v1 (ixo (isl 1 x1) (-1)))))), (14, 13)], m1)) 6 rfl ?_
    obtain ⟨v2, m2, hc, h⟩ := h
    refine Ev_call (rest := []) rfl rfl (Nat.le_of_ble_eq_true rfl) hc ?_
    refine Ev_rn (q := (20, [(14, 13), (0, x1), (0, ian v1 (ixo (isl 1 x1) (-1)))], [(0, ian v1 (ixo (isl 1 x1) (-1))), (0, v2)], m2)) 1 rfl ?_
    refine Ev_icmp rfl (fun hc => ?_) (fun hc => ?_)
    · replace h := h.1 hc
      refine Ev_rn (q := (24, [(14, 13), (0, x1), (0, ian v1 (ixo (isl 1 x1) (-1)))], [(0, 0)], m2)) 1 rfl ?_
      exact Ev_zret rfl rfl (by decide) h
    · replace h := h.2 hc
      refine Ev_rn (q := (24, [(14, 13), (0, x1), (0, ian v1 (ixo (isl 1 x1) (-1)))], [(0, 1)], m2)) 2 rfl ?_
      exact Ev_zret rfl rfl (by decide) h
theorem b_Mz_pathsTo {d : Nat} {r : Option Vv × Mm} {m : Mm} {x1 x2 : Int} (h : ∃ (v1 : Int) (m1 : Mm), Cl d k_Mz_regionOf [(14, 13), (0, x1)] m (some (0, v1), m1) ∧ ((¬ ian v1 x2 = 0 → ∃ (v2 : Int) (m2 : Mm), Cl d k_Mz_pathsOn [(14, 13), (0, isl 1 x1), (0, x2), (0, ian 33554431 (ixo (isl 1 x1) (-1))), (0, 0)] m1 (some (1, v2), m2) ∧ (r = (some (1, v2), m2))) ∧ (¬ (¬ ian v1 x2 = 0) → r = (some (1, 0), m1)))) : Ev (d + 1) K_Mz_pathsTo 1 0 [(14, 13), (0, x1), (0, x2)] [] m r := by
  refine Ev_rn (q := (2, [(14, 13), (0, x1), (0, x2)], [(0, x1), (14, 13)], m)) 2 rfl ?_
  obtain ⟨v1, m1, hc, h⟩ := h
  refine Ev_call (rest := []) rfl rfl (Nat.le_of_ble_eq_true rfl) hc ?_
  refine Ev_rn (q := (5, [(14, 13), (0, x1), (0, x2)], [(0, ian v1 x2)], m1)) 2 rfl ?_
  refine Ev_if rfl (fun hc => ?_) (fun hc => ?_)
  · replace h := h.1 hc
    refine Ev_rn (q := (21, [(14, 13), (0, x1), (0, x2)], [(0, 0), (0, ian 33554431 (ixo (isl 1 x1) (-1))), (0, x2), (0, isl 1 x1), (14, 13)], m1)) 13 rfl ?_
    obtain ⟨v2, m2, hc, h⟩ := h
    refine Ev_call (rest := []) rfl rfl (Nat.le_of_ble_eq_true rfl) hc ?_
    exact Ev_ret rfl rfl h
  · replace h := h.2 hc
    refine Ev_rn (q := (7, [(14, 13), (0, x1), (0, x2)], [(1, 0)], m1)) 1 rfl ?_
    exact Ev_ret rfl rfl h
theorem b_Mz_pathsOn {d : Nat} {r : Option Vv × Mm} {m : Mm} {x1 x2 x3 x4 : Int} (h : (¬ x1 = x2 → (x4 < 25 → ∃ (v1 : Int) (m1 : Mm), Cl d k_Mz_grown [(14, 13), (0, x1)] m (some (0, v1), m1) ∧ (Ev (d + 1) K_Mz_pathsOn 1 20 [(14, 13), (0, x1), (0, x2), (0, x3), (0, x4), (0, ian v1 x3), (1, 0), (9, 0), (0, 0), (9, 0)] [] m1 r)) ∧ (¬ (x4 < 25) → r = (some (1, 0), m))) ∧ (¬ (¬ x1 = x2) → r = (some (1, 1), m))) : Ev (d + 1) K_Mz_pathsOn 1 0 [(14, 13), (0, x1), (0, x2), (0, x3), (0, x4), (9, 0), (9, 0), (9, 0), (9, 0), (9, 0)] [] m r := by
  refine Ev_rn (q := (2, [(14, 13), (0, x1), (0, x2), (0, x3), (0, x4), (9, 0), (9, 0), (9, 0), (9, 0), (9, 0)], [(0, x2), (0, x1)], m)) 2 rfl ?_
  refine Ev_icmp rfl (fun hc => ?_) (fun hc => ?_)
  · replace h := h.1 hc
    refine Ev_rn (q := (7, [(14, 13), (0, x1), (0, x2), (0, x3), (0, x4), (9, 0), (9, 0), (9, 0), (9, 0), (9, 0)], [(0, 25), (0, x4)], m)) 2 rfl ?_
    refine Ev_icmp rfl (fun hc => ?_) (fun hc => ?_)
    · replace h := h.1 hc
      refine Ev_rn (q := (12, [(14, 13), (0, x1), (0, x2), (0, x3), (0, x4), (9, 0), (9, 0), (9, 0), (9, 0), (9, 0)], [(0, x1), (14, 13)], m)) 2 rfl ?_
      obtain ⟨v1, m1, hc, h⟩ := h
      refine Ev_call (rest := []) rfl rfl (Nat.le_of_ble_eq_true rfl) hc ?_
      refine Ev_rn (q := (20, [(14, 13), (0, x1), (0, x2), (0, x3), (0, x4), (0, ian v1 x3), (1, 0), (9, 0), (0, 0), (9, 0)], [], m1)) 7 rfl ?_
      exact h
    · replace h := h.2 hc
      refine Ev_rn (q := (9, [(14, 13), (0, x1), (0, x2), (0, x3), (0, x4), (9, 0), (9, 0), (9, 0), (9, 0), (9, 0)], [(1, 0)], m)) 1 rfl ?_
      exact Ev_ret rfl rfl h
  · replace h := h.2 hc
    refine Ev_rn (q := (4, [(14, 13), (0, x1), (0, x2), (0, x3), (0, x4), (9, 0), (9, 0), (9, 0), (9, 0), (9, 0)], [(1, 1)], m)) 1 rfl ?_
    exact Ev_ret rfl rfl h
theorem b_Mz_pathsOn_20 {d : Nat} {r : Option Vv × Mm} {m : Mm} {x1 x2 x3 x4 x5 x6 x8 : Int} {u9 : Vv} (h : (4 ≤ x8 → r = (some (1, x6), m)) ∧ (¬ (4 ≤ x8) → (x5 = 0 → r = (some (1, x6), m)) ∧ (¬ (x5 = 0) → ∃ (v1 : Int) (m1 : Mm), Cl d k_Mz_pathsOn [(14, 13), (0, ian x5 (w32 (-x5))), (0, x2), (0, ian x3 (ixo (ian x5 (w32 (-x5))) (-1))), (0, w32 (x4 + 1))] m (some (1, v1), m1) ∧ (Ev (d + 1) K_Mz_pathsOn 1 20 [(14, 13), (0, x1), (0, x2), (0, x3), (0, x4), (0, ian x5 (ixo (ian x5 (w32 (-x5))) (-1))), (1, w64 (x6 + v1)), (9, 0), (0, w32 (x8 + 1)), (0, ian x5 (w32 (-x5)))] [] m1 r)))) : Ev (d + 1) K_Mz_pathsOn 1 20 [(14, 13), (0, x1), (0, x2), (0, x3), (0, x4), (0, x5), (1, x6), (9, 0), (0, x8), u9] [] m r := by
  refine Ev_rn (q := (22, [(14, 13), (0, x1), (0, x2), (0, x3), (0, x4), (0, x5), (1, x6), (9, 0), (0, x8), u9], [(0, 4), (0, x8)], m)) 2 rfl ?_
  refine Ev_icmp rfl (fun hc => ?_) (fun hc => ?_)
  · replace h := h.1 hc
    refine Ev_rn (q := (54, [(14, 13), (0, x1), (0, x2), (0, x3), (0, x4), (0, x5), (1, x6), (9, 0), (0, x8), u9], [(1, x6)], m)) 1 rfl ?_
    exact Ev_ret rfl rfl h
  · replace h := h.2 hc
    refine Ev_rn (q := (24, [(14, 13), (0, x1), (0, x2), (0, x3), (0, x4), (0, x5), (1, x6), (9, 0), (0, x8), u9], [(0, x5)], m)) 1 rfl ?_
    refine Ev_if rfl (fun hc => ?_) (fun hc => ?_)
    · replace h := h.1 hc
      refine Ev_rn (q := (54, [(14, 13), (0, x1), (0, x2), (0, x3), (0, x4), (0, x5), (1, x6), (9, 0), (0, x8), u9], [(1, x6)], m)) 1 rfl ?_
      exact Ev_ret rfl rfl h
    · replace h := h.2 hc
      refine Ev_rn (q := (48, [(14, 13), (0, x1), (0, x2), (0, x3), (0, x4), (0, ian x5 (ixo (ian x5 (w32 (-x5))) (-1))), (1, x6), (9, 0), (0, x8), (0, ian x5 (w32 (-x5)))], [(0, w32 (x4 + 1)), (0, ian x3 (ixo (ian x5 (w32 (-x5))) (-1))), (0, x2), (0, ian x5 (w32 (-x5))), (14, 13), (1, x6)], m)) 23 rfl ?_
      obtain ⟨v1, m1, hc, h⟩ := h
      refine Ev_call (rest := [(1, x6)]) rfl rfl (Nat.le_of_ble_eq_true rfl) hc ?_
      refine Ev_rn (q := (20, [(14, 13), (0, x1), (0, x2), (0, x3), (0, x4), (0, ian x5 (ixo (ian x5 (w32 (-x5))) (-1))), (1, w64 (x6 + v1)), (9, 0), (0, w32 (x8 + 1)), (0, ian x5 (w32 (-x5)))], [], m1)) 4 rfl ?_
      exact h
theorem b_Mz_fewestGates {d : Nat} {r : Option Vv × Mm} {m : Mm} {x1 : Int} (h : Ev (d + 1) K_Mz_fewestGates 0 2 [(14, 13), (0, x1), (0, 0), (9, 0)] [] m r) : Ev (d + 1) K_Mz_fewestGates 0 0 [(14, 13), (0, x1), (9, 0), (9, 0)] [] m r := by
  refine Ev_rn (q := (2, [(14, 13), (0, x1), (0, 0), (9, 0)], [], m)) 2 rfl ?_
  exact h
theorem b_Mz_fewestGates_2 {d : Nat} {r : Option Vv × Mm} {m : Mm} {x1 x2 : Int} {u3 : Vv} (h : (25 ≤ x2 → Ev (d + 1) K_Mz_fewestGates 0 19 [(14, 13), (0, x1), (0, 1), u3] [] m r) ∧ (¬ (25 ≤ x2) → ∃ (v1 : Int) (m1 : Mm), Cl d k_Mz_within [(14, 13), (0, isl 1 x2), (0, x1)] m (some (0, v1), m1) ∧ ((0 ≤ x2 ∧ x2 < 25) ∧ (∀ m2 : Mm, m2 = up m1 14 x2 v1 → (Ev (d + 1) K_Mz_fewestGates 0 2 [(14, 13), (0, x1), (0, w32 (x2 + 1)), u3] [] m2 r))))) : Ev (d + 1) K_Mz_fewestGates 0 2 [(14, 13), (0, x1), (0, x2), u3] [] m r := by
  refine Ev_rn (q := (4, [(14, 13), (0, x1), (0, x2), u3], [(0, 25), (0, x2)], m)) 2 rfl ?_
  refine Ev_icmp rfl (fun hc => ?_) (fun hc => ?_)
  · replace h := h.1 hc
    refine Ev_rn (q := (19, [(14, 13), (0, x1), (0, 1), u3], [], m)) 2 rfl ?_
    exact h
  · replace h := h.2 hc
    refine Ev_rn (q := (13, [(14, 13), (0, x1), (0, x2), u3], [(0, x1), (0, isl 1 x2), (14, 13), (0, x2), (300, 14)], m)) 8 rfl ?_
    obtain ⟨v1, m1, hc, h⟩ := h
    refine Ev_call (rest := [(0, x2), (300, 14)]) rfl rfl (Nat.le_of_ble_eq_true rfl) hc ?_
    obtain ⟨hc, h⟩ := h
    refine Ev_iast (n := 25) rfl (by decide) (by decide) hc ?_
    generalize e2 : up m1 14 x2 v1 = m2
    replace h := h m2 e2.symm
    refine Ev_rn (q := (2, [(14, 13), (0, x1), (0, w32 (x2 + 1)), u3], [], m2)) 2 rfl ?_
    exact h
theorem b_Mz_fewestGates_19 {d : Nat} {r : Option Vv × Mm} {m : Mm} {x1 x2 : Int} {u3 : Vv} (h : (4 < x2 → r = (some (0, (-1)), m)) ∧ (¬ (4 < x2) → ∃ (v1 : Int) (m1 : Mm), Cl d k_Mz_lowestCover [(14, 13), (0, x2), (0, 25), (0, 0)] m (some (0, v1), m1) ∧ ((v1 = (-1) → Ev (d + 1) K_Mz_fewestGates 0 19 [(14, 13), (0, x1), (0, w32 (x2 + 1)), (0, v1)] [] m1 r) ∧ (¬ (v1 = (-1)) → r = (some (0, v1), m1))))) : Ev (d + 1) K_Mz_fewestGates 0 19 [(14, 13), (0, x1), (0, x2), u3] [] m r := by
  refine Ev_rn (q := (21, [(14, 13), (0, x1), (0, x2), u3], [(0, 4), (0, x2)], m)) 2 rfl ?_
  refine Ev_icmp rfl (fun hc => ?_) (fun hc => ?_)
  · replace h := h.1 hc
    refine Ev_rn (q := (36, [(14, 13), (0, x1), (0, x2), u3], [(0, (-1))], m)) 1 rfl ?_
    exact Ev_ret rfl rfl h
  · replace h := h.2 hc
    refine Ev_rn (q := (26, [(14, 13), (0, x1), (0, x2), u3], [(0, 0), (0, 25), (0, x2), (14, 13)], m)) 4 rfl ?_
    obtain ⟨v1, m1, hc, h⟩ := h
    refine Ev_call (rest := []) rfl rfl (Nat.le_of_ble_eq_true rfl) hc ?_
    refine Ev_rn (q := (30, [(14, 13), (0, x1), (0, x2), (0, v1)], [(0, (-1)), (0, v1)], m1)) 3 rfl ?_
    refine Ev_icmp rfl (fun hc => ?_) (fun hc => ?_)
    · replace h := h.1 hc
      refine Ev_rn (q := (19, [(14, 13), (0, x1), (0, w32 (x2 + 1)), (0, v1)], [], m1)) 2 rfl ?_
      exact h
    · replace h := h.2 hc
      refine Ev_rn (q := (32, [(14, 13), (0, x1), (0, x2), (0, v1)], [(0, v1)], m1)) 1 rfl ?_
      exact Ev_ret rfl rfl h
theorem b_Mz_lowestCover {d : Nat} {r : Option Vv × Mm} {m : Mm} {x1 x2 x3 : Int} (h : (0 < x1 → Ev (d + 1) K_Mz_lowestCover 0 11 [(14, 13), (0, x1), (0, x2), (0, x3), (0, 0), (9, 0)] [] m r) ∧ (¬ (0 < x1) → (¬ x3 = 33554431 → r = (some (0, (-1)), m)) ∧ (¬ (¬ x3 = 33554431) → r = (some (0, 0), m)))) : Ev (d + 1) K_Mz_lowestCover 0 0 [(14, 13), (0, x1), (0, x2), (0, x3), (9, 0), (9, 0)] [] m r := by
  refine Ev_rn (q := (1, [(14, 13), (0, x1), (0, x2), (0, x3), (9, 0), (9, 0)], [(0, x1)], m)) 1 rfl ?_
  refine Ev_if rfl (fun hc => ?_) (fun hc => ?_)
  · replace h := h.1 hc
    refine Ev_rn (q := (11, [(14, 13), (0, x1), (0, x2), (0, x3), (0, 0), (9, 0)], [], m)) 2 rfl ?_
    exact h
  · replace h := h.2 hc
    refine Ev_rn (q := (4, [(14, 13), (0, x1), (0, x2), (0, x3), (9, 0), (9, 0)], [(0, 33554431), (0, x3)], m)) 2 rfl ?_
    refine Ev_icmp rfl (fun hc => ?_) (fun hc => ?_)
    · replace h := h.1 hc
      refine Ev_rn (q := (8, [(14, 13), (0, x1), (0, x2), (0, x3), (9, 0), (9, 0)], [(0, (-1))], m)) 1 rfl ?_
      exact Ev_ret rfl rfl h
    · replace h := h.2 hc
      refine Ev_rn (q := (8, [(14, 13), (0, x1), (0, x2), (0, x3), (9, 0), (9, 0)], [(0, 0)], m)) 2 rfl ?_
      exact Ev_ret rfl rfl h
theorem b_Mz_lowestCover_11 {d : Nat} {r : Option Vv × Mm} {m : Mm} {x1 x2 x3 x4 : Int} {u5 : Vv} (h : (x2 ≤ x4 → r = (some (0, (-1)), m)) ∧ (¬ (x2 ≤ x4) → (¬ ian (isr 33080895 x4) 1 = 1 → Ev (d + 1) K_Mz_lowestCover 0 11 [(14, 13), (0, x1), (0, x2), (0, x3), (0, w32 (x4 + 1)), u5] [] m r) ∧ (¬ (¬ ian (isr 33080895 x4) 1 = 1) → (0 ≤ x4 ∧ x4 < 25) ∧ (∃ (v1 : Int) (m1 : Mm), Cl d k_Mz_lowestCover [(14, 13), (0, w32 (x1 - 1)), (0, x4), (0, iro x3 (m 14 x4))] m (some (0, v1), m1) ∧ ((v1 = (-1) → Ev (d + 1) K_Mz_lowestCover 0 11 [(14, 13), (0, x1), (0, x2), (0, x3), (0, w32 (x4 + 1)), (0, v1)] [] m1 r) ∧ (¬ (v1 = (-1)) → r = (some (0, iro v1 (isl 1 x4)), m1))))))) : Ev (d + 1) K_Mz_lowestCover 0 11 [(14, 13), (0, x1), (0, x2), (0, x3), (0, x4), u5] [] m r := by
  refine Ev_rn (q := (13, [(14, 13), (0, x1), (0, x2), (0, x3), (0, x4), u5], [(0, x2), (0, x4)], m)) 2 rfl ?_
  refine Ev_icmp rfl (fun hc => ?_) (fun hc => ?_)
  · replace h := h.1 hc
    refine Ev_rn (q := (46, [(14, 13), (0, x1), (0, x2), (0, x3), (0, x4), u5], [(0, (-1))], m)) 1 rfl ?_
    exact Ev_ret rfl rfl h
  · replace h := h.2 hc
    refine Ev_rn (q := (20, [(14, 13), (0, x1), (0, x2), (0, x3), (0, x4), u5], [(0, 1), (0, ian (isr 33080895 x4) 1)], m)) 6 rfl ?_
    refine Ev_icmp rfl (fun hc => ?_) (fun hc => ?_)
    · replace h := h.1 hc
      refine Ev_rn (q := (11, [(14, 13), (0, x1), (0, x2), (0, x3), (0, w32 (x4 + 1)), u5], [], m)) 2 rfl ?_
      exact h
    · replace h := h.2 hc
      refine Ev_rn (q := (30, [(14, 13), (0, x1), (0, x2), (0, x3), (0, x4), u5], [(0, x4), (300, 14), (0, x3), (0, x4), (0, w32 (x1 - 1)), (14, 13)], m)) 9 rfl ?_
      obtain ⟨hc, h⟩ := h
      refine Ev_iald (n := 25) rfl (by decide) (by decide) hc ?_
      refine Ev_rn (q := (32, [(14, 13), (0, x1), (0, x2), (0, x3), (0, x4), u5], [(0, iro x3 (m 14 x4)), (0, x4), (0, w32 (x1 - 1)), (14, 13)], m)) 1 rfl ?_
      obtain ⟨v1, m1, hc, h⟩ := h
      refine Ev_call (rest := []) rfl rfl (Nat.le_of_ble_eq_true rfl) hc ?_
      refine Ev_rn (q := (36, [(14, 13), (0, x1), (0, x2), (0, x3), (0, x4), (0, v1)], [(0, (-1)), (0, v1)], m1)) 3 rfl ?_
      refine Ev_icmp rfl (fun hc => ?_) (fun hc => ?_)
      · replace h := h.1 hc
        refine Ev_rn (q := (11, [(14, 13), (0, x1), (0, x2), (0, x3), (0, w32 (x4 + 1)), (0, v1)], [], m1)) 2 rfl ?_
        exact h
      · replace h := h.2 hc
        refine Ev_rn (q := (42, [(14, 13), (0, x1), (0, x2), (0, x3), (0, x4), (0, v1)], [(0, iro v1 (isl 1 x4))], m1)) 5 rfl ?_
        exact Ev_ret rfl rfl h
theorem b_Pl_isCell {d : Nat} {r : Option Vv × Mm} {m : Mm} {x0 : Int} (h : (x0 < 0 → r = (some (0, 0), m)) ∧ (¬ (x0 < 0) → (25 ≤ x0 → r = (some (0, 0), m)) ∧ (¬ (25 ≤ x0) → r = (some (0, 1), m)))) : Ev d K_Pl_isCell 2 0 [(0, x0)] [] m r := by
  refine Ev_rn (q := (1, [(0, x0)], [(0, x0)], m)) 1 rfl ?_
  refine Ev_if rfl (fun hc => ?_) (fun hc => ?_)
  · replace h := h.1 hc
    refine Ev_rn (q := (8, [(0, x0)], [(0, 0)], m)) 1 rfl ?_
    exact Ev_zret rfl rfl (by decide) h
  · replace h := h.2 hc
    refine Ev_rn (q := (4, [(0, x0)], [(0, 25), (0, x0)], m)) 2 rfl ?_
    refine Ev_icmp rfl (fun hc => ?_) (fun hc => ?_)
    · replace h := h.1 hc
      refine Ev_rn (q := (8, [(0, x0)], [(0, 0)], m)) 1 rfl ?_
      exact Ev_zret rfl rfl (by decide) h
    · replace h := h.2 hc
      refine Ev_rn (q := (8, [(0, x0)], [(0, 1)], m)) 2 rfl ?_
      exact Ev_zret rfl rfl (by decide) h
theorem b_Pl_isWay {d : Nat} {r : Option Vv × Mm} {m : Mm} {x0 : Int} (h : (x0 < 0 → r = (some (0, 0), m)) ∧ (¬ (x0 < 0) → (4 ≤ x0 → r = (some (0, 0), m)) ∧ (¬ (4 ≤ x0) → r = (some (0, 1), m)))) : Ev d K_Pl_isWay 2 0 [(0, x0)] [] m r := by
  refine Ev_rn (q := (1, [(0, x0)], [(0, x0)], m)) 1 rfl ?_
  refine Ev_if rfl (fun hc => ?_) (fun hc => ?_)
  · replace h := h.1 hc
    refine Ev_rn (q := (8, [(0, x0)], [(0, 0)], m)) 1 rfl ?_
    exact Ev_zret rfl rfl (by decide) h
  · replace h := h.2 hc
    refine Ev_rn (q := (4, [(0, x0)], [(0, 4), (0, x0)], m)) 2 rfl ?_
    refine Ev_icmp rfl (fun hc => ?_) (fun hc => ?_)
    · replace h := h.1 hc
      refine Ev_rn (q := (8, [(0, x0)], [(0, 0)], m)) 1 rfl ?_
      exact Ev_zret rfl rfl (by decide) h
    · replace h := h.2 hc
      refine Ev_rn (q := (8, [(0, x0)], [(0, 1)], m)) 2 rfl ?_
      exact Ev_zret rfl rfl (by decide) h
theorem b_Pl_isHedge {d : Nat} {r : Option Vv × Mm} {m : Mm} {x0 : Int} (h : (x0 < 0 → r = (some (0, 0), m)) ∧ (¬ (x0 < 0) → (40 ≤ x0 → r = (some (0, 0), m)) ∧ (¬ (40 ≤ x0) → r = (some (0, 1), m)))) : Ev d K_Pl_isHedge 2 0 [(0, x0)] [] m r := by
  refine Ev_rn (q := (1, [(0, x0)], [(0, x0)], m)) 1 rfl ?_
  refine Ev_if rfl (fun hc => ?_) (fun hc => ?_)
  · replace h := h.1 hc
    refine Ev_rn (q := (8, [(0, x0)], [(0, 0)], m)) 1 rfl ?_
    exact Ev_zret rfl rfl (by decide) h
  · replace h := h.2 hc
    refine Ev_rn (q := (4, [(0, x0)], [(0, 40), (0, x0)], m)) 2 rfl ?_
    refine Ev_icmp rfl (fun hc => ?_) (fun hc => ?_)
    · replace h := h.1 hc
      refine Ev_rn (q := (8, [(0, x0)], [(0, 0)], m)) 1 rfl ?_
      exact Ev_zret rfl rfl (by decide) h
    · replace h := h.2 hc
      refine Ev_rn (q := (8, [(0, x0)], [(0, 1)], m)) 2 rfl ?_
      exact Ev_zret rfl rfl (by decide) h
theorem b_Pl_cellBeyond {d : Nat} {r : Option Vv × Mm} {m : Mm} {x0 x1 : Int} (h : (x1 = 0 → (x0 < 5 → r = (some (0, (-1)), m)) ∧ (¬ (x0 < 5) → r = (some (0, w32 (x0 - 5)), m))) ∧ (¬ x1 = 0 → (x1 = 1 → (4 ≤ irm x0 5 → r = (some (0, (-1)), m)) ∧ (¬ (4 ≤ irm x0 5) → r = (some (0, w32 (x0 + 1)), m))) ∧ (¬ x1 = 1 → (x1 = 2 → (20 ≤ x0 → r = (some (0, (-1)), m)) ∧ (¬ (20 ≤ x0) → r = (some (0, w32 (x0 + 5)), m))) ∧ (¬ x1 = 2 → (x1 = 3 → (irm x0 5 ≤ 0 → r = (some (0, (-1)), m)) ∧ (¬ (irm x0 5 ≤ 0) → r = (some (0, w32 (x0 - 1)), m))) ∧ (¬ x1 = 3 → r = (some (0, (-1)), m)))))) : Ev d K_Pl_cellBeyond 0 0 [(0, x0), (0, x1)] [] m r := by
  refine Ev_rn (q := (1, [(0, x0), (0, x1)], [(0, x1)], m)) 1 rfl ?_
  refine Ev_tsw rfl ?_
  refine ⟨fun hc => ?_, fun hc => ?_⟩
  · replace h := h.1 hc
    refine Ev_rn (q := (4, [(0, x0), (0, x1)], [(0, 5), (0, x0)], m)) 2 rfl ?_
    refine Ev_icmp rfl (fun hc => ?_) (fun hc => ?_)
    · replace h := h.1 hc
      refine Ev_rn (q := (10, [(0, x0), (0, x1)], [(0, (-1))], m)) 1 rfl ?_
      exact Ev_ret rfl rfl h
    · replace h := h.2 hc
      refine Ev_rn (q := (10, [(0, x0), (0, x1)], [(0, w32 (x0 - 5))], m)) 4 rfl ?_
      exact Ev_ret rfl rfl h
  · replace h := h.2 hc
    refine ⟨fun hc => ?_, fun hc => ?_⟩
    · replace h := h.1 hc
      refine Ev_rn (q := (13, [(0, x0), (0, x1)], [(0, 5), (0, x0)], m)) 2 rfl ?_
      refine Ev_irem rfl (by decide) ?_
      refine Ev_rn (q := (15, [(0, x0), (0, x1)], [(0, 4), (0, irm x0 5)], m)) 1 rfl ?_
      refine Ev_icmp rfl (fun hc => ?_) (fun hc => ?_)
      · replace h := h.1 hc
        refine Ev_rn (q := (21, [(0, x0), (0, x1)], [(0, (-1))], m)) 1 rfl ?_
        exact Ev_ret rfl rfl h
      · replace h := h.2 hc
        refine Ev_rn (q := (21, [(0, x0), (0, x1)], [(0, w32 (x0 + 1))], m)) 4 rfl ?_
        exact Ev_ret rfl rfl h
    · replace h := h.2 hc
      refine ⟨fun hc => ?_, fun hc => ?_⟩
      · replace h := h.1 hc
        refine Ev_rn (q := (24, [(0, x0), (0, x1)], [(0, 20), (0, x0)], m)) 2 rfl ?_
        refine Ev_icmp rfl (fun hc => ?_) (fun hc => ?_)
        · replace h := h.1 hc
          refine Ev_rn (q := (30, [(0, x0), (0, x1)], [(0, (-1))], m)) 1 rfl ?_
          exact Ev_ret rfl rfl h
        · replace h := h.2 hc
          refine Ev_rn (q := (30, [(0, x0), (0, x1)], [(0, w32 (x0 + 5))], m)) 4 rfl ?_
          exact Ev_ret rfl rfl h
      · replace h := h.2 hc
        refine ⟨fun hc => ?_, fun hc => ?_⟩
        · replace h := h.1 hc
          refine Ev_rn (q := (33, [(0, x0), (0, x1)], [(0, 5), (0, x0)], m)) 2 rfl ?_
          refine Ev_irem rfl (by decide) ?_
          refine Ev_if rfl (fun hc => ?_) (fun hc => ?_)
          · replace h := h.1 hc
            refine Ev_rn (q := (40, [(0, x0), (0, x1)], [(0, (-1))], m)) 1 rfl ?_
            exact Ev_ret rfl rfl h
          · replace h := h.2 hc
            refine Ev_rn (q := (40, [(0, x0), (0, x1)], [(0, w32 (x0 - 1))], m)) 4 rfl ?_
            exact Ev_ret rfl rfl h
        · replace h := h.2 hc
          refine Ev_rn (q := (42, [(0, x0), (0, x1)], [(0, (-1))], m)) 1 rfl ?_
          exact Ev_ret rfl rfl h
theorem b_Pl_hedgeBy {d : Nat} {r : Option Vv × Mm} {m : Mm} {x0 x1 : Int} (h : (x1 = 0 → (idv x0 5 ≤ 0 → r = (some (0, (-1)), m)) ∧ (¬ (idv x0 5 ≤ 0) → r = (some (0, w32 ((w32 (20 + x0)) - 5)), m))) ∧ (¬ x1 = 0 → (x1 = 1 → (4 ≤ irm x0 5 → r = (some (0, (-1)), m)) ∧ (¬ (4 ≤ irm x0 5) → r = (some (0, w32 ((w32 ((idv x0 5) * 4)) + (irm x0 5))), m))) ∧ (¬ x1 = 1 → (x1 = 2 → (4 ≤ idv x0 5 → r = (some (0, (-1)), m)) ∧ (¬ (4 ≤ idv x0 5) → r = (some (0, w32 (20 + x0)), m))) ∧ (¬ x1 = 2 → (x1 = 3 → (irm x0 5 ≤ 0 → r = (some (0, (-1)), m)) ∧ (¬ (irm x0 5 ≤ 0) → r = (some (0, w32 ((w32 ((w32 ((idv x0 5) * 4)) + (irm x0 5))) - 1)), m))) ∧ (¬ x1 = 3 → r = (some (0, (-1)), m)))))) : Ev d K_Pl_hedgeBy 0 0 [(0, x0), (0, x1), (9, 0), (9, 0), (9, 0)] [] m r := by
  refine Ev_rn (q := (2, [(0, x0), (0, x1), (9, 0), (9, 0), (9, 0)], [(0, 5), (0, x0)], m)) 2 rfl ?_
  refine Ev_idiv rfl (by decide) ?_
  refine Ev_rn (q := (6, [(0, x0), (0, x1), (0, idv x0 5), (9, 0), (9, 0)], [(0, 5), (0, x0)], m)) 3 rfl ?_
  refine Ev_irem rfl (by decide) ?_
  refine Ev_rn (q := (15, [(0, x0), (0, x1), (0, idv x0 5), (0, irm x0 5), (0, w32 ((w32 ((idv x0 5) * 4)) + (irm x0 5)))], [(0, x1)], m)) 8 rfl ?_
  refine Ev_tsw rfl ?_
  refine ⟨fun hc => ?_, fun hc => ?_⟩
  · replace h := h.1 hc
    refine Ev_rn (q := (17, [(0, x0), (0, x1), (0, idv x0 5), (0, irm x0 5), (0, w32 ((w32 ((idv x0 5) * 4)) + (irm x0 5)))], [(0, idv x0 5)], m)) 1 rfl ?_
    refine Ev_if rfl (fun hc => ?_) (fun hc => ?_)
    · replace h := h.1 hc
      refine Ev_rn (q := (25, [(0, x0), (0, x1), (0, idv x0 5), (0, irm x0 5), (0, w32 ((w32 ((idv x0 5) * 4)) + (irm x0 5)))], [(0, (-1))], m)) 1 rfl ?_
      exact Ev_ret rfl rfl h
    · replace h := h.2 hc
      refine Ev_rn (q := (25, [(0, x0), (0, x1), (0, idv x0 5), (0, irm x0 5), (0, w32 ((w32 ((idv x0 5) * 4)) + (irm x0 5)))], [(0, w32 ((w32 (20 + x0)) - 5))], m)) 6 rfl ?_
      exact Ev_ret rfl rfl h
  · replace h := h.2 hc
    refine ⟨fun hc => ?_, fun hc => ?_⟩
    · replace h := h.1 hc
      refine Ev_rn (q := (28, [(0, x0), (0, x1), (0, idv x0 5), (0, irm x0 5), (0, w32 ((w32 ((idv x0 5) * 4)) + (irm x0 5)))], [(0, 4), (0, irm x0 5)], m)) 2 rfl ?_
      refine Ev_icmp rfl (fun hc => ?_) (fun hc => ?_)
      · replace h := h.1 hc
        refine Ev_rn (q := (32, [(0, x0), (0, x1), (0, idv x0 5), (0, irm x0 5), (0, w32 ((w32 ((idv x0 5) * 4)) + (irm x0 5)))], [(0, (-1))], m)) 1 rfl ?_
        exact Ev_ret rfl rfl h
      · replace h := h.2 hc
        refine Ev_rn (q := (32, [(0, x0), (0, x1), (0, idv x0 5), (0, irm x0 5), (0, w32 ((w32 ((idv x0 5) * 4)) + (irm x0 5)))], [(0, w32 ((w32 ((idv x0 5) * 4)) + (irm x0 5)))], m)) 2 rfl ?_
        exact Ev_ret rfl rfl h
    · replace h := h.2 hc
      refine ⟨fun hc => ?_, fun hc => ?_⟩
      · replace h := h.1 hc
        refine Ev_rn (q := (35, [(0, x0), (0, x1), (0, idv x0 5), (0, irm x0 5), (0, w32 ((w32 ((idv x0 5) * 4)) + (irm x0 5)))], [(0, 4), (0, idv x0 5)], m)) 2 rfl ?_
        refine Ev_icmp rfl (fun hc => ?_) (fun hc => ?_)
        · replace h := h.1 hc
          refine Ev_rn (q := (41, [(0, x0), (0, x1), (0, idv x0 5), (0, irm x0 5), (0, w32 ((w32 ((idv x0 5) * 4)) + (irm x0 5)))], [(0, (-1))], m)) 1 rfl ?_
          exact Ev_ret rfl rfl h
        · replace h := h.2 hc
          refine Ev_rn (q := (41, [(0, x0), (0, x1), (0, idv x0 5), (0, irm x0 5), (0, w32 ((w32 ((idv x0 5) * 4)) + (irm x0 5)))], [(0, w32 (20 + x0))], m)) 4 rfl ?_
          exact Ev_ret rfl rfl h
      · replace h := h.2 hc
        refine ⟨fun hc => ?_, fun hc => ?_⟩
        · replace h := h.1 hc
          refine Ev_rn (q := (43, [(0, x0), (0, x1), (0, idv x0 5), (0, irm x0 5), (0, w32 ((w32 ((idv x0 5) * 4)) + (irm x0 5)))], [(0, irm x0 5)], m)) 1 rfl ?_
          refine Ev_if rfl (fun hc => ?_) (fun hc => ?_)
          · replace h := h.1 hc
            refine Ev_rn (q := (49, [(0, x0), (0, x1), (0, idv x0 5), (0, irm x0 5), (0, w32 ((w32 ((idv x0 5) * 4)) + (irm x0 5)))], [(0, (-1))], m)) 1 rfl ?_
            exact Ev_ret rfl rfl h
          · replace h := h.2 hc
            refine Ev_rn (q := (49, [(0, x0), (0, x1), (0, idv x0 5), (0, irm x0 5), (0, w32 ((w32 ((idv x0 5) * 4)) + (irm x0 5)))], [(0, w32 ((w32 ((w32 ((idv x0 5) * 4)) + (irm x0 5))) - 1))], m)) 4 rfl ?_
            exact Ev_ret rfl rfl h
        · replace h := h.2 hc
          refine Ev_rn (q := (51, [(0, x0), (0, x1), (0, idv x0 5), (0, irm x0 5), (0, w32 ((w32 ((idv x0 5) * 4)) + (irm x0 5)))], [(0, (-1))], m)) 1 rfl ?_
          exact Ev_ret rfl rfl h
theorem b_Pl_firstCell {d : Nat} {r : Option Vv × Mm} {m : Mm} {x0 : Int} (h : (20 ≤ x0 → r = (some (0, w32 (x0 - 20)), m)) ∧ (¬ (20 ≤ x0) → r = (some (0, w32 ((w32 ((idv x0 4) * 5)) + (irm x0 4))), m))) : Ev d K_Pl_firstCell 0 0 [(0, x0)] [] m r := by
  refine Ev_rn (q := (2, [(0, x0)], [(0, 20), (0, x0)], m)) 2 rfl ?_
  refine Ev_icmp rfl (fun hc => ?_) (fun hc => ?_)
  · replace h := h.1 hc
    refine Ev_rn (q := (16, [(0, x0)], [(0, w32 (x0 - 20))], m)) 3 rfl ?_
    exact Ev_ret rfl rfl h
  · replace h := h.2 hc
    refine Ev_rn (q := (5, [(0, x0)], [(0, 4), (0, x0)], m)) 2 rfl ?_
    refine Ev_idiv rfl (by decide) ?_
    refine Ev_rn (q := (10, [(0, x0)], [(0, 4), (0, x0), (0, w32 ((idv x0 4) * 5))], m)) 4 rfl ?_
    refine Ev_irem rfl (by decide) ?_
    refine Ev_rn (q := (16, [(0, x0)], [(0, w32 ((w32 ((idv x0 4) * 5)) + (irm x0 4)))], m)) 2 rfl ?_
    exact Ev_ret rfl rfl h
theorem b_Pl_secondCell {d : Nat} {r : Option Vv × Mm} {m : Mm} {x0 : Int} (h : ∃ (v1 : Int) (m1 : Mm), Cl d k_Pl_firstCell [(0, x0)] m (some (0, v1), m1) ∧ ((20 ≤ x0 → r = (some (0, w32 (v1 + 5)), m1)) ∧ (¬ (20 ≤ x0) → r = (some (0, w32 (v1 + 1)), m1)))) : Ev (d + 1) K_Pl_secondCell 0 0 [(0, x0)] [] m r := by
  refine Ev_rn (q := (1, [(0, x0)], [(0, x0)], m)) 1 rfl ?_
  obtain ⟨v1, m1, hc, h⟩ := h
  refine Ev_call (rest := []) rfl rfl (Nat.le_of_ble_eq_true rfl) hc ?_
  refine Ev_rn (q := (4, [(0, x0)], [(0, 20), (0, x0), (0, v1)], m1)) 2 rfl ?_
  refine Ev_icmp rfl (fun hc => ?_) (fun hc => ?_)
  · replace h := h.1 hc
    refine Ev_rn (q := (9, [(0, x0)], [(0, w32 (v1 + 5))], m1)) 2 rfl ?_
    exact Ev_ret rfl rfl h
  · replace h := h.2 hc
    refine Ev_rn (q := (9, [(0, x0)], [(0, w32 (v1 + 1))], m1)) 3 rfl ?_
    exact Ev_ret rfl rfl h
theorem b_Pl_apart {d : Nat} {r : Option Vv × Mm} {m : Mm} {x0 x1 : Int} (h : (x0 < 0 → r = (some (0, 0), m)) ∧ (¬ (x0 < 0) → (25 ≤ x0 → r = (some (0, 0), m)) ∧ (¬ (25 ≤ x0) → (x1 < 0 → r = (some (0, 0), m)) ∧ (¬ (x1 < 0) → (x1 < 25 → r = (some (0, w32 ((if 0 ≤ w32 ((idv x0 5) - (idv x1 5)) then w32 ((idv x0 5) - (idv x1 5)) else w32 (0 - (w32 ((idv x0 5) - (idv x1 5))))) + (if 0 ≤ w32 ((irm x0 5) - (irm x1 5)) then w32 ((irm x0 5) - (irm x1 5)) else w32 (0 - (w32 ((irm x0 5) - (irm x1 5))))))), m)) ∧ (¬ (x1 < 25) → r = (some (0, 0), m)))))) : Ev d K_Pl_apart 0 0 [(0, x0), (0, x1)] [] m r := by
  refine Ev_rn (q := (1, [(0, x0), (0, x1)], [(0, x0)], m)) 1 rfl ?_
  refine Ev_if rfl (fun hc => ?_) (fun hc => ?_)
  · replace h := h.1 hc
    refine Ev_rn (q := (11, [(0, x0), (0, x1)], [(0, 0)], m)) 1 rfl ?_
    exact Ev_ret rfl rfl h
  · replace h := h.2 hc
    refine Ev_rn (q := (4, [(0, x0), (0, x1)], [(0, 25), (0, x0)], m)) 2 rfl ?_
    refine Ev_icmp rfl (fun hc => ?_) (fun hc => ?_)
    · replace h := h.1 hc
      refine Ev_rn (q := (11, [(0, x0), (0, x1)], [(0, 0)], m)) 1 rfl ?_
      exact Ev_ret rfl rfl h
    · replace h := h.2 hc
      refine Ev_rn (q := (6, [(0, x0), (0, x1)], [(0, x1)], m)) 1 rfl ?_
      refine Ev_if rfl (fun hc => ?_) (fun hc => ?_)
      · replace h := h.1 hc
        refine Ev_rn (q := (11, [(0, x0), (0, x1)], [(0, 0)], m)) 1 rfl ?_
        exact Ev_ret rfl rfl h
      · replace h := h.2 hc
        refine Ev_rn (q := (9, [(0, x0), (0, x1)], [(0, 25), (0, x1)], m)) 2 rfl ?_
        refine Ev_icmp rfl (fun hc => ?_) (fun hc => ?_)
        · replace h := h.1 hc
          refine Ev_rn (q := (14, [(0, x0), (0, x1)], [(0, 5), (0, x0)], m)) 2 rfl ?_
          refine Ev_idiv rfl (by decide) ?_
          refine Ev_rn (q := (17, [(0, x0), (0, x1)], [(0, 5), (0, x1), (0, idv x0 5)], m)) 2 rfl ?_
          refine Ev_idiv rfl (by decide) ?_
          refine Ev_rn (q := (22, [(0, x0), (0, x1)], [(0, 5), (0, x0), (0, if 0 ≤ w32 ((idv x0 5) - (idv x1 5)) then w32 ((idv x0 5) - (idv x1 5)) else w32 (0 - (w32 ((idv x0 5) - (idv x1 5)))))], m)) 4 rfl ?_
          refine Ev_irem rfl (by decide) ?_
          refine Ev_rn (q := (25, [(0, x0), (0, x1)], [(0, 5), (0, x1), (0, irm x0 5), (0, if 0 ≤ w32 ((idv x0 5) - (idv x1 5)) then w32 ((idv x0 5) - (idv x1 5)) else w32 (0 - (w32 ((idv x0 5) - (idv x1 5)))))], m)) 2 rfl ?_
          refine Ev_irem rfl (by decide) ?_
          refine Ev_rn (q := (29, [(0, x0), (0, x1)], [(0, w32 ((if 0 ≤ w32 ((idv x0 5) - (idv x1 5)) then w32 ((idv x0 5) - (idv x1 5)) else w32 (0 - (w32 ((idv x0 5) - (idv x1 5))))) + (if 0 ≤ w32 ((irm x0 5) - (irm x1 5)) then w32 ((irm x0 5) - (irm x1 5)) else w32 (0 - (w32 ((irm x0 5) - (irm x1 5)))))))], m)) 3 rfl ?_
          exact Ev_ret rfl rfl h
        · replace h := h.2 hc
          refine Ev_rn (q := (11, [(0, x0), (0, x1)], [(0, 0)], m)) 1 rfl ?_
          exact Ev_ret rfl rfl h
theorem b_Rd_hasRoomFor {d : Nat} {r : Option Vv × Mm} {m : Mm} {x1 : Int} (h : (300 < w32 ((m 80 1) + x1) → r = (some (0, 0), m)) ∧ (¬ (300 < w32 ((m 80 1) + x1)) → r = (some (0, 1), m))) : Ev d K_Rd_hasRoomFor 2 0 [(15, 80), (0, x1)] [] m r := by
  refine Ev_rn (q := (5, [(15, 80), (0, x1)], [(0, 300), (0, w32 ((m 80 1) + x1))], m)) 5 rfl ?_
  refine Ev_icmp rfl (fun hc => ?_) (fun hc => ?_)
  · replace h := h.1 hc
    refine Ev_rn (q := (9, [(15, 80), (0, x1)], [(0, 0)], m)) 1 rfl ?_
    exact Ev_zret rfl rfl (by decide) h
  · replace h := h.2 hc
    refine Ev_rn (q := (9, [(15, 80), (0, x1)], [(0, 1)], m)) 2 rfl ?_
    exact Ev_zret rfl rfl (by decide) h
theorem b_Rd_addFour {d : Nat} {r : Option Vv × Mm} {m : Mm} {x1 : Int} (h : Ev d K_Rd_addFour 3 2 [(15, 80), (0, x1), (0, 24)] [] m r) : Ev d K_Rd_addFour 3 0 [(15, 80), (0, x1), (9, 0)] [] m r := by
  refine Ev_rn (q := (2, [(15, 80), (0, x1), (0, 24)], [], m)) 2 rfl ?_
  exact h
theorem b_Rd_addFour_2 {d : Nat} {r : Option Vv × Mm} {m : Mm} {x1 x2 : Int} (h : (x2 < 0 → r = (none, m)) ∧ (¬ (x2 < 0) → (300 ≤ m 80 1 → r = (none, m)) ∧ (¬ (300 ≤ m 80 1) → (0 ≤ m 80 1 ∧ m 80 1 < 300) ∧ (∀ m1 : Mm, m1 = up m 81 (m 80 1) (ian (isr x1 x2) 255) → (∀ m2 : Mm, m2 = up m1 80 1 (w32 ((m1 80 1) + 1)) → (Ev d K_Rd_addFour 3 2 [(15, 80), (0, x1), (0, w32 (x2 + (-8)))] [] m2 r)))))) : Ev d K_Rd_addFour 3 2 [(15, 80), (0, x1), (0, x2)] [] m r := by
  refine Ev_rn (q := (3, [(15, 80), (0, x1), (0, x2)], [(0, x2)], m)) 1 rfl ?_
  refine Ev_if rfl (fun hc => ?_) (fun hc => ?_)
  · replace h := h.1 hc
    exact Ev_ret rfl rfl h
  · replace h := h.2 hc
    refine Ev_rn (q := (7, [(15, 80), (0, x1), (0, x2)], [(0, 300), (0, m 80 1)], m)) 3 rfl ?_
    refine Ev_icmp rfl (fun hc => ?_) (fun hc => ?_)
    · replace h := h.1 hc
      exact Ev_ret rfl rfl h
    · replace h := h.2 hc
      refine Ev_rn (q := (17, [(15, 80), (0, x1), (0, x2)], [(0, ian (isr x1 x2) 255), (0, m 80 1), (2500, 81)], m)) 9 rfl ?_
      obtain ⟨hc, h⟩ := h
      refine Ev_iast (n := 300) rfl (by decide) (by decide) hc ?_
      generalize e1 : up m 81 (m 80 1) (ian (isr x1 x2) 255) = m1
      replace h := h m1 e1.symm
      refine Ev_rn (q := (24, [(15, 80), (0, x1), (0, x2)], [], up m1 80 1 (w32 ((m1 80 1) + 1)))) 6 rfl ?_
      generalize e2 : up m1 80 1 (w32 ((m1 80 1) + 1)) = m2
      replace h := h m2 e2.symm
      refine Ev_rn (q := (2, [(15, 80), (0, x1), (0, w32 (x2 + (-8)))], [], m2)) 2 rfl ?_
      exact h
theorem b_Rd_reads {d : Nat} {r : Option Vv × Mm} {m : Mm} (h : ∀ m1 : Mm, m1 = up m 80 3 1 → (∀ m2 : Mm, m2 = up m1 80 4 0 → (∀ m3 : Mm, m3 = up m2 80 5 (-1) → (∃ (m4 : Mm), Cl d k_Tx_clear [(16, 82)] m3 (none, m4) ∧ (∀ m5 : Mm, m5 = up m4 80 11 0 → (∀ m6 : Mm, m6 = up m5 80 9 0 → (∃ (m7 : Mm), Cl d k_Rd_advance [(15, 80)] m6 (none, m7) ∧ (Ev (d + 1) K_Rd_reads 2 22 [(15, 80), (0, 0)] [] m7 r)))))))) : Ev (d + 1) K_Rd_reads 2 0 [(15, 80), (9, 0)] [] m r := by
  refine Ev_rn (q := (2, [(15, 80), (9, 0)], [(0, 1), (15, 80)], m)) 2 rfl ?_
  refine Ev_ptz (c := 5) (k := 3) rfl (by decide) (by decide) ?_
  generalize e1 : up m 80 3 1 = m1
  replace h := h m1 e1.symm
  refine Ev_rn (q := (6, [(15, 80), (9, 0)], [], up m1 80 4 0)) 3 rfl ?_
  generalize e2 : up m1 80 4 0 = m2
  replace h := h m2 e2.symm
  refine Ev_rn (q := (9, [(15, 80), (9, 0)], [], up m2 80 5 (-1))) 3 rfl ?_
  generalize e3 : up m2 80 5 (-1) = m3
  replace h := h m3 e3.symm
  refine Ev_rn (q := (11, [(15, 80), (9, 0)], [(16, 82)], m3)) 2 rfl ?_
  obtain ⟨m4, hc, h⟩ := h
  refine Ev_call (rest := []) rfl rfl (Nat.le_of_ble_eq_true rfl) hc ?_
  refine Ev_rn (q := (15, [(15, 80), (9, 0)], [], up m4 80 11 0)) 3 rfl ?_
  generalize e5 : up m4 80 11 0 = m5
  replace h := h m5 e5.symm
  refine Ev_rn (q := (18, [(15, 80), (9, 0)], [], up m5 80 9 0)) 3 rfl ?_
  generalize e6 : up m5 80 9 0 = m6
  replace h := h m6 e6.symm
  refine Ev_rn (q := (19, [(15, 80), (9, 0)], [(15, 80)], m6)) 1 rfl ?_
  obtain ⟨m7, hc, h⟩ := h
  refine Ev_call (rest := []) rfl rfl (Nat.le_of_ble_eq_true rfl) hc ?_
  refine Ev_rn (q := (22, [(15, 80), (0, 0)], [], m7)) 2 rfl ?_
  exact h
theorem b_Rd_reads_22 {d : Nat} {r : Option Vv × Mm} {m : Mm} {x1 : Int} (h : (24 < x1 → r = (some (0, 1), m)) ∧ (¬ (24 < x1) → (m 80 6 = 0 → r = (some (0, 1), m)) ∧ (¬ (m 80 6 = 0) → ∃ (v1 : Int) (m1 : Mm), Cl d k_Rd_clause [(15, 80)] m (some (0, v1), m1) ∧ ((¬ v1 = 0 → Ev (d + 1) K_Rd_reads 2 22 [(15, 80), (0, w32 (x1 + 1))] [] m1 r) ∧ (¬ (¬ v1 = 0) → r = (some (0, 0), m1)))))) : Ev (d + 1) K_Rd_reads 2 22 [(15, 80), (0, x1)] [] m r := by
  refine Ev_rn (q := (24, [(15, 80), (0, x1)], [(0, 24), (0, x1)], m)) 2 rfl ?_
  refine Ev_icmp rfl (fun hc => ?_) (fun hc => ?_)
  · replace h := h.1 hc
    refine Ev_rn (q := (36, [(15, 80), (0, x1)], [(0, 1)], m)) 1 rfl ?_
    exact Ev_zret rfl rfl (by decide) h
  · replace h := h.2 hc
    refine Ev_rn (q := (27, [(15, 80), (0, x1)], [(0, m 80 6)], m)) 2 rfl ?_
    refine Ev_if rfl (fun hc => ?_) (fun hc => ?_)
    · replace h := h.1 hc
      refine Ev_rn (q := (36, [(15, 80), (0, x1)], [(0, 1)], m)) 1 rfl ?_
      exact Ev_zret rfl rfl (by decide) h
    · replace h := h.2 hc
      refine Ev_rn (q := (29, [(15, 80), (0, x1)], [(15, 80)], m)) 1 rfl ?_
      obtain ⟨v1, m1, hc, h⟩ := h
      refine Ev_call (rest := []) rfl rfl (Nat.le_of_ble_eq_true rfl) hc ?_
      refine Ev_if rfl (fun hc => ?_) (fun hc => ?_)
      · replace h := h.1 hc
        refine Ev_rn (q := (22, [(15, 80), (0, w32 (x1 + 1))], [], m1)) 2 rfl ?_
        exact h
      · replace h := h.2 hc
        refine Ev_rn (q := (32, [(15, 80), (0, x1)], [(0, 0)], m1)) 1 rfl ?_
        exact Ev_zret rfl rfl (by decide) h
theorem b_Rd_refuse {d : Nat} {r : Option Vv × Mm} {m : Mm} {x1 : Int} (h : ∀ m1 : Mm, m1 = up m 80 4 x1 → (∀ m2 : Mm, m2 = up m1 80 5 (m1 80 7) → (r = (some (0, 0), m2)))) : Ev d K_Rd_refuse 2 0 [(15, 80), (0, x1)] [] m r := by
  refine Ev_rn (q := (3, [(15, 80), (0, x1)], [], up m 80 4 x1)) 3 rfl ?_
  generalize e1 : up m 80 4 x1 = m1
  replace h := h m1 e1.symm
  refine Ev_rn (q := (7, [(15, 80), (0, x1)], [], up m1 80 5 (m1 80 7))) 4 rfl ?_
  generalize e2 : up m1 80 5 (m1 80 7) = m2
  replace h := h m2 e2.symm
  refine Ev_rn (q := (8, [(15, 80), (0, x1)], [(0, 0)], m2)) 1 rfl ?_
  exact Ev_zret rfl rfl (by decide) h
theorem b_Rd_take {d : Nat} {r : Option Vv × Mm} {m : Mm} {x1 : Int} (h : (m 80 6 = x1 → ∃ (m1 : Mm), Cl d k_Rd_advance [(15, 80)] m (none, m1) ∧ (r = (some (0, 1), m1))) ∧ (¬ (m 80 6 = x1) → ∃ (v2 : Int) (m2 : Mm), Cl d k_Rd_refuse [(15, 80), (0, 1)] m (some (0, v2), m2) ∧ ((v2 = 0 ∨ v2 = 1) ∧ r = (some (0, v2), m2)))) : Ev (d + 1) K_Rd_take 2 0 [(15, 80), (0, x1)] [] m r := by
  refine Ev_rn (q := (3, [(15, 80), (0, x1)], [(0, x1), (0, m 80 6)], m)) 3 rfl ?_
  refine Ev_icmp rfl (fun hc => ?_) (fun hc => ?_)
  · replace h := h.1 hc
    refine Ev_rn (q := (9, [(15, 80), (0, x1)], [(15, 80)], m)) 1 rfl ?_
    obtain ⟨m1, hc, h⟩ := h
    refine Ev_call (rest := []) rfl rfl (Nat.le_of_ble_eq_true rfl) hc ?_
    refine Ev_rn (q := (11, [(15, 80), (0, x1)], [(0, 1)], m1)) 1 rfl ?_
    exact Ev_zret rfl rfl (by decide) h
  · replace h := h.2 hc
    refine Ev_rn (q := (6, [(15, 80), (0, x1)], [(0, 1), (15, 80)], m)) 2 rfl ?_
    obtain ⟨v2, m2, hc, h⟩ := h
    refine Ev_call (rest := []) rfl rfl (Nat.le_of_ble_eq_true rfl) hc ?_
    exact Ev_zret rfl rfl h.1 h.2
theorem b_Rd_clause {d : Nat} {r : Option Vv × Mm} {m : Mm} (h : (m 80 6 < 16 → ∃ (v1 : Int) (m1 : Mm), Cl d k_Rd_refuse [(15, 80), (0, 1)] m (some (0, v1), m1) ∧ ((v1 = 0 ∨ v1 = 1) ∧ r = (some (0, v1), m1))) ∧ (¬ (m 80 6 < 16) → (m 80 6 ≤ 24 → (m 80 6 = 16 → Ev (d + 1) K_Rd_clause 2 19 [(15, 80), (0, m 80 6), (9, 0), (9, 0)] [] m r) ∧ (¬ (m 80 6 = 16) → (¬ m 80 6 = 17 → Ev (d + 1) K_Rd_clause 2 34 [(15, 80), (0, m 80 6), (0, 0), (9, 0)] [] m r) ∧ (¬ (¬ m 80 6 = 17) → Ev (d + 1) K_Rd_clause 2 19 [(15, 80), (0, m 80 6), (9, 0), (9, 0)] [] m r))) ∧ (¬ (m 80 6 ≤ 24) → ∃ (v2 : Int) (m2 : Mm), Cl d k_Rd_refuse [(15, 80), (0, 1)] m (some (0, v2), m2) ∧ ((v2 = 0 ∨ v2 = 1) ∧ r = (some (0, v2), m2))))) : Ev (d + 1) K_Rd_clause 2 0 [(15, 80), (9, 0), (9, 0), (9, 0)] [] m r := by
  refine Ev_rn (q := (5, [(15, 80), (0, m 80 6), (9, 0), (9, 0)], [(0, 16), (0, m 80 6)], m)) 5 rfl ?_
  refine Ev_icmp rfl (fun hc => ?_) (fun hc => ?_)
  · replace h := h.1 hc
    refine Ev_rn (q := (11, [(15, 80), (0, m 80 6), (9, 0), (9, 0)], [(0, 1), (15, 80)], m)) 2 rfl ?_
    obtain ⟨v1, m1, hc, h⟩ := h
    refine Ev_call (rest := []) rfl rfl (Nat.le_of_ble_eq_true rfl) hc ?_
    exact Ev_zret rfl rfl h.1 h.2
  · replace h := h.2 hc
    refine Ev_rn (q := (8, [(15, 80), (0, m 80 6), (9, 0), (9, 0)], [(0, 24), (0, m 80 6)], m)) 2 rfl ?_
    refine Ev_icmp rfl (fun hc => ?_) (fun hc => ?_)
    · replace h := h.1 hc
      refine Ev_rn (q := (15, [(15, 80), (0, m 80 6), (9, 0), (9, 0)], [(0, 16), (0, m 80 6)], m)) 2 rfl ?_
      refine Ev_icmp rfl (fun hc => ?_) (fun hc => ?_)
      · replace h := h.1 hc
        exact h
      · replace h := h.2 hc
        refine Ev_rn (q := (18, [(15, 80), (0, m 80 6), (9, 0), (9, 0)], [(0, 17), (0, m 80 6)], m)) 2 rfl ?_
        refine Ev_icmp rfl (fun hc => ?_) (fun hc => ?_)
        · replace h := h.1 hc
          refine Ev_rn (q := (24, [(15, 80), (0, m 80 6), (0, 0), (9, 0)], [(0, 0)], m)) 3 rfl ?_
          refine Ev_if rfl (fun _ => ?_) (fun hc => absurd (by simp [cmpP]) hc)
          exact h
        · replace h := h.2 hc
          exact h
    · replace h := h.2 hc
      refine Ev_rn (q := (11, [(15, 80), (0, m 80 6), (9, 0), (9, 0)], [(0, 1), (15, 80)], m)) 2 rfl ?_
      obtain ⟨v2, m2, hc, h⟩ := h
      refine Ev_call (rest := []) rfl rfl (Nat.le_of_ble_eq_true rfl) hc ?_
      exact Ev_zret rfl rfl h.1 h.2
theorem b_Rd_clause_19 {d : Nat} {r : Option Vv × Mm} {m : Mm} {x1 : Int} {u2 u3 : Vv} (h : ∃ (v1 : Int) (m1 : Mm), Cl d k_Tx_has [(16, 82), (0, x1)] m (some (0, v1), m1) ∧ ((v1 = 0 → Ev (d + 1) K_Rd_clause 2 34 [(15, 80), (0, x1), (0, 1), u3] [] m1 r) ∧ (¬ (v1 = 0) → ∃ (v2 : Int) (m2 : Mm), Cl d k_Rd_refuse [(15, 80), (0, 4)] m1 (some (0, v2), m2) ∧ ((v2 = 0 ∨ v2 = 1) ∧ r = (some (0, v2), m2))))) : Ev (d + 1) K_Rd_clause 2 19 [(15, 80), (0, x1), u2, u3] [] m r := by
  refine Ev_rn (q := (24, [(15, 80), (0, x1), (0, 1), u3], [(0, 1)], m)) 4 rfl ?_
  refine Ev_if rfl (fun hc => absurd hc (by simp [cmpP])) (fun _ => ?_)
  refine Ev_rn (q := (28, [(15, 80), (0, x1), (0, 1), u3], [(0, x1), (16, 82)], m)) 3 rfl ?_
  obtain ⟨v1, m1, hc, h⟩ := h
  refine Ev_call (rest := []) rfl rfl (Nat.le_of_ble_eq_true rfl) hc ?_
  refine Ev_if rfl (fun hc => ?_) (fun hc => ?_)
  · replace h := h.1 hc
    exact h
  · replace h := h.2 hc
    refine Ev_rn (q := (32, [(15, 80), (0, x1), (0, 1), u3], [(0, 4), (15, 80)], m1)) 2 rfl ?_
    obtain ⟨v2, m2, hc, h⟩ := h
    refine Ev_call (rest := []) rfl rfl (Nat.le_of_ble_eq_true rfl) hc ?_
    exact Ev_zret rfl rfl h.1 h.2
theorem b_Rd_clause_34 {d : Nat} {r : Option Vv × Mm} {m : Mm} {x1 x2 : Int} {u3 : Vv} (h : (m 82 0 < 24 → ∃ (m1 : Mm), Cl d k_Rd_advance [(15, 80)] m (none, m1) ∧ ((¬ x2 = 0 → ∀ m2 : Mm, m2 = up m1 80 10 x1 → (∃ (m3 : Mm), Cl d k_Tx_beginLaw [(16, 82), (0, x1)] m2 (none, m3) ∧ (∃ (v4 : Int) (m4 : Mm), Cl d k_Rd_sum [(15, 80)] m3 (some (0, v4), m4) ∧ (∃ (m5 : Mm), Cl d k_Tx_endLaw [(16, 82), (0, x1)] m4 (none, m5) ∧ ((v4 = 0 → r = (some (0, 0), m5)) ∧ (¬ (v4 = 0) → ∃ (v6 : Int) (m6 : Mm), Cl d k_Rd_take [(15, 80), (0, 13)] m5 (some (0, v6), m6) ∧ ((v6 = 0 → r = (some (0, 0), m6)) ∧ (¬ (v6 = 0) → r = (some (0, 1), m6))))))))) ∧ (¬ (¬ x2 = 0) → ∃ (v7 : Int) (m7 : Mm), Cl d k_Rd_deed [(15, 80), (0, x1)] m1 (some (0, v7), m7) ∧ ((v7 = 0 → r = (some (0, 0), m7)) ∧ (¬ (v7 = 0) → ∃ (v8 : Int) (m8 : Mm), Cl d k_Rd_take [(15, 80), (0, 13)] m7 (some (0, v8), m8) ∧ ((v8 = 0 → r = (some (0, 0), m8)) ∧ (¬ (v8 = 0) → r = (some (0, 1), m8)))))))) ∧ (¬ (m 82 0 < 24) → ∃ (v9 : Int) (m9 : Mm), Cl d k_Rd_refuse [(15, 80), (0, 6)] m (some (0, v9), m9) ∧ ((v9 = 0 ∨ v9 = 1) ∧ r = (some (0, v9), m9)))) : Ev (d + 1) K_Rd_clause 2 34 [(15, 80), (0, x1), (0, x2), u3] [] m r := by
  refine Ev_rn (q := (38, [(15, 80), (0, x1), (0, x2), u3], [(0, 24), (0, m 82 0)], m)) 4 rfl ?_
  refine Ev_icmp rfl (fun hc => ?_) (fun hc => ?_)
  · replace h := h.1 hc
    refine Ev_rn (q := (44, [(15, 80), (0, x1), (0, x2), u3], [(15, 80)], m)) 1 rfl ?_
    obtain ⟨m1, hc, h⟩ := h
    refine Ev_call (rest := []) rfl rfl (Nat.le_of_ble_eq_true rfl) hc ?_
    refine Ev_rn (q := (46, [(15, 80), (0, x1), (0, x2), u3], [(0, x2)], m1)) 1 rfl ?_
    refine Ev_if rfl (fun hc => ?_) (fun hc => ?_)
    · replace h := h.1 hc
      refine Ev_rn (q := (62, [(15, 80), (0, x1), (0, x2), u3], [], up m1 80 10 x1)) 3 rfl ?_
      generalize e2 : up m1 80 10 x1 = m2
      replace h := h m2 e2.symm
      refine Ev_rn (q := (65, [(15, 80), (0, x1), (0, x2), u3], [(0, x1), (16, 82)], m2)) 3 rfl ?_
      obtain ⟨m3, hc, h⟩ := h
      refine Ev_call (rest := []) rfl rfl (Nat.le_of_ble_eq_true rfl) hc ?_
      refine Ev_rn (q := (67, [(15, 80), (0, x1), (0, x2), u3], [(15, 80)], m3)) 1 rfl ?_
      obtain ⟨v4, m4, hc, h⟩ := h
      refine Ev_call (rest := []) rfl rfl (Nat.le_of_ble_eq_true rfl) hc ?_
      refine Ev_rn (q := (72, [(15, 80), (0, x1), (0, x2), (0, v4)], [(0, x1), (16, 82)], m4)) 4 rfl ?_
      obtain ⟨m5, hc, h⟩ := h
      refine Ev_call (rest := []) rfl rfl (Nat.le_of_ble_eq_true rfl) hc ?_
      refine Ev_rn (q := (74, [(15, 80), (0, x1), (0, x2), (0, v4)], [(0, v4)], m5)) 1 rfl ?_
      refine Ev_if rfl (fun hc => ?_) (fun hc => ?_)
      · replace h := h.1 hc
        refine Ev_rn (q := (82, [(15, 80), (0, x1), (0, x2), (0, v4)], [(0, 0)], m5)) 1 rfl ?_
        exact Ev_zret rfl rfl (by decide) h
      · replace h := h.2 hc
        refine Ev_rn (q := (77, [(15, 80), (0, x1), (0, x2), (0, v4)], [(0, 13), (15, 80)], m5)) 2 rfl ?_
        obtain ⟨v6, m6, hc, h⟩ := h
        refine Ev_call (rest := []) rfl rfl (Nat.le_of_ble_eq_true rfl) hc ?_
        refine Ev_if rfl (fun hc => ?_) (fun hc => ?_)
        · replace h := h.1 hc
          refine Ev_rn (q := (82, [(15, 80), (0, x1), (0, x2), (0, v4)], [(0, 0)], m6)) 1 rfl ?_
          exact Ev_zret rfl rfl (by decide) h
        · replace h := h.2 hc
          refine Ev_rn (q := (82, [(15, 80), (0, x1), (0, x2), (0, v4)], [(0, 1)], m6)) 2 rfl ?_
          exact Ev_zret rfl rfl (by decide) h
    · replace h := h.2 hc
      refine Ev_rn (q := (49, [(15, 80), (0, x1), (0, x2), u3], [(0, x1), (15, 80)], m1)) 2 rfl ?_
      obtain ⟨v7, m7, hc, h⟩ := h
      refine Ev_call (rest := []) rfl rfl (Nat.le_of_ble_eq_true rfl) hc ?_
      refine Ev_if rfl (fun hc => ?_) (fun hc => ?_)
      · replace h := h.1 hc
        refine Ev_rn (q := (58, [(15, 80), (0, x1), (0, x2), u3], [(0, 0)], m7)) 1 rfl ?_
        exact Ev_zret rfl rfl (by decide) h
      · replace h := h.2 hc
        refine Ev_rn (q := (53, [(15, 80), (0, x1), (0, x2), u3], [(0, 13), (15, 80)], m7)) 2 rfl ?_
        obtain ⟨v8, m8, hc, h⟩ := h
        refine Ev_call (rest := []) rfl rfl (Nat.le_of_ble_eq_true rfl) hc ?_
        refine Ev_if rfl (fun hc => ?_) (fun hc => ?_)
        · replace h := h.1 hc
          refine Ev_rn (q := (58, [(15, 80), (0, x1), (0, x2), u3], [(0, 0)], m8)) 1 rfl ?_
          exact Ev_zret rfl rfl (by decide) h
        · replace h := h.2 hc
          refine Ev_rn (q := (58, [(15, 80), (0, x1), (0, x2), u3], [(0, 1)], m8)) 2 rfl ?_
          exact Ev_zret rfl rfl (by decide) h
  · replace h := h.2 hc
    refine Ev_rn (q := (41, [(15, 80), (0, x1), (0, x2), u3], [(0, 6), (15, 80)], m)) 2 rfl ?_
    obtain ⟨v9, m9, hc, h⟩ := h
    refine Ev_call (rest := []) rfl rfl (Nat.le_of_ble_eq_true rfl) hc ?_
    exact Ev_zret rfl rfl h.1 h.2
theorem b_Rd_deed {d : Nat} {r : Option Vv × Mm} {m : Mm} {x1 : Int} (h : (x1 = 18 → ∃ (v1 : Int) (m1 : Mm), Cl d k_Rd_oneNumber [(15, 80), (0, x1), (0, 0), (0, 24)] m (some (0, v1), m1) ∧ ((v1 = 0 → r = (some (0, 0), m1)) ∧ (¬ (v1 = 0) → ∃ (v2 : Int) (m2 : Mm), Cl d k_Rd_secondNumber [(15, 80), (0, 30), (0, 3)] m1 (some (0, v2), m2) ∧ ((v2 = 0 → r = (some (0, 0), m2)) ∧ (¬ (v2 = 0) → r = (some (0, 1), m2)))))) ∧ (¬ x1 = 18 → (x1 = 19 → ∃ (v3 : Int) (m3 : Mm), Cl d k_Rd_oneNumber [(15, 80), (0, x1), (0, 0), (0, 24)] m (some (0, v3), m3) ∧ ((v3 = 0 ∨ v3 = 1) ∧ r = (some (0, v3), m3))) ∧ (¬ x1 = 19 → (x1 = 20 → ∃ (v4 : Int) (m4 : Mm), Cl d k_Rd_oneNumber [(15, 80), (0, x1), (0, 0), (0, 39)] m (some (0, v4), m4) ∧ ((v4 = 0 ∨ v4 = 1) ∧ r = (some (0, v4), m4))) ∧ (¬ x1 = 20 → (x1 = 21 → ∃ (v5 : Int) (m5 : Mm), Cl d k_Rd_oneNumber [(15, 80), (0, x1), (0, 0), (0, 39)] m (some (0, v5), m5) ∧ ((v5 = 0 ∨ v5 = 1) ∧ r = (some (0, v5), m5))) ∧ (¬ x1 = 21 → (x1 = 22 → ∃ (v6 : Int) (m6 : Mm), Cl d k_Rd_oneNumber [(15, 80), (0, x1), (0, 0), (0, 3)] m (some (0, v6), m6) ∧ ((v6 = 0 → r = (some (0, 0), m6)) ∧ (¬ (v6 = 0) → ∃ (v7 : Int) (m7 : Mm), Cl d k_Rd_secondNumber [(15, 80), (0, 31), (0, 7)] m6 (some (0, v7), m7) ∧ ((v7 = 0 → r = (some (0, 0), m7)) ∧ (¬ (v7 = 0) → r = (some (0, 1), m7)))))) ∧ (¬ x1 = 22 → (x1 = 23 → ∃ (v8 : Int) (m8 : Mm), Cl d k_Rd_oneNumber [(15, 80), (0, x1), (0, 0), (0, 3)] m (some (0, v8), m8) ∧ ((v8 = 0 → r = (some (0, 0), m8)) ∧ (¬ (v8 = 0) → ∃ (v9 : Int) (m9 : Mm), Cl d k_Rd_secondNumber [(15, 80), (0, 32), (0, 4)] m8 (some (0, v9), m9) ∧ ((v9 = 0 → r = (some (0, 0), m9)) ∧ (¬ (v9 = 0) → r = (some (0, 1), m9)))))) ∧ (¬ x1 = 23 → (x1 = 24 → ∃ (v10 : Int) (m10 : Mm), Cl d k_Rd_oneNumber [(15, 80), (0, x1), (0, 1), (0, 60)] m (some (0, v10), m10) ∧ ((v10 = 0 ∨ v10 = 1) ∧ r = (some (0, v10), m10))) ∧ (¬ x1 = 24 → ∃ (v11 : Int) (m11 : Mm), Cl d k_Rd_oneNumber [(15, 80), (0, x1), (0, 0), (0, 39)] m (some (0, v11), m11) ∧ ((v11 = 0 ∨ v11 = 1) ∧ r = (some (0, v11), m11)))))))))) : Ev (d + 1) K_Rd_deed 2 0 [(15, 80), (0, x1)] [] m r := by
  refine Ev_rn (q := (1, [(15, 80), (0, x1)], [(0, x1)], m)) 1 rfl ?_
  refine Ev_tsw rfl ?_
  refine ⟨fun hc => ?_, fun hc => ?_⟩
  · replace h := h.1 hc
    refine Ev_rn (q := (6, [(15, 80), (0, x1)], [(0, 24), (0, 0), (0, x1), (15, 80)], m)) 4 rfl ?_
    obtain ⟨v1, m1, hc, h⟩ := h
    refine Ev_call (rest := []) rfl rfl (Nat.le_of_ble_eq_true rfl) hc ?_
    refine Ev_if rfl (fun hc => ?_) (fun hc => ?_)
    · replace h := h.1 hc
      refine Ev_rn (q := (16, [(15, 80), (0, x1)], [(0, 0)], m1)) 1 rfl ?_
      exact Ev_zret rfl rfl (by decide) h
    · replace h := h.2 hc
      refine Ev_rn (q := (11, [(15, 80), (0, x1)], [(0, 3), (0, 30), (15, 80)], m1)) 3 rfl ?_
      obtain ⟨v2, m2, hc, h⟩ := h
      refine Ev_call (rest := []) rfl rfl (Nat.le_of_ble_eq_true rfl) hc ?_
      refine Ev_if rfl (fun hc => ?_) (fun hc => ?_)
      · replace h := h.1 hc
        refine Ev_rn (q := (16, [(15, 80), (0, x1)], [(0, 0)], m2)) 1 rfl ?_
        exact Ev_zret rfl rfl (by decide) h
      · replace h := h.2 hc
        refine Ev_rn (q := (16, [(15, 80), (0, x1)], [(0, 1)], m2)) 2 rfl ?_
        exact Ev_zret rfl rfl (by decide) h
  · replace h := h.2 hc
    refine ⟨fun hc => ?_, fun hc => ?_⟩
    · replace h := h.1 hc
      refine Ev_rn (q := (21, [(15, 80), (0, x1)], [(0, 24), (0, 0), (0, x1), (15, 80)], m)) 4 rfl ?_
      obtain ⟨v3, m3, hc, h⟩ := h
      refine Ev_call (rest := []) rfl rfl (Nat.le_of_ble_eq_true rfl) hc ?_
      exact Ev_zret rfl rfl h.1 h.2
    · replace h := h.2 hc
      refine ⟨fun hc => ?_, fun hc => ?_⟩
      · replace h := h.1 hc
        refine Ev_rn (q := (63, [(15, 80), (0, x1)], [(0, 39), (0, 0), (0, x1), (15, 80)], m)) 4 rfl ?_
        obtain ⟨v4, m4, hc, h⟩ := h
        refine Ev_call (rest := []) rfl rfl (Nat.le_of_ble_eq_true rfl) hc ?_
        exact Ev_zret rfl rfl h.1 h.2
      · replace h := h.2 hc
        refine ⟨fun hc => ?_, fun hc => ?_⟩
        · replace h := h.1 hc
          refine Ev_rn (q := (63, [(15, 80), (0, x1)], [(0, 39), (0, 0), (0, x1), (15, 80)], m)) 4 rfl ?_
          obtain ⟨v5, m5, hc, h⟩ := h
          refine Ev_call (rest := []) rfl rfl (Nat.le_of_ble_eq_true rfl) hc ?_
          exact Ev_zret rfl rfl h.1 h.2
        · replace h := h.2 hc
          refine ⟨fun hc => ?_, fun hc => ?_⟩
          · replace h := h.1 hc
            refine Ev_rn (q := (27, [(15, 80), (0, x1)], [(0, 3), (0, 0), (0, x1), (15, 80)], m)) 4 rfl ?_
            obtain ⟨v6, m6, hc, h⟩ := h
            refine Ev_call (rest := []) rfl rfl (Nat.le_of_ble_eq_true rfl) hc ?_
            refine Ev_if rfl (fun hc => ?_) (fun hc => ?_)
            · replace h := h.1 hc
              refine Ev_rn (q := (37, [(15, 80), (0, x1)], [(0, 0)], m6)) 1 rfl ?_
              exact Ev_zret rfl rfl (by decide) h
            · replace h := h.2 hc
              refine Ev_rn (q := (32, [(15, 80), (0, x1)], [(0, 7), (0, 31), (15, 80)], m6)) 3 rfl ?_
              obtain ⟨v7, m7, hc, h⟩ := h
              refine Ev_call (rest := []) rfl rfl (Nat.le_of_ble_eq_true rfl) hc ?_
              refine Ev_if rfl (fun hc => ?_) (fun hc => ?_)
              · replace h := h.1 hc
                refine Ev_rn (q := (37, [(15, 80), (0, x1)], [(0, 0)], m7)) 1 rfl ?_
                exact Ev_zret rfl rfl (by decide) h
              · replace h := h.2 hc
                refine Ev_rn (q := (37, [(15, 80), (0, x1)], [(0, 1)], m7)) 2 rfl ?_
                exact Ev_zret rfl rfl (by decide) h
          · replace h := h.2 hc
            refine ⟨fun hc => ?_, fun hc => ?_⟩
            · replace h := h.1 hc
              refine Ev_rn (q := (42, [(15, 80), (0, x1)], [(0, 3), (0, 0), (0, x1), (15, 80)], m)) 4 rfl ?_
              obtain ⟨v8, m8, hc, h⟩ := h
              refine Ev_call (rest := []) rfl rfl (Nat.le_of_ble_eq_true rfl) hc ?_
              refine Ev_if rfl (fun hc => ?_) (fun hc => ?_)
              · replace h := h.1 hc
                refine Ev_rn (q := (52, [(15, 80), (0, x1)], [(0, 0)], m8)) 1 rfl ?_
                exact Ev_zret rfl rfl (by decide) h
              · replace h := h.2 hc
                refine Ev_rn (q := (47, [(15, 80), (0, x1)], [(0, 4), (0, 32), (15, 80)], m8)) 3 rfl ?_
                obtain ⟨v9, m9, hc, h⟩ := h
                refine Ev_call (rest := []) rfl rfl (Nat.le_of_ble_eq_true rfl) hc ?_
                refine Ev_if rfl (fun hc => ?_) (fun hc => ?_)
                · replace h := h.1 hc
                  refine Ev_rn (q := (52, [(15, 80), (0, x1)], [(0, 0)], m9)) 1 rfl ?_
                  exact Ev_zret rfl rfl (by decide) h
                · replace h := h.2 hc
                  refine Ev_rn (q := (52, [(15, 80), (0, x1)], [(0, 1)], m9)) 2 rfl ?_
                  exact Ev_zret rfl rfl (by decide) h
            · replace h := h.2 hc
              refine ⟨fun hc => ?_, fun hc => ?_⟩
              · replace h := h.1 hc
                refine Ev_rn (q := (57, [(15, 80), (0, x1)], [(0, 60), (0, 1), (0, x1), (15, 80)], m)) 4 rfl ?_
                obtain ⟨v10, m10, hc, h⟩ := h
                refine Ev_call (rest := []) rfl rfl (Nat.le_of_ble_eq_true rfl) hc ?_
                exact Ev_zret rfl rfl h.1 h.2
              · replace h := h.2 hc
                refine Ev_rn (q := (63, [(15, 80), (0, x1)], [(0, 39), (0, 0), (0, x1), (15, 80)], m)) 4 rfl ?_
                obtain ⟨v11, m11, hc, h⟩ := h
                refine Ev_call (rest := []) rfl rfl (Nat.le_of_ble_eq_true rfl) hc ?_
                exact Ev_zret rfl rfl h.1 h.2
theorem b_Rd_oneNumber {d : Nat} {r : Option Vv × Mm} {m : Mm} {x1 x2 x3 : Int} (h : ∃ (v1 : Int) (m1 : Mm), Cl d k_Rd_isNumber [(15, 80), (0, x2), (0, x3)] m (some (0, v1), m1) ∧ ((¬ v1 = 0 → ∃ (m2 : Mm), Cl d k_Tx_addClause [(16, 82), (0, x1), (0, m1 80 8), (0, 0)] m1 (none, m2) ∧ (∃ (m3 : Mm), Cl d k_Rd_advance [(15, 80)] m2 (none, m3) ∧ (r = (some (0, 1), m3)))) ∧ (¬ (¬ v1 = 0) → r = (some (0, 0), m1)))) : Ev (d + 1) K_Rd_oneNumber 2 0 [(15, 80), (0, x1), (0, x2), (0, x3)] [] m r := by
  refine Ev_rn (q := (3, [(15, 80), (0, x1), (0, x2), (0, x3)], [(0, x3), (0, x2), (15, 80)], m)) 3 rfl ?_
  obtain ⟨v1, m1, hc, h⟩ := h
  refine Ev_call (rest := []) rfl rfl (Nat.le_of_ble_eq_true rfl) hc ?_
  refine Ev_if rfl (fun hc => ?_) (fun hc => ?_)
  · replace h := h.1 hc
    refine Ev_rn (q := (13, [(15, 80), (0, x1), (0, x2), (0, x3)], [(0, 0), (0, m1 80 8), (0, x1), (16, 82)], m1)) 6 rfl ?_
    obtain ⟨m2, hc, h⟩ := h
    refine Ev_call (rest := []) rfl rfl (Nat.le_of_ble_eq_true rfl) hc ?_
    refine Ev_rn (q := (15, [(15, 80), (0, x1), (0, x2), (0, x3)], [(15, 80)], m2)) 1 rfl ?_
    obtain ⟨m3, hc, h⟩ := h
    refine Ev_call (rest := []) rfl rfl (Nat.le_of_ble_eq_true rfl) hc ?_
    refine Ev_rn (q := (17, [(15, 80), (0, x1), (0, x2), (0, x3)], [(0, 1)], m3)) 1 rfl ?_
    exact Ev_zret rfl rfl (by decide) h
  · replace h := h.2 hc
    refine Ev_rn (q := (6, [(15, 80), (0, x1), (0, x2), (0, x3)], [(0, 0)], m1)) 1 rfl ?_
    exact Ev_zret rfl rfl (by decide) h
theorem b_Rd_secondNumber {d : Nat} {r : Option Vv × Mm} {m : Mm} {x1 x2 : Int} (h : (m 80 6 = x1 → ∃ (m1 : Mm), Cl d k_Rd_advance [(15, 80)] m (none, m1) ∧ (∃ (v2 : Int) (m2 : Mm), Cl d k_Rd_isNumber [(15, 80), (0, 0), (0, x2)] m1 (some (0, v2), m2) ∧ ((¬ v2 = 0 → (m2 82 0 ≤ 0 → ∃ (m3 : Mm), Cl d k_Rd_advance [(15, 80)] m2 (none, m3) ∧ (r = (some (0, 1), m3))) ∧ (¬ (m2 82 0 ≤ 0) → (0 ≤ w32 ((m2 82 0) - 1) ∧ w32 ((m2 82 0) - 1) < 24) ∧ (∀ m4 : Mm, m4 = up m2 85 (w32 ((m2 82 0) - 1)) (m2 80 8) → (∃ (m5 : Mm), Cl d k_Rd_advance [(15, 80)] m4 (none, m5) ∧ (r = (some (0, 1), m5)))))) ∧ (¬ (¬ v2 = 0) → r = (some (0, 0), m2))))) ∧ (¬ (m 80 6 = x1) → ∃ (v6 : Int) (m6 : Mm), Cl d k_Rd_refuse [(15, 80), (0, 1)] m (some (0, v6), m6) ∧ ((v6 = 0 ∨ v6 = 1) ∧ r = (some (0, v6), m6)))) : Ev (d + 1) K_Rd_secondNumber 2 0 [(15, 80), (0, x1), (0, x2)] [] m r := by
  refine Ev_rn (q := (3, [(15, 80), (0, x1), (0, x2)], [(0, x1), (0, m 80 6)], m)) 3 rfl ?_
  refine Ev_icmp rfl (fun hc => ?_) (fun hc => ?_)
  · replace h := h.1 hc
    refine Ev_rn (q := (9, [(15, 80), (0, x1), (0, x2)], [(15, 80)], m)) 1 rfl ?_
    obtain ⟨m1, hc, h⟩ := h
    refine Ev_call (rest := []) rfl rfl (Nat.le_of_ble_eq_true rfl) hc ?_
    refine Ev_rn (q := (13, [(15, 80), (0, x1), (0, x2)], [(0, x2), (0, 0), (15, 80)], m1)) 3 rfl ?_
    obtain ⟨v2, m2, hc, h⟩ := h
    refine Ev_call (rest := []) rfl rfl (Nat.le_of_ble_eq_true rfl) hc ?_
    refine Ev_if rfl (fun hc => ?_) (fun hc => ?_)
    · replace h := h.1 hc
      refine Ev_rn (q := (20, [(15, 80), (0, x1), (0, x2)], [(0, m2 82 0)], m2)) 3 rfl ?_
      refine Ev_if rfl (fun hc => ?_) (fun hc => ?_)
      · replace h := h.1 hc
        refine Ev_rn (q := (33, [(15, 80), (0, x1), (0, x2)], [(15, 80)], m2)) 1 rfl ?_
        obtain ⟨m3, hc, h⟩ := h
        refine Ev_call (rest := []) rfl rfl (Nat.le_of_ble_eq_true rfl) hc ?_
        refine Ev_rn (q := (35, [(15, 80), (0, x1), (0, x2)], [(0, 1)], m3)) 1 rfl ?_
        exact Ev_zret rfl rfl (by decide) h
      · replace h := h.2 hc
        refine Ev_rn (q := (31, [(15, 80), (0, x1), (0, x2)], [(0, m2 80 8), (0, w32 ((m2 82 0) - 1)), (292, 85)], m2)) 10 rfl ?_
        obtain ⟨hc, h⟩ := h
        refine Ev_iast (n := 24) rfl (by decide) (by decide) hc ?_
        generalize e4 : up m2 85 (w32 ((m2 82 0) - 1)) (m2 80 8) = m4
        replace h := h m4 e4.symm
        refine Ev_rn (q := (33, [(15, 80), (0, x1), (0, x2)], [(15, 80)], m4)) 1 rfl ?_
        obtain ⟨m5, hc, h⟩ := h
        refine Ev_call (rest := []) rfl rfl (Nat.le_of_ble_eq_true rfl) hc ?_
        refine Ev_rn (q := (35, [(15, 80), (0, x1), (0, x2)], [(0, 1)], m5)) 1 rfl ?_
        exact Ev_zret rfl rfl (by decide) h
    · replace h := h.2 hc
      refine Ev_rn (q := (16, [(15, 80), (0, x1), (0, x2)], [(0, 0)], m2)) 1 rfl ?_
      exact Ev_zret rfl rfl (by decide) h
  · replace h := h.2 hc
    refine Ev_rn (q := (6, [(15, 80), (0, x1), (0, x2)], [(0, 1), (15, 80)], m)) 2 rfl ?_
    obtain ⟨v6, m6, hc, h⟩ := h
    refine Ev_call (rest := []) rfl rfl (Nat.le_of_ble_eq_true rfl) hc ?_
    exact Ev_zret rfl rfl h.1 h.2
theorem b_Rd_isNumber {d : Nat} {r : Option Vv × Mm} {m : Mm} {x1 x2 : Int} (h : (m 80 6 = 2 → (m 80 8 < x1 → ∃ (v1 : Int) (m1 : Mm), Cl d k_Rd_refuse [(15, 80), (0, 2)] m (some (0, v1), m1) ∧ ((v1 = 0 → r = (some (0, 0), m1)) ∧ (¬ (v1 = 0) → r = (some (0, 1), m1)))) ∧ (¬ (m 80 8 < x1) → (m 80 8 ≤ x2 → r = (some (0, 1), m)) ∧ (¬ (m 80 8 ≤ x2) → ∃ (v2 : Int) (m2 : Mm), Cl d k_Rd_refuse [(15, 80), (0, 2)] m (some (0, v2), m2) ∧ ((v2 = 0 → r = (some (0, 0), m2)) ∧ (¬ (v2 = 0) → r = (some (0, 1), m2)))))) ∧ (¬ (m 80 6 = 2) → ∃ (v3 : Int) (m3 : Mm), Cl d k_Rd_refuse [(15, 80), (0, 1)] m (some (0, v3), m3) ∧ ((v3 = 0 ∨ v3 = 1) ∧ r = (some (0, v3), m3)))) : Ev (d + 1) K_Rd_isNumber 2 0 [(15, 80), (0, x1), (0, x2)] [] m r := by
  refine Ev_rn (q := (3, [(15, 80), (0, x1), (0, x2)], [(0, 2), (0, m 80 6)], m)) 3 rfl ?_
  refine Ev_icmp rfl (fun hc => ?_) (fun hc => ?_)
  · replace h := h.1 hc
    refine Ev_rn (q := (11, [(15, 80), (0, x1), (0, x2)], [(0, x1), (0, m 80 8)], m)) 3 rfl ?_
    refine Ev_icmp rfl (fun hc => ?_) (fun hc => ?_)
    · replace h := h.1 hc
      refine Ev_rn (q := (18, [(15, 80), (0, x1), (0, x2)], [(0, 2), (15, 80)], m)) 2 rfl ?_
      obtain ⟨v1, m1, hc, h⟩ := h
      refine Ev_call (rest := []) rfl rfl (Nat.le_of_ble_eq_true rfl) hc ?_
      refine Ev_if rfl (fun hc => ?_) (fun hc => ?_)
      · replace h := h.1 hc
        refine Ev_rn (q := (23, [(15, 80), (0, x1), (0, x2)], [(0, 0)], m1)) 1 rfl ?_
        exact Ev_zret rfl rfl (by decide) h
      · replace h := h.2 hc
        refine Ev_rn (q := (23, [(15, 80), (0, x1), (0, x2)], [(0, 1)], m1)) 2 rfl ?_
        exact Ev_zret rfl rfl (by decide) h
    · replace h := h.2 hc
      refine Ev_rn (q := (15, [(15, 80), (0, x1), (0, x2)], [(0, x2), (0, m 80 8)], m)) 3 rfl ?_
      refine Ev_icmp rfl (fun hc => ?_) (fun hc => ?_)
      · replace h := h.1 hc
        refine Ev_rn (q := (23, [(15, 80), (0, x1), (0, x2)], [(0, 1)], m)) 2 rfl ?_
        exact Ev_zret rfl rfl (by decide) h
      · replace h := h.2 hc
        refine Ev_rn (q := (18, [(15, 80), (0, x1), (0, x2)], [(0, 2), (15, 80)], m)) 2 rfl ?_
        obtain ⟨v2, m2, hc, h⟩ := h
        refine Ev_call (rest := []) rfl rfl (Nat.le_of_ble_eq_true rfl) hc ?_
        refine Ev_if rfl (fun hc => ?_) (fun hc => ?_)
        · replace h := h.1 hc
          refine Ev_rn (q := (23, [(15, 80), (0, x1), (0, x2)], [(0, 0)], m2)) 1 rfl ?_
          exact Ev_zret rfl rfl (by decide) h
        · replace h := h.2 hc
          refine Ev_rn (q := (23, [(15, 80), (0, x1), (0, x2)], [(0, 1)], m2)) 2 rfl ?_
          exact Ev_zret rfl rfl (by decide) h
  · replace h := h.2 hc
    refine Ev_rn (q := (6, [(15, 80), (0, x1), (0, x2)], [(0, 1), (15, 80)], m)) 2 rfl ?_
    obtain ⟨v3, m3, hc, h⟩ := h
    refine Ev_call (rest := []) rfl rfl (Nat.le_of_ble_eq_true rfl) hc ?_
    exact Ev_zret rfl rfl h.1 h.2
theorem b_Rd_sum {d : Nat} {r : Option Vv × Mm} {m : Mm} (h : ∃ (v1 : Int) (m1 : Mm), Cl d k_Rd_product [(15, 80)] m (some (0, v1), m1) ∧ ((¬ v1 = 0 → Ev (d + 1) K_Rd_sum 2 7 [(15, 80), (0, 0), (9, 0)] [] m1 r) ∧ (¬ (¬ v1 = 0) → r = (some (0, 0), m1)))) : Ev (d + 1) K_Rd_sum 2 0 [(15, 80), (9, 0), (9, 0)] [] m r := by
  refine Ev_rn (q := (1, [(15, 80), (9, 0), (9, 0)], [(15, 80)], m)) 1 rfl ?_
  obtain ⟨v1, m1, hc, h⟩ := h
  refine Ev_call (rest := []) rfl rfl (Nat.le_of_ble_eq_true rfl) hc ?_
  refine Ev_if rfl (fun hc => ?_) (fun hc => ?_)
  · replace h := h.1 hc
    refine Ev_rn (q := (7, [(15, 80), (0, 0), (9, 0)], [], m1)) 2 rfl ?_
    exact h
  · replace h := h.2 hc
    refine Ev_rn (q := (4, [(15, 80), (9, 0), (9, 0)], [(0, 0)], m1)) 1 rfl ?_
    exact Ev_zret rfl rfl (by decide) h
theorem b_Rd_sum_7 {d : Nat} {r : Option Vv × Mm} {m : Mm} {x1 : Int} {u2 : Vv} (h : (300 ≤ x1 → r = (some (0, 1), m)) ∧ (¬ (300 ≤ x1) → (m 80 6 = 7 → Ev (d + 1) K_Rd_sum 2 18 [(15, 80), (0, x1), u2] [] m r) ∧ (¬ (m 80 6 = 7) → (¬ m 80 6 = 8 → r = (some (0, 1), m)) ∧ (¬ (¬ m 80 6 = 8) → Ev (d + 1) K_Rd_sum 2 18 [(15, 80), (0, x1), u2] [] m r)))) : Ev (d + 1) K_Rd_sum 2 7 [(15, 80), (0, x1), u2] [] m r := by
  refine Ev_rn (q := (9, [(15, 80), (0, x1), u2], [(0, 300), (0, x1)], m)) 2 rfl ?_
  refine Ev_icmp rfl (fun hc => ?_) (fun hc => ?_)
  · replace h := h.1 hc
    refine Ev_rn (q := (37, [(15, 80), (0, x1), u2], [(0, 1)], m)) 1 rfl ?_
    exact Ev_zret rfl rfl (by decide) h
  · replace h := h.2 hc
    refine Ev_rn (q := (13, [(15, 80), (0, x1), u2], [(0, 7), (0, m 80 6)], m)) 3 rfl ?_
    refine Ev_icmp rfl (fun hc => ?_) (fun hc => ?_)
    · replace h := h.1 hc
      exact h
    · replace h := h.2 hc
      refine Ev_rn (q := (17, [(15, 80), (0, x1), u2], [(0, 8), (0, m 80 6)], m)) 3 rfl ?_
      refine Ev_icmp rfl (fun hc => ?_) (fun hc => ?_)
      · replace h := h.1 hc
        refine Ev_rn (q := (37, [(15, 80), (0, x1), u2], [(0, 1)], m)) 1 rfl ?_
        exact Ev_zret rfl rfl (by decide) h
      · replace h := h.2 hc
        exact h
theorem b_Rd_sum_18 {d : Nat} {r : Option Vv × Mm} {m : Mm} {x1 : Int} {u2 : Vv} (h : ∃ (m1 : Mm), Cl d k_Rd_advance [(15, 80)] m (none, m1) ∧ (∃ (v2 : Int) (m2 : Mm), Cl d k_Rd_product [(15, 80)] m1 (some (0, v2), m2) ∧ ((¬ v2 = 0 → ∃ (v3 : Int) (m3 : Mm), Cl d k_Tx_emit [(16, 82), (0, m 80 6), (0, 0)] m2 (some (0, v3), m3) ∧ (Ev (d + 1) K_Rd_sum 2 7 [(15, 80), (0, w32 (x1 + 1)), (0, m 80 6)] [] m3 r)) ∧ (¬ (¬ v2 = 0) → r = (some (0, 0), m2))))) : Ev (d + 1) K_Rd_sum 2 18 [(15, 80), (0, x1), u2] [] m r := by
  refine Ev_rn (q := (22, [(15, 80), (0, x1), (0, m 80 6)], [(15, 80)], m)) 4 rfl ?_
  obtain ⟨m1, hc, h⟩ := h
  refine Ev_call (rest := []) rfl rfl (Nat.le_of_ble_eq_true rfl) hc ?_
  refine Ev_rn (q := (24, [(15, 80), (0, x1), (0, m 80 6)], [(15, 80)], m1)) 1 rfl ?_
  obtain ⟨v2, m2, hc, h⟩ := h
  refine Ev_call (rest := []) rfl rfl (Nat.le_of_ble_eq_true rfl) hc ?_
  refine Ev_if rfl (fun hc => ?_) (fun hc => ?_)
  · replace h := h.1 hc
    refine Ev_rn (q := (32, [(15, 80), (0, x1), (0, m 80 6)], [(0, 0), (0, m 80 6), (16, 82)], m2)) 4 rfl ?_
    obtain ⟨v3, m3, hc, h⟩ := h
    refine Ev_call (rest := []) rfl rfl (Nat.le_of_ble_eq_true rfl) hc ?_
    refine Ev_rn (q := (7, [(15, 80), (0, w32 (x1 + 1)), (0, m 80 6)], [], m3)) 3 rfl ?_
    exact h
  · replace h := h.2 hc
    refine Ev_rn (q := (27, [(15, 80), (0, x1), (0, m 80 6)], [(0, 0)], m2)) 1 rfl ?_
    exact Ev_zret rfl rfl (by decide) h
theorem b_Rd_product {d : Nat} {r : Option Vv × Mm} {m : Mm} (h : ∃ (v1 : Int) (m1 : Mm), Cl d k_Rd_one [(15, 80)] m (some (0, v1), m1) ∧ ((¬ v1 = 0 → Ev (d + 1) K_Rd_product 2 7 [(15, 80), (0, 0), (9, 0)] [] m1 r) ∧ (¬ (¬ v1 = 0) → r = (some (0, 0), m1)))) : Ev (d + 1) K_Rd_product 2 0 [(15, 80), (9, 0), (9, 0)] [] m r := by
  refine Ev_rn (q := (1, [(15, 80), (9, 0), (9, 0)], [(15, 80)], m)) 1 rfl ?_
  obtain ⟨v1, m1, hc, h⟩ := h
  refine Ev_call (rest := []) rfl rfl (Nat.le_of_ble_eq_true rfl) hc ?_
  refine Ev_if rfl (fun hc => ?_) (fun hc => ?_)
  · replace h := h.1 hc
    refine Ev_rn (q := (7, [(15, 80), (0, 0), (9, 0)], [], m1)) 2 rfl ?_
    exact h
  · replace h := h.2 hc
    refine Ev_rn (q := (4, [(15, 80), (9, 0), (9, 0)], [(0, 0)], m1)) 1 rfl ?_
    exact Ev_zret rfl rfl (by decide) h
theorem b_Rd_product_7 {d : Nat} {r : Option Vv × Mm} {m : Mm} {x1 : Int} {u2 : Vv} (h : (300 ≤ x1 → r = (some (0, 1), m)) ∧ (¬ (300 ≤ x1) → (m 80 6 = 9 → Ev (d + 1) K_Rd_product 2 18 [(15, 80), (0, x1), u2] [] m r) ∧ (¬ (m 80 6 = 9) → (¬ m 80 6 = 10 → r = (some (0, 1), m)) ∧ (¬ (¬ m 80 6 = 10) → Ev (d + 1) K_Rd_product 2 18 [(15, 80), (0, x1), u2] [] m r)))) : Ev (d + 1) K_Rd_product 2 7 [(15, 80), (0, x1), u2] [] m r := by
  refine Ev_rn (q := (9, [(15, 80), (0, x1), u2], [(0, 300), (0, x1)], m)) 2 rfl ?_
  refine Ev_icmp rfl (fun hc => ?_) (fun hc => ?_)
  · replace h := h.1 hc
    refine Ev_rn (q := (37, [(15, 80), (0, x1), u2], [(0, 1)], m)) 1 rfl ?_
    exact Ev_zret rfl rfl (by decide) h
  · replace h := h.2 hc
    refine Ev_rn (q := (13, [(15, 80), (0, x1), u2], [(0, 9), (0, m 80 6)], m)) 3 rfl ?_
    refine Ev_icmp rfl (fun hc => ?_) (fun hc => ?_)
    · replace h := h.1 hc
      exact h
    · replace h := h.2 hc
      refine Ev_rn (q := (17, [(15, 80), (0, x1), u2], [(0, 10), (0, m 80 6)], m)) 3 rfl ?_
      refine Ev_icmp rfl (fun hc => ?_) (fun hc => ?_)
      · replace h := h.1 hc
        refine Ev_rn (q := (37, [(15, 80), (0, x1), u2], [(0, 1)], m)) 1 rfl ?_
        exact Ev_zret rfl rfl (by decide) h
      · replace h := h.2 hc
        exact h
theorem b_Rd_product_18 {d : Nat} {r : Option Vv × Mm} {m : Mm} {x1 : Int} {u2 : Vv} (h : ∃ (m1 : Mm), Cl d k_Rd_advance [(15, 80)] m (none, m1) ∧ (∃ (v2 : Int) (m2 : Mm), Cl d k_Rd_one [(15, 80)] m1 (some (0, v2), m2) ∧ ((¬ v2 = 0 → ∃ (v3 : Int) (m3 : Mm), Cl d k_Tx_emit [(16, 82), (0, m 80 6), (0, 0)] m2 (some (0, v3), m3) ∧ (Ev (d + 1) K_Rd_product 2 7 [(15, 80), (0, w32 (x1 + 1)), (0, m 80 6)] [] m3 r)) ∧ (¬ (¬ v2 = 0) → r = (some (0, 0), m2))))) : Ev (d + 1) K_Rd_product 2 18 [(15, 80), (0, x1), u2] [] m r := by
  refine Ev_rn (q := (22, [(15, 80), (0, x1), (0, m 80 6)], [(15, 80)], m)) 4 rfl ?_
  obtain ⟨m1, hc, h⟩ := h
  refine Ev_call (rest := []) rfl rfl (Nat.le_of_ble_eq_true rfl) hc ?_
  refine Ev_rn (q := (24, [(15, 80), (0, x1), (0, m 80 6)], [(15, 80)], m1)) 1 rfl ?_
  obtain ⟨v2, m2, hc, h⟩ := h
  refine Ev_call (rest := []) rfl rfl (Nat.le_of_ble_eq_true rfl) hc ?_
  refine Ev_if rfl (fun hc => ?_) (fun hc => ?_)
  · replace h := h.1 hc
    refine Ev_rn (q := (32, [(15, 80), (0, x1), (0, m 80 6)], [(0, 0), (0, m 80 6), (16, 82)], m2)) 4 rfl ?_
    obtain ⟨v3, m3, hc, h⟩ := h
    refine Ev_call (rest := []) rfl rfl (Nat.le_of_ble_eq_true rfl) hc ?_
    refine Ev_rn (q := (7, [(15, 80), (0, w32 (x1 + 1)), (0, m 80 6)], [], m3)) 3 rfl ?_
    exact h
  · replace h := h.2 hc
    refine Ev_rn (q := (27, [(15, 80), (0, x1), (0, m 80 6)], [(0, 0)], m2)) 1 rfl ?_
    exact Ev_zret rfl rfl (by decide) h
theorem b_Rd_one {d : Nat} {r : Option Vv × Mm} {m : Mm} (h : (¬ m 80 6 = 2 → (m 80 6 < 24 → Ev (d + 1) K_Rd_one 2 42 [(15, 80), (9, 0)] [] m r) ∧ (¬ (m 80 6 < 24) → (30 < m 80 6 → Ev (d + 1) K_Rd_one 2 42 [(15, 80), (9, 0)] [] m r) ∧ (¬ (30 < m 80 6) → ∃ (v1 : Int) (m1 : Mm), Cl d k_Rd_isNameHere [(15, 80)] m (some (0, v1), m1) ∧ ((v1 = 0 → r = (some (0, 0), m1)) ∧ (¬ (v1 = 0) → ∃ (v2 : Int) (m2 : Mm), Cl d k_Rd_emitAndAdvance [(15, 80), (0, 43), (0, w32 ((m1 80 6) - 24))] m1 (some (0, v2), m2) ∧ ((v2 = 0 → r = (some (0, 0), m2)) ∧ (¬ (v2 = 0) → r = (some (0, 1), m2)))))))) ∧ (¬ (¬ m 80 6 = 2) → ∃ (v3 : Int) (m3 : Mm), Cl d k_Rd_isNumber [(15, 80), (0, 0), (0, 9999)] m (some (0, v3), m3) ∧ ((v3 = 0 → r = (some (0, 0), m3)) ∧ (¬ (v3 = 0) → ∃ (v4 : Int) (m4 : Mm), Cl d k_Rd_emitAndAdvance [(15, 80), (0, 2), (0, m3 80 8)] m3 (some (0, v4), m4) ∧ ((v4 = 0 → r = (some (0, 0), m4)) ∧ (¬ (v4 = 0) → r = (some (0, 1), m4))))))) : Ev (d + 1) K_Rd_one 2 0 [(15, 80), (9, 0)] [] m r := by
  refine Ev_rn (q := (3, [(15, 80), (9, 0)], [(0, 2), (0, m 80 6)], m)) 3 rfl ?_
  refine Ev_icmp rfl (fun hc => ?_) (fun hc => ?_)
  · replace h := h.1 hc
    refine Ev_rn (q := (22, [(15, 80), (9, 0)], [(0, 24), (0, m 80 6)], m)) 3 rfl ?_
    refine Ev_icmp rfl (fun hc => ?_) (fun hc => ?_)
    · replace h := h.1 hc
      exact h
    · replace h := h.2 hc
      refine Ev_rn (q := (26, [(15, 80), (9, 0)], [(0, 30), (0, m 80 6)], m)) 3 rfl ?_
      refine Ev_icmp rfl (fun hc => ?_) (fun hc => ?_)
      · replace h := h.1 hc
        exact h
      · replace h := h.2 hc
        refine Ev_rn (q := (28, [(15, 80), (9, 0)], [(15, 80)], m)) 1 rfl ?_
        obtain ⟨v1, m1, hc, h⟩ := h
        refine Ev_call (rest := []) rfl rfl (Nat.le_of_ble_eq_true rfl) hc ?_
        refine Ev_if rfl (fun hc => ?_) (fun hc => ?_)
        · replace h := h.1 hc
          refine Ev_rn (q := (41, [(15, 80), (9, 0)], [(0, 0)], m1)) 1 rfl ?_
          exact Ev_zret rfl rfl (by decide) h
        · replace h := h.2 hc
          refine Ev_rn (q := (36, [(15, 80), (9, 0)], [(0, w32 ((m1 80 6) - 24)), (0, 43), (15, 80)], m1)) 6 rfl ?_
          obtain ⟨v2, m2, hc, h⟩ := h
          refine Ev_call (rest := []) rfl rfl (Nat.le_of_ble_eq_true rfl) hc ?_
          refine Ev_if rfl (fun hc => ?_) (fun hc => ?_)
          · replace h := h.1 hc
            refine Ev_rn (q := (41, [(15, 80), (9, 0)], [(0, 0)], m2)) 1 rfl ?_
            exact Ev_zret rfl rfl (by decide) h
          · replace h := h.2 hc
            refine Ev_rn (q := (41, [(15, 80), (9, 0)], [(0, 1)], m2)) 2 rfl ?_
            exact Ev_zret rfl rfl (by decide) h
  · replace h := h.2 hc
    refine Ev_rn (q := (7, [(15, 80), (9, 0)], [(0, 9999), (0, 0), (15, 80)], m)) 3 rfl ?_
    obtain ⟨v3, m3, hc, h⟩ := h
    refine Ev_call (rest := []) rfl rfl (Nat.le_of_ble_eq_true rfl) hc ?_
    refine Ev_if rfl (fun hc => ?_) (fun hc => ?_)
    · replace h := h.1 hc
      refine Ev_rn (q := (18, [(15, 80), (9, 0)], [(0, 0)], m3)) 1 rfl ?_
      exact Ev_zret rfl rfl (by decide) h
    · replace h := h.2 hc
      refine Ev_rn (q := (13, [(15, 80), (9, 0)], [(0, m3 80 8), (0, 2), (15, 80)], m3)) 4 rfl ?_
      obtain ⟨v4, m4, hc, h⟩ := h
      refine Ev_call (rest := []) rfl rfl (Nat.le_of_ble_eq_true rfl) hc ?_
      refine Ev_if rfl (fun hc => ?_) (fun hc => ?_)
      · replace h := h.1 hc
        refine Ev_rn (q := (18, [(15, 80), (9, 0)], [(0, 0)], m4)) 1 rfl ?_
        exact Ev_zret rfl rfl (by decide) h
      · replace h := h.2 hc
        refine Ev_rn (q := (18, [(15, 80), (9, 0)], [(0, 1)], m4)) 2 rfl ?_
        exact Ev_zret rfl rfl (by decide) h
theorem b_Rd_one_42 {d : Nat} {r : Option Vv × Mm} {m : Mm} {u1 : Vv} (h : (m 80 6 = 11 → ∃ (v1 : Int) (m1 : Mm), Cl d k_Rd_nested [(15, 80)] m (some (0, v1), m1) ∧ ((v1 = 0 ∨ v1 = 1) ∧ r = (some (0, v1), m1))) ∧ (¬ (m 80 6 = 11) → (m 80 6 = 8 → ∃ (v2 : Int) (m2 : Mm), Cl d k_Rd_nested [(15, 80)] m (some (0, v2), m2) ∧ ((v2 = 0 ∨ v2 = 1) ∧ r = (some (0, v2), m2))) ∧ (¬ (m 80 6 = 8) → (m 80 6 = 33 → ∃ (v3 : Int) (m3 : Mm), Cl d k_Rd_nested [(15, 80)] m (some (0, v3), m3) ∧ ((v3 = 0 ∨ v3 = 1) ∧ r = (some (0, v3), m3))) ∧ (¬ (m 80 6 = 33) → (m 80 6 = 35 → ∃ (v4 : Int) (m4 : Mm), Cl d k_Rd_nested [(15, 80)] m (some (0, v4), m4) ∧ ((v4 = 0 ∨ v4 = 1) ∧ r = (some (0, v4), m4))) ∧ (¬ (m 80 6 = 35) → (¬ m 80 6 = 36 → ∃ (v5 : Int) (m5 : Mm), Cl d k_Rd_refuse [(15, 80), (0, 1)] m (some (0, v5), m5) ∧ ((v5 = 0 ∨ v5 = 1) ∧ r = (some (0, v5), m5))) ∧ (¬ (¬ m 80 6 = 36) → ∃ (v6 : Int) (m6 : Mm), Cl d k_Rd_nested [(15, 80)] m (some (0, v6), m6) ∧ ((v6 = 0 ∨ v6 = 1) ∧ r = (some (0, v6), m6)))))))) : Ev (d + 1) K_Rd_one 2 42 [(15, 80), u1] [] m r := by
  refine Ev_rn (q := (45, [(15, 80), u1], [(0, 11), (0, m 80 6)], m)) 3 rfl ?_
  refine Ev_icmp rfl (fun hc => ?_) (fun hc => ?_)
  · replace h := h.1 hc
    refine Ev_rn (q := (67, [(15, 80), (0, 1)], [(0, 1)], m)) 4 rfl ?_
    refine Ev_if rfl (fun hc => absurd hc (by simp [cmpP])) (fun _ => ?_)
    refine Ev_rn (q := (69, [(15, 80), (0, 1)], [(15, 80)], m)) 1 rfl ?_
    obtain ⟨v1, m1, hc, h⟩ := h
    refine Ev_call (rest := []) rfl rfl (Nat.le_of_ble_eq_true rfl) hc ?_
    refine Ev_rn (q := (74, [(15, 80), (0, 1)], [(0, v1)], m1)) 1 rfl ?_
    exact Ev_zret rfl rfl h.1 h.2
  · replace h := h.2 hc
    refine Ev_rn (q := (49, [(15, 80), u1], [(0, 8), (0, m 80 6)], m)) 3 rfl ?_
    refine Ev_icmp rfl (fun hc => ?_) (fun hc => ?_)
    · replace h := h.1 hc
      refine Ev_rn (q := (67, [(15, 80), (0, 1)], [(0, 1)], m)) 4 rfl ?_
      refine Ev_if rfl (fun hc => absurd hc (by simp [cmpP])) (fun _ => ?_)
      refine Ev_rn (q := (69, [(15, 80), (0, 1)], [(15, 80)], m)) 1 rfl ?_
      obtain ⟨v2, m2, hc, h⟩ := h
      refine Ev_call (rest := []) rfl rfl (Nat.le_of_ble_eq_true rfl) hc ?_
      refine Ev_rn (q := (74, [(15, 80), (0, 1)], [(0, v2)], m2)) 1 rfl ?_
      exact Ev_zret rfl rfl h.1 h.2
    · replace h := h.2 hc
      refine Ev_rn (q := (53, [(15, 80), u1], [(0, 33), (0, m 80 6)], m)) 3 rfl ?_
      refine Ev_icmp rfl (fun hc => ?_) (fun hc => ?_)
      · replace h := h.1 hc
        refine Ev_rn (q := (67, [(15, 80), (0, 1)], [(0, 1)], m)) 4 rfl ?_
        refine Ev_if rfl (fun hc => absurd hc (by simp [cmpP])) (fun _ => ?_)
        refine Ev_rn (q := (69, [(15, 80), (0, 1)], [(15, 80)], m)) 1 rfl ?_
        obtain ⟨v3, m3, hc, h⟩ := h
        refine Ev_call (rest := []) rfl rfl (Nat.le_of_ble_eq_true rfl) hc ?_
        refine Ev_rn (q := (74, [(15, 80), (0, 1)], [(0, v3)], m3)) 1 rfl ?_
        exact Ev_zret rfl rfl h.1 h.2
      · replace h := h.2 hc
        refine Ev_rn (q := (57, [(15, 80), u1], [(0, 35), (0, m 80 6)], m)) 3 rfl ?_
        refine Ev_icmp rfl (fun hc => ?_) (fun hc => ?_)
        · replace h := h.1 hc
          refine Ev_rn (q := (67, [(15, 80), (0, 1)], [(0, 1)], m)) 4 rfl ?_
          refine Ev_if rfl (fun hc => absurd hc (by simp [cmpP])) (fun _ => ?_)
          refine Ev_rn (q := (69, [(15, 80), (0, 1)], [(15, 80)], m)) 1 rfl ?_
          obtain ⟨v4, m4, hc, h⟩ := h
          refine Ev_call (rest := []) rfl rfl (Nat.le_of_ble_eq_true rfl) hc ?_
          refine Ev_rn (q := (74, [(15, 80), (0, 1)], [(0, v4)], m4)) 1 rfl ?_
          exact Ev_zret rfl rfl h.1 h.2
        · replace h := h.2 hc
          refine Ev_rn (q := (61, [(15, 80), u1], [(0, 36), (0, m 80 6)], m)) 3 rfl ?_
          refine Ev_icmp rfl (fun hc => ?_) (fun hc => ?_)
          · replace h := h.1 hc
            refine Ev_rn (q := (67, [(15, 80), (0, 0)], [(0, 0)], m)) 3 rfl ?_
            refine Ev_if rfl (fun _ => ?_) (fun hc => absurd (by simp [cmpP]) hc)
            refine Ev_rn (q := (73, [(15, 80), (0, 0)], [(0, 1), (15, 80)], m)) 2 rfl ?_
            obtain ⟨v5, m5, hc, h⟩ := h
            refine Ev_call (rest := []) rfl rfl (Nat.le_of_ble_eq_true rfl) hc ?_
            exact Ev_zret rfl rfl h.1 h.2
          · replace h := h.2 hc
            refine Ev_rn (q := (67, [(15, 80), (0, 1)], [(0, 1)], m)) 4 rfl ?_
            refine Ev_if rfl (fun hc => absurd hc (by simp [cmpP])) (fun _ => ?_)
            refine Ev_rn (q := (69, [(15, 80), (0, 1)], [(15, 80)], m)) 1 rfl ?_
            obtain ⟨v6, m6, hc, h⟩ := h
            refine Ev_call (rest := []) rfl rfl (Nat.le_of_ble_eq_true rfl) hc ?_
            refine Ev_rn (q := (74, [(15, 80), (0, 1)], [(0, v6)], m6)) 1 rfl ?_
            exact Ev_zret rfl rfl h.1 h.2
theorem b_Rd_emitAndAdvance {d : Nat} {r : Option Vv × Mm} {m : Mm} {x1 x2 : Int} (h : ∃ (v1 : Int) (m1 : Mm), Cl d k_Tx_emit [(16, 82), (0, x1), (0, x2)] m (some (0, v1), m1) ∧ (∃ (m2 : Mm), Cl d k_Rd_advance [(15, 80)] m1 (none, m2) ∧ (r = (some (0, 1), m2)))) : Ev (d + 1) K_Rd_emitAndAdvance 2 0 [(15, 80), (0, x1), (0, x2)] [] m r := by
  refine Ev_rn (q := (4, [(15, 80), (0, x1), (0, x2)], [(0, x2), (0, x1), (16, 82)], m)) 4 rfl ?_
  obtain ⟨v1, m1, hc, h⟩ := h
  refine Ev_call (rest := []) rfl rfl (Nat.le_of_ble_eq_true rfl) hc ?_
  refine Ev_rn (q := (7, [(15, 80), (0, x1), (0, x2)], [(15, 80)], m1)) 2 rfl ?_
  obtain ⟨m2, hc, h⟩ := h
  refine Ev_call (rest := []) rfl rfl (Nat.le_of_ble_eq_true rfl) hc ?_
  refine Ev_rn (q := (9, [(15, 80), (0, x1), (0, x2)], [(0, 1)], m2)) 1 rfl ?_
  exact Ev_zret rfl rfl (by decide) h
theorem b_Rd_isNameHere {d : Nat} {r : Option Vv × Mm} {m : Mm} (h : (¬ m 80 10 = 16 → (¬ m 80 6 = 28 → r = (some (0, 1), m)) ∧ (¬ (¬ m 80 6 = 28) → ∃ (v1 : Int) (m1 : Mm), Cl d k_Rd_refuse [(15, 80), (0, 5)] m (some (0, v1), m1) ∧ ((v1 = 0 → r = (some (0, 0), m1)) ∧ (¬ (v1 = 0) → r = (some (0, 1), m1))))) ∧ (¬ (¬ m 80 10 = 16) → (m 80 6 = 29 → Ev (d + 1) K_Rd_isNameHere 2 12 [(15, 80), (9, 0)] [] m r) ∧ (¬ (m 80 6 = 29) → (¬ m 80 6 = 30 → r = (some (0, 1), m)) ∧ (¬ (¬ m 80 6 = 30) → Ev (d + 1) K_Rd_isNameHere 2 12 [(15, 80), (9, 0)] [] m r)))) : Ev (d + 1) K_Rd_isNameHere 2 0 [(15, 80), (9, 0)] [] m r := by
  refine Ev_rn (q := (3, [(15, 80), (9, 0)], [(0, 16), (0, m 80 10)], m)) 3 rfl ?_
  refine Ev_icmp rfl (fun hc => ?_) (fun hc => ?_)
  · replace h := h.1 hc
    refine Ev_rn (q := (19, [(15, 80), (9, 0)], [(0, 28), (0, m 80 6)], m)) 3 rfl ?_
    refine Ev_icmp rfl (fun hc => ?_) (fun hc => ?_)
    · replace h := h.1 hc
      refine Ev_rn (q := (25, [(15, 80), (0, 0)], [(0, 0)], m)) 3 rfl ?_
      refine Ev_if rfl (fun _ => ?_) (fun hc => absurd (by simp [cmpP]) hc)
      refine Ev_rn (q := (33, [(15, 80), (0, 0)], [(0, 1)], m)) 2 rfl ?_
      exact Ev_zret rfl rfl (by decide) h
    · replace h := h.2 hc
      refine Ev_rn (q := (25, [(15, 80), (0, 1)], [(0, 1)], m)) 4 rfl ?_
      refine Ev_if rfl (fun hc => absurd hc (by simp [cmpP])) (fun _ => ?_)
      refine Ev_rn (q := (28, [(15, 80), (0, 1)], [(0, 5), (15, 80)], m)) 2 rfl ?_
      obtain ⟨v1, m1, hc, h⟩ := h
      refine Ev_call (rest := []) rfl rfl (Nat.le_of_ble_eq_true rfl) hc ?_
      refine Ev_if rfl (fun hc => ?_) (fun hc => ?_)
      · replace h := h.1 hc
        refine Ev_rn (q := (33, [(15, 80), (0, 1)], [(0, 0)], m1)) 1 rfl ?_
        exact Ev_zret rfl rfl (by decide) h
      · replace h := h.2 hc
        refine Ev_rn (q := (33, [(15, 80), (0, 1)], [(0, 1)], m1)) 2 rfl ?_
        exact Ev_zret rfl rfl (by decide) h
  · replace h := h.2 hc
    refine Ev_rn (q := (7, [(15, 80), (9, 0)], [(0, 29), (0, m 80 6)], m)) 3 rfl ?_
    refine Ev_icmp rfl (fun hc => ?_) (fun hc => ?_)
    · replace h := h.1 hc
      exact h
    · replace h := h.2 hc
      refine Ev_rn (q := (11, [(15, 80), (9, 0)], [(0, 30), (0, m 80 6)], m)) 3 rfl ?_
      refine Ev_icmp rfl (fun hc => ?_) (fun hc => ?_)
      · replace h := h.1 hc
        refine Ev_rn (q := (25, [(15, 80), (0, 0)], [(0, 0)], m)) 4 rfl ?_
        refine Ev_if rfl (fun _ => ?_) (fun hc => absurd (by simp [cmpP]) hc)
        refine Ev_rn (q := (33, [(15, 80), (0, 0)], [(0, 1)], m)) 2 rfl ?_
        exact Ev_zret rfl rfl (by decide) h
      · replace h := h.2 hc
        exact h
theorem b_Rd_isNameHere_12 {d : Nat} {r : Option Vv × Mm} {m : Mm} {u1 : Vv} (h : ∃ (v1 : Int) (m1 : Mm), Cl d k_Rd_refuse [(15, 80), (0, 5)] m (some (0, v1), m1) ∧ ((v1 = 0 → r = (some (0, 0), m1)) ∧ (¬ (v1 = 0) → r = (some (0, 1), m1)))) : Ev (d + 1) K_Rd_isNameHere 2 12 [(15, 80), u1] [] m r := by
  refine Ev_rn (q := (25, [(15, 80), (0, 1)], [(0, 1)], m)) 4 rfl ?_
  refine Ev_if rfl (fun hc => absurd hc (by simp [cmpP])) (fun _ => ?_)
  refine Ev_rn (q := (28, [(15, 80), (0, 1)], [(0, 5), (15, 80)], m)) 2 rfl ?_
  obtain ⟨v1, m1, hc, h⟩ := h
  refine Ev_call (rest := []) rfl rfl (Nat.le_of_ble_eq_true rfl) hc ?_
  refine Ev_if rfl (fun hc => ?_) (fun hc => ?_)
  · replace h := h.1 hc
    refine Ev_rn (q := (33, [(15, 80), (0, 1)], [(0, 0)], m1)) 1 rfl ?_
    exact Ev_zret rfl rfl (by decide) h
  · replace h := h.2 hc
    refine Ev_rn (q := (33, [(15, 80), (0, 1)], [(0, 1)], m1)) 2 rfl ?_
    exact Ev_zret rfl rfl (by decide) h
theorem b_Rd_nested {d : Nat} {r : Option Vv × Mm} {m : Mm} (h : (m 80 11 < 8 → ∀ m1 : Mm, m1 = up m 80 11 (w32 ((m 80 11) + 1)) → (∃ (m2 : Mm), Cl d k_Rd_advance [(15, 80)] m1 (none, m2) ∧ (∃ (v3 : Int) (m3 : Mm), Cl d k_Rd_inside [(15, 80), (0, m 80 6)] m2 (some (0, v3), m3) ∧ (∀ m4 : Mm, m4 = up m3 80 11 (w32 ((m3 80 11) - 1)) → ((v3 = 0 ∨ v3 = 1) ∧ r = (some (0, v3), m4)))))) ∧ (¬ (m 80 11 < 8) → ∃ (v5 : Int) (m5 : Mm), Cl d k_Rd_refuse [(15, 80), (0, 3)] m (some (0, v5), m5) ∧ ((v5 = 0 ∨ v5 = 1) ∧ r = (some (0, v5), m5)))) : Ev (d + 1) K_Rd_nested 2 0 [(15, 80), (9, 0), (9, 0)] [] m r := by
  refine Ev_rn (q := (3, [(15, 80), (9, 0), (9, 0)], [(0, 8), (0, m 80 11)], m)) 3 rfl ?_
  refine Ev_icmp rfl (fun hc => ?_) (fun hc => ?_)
  · replace h := h.1 hc
    refine Ev_rn (q := (17, [(15, 80), (0, m 80 6), (9, 0)], [], up m 80 11 (w32 ((m 80 11) + 1)))) 9 rfl ?_
    generalize e1 : up m 80 11 (w32 ((m 80 11) + 1)) = m1
    replace h := h m1 e1.symm
    refine Ev_rn (q := (18, [(15, 80), (0, m 80 6), (9, 0)], [(15, 80)], m1)) 1 rfl ?_
    obtain ⟨m2, hc, h⟩ := h
    refine Ev_call (rest := []) rfl rfl (Nat.le_of_ble_eq_true rfl) hc ?_
    refine Ev_rn (q := (21, [(15, 80), (0, m 80 6), (9, 0)], [(0, m 80 6), (15, 80)], m2)) 2 rfl ?_
    obtain ⟨v3, m3, hc, h⟩ := h
    refine Ev_call (rest := []) rfl rfl (Nat.le_of_ble_eq_true rfl) hc ?_
    refine Ev_rn (q := (29, [(15, 80), (0, m 80 6), (0, v3)], [], up m3 80 11 (w32 ((m3 80 11) - 1)))) 7 rfl ?_
    generalize e4 : up m3 80 11 (w32 ((m3 80 11) - 1)) = m4
    replace h := h m4 e4.symm
    refine Ev_rn (q := (30, [(15, 80), (0, m 80 6), (0, v3)], [(0, v3)], m4)) 1 rfl ?_
    exact Ev_zret rfl rfl h.1 h.2
  · replace h := h.2 hc
    refine Ev_rn (q := (6, [(15, 80), (9, 0), (9, 0)], [(0, 3), (15, 80)], m)) 2 rfl ?_
    obtain ⟨v5, m5, hc, h⟩ := h
    refine Ev_call (rest := []) rfl rfl (Nat.le_of_ble_eq_true rfl) hc ?_
    exact Ev_zret rfl rfl h.1 h.2
theorem b_Rd_inside {d : Nat} {r : Option Vv × Mm} {m : Mm} {x1 : Int} (h : (x1 = 8 → ∃ (v1 : Int) (m1 : Mm), Cl d k_Rd_one [(15, 80)] m (some (0, v1), m1) ∧ ((v1 = 0 → r = (some (0, 0), m1)) ∧ (¬ (v1 = 0) → ∃ (v2 : Int) (m2 : Mm), Cl d k_Tx_emit [(16, 82), (0, 44), (0, 0)] m1 (some (0, v2), m2) ∧ ((v2 = 0 → r = (some (0, 0), m2)) ∧ (¬ (v2 = 0) → r = (some (0, 1), m2)))))) ∧ (¬ x1 = 8 → (x1 = 11 → ∃ (v3 : Int) (m3 : Mm), Cl d k_Rd_sum [(15, 80)] m (some (0, v3), m3) ∧ ((v3 = 0 → r = (some (0, 0), m3)) ∧ (¬ (v3 = 0) → ∃ (v4 : Int) (m4 : Mm), Cl d k_Rd_take [(15, 80), (0, 12)] m3 (some (0, v4), m4) ∧ ((v4 = 0 → r = (some (0, 0), m4)) ∧ (¬ (v4 = 0) → r = (some (0, 1), m4)))))) ∧ (¬ x1 = 11 → (x1 = 33 → ∃ (v5 : Int) (m5 : Mm), Cl d k_Rd_one [(15, 80)] m (some (0, v5), m5) ∧ ((v5 = 0 → r = (some (0, 0), m5)) ∧ (¬ (v5 = 0) → ∃ (v6 : Int) (m6 : Mm), Cl d k_Rd_take [(15, 80), (0, 34)] m5 (some (0, v6), m6) ∧ ((v6 = 0 → r = (some (0, 0), m6)) ∧ (¬ (v6 = 0) → ∃ (v7 : Int) (m7 : Mm), Cl d k_Rd_one [(15, 80)] m6 (some (0, v7), m7) ∧ ((v7 = 0 → r = (some (0, 0), m7)) ∧ (¬ (v7 = 0) → ∃ (v8 : Int) (m8 : Mm), Cl d k_Tx_emit [(16, 82), (0, 33), (0, 0)] m7 (some (0, v8), m8) ∧ ((v8 = 0 → r = (some (0, 0), m8)) ∧ (¬ (v8 = 0) → r = (some (0, 1), m8)))))))))) ∧ (¬ x1 = 33 → (x1 = 35 → ∃ (v9 : Int) (m9 : Mm), Cl d k_Rd_one [(15, 80)] m (some (0, v9), m9) ∧ ((v9 = 0 → r = (some (0, 0), m9)) ∧ (¬ (v9 = 0) → ∃ (v10 : Int) (m10 : Mm), Cl d k_Tx_emit [(16, 82), (0, 35), (0, 0)] m9 (some (0, v10), m10) ∧ ((v10 = 0 → r = (some (0, 0), m10)) ∧ (¬ (v10 = 0) → r = (some (0, 1), m10)))))) ∧ (¬ x1 = 35 → (x1 = 42 → ∃ (v11 : Int) (m11 : Mm), Cl d k_Rd_ask [(15, 80)] m (some (0, v11), m11) ∧ ((v11 = 0 → r = (some (0, 0), m11)) ∧ (¬ (v11 = 0) → ∃ (v12 : Int) (m12 : Mm), Cl d k_Tx_emit [(16, 82), (0, 42), (0, 0)] m11 (some (0, v12), m12) ∧ ((v12 = 0 → r = (some (0, 0), m12)) ∧ (¬ (v12 = 0) → r = (some (0, 1), m12)))))) ∧ (¬ x1 = 42 → ∃ (v13 : Int) (m13 : Mm), Cl d k_Rd_choice [(15, 80)] m (some (0, v13), m13) ∧ ((v13 = 0 ∨ v13 = 1) ∧ r = (some (0, v13), m13)))))))) : Ev (d + 1) K_Rd_inside 2 0 [(15, 80), (0, x1)] [] m r := by
  refine Ev_rn (q := (1, [(15, 80), (0, x1)], [(0, x1)], m)) 1 rfl ?_
  refine Ev_lsw rfl ?_
  refine ⟨fun hc => ?_, fun hc => ?_⟩
  · replace h := h.1 hc
    refine Ev_rn (q := (14, [(15, 80), (0, x1)], [(15, 80)], m)) 1 rfl ?_
    obtain ⟨v1, m1, hc, h⟩ := h
    refine Ev_call (rest := []) rfl rfl (Nat.le_of_ble_eq_true rfl) hc ?_
    refine Ev_if rfl (fun hc => ?_) (fun hc => ?_)
    · replace h := h.1 hc
      refine Ev_rn (q := (25, [(15, 80), (0, x1)], [(0, 0)], m1)) 1 rfl ?_
      exact Ev_zret rfl rfl (by decide) h
    · replace h := h.2 hc
      refine Ev_rn (q := (20, [(15, 80), (0, x1)], [(0, 0), (0, 44), (16, 82)], m1)) 4 rfl ?_
      obtain ⟨v2, m2, hc, h⟩ := h
      refine Ev_call (rest := []) rfl rfl (Nat.le_of_ble_eq_true rfl) hc ?_
      refine Ev_if rfl (fun hc => ?_) (fun hc => ?_)
      · replace h := h.1 hc
        refine Ev_rn (q := (25, [(15, 80), (0, x1)], [(0, 0)], m2)) 1 rfl ?_
        exact Ev_zret rfl rfl (by decide) h
      · replace h := h.2 hc
        refine Ev_rn (q := (25, [(15, 80), (0, x1)], [(0, 1)], m2)) 2 rfl ?_
        exact Ev_zret rfl rfl (by decide) h
  · replace h := h.2 hc
    refine ⟨fun hc => ?_, fun hc => ?_⟩
    · replace h := h.1 hc
      refine Ev_rn (q := (3, [(15, 80), (0, x1)], [(15, 80)], m)) 1 rfl ?_
      obtain ⟨v3, m3, hc, h⟩ := h
      refine Ev_call (rest := []) rfl rfl (Nat.le_of_ble_eq_true rfl) hc ?_
      refine Ev_if rfl (fun hc => ?_) (fun hc => ?_)
      · replace h := h.1 hc
        refine Ev_rn (q := (12, [(15, 80), (0, x1)], [(0, 0)], m3)) 1 rfl ?_
        exact Ev_zret rfl rfl (by decide) h
      · replace h := h.2 hc
        refine Ev_rn (q := (7, [(15, 80), (0, x1)], [(0, 12), (15, 80)], m3)) 2 rfl ?_
        obtain ⟨v4, m4, hc, h⟩ := h
        refine Ev_call (rest := []) rfl rfl (Nat.le_of_ble_eq_true rfl) hc ?_
        refine Ev_if rfl (fun hc => ?_) (fun hc => ?_)
        · replace h := h.1 hc
          refine Ev_rn (q := (12, [(15, 80), (0, x1)], [(0, 0)], m4)) 1 rfl ?_
          exact Ev_zret rfl rfl (by decide) h
        · replace h := h.2 hc
          refine Ev_rn (q := (12, [(15, 80), (0, x1)], [(0, 1)], m4)) 2 rfl ?_
          exact Ev_zret rfl rfl (by decide) h
    · replace h := h.2 hc
      refine ⟨fun hc => ?_, fun hc => ?_⟩
      · replace h := h.1 hc
        refine Ev_rn (q := (27, [(15, 80), (0, x1)], [(15, 80)], m)) 1 rfl ?_
        obtain ⟨v5, m5, hc, h⟩ := h
        refine Ev_call (rest := []) rfl rfl (Nat.le_of_ble_eq_true rfl) hc ?_
        refine Ev_if rfl (fun hc => ?_) (fun hc => ?_)
        · replace h := h.1 hc
          refine Ev_rn (q := (45, [(15, 80), (0, x1)], [(0, 0)], m5)) 1 rfl ?_
          exact Ev_zret rfl rfl (by decide) h
        · replace h := h.2 hc
          refine Ev_rn (q := (31, [(15, 80), (0, x1)], [(0, 34), (15, 80)], m5)) 2 rfl ?_
          obtain ⟨v6, m6, hc, h⟩ := h
          refine Ev_call (rest := []) rfl rfl (Nat.le_of_ble_eq_true rfl) hc ?_
          refine Ev_if rfl (fun hc => ?_) (fun hc => ?_)
          · replace h := h.1 hc
            refine Ev_rn (q := (45, [(15, 80), (0, x1)], [(0, 0)], m6)) 1 rfl ?_
            exact Ev_zret rfl rfl (by decide) h
          · replace h := h.2 hc
            refine Ev_rn (q := (34, [(15, 80), (0, x1)], [(15, 80)], m6)) 1 rfl ?_
            obtain ⟨v7, m7, hc, h⟩ := h
            refine Ev_call (rest := []) rfl rfl (Nat.le_of_ble_eq_true rfl) hc ?_
            refine Ev_if rfl (fun hc => ?_) (fun hc => ?_)
            · replace h := h.1 hc
              refine Ev_rn (q := (45, [(15, 80), (0, x1)], [(0, 0)], m7)) 1 rfl ?_
              exact Ev_zret rfl rfl (by decide) h
            · replace h := h.2 hc
              refine Ev_rn (q := (40, [(15, 80), (0, x1)], [(0, 0), (0, 33), (16, 82)], m7)) 4 rfl ?_
              obtain ⟨v8, m8, hc, h⟩ := h
              refine Ev_call (rest := []) rfl rfl (Nat.le_of_ble_eq_true rfl) hc ?_
              refine Ev_if rfl (fun hc => ?_) (fun hc => ?_)
              · replace h := h.1 hc
                refine Ev_rn (q := (45, [(15, 80), (0, x1)], [(0, 0)], m8)) 1 rfl ?_
                exact Ev_zret rfl rfl (by decide) h
              · replace h := h.2 hc
                refine Ev_rn (q := (45, [(15, 80), (0, x1)], [(0, 1)], m8)) 2 rfl ?_
                exact Ev_zret rfl rfl (by decide) h
      · replace h := h.2 hc
        refine ⟨fun hc => ?_, fun hc => ?_⟩
        · replace h := h.1 hc
          refine Ev_rn (q := (47, [(15, 80), (0, x1)], [(15, 80)], m)) 1 rfl ?_
          obtain ⟨v9, m9, hc, h⟩ := h
          refine Ev_call (rest := []) rfl rfl (Nat.le_of_ble_eq_true rfl) hc ?_
          refine Ev_if rfl (fun hc => ?_) (fun hc => ?_)
          · replace h := h.1 hc
            refine Ev_rn (q := (58, [(15, 80), (0, x1)], [(0, 0)], m9)) 1 rfl ?_
            exact Ev_zret rfl rfl (by decide) h
          · replace h := h.2 hc
            refine Ev_rn (q := (53, [(15, 80), (0, x1)], [(0, 0), (0, 35), (16, 82)], m9)) 4 rfl ?_
            obtain ⟨v10, m10, hc, h⟩ := h
            refine Ev_call (rest := []) rfl rfl (Nat.le_of_ble_eq_true rfl) hc ?_
            refine Ev_if rfl (fun hc => ?_) (fun hc => ?_)
            · replace h := h.1 hc
              refine Ev_rn (q := (58, [(15, 80), (0, x1)], [(0, 0)], m10)) 1 rfl ?_
              exact Ev_zret rfl rfl (by decide) h
            · replace h := h.2 hc
              refine Ev_rn (q := (58, [(15, 80), (0, x1)], [(0, 1)], m10)) 2 rfl ?_
              exact Ev_zret rfl rfl (by decide) h
        · replace h := h.2 hc
          refine ⟨fun hc => ?_, fun hc => ?_⟩
          · replace h := h.1 hc
            refine Ev_rn (q := (60, [(15, 80), (0, x1)], [(15, 80)], m)) 1 rfl ?_
            obtain ⟨v11, m11, hc, h⟩ := h
            refine Ev_call (rest := []) rfl rfl (Nat.le_of_ble_eq_true rfl) hc ?_
            refine Ev_if rfl (fun hc => ?_) (fun hc => ?_)
            · replace h := h.1 hc
              refine Ev_rn (q := (71, [(15, 80), (0, x1)], [(0, 0)], m11)) 1 rfl ?_
              exact Ev_zret rfl rfl (by decide) h
            · replace h := h.2 hc
              refine Ev_rn (q := (66, [(15, 80), (0, x1)], [(0, 0), (0, 42), (16, 82)], m11)) 4 rfl ?_
              obtain ⟨v12, m12, hc, h⟩ := h
              refine Ev_call (rest := []) rfl rfl (Nat.le_of_ble_eq_true rfl) hc ?_
              refine Ev_if rfl (fun hc => ?_) (fun hc => ?_)
              · replace h := h.1 hc
                refine Ev_rn (q := (71, [(15, 80), (0, x1)], [(0, 0)], m12)) 1 rfl ?_
                exact Ev_zret rfl rfl (by decide) h
              · replace h := h.2 hc
                refine Ev_rn (q := (71, [(15, 80), (0, x1)], [(0, 1)], m12)) 2 rfl ?_
                exact Ev_zret rfl rfl (by decide) h
          · replace h := h.2 hc
            refine Ev_rn (q := (73, [(15, 80), (0, x1)], [(15, 80)], m)) 1 rfl ?_
            obtain ⟨v13, m13, hc, h⟩ := h
            refine Ev_call (rest := []) rfl rfl (Nat.le_of_ble_eq_true rfl) hc ?_
            exact Ev_zret rfl rfl h.1 h.2
theorem b_Rd_choice {d : Nat} {r : Option Vv × Mm} {m : Mm} (h : ∃ (v1 : Int) (m1 : Mm), Cl d k_Rd_either [(15, 80)] m (some (0, v1), m1) ∧ ((v1 = 0 → r = (some (0, 0), m1)) ∧ (¬ (v1 = 0) → ∃ (v2 : Int) (m2 : Mm), Cl d k_Rd_take [(15, 80), (0, 37)] m1 (some (0, v2), m2) ∧ ((¬ v2 = 0 → ∃ (v3 : Int) (m3 : Mm), Cl d k_Tx_emit [(16, 82), (0, 45), (0, 0)] m2 (some (0, v3), m3) ∧ (∃ (v4 : Int) (m4 : Mm), Cl d k_Rd_sum [(15, 80)] m3 (some (0, v4), m4) ∧ ((v4 = 0 → r = (some (0, 0), m4)) ∧ (¬ (v4 = 0) → ∃ (v5 : Int) (m5 : Mm), Cl d k_Rd_take [(15, 80), (0, 38)] m4 (some (0, v5), m5) ∧ ((¬ v5 = 0 → ∃ (v6 : Int) (m6 : Mm), Cl d k_Tx_emit [(16, 82), (0, 46), (0, 0)] m5 (some (0, v6), m6) ∧ (∃ (m7 : Mm), Cl d k_Tx_landHere [(16, 82), (0, m2 82 5)] m6 (none, m7) ∧ (∃ (v8 : Int) (m8 : Mm), Cl d k_Rd_sum [(15, 80)] m7 (some (0, v8), m8) ∧ ((v8 = 0 → ∃ (m9 : Mm), Cl d k_Tx_landHere [(16, 82), (0, m5 82 5)] m8 (none, m9) ∧ (r = (some (0, 0), m9))) ∧ (¬ (v8 = 0) → ∃ (v10 : Int) (m10 : Mm), Cl d k_Rd_take [(15, 80), (0, 39)] m8 (some (0, v10), m10) ∧ ((v10 = 0 → ∃ (m11 : Mm), Cl d k_Tx_landHere [(16, 82), (0, m5 82 5)] m10 (none, m11) ∧ (r = (some (0, 0), m11))) ∧ (¬ (v10 = 0) → ∃ (m12 : Mm), Cl d k_Tx_landHere [(16, 82), (0, m5 82 5)] m10 (none, m12) ∧ (r = (some (0, 1), m12))))))))) ∧ (¬ (¬ v5 = 0) → r = (some (0, 0), m5))))))) ∧ (¬ (¬ v2 = 0) → r = (some (0, 0), m2)))))) : Ev (d + 1) K_Rd_choice 2 0 [(15, 80), (9, 0), (9, 0), (9, 0)] [] m r := by
  refine Ev_rn (q := (1, [(15, 80), (9, 0), (9, 0), (9, 0)], [(15, 80)], m)) 1 rfl ?_
  obtain ⟨v1, m1, hc, h⟩ := h
  refine Ev_call (rest := []) rfl rfl (Nat.le_of_ble_eq_true rfl) hc ?_
  refine Ev_if rfl (fun hc => ?_) (fun hc => ?_)
  · replace h := h.1 hc
    refine Ev_rn (q := (8, [(15, 80), (9, 0), (9, 0), (9, 0)], [(0, 0)], m1)) 1 rfl ?_
    exact Ev_zret rfl rfl (by decide) h
  · replace h := h.2 hc
    refine Ev_rn (q := (5, [(15, 80), (9, 0), (9, 0), (9, 0)], [(0, 37), (15, 80)], m1)) 2 rfl ?_
    obtain ⟨v2, m2, hc, h⟩ := h
    refine Ev_call (rest := []) rfl rfl (Nat.le_of_ble_eq_true rfl) hc ?_
    refine Ev_if rfl (fun hc => ?_) (fun hc => ?_)
    · replace h := h.1 hc
      refine Ev_rn (q := (17, [(15, 80), (0, m2 82 5), (9, 0), (9, 0)], [(0, 0), (0, 45), (16, 82)], m2)) 8 rfl ?_
      obtain ⟨v3, m3, hc, h⟩ := h
      refine Ev_call (rest := []) rfl rfl (Nat.le_of_ble_eq_true rfl) hc ?_
      refine Ev_rn (q := (20, [(15, 80), (0, m2 82 5), (9, 0), (9, 0)], [(15, 80)], m3)) 2 rfl ?_
      obtain ⟨v4, m4, hc, h⟩ := h
      refine Ev_call (rest := []) rfl rfl (Nat.le_of_ble_eq_true rfl) hc ?_
      refine Ev_if rfl (fun hc => ?_) (fun hc => ?_)
      · replace h := h.1 hc
        refine Ev_rn (q := (27, [(15, 80), (0, m2 82 5), (9, 0), (9, 0)], [(0, 0)], m4)) 1 rfl ?_
        exact Ev_zret rfl rfl (by decide) h
      · replace h := h.2 hc
        refine Ev_rn (q := (24, [(15, 80), (0, m2 82 5), (9, 0), (9, 0)], [(0, 38), (15, 80)], m4)) 2 rfl ?_
        obtain ⟨v5, m5, hc, h⟩ := h
        refine Ev_call (rest := []) rfl rfl (Nat.le_of_ble_eq_true rfl) hc ?_
        refine Ev_if rfl (fun hc => ?_) (fun hc => ?_)
        · replace h := h.1 hc
          refine Ev_rn (q := (36, [(15, 80), (0, m2 82 5), (0, m5 82 5), (9, 0)], [(0, 0), (0, 46), (16, 82)], m5)) 8 rfl ?_
          obtain ⟨v6, m6, hc, h⟩ := h
          refine Ev_call (rest := []) rfl rfl (Nat.le_of_ble_eq_true rfl) hc ?_
          refine Ev_rn (q := (41, [(15, 80), (0, m2 82 5), (0, m5 82 5), (9, 0)], [(0, m2 82 5), (16, 82)], m6)) 4 rfl ?_
          obtain ⟨m7, hc, h⟩ := h
          refine Ev_call (rest := []) rfl rfl (Nat.le_of_ble_eq_true rfl) hc ?_
          refine Ev_rn (q := (43, [(15, 80), (0, m2 82 5), (0, m5 82 5), (9, 0)], [(15, 80)], m7)) 1 rfl ?_
          obtain ⟨v8, m8, hc, h⟩ := h
          refine Ev_call (rest := []) rfl rfl (Nat.le_of_ble_eq_true rfl) hc ?_
          refine Ev_if rfl (fun hc => ?_) (fun hc => ?_)
          · replace h := h.1 hc
            refine Ev_rn (q := (56, [(15, 80), (0, m2 82 5), (0, m5 82 5), (0, 0)], [(0, m5 82 5), (16, 82)], m8)) 5 rfl ?_
            obtain ⟨m9, hc, h⟩ := h
            refine Ev_call (rest := []) rfl rfl (Nat.le_of_ble_eq_true rfl) hc ?_
            refine Ev_rn (q := (58, [(15, 80), (0, m2 82 5), (0, m5 82 5), (0, 0)], [(0, 0)], m9)) 1 rfl ?_
            exact Ev_zret rfl rfl (by decide) h
          · replace h := h.2 hc
            refine Ev_rn (q := (47, [(15, 80), (0, m2 82 5), (0, m5 82 5), (9, 0)], [(0, 39), (15, 80)], m8)) 2 rfl ?_
            obtain ⟨v10, m10, hc, h⟩ := h
            refine Ev_call (rest := []) rfl rfl (Nat.le_of_ble_eq_true rfl) hc ?_
            refine Ev_if rfl (fun hc => ?_) (fun hc => ?_)
            · replace h := h.1 hc
              refine Ev_rn (q := (56, [(15, 80), (0, m2 82 5), (0, m5 82 5), (0, 0)], [(0, m5 82 5), (16, 82)], m10)) 5 rfl ?_
              obtain ⟨m11, hc, h⟩ := h
              refine Ev_call (rest := []) rfl rfl (Nat.le_of_ble_eq_true rfl) hc ?_
              refine Ev_rn (q := (58, [(15, 80), (0, m2 82 5), (0, m5 82 5), (0, 0)], [(0, 0)], m11)) 1 rfl ?_
              exact Ev_zret rfl rfl (by decide) h
            · replace h := h.2 hc
              refine Ev_rn (q := (56, [(15, 80), (0, m2 82 5), (0, m5 82 5), (0, 1)], [(0, m5 82 5), (16, 82)], m10)) 6 rfl ?_
              obtain ⟨m12, hc, h⟩ := h
              refine Ev_call (rest := []) rfl rfl (Nat.le_of_ble_eq_true rfl) hc ?_
              refine Ev_rn (q := (58, [(15, 80), (0, m2 82 5), (0, m5 82 5), (0, 1)], [(0, 1)], m12)) 1 rfl ?_
              exact Ev_zret rfl rfl (by decide) h
        · replace h := h.2 hc
          refine Ev_rn (q := (27, [(15, 80), (0, m2 82 5), (9, 0), (9, 0)], [(0, 0)], m5)) 1 rfl ?_
          exact Ev_zret rfl rfl (by decide) h
    · replace h := h.2 hc
      refine Ev_rn (q := (8, [(15, 80), (9, 0), (9, 0), (9, 0)], [(0, 0)], m2)) 1 rfl ?_
      exact Ev_zret rfl rfl (by decide) h
theorem b_Rd_either {d : Nat} {r : Option Vv × Mm} {m : Mm} (h : ∃ (v1 : Int) (m1 : Mm), Cl d k_Rd_both [(15, 80)] m (some (0, v1), m1) ∧ ((¬ v1 = 0 → Ev (d + 1) K_Rd_either 2 7 [(15, 80), (0, 0)] [] m1 r) ∧ (¬ (¬ v1 = 0) → r = (some (0, 0), m1)))) : Ev (d + 1) K_Rd_either 2 0 [(15, 80), (9, 0)] [] m r := by
  refine Ev_rn (q := (1, [(15, 80), (9, 0)], [(15, 80)], m)) 1 rfl ?_
  obtain ⟨v1, m1, hc, h⟩ := h
  refine Ev_call (rest := []) rfl rfl (Nat.le_of_ble_eq_true rfl) hc ?_
  refine Ev_if rfl (fun hc => ?_) (fun hc => ?_)
  · replace h := h.1 hc
    refine Ev_rn (q := (7, [(15, 80), (0, 0)], [], m1)) 2 rfl ?_
    exact h
  · replace h := h.2 hc
    refine Ev_rn (q := (4, [(15, 80), (9, 0)], [(0, 0)], m1)) 1 rfl ?_
    exact Ev_zret rfl rfl (by decide) h
theorem b_Rd_either_7 {d : Nat} {r : Option Vv × Mm} {m : Mm} {x1 : Int} (h : (300 ≤ x1 → r = (some (0, 1), m)) ∧ (¬ (300 ≤ x1) → (¬ m 80 6 = 40 → r = (some (0, 1), m)) ∧ (¬ (¬ m 80 6 = 40) → ∃ (m1 : Mm), Cl d k_Rd_advance [(15, 80)] m (none, m1) ∧ (∃ (v2 : Int) (m2 : Mm), Cl d k_Rd_both [(15, 80)] m1 (some (0, v2), m2) ∧ ((¬ v2 = 0 → ∃ (v3 : Int) (m3 : Mm), Cl d k_Tx_emit [(16, 82), (0, 40), (0, 0)] m2 (some (0, v3), m3) ∧ (Ev (d + 1) K_Rd_either 2 7 [(15, 80), (0, w32 (x1 + 1))] [] m3 r)) ∧ (¬ (¬ v2 = 0) → r = (some (0, 0), m2))))))) : Ev (d + 1) K_Rd_either 2 7 [(15, 80), (0, x1)] [] m r := by
  refine Ev_rn (q := (9, [(15, 80), (0, x1)], [(0, 300), (0, x1)], m)) 2 rfl ?_
  refine Ev_icmp rfl (fun hc => ?_) (fun hc => ?_)
  · replace h := h.1 hc
    refine Ev_rn (q := (30, [(15, 80), (0, x1)], [(0, 1)], m)) 1 rfl ?_
    exact Ev_zret rfl rfl (by decide) h
  · replace h := h.2 hc
    refine Ev_rn (q := (13, [(15, 80), (0, x1)], [(0, 40), (0, m 80 6)], m)) 3 rfl ?_
    refine Ev_icmp rfl (fun hc => ?_) (fun hc => ?_)
    · replace h := h.1 hc
      refine Ev_rn (q := (30, [(15, 80), (0, x1)], [(0, 1)], m)) 1 rfl ?_
      exact Ev_zret rfl rfl (by decide) h
    · replace h := h.2 hc
      refine Ev_rn (q := (15, [(15, 80), (0, x1)], [(15, 80)], m)) 1 rfl ?_
      obtain ⟨m1, hc, h⟩ := h
      refine Ev_call (rest := []) rfl rfl (Nat.le_of_ble_eq_true rfl) hc ?_
      refine Ev_rn (q := (17, [(15, 80), (0, x1)], [(15, 80)], m1)) 1 rfl ?_
      obtain ⟨v2, m2, hc, h⟩ := h
      refine Ev_call (rest := []) rfl rfl (Nat.le_of_ble_eq_true rfl) hc ?_
      refine Ev_if rfl (fun hc => ?_) (fun hc => ?_)
      · replace h := h.1 hc
        refine Ev_rn (q := (25, [(15, 80), (0, x1)], [(0, 0), (0, 40), (16, 82)], m2)) 4 rfl ?_
        obtain ⟨v3, m3, hc, h⟩ := h
        refine Ev_call (rest := []) rfl rfl (Nat.le_of_ble_eq_true rfl) hc ?_
        refine Ev_rn (q := (7, [(15, 80), (0, w32 (x1 + 1))], [], m3)) 3 rfl ?_
        exact h
      · replace h := h.2 hc
        refine Ev_rn (q := (20, [(15, 80), (0, x1)], [(0, 0)], m2)) 1 rfl ?_
        exact Ev_zret rfl rfl (by decide) h
theorem b_Rd_both {d : Nat} {r : Option Vv × Mm} {m : Mm} (h : ∃ (v1 : Int) (m1 : Mm), Cl d k_Rd_ask [(15, 80)] m (some (0, v1), m1) ∧ ((¬ v1 = 0 → Ev (d + 1) K_Rd_both 2 7 [(15, 80), (0, 0)] [] m1 r) ∧ (¬ (¬ v1 = 0) → r = (some (0, 0), m1)))) : Ev (d + 1) K_Rd_both 2 0 [(15, 80), (9, 0)] [] m r := by
  refine Ev_rn (q := (1, [(15, 80), (9, 0)], [(15, 80)], m)) 1 rfl ?_
  obtain ⟨v1, m1, hc, h⟩ := h
  refine Ev_call (rest := []) rfl rfl (Nat.le_of_ble_eq_true rfl) hc ?_
  refine Ev_if rfl (fun hc => ?_) (fun hc => ?_)
  · replace h := h.1 hc
    refine Ev_rn (q := (7, [(15, 80), (0, 0)], [], m1)) 2 rfl ?_
    exact h
  · replace h := h.2 hc
    refine Ev_rn (q := (4, [(15, 80), (9, 0)], [(0, 0)], m1)) 1 rfl ?_
    exact Ev_zret rfl rfl (by decide) h
theorem b_Rd_both_7 {d : Nat} {r : Option Vv × Mm} {m : Mm} {x1 : Int} (h : (300 ≤ x1 → r = (some (0, 1), m)) ∧ (¬ (300 ≤ x1) → (¬ m 80 6 = 41 → r = (some (0, 1), m)) ∧ (¬ (¬ m 80 6 = 41) → ∃ (m1 : Mm), Cl d k_Rd_advance [(15, 80)] m (none, m1) ∧ (∃ (v2 : Int) (m2 : Mm), Cl d k_Rd_ask [(15, 80)] m1 (some (0, v2), m2) ∧ ((¬ v2 = 0 → ∃ (v3 : Int) (m3 : Mm), Cl d k_Tx_emit [(16, 82), (0, 41), (0, 0)] m2 (some (0, v3), m3) ∧ (Ev (d + 1) K_Rd_both 2 7 [(15, 80), (0, w32 (x1 + 1))] [] m3 r)) ∧ (¬ (¬ v2 = 0) → r = (some (0, 0), m2))))))) : Ev (d + 1) K_Rd_both 2 7 [(15, 80), (0, x1)] [] m r := by
  refine Ev_rn (q := (9, [(15, 80), (0, x1)], [(0, 300), (0, x1)], m)) 2 rfl ?_
  refine Ev_icmp rfl (fun hc => ?_) (fun hc => ?_)
  · replace h := h.1 hc
    refine Ev_rn (q := (30, [(15, 80), (0, x1)], [(0, 1)], m)) 1 rfl ?_
    exact Ev_zret rfl rfl (by decide) h
  · replace h := h.2 hc
    refine Ev_rn (q := (13, [(15, 80), (0, x1)], [(0, 41), (0, m 80 6)], m)) 3 rfl ?_
    refine Ev_icmp rfl (fun hc => ?_) (fun hc => ?_)
    · replace h := h.1 hc
      refine Ev_rn (q := (30, [(15, 80), (0, x1)], [(0, 1)], m)) 1 rfl ?_
      exact Ev_zret rfl rfl (by decide) h
    · replace h := h.2 hc
      refine Ev_rn (q := (15, [(15, 80), (0, x1)], [(15, 80)], m)) 1 rfl ?_
      obtain ⟨m1, hc, h⟩ := h
      refine Ev_call (rest := []) rfl rfl (Nat.le_of_ble_eq_true rfl) hc ?_
      refine Ev_rn (q := (17, [(15, 80), (0, x1)], [(15, 80)], m1)) 1 rfl ?_
      obtain ⟨v2, m2, hc, h⟩ := h
      refine Ev_call (rest := []) rfl rfl (Nat.le_of_ble_eq_true rfl) hc ?_
      refine Ev_if rfl (fun hc => ?_) (fun hc => ?_)
      · replace h := h.1 hc
        refine Ev_rn (q := (25, [(15, 80), (0, x1)], [(0, 0), (0, 41), (16, 82)], m2)) 4 rfl ?_
        obtain ⟨v3, m3, hc, h⟩ := h
        refine Ev_call (rest := []) rfl rfl (Nat.le_of_ble_eq_true rfl) hc ?_
        refine Ev_rn (q := (7, [(15, 80), (0, w32 (x1 + 1))], [], m3)) 3 rfl ?_
        exact h
      · replace h := h.2 hc
        refine Ev_rn (q := (20, [(15, 80), (0, x1)], [(0, 0)], m2)) 1 rfl ?_
        exact Ev_zret rfl rfl (by decide) h
theorem b_Rd_ask {d : Nat} {r : Option Vv × Mm} {m : Mm} (h : (¬ m 80 6 = 42 → ∃ (v1 : Int) (m1 : Mm), Cl d k_Rd_sum [(15, 80)] m (some (0, v1), m1) ∧ ((¬ v1 = 0 → (m1 80 6 < 3 → Ev (d + 1) K_Rd_ask 2 21 [(15, 80), (0, m1 80 6), (9, 0)] [] m1 r) ∧ (¬ (m1 80 6 < 3) → (m1 80 6 ≤ 6 → Ev (d + 1) K_Rd_ask 2 27 [(15, 80), (0, m1 80 6), (9, 0)] [] m1 r) ∧ (¬ (m1 80 6 ≤ 6) → Ev (d + 1) K_Rd_ask 2 21 [(15, 80), (0, m1 80 6), (9, 0)] [] m1 r))) ∧ (¬ (¬ v1 = 0) → r = (some (0, 0), m1)))) ∧ (¬ (¬ m 80 6 = 42) → ∃ (v2 : Int) (m2 : Mm), Cl d k_Rd_nested [(15, 80)] m (some (0, v2), m2) ∧ ((v2 = 0 ∨ v2 = 1) ∧ r = (some (0, v2), m2)))) : Ev (d + 1) K_Rd_ask 2 0 [(15, 80), (9, 0), (9, 0)] [] m r := by
  refine Ev_rn (q := (3, [(15, 80), (9, 0), (9, 0)], [(0, 42), (0, m 80 6)], m)) 3 rfl ?_
  refine Ev_icmp rfl (fun hc => ?_) (fun hc => ?_)
  · replace h := h.1 hc
    refine Ev_rn (q := (8, [(15, 80), (9, 0), (9, 0)], [(15, 80)], m)) 1 rfl ?_
    obtain ⟨v1, m1, hc, h⟩ := h
    refine Ev_call (rest := []) rfl rfl (Nat.le_of_ble_eq_true rfl) hc ?_
    refine Ev_if rfl (fun hc => ?_) (fun hc => ?_)
    · replace h := h.1 hc
      refine Ev_rn (q := (17, [(15, 80), (0, m1 80 6), (9, 0)], [(0, 3), (0, m1 80 6)], m1)) 5 rfl ?_
      refine Ev_icmp rfl (fun hc => ?_) (fun hc => ?_)
      · replace h := h.1 hc
        exact h
      · replace h := h.2 hc
        refine Ev_rn (q := (20, [(15, 80), (0, m1 80 6), (9, 0)], [(0, 6), (0, m1 80 6)], m1)) 2 rfl ?_
        refine Ev_icmp rfl (fun hc => ?_) (fun hc => ?_)
        · replace h := h.1 hc
          exact h
        · replace h := h.2 hc
          exact h
    · replace h := h.2 hc
      refine Ev_rn (q := (11, [(15, 80), (9, 0), (9, 0)], [(0, 0)], m1)) 1 rfl ?_
      exact Ev_zret rfl rfl (by decide) h
  · replace h := h.2 hc
    refine Ev_rn (q := (5, [(15, 80), (9, 0), (9, 0)], [(15, 80)], m)) 1 rfl ?_
    obtain ⟨v2, m2, hc, h⟩ := h
    refine Ev_call (rest := []) rfl rfl (Nat.le_of_ble_eq_true rfl) hc ?_
    exact Ev_zret rfl rfl h.1 h.2
theorem b_Rd_ask_21 {d : Nat} {r : Option Vv × Mm} {m : Mm} {x1 : Int} {u2 : Vv} (h : (x1 = 14 → Ev (d + 1) K_Rd_ask 2 27 [(15, 80), (0, x1), u2] [] m r) ∧ (¬ (x1 = 14) → (¬ x1 = 15 → ∃ (v1 : Int) (m1 : Mm), Cl d k_Rd_refuse [(15, 80), (0, 1)] m (some (0, v1), m1) ∧ ((v1 = 0 ∨ v1 = 1) ∧ r = (some (0, v1), m1))) ∧ (¬ (¬ x1 = 15) → Ev (d + 1) K_Rd_ask 2 27 [(15, 80), (0, x1), u2] [] m r))) : Ev (d + 1) K_Rd_ask 2 21 [(15, 80), (0, x1), u2] [] m r := by
  refine Ev_rn (q := (23, [(15, 80), (0, x1), u2], [(0, 14), (0, x1)], m)) 2 rfl ?_
  refine Ev_icmp rfl (fun hc => ?_) (fun hc => ?_)
  · replace h := h.1 hc
    exact h
  · replace h := h.2 hc
    refine Ev_rn (q := (26, [(15, 80), (0, x1), u2], [(0, 15), (0, x1)], m)) 2 rfl ?_
    refine Ev_icmp rfl (fun hc => ?_) (fun hc => ?_)
    · replace h := h.1 hc
      refine Ev_rn (q := (32, [(15, 80), (0, x1), (0, 0)], [(0, 0)], m)) 3 rfl ?_
      refine Ev_if rfl (fun hc => absurd hc (by simp [cmpP])) (fun _ => ?_)
      refine Ev_rn (q := (35, [(15, 80), (0, x1), (0, 0)], [(0, 1), (15, 80)], m)) 2 rfl ?_
      obtain ⟨v1, m1, hc, h⟩ := h
      refine Ev_call (rest := []) rfl rfl (Nat.le_of_ble_eq_true rfl) hc ?_
      exact Ev_zret rfl rfl h.1 h.2
    · replace h := h.2 hc
      exact h
theorem b_Rd_ask_27 {d : Nat} {r : Option Vv × Mm} {m : Mm} {x1 : Int} {u2 : Vv} (h : ∃ (m1 : Mm), Cl d k_Rd_advance [(15, 80)] m (none, m1) ∧ (∃ (v2 : Int) (m2 : Mm), Cl d k_Rd_sum [(15, 80)] m1 (some (0, v2), m2) ∧ ((v2 = 0 → r = (some (0, 0), m2)) ∧ (¬ (v2 = 0) → ∃ (v3 : Int) (m3 : Mm), Cl d k_Tx_emit [(16, 82), (0, x1), (0, 0)] m2 (some (0, v3), m3) ∧ ((v3 = 0 → r = (some (0, 0), m3)) ∧ (¬ (v3 = 0) → r = (some (0, 1), m3))))))) : Ev (d + 1) K_Rd_ask 2 27 [(15, 80), (0, x1), u2] [] m r := by
  refine Ev_rn (q := (32, [(15, 80), (0, x1), (0, 1)], [(0, 1)], m)) 4 rfl ?_
  refine Ev_if rfl (fun _ => ?_) (fun hc => absurd (by simp [cmpP]) hc)
  refine Ev_rn (q := (38, [(15, 80), (0, x1), (0, 1)], [(15, 80)], m)) 1 rfl ?_
  obtain ⟨m1, hc, h⟩ := h
  refine Ev_call (rest := []) rfl rfl (Nat.le_of_ble_eq_true rfl) hc ?_
  refine Ev_rn (q := (40, [(15, 80), (0, x1), (0, 1)], [(15, 80)], m1)) 1 rfl ?_
  obtain ⟨v2, m2, hc, h⟩ := h
  refine Ev_call (rest := []) rfl rfl (Nat.le_of_ble_eq_true rfl) hc ?_
  refine Ev_if rfl (fun hc => ?_) (fun hc => ?_)
  · replace h := h.1 hc
    refine Ev_rn (q := (51, [(15, 80), (0, x1), (0, 1)], [(0, 0)], m2)) 1 rfl ?_
    exact Ev_zret rfl rfl (by decide) h
  · replace h := h.2 hc
    refine Ev_rn (q := (46, [(15, 80), (0, x1), (0, 1)], [(0, 0), (0, x1), (16, 82)], m2)) 4 rfl ?_
    obtain ⟨v3, m3, hc, h⟩ := h
    refine Ev_call (rest := []) rfl rfl (Nat.le_of_ble_eq_true rfl) hc ?_
    refine Ev_if rfl (fun hc => ?_) (fun hc => ?_)
    · replace h := h.1 hc
      refine Ev_rn (q := (51, [(15, 80), (0, x1), (0, 1)], [(0, 0)], m3)) 1 rfl ?_
      exact Ev_zret rfl rfl (by decide) h
    · replace h := h.2 hc
      refine Ev_rn (q := (51, [(15, 80), (0, x1), (0, 1)], [(0, 1)], m3)) 2 rfl ?_
      exact Ev_zret rfl rfl (by decide) h
theorem b_Rd_advance {d : Nat} {r : Option Vv × Mm} {m : Mm} (h : (m 80 1 ≤ m 80 9 → Ev (d + 1) K_Rd_advance 3 19 [(15, 80)] [] m r) ∧ (¬ (m 80 1 ≤ m 80 9) → (0 ≤ m 80 9 ∧ m 80 9 < 300) ∧ (∃ (v1 : Int) (m1 : Mm), Cl d k_Rd_isBlank [(0, m 81 (m 80 9))] m (some (0, v1), m1) ∧ ((v1 = 0 → Ev (d + 1) K_Rd_advance 3 19 [(15, 80)] [] m1 r) ∧ (¬ (v1 = 0) → ∀ m2 : Mm, m2 = up m1 80 9 (w32 ((m1 80 9) + 1)) → (Ev (d + 1) K_Rd_advance 3 0 [(15, 80)] [] m2 r)))))) : Ev (d + 1) K_Rd_advance 3 0 [(15, 80)] [] m r := by
  refine Ev_rn (q := (4, [(15, 80)], [(0, m 80 1), (0, m 80 9)], m)) 4 rfl ?_
  refine Ev_icmp rfl (fun hc => ?_) (fun hc => ?_)
  · replace h := h.1 hc
    exact h
  · replace h := h.2 hc
    refine Ev_rn (q := (9, [(15, 80)], [(0, m 80 9), (2500, 81)], m)) 4 rfl ?_
    obtain ⟨hc, h⟩ := h
    refine Ev_iald (n := 300) rfl (by decide) (by decide) hc ?_
    obtain ⟨v1, m1, hc, h⟩ := h
    refine Ev_call (rest := []) rfl rfl (Nat.le_of_ble_eq_true rfl) hc ?_
    refine Ev_if rfl (fun hc => ?_) (fun hc => ?_)
    · replace h := h.1 hc
      exact h
    · replace h := h.2 hc
      refine Ev_rn (q := (18, [(15, 80)], [], up m1 80 9 (w32 ((m1 80 9) + 1)))) 6 rfl ?_
      generalize e2 : up m1 80 9 (w32 ((m1 80 9) + 1)) = m2
      replace h := h m2 e2.symm
      refine Ev_rn (q := (0, [(15, 80)], [], m2)) 1 rfl ?_
      exact h
theorem b_Rd_advance_19 {d : Nat} {r : Option Vv × Mm} {m : Mm} (h : ∀ m1 : Mm, m1 = up m 80 7 (m 80 9) → ((m1 80 9 < m1 80 1 → (0 ≤ m1 80 9 ∧ m1 80 9 < 300) ∧ (∃ (v2 : Int) (m2 : Mm), Cl d k_Rd_isLetter [(0, m1 81 (m1 80 9))] m1 (some (0, v2), m2) ∧ ((v2 = 0 → (0 ≤ m2 80 9 ∧ m2 80 9 < 300) ∧ (∃ (v3 : Int) (m3 : Mm), Cl d k_Rd_isDigit [(0, m2 81 (m2 80 9))] m2 (some (0, v3), m3) ∧ ((v3 = 0 → ∃ (v4 : Int) (m4 : Mm), Cl d k_Rd_signRead [(15, 80)] m3 (some (0, v4), m4) ∧ (∀ m5 : Mm, m5 = up m4 80 6 v4 → (r = (none, m5)))) ∧ (¬ (v3 = 0) → ∃ (v6 : Int) (m6 : Mm), Cl d k_Rd_digitsRead [(15, 80)] m3 (some (0, v6), m6) ∧ (∀ m7 : Mm, m7 = up m6 80 6 v6 → (r = (none, m7))))))) ∧ (¬ (v2 = 0) → ∃ (v8 : Int) (m8 : Mm), Cl d k_Rd_wordRead [(15, 80)] m2 (some (0, v8), m8) ∧ (∀ m9 : Mm, m9 = up m8 80 6 v8 → (r = (none, m9))))))) ∧ (¬ (m1 80 9 < m1 80 1) → ∀ m10 : Mm, m10 = up m1 80 6 0 → (r = (none, m10))))) : Ev (d + 1) K_Rd_advance 3 19 [(15, 80)] [] m r := by
  refine Ev_rn (q := (23, [(15, 80)], [], up m 80 7 (m 80 9))) 4 rfl ?_
  generalize e1 : up m 80 7 (m 80 9) = m1
  replace h := h m1 e1.symm
  refine Ev_rn (q := (27, [(15, 80)], [(0, m1 80 1), (0, m1 80 9)], m1)) 4 rfl ?_
  refine Ev_icmp rfl (fun hc => ?_) (fun hc => ?_)
  · replace h := h.1 hc
    refine Ev_rn (q := (36, [(15, 80)], [(0, m1 80 9), (2500, 81)], m1)) 4 rfl ?_
    obtain ⟨hc, h⟩ := h
    refine Ev_iald (n := 300) rfl (by decide) (by decide) hc ?_
    obtain ⟨v2, m2, hc, h⟩ := h
    refine Ev_call (rest := []) rfl rfl (Nat.le_of_ble_eq_true rfl) hc ?_
    refine Ev_if rfl (fun hc => ?_) (fun hc => ?_)
    · replace h := h.1 hc
      refine Ev_rn (q := (48, [(15, 80)], [(0, m2 80 9), (2500, 81)], m2)) 4 rfl ?_
      obtain ⟨hc, h⟩ := h
      refine Ev_iald (n := 300) rfl (by decide) (by decide) hc ?_
      obtain ⟨v3, m3, hc, h⟩ := h
      refine Ev_call (rest := []) rfl rfl (Nat.le_of_ble_eq_true rfl) hc ?_
      refine Ev_if rfl (fun hc => ?_) (fun hc => ?_)
      · replace h := h.1 hc
        refine Ev_rn (q := (58, [(15, 80)], [(15, 80), (15, 80)], m3)) 2 rfl ?_
        obtain ⟨v4, m4, hc, h⟩ := h
        refine Ev_call (rest := [(15, 80)]) rfl rfl (Nat.le_of_ble_eq_true rfl) hc ?_
        refine Ev_rn (q := (60, [(15, 80)], [], up m4 80 6 v4)) 1 rfl ?_
        generalize e5 : up m4 80 6 v4 = m5
        replace h := h m5 e5.symm
        exact Ev_ret rfl rfl h
      · replace h := h.2 hc
        refine Ev_rn (q := (53, [(15, 80)], [(15, 80), (15, 80)], m3)) 2 rfl ?_
        obtain ⟨v6, m6, hc, h⟩ := h
        refine Ev_call (rest := [(15, 80)]) rfl rfl (Nat.le_of_ble_eq_true rfl) hc ?_
        refine Ev_rn (q := (55, [(15, 80)], [], up m6 80 6 v6)) 1 rfl ?_
        generalize e7 : up m6 80 6 v6 = m7
        replace h := h m7 e7.symm
        refine Ev_rn (q := (60, [(15, 80)], [], m7)) 1 rfl ?_
        exact Ev_ret rfl rfl h
    · replace h := h.2 hc
      refine Ev_rn (q := (41, [(15, 80)], [(15, 80), (15, 80)], m2)) 2 rfl ?_
      obtain ⟨v8, m8, hc, h⟩ := h
      refine Ev_call (rest := [(15, 80)]) rfl rfl (Nat.le_of_ble_eq_true rfl) hc ?_
      refine Ev_rn (q := (43, [(15, 80)], [], up m8 80 6 v8)) 1 rfl ?_
      generalize e9 : up m8 80 6 v8 = m9
      replace h := h m9 e9.symm
      refine Ev_rn (q := (60, [(15, 80)], [], m9)) 1 rfl ?_
      exact Ev_ret rfl rfl h
  · replace h := h.2 hc
    refine Ev_rn (q := (31, [(15, 80)], [], up m1 80 6 0)) 3 rfl ?_
    generalize e10 : up m1 80 6 0 = m10
    replace h := h m10 e10.symm
    refine Ev_rn (q := (60, [(15, 80)], [], m10)) 1 rfl ?_
    exact Ev_ret rfl rfl h
theorem b_Rd_isBlank {d : Nat} {r : Option Vv × Mm} {m : Mm} {x0 : Int} (h : (x0 = 32 → r = (some (0, 1), m)) ∧ (¬ (x0 = 32) → (¬ x0 = 10 → r = (some (0, 0), m)) ∧ (¬ (¬ x0 = 10) → r = (some (0, 1), m)))) : Ev d K_Rd_isBlank 2 0 [(0, x0)] [] m r := by
  refine Ev_rn (q := (2, [(0, x0)], [(0, 32), (0, x0)], m)) 2 rfl ?_
  refine Ev_icmp rfl (fun hc => ?_) (fun hc => ?_)
  · replace h := h.1 hc
    refine Ev_rn (q := (9, [(0, x0)], [(0, 1)], m)) 2 rfl ?_
    exact Ev_zret rfl rfl (by decide) h
  · replace h := h.2 hc
    refine Ev_rn (q := (5, [(0, x0)], [(0, 10), (0, x0)], m)) 2 rfl ?_
    refine Ev_icmp rfl (fun hc => ?_) (fun hc => ?_)
    · replace h := h.1 hc
      refine Ev_rn (q := (9, [(0, x0)], [(0, 0)], m)) 1 rfl ?_
      exact Ev_zret rfl rfl (by decide) h
    · replace h := h.2 hc
      refine Ev_rn (q := (9, [(0, x0)], [(0, 1)], m)) 2 rfl ?_
      exact Ev_zret rfl rfl (by decide) h
theorem b_Rd_isLetter {d : Nat} {r : Option Vv × Mm} {m : Mm} {x0 : Int} (h : (x0 < 97 → (x0 < 65 → r = (some (0, 0), m)) ∧ (¬ (x0 < 65) → (90 < x0 → r = (some (0, 0), m)) ∧ (¬ (90 < x0) → r = (some (0, 1), m)))) ∧ (¬ (x0 < 97) → (x0 ≤ 122 → r = (some (0, 1), m)) ∧ (¬ (x0 ≤ 122) → (x0 < 65 → r = (some (0, 0), m)) ∧ (¬ (x0 < 65) → (90 < x0 → r = (some (0, 0), m)) ∧ (¬ (90 < x0) → r = (some (0, 1), m)))))) : Ev d K_Rd_isLetter 2 0 [(0, x0)] [] m r := by
  refine Ev_rn (q := (2, [(0, x0)], [(0, 97), (0, x0)], m)) 2 rfl ?_
  refine Ev_icmp rfl (fun hc => ?_) (fun hc => ?_)
  · replace h := h.1 hc
    refine Ev_rn (q := (8, [(0, x0)], [(0, 65), (0, x0)], m)) 2 rfl ?_
    refine Ev_icmp rfl (fun hc => ?_) (fun hc => ?_)
    · replace h := h.1 hc
      refine Ev_rn (q := (15, [(0, x0)], [(0, 0)], m)) 1 rfl ?_
      exact Ev_zret rfl rfl (by decide) h
    · replace h := h.2 hc
      refine Ev_rn (q := (11, [(0, x0)], [(0, 90), (0, x0)], m)) 2 rfl ?_
      refine Ev_icmp rfl (fun hc => ?_) (fun hc => ?_)
      · replace h := h.1 hc
        refine Ev_rn (q := (15, [(0, x0)], [(0, 0)], m)) 1 rfl ?_
        exact Ev_zret rfl rfl (by decide) h
      · replace h := h.2 hc
        refine Ev_rn (q := (15, [(0, x0)], [(0, 1)], m)) 2 rfl ?_
        exact Ev_zret rfl rfl (by decide) h
  · replace h := h.2 hc
    refine Ev_rn (q := (5, [(0, x0)], [(0, 122), (0, x0)], m)) 2 rfl ?_
    refine Ev_icmp rfl (fun hc => ?_) (fun hc => ?_)
    · replace h := h.1 hc
      refine Ev_rn (q := (15, [(0, x0)], [(0, 1)], m)) 2 rfl ?_
      exact Ev_zret rfl rfl (by decide) h
    · replace h := h.2 hc
      refine Ev_rn (q := (8, [(0, x0)], [(0, 65), (0, x0)], m)) 2 rfl ?_
      refine Ev_icmp rfl (fun hc => ?_) (fun hc => ?_)
      · replace h := h.1 hc
        refine Ev_rn (q := (15, [(0, x0)], [(0, 0)], m)) 1 rfl ?_
        exact Ev_zret rfl rfl (by decide) h
      · replace h := h.2 hc
        refine Ev_rn (q := (11, [(0, x0)], [(0, 90), (0, x0)], m)) 2 rfl ?_
        refine Ev_icmp rfl (fun hc => ?_) (fun hc => ?_)
        · replace h := h.1 hc
          refine Ev_rn (q := (15, [(0, x0)], [(0, 0)], m)) 1 rfl ?_
          exact Ev_zret rfl rfl (by decide) h
        · replace h := h.2 hc
          refine Ev_rn (q := (15, [(0, x0)], [(0, 1)], m)) 2 rfl ?_
          exact Ev_zret rfl rfl (by decide) h
theorem b_Rd_isDigit {d : Nat} {r : Option Vv × Mm} {m : Mm} {x0 : Int} (h : (x0 < 48 → r = (some (0, 0), m)) ∧ (¬ (x0 < 48) → (57 < x0 → r = (some (0, 0), m)) ∧ (¬ (57 < x0) → r = (some (0, 1), m)))) : Ev d K_Rd_isDigit 2 0 [(0, x0)] [] m r := by
  refine Ev_rn (q := (2, [(0, x0)], [(0, 48), (0, x0)], m)) 2 rfl ?_
  refine Ev_icmp rfl (fun hc => ?_) (fun hc => ?_)
  · replace h := h.1 hc
    refine Ev_rn (q := (9, [(0, x0)], [(0, 0)], m)) 1 rfl ?_
    exact Ev_zret rfl rfl (by decide) h
  · replace h := h.2 hc
    refine Ev_rn (q := (5, [(0, x0)], [(0, 57), (0, x0)], m)) 2 rfl ?_
    refine Ev_icmp rfl (fun hc => ?_) (fun hc => ?_)
    · replace h := h.1 hc
      refine Ev_rn (q := (9, [(0, x0)], [(0, 0)], m)) 1 rfl ?_
      exact Ev_zret rfl rfl (by decide) h
    · replace h := h.2 hc
      refine Ev_rn (q := (9, [(0, x0)], [(0, 1)], m)) 2 rfl ?_
      exact Ev_zret rfl rfl (by decide) h
theorem b_Rd_wordRead {d : Nat} {r : Option Vv × Mm} {m : Mm} (h : (m 80 1 ≤ m 80 9 → Ev (d + 1) K_Rd_wordRead 0 31 [(15, 80), (0, w32 ((m 80 9) - (m 80 7))), (0, 16), (0, 0), (0, 0), (9, 0)] [] m r) ∧ (¬ (m 80 1 ≤ m 80 9) → (0 ≤ m 80 9 ∧ m 80 9 < 300) ∧ (∃ (v1 : Int) (m1 : Mm), Cl d k_Rd_isLetter [(0, m 81 (m 80 9))] m (some (0, v1), m1) ∧ ((v1 = 0 → Ev (d + 1) K_Rd_wordRead 0 31 [(15, 80), (0, w32 ((m1 80 9) - (m1 80 7))), (0, 16), (0, 0), (0, 0), (9, 0)] [] m1 r) ∧ (¬ (v1 = 0) → ∀ m2 : Mm, m2 = up m1 80 9 (w32 ((m1 80 9) + 1)) → (Ev (d + 1) K_Rd_wordRead 0 0 [(15, 80), (9, 0), (9, 0), (9, 0), (9, 0), (9, 0)] [] m2 r)))))) : Ev (d + 1) K_Rd_wordRead 0 0 [(15, 80), (9, 0), (9, 0), (9, 0), (9, 0), (9, 0)] [] m r := by
  refine Ev_rn (q := (4, [(15, 80), (9, 0), (9, 0), (9, 0), (9, 0), (9, 0)], [(0, m 80 1), (0, m 80 9)], m)) 4 rfl ?_
  refine Ev_icmp rfl (fun hc => ?_) (fun hc => ?_)
  · replace h := h.1 hc
    refine Ev_rn (q := (31, [(15, 80), (0, w32 ((m 80 9) - (m 80 7))), (0, 16), (0, 0), (0, 0), (9, 0)], [], m)) 12 rfl ?_
    exact h
  · replace h := h.2 hc
    refine Ev_rn (q := (9, [(15, 80), (9, 0), (9, 0), (9, 0), (9, 0), (9, 0)], [(0, m 80 9), (2500, 81)], m)) 4 rfl ?_
    obtain ⟨hc, h⟩ := h
    refine Ev_iald (n := 300) rfl (by decide) (by decide) hc ?_
    obtain ⟨v1, m1, hc, h⟩ := h
    refine Ev_call (rest := []) rfl rfl (Nat.le_of_ble_eq_true rfl) hc ?_
    refine Ev_if rfl (fun hc => ?_) (fun hc => ?_)
    · replace h := h.1 hc
      refine Ev_rn (q := (31, [(15, 80), (0, w32 ((m1 80 9) - (m1 80 7))), (0, 16), (0, 0), (0, 0), (9, 0)], [], m1)) 12 rfl ?_
      exact h
    · replace h := h.2 hc
      refine Ev_rn (q := (18, [(15, 80), (9, 0), (9, 0), (9, 0), (9, 0), (9, 0)], [], up m1 80 9 (w32 ((m1 80 9) + 1)))) 6 rfl ?_
      generalize e2 : up m1 80 9 (w32 ((m1 80 9) + 1)) = m2
      replace h := h m2 e2.symm
      refine Ev_rn (q := (0, [(15, 80), (9, 0), (9, 0), (9, 0), (9, 0), (9, 0)], [], m2)) 1 rfl ?_
      exact h
theorem b_Rd_wordRead_31 {d : Nat} {r : Option Vv × Mm} {m : Mm} {x1 x2 x3 x4 : Int} {u5 : Vv} (h : (125 ≤ x4 → r = (some (0, 1), m)) ∧ (¬ (125 ≤ x4) → (0 ≤ x4 ∧ x4 < 125) ∧ ((¬ wchar x4 = 32 → (x3 < 0 → Ev (d + 1) K_Rd_wordRead 0 31 [(15, 80), (0, x1), (0, x2), (0, x3), (0, w32 (x4 + 1)), (0, wchar x4)] [] m r) ∧ (¬ (x3 < 0) → (x1 ≤ x3 → Ev (d + 1) K_Rd_wordRead 0 31 [(15, 80), (0, x1), (0, x2), (0, (-1)), (0, w32 (x4 + 1)), (0, wchar x4)] [] m r) ∧ (¬ (x1 ≤ x3) → (0 ≤ w32 ((m 80 7) + x3) ∧ w32 ((m 80 7) + x3) < 300) ∧ ((¬ m 81 (w32 ((m 80 7) + x3)) = wchar x4 → Ev (d + 1) K_Rd_wordRead 0 31 [(15, 80), (0, x1), (0, x2), (0, (-1)), (0, w32 (x4 + 1)), (0, wchar x4)] [] m r) ∧ (¬ (¬ m 81 (w32 ((m 80 7) + x3)) = wchar x4) → Ev (d + 1) K_Rd_wordRead 0 31 [(15, 80), (0, x1), (0, x2), (0, w32 (x3 + 1)), (0, w32 (x4 + 1)), (0, wchar x4)] [] m r))))) ∧ (¬ (¬ wchar x4 = 32) → (¬ x3 = x1 → Ev (d + 1) K_Rd_wordRead 0 31 [(15, 80), (0, x1), (0, w32 (x2 + 1)), (0, 0), (0, w32 (x4 + 1)), (0, wchar x4)] [] m r) ∧ (¬ (¬ x3 = x1) → r = (some (0, x2), m)))))) : Ev (d + 1) K_Rd_wordRead 0 31 [(15, 80), (0, x1), (0, x2), (0, x3), (0, x4), u5] [] m r := by
  refine Ev_rn (q := (34, [(15, 80), (0, x1), (0, x2), (0, x3), (0, x4), u5], [(0, 125), (0, x4)], m)) 3 rfl ?_
  refine Ev_icmp rfl (fun hc => ?_) (fun hc => ?_)
  · replace h := h.1 hc
    refine Ev_rn (q := (74, [(15, 80), (0, x1), (0, x2), (0, x3), (0, x4), u5], [(0, 1)], m)) 1 rfl ?_
    exact Ev_ret rfl rfl h
  · replace h := h.2 hc
    refine Ev_rn (q := (37, [(15, 80), (0, x1), (0, x2), (0, x3), (0, x4), u5], [(0, x4), (52, 0)], m)) 2 rfl ?_
    obtain ⟨hc, h⟩ := h
    refine Ev_char rfl hc ?_
    refine Ev_rn (q := (41, [(15, 80), (0, x1), (0, x2), (0, x3), (0, x4), (0, wchar x4)], [(0, 32), (0, wchar x4)], m)) 3 rfl ?_
    refine Ev_icmp rfl (fun hc => ?_) (fun hc => ?_)
    · replace h := h.1 hc
      refine Ev_rn (q := (52, [(15, 80), (0, x1), (0, x2), (0, x3), (0, x4), (0, wchar x4)], [(0, x3)], m)) 1 rfl ?_
      refine Ev_if rfl (fun hc => ?_) (fun hc => ?_)
      · replace h := h.1 hc
        refine Ev_rn (q := (31, [(15, 80), (0, x1), (0, x2), (0, x3), (0, w32 (x4 + 1)), (0, wchar x4)], [], m)) 2 rfl ?_
        exact h
      · replace h := h.2 hc
        refine Ev_rn (q := (55, [(15, 80), (0, x1), (0, x2), (0, x3), (0, x4), (0, wchar x4)], [(0, x1), (0, x3)], m)) 2 rfl ?_
        refine Ev_icmp rfl (fun hc => ?_) (fun hc => ?_)
        · replace h := h.1 hc
          refine Ev_rn (q := (31, [(15, 80), (0, x1), (0, x2), (0, (-1)), (0, w32 (x4 + 1)), (0, wchar x4)], [], m)) 4 rfl ?_
          exact h
        · replace h := h.2 hc
          refine Ev_rn (q := (62, [(15, 80), (0, x1), (0, x2), (0, x3), (0, x4), (0, wchar x4)], [(0, w32 ((m 80 7) + x3)), (2500, 81)], m)) 6 rfl ?_
          obtain ⟨hc, h⟩ := h
          refine Ev_iald (n := 300) rfl (by decide) (by decide) hc ?_
          refine Ev_rn (q := (64, [(15, 80), (0, x1), (0, x2), (0, x3), (0, x4), (0, wchar x4)], [(0, wchar x4), (0, m 81 (w32 ((m 80 7) + x3)))], m)) 1 rfl ?_
          refine Ev_icmp rfl (fun hc => ?_) (fun hc => ?_)
          · replace h := h.1 hc
            refine Ev_rn (q := (31, [(15, 80), (0, x1), (0, x2), (0, (-1)), (0, w32 (x4 + 1)), (0, wchar x4)], [], m)) 4 rfl ?_
            exact h
          · replace h := h.2 hc
            refine Ev_rn (q := (31, [(15, 80), (0, x1), (0, x2), (0, w32 (x3 + 1)), (0, w32 (x4 + 1)), (0, wchar x4)], [], m)) 7 rfl ?_
            exact h
    · replace h := h.2 hc
      refine Ev_rn (q := (44, [(15, 80), (0, x1), (0, x2), (0, x3), (0, x4), (0, wchar x4)], [(0, x1), (0, x3)], m)) 2 rfl ?_
      refine Ev_icmp rfl (fun hc => ?_) (fun hc => ?_)
      · replace h := h.1 hc
        refine Ev_rn (q := (31, [(15, 80), (0, x1), (0, w32 (x2 + 1)), (0, 0), (0, w32 (x4 + 1)), (0, wchar x4)], [], m)) 6 rfl ?_
        exact h
      · replace h := h.2 hc
        refine Ev_rn (q := (46, [(15, 80), (0, x1), (0, x2), (0, x3), (0, x4), (0, wchar x4)], [(0, x2)], m)) 1 rfl ?_
        exact Ev_ret rfl rfl h
theorem b_Rd_digitsRead {d : Nat} {r : Option Vv × Mm} {m : Mm} (h : ∀ m1 : Mm, m1 = up m 80 8 0 → (Ev (d + 1) K_Rd_digitsRead 0 3 [(15, 80)] [] m1 r)) : Ev (d + 1) K_Rd_digitsRead 0 0 [(15, 80)] [] m r := by
  refine Ev_rn (q := (3, [(15, 80)], [], up m 80 8 0)) 3 rfl ?_
  generalize e1 : up m 80 8 0 = m1
  replace h := h m1 e1.symm
  exact h
theorem b_Rd_digitsRead_3 {d : Nat} {r : Option Vv × Mm} {m : Mm} (h : (m 80 1 ≤ m 80 9 → r = (some (0, 2), m)) ∧ (¬ (m 80 1 ≤ m 80 9) → (0 ≤ m 80 9 ∧ m 80 9 < 300) ∧ (∃ (v1 : Int) (m1 : Mm), Cl d k_Rd_isDigit [(0, m 81 (m 80 9))] m (some (0, v1), m1) ∧ ((v1 = 0 → r = (some (0, 2), m1)) ∧ (¬ (v1 = 0) → (0 ≤ m1 80 9 ∧ m1 80 9 < 300) ∧ (∀ m2 : Mm, m2 = up m1 80 8 (min (w32 ((w32 ((w32 ((m1 80 8) * 10)) + (m1 81 (m1 80 9)))) - 48)) 10000) → (∀ m3 : Mm, m3 = up m2 80 9 (w32 ((m2 80 9) + 1)) → (Ev (d + 1) K_Rd_digitsRead 0 3 [(15, 80)] [] m3 r)))))))) : Ev (d + 1) K_Rd_digitsRead 0 3 [(15, 80)] [] m r := by
  refine Ev_rn (q := (7, [(15, 80)], [(0, m 80 1), (0, m 80 9)], m)) 4 rfl ?_
  refine Ev_icmp rfl (fun hc => ?_) (fun hc => ?_)
  · replace h := h.1 hc
    refine Ev_rn (q := (39, [(15, 80)], [(0, 2)], m)) 1 rfl ?_
    exact Ev_ret rfl rfl h
  · replace h := h.2 hc
    refine Ev_rn (q := (12, [(15, 80)], [(0, m 80 9), (2500, 81)], m)) 4 rfl ?_
    obtain ⟨hc, h⟩ := h
    refine Ev_iald (n := 300) rfl (by decide) (by decide) hc ?_
    obtain ⟨v1, m1, hc, h⟩ := h
    refine Ev_call (rest := []) rfl rfl (Nat.le_of_ble_eq_true rfl) hc ?_
    refine Ev_if rfl (fun hc => ?_) (fun hc => ?_)
    · replace h := h.1 hc
      refine Ev_rn (q := (39, [(15, 80)], [(0, 2)], m1)) 1 rfl ?_
      exact Ev_ret rfl rfl h
    · replace h := h.2 hc
      refine Ev_rn (q := (24, [(15, 80)], [(0, m1 80 9), (2500, 81), (0, w32 ((m1 80 8) * 10)), (15, 80)], m1)) 9 rfl ?_
      obtain ⟨hc, h⟩ := h
      refine Ev_iald (n := 300) rfl (by decide) (by decide) hc ?_
      refine Ev_rn (q := (31, [(15, 80)], [], up m1 80 8 (min (w32 ((w32 ((w32 ((m1 80 8) * 10)) + (m1 81 (m1 80 9)))) - 48)) 10000))) 6 rfl ?_
      generalize e2 : up m1 80 8 (min (w32 ((w32 ((w32 ((m1 80 8) * 10)) + (m1 81 (m1 80 9)))) - 48)) 10000) = m2
      replace h := h m2 e2.symm
      refine Ev_rn (q := (37, [(15, 80)], [], up m2 80 9 (w32 ((m2 80 9) + 1)))) 6 rfl ?_
      generalize e3 : up m2 80 9 (w32 ((m2 80 9) + 1)) = m3
      replace h := h m3 e3.symm
      refine Ev_rn (q := (3, [(15, 80)], [], m3)) 1 rfl ?_
      exact h
theorem b_Rd_signRead {d : Nat} {r : Option Vv × Mm} {m : Mm} (h : (0 ≤ m 80 9 ∧ m 80 9 < 300) ∧ ((0 ≤ i2c (m 81 (m 80 9)) ∧ i2c (m 81 (m 80 9)) < 65536) ∧ (∀ m1 : Mm, m1 = up m 80 9 (w32 ((m 80 9) + 1)) → ((0 ≤ idxOf SIGNSL (i2c (m 81 (m 80 9))) 0 → (w32 (3 + (idxOf SIGNSL (i2c (m 81 (m 80 9))) 0)) = 3 → Ev d K_Rd_signRead 0 29 [(15, 80), (0, idxOf SIGNSL (i2c (m 81 (m 80 9))) 0), (0, w32 (3 + (idxOf SIGNSL (i2c (m 81 (m 80 9))) 0))), (9, 0)] [] m1 r) ∧ (¬ (w32 (3 + (idxOf SIGNSL (i2c (m 81 (m 80 9))) 0)) = 3) → (¬ w32 (3 + (idxOf SIGNSL (i2c (m 81 (m 80 9))) 0)) = 4 → r = (some (0, w32 (3 + (idxOf SIGNSL (i2c (m 81 (m 80 9))) 0))), m1)) ∧ (¬ (¬ w32 (3 + (idxOf SIGNSL (i2c (m 81 (m 80 9))) 0)) = 4) → Ev d K_Rd_signRead 0 29 [(15, 80), (0, idxOf SIGNSL (i2c (m 81 (m 80 9))) 0), (0, w32 (3 + (idxOf SIGNSL (i2c (m 81 (m 80 9))) 0))), (9, 0)] [] m1 r))) ∧ (¬ (0 ≤ idxOf SIGNSL (i2c (m 81 (m 80 9))) 0) → r = (some (0, 1), m1)))))) : Ev d K_Rd_signRead 0 0 [(15, 80), (9, 0), (9, 0), (9, 0)] [] m r := by
  refine Ev_rn (q := (5, [(15, 80), (9, 0), (9, 0), (9, 0)], [(0, m 80 9), (2500, 81), (53, 0)], m)) 5 rfl ?_
  obtain ⟨hc, h⟩ := h
  refine Ev_iald (n := 300) rfl (by decide) (by decide) hc ?_
  refine Ev_rn (q := (7, [(15, 80), (9, 0), (9, 0), (9, 0)], [(0, i2c (m 81 (m 80 9))), (53, 0)], m)) 1 rfl ?_
  obtain ⟨hc, h⟩ := h
  refine Ev_idx rfl hc ?_
  refine Ev_rn (q := (15, [(15, 80), (0, idxOf SIGNSL (i2c (m 81 (m 80 9))) 0), (9, 0), (9, 0)], [], up m 80 9 (w32 ((m 80 9) + 1)))) 7 rfl ?_
  generalize e1 : up m 80 9 (w32 ((m 80 9) + 1)) = m1
  replace h := h m1 e1.symm
  refine Ev_rn (q := (16, [(15, 80), (0, idxOf SIGNSL (i2c (m 81 (m 80 9))) 0), (9, 0), (9, 0)], [(0, idxOf SIGNSL (i2c (m 81 (m 80 9))) 0)], m1)) 1 rfl ?_
  refine Ev_if rfl (fun hc => ?_) (fun hc => ?_)
  · replace h := h.1 hc
    refine Ev_rn (q := (25, [(15, 80), (0, idxOf SIGNSL (i2c (m 81 (m 80 9))) 0), (0, w32 (3 + (idxOf SIGNSL (i2c (m 81 (m 80 9))) 0))), (9, 0)], [(0, 3), (0, w32 (3 + (idxOf SIGNSL (i2c (m 81 (m 80 9))) 0)))], m1)) 6 rfl ?_
    refine Ev_icmp rfl (fun hc => ?_) (fun hc => ?_)
    · replace h := h.1 hc
      exact h
    · replace h := h.2 hc
      refine Ev_rn (q := (28, [(15, 80), (0, idxOf SIGNSL (i2c (m 81 (m 80 9))) 0), (0, w32 (3 + (idxOf SIGNSL (i2c (m 81 (m 80 9))) 0))), (9, 0)], [(0, 4), (0, w32 (3 + (idxOf SIGNSL (i2c (m 81 (m 80 9))) 0)))], m1)) 2 rfl ?_
      refine Ev_icmp rfl (fun hc => ?_) (fun hc => ?_)
      · replace h := h.1 hc
        refine Ev_rn (q := (34, [(15, 80), (0, idxOf SIGNSL (i2c (m 81 (m 80 9))) 0), (0, w32 (3 + (idxOf SIGNSL (i2c (m 81 (m 80 9))) 0))), (0, 0)], [(0, 0)], m1)) 3 rfl ?_
        refine Ev_if rfl (fun _ => ?_) (fun hc => absurd (by simp [cmpP]) hc)
        refine Ev_rn (q := (48, [(15, 80), (0, idxOf SIGNSL (i2c (m 81 (m 80 9))) 0), (0, w32 (3 + (idxOf SIGNSL (i2c (m 81 (m 80 9))) 0))), (0, 0)], [(0, w32 (3 + (idxOf SIGNSL (i2c (m 81 (m 80 9))) 0)))], m1)) 1 rfl ?_
        exact Ev_ret rfl rfl h
      · replace h := h.2 hc
        exact h
  · replace h := h.2 hc
    refine Ev_rn (q := (18, [(15, 80), (0, idxOf SIGNSL (i2c (m 81 (m 80 9))) 0), (9, 0), (9, 0)], [(0, 1)], m1)) 1 rfl ?_
    exact Ev_ret rfl rfl h
theorem b_Rd_signRead_29 {d : Nat} {r : Option Vv × Mm} {m : Mm} {x1 x2 : Int} {u3 : Vv} (h : (m 80 1 ≤ m 80 9 → r = (some (0, x2), m)) ∧ (¬ (m 80 1 ≤ m 80 9) → (0 ≤ m 80 9 ∧ m 80 9 < 300) ∧ ((m 81 (m 80 9) = 61 → ∀ m1 : Mm, m1 = up m 80 9 (w32 ((m 80 9) + 1)) → ((¬ x2 = 3 → r = (some (0, 15), m1)) ∧ (¬ (¬ x2 = 3) → r = (some (0, 14), m1)))) ∧ (¬ (m 81 (m 80 9) = 61) → r = (some (0, x2), m))))) : Ev d K_Rd_signRead 0 29 [(15, 80), (0, x1), (0, x2), u3] [] m r := by
  refine Ev_rn (q := (34, [(15, 80), (0, x1), (0, x2), (0, 1)], [(0, 1)], m)) 4 rfl ?_
  refine Ev_if rfl (fun hc => absurd hc (by simp [cmpP])) (fun _ => ?_)
  refine Ev_rn (q := (39, [(15, 80), (0, x1), (0, x2), (0, 1)], [(0, m 80 1), (0, m 80 9)], m)) 4 rfl ?_
  refine Ev_icmp rfl (fun hc => ?_) (fun hc => ?_)
  · replace h := h.1 hc
    refine Ev_rn (q := (48, [(15, 80), (0, x1), (0, x2), (0, 1)], [(0, x2)], m)) 1 rfl ?_
    exact Ev_ret rfl rfl h
  · replace h := h.2 hc
    refine Ev_rn (q := (44, [(15, 80), (0, x1), (0, x2), (0, 1)], [(0, m 80 9), (2500, 81)], m)) 4 rfl ?_
    obtain ⟨hc, h⟩ := h
    refine Ev_iald (n := 300) rfl (by decide) (by decide) hc ?_
    refine Ev_rn (q := (46, [(15, 80), (0, x1), (0, x2), (0, 1)], [(0, 61), (0, m 81 (m 80 9))], m)) 1 rfl ?_
    refine Ev_icmp rfl (fun hc => ?_) (fun hc => ?_)
    · replace h := h.1 hc
      refine Ev_rn (q := (55, [(15, 80), (0, x1), (0, x2), (0, 1)], [], up m 80 9 (w32 ((m 80 9) + 1)))) 6 rfl ?_
      generalize e1 : up m 80 9 (w32 ((m 80 9) + 1)) = m1
      replace h := h m1 e1.symm
      refine Ev_rn (q := (57, [(15, 80), (0, x1), (0, x2), (0, 1)], [(0, 3), (0, x2)], m1)) 2 rfl ?_
      refine Ev_icmp rfl (fun hc => ?_) (fun hc => ?_)
      · replace h := h.1 hc
        refine Ev_rn (q := (61, [(15, 80), (0, x1), (0, x2), (0, 1)], [(0, 15)], m1)) 1 rfl ?_
        exact Ev_ret rfl rfl h
      · replace h := h.2 hc
        refine Ev_rn (q := (61, [(15, 80), (0, x1), (0, x2), (0, 1)], [(0, 14)], m1)) 2 rfl ?_
        exact Ev_ret rfl rfl h
    · replace h := h.2 hc
      refine Ev_rn (q := (48, [(15, 80), (0, x1), (0, x2), (0, 1)], [(0, x2)], m)) 1 rfl ?_
      exact Ev_ret rfl rfl h
theorem b_Tx_clear {d : Nat} {r : Option Vv × Mm} {m : Mm} {o0 : Int} (h : ∀ m1 : Mm, m1 = up m o0 0 0 → (∀ m2 : Mm, m2 = up m1 o0 5 0 → (∀ m3 : Mm, m3 = up m2 o0 6 0 → (∀ m4 : Mm, m4 = up m3 o0 9 0 → (r = (none, m4)))))) : Ev d K_Tx_clear 3 0 [(16, o0)] [] m r := by
  refine Ev_rn (q := (3, [(16, o0)], [], up m o0 0 0)) 3 rfl ?_
  generalize e1 : up m o0 0 0 = m1
  replace h := h m1 e1.symm
  refine Ev_rn (q := (6, [(16, o0)], [], up m1 o0 5 0)) 3 rfl ?_
  generalize e2 : up m1 o0 5 0 = m2
  replace h := h m2 e2.symm
  refine Ev_rn (q := (8, [(16, o0)], [(0, 0), (16, o0)], m2)) 2 rfl ?_
  refine Ev_ptz (c := 6) (k := 6) rfl (by decide) (by decide) ?_
  generalize e3 : up m2 o0 6 0 = m3
  replace h := h m3 e3.symm
  refine Ev_rn (q := (11, [(16, o0)], [(0, 0), (16, o0)], m3)) 2 rfl ?_
  refine Ev_ptz (c := 6) (k := 9) rfl (by decide) (by decide) ?_
  generalize e4 : up m3 o0 9 0 = m4
  replace h := h m4 e4.symm
  exact Ev_ret rfl rfl h
theorem b_Tx_copyFrom {d : Nat} {r : Option Vv × Mm} {m : Mm} {o0 o1 : Int} (h : ∀ m1 : Mm, m1 = up m o0 0 (m o1 0) → (∀ m2 : Mm, m2 = cpy m1 (o1 + 1) 0 (o0 + 1) 0 24 → (∀ m3 : Mm, m3 = cpy m2 (o1 + 2) 0 (o0 + 2) 0 24 → (∀ m4 : Mm, m4 = cpy m3 (o1 + 3) 0 (o0 + 3) 0 24 → (∀ m5 : Mm, m5 = up m4 o0 5 (m4 o1 5) → (∀ m6 : Mm, m6 = cpy m5 (o1 + 4) 0 (o0 + 4) 0 300 → ((m6 o1 6 = 0 ∨ m6 o1 6 = 1) ∧ (∀ m7 : Mm, m7 = up m6 o0 6 (m6 o1 6) → (∀ m8 : Mm, m8 = up m7 o0 7 (m7 o1 7) → (∀ m9 : Mm, m9 = up m8 o0 8 (m8 o1 8) → ((m9 o1 9 = 0 ∨ m9 o1 9 = 1) ∧ (∀ m10 : Mm, m10 = up m9 o0 9 (m9 o1 9) → (∀ m11 : Mm, m11 = up m10 o0 10 (m10 o1 10) → (∀ m12 : Mm, m12 = up m11 o0 11 (m11 o1 11) → (r = (none, m12)))))))))))))))) : Ev d K_Tx_copyFrom 3 0 [(16, o0), (16, o1)] [] m r := by
  refine Ev_rn (q := (4, [(16, o0), (16, o1)], [], up m o0 0 (m o1 0))) 4 rfl ?_
  generalize e1 : up m o0 0 (m o1 0) = m1
  replace h := h m1 e1.symm
  refine Ev_rn (q := (11, [(16, o0), (16, o1)], [(0, 24), (0, 0), (292, o0 + 1), (0, 0), (292, o1 + 1)], m1)) 7 rfl ?_
  refine Ev_acp (ls := 24) (ld := 24) rfl (by decide) (by decide) (by decide) ?_
  generalize e2 : cpy m1 (o1 + 1) 0 (o0 + 1) 0 24 = m2
  replace h := h m2 e2.symm
  refine Ev_rn (q := (19, [(16, o0), (16, o1)], [(0, 24), (0, 0), (292, o0 + 2), (0, 0), (292, o1 + 2)], m2)) 7 rfl ?_
  refine Ev_acp (ls := 24) (ld := 24) rfl (by decide) (by decide) (by decide) ?_
  generalize e3 : cpy m2 (o1 + 2) 0 (o0 + 2) 0 24 = m3
  replace h := h m3 e3.symm
  refine Ev_rn (q := (27, [(16, o0), (16, o1)], [(0, 24), (0, 0), (292, o0 + 3), (0, 0), (292, o1 + 3)], m3)) 7 rfl ?_
  refine Ev_acp (ls := 24) (ld := 24) rfl (by decide) (by decide) (by decide) ?_
  generalize e4 : cpy m3 (o1 + 3) 0 (o0 + 3) 0 24 = m4
  replace h := h m4 e4.symm
  refine Ev_rn (q := (32, [(16, o0), (16, o1)], [], up m4 o0 5 (m4 o1 5))) 4 rfl ?_
  generalize e5 : up m4 o0 5 (m4 o1 5) = m5
  replace h := h m5 e5.symm
  refine Ev_rn (q := (39, [(16, o0), (16, o1)], [(0, 300), (0, 0), (2500, o0 + 4), (0, 0), (2500, o1 + 4)], m5)) 7 rfl ?_
  refine Ev_acp (ls := 300) (ld := 300) rfl (by decide) (by decide) (by decide) ?_
  generalize e6 : cpy m5 (o1 + 4) 0 (o0 + 4) 0 300 = m6
  replace h := h m6 e6.symm
  refine Ev_rn (q := (43, [(16, o0), (16, o1)], [(0, m6 o1 6), (16, o0)], m6)) 3 rfl ?_
  obtain ⟨hc, h⟩ := h
  refine Ev_ptz (c := 6) (k := 6) rfl (by decide) hc ?_
  generalize e7 : up m6 o0 6 (m6 o1 6) = m7
  replace h := h m7 e7.symm
  refine Ev_rn (q := (48, [(16, o0), (16, o1)], [], up m7 o0 7 (m7 o1 7))) 4 rfl ?_
  generalize e8 : up m7 o0 7 (m7 o1 7) = m8
  replace h := h m8 e8.symm
  refine Ev_rn (q := (52, [(16, o0), (16, o1)], [], up m8 o0 8 (m8 o1 8))) 4 rfl ?_
  generalize e9 : up m8 o0 8 (m8 o1 8) = m9
  replace h := h m9 e9.symm
  refine Ev_rn (q := (55, [(16, o0), (16, o1)], [(0, m9 o1 9), (16, o0)], m9)) 3 rfl ?_
  obtain ⟨hc, h⟩ := h
  refine Ev_ptz (c := 6) (k := 9) rfl (by decide) hc ?_
  generalize e10 : up m9 o0 9 (m9 o1 9) = m10
  replace h := h m10 e10.symm
  refine Ev_rn (q := (60, [(16, o0), (16, o1)], [], up m10 o0 10 (m10 o1 10))) 4 rfl ?_
  generalize e11 : up m10 o0 10 (m10 o1 10) = m11
  replace h := h m11 e11.symm
  refine Ev_rn (q := (64, [(16, o0), (16, o1)], [], up m11 o0 11 (m11 o1 11))) 4 rfl ?_
  generalize e12 : up m11 o0 11 (m11 o1 11) = m12
  replace h := h m12 e12.symm
  exact Ev_ret rfl rfl h
theorem b_Tx_addClause {d : Nat} {r : Option Vv × Mm} {m : Mm} {o0 x1 x2 x3 : Int} (h : (24 ≤ m o0 0 → r = (none, m)) ∧ (¬ (24 ≤ m o0 0) → (0 ≤ m o0 0 ∧ m o0 0 < 24) ∧ (∀ m1 : Mm, m1 = up m (o0 + 1) (m o0 0) x1 → ((0 ≤ m1 o0 0 ∧ m1 o0 0 < 24) ∧ (∀ m2 : Mm, m2 = up m1 (o0 + 2) (m1 o0 0) x2 → ((0 ≤ m2 o0 0 ∧ m2 o0 0 < 24) ∧ (∀ m3 : Mm, m3 = up m2 (o0 + 3) (m2 o0 0) x3 → (∀ m4 : Mm, m4 = up m3 o0 0 (w32 ((m3 o0 0) + 1)) → (r = (none, m4)))))))))) : Ev d K_Tx_addClause 3 0 [(16, o0), (0, x1), (0, x2), (0, x3)] [] m r := by
  refine Ev_rn (q := (3, [(16, o0), (0, x1), (0, x2), (0, x3)], [(0, 24), (0, m o0 0)], m)) 3 rfl ?_
  refine Ev_icmp rfl (fun hc => ?_) (fun hc => ?_)
  · replace h := h.1 hc
    exact Ev_ret rfl rfl h
  · replace h := h.2 hc
    refine Ev_rn (q := (9, [(16, o0), (0, x1), (0, x2), (0, x3)], [(0, x1), (0, m o0 0), (292, o0 + 1)], m)) 5 rfl ?_
    obtain ⟨hc, h⟩ := h
    refine Ev_iast (n := 24) rfl (by decide) (by decide) hc ?_
    generalize e1 : up m (o0 + 1) (m o0 0) x1 = m1
    replace h := h m1 e1.symm
    refine Ev_rn (q := (15, [(16, o0), (0, x1), (0, x2), (0, x3)], [(0, x2), (0, m1 o0 0), (292, o0 + 2)], m1)) 5 rfl ?_
    obtain ⟨hc, h⟩ := h
    refine Ev_iast (n := 24) rfl (by decide) (by decide) hc ?_
    generalize e2 : up m1 (o0 + 2) (m1 o0 0) x2 = m2
    replace h := h m2 e2.symm
    refine Ev_rn (q := (21, [(16, o0), (0, x1), (0, x2), (0, x3)], [(0, x3), (0, m2 o0 0), (292, o0 + 3)], m2)) 5 rfl ?_
    obtain ⟨hc, h⟩ := h
    refine Ev_iast (n := 24) rfl (by decide) (by decide) hc ?_
    generalize e3 : up m2 (o0 + 3) (m2 o0 0) x3 = m3
    replace h := h m3 e3.symm
    refine Ev_rn (q := (28, [(16, o0), (0, x1), (0, x2), (0, x3)], [], up m3 o0 0 (w32 ((m3 o0 0) + 1)))) 6 rfl ?_
    generalize e4 : up m3 o0 0 (w32 ((m3 o0 0) + 1)) = m4
    replace h := h m4 e4.symm
    exact Ev_ret rfl rfl h
theorem b_Tx_has {d : Nat} {r : Option Vv × Mm} {m : Mm} {o0 x1 : Int} (h : (¬ x1 = 16 → (m o0 9 = 0 ∨ m o0 9 = 1) ∧ r = (some (0, m o0 9), m)) ∧ (¬ (¬ x1 = 16) → (m o0 6 = 0 ∨ m o0 6 = 1) ∧ r = (some (0, m o0 6), m))) : Ev d K_Tx_has 2 0 [(16, o0), (0, x1)] [] m r := by
  refine Ev_rn (q := (2, [(16, o0), (0, x1)], [(0, 16), (0, x1)], m)) 2 rfl ?_
  refine Ev_icmp rfl (fun hc => ?_) (fun hc => ?_)
  · replace h := h.1 hc
    refine Ev_rn (q := (8, [(16, o0), (0, x1)], [(0, m o0 9)], m)) 2 rfl ?_
    exact Ev_zret rfl rfl h.1 h.2
  · replace h := h.2 hc
    refine Ev_rn (q := (8, [(16, o0), (0, x1)], [(0, m o0 6)], m)) 3 rfl ?_
    exact Ev_zret rfl rfl h.1 h.2
theorem b_Tx_beginLaw {d : Nat} {r : Option Vv × Mm} {m : Mm} {o0 x1 : Int} (h : ∃ (m1 : Mm), Cl d k_Tx_addClause [(16, o0), (0, x1), (0, 0), (0, 0)] m (none, m1) ∧ ((¬ x1 = 16 → ∀ m2 : Mm, m2 = up m1 o0 9 1 → (∀ m3 : Mm, m3 = up m2 o0 10 (m2 o0 5) → (r = (none, m3)))) ∧ (¬ (¬ x1 = 16) → ∀ m4 : Mm, m4 = up m1 o0 6 1 → (∀ m5 : Mm, m5 = up m4 o0 7 (m4 o0 5) → (r = (none, m5)))))) : Ev (d + 1) K_Tx_beginLaw 3 0 [(16, o0), (0, x1)] [] m r := by
  refine Ev_rn (q := (4, [(16, o0), (0, x1)], [(0, 0), (0, 0), (0, x1), (16, o0)], m)) 4 rfl ?_
  obtain ⟨m1, hc, h⟩ := h
  refine Ev_call (rest := []) rfl rfl (Nat.le_of_ble_eq_true rfl) hc ?_
  refine Ev_rn (q := (7, [(16, o0), (0, x1)], [(0, 16), (0, x1)], m1)) 2 rfl ?_
  refine Ev_icmp rfl (fun hc => ?_) (fun hc => ?_)
  · replace h := h.1 hc
    refine Ev_rn (q := (18, [(16, o0), (0, x1)], [(0, 1), (16, o0)], m1)) 2 rfl ?_
    refine Ev_ptz (c := 6) (k := 9) rfl (by decide) (by decide) ?_
    generalize e2 : up m1 o0 9 1 = m2
    replace h := h m2 e2.symm
    refine Ev_rn (q := (23, [(16, o0), (0, x1)], [], up m2 o0 10 (m2 o0 5))) 4 rfl ?_
    generalize e3 : up m2 o0 10 (m2 o0 5) = m3
    replace h := h m3 e3.symm
    exact Ev_ret rfl rfl h
  · replace h := h.2 hc
    refine Ev_rn (q := (10, [(16, o0), (0, x1)], [(0, 1), (16, o0)], m1)) 2 rfl ?_
    refine Ev_ptz (c := 6) (k := 6) rfl (by decide) (by decide) ?_
    generalize e4 : up m1 o0 6 1 = m4
    replace h := h m4 e4.symm
    refine Ev_rn (q := (15, [(16, o0), (0, x1)], [], up m4 o0 7 (m4 o0 5))) 4 rfl ?_
    generalize e5 : up m4 o0 7 (m4 o0 5) = m5
    replace h := h m5 e5.symm
    refine Ev_rn (q := (23, [(16, o0), (0, x1)], [], m5)) 1 rfl ?_
    exact Ev_ret rfl rfl h
theorem b_Tx_endLaw {d : Nat} {r : Option Vv × Mm} {m : Mm} {o0 x1 : Int} (h : (¬ x1 = 16 → ∀ m1 : Mm, m1 = up m o0 11 (m o0 5) → (r = (none, m1))) ∧ (¬ (¬ x1 = 16) → ∀ m2 : Mm, m2 = up m o0 8 (m o0 5) → (r = (none, m2)))) : Ev d K_Tx_endLaw 3 0 [(16, o0), (0, x1)] [] m r := by
  refine Ev_rn (q := (2, [(16, o0), (0, x1)], [(0, 16), (0, x1)], m)) 2 rfl ?_
  refine Ev_icmp rfl (fun hc => ?_) (fun hc => ?_)
  · replace h := h.1 hc
    refine Ev_rn (q := (12, [(16, o0), (0, x1)], [], up m o0 11 (m o0 5))) 4 rfl ?_
    generalize e1 : up m o0 11 (m o0 5) = m1
    replace h := h m1 e1.symm
    exact Ev_ret rfl rfl h
  · replace h := h.2 hc
    refine Ev_rn (q := (7, [(16, o0), (0, x1)], [], up m o0 8 (m o0 5))) 4 rfl ?_
    generalize e2 : up m o0 8 (m o0 5) = m2
    replace h := h m2 e2.symm
    refine Ev_rn (q := (12, [(16, o0), (0, x1)], [], m2)) 1 rfl ?_
    exact Ev_ret rfl rfl h
theorem b_Tx_emit {d : Nat} {r : Option Vv × Mm} {m : Mm} {o0 x1 x2 : Int} (h : (300 ≤ m o0 5 → r = (some (0, 1), m)) ∧ (¬ (300 ≤ m o0 5) → (0 ≤ m o0 5 ∧ m o0 5 < 300) ∧ (∀ m1 : Mm, m1 = up m (o0 + 4) (m o0 5) (w32 (x1 + (w32 (x2 * 64)))) → (∀ m2 : Mm, m2 = up m1 o0 5 (w32 ((m1 o0 5) + 1)) → (r = (some (0, 1), m2)))))) : Ev d K_Tx_emit 2 0 [(16, o0), (0, x1), (0, x2)] [] m r := by
  refine Ev_rn (q := (3, [(16, o0), (0, x1), (0, x2)], [(0, 300), (0, m o0 5)], m)) 3 rfl ?_
  refine Ev_icmp rfl (fun hc => ?_) (fun hc => ?_)
  · replace h := h.1 hc
    refine Ev_rn (q := (21, [(16, o0), (0, x1), (0, x2)], [(0, 1)], m)) 1 rfl ?_
    exact Ev_zret rfl rfl (by decide) h
  · replace h := h.2 hc
    refine Ev_rn (q := (13, [(16, o0), (0, x1), (0, x2)], [(0, w32 (x1 + (w32 (x2 * 64)))), (0, m o0 5), (2500, o0 + 4)], m)) 9 rfl ?_
    obtain ⟨hc, h⟩ := h
    refine Ev_iast (n := 300) rfl (by decide) (by decide) hc ?_
    generalize e1 : up m (o0 + 4) (m o0 5) (w32 (x1 + (w32 (x2 * 64)))) = m1
    replace h := h m1 e1.symm
    refine Ev_rn (q := (20, [(16, o0), (0, x1), (0, x2)], [], up m1 o0 5 (w32 ((m1 o0 5) + 1)))) 6 rfl ?_
    generalize e2 : up m1 o0 5 (w32 ((m1 o0 5) + 1)) = m2
    replace h := h m2 e2.symm
    refine Ev_rn (q := (21, [(16, o0), (0, x1), (0, x2)], [(0, 1)], m2)) 1 rfl ?_
    exact Ev_zret rfl rfl (by decide) h
theorem b_Tx_landHere {d : Nat} {r : Option Vv × Mm} {m : Mm} {o0 x1 : Int} (h : (x1 < 0 → r = (none, m)) ∧ (¬ (x1 < 0) → (m o0 5 ≤ x1 → r = (none, m)) ∧ (¬ (m o0 5 ≤ x1) → (0 ≤ x1 ∧ x1 < 300) ∧ ((0 ≤ x1 ∧ x1 < 300) ∧ (∀ m1 : Mm, m1 = up m (o0 + 4) x1 (w32 ((irm (m (o0 + 4) x1) 64) + (w32 ((m o0 5) * 64)))) → (r = (none, m1))))))) : Ev d K_Tx_landHere 3 0 [(16, o0), (0, x1)] [] m r := by
  refine Ev_rn (q := (1, [(16, o0), (0, x1)], [(0, x1)], m)) 1 rfl ?_
  refine Ev_if rfl (fun hc => ?_) (fun hc => ?_)
  · replace h := h.1 hc
    exact Ev_ret rfl rfl h
  · replace h := h.2 hc
    refine Ev_rn (q := (5, [(16, o0), (0, x1)], [(0, m o0 5), (0, x1)], m)) 3 rfl ?_
    refine Ev_icmp rfl (fun hc => ?_) (fun hc => ?_)
    · replace h := h.1 hc
      exact Ev_ret rfl rfl h
    · replace h := h.2 hc
      refine Ev_rn (q := (12, [(16, o0), (0, x1)], [(0, x1), (2500, o0 + 4), (0, x1), (2500, o0 + 4)], m)) 6 rfl ?_
      obtain ⟨hc, h⟩ := h
      refine Ev_iald (n := 300) rfl (by decide) (by decide) hc ?_
      refine Ev_rn (q := (14, [(16, o0), (0, x1)], [(0, 64), (0, m (o0 + 4) x1), (0, x1), (2500, o0 + 4)], m)) 1 rfl ?_
      refine Ev_irem rfl (by decide) ?_
      refine Ev_rn (q := (20, [(16, o0), (0, x1)], [(0, w32 ((irm (m (o0 + 4) x1) 64) + (w32 ((m o0 5) * 64)))), (0, x1), (2500, o0 + 4)], m)) 5 rfl ?_
      obtain ⟨hc, h⟩ := h
      refine Ev_iast (n := 300) rfl (by decide) (by decide) hc ?_
      generalize e1 : up m (o0 + 4) x1 (w32 ((irm (m (o0 + 4) x1) 64) + (w32 ((m o0 5) * 64)))) = m1
      replace h := h m1 e1.symm
      exact Ev_ret rfl rfl h
theorem b_Th_hand {d : Nat} {r : Option Vv × Mm} {m : Mm} {x1 x2 : Int} (h : (x1 < 0 → r = (some (0, (-1)), m)) ∧ (¬ (x1 < 0) → (1048575 < x1 → r = (some (0, (-1)), m)) ∧ (¬ (1048575 < x1) → (x2 < 0 → r = (some (0, (-1)), m)) ∧ (¬ (x2 < 0) → (1048575 < x2 → r = (some (0, (-1)), m)) ∧ (¬ (1048575 < x2) → (m 128 5 < 4 → ∃ (m1 : Mm), Cl d k_Ha_keep [(11, 1), (0, m 128 5), (1, lro x1 (lsl x2 20))] m (none, m1) ∧ (∀ m2 : Mm, m2 = up m1 128 5 (w32 ((m1 128 5) + 1)) → (r = (some (0, w32 ((m2 128 5) - 1)), m2)))) ∧ (¬ (m 128 5 < 4) → r = (some (0, (-1)), m))))))) : Ev (d + 1) K_Th_hand 0 0 [(17, 0), (0, x1), (0, x2)] [] m r := by
  refine Ev_rn (q := (1, [(17, 0), (0, x1), (0, x2)], [(0, x1)], m)) 1 rfl ?_
  refine Ev_if rfl (fun hc => ?_) (fun hc => ?_)
  · replace h := h.1 hc
    refine Ev_rn (q := (16, [(17, 0), (0, x1), (0, x2)], [(0, (-1))], m)) 1 rfl ?_
    exact Ev_ret rfl rfl h
  · replace h := h.2 hc
    refine Ev_rn (q := (4, [(17, 0), (0, x1), (0, x2)], [(0, 1048575), (0, x1)], m)) 2 rfl ?_
    refine Ev_icmp rfl (fun hc => ?_) (fun hc => ?_)
    · replace h := h.1 hc
      refine Ev_rn (q := (16, [(17, 0), (0, x1), (0, x2)], [(0, (-1))], m)) 1 rfl ?_
      exact Ev_ret rfl rfl h
    · replace h := h.2 hc
      refine Ev_rn (q := (6, [(17, 0), (0, x1), (0, x2)], [(0, x2)], m)) 1 rfl ?_
      refine Ev_if rfl (fun hc => ?_) (fun hc => ?_)
      · replace h := h.1 hc
        refine Ev_rn (q := (16, [(17, 0), (0, x1), (0, x2)], [(0, (-1))], m)) 1 rfl ?_
        exact Ev_ret rfl rfl h
      · replace h := h.2 hc
        refine Ev_rn (q := (9, [(17, 0), (0, x1), (0, x2)], [(0, 1048575), (0, x2)], m)) 2 rfl ?_
        refine Ev_icmp rfl (fun hc => ?_) (fun hc => ?_)
        · replace h := h.1 hc
          refine Ev_rn (q := (16, [(17, 0), (0, x1), (0, x2)], [(0, (-1))], m)) 1 rfl ?_
          exact Ev_ret rfl rfl h
        · replace h := h.2 hc
          refine Ev_rn (q := (14, [(17, 0), (0, x1), (0, x2)], [(0, 4), (0, m 128 5)], m)) 4 rfl ?_
          refine Ev_icmp rfl (fun hc => ?_) (fun hc => ?_)
          · replace h := h.1 hc
            refine Ev_rn (q := (29, [(17, 0), (0, x1), (0, x2)], [(1, lro x1 (lsl x2 20)), (0, m 128 5), (11, 1)], m)) 12 rfl ?_
            obtain ⟨m1, hc, h⟩ := h
            refine Ev_call (rest := []) rfl rfl (Nat.le_of_ble_eq_true rfl) hc ?_
            refine Ev_rn (q := (37, [(17, 0), (0, x1), (0, x2)], [], up m1 128 5 (w32 ((m1 128 5) + 1)))) 7 rfl ?_
            generalize e2 : up m1 128 5 (w32 ((m1 128 5) + 1)) = m2
            replace h := h m2 e2.symm
            refine Ev_rn (q := (42, [(17, 0), (0, x1), (0, x2)], [(0, w32 ((m2 128 5) - 1))], m2)) 5 rfl ?_
            exact Ev_ret rfl rfl h
          · replace h := h.2 hc
            refine Ev_rn (q := (16, [(17, 0), (0, x1), (0, x2)], [(0, (-1))], m)) 1 rfl ?_
            exact Ev_ret rfl rfl h
theorem b_Th_cow {d : Nat} {r : Option Vv × Mm} {m : Mm} {x1 x2 : Int} (h : ∃ (v1 : Int) (m1 : Mm), Cl d k_Pl_isCell [(0, x1)] m (some (0, v1), m1) ∧ ((v1 = 0 → r = (some (0, (-1)), m1)) ∧ (¬ (v1 = 0) → ∃ (v2 : Int) (m2 : Mm), Cl d k_Pl_isWay [(0, x2)] m1 (some (0, v2), m2) ∧ ((¬ v2 = 0 → ∃ (v3 : Int) (m3 : Mm), Cl d k_La_tellCow [(13, 129), (0, x1), (0, x2)] m2 (some (0, v3), m3) ∧ (r = (some (0, v3), m3))) ∧ (¬ (¬ v2 = 0) → r = (some (0, (-1)), m2)))))) : Ev (d + 1) K_Th_cow 0 0 [(17, 0), (0, x1), (0, x2)] [] m r := by
  refine Ev_rn (q := (1, [(17, 0), (0, x1), (0, x2)], [(0, x1)], m)) 1 rfl ?_
  obtain ⟨v1, m1, hc, h⟩ := h
  refine Ev_call (rest := []) rfl rfl (Nat.le_of_ble_eq_true rfl) hc ?_
  refine Ev_if rfl (fun hc => ?_) (fun hc => ?_)
  · replace h := h.1 hc
    refine Ev_rn (q := (7, [(17, 0), (0, x1), (0, x2)], [(0, (-1))], m1)) 1 rfl ?_
    exact Ev_ret rfl rfl h
  · replace h := h.2 hc
    refine Ev_rn (q := (4, [(17, 0), (0, x1), (0, x2)], [(0, x2)], m1)) 1 rfl ?_
    obtain ⟨v2, m2, hc, h⟩ := h
    refine Ev_call (rest := []) rfl rfl (Nat.le_of_ble_eq_true rfl) hc ?_
    refine Ev_if rfl (fun hc => ?_) (fun hc => ?_)
    · replace h := h.1 hc
      refine Ev_rn (q := (13, [(17, 0), (0, x1), (0, x2)], [(0, x2), (0, x1), (13, 129)], m2)) 5 rfl ?_
      obtain ⟨v3, m3, hc, h⟩ := h
      refine Ev_call (rest := []) rfl rfl (Nat.le_of_ble_eq_true rfl) hc ?_
      exact Ev_ret rfl rfl h
    · replace h := h.2 hc
      refine Ev_rn (q := (7, [(17, 0), (0, x1), (0, x2)], [(0, (-1))], m2)) 1 rfl ?_
      exact Ev_ret rfl rfl h
theorem b_Th_gate {d : Nat} {r : Option Vv × Mm} {m : Mm} {x1 x2 : Int} (h : ∃ (v1 : Int) (m1 : Mm), Cl d k_Pl_isCell [(0, x1)] m (some (0, v1), m1) ∧ ((v1 = 0 → r = (some (0, 0), m1)) ∧ (¬ (v1 = 0) → (¬ ian (isr 33080895 x1) 1 = 0 → (x2 = 0 → ∀ m2 : Mm, m2 = up m1 128 4 (ian (m1 128 4) (ixo (isl 1 x1) (-1))) → (r = (some (0, 1), m2))) ∧ (¬ (x2 = 0) → ∀ m3 : Mm, m3 = up m1 128 4 (iro (m1 128 4) (isl 1 x1)) → (r = (some (0, 1), m3)))) ∧ (¬ (¬ ian (isr 33080895 x1) 1 = 0) → r = (some (0, 0), m1))))) : Ev (d + 1) K_Th_gate 2 0 [(17, 0), (0, x1), (0, x2)] [] m r := by
  refine Ev_rn (q := (1, [(17, 0), (0, x1), (0, x2)], [(0, x1)], m)) 1 rfl ?_
  obtain ⟨v1, m1, hc, h⟩ := h
  refine Ev_call (rest := []) rfl rfl (Nat.le_of_ble_eq_true rfl) hc ?_
  refine Ev_if rfl (fun hc => ?_) (fun hc => ?_)
  · replace h := h.1 hc
    refine Ev_rn (q := (10, [(17, 0), (0, x1), (0, x2)], [(0, 0)], m1)) 1 rfl ?_
    exact Ev_zret rfl rfl (by decide) h
  · replace h := h.2 hc
    refine Ev_rn (q := (8, [(17, 0), (0, x1), (0, x2)], [(0, ian (isr 33080895 x1) 1)], m1)) 5 rfl ?_
    refine Ev_if rfl (fun hc => ?_) (fun hc => ?_)
    · replace h := h.1 hc
      refine Ev_rn (q := (14, [(17, 0), (0, x1), (0, x2)], [(0, x2), (10, 128)], m1)) 3 rfl ?_
      refine Ev_if rfl (fun hc => ?_) (fun hc => ?_)
      · replace h := h.1 hc
        refine Ev_rn (q := (33, [(17, 0), (0, x1), (0, x2)], [], up m1 128 4 (ian (m1 128 4) (ixo (isl 1 x1) (-1))))) 10 rfl ?_
        generalize e2 : up m1 128 4 (ian (m1 128 4) (ixo (isl 1 x1) (-1))) = m2
        replace h := h m2 e2.symm
        refine Ev_rn (q := (34, [(17, 0), (0, x1), (0, x2)], [(0, 1)], m2)) 1 rfl ?_
        exact Ev_zret rfl rfl (by decide) h
      · replace h := h.2 hc
        refine Ev_rn (q := (33, [(17, 0), (0, x1), (0, x2)], [], up m1 128 4 (iro (m1 128 4) (isl 1 x1)))) 9 rfl ?_
        generalize e3 : up m1 128 4 (iro (m1 128 4) (isl 1 x1)) = m3
        replace h := h m3 e3.symm
        refine Ev_rn (q := (34, [(17, 0), (0, x1), (0, x2)], [(0, 1)], m3)) 1 rfl ?_
        exact Ev_zret rfl rfl (by decide) h
    · replace h := h.2 hc
      refine Ev_rn (q := (10, [(17, 0), (0, x1), (0, x2)], [(0, 0)], m1)) 1 rfl ?_
      exact Ev_zret rfl rfl (by decide) h
theorem b_Th_feed {d : Nat} {r : Option Vv × Mm} {m : Mm} {x1 x2 x3 x4 x5 : Int} (h : ∃ (v1 : Int) (m1 : Mm), Cl d k_Rd_hasRoomFor [(15, 80), (0, 20)] m (some (0, v1), m1) ∧ ((¬ v1 = 0 → ∃ (m2 : Mm), Cl d k_Rd_addFour [(15, 80), (0, x1)] m1 (none, m2) ∧ (∃ (m3 : Mm), Cl d k_Rd_addFour [(15, 80), (0, x2)] m2 (none, m3) ∧ (∃ (m4 : Mm), Cl d k_Rd_addFour [(15, 80), (0, x3)] m3 (none, m4) ∧ (∃ (m5 : Mm), Cl d k_Rd_addFour [(15, 80), (0, x4)] m4 (none, m5) ∧ (∃ (m6 : Mm), Cl d k_Rd_addFour [(15, 80), (0, x5)] m5 (none, m6) ∧ (r = (some (0, m6 80 1), m6))))))) ∧ (¬ (¬ v1 = 0) → r = (some (0, (-1)), m1)))) : Ev (d + 1) K_Th_feed 0 0 [(17, 0), (0, x1), (0, x2), (0, x3), (0, x4), (0, x5)] [] m r := by
  refine Ev_rn (q := (3, [(17, 0), (0, x1), (0, x2), (0, x3), (0, x4), (0, x5)], [(0, 20), (15, 80)], m)) 3 rfl ?_
  obtain ⟨v1, m1, hc, h⟩ := h
  refine Ev_call (rest := []) rfl rfl (Nat.le_of_ble_eq_true rfl) hc ?_
  refine Ev_if rfl (fun hc => ?_) (fun hc => ?_)
  · replace h := h.1 hc
    refine Ev_rn (q := (10, [(17, 0), (0, x1), (0, x2), (0, x3), (0, x4), (0, x5)], [(0, x1), (15, 80)], m1)) 3 rfl ?_
    obtain ⟨m2, hc, h⟩ := h
    refine Ev_call (rest := []) rfl rfl (Nat.le_of_ble_eq_true rfl) hc ?_
    refine Ev_rn (q := (14, [(17, 0), (0, x1), (0, x2), (0, x3), (0, x4), (0, x5)], [(0, x2), (15, 80)], m2)) 3 rfl ?_
    obtain ⟨m3, hc, h⟩ := h
    refine Ev_call (rest := []) rfl rfl (Nat.le_of_ble_eq_true rfl) hc ?_
    refine Ev_rn (q := (18, [(17, 0), (0, x1), (0, x2), (0, x3), (0, x4), (0, x5)], [(0, x3), (15, 80)], m3)) 3 rfl ?_
    obtain ⟨m4, hc, h⟩ := h
    refine Ev_call (rest := []) rfl rfl (Nat.le_of_ble_eq_true rfl) hc ?_
    refine Ev_rn (q := (22, [(17, 0), (0, x1), (0, x2), (0, x3), (0, x4), (0, x5)], [(0, x4), (15, 80)], m4)) 3 rfl ?_
    obtain ⟨m5, hc, h⟩ := h
    refine Ev_call (rest := []) rfl rfl (Nat.le_of_ble_eq_true rfl) hc ?_
    refine Ev_rn (q := (26, [(17, 0), (0, x1), (0, x2), (0, x3), (0, x4), (0, x5)], [(0, x5), (15, 80)], m5)) 3 rfl ?_
    obtain ⟨m6, hc, h⟩ := h
    refine Ev_call (rest := []) rfl rfl (Nat.le_of_ble_eq_true rfl) hc ?_
    refine Ev_rn (q := (30, [(17, 0), (0, x1), (0, x2), (0, x3), (0, x4), (0, x5)], [(0, m6 80 1)], m6)) 3 rfl ?_
    exact Ev_ret rfl rfl h
  · replace h := h.2 hc
    refine Ev_rn (q := (6, [(17, 0), (0, x1), (0, x2), (0, x3), (0, x4), (0, x5)], [(0, (-1))], m1)) 1 rfl ?_
    exact Ev_ret rfl rfl h
theorem b_Th_end {d : Nat} {r : Option Vv × Mm} {m : Mm} {x1 : Int} (h : (x1 < 0 → r = (some (0, (-1)), m)) ∧ (¬ (x1 < 0) → (x1 ≤ m 80 1 → ∀ m1 : Mm, m1 = up m 80 1 x1 → (r = (some (0, x1), m1))) ∧ (¬ (x1 ≤ m 80 1) → r = (some (0, (-1)), m)))) : Ev d K_Th_end 0 0 [(17, 0), (0, x1)] [] m r := by
  refine Ev_rn (q := (1, [(17, 0), (0, x1)], [(0, x1)], m)) 1 rfl ?_
  refine Ev_if rfl (fun hc => ?_) (fun hc => ?_)
  · replace h := h.1 hc
    refine Ev_rn (q := (8, [(17, 0), (0, x1)], [(0, (-1))], m)) 1 rfl ?_
    exact Ev_ret rfl rfl h
  · replace h := h.2 hc
    refine Ev_rn (q := (6, [(17, 0), (0, x1)], [(0, m 80 1), (0, x1)], m)) 4 rfl ?_
    refine Ev_icmp rfl (fun hc => ?_) (fun hc => ?_)
    · replace h := h.1 hc
      refine Ev_rn (q := (13, [(17, 0), (0, x1)], [], up m 80 1 x1)) 4 rfl ?_
      generalize e1 : up m 80 1 x1 = m1
      replace h := h m1 e1.symm
      refine Ev_rn (q := (14, [(17, 0), (0, x1)], [(0, x1)], m1)) 1 rfl ?_
      exact Ev_ret rfl rfl h
    · replace h := h.2 hc
      refine Ev_rn (q := (8, [(17, 0), (0, x1)], [(0, (-1))], m)) 1 rfl ?_
      exact Ev_ret rfl rfl h
theorem b_Th_text {d : Nat} {r : Option Vv × Mm} {m : Mm} (h : (m 128 6 < 4 → ∃ (v1 : Int) (m1 : Mm), Cl d k_Rd_reads [(15, 80)] m (some (0, v1), m1) ∧ (∀ m2 : Mm, m2 = up m1 80 1 0 → ((¬ v1 = 0 → (0 ≤ m2 128 6 ∧ m2 128 6 < 4) ∧ (∃ (m3 : Mm), Cl d k_Tx_copyFrom [(16, 3 + 13 + 8 * (m2 128 6)), (16, 82)] m2 (none, m3) ∧ (∀ m4 : Mm, m4 = up m3 128 6 (w32 ((m3 128 6) + 1)) → (r = (some (0, w32 ((m4 128 6) - 1)), m4))))) ∧ (¬ (¬ v1 = 0) → r = (some (0, (-1)), m2))))) ∧ (¬ (m 128 6 < 4) → r = (some (0, (-1)), m))) : Ev (d + 1) K_Th_text 0 0 [(17, 0), (9, 0)] [] m r := by
  refine Ev_rn (q := (4, [(17, 0), (9, 0)], [(0, 4), (0, m 128 6)], m)) 4 rfl ?_
  refine Ev_icmp rfl (fun hc => ?_) (fun hc => ?_)
  · replace h := h.1 hc
    refine Ev_rn (q := (9, [(17, 0), (9, 0)], [(15, 80)], m)) 2 rfl ?_
    obtain ⟨v1, m1, hc, h⟩ := h
    refine Ev_call (rest := []) rfl rfl (Nat.le_of_ble_eq_true rfl) hc ?_
    refine Ev_rn (q := (15, [(17, 0), (0, v1)], [], up m1 80 1 0)) 5 rfl ?_
    generalize e2 : up m1 80 1 0 = m2
    replace h := h m2 e2.symm
    refine Ev_rn (q := (16, [(17, 0), (0, v1)], [(0, v1)], m2)) 1 rfl ?_
    refine Ev_if rfl (fun hc => ?_) (fun hc => ?_)
    · replace h := h.1 hc
      refine Ev_rn (q := (24, [(17, 0), (0, v1)], [(0, m2 128 6), (136, 3)], m2)) 5 rfl ?_
      obtain ⟨hc, h⟩ := h
      refine Ev_aald4 (n := 4) rfl (by decide) (by decide) hc ?_
      refine Ev_rn (q := (28, [(17, 0), (0, v1)], [(16, 82), (16, 3 + 13 + 8 * (m2 128 6))], m2)) 3 rfl ?_
      obtain ⟨m3, hc, h⟩ := h
      refine Ev_call (rest := []) rfl rfl (Nat.le_of_ble_eq_true rfl) hc ?_
      refine Ev_rn (q := (36, [(17, 0), (0, v1)], [], up m3 128 6 (w32 ((m3 128 6) + 1)))) 7 rfl ?_
      generalize e4 : up m3 128 6 (w32 ((m3 128 6) + 1)) = m4
      replace h := h m4 e4.symm
      refine Ev_rn (q := (41, [(17, 0), (0, v1)], [(0, w32 ((m4 128 6) - 1))], m4)) 5 rfl ?_
      exact Ev_ret rfl rfl h
    · replace h := h.2 hc
      refine Ev_rn (q := (18, [(17, 0), (0, v1)], [(0, (-1))], m2)) 1 rfl ?_
      exact Ev_ret rfl rfl h
  · replace h := h.2 hc
    refine Ev_rn (q := (6, [(17, 0), (9, 0)], [(0, (-1))], m)) 1 rfl ?_
    exact Ev_ret rfl rfl h
theorem b_Th_fault {d : Nat} {r : Option Vv × Mm} {m : Mm} {x1 : Int} (h : (¬ m 80 3 = 0 → (¬ x1 = 0 → (¬ x1 = 1 → r = (some (0, (-1)), m)) ∧ (¬ (¬ x1 = 1) → r = (some (0, m 80 5), m))) ∧ (¬ (¬ x1 = 0) → r = (some (0, m 80 4), m))) ∧ (¬ (¬ m 80 3 = 0) → r = (some (0, (-1)), m))) : Ev d K_Th_fault 0 0 [(17, 0), (0, x1)] [] m r := by
  refine Ev_rn (q := (3, [(17, 0), (0, x1)], [(0, m 80 3)], m)) 3 rfl ?_
  refine Ev_if rfl (fun hc => ?_) (fun hc => ?_)
  · replace h := h.1 hc
    refine Ev_rn (q := (7, [(17, 0), (0, x1)], [(0, x1)], m)) 1 rfl ?_
    refine Ev_if rfl (fun hc => ?_) (fun hc => ?_)
    · replace h := h.1 hc
      refine Ev_rn (q := (14, [(17, 0), (0, x1)], [(0, 1), (0, x1)], m)) 2 rfl ?_
      refine Ev_icmp rfl (fun hc => ?_) (fun hc => ?_)
      · replace h := h.1 hc
        refine Ev_rn (q := (20, [(17, 0), (0, x1)], [(0, (-1))], m)) 1 rfl ?_
        exact Ev_ret rfl rfl h
      · replace h := h.2 hc
        refine Ev_rn (q := (20, [(17, 0), (0, x1)], [(0, m 80 5)], m)) 4 rfl ?_
        exact Ev_ret rfl rfl h
    · replace h := h.2 hc
      refine Ev_rn (q := (11, [(17, 0), (0, x1)], [(0, m 80 4)], m)) 3 rfl ?_
      exact Ev_ret rfl rfl h
  · replace h := h.2 hc
    refine Ev_rn (q := (5, [(17, 0), (0, x1)], [(0, (-1))], m)) 1 rfl ?_
    exact Ev_ret rfl rfl h
theorem b_Th_by {d : Nat} {r : Option Vv × Mm} {m : Mm} {x1 : Int} (h : (x1 = (-1) → ∀ m1 : Mm, m1 = up m 128 7 x1 → (r = (some (0, 1), m1))) ∧ (¬ (x1 = (-1)) → ∃ (v2 : Int) (m2 : Mm), Cl d k_Th_isText [(17, 0), (0, x1)] m (some (0, v2), m2) ∧ ((¬ v2 = 0 → ∀ m3 : Mm, m3 = up m2 128 7 x1 → (r = (some (0, 1), m3))) ∧ (¬ (¬ v2 = 0) → r = (some (0, 0), m2))))) : Ev (d + 1) K_Th_by 2 0 [(17, 0), (0, x1)] [] m r := by
  refine Ev_rn (q := (2, [(17, 0), (0, x1)], [(0, (-1)), (0, x1)], m)) 2 rfl ?_
  refine Ev_icmp rfl (fun hc => ?_) (fun hc => ?_)
  · replace h := h.1 hc
    refine Ev_rn (q := (13, [(17, 0), (0, x1)], [], up m 128 7 x1)) 4 rfl ?_
    generalize e1 : up m 128 7 x1 = m1
    replace h := h m1 e1.symm
    refine Ev_rn (q := (14, [(17, 0), (0, x1)], [(0, 1)], m1)) 1 rfl ?_
    exact Ev_zret rfl rfl (by decide) h
  · replace h := h.2 hc
    refine Ev_rn (q := (5, [(17, 0), (0, x1)], [(0, x1), (17, 0)], m)) 2 rfl ?_
    obtain ⟨v2, m2, hc, h⟩ := h
    refine Ev_call (rest := []) rfl rfl (Nat.le_of_ble_eq_true rfl) hc ?_
    refine Ev_if rfl (fun hc => ?_) (fun hc => ?_)
    · replace h := h.1 hc
      refine Ev_rn (q := (13, [(17, 0), (0, x1)], [], up m2 128 7 x1)) 4 rfl ?_
      generalize e3 : up m2 128 7 x1 = m3
      replace h := h m3 e3.symm
      refine Ev_rn (q := (14, [(17, 0), (0, x1)], [(0, 1)], m3)) 1 rfl ?_
      exact Ev_zret rfl rfl (by decide) h
    · replace h := h.2 hc
      refine Ev_rn (q := (8, [(17, 0), (0, x1)], [(0, 0)], m2)) 1 rfl ?_
      exact Ev_zret rfl rfl (by decide) h
theorem b_Th_plant {d : Nat} {r : Option Vv × Mm} {m : Mm} {x1 : Int} (h : ∃ (v1 : Int) (m1 : Mm), Cl d k_Pl_isHedge [(0, x1)] m (some (0, v1), m1) ∧ ((v1 = 0 → r = (some (0, 0), m1)) ∧ (¬ (v1 = 0) → ∃ (v2 : Int) (m2 : Mm), Cl d k_La_hasHedge [(13, 129), (0, x1)] m1 (some (0, v2), m2) ∧ ((v2 = 0 → ∃ (m3 : Mm), Cl d k_Fa_markStep [(10, 128)] m2 (none, m3) ∧ (∃ (m4 : Mm), Cl d k_La_addHedge [(13, 129), (0, x1)] m3 (none, m4) ∧ (r = (some (0, 1), m4)))) ∧ (¬ (v2 = 0) → r = (some (0, 0), m2)))))) : Ev (d + 1) K_Th_plant 2 0 [(17, 0), (0, x1)] [] m r := by
  refine Ev_rn (q := (1, [(17, 0), (0, x1)], [(0, x1)], m)) 1 rfl ?_
  obtain ⟨v1, m1, hc, h⟩ := h
  refine Ev_call (rest := []) rfl rfl (Nat.le_of_ble_eq_true rfl) hc ?_
  refine Ev_if rfl (fun hc => ?_) (fun hc => ?_)
  · replace h := h.1 hc
    refine Ev_rn (q := (10, [(17, 0), (0, x1)], [(0, 0)], m1)) 1 rfl ?_
    exact Ev_zret rfl rfl (by decide) h
  · replace h := h.2 hc
    refine Ev_rn (q := (7, [(17, 0), (0, x1)], [(0, x1), (13, 129)], m1)) 4 rfl ?_
    obtain ⟨v2, m2, hc, h⟩ := h
    refine Ev_call (rest := []) rfl rfl (Nat.le_of_ble_eq_true rfl) hc ?_
    refine Ev_if rfl (fun hc => ?_) (fun hc => ?_)
    · replace h := h.1 hc
      refine Ev_rn (q := (13, [(17, 0), (0, x1)], [(10, 128)], m2)) 2 rfl ?_
      obtain ⟨m3, hc, h⟩ := h
      refine Ev_call (rest := []) rfl rfl (Nat.le_of_ble_eq_true rfl) hc ?_
      refine Ev_rn (q := (18, [(17, 0), (0, x1)], [(0, x1), (13, 129)], m3)) 4 rfl ?_
      obtain ⟨m4, hc, h⟩ := h
      refine Ev_call (rest := []) rfl rfl (Nat.le_of_ble_eq_true rfl) hc ?_
      refine Ev_rn (q := (20, [(17, 0), (0, x1)], [(0, 1)], m4)) 1 rfl ?_
      exact Ev_zret rfl rfl (by decide) h
    · replace h := h.2 hc
      refine Ev_rn (q := (10, [(17, 0), (0, x1)], [(0, 0)], m2)) 1 rfl ?_
      exact Ev_zret rfl rfl (by decide) h
theorem b_Th_cut {d : Nat} {r : Option Vv × Mm} {m : Mm} {x1 : Int} (h : ∃ (v1 : Int) (m1 : Mm), Cl d k_La_hasHedge [(13, 129), (0, x1)] m (some (0, v1), m1) ∧ ((¬ v1 = 0 → ∃ (m2 : Mm), Cl d k_Fa_markStep [(10, 128)] m1 (none, m2) ∧ (∃ (m3 : Mm), Cl d k_La_removeHedge [(13, 129), (0, x1)] m2 (none, m3) ∧ (r = (some (0, 1), m3)))) ∧ (¬ (¬ v1 = 0) → r = (some (0, 0), m1)))) : Ev (d + 1) K_Th_cut 2 0 [(17, 0), (0, x1)] [] m r := by
  refine Ev_rn (q := (4, [(17, 0), (0, x1)], [(0, x1), (13, 129)], m)) 4 rfl ?_
  obtain ⟨v1, m1, hc, h⟩ := h
  refine Ev_call (rest := []) rfl rfl (Nat.le_of_ble_eq_true rfl) hc ?_
  refine Ev_if rfl (fun hc => ?_) (fun hc => ?_)
  · replace h := h.1 hc
    refine Ev_rn (q := (10, [(17, 0), (0, x1)], [(10, 128)], m1)) 2 rfl ?_
    obtain ⟨m2, hc, h⟩ := h
    refine Ev_call (rest := []) rfl rfl (Nat.le_of_ble_eq_true rfl) hc ?_
    refine Ev_rn (q := (15, [(17, 0), (0, x1)], [(0, x1), (13, 129)], m2)) 4 rfl ?_
    obtain ⟨m3, hc, h⟩ := h
    refine Ev_call (rest := []) rfl rfl (Nat.le_of_ble_eq_true rfl) hc ?_
    refine Ev_rn (q := (17, [(17, 0), (0, x1)], [(0, 1)], m3)) 1 rfl ?_
    exact Ev_zret rfl rfl (by decide) h
  · replace h := h.2 hc
    refine Ev_rn (q := (7, [(17, 0), (0, x1)], [(0, 0)], m1)) 1 rfl ?_
    exact Ev_zret rfl rfl (by decide) h
theorem b_Th_press {d : Nat} {r : Option Vv × Mm} {m : Mm} {x1 x2 : Int} (h : ∃ (v1 : Int) (m1 : Mm), Cl d k_Th_isHand [(17, 0), (0, x1)] m (some (0, v1), m1) ∧ ((v1 = 0 → r = (some (0, 0), m1)) ∧ (¬ (v1 = 0) → ∃ (v2 : Int) (m2 : Mm), Cl d k_Ha_isTurn [(0, x2)] m1 (some (0, v2), m2) ∧ ((¬ v2 = 0 → ∃ (m3 : Mm), Cl d k_Fa_markStep [(10, 128)] m2 (none, m3) ∧ (∃ (v4 : Int) (m4 : Mm), Cl d k_Ha_pattern [(11, 1), (0, x1), (0, x2)] m3 (some (1, v4), m4) ∧ (∀ m5 : Mm, m5 = up m4 129 0 v4 → (r = (some (0, 1), m5))))) ∧ (¬ (¬ v2 = 0) → r = (some (0, 0), m2)))))) : Ev (d + 1) K_Th_press 2 0 [(17, 0), (0, x1), (0, x2)] [] m r := by
  refine Ev_rn (q := (2, [(17, 0), (0, x1), (0, x2)], [(0, x1), (17, 0)], m)) 2 rfl ?_
  obtain ⟨v1, m1, hc, h⟩ := h
  refine Ev_call (rest := []) rfl rfl (Nat.le_of_ble_eq_true rfl) hc ?_
  refine Ev_if rfl (fun hc => ?_) (fun hc => ?_)
  · replace h := h.1 hc
    refine Ev_rn (q := (8, [(17, 0), (0, x1), (0, x2)], [(0, 0)], m1)) 1 rfl ?_
    exact Ev_zret rfl rfl (by decide) h
  · replace h := h.2 hc
    refine Ev_rn (q := (5, [(17, 0), (0, x1), (0, x2)], [(0, x2)], m1)) 1 rfl ?_
    obtain ⟨v2, m2, hc, h⟩ := h
    refine Ev_call (rest := []) rfl rfl (Nat.le_of_ble_eq_true rfl) hc ?_
    refine Ev_if rfl (fun hc => ?_) (fun hc => ?_)
    · replace h := h.1 hc
      refine Ev_rn (q := (11, [(17, 0), (0, x1), (0, x2)], [(10, 128)], m2)) 2 rfl ?_
      obtain ⟨m3, hc, h⟩ := h
      refine Ev_call (rest := []) rfl rfl (Nat.le_of_ble_eq_true rfl) hc ?_
      refine Ev_rn (q := (19, [(17, 0), (0, x1), (0, x2)], [(0, x2), (0, x1), (11, 1), (13, 129)], m3)) 7 rfl ?_
      obtain ⟨v4, m4, hc, h⟩ := h
      refine Ev_call (rest := [(13, 129)]) rfl rfl (Nat.le_of_ble_eq_true rfl) hc ?_
      refine Ev_rn (q := (21, [(17, 0), (0, x1), (0, x2)], [], up m4 129 0 v4)) 1 rfl ?_
      generalize e5 : up m4 129 0 v4 = m5
      replace h := h m5 e5.symm
      refine Ev_rn (q := (22, [(17, 0), (0, x1), (0, x2)], [(0, 1)], m5)) 1 rfl ?_
      exact Ev_zret rfl rfl (by decide) h
    · replace h := h.2 hc
      refine Ev_rn (q := (8, [(17, 0), (0, x1), (0, x2)], [(0, 0)], m2)) 1 rfl ?_
      exact Ev_zret rfl rfl (by decide) h
theorem b_Th_go {d : Nat} {r : Option Vv × Mm} {m : Mm} {x1 x2 : Int} (h : ∃ (v1 : Int) (m1 : Mm), Cl d k_La_canGo [(13, 129), (0, x1), (0, x2)] m (some (0, v1), m1) ∧ ((¬ v1 = 0 → ∃ (m2 : Mm), Cl d k_Fa_markStep [(10, 128)] m1 (none, m2) ∧ (∃ (v3 : Int) (m3 : Mm), Cl d k_La_comesHome [(13, 129), (0, x1), (0, x2), (0, m2 128 4)] m2 (some (0, v3), m3) ∧ ((0 ≤ x1 ∧ x1 < 5) ∧ (r = (some (0, m3 130 x1), m3))))) ∧ (¬ (¬ v1 = 0) → r = (some (0, (-1)), m1)))) : Ev (d + 1) K_Th_go 0 0 [(17, 0), (0, x1), (0, x2)] [] m r := by
  refine Ev_rn (q := (5, [(17, 0), (0, x1), (0, x2)], [(0, x2), (0, x1), (13, 129)], m)) 5 rfl ?_
  obtain ⟨v1, m1, hc, h⟩ := h
  refine Ev_call (rest := []) rfl rfl (Nat.le_of_ble_eq_true rfl) hc ?_
  refine Ev_if rfl (fun hc => ?_) (fun hc => ?_)
  · replace h := h.1 hc
    refine Ev_rn (q := (11, [(17, 0), (0, x1), (0, x2)], [(10, 128)], m1)) 2 rfl ?_
    obtain ⟨m2, hc, h⟩ := h
    refine Ev_call (rest := []) rfl rfl (Nat.le_of_ble_eq_true rfl) hc ?_
    refine Ev_rn (q := (20, [(17, 0), (0, x1), (0, x2)], [(0, m2 128 4), (0, x2), (0, x1), (13, 129)], m2)) 8 rfl ?_
    obtain ⟨v3, m3, hc, h⟩ := h
    refine Ev_call (rest := []) rfl rfl (Nat.le_of_ble_eq_true rfl) hc ?_
    refine Ev_rn (q := (27, [(17, 0), (0, x1), (0, x2)], [(0, x1), (140, 130)], m3)) 6 rfl ?_
    obtain ⟨hc, h⟩ := h
    refine Ev_iald (n := 5) rfl (by decide) (by decide) hc ?_
    exact Ev_ret rfl rfl h
  · replace h := h.2 hc
    refine Ev_rn (q := (8, [(17, 0), (0, x1), (0, x2)], [(0, (-1))], m1)) 1 rfl ?_
    exact Ev_ret rfl rfl h
theorem b_Th_hour {d : Nat} {r : Option Vv × Mm} {m : Mm} {x1 : Int} (h : (x1 < 1 → r = (some (0, (-1)), m)) ∧ (¬ (x1 < 1) → (60 < x1 → r = (some (0, (-1)), m)) ∧ (¬ (60 < x1) → (w32 ((m 129 5) + x1) ≤ 9999 → ∃ (v1 : Int) (m1 : Mm), Cl d k_In_bitCount [(0, m 129 4)] m (some (0, v1), m1) ∧ (∃ (v2 : Int) (m2 : Mm), Cl d k_Th_passHours [(17, 0), (0, x1)] m1 (some (0, v2), m2) ∧ (∃ (v3 : Int) (m3 : Mm), Cl d k_In_bitCount [(0, m2 129 4)] m2 (some (0, v3), m3) ∧ (r = (some (0, w32 (v3 - v1)), m3))))) ∧ (¬ (w32 ((m 129 5) + x1) ≤ 9999) → r = (some (0, (-1)), m))))) : Ev (d + 1) K_Th_hour 0 0 [(17, 0), (0, x1), (9, 0)] [] m r := by
  refine Ev_rn (q := (2, [(17, 0), (0, x1), (9, 0)], [(0, 1), (0, x1)], m)) 2 rfl ?_
  refine Ev_icmp rfl (fun hc => ?_) (fun hc => ?_)
  · replace h := h.1 hc
    refine Ev_rn (q := (15, [(17, 0), (0, x1), (9, 0)], [(0, (-1))], m)) 1 rfl ?_
    exact Ev_ret rfl rfl h
  · replace h := h.2 hc
    refine Ev_rn (q := (5, [(17, 0), (0, x1), (9, 0)], [(0, 60), (0, x1)], m)) 2 rfl ?_
    refine Ev_icmp rfl (fun hc => ?_) (fun hc => ?_)
    · replace h := h.1 hc
      refine Ev_rn (q := (15, [(17, 0), (0, x1), (9, 0)], [(0, (-1))], m)) 1 rfl ?_
      exact Ev_ret rfl rfl h
    · replace h := h.2 hc
      refine Ev_rn (q := (13, [(17, 0), (0, x1), (9, 0)], [(0, 9999), (0, w32 ((m 129 5) + x1))], m)) 7 rfl ?_
      refine Ev_icmp rfl (fun hc => ?_) (fun hc => ?_)
      · replace h := h.1 hc
        refine Ev_rn (q := (20, [(17, 0), (0, x1), (9, 0)], [(0, m 129 4)], m)) 4 rfl ?_
        obtain ⟨v1, m1, hc, h⟩ := h
        refine Ev_call (rest := []) rfl rfl (Nat.le_of_ble_eq_true rfl) hc ?_
        refine Ev_rn (q := (24, [(17, 0), (0, x1), (0, v1)], [(0, x1), (17, 0)], m1)) 3 rfl ?_
        obtain ⟨v2, m2, hc, h⟩ := h
        refine Ev_call (rest := []) rfl rfl (Nat.le_of_ble_eq_true rfl) hc ?_
        refine Ev_rn (q := (30, [(17, 0), (0, x1), (0, v1)], [(0, m2 129 4)], m2)) 5 rfl ?_
        obtain ⟨v3, m3, hc, h⟩ := h
        refine Ev_call (rest := []) rfl rfl (Nat.le_of_ble_eq_true rfl) hc ?_
        refine Ev_rn (q := (33, [(17, 0), (0, x1), (0, v1)], [(0, w32 (v3 - v1))], m3)) 2 rfl ?_
        exact Ev_ret rfl rfl h
      · replace h := h.2 hc
        refine Ev_rn (q := (15, [(17, 0), (0, x1), (9, 0)], [(0, (-1))], m)) 1 rfl ?_
        exact Ev_ret rfl rfl h
theorem b_Th_played {d : Nat} {r : Option Vv × Mm} {m : Mm} {x1 : Int} (h : ∃ (v1 : Int) (m1 : Mm), Cl d k_Th_isText [(17, 0), (0, x1)] m (some (0, v1), m1) ∧ ((¬ v1 = 0 → (0 ≤ x1 ∧ x1 < 4) ∧ (Ev (d + 1) K_Th_played 0 13 [(17, 0), (0, x1), (16, 3 + 13 + 8 * x1), (0, 0), (9, 0), (9, 0)] [] m1 r)) ∧ (¬ (¬ v1 = 0) → r = (some (0, (-2)), m1)))) : Ev (d + 1) K_Th_played 0 0 [(17, 0), (0, x1), (9, 0), (9, 0), (9, 0), (9, 0)] [] m r := by
  refine Ev_rn (q := (2, [(17, 0), (0, x1), (9, 0), (9, 0), (9, 0), (9, 0)], [(0, x1), (17, 0)], m)) 2 rfl ?_
  obtain ⟨v1, m1, hc, h⟩ := h
  refine Ev_call (rest := []) rfl rfl (Nat.le_of_ble_eq_true rfl) hc ?_
  refine Ev_if rfl (fun hc => ?_) (fun hc => ?_)
  · replace h := h.1 hc
    refine Ev_rn (q := (9, [(17, 0), (0, x1), (9, 0), (9, 0), (9, 0), (9, 0)], [(0, x1), (136, 3)], m1)) 3 rfl ?_
    obtain ⟨hc, h⟩ := h
    refine Ev_aald4 (n := 4) rfl (by decide) (by decide) hc ?_
    refine Ev_rn (q := (13, [(17, 0), (0, x1), (16, 3 + 13 + 8 * x1), (0, 0), (9, 0), (9, 0)], [], m1)) 3 rfl ?_
    exact h
  · replace h := h.2 hc
    refine Ev_rn (q := (5, [(17, 0), (0, x1), (9, 0), (9, 0), (9, 0), (9, 0)], [(0, (-2))], m1)) 1 rfl ?_
    exact Ev_ret rfl rfl h
theorem b_Th_played_13 {d : Nat} {r : Option Vv × Mm} {m : Mm} {x1 o2 x3 : Int} {u4 u5 : Vv} (h : (m o2 0 ≤ x3 → r = (some (0, (-1)), m)) ∧ (¬ (m o2 0 ≤ x3) → (0 ≤ x3 ∧ x3 < 24) ∧ ((0 ≤ x3 ∧ x3 < 24) ∧ ((¬ m (o2 + 1) x3 = 24 → (0 ≤ x3 ∧ x3 < 24) ∧ (∃ (v1 : Int) (m1 : Mm), Cl d k_Th_does [(17, 0), (0, m (o2 + 1) x3), (0, m (o2 + 2) x3), (0, m (o2 + 3) x3)] m (some (0, v1), m1) ∧ ((¬ v1 = 0 → Ev (d + 1) K_Th_played 0 13 [(17, 0), (0, x1), (16, o2), (0, w32 (x3 + 1)), (0, m (o2 + 1) x3), (0, m (o2 + 2) x3)] [] m1 r) ∧ (¬ (¬ v1 = 0) → r = (some (0, x3), m1))))) ∧ (¬ (¬ m (o2 + 1) x3 = 24) → ∃ (v2 : Int) (m2 : Mm), Cl d k_Th_passHours [(17, 0), (0, m (o2 + 2) x3)] m (some (0, v2), m2) ∧ ((v2 = 0 → r = (some (0, x3), m2)) ∧ (¬ (v2 = 0) → Ev (d + 1) K_Th_played 0 13 [(17, 0), (0, x1), (16, o2), (0, w32 (x3 + 1)), (0, m (o2 + 1) x3), (0, m (o2 + 2) x3)] [] m2 r))))))) : Ev (d + 1) K_Th_played 0 13 [(17, 0), (0, x1), (16, o2), (0, x3), u4, u5] [] m r := by
  refine Ev_rn (q := (16, [(17, 0), (0, x1), (16, o2), (0, x3), u4, u5], [(0, m o2 0), (0, x3)], m)) 3 rfl ?_
  refine Ev_icmp rfl (fun hc => ?_) (fun hc => ?_)
  · replace h := h.1 hc
    refine Ev_rn (q := (49, [(17, 0), (0, x1), (16, o2), (0, x3), u4, u5], [(0, (-1))], m)) 1 rfl ?_
    exact Ev_ret rfl rfl h
  · replace h := h.2 hc
    refine Ev_rn (q := (20, [(17, 0), (0, x1), (16, o2), (0, x3), u4, u5], [(0, x3), (292, o2 + 1)], m)) 3 rfl ?_
    obtain ⟨hc, h⟩ := h
    refine Ev_iald (n := 24) rfl (by decide) (by decide) hc ?_
    refine Ev_rn (q := (25, [(17, 0), (0, x1), (16, o2), (0, x3), (0, m (o2 + 1) x3), u5], [(0, x3), (292, o2 + 2)], m)) 4 rfl ?_
    obtain ⟨hc, h⟩ := h
    refine Ev_iald (n := 24) rfl (by decide) (by decide) hc ?_
    refine Ev_rn (q := (29, [(17, 0), (0, x1), (16, o2), (0, x3), (0, m (o2 + 1) x3), (0, m (o2 + 2) x3)], [(0, 24), (0, m (o2 + 1) x3)], m)) 3 rfl ?_
    refine Ev_icmp rfl (fun hc => ?_) (fun hc => ?_)
    · replace h := h.1 hc
      refine Ev_rn (q := (41, [(17, 0), (0, x1), (16, o2), (0, x3), (0, m (o2 + 1) x3), (0, m (o2 + 2) x3)], [(0, x3), (292, o2 + 3), (0, m (o2 + 2) x3), (0, m (o2 + 1) x3), (17, 0)], m)) 6 rfl ?_
      obtain ⟨hc, h⟩ := h
      refine Ev_iald (n := 24) rfl (by decide) (by decide) hc ?_
      obtain ⟨v1, m1, hc, h⟩ := h
      refine Ev_call (rest := []) rfl rfl (Nat.le_of_ble_eq_true rfl) hc ?_
      refine Ev_if rfl (fun hc => ?_) (fun hc => ?_)
      · replace h := h.1 hc
        refine Ev_rn (q := (13, [(17, 0), (0, x1), (16, o2), (0, w32 (x3 + 1)), (0, m (o2 + 1) x3), (0, m (o2 + 2) x3)], [], m1)) 2 rfl ?_
        exact h
      · replace h := h.2 hc
        refine Ev_rn (q := (45, [(17, 0), (0, x1), (16, o2), (0, x3), (0, m (o2 + 1) x3), (0, m (o2 + 2) x3)], [(0, x3)], m1)) 1 rfl ?_
        exact Ev_ret rfl rfl h
    · replace h := h.2 hc
      refine Ev_rn (q := (32, [(17, 0), (0, x1), (16, o2), (0, x3), (0, m (o2 + 1) x3), (0, m (o2 + 2) x3)], [(0, m (o2 + 2) x3), (17, 0)], m)) 2 rfl ?_
      obtain ⟨v2, m2, hc, h⟩ := h
      refine Ev_call (rest := []) rfl rfl (Nat.le_of_ble_eq_true rfl) hc ?_
      refine Ev_if rfl (fun hc => ?_) (fun hc => ?_)
      · replace h := h.1 hc
        refine Ev_rn (q := (45, [(17, 0), (0, x1), (16, o2), (0, x3), (0, m (o2 + 1) x3), (0, m (o2 + 2) x3)], [(0, x3)], m2)) 1 rfl ?_
        exact Ev_ret rfl rfl h
      · replace h := h.2 hc
        refine Ev_rn (q := (13, [(17, 0), (0, x1), (16, o2), (0, w32 (x3 + 1)), (0, m (o2 + 1) x3), (0, m (o2 + 2) x3)], [], m2)) 3 rfl ?_
        exact h
theorem b_Th_years {d : Nat} {r : Option Vv × Mm} {m : Mm} {x1 x2 : Int} (h : (x1 < 0 → r = (some (0, (-1)), m)) ∧ (¬ (x1 < 0) → (9999 < x1 → r = (some (0, (-1)), m)) ∧ (¬ (9999 < x1) → (x2 < 1 → r = (some (0, (-1)), m)) ∧ (¬ (x2 < 1) → (x2 ≤ 40 → ∃ (m1 : Mm), Cl d k_Fa_markStep [(10, 128)] m (none, m1) ∧ (∀ m2 : Mm, m2 = up m1 129 6 (w32 ((w32 (x1 * 2)) + 331)) → (Ev (d + 1) K_Th_years 0 27 [(17, 0), (0, x1), (0, x2), (0, 0)] [] m2 r))) ∧ (¬ (x2 ≤ 40) → r = (some (0, (-1)), m)))))) : Ev (d + 1) K_Th_years 0 0 [(17, 0), (0, x1), (0, x2), (9, 0)] [] m r := by
  refine Ev_rn (q := (1, [(17, 0), (0, x1), (0, x2), (9, 0)], [(0, x1)], m)) 1 rfl ?_
  refine Ev_if rfl (fun hc => ?_) (fun hc => ?_)
  · replace h := h.1 hc
    refine Ev_rn (q := (12, [(17, 0), (0, x1), (0, x2), (9, 0)], [(0, (-1))], m)) 1 rfl ?_
    exact Ev_ret rfl rfl h
  · replace h := h.2 hc
    refine Ev_rn (q := (4, [(17, 0), (0, x1), (0, x2), (9, 0)], [(0, 9999), (0, x1)], m)) 2 rfl ?_
    refine Ev_icmp rfl (fun hc => ?_) (fun hc => ?_)
    · replace h := h.1 hc
      refine Ev_rn (q := (12, [(17, 0), (0, x1), (0, x2), (9, 0)], [(0, (-1))], m)) 1 rfl ?_
      exact Ev_ret rfl rfl h
    · replace h := h.2 hc
      refine Ev_rn (q := (7, [(17, 0), (0, x1), (0, x2), (9, 0)], [(0, 1), (0, x2)], m)) 2 rfl ?_
      refine Ev_icmp rfl (fun hc => ?_) (fun hc => ?_)
      · replace h := h.1 hc
        refine Ev_rn (q := (12, [(17, 0), (0, x1), (0, x2), (9, 0)], [(0, (-1))], m)) 1 rfl ?_
        exact Ev_ret rfl rfl h
      · replace h := h.2 hc
        refine Ev_rn (q := (10, [(17, 0), (0, x1), (0, x2), (9, 0)], [(0, 40), (0, x2)], m)) 2 rfl ?_
        refine Ev_icmp rfl (fun hc => ?_) (fun hc => ?_)
        · replace h := h.1 hc
          refine Ev_rn (q := (15, [(17, 0), (0, x1), (0, x2), (9, 0)], [(10, 128)], m)) 2 rfl ?_
          obtain ⟨m1, hc, h⟩ := h
          refine Ev_call (rest := []) rfl rfl (Nat.le_of_ble_eq_true rfl) hc ?_
          refine Ev_rn (q := (25, [(17, 0), (0, x1), (0, x2), (9, 0)], [], up m1 129 6 (w32 ((w32 (x1 * 2)) + 331)))) 9 rfl ?_
          generalize e2 : up m1 129 6 (w32 ((w32 (x1 * 2)) + 331)) = m2
          replace h := h m2 e2.symm
          refine Ev_rn (q := (27, [(17, 0), (0, x1), (0, x2), (0, 0)], [], m2)) 2 rfl ?_
          exact h
        · replace h := h.2 hc
          refine Ev_rn (q := (12, [(17, 0), (0, x1), (0, x2), (9, 0)], [(0, (-1))], m)) 1 rfl ?_
          exact Ev_ret rfl rfl h
theorem b_Th_years_27 {d : Nat} {r : Option Vv × Mm} {m : Mm} {x1 x2 x3 : Int} (h : (x2 ≤ x3 → r = (some (0, m 129 5), m)) ∧ (¬ (x2 ≤ x3) → ∃ (v1 : Int) (m1 : Mm), Cl d k_La_draw [(13, 129)] m (some (0, v1), m1) ∧ (∃ (m2 : Mm), Cl d k_Th_befall [(17, 0), (0, v1)] m1 (none, m2) ∧ (Ev (d + 1) K_Th_years 0 27 [(17, 0), (0, x1), (0, x2), (0, w32 (x3 + 1))] [] m2 r)))) : Ev (d + 1) K_Th_years 0 27 [(17, 0), (0, x1), (0, x2), (0, x3)] [] m r := by
  refine Ev_rn (q := (29, [(17, 0), (0, x1), (0, x2), (0, x3)], [(0, x2), (0, x3)], m)) 2 rfl ?_
  refine Ev_icmp rfl (fun hc => ?_) (fun hc => ?_)
  · replace h := h.1 hc
    refine Ev_rn (q := (42, [(17, 0), (0, x1), (0, x2), (0, x3)], [(0, m 129 5)], m)) 4 rfl ?_
    exact Ev_ret rfl rfl h
  · replace h := h.2 hc
    refine Ev_rn (q := (34, [(17, 0), (0, x1), (0, x2), (0, x3)], [(13, 129), (17, 0)], m)) 4 rfl ?_
    obtain ⟨v1, m1, hc, h⟩ := h
    refine Ev_call (rest := [(17, 0)]) rfl rfl (Nat.le_of_ble_eq_true rfl) hc ?_
    obtain ⟨m2, hc, h⟩ := h
    refine Ev_call (rest := []) rfl rfl (Nat.le_of_ble_eq_true rfl) hc ?_
    refine Ev_rn (q := (27, [(17, 0), (0, x1), (0, x2), (0, w32 (x3 + 1))], [], m2)) 2 rfl ?_
    exact h
theorem b_Th_undo {d : Nat} {r : Option Vv × Mm} {m : Mm} (h : ∃ (v1 : Int) (m1 : Mm), Cl d k_Fa_takeBack [(10, 128)] m (some (0, v1), m1) ∧ ((v1 = 0 → r = (some (0, (-1)), m1)) ∧ (¬ (v1 = 0) → r = (some (0, m1 128 3), m1)))) : Ev (d + 1) K_Th_undo 0 0 [(17, 0)] [] m r := by
  refine Ev_rn (q := (2, [(17, 0)], [(10, 128)], m)) 2 rfl ?_
  obtain ⟨v1, m1, hc, h⟩ := h
  refine Ev_call (rest := []) rfl rfl (Nat.le_of_ble_eq_true rfl) hc ?_
  refine Ev_if rfl (fun hc => ?_) (fun hc => ?_)
  · replace h := h.1 hc
    refine Ev_rn (q := (9, [(17, 0)], [(0, (-1))], m1)) 1 rfl ?_
    exact Ev_ret rfl rfl h
  · replace h := h.2 hc
    refine Ev_rn (q := (9, [(17, 0)], [(0, m1 128 3)], m1)) 4 rfl ?_
    exact Ev_ret rfl rfl h
theorem b_Th_of {d : Nat} {r : Option Vv × Mm} {m : Mm} {x1 x2 : Int} (h : ∃ (v1 : Int) (m1 : Mm), Cl d k_La_isCow [(13, 129), (0, x1)] m (some (0, v1), m1) ∧ ((¬ v1 = 0 → ∃ (v2 : Int) (m2 : Mm), Cl d k_La_isHome [(13, 129), (0, x1)] m1 (some (0, v2), m2) ∧ ((x2 = 0 → (v2 = 0 → (0 ≤ x1 ∧ x1 < 5) ∧ (r = (some (0, m2 130 x1), m2))) ∧ (¬ (v2 = 0) → r = (some (0, (-1)), m2))) ∧ (¬ x2 = 0 → (x2 = 1 → (0 ≤ x1 ∧ x1 < 5) ∧ (r = (some (0, m2 131 x1), m2))) ∧ (¬ x2 = 1 → (x2 = 2 → (v2 = 0 → ∃ (v3 : Int) (m3 : Mm), Cl d k_Th_ruling [(17, 0)] m2 (some (16, v3), m3) ∧ (∃ (v4 : Int) (m4 : Mm), Cl d k_Ju_goesOf [(12, 10), (16, v3), (13, 129), (0, x1)] m3 (some (0, v4), m4) ∧ (r = (some (0, v4), m4)))) ∧ (¬ (v2 = 0) → r = (some (0, (-100)), m2))) ∧ (¬ x2 = 2 → r = (some (0, (-100)), m2)))))) ∧ (¬ (¬ v1 = 0) → r = (some (0, (-100)), m1)))) : Ev (d + 1) K_Th_of 0 0 [(17, 0), (0, x1), (0, x2), (9, 0), (9, 0)] [] m r := by
  refine Ev_rn (q := (6, [(17, 0), (0, x1), (0, x2), (13, 129), (9, 0)], [(0, x1), (13, 129)], m)) 6 rfl ?_
  obtain ⟨v1, m1, hc, h⟩ := h
  refine Ev_call (rest := []) rfl rfl (Nat.le_of_ble_eq_true rfl) hc ?_
  refine Ev_if rfl (fun hc => ?_) (fun hc => ?_)
  · replace h := h.1 hc
    refine Ev_rn (q := (12, [(17, 0), (0, x1), (0, x2), (13, 129), (9, 0)], [(0, x1), (13, 129)], m1)) 2 rfl ?_
    obtain ⟨v2, m2, hc, h⟩ := h
    refine Ev_call (rest := []) rfl rfl (Nat.le_of_ble_eq_true rfl) hc ?_
    refine Ev_rn (q := (15, [(17, 0), (0, x1), (0, x2), (13, 129), (0, v2)], [(0, x2)], m2)) 2 rfl ?_
    refine Ev_tsw rfl ?_
    refine ⟨fun hc => ?_, fun hc => ?_⟩
    · replace h := h.1 hc
      refine Ev_rn (q := (17, [(17, 0), (0, x1), (0, x2), (13, 129), (0, v2)], [(0, v2)], m2)) 1 rfl ?_
      refine Ev_if rfl (fun hc => ?_) (fun hc => ?_)
      · replace h := h.1 hc
        refine Ev_rn (q := (23, [(17, 0), (0, x1), (0, x2), (13, 129), (0, v2)], [(0, x1), (140, 130)], m2)) 3 rfl ?_
        obtain ⟨hc, h⟩ := h
        refine Ev_iald (n := 5) rfl (by decide) (by decide) hc ?_
        exact Ev_ret rfl rfl h
      · replace h := h.2 hc
        refine Ev_rn (q := (24, [(17, 0), (0, x1), (0, x2), (13, 129), (0, v2)], [(0, (-1))], m2)) 2 rfl ?_
        exact Ev_ret rfl rfl h
    · replace h := h.2 hc
      refine ⟨fun hc => ?_, fun hc => ?_⟩
      · replace h := h.1 hc
        refine Ev_rn (q := (28, [(17, 0), (0, x1), (0, x2), (13, 129), (0, v2)], [(0, x1), (140, 131)], m2)) 3 rfl ?_
        obtain ⟨hc, h⟩ := h
        refine Ev_iald (n := 5) rfl (by decide) (by decide) hc ?_
        exact Ev_ret rfl rfl h
      · replace h := h.2 hc
        refine ⟨fun hc => ?_, fun hc => ?_⟩
        · replace h := h.1 hc
          refine Ev_rn (q := (31, [(17, 0), (0, x1), (0, x2), (13, 129), (0, v2)], [(0, v2)], m2)) 1 rfl ?_
          refine Ev_if rfl (fun hc => ?_) (fun hc => ?_)
          · replace h := h.1 hc
            refine Ev_rn (q := (37, [(17, 0), (0, x1), (0, x2), (13, 129), (0, v2)], [(17, 0), (12, 10)], m2)) 3 rfl ?_
            obtain ⟨v3, m3, hc, h⟩ := h
            refine Ev_call (rest := [(12, 10)]) rfl rfl (Nat.le_of_ble_eq_true rfl) hc ?_
            refine Ev_rn (q := (40, [(17, 0), (0, x1), (0, x2), (13, 129), (0, v2)], [(0, x1), (13, 129), (16, v3), (12, 10)], m3)) 2 rfl ?_
            obtain ⟨v4, m4, hc, h⟩ := h
            refine Ev_call (rest := []) rfl rfl (Nat.le_of_ble_eq_true rfl) hc ?_
            exact Ev_ret rfl rfl h
          · replace h := h.2 hc
            refine Ev_rn (q := (41, [(17, 0), (0, x1), (0, x2), (13, 129), (0, v2)], [(0, (-100))], m2)) 2 rfl ?_
            exact Ev_ret rfl rfl h
        · replace h := h.2 hc
          refine Ev_rn (q := (43, [(17, 0), (0, x1), (0, x2), (13, 129), (0, v2)], [(0, (-100))], m2)) 1 rfl ?_
          exact Ev_ret rfl rfl h
  · replace h := h.2 hc
    refine Ev_rn (q := (9, [(17, 0), (0, x1), (0, x2), (13, 129), (9, 0)], [(0, (-100))], m1)) 1 rfl ?_
    exact Ev_ret rfl rfl h
theorem b_Th_cell {d : Nat} {r : Option Vv × Mm} {m : Mm} {x1 x2 : Int} (h : ∃ (v1 : Int) (m1 : Mm), Cl d k_Pl_isCell [(0, x1)] m (some (0, v1), m1) ∧ ((¬ v1 = 0 → (x2 = 0 → ∃ (v2 : Int) (m2 : Mm), Cl d k_La_around [(13, 129), (0, x1)] m1 (some (0, v2), m2) ∧ (r = (some (0, v2), m2))) ∧ (¬ x2 = 0 → (x2 = 1 → ∃ (v3 : Int) (m3 : Mm), Cl d k_La_openWays [(13, 129), (0, x1)] m1 (some (0, v3), m3) ∧ (r = (some (0, v3), m3))) ∧ (¬ x2 = 1 → (x2 = 2 → r = (some (0, ian (isr (m1 128 4) x1) 1), m1)) ∧ (¬ x2 = 2 → (x2 = 3 → ∃ (m4 : Mm), Cl d k_Th_mazeNow [(17, 0)] m1 (some (14, 13), m4) ∧ (∃ (v5 : Int) (m5 : Mm), Cl d k_Mz_regionOf [(14, 13), (0, x1)] m4 (some (0, v5), m5) ∧ (∃ (v6 : Int) (m6 : Mm), Cl d k_In_bitCount [(0, v5)] m5 (some (0, v6), m6) ∧ (r = (some (0, v6), m6))))) ∧ (¬ x2 = 3 → r = (some (0, (-1)), m1)))))) ∧ (¬ (¬ v1 = 0) → r = (some (0, (-1)), m1)))) : Ev (d + 1) K_Th_cell 0 0 [(17, 0), (0, x1), (0, x2)] [] m r := by
  refine Ev_rn (q := (1, [(17, 0), (0, x1), (0, x2)], [(0, x1)], m)) 1 rfl ?_
  obtain ⟨v1, m1, hc, h⟩ := h
  refine Ev_call (rest := []) rfl rfl (Nat.le_of_ble_eq_true rfl) hc ?_
  refine Ev_if rfl (fun hc => ?_) (fun hc => ?_)
  · replace h := h.1 hc
    refine Ev_rn (q := (6, [(17, 0), (0, x1), (0, x2)], [(0, x2)], m1)) 1 rfl ?_
    refine Ev_tsw rfl ?_
    refine ⟨fun hc => ?_, fun hc => ?_⟩
    · replace h := h.1 hc
      refine Ev_rn (q := (11, [(17, 0), (0, x1), (0, x2)], [(0, x1), (13, 129)], m1)) 4 rfl ?_
      obtain ⟨v2, m2, hc, h⟩ := h
      refine Ev_call (rest := []) rfl rfl (Nat.le_of_ble_eq_true rfl) hc ?_
      exact Ev_ret rfl rfl h
    · replace h := h.2 hc
      refine ⟨fun hc => ?_, fun hc => ?_⟩
      · replace h := h.1 hc
        refine Ev_rn (q := (17, [(17, 0), (0, x1), (0, x2)], [(0, x1), (13, 129)], m1)) 4 rfl ?_
        obtain ⟨v3, m3, hc, h⟩ := h
        refine Ev_call (rest := []) rfl rfl (Nat.le_of_ble_eq_true rfl) hc ?_
        exact Ev_ret rfl rfl h
      · replace h := h.2 hc
        refine ⟨fun hc => ?_, fun hc => ?_⟩
        · replace h := h.1 hc
          refine Ev_rn (q := (26, [(17, 0), (0, x1), (0, x2)], [(0, ian (isr (m1 128 4) x1) 1)], m1)) 7 rfl ?_
          exact Ev_ret rfl rfl h
        · replace h := h.2 hc
          refine ⟨fun hc => ?_, fun hc => ?_⟩
          · replace h := h.1 hc
            refine Ev_rn (q := (28, [(17, 0), (0, x1), (0, x2)], [(17, 0)], m1)) 1 rfl ?_
            obtain ⟨m4, hc, h⟩ := h
            refine Ev_call (rest := []) rfl rfl (Nat.le_of_ble_eq_true rfl) hc ?_
            refine Ev_rn (q := (30, [(17, 0), (0, x1), (0, x2)], [(0, x1), (14, 13)], m4)) 1 rfl ?_
            obtain ⟨v5, m5, hc, h⟩ := h
            refine Ev_call (rest := []) rfl rfl (Nat.le_of_ble_eq_true rfl) hc ?_
            obtain ⟨v6, m6, hc, h⟩ := h
            refine Ev_call (rest := []) rfl rfl (Nat.le_of_ble_eq_true rfl) hc ?_
            exact Ev_ret rfl rfl h
          · replace h := h.2 hc
            refine Ev_rn (q := (34, [(17, 0), (0, x1), (0, x2)], [(0, (-1))], m1)) 1 rfl ?_
            exact Ev_ret rfl rfl h
  · replace h := h.2 hc
    refine Ev_rn (q := (4, [(17, 0), (0, x1), (0, x2)], [(0, (-1))], m1)) 1 rfl ?_
    exact Ev_ret rfl rfl h
theorem b_Th_hedge {d : Nat} {r : Option Vv × Mm} {m : Mm} {x1 x2 : Int} (h : ∃ (v1 : Int) (m1 : Mm), Cl d k_Pl_isHedge [(0, x1)] m (some (0, v1), m1) ∧ ((¬ v1 = 0 → (x2 = 0 → ∃ (v2 : Int) (m2 : Mm), Cl d k_La_hasHedge [(13, 129), (0, x1)] m1 (some (0, v2), m2) ∧ ((v2 = 0 → r = (some (0, 0), m2)) ∧ (¬ (v2 = 0) → r = (some (0, 1), m2)))) ∧ (¬ x2 = 0 → (x2 = 1 → ∃ (v3 : Int) (m3 : Mm), Cl d k_Pl_firstCell [(0, x1)] m1 (some (0, v3), m3) ∧ (r = (some (0, v3), m3))) ∧ (¬ x2 = 1 → (x2 = 2 → ∃ (v4 : Int) (m4 : Mm), Cl d k_Pl_secondCell [(0, x1)] m1 (some (0, v4), m4) ∧ (r = (some (0, v4), m4))) ∧ (¬ x2 = 2 → (x2 = 3 → ∃ (v5 : Int) (m5 : Mm), Cl d k_Th_ruling [(17, 0)] m1 (some (16, v5), m5) ∧ (∃ (v6 : Int) (m6 : Mm), Cl d k_Ju_frostsOf [(12, 10), (16, v5), (13, 129), (0, x1)] m5 (some (0, v6), m6) ∧ (r = (some (0, v6), m6)))) ∧ (¬ x2 = 3 → r = (some (0, (-1)), m1)))))) ∧ (¬ (¬ v1 = 0) → r = (some (0, (-1)), m1)))) : Ev (d + 1) K_Th_hedge 0 0 [(17, 0), (0, x1), (0, x2)] [] m r := by
  refine Ev_rn (q := (1, [(17, 0), (0, x1), (0, x2)], [(0, x1)], m)) 1 rfl ?_
  obtain ⟨v1, m1, hc, h⟩ := h
  refine Ev_call (rest := []) rfl rfl (Nat.le_of_ble_eq_true rfl) hc ?_
  refine Ev_if rfl (fun hc => ?_) (fun hc => ?_)
  · replace h := h.1 hc
    refine Ev_rn (q := (6, [(17, 0), (0, x1), (0, x2)], [(0, x2)], m1)) 1 rfl ?_
    refine Ev_tsw rfl ?_
    refine ⟨fun hc => ?_, fun hc => ?_⟩
    · replace h := h.1 hc
      refine Ev_rn (q := (11, [(17, 0), (0, x1), (0, x2)], [(0, x1), (13, 129)], m1)) 4 rfl ?_
      obtain ⟨v2, m2, hc, h⟩ := h
      refine Ev_call (rest := []) rfl rfl (Nat.le_of_ble_eq_true rfl) hc ?_
      refine Ev_if rfl (fun hc => ?_) (fun hc => ?_)
      · replace h := h.1 hc
        refine Ev_rn (q := (16, [(17, 0), (0, x1), (0, x2)], [(0, 0)], m2)) 1 rfl ?_
        exact Ev_ret rfl rfl h
      · replace h := h.2 hc
        refine Ev_rn (q := (16, [(17, 0), (0, x1), (0, x2)], [(0, 1)], m2)) 2 rfl ?_
        exact Ev_ret rfl rfl h
    · replace h := h.2 hc
      refine ⟨fun hc => ?_, fun hc => ?_⟩
      · replace h := h.1 hc
        refine Ev_rn (q := (18, [(17, 0), (0, x1), (0, x2)], [(0, x1)], m1)) 1 rfl ?_
        obtain ⟨v3, m3, hc, h⟩ := h
        refine Ev_call (rest := []) rfl rfl (Nat.le_of_ble_eq_true rfl) hc ?_
        exact Ev_ret rfl rfl h
      · replace h := h.2 hc
        refine ⟨fun hc => ?_, fun hc => ?_⟩
        · replace h := h.1 hc
          refine Ev_rn (q := (21, [(17, 0), (0, x1), (0, x2)], [(0, x1)], m1)) 1 rfl ?_
          obtain ⟨v4, m4, hc, h⟩ := h
          refine Ev_call (rest := []) rfl rfl (Nat.le_of_ble_eq_true rfl) hc ?_
          exact Ev_ret rfl rfl h
        · replace h := h.2 hc
          refine ⟨fun hc => ?_, fun hc => ?_⟩
          · replace h := h.1 hc
            refine Ev_rn (q := (26, [(17, 0), (0, x1), (0, x2)], [(17, 0), (12, 10)], m1)) 3 rfl ?_
            obtain ⟨v5, m5, hc, h⟩ := h
            refine Ev_call (rest := [(12, 10)]) rfl rfl (Nat.le_of_ble_eq_true rfl) hc ?_
            refine Ev_rn (q := (31, [(17, 0), (0, x1), (0, x2)], [(0, x1), (13, 129), (16, v5), (12, 10)], m5)) 4 rfl ?_
            obtain ⟨v6, m6, hc, h⟩ := h
            refine Ev_call (rest := []) rfl rfl (Nat.le_of_ble_eq_true rfl) hc ?_
            exact Ev_ret rfl rfl h
          · replace h := h.2 hc
            refine Ev_rn (q := (34, [(17, 0), (0, x1), (0, x2)], [(0, (-1))], m1)) 1 rfl ?_
            exact Ev_ret rfl rfl h
  · replace h := h.2 hc
    refine Ev_rn (q := (4, [(17, 0), (0, x1), (0, x2)], [(0, (-1))], m1)) 1 rfl ?_
    exact Ev_ret rfl rfl h
theorem b_Th_between {d : Nat} {r : Option Vv × Mm} {m : Mm} {x1 x2 : Int} (h : ∃ (v1 : Int) (m1 : Mm), Cl d k_Pl_isCell [(0, x1)] m (some (0, v1), m1) ∧ ((v1 = 0 → r = (some (0, (-1)), m1)) ∧ (¬ (v1 = 0) → ∃ (v2 : Int) (m2 : Mm), Cl d k_Pl_isCell [(0, x2)] m1 (some (0, v2), m2) ∧ ((¬ v2 = 0 → Ev (d + 1) K_Th_between 0 10 [(17, 0), (0, x1), (0, x2), (0, 0)] [] m2 r) ∧ (¬ (¬ v2 = 0) → r = (some (0, (-1)), m2)))))) : Ev (d + 1) K_Th_between 0 0 [(17, 0), (0, x1), (0, x2), (9, 0)] [] m r := by
  refine Ev_rn (q := (1, [(17, 0), (0, x1), (0, x2), (9, 0)], [(0, x1)], m)) 1 rfl ?_
  obtain ⟨v1, m1, hc, h⟩ := h
  refine Ev_call (rest := []) rfl rfl (Nat.le_of_ble_eq_true rfl) hc ?_
  refine Ev_if rfl (fun hc => ?_) (fun hc => ?_)
  · replace h := h.1 hc
    refine Ev_rn (q := (7, [(17, 0), (0, x1), (0, x2), (9, 0)], [(0, (-1))], m1)) 1 rfl ?_
    exact Ev_ret rfl rfl h
  · replace h := h.2 hc
    refine Ev_rn (q := (4, [(17, 0), (0, x1), (0, x2), (9, 0)], [(0, x2)], m1)) 1 rfl ?_
    obtain ⟨v2, m2, hc, h⟩ := h
    refine Ev_call (rest := []) rfl rfl (Nat.le_of_ble_eq_true rfl) hc ?_
    refine Ev_if rfl (fun hc => ?_) (fun hc => ?_)
    · replace h := h.1 hc
      refine Ev_rn (q := (10, [(17, 0), (0, x1), (0, x2), (0, 0)], [], m2)) 2 rfl ?_
      exact h
    · replace h := h.2 hc
      refine Ev_rn (q := (7, [(17, 0), (0, x1), (0, x2), (9, 0)], [(0, (-1))], m2)) 1 rfl ?_
      exact Ev_ret rfl rfl h
theorem b_Th_between_10 {d : Nat} {r : Option Vv × Mm} {m : Mm} {x1 x2 x3 : Int} (h : (4 ≤ x3 → r = (some (0, (-1)), m)) ∧ (¬ (4 ≤ x3) → ∃ (v1 : Int) (m1 : Mm), Cl d k_Pl_cellBeyond [(0, x1), (0, x3)] m (some (0, v1), m1) ∧ ((¬ v1 = x2 → Ev (d + 1) K_Th_between 0 10 [(17, 0), (0, x1), (0, x2), (0, w32 (x3 + 1))] [] m1 r) ∧ (¬ (¬ v1 = x2) → ∃ (v2 : Int) (m2 : Mm), Cl d k_Pl_hedgeBy [(0, x1), (0, x3)] m1 (some (0, v2), m2) ∧ (r = (some (0, v2), m2)))))) : Ev (d + 1) K_Th_between 0 10 [(17, 0), (0, x1), (0, x2), (0, x3)] [] m r := by
  refine Ev_rn (q := (12, [(17, 0), (0, x1), (0, x2), (0, x3)], [(0, 4), (0, x3)], m)) 2 rfl ?_
  refine Ev_icmp rfl (fun hc => ?_) (fun hc => ?_)
  · replace h := h.1 hc
    refine Ev_rn (q := (25, [(17, 0), (0, x1), (0, x2), (0, x3)], [(0, (-1))], m)) 1 rfl ?_
    exact Ev_ret rfl rfl h
  · replace h := h.2 hc
    refine Ev_rn (q := (15, [(17, 0), (0, x1), (0, x2), (0, x3)], [(0, x3), (0, x1)], m)) 2 rfl ?_
    obtain ⟨v1, m1, hc, h⟩ := h
    refine Ev_call (rest := []) rfl rfl (Nat.le_of_ble_eq_true rfl) hc ?_
    refine Ev_rn (q := (17, [(17, 0), (0, x1), (0, x2), (0, x3)], [(0, x2), (0, v1)], m1)) 1 rfl ?_
    refine Ev_icmp rfl (fun hc => ?_) (fun hc => ?_)
    · replace h := h.1 hc
      refine Ev_rn (q := (10, [(17, 0), (0, x1), (0, x2), (0, w32 (x3 + 1))], [], m1)) 2 rfl ?_
      exact h
    · replace h := h.2 hc
      refine Ev_rn (q := (20, [(17, 0), (0, x1), (0, x2), (0, x3)], [(0, x3), (0, x1)], m1)) 2 rfl ?_
      obtain ⟨v2, m2, hc, h⟩ := h
      refine Ev_call (rest := []) rfl rfl (Nat.le_of_ble_eq_true rfl) hc ?_
      exact Ev_ret rfl rfl h
theorem b_Th_is {d : Nat} {r : Option Vv × Mm} {m : Mm} {x1 : Int} (h : (x1 = 0 → r = (some (0, m 129 5), m)) ∧ (¬ x1 = 0 → (x1 = 1 → r = (some (0, m 129 6), m)) ∧ (¬ x1 = 1 → (x1 = 2 → ∃ (v1 : Int) (m1 : Mm), Cl d k_Ha_eastOf [(1, m 129 0)] m (some (0, v1), m1) ∧ (r = (some (0, v1), m1))) ∧ (¬ x1 = 2 → (x1 = 3 → ∃ (v2 : Int) (m2 : Mm), Cl d k_Ha_southOf [(1, m 129 0)] m (some (0, v2), m2) ∧ (r = (some (0, v2), m2))) ∧ (¬ x1 = 3 → (x1 = 4 → ∃ (v3 : Int) (m3 : Mm), Cl d k_Lo_bitCount [(1, m 129 0)] m (some (0, v3), m3) ∧ (r = (some (0, v3), m3))) ∧ (¬ x1 = 4 → r = (some (0, (-2)), m))))))) : Ev (d + 1) K_Th_is 0 0 [(17, 0), (0, x1), (9, 0)] [] m r := by
  refine Ev_rn (q := (5, [(17, 0), (0, x1), (13, 129)], [(0, x1)], m)) 5 rfl ?_
  refine Ev_tsw rfl ?_
  refine ⟨fun hc => ?_, fun hc => ?_⟩
  · replace h := h.1 hc
    refine Ev_rn (q := (8, [(17, 0), (0, x1), (13, 129)], [(0, m 129 5)], m)) 2 rfl ?_
    exact Ev_ret rfl rfl h
  · replace h := h.2 hc
    refine ⟨fun hc => ?_, fun hc => ?_⟩
    · replace h := h.1 hc
      refine Ev_rn (q := (11, [(17, 0), (0, x1), (13, 129)], [(0, m 129 6)], m)) 2 rfl ?_
      exact Ev_ret rfl rfl h
    · replace h := h.2 hc
      refine ⟨fun hc => ?_, fun hc => ?_⟩
      · replace h := h.1 hc
        refine Ev_rn (q := (14, [(17, 0), (0, x1), (13, 129)], [(1, m 129 0)], m)) 2 rfl ?_
        obtain ⟨v1, m1, hc, h⟩ := h
        refine Ev_call (rest := []) rfl rfl (Nat.le_of_ble_eq_true rfl) hc ?_
        exact Ev_ret rfl rfl h
      · replace h := h.2 hc
        refine ⟨fun hc => ?_, fun hc => ?_⟩
        · replace h := h.1 hc
          refine Ev_rn (q := (18, [(17, 0), (0, x1), (13, 129)], [(1, m 129 0)], m)) 2 rfl ?_
          obtain ⟨v2, m2, hc, h⟩ := h
          refine Ev_call (rest := []) rfl rfl (Nat.le_of_ble_eq_true rfl) hc ?_
          exact Ev_ret rfl rfl h
        · replace h := h.2 hc
          refine ⟨fun hc => ?_, fun hc => ?_⟩
          · replace h := h.1 hc
            refine Ev_rn (q := (22, [(17, 0), (0, x1), (13, 129)], [(1, m 129 0)], m)) 2 rfl ?_
            obtain ⟨v3, m3, hc, h⟩ := h
            refine Ev_call (rest := []) rfl rfl (Nat.le_of_ble_eq_true rfl) hc ?_
            exact Ev_ret rfl rfl h
          · replace h := h.2 hc
            refine Ev_rn (q := (25, [(17, 0), (0, x1), (13, 129)], [(0, (-2))], m)) 1 rfl ?_
            exact Ev_ret rfl rfl h
theorem b_Th_book {d : Nat} {r : Option Vv × Mm} {m : Mm} {x1 x2 : Int} (h : (¬ x1 = (-1) → (x1 < 0 → r = (some (0, (-2)), m)) ∧ (¬ (x1 < 0) → (x1 < m 129 7 → (x2 = 0 → ∃ (v1 : Int) (m1 : Mm), Cl d k_La_lineHour [(13, 129), (0, x1)] m (some (0, v1), m1) ∧ (r = (some (0, v1), m1))) ∧ (¬ x2 = 0 → (x2 = 1 → ∃ (v2 : Int) (m2 : Mm), Cl d k_La_lineKind [(13, 129), (0, x1)] m (some (0, v2), m2) ∧ (r = (some (0, v2), m2))) ∧ (¬ x2 = 1 → (x2 = 2 → ∃ (v3 : Int) (m3 : Mm), Cl d k_La_lineWhich [(13, 129), (0, x1)] m (some (0, v3), m3) ∧ (r = (some (0, v3), m3))) ∧ (¬ x2 = 2 → r = (some (0, (-2)), m))))) ∧ (¬ (x1 < m 129 7) → r = (some (0, (-2)), m)))) ∧ (¬ (¬ x1 = (-1)) → r = (some (0, m 129 7), m))) : Ev (d + 1) K_Th_book 0 0 [(17, 0), (0, x1), (0, x2), (9, 0)] [] m r := by
  refine Ev_rn (q := (6, [(17, 0), (0, x1), (0, x2), (13, 129)], [(0, (-1)), (0, x1)], m)) 6 rfl ?_
  refine Ev_icmp rfl (fun hc => ?_) (fun hc => ?_)
  · replace h := h.1 hc
    refine Ev_rn (q := (11, [(17, 0), (0, x1), (0, x2), (13, 129)], [(0, x1)], m)) 1 rfl ?_
    refine Ev_if rfl (fun hc => ?_) (fun hc => ?_)
    · replace h := h.1 hc
      refine Ev_rn (q := (17, [(17, 0), (0, x1), (0, x2), (13, 129)], [(0, (-2))], m)) 1 rfl ?_
      exact Ev_ret rfl rfl h
    · replace h := h.2 hc
      refine Ev_rn (q := (15, [(17, 0), (0, x1), (0, x2), (13, 129)], [(0, m 129 7), (0, x1)], m)) 3 rfl ?_
      refine Ev_icmp rfl (fun hc => ?_) (fun hc => ?_)
      · replace h := h.1 hc
        refine Ev_rn (q := (19, [(17, 0), (0, x1), (0, x2), (13, 129)], [(0, x2)], m)) 1 rfl ?_
        refine Ev_tsw rfl ?_
        refine ⟨fun hc => ?_, fun hc => ?_⟩
        · replace h := h.1 hc
          refine Ev_rn (q := (22, [(17, 0), (0, x1), (0, x2), (13, 129)], [(0, x1), (13, 129)], m)) 2 rfl ?_
          obtain ⟨v1, m1, hc, h⟩ := h
          refine Ev_call (rest := []) rfl rfl (Nat.le_of_ble_eq_true rfl) hc ?_
          exact Ev_ret rfl rfl h
        · replace h := h.2 hc
          refine ⟨fun hc => ?_, fun hc => ?_⟩
          · replace h := h.1 hc
            refine Ev_rn (q := (26, [(17, 0), (0, x1), (0, x2), (13, 129)], [(0, x1), (13, 129)], m)) 2 rfl ?_
            obtain ⟨v2, m2, hc, h⟩ := h
            refine Ev_call (rest := []) rfl rfl (Nat.le_of_ble_eq_true rfl) hc ?_
            exact Ev_ret rfl rfl h
          · replace h := h.2 hc
            refine ⟨fun hc => ?_, fun hc => ?_⟩
            · replace h := h.1 hc
              refine Ev_rn (q := (30, [(17, 0), (0, x1), (0, x2), (13, 129)], [(0, x1), (13, 129)], m)) 2 rfl ?_
              obtain ⟨v3, m3, hc, h⟩ := h
              refine Ev_call (rest := []) rfl rfl (Nat.le_of_ble_eq_true rfl) hc ?_
              exact Ev_ret rfl rfl h
            · replace h := h.2 hc
              refine Ev_rn (q := (33, [(17, 0), (0, x1), (0, x2), (13, 129)], [(0, (-2))], m)) 1 rfl ?_
              exact Ev_ret rfl rfl h
      · replace h := h.2 hc
        refine Ev_rn (q := (17, [(17, 0), (0, x1), (0, x2), (13, 129)], [(0, (-2))], m)) 1 rfl ?_
        exact Ev_ret rfl rfl h
  · replace h := h.2 hc
    refine Ev_rn (q := (9, [(17, 0), (0, x1), (0, x2), (13, 129)], [(0, m 129 7)], m)) 2 rfl ?_
    exact Ev_ret rfl rfl h
theorem b_Th_foretold {d : Nat} {r : Option Vv × Mm} {m : Mm} {x1 x2 : Int} (h : (x1 < 1 → r = (some (0, (-2)), m)) ∧ (¬ (x1 < 1) → (60 < x1 → r = (some (0, (-2)), m)) ∧ (¬ (60 < x1) → ∃ (v1 : Int) (m1 : Mm), Cl d k_La_isCow [(13, 129), (0, x2)] m (some (0, v1), m1) ∧ ((¬ v1 = 0 → ∃ (m2 : Mm), Cl d k_La_copyFrom [(13, 64), (13, 129)] m1 (none, m2) ∧ (Ev (d + 1) K_Th_foretold 0 22 [(17, 0), (0, x1), (0, x2), (0, 0)] [] m2 r)) ∧ (¬ (¬ v1 = 0) → r = (some (0, (-2)), m1)))))) : Ev (d + 1) K_Th_foretold 0 0 [(17, 0), (0, x1), (0, x2), (9, 0)] [] m r := by
  refine Ev_rn (q := (2, [(17, 0), (0, x1), (0, x2), (9, 0)], [(0, 1), (0, x1)], m)) 2 rfl ?_
  refine Ev_icmp rfl (fun hc => ?_) (fun hc => ?_)
  · replace h := h.1 hc
    refine Ev_rn (q := (13, [(17, 0), (0, x1), (0, x2), (9, 0)], [(0, (-2))], m)) 1 rfl ?_
    exact Ev_ret rfl rfl h
  · replace h := h.2 hc
    refine Ev_rn (q := (5, [(17, 0), (0, x1), (0, x2), (9, 0)], [(0, 60), (0, x1)], m)) 2 rfl ?_
    refine Ev_icmp rfl (fun hc => ?_) (fun hc => ?_)
    · replace h := h.1 hc
      refine Ev_rn (q := (13, [(17, 0), (0, x1), (0, x2), (9, 0)], [(0, (-2))], m)) 1 rfl ?_
      exact Ev_ret rfl rfl h
    · replace h := h.2 hc
      refine Ev_rn (q := (10, [(17, 0), (0, x1), (0, x2), (9, 0)], [(0, x2), (13, 129)], m)) 4 rfl ?_
      obtain ⟨v1, m1, hc, h⟩ := h
      refine Ev_call (rest := []) rfl rfl (Nat.le_of_ble_eq_true rfl) hc ?_
      refine Ev_if rfl (fun hc => ?_) (fun hc => ?_)
      · replace h := h.1 hc
        refine Ev_rn (q := (19, [(17, 0), (0, x1), (0, x2), (9, 0)], [(13, 129), (13, 64)], m1)) 5 rfl ?_
        obtain ⟨m2, hc, h⟩ := h
        refine Ev_call (rest := []) rfl rfl (Nat.le_of_ble_eq_true rfl) hc ?_
        refine Ev_rn (q := (22, [(17, 0), (0, x1), (0, x2), (0, 0)], [], m2)) 2 rfl ?_
        exact h
      · replace h := h.2 hc
        refine Ev_rn (q := (13, [(17, 0), (0, x1), (0, x2), (9, 0)], [(0, (-2))], m1)) 1 rfl ?_
        exact Ev_ret rfl rfl h
theorem b_Th_foretold_22 {d : Nat} {r : Option Vv × Mm} {m : Mm} {x1 x2 x3 : Int} (h : (x1 ≤ x3 → ∃ (v1 : Int) (m1 : Mm), Cl d k_La_isHome [(13, 64), (0, x2)] m (some (0, v1), m1) ∧ ((v1 = 0 → (0 ≤ x2 ∧ x2 < 5) ∧ (r = (some (0, m1 65 x2), m1))) ∧ (¬ (v1 = 0) → r = (some (0, (-1)), m1)))) ∧ (¬ (x1 ≤ x3) → (9999 ≤ m 64 5 → ∃ (v2 : Int) (m2 : Mm), Cl d k_La_isHome [(13, 64), (0, x2)] m (some (0, v2), m2) ∧ ((v2 = 0 → (0 ≤ x2 ∧ x2 < 5) ∧ (r = (some (0, m2 65 x2), m2))) ∧ (¬ (v2 = 0) → r = (some (0, (-1)), m2)))) ∧ (¬ (9999 ≤ m 64 5) → ∃ (m3 : Mm), Cl d k_Th_passHour [(17, 0), (13, 64)] m (none, m3) ∧ (Ev (d + 1) K_Th_foretold 0 22 [(17, 0), (0, x1), (0, x2), (0, w32 (x3 + 1))] [] m3 r)))) : Ev (d + 1) K_Th_foretold 0 22 [(17, 0), (0, x1), (0, x2), (0, x3)] [] m r := by
  refine Ev_rn (q := (24, [(17, 0), (0, x1), (0, x2), (0, x3)], [(0, x1), (0, x3)], m)) 2 rfl ?_
  refine Ev_icmp rfl (fun hc => ?_) (fun hc => ?_)
  · replace h := h.1 hc
    refine Ev_rn (q := (39, [(17, 0), (0, x1), (0, x2), (0, x3)], [(0, x2), (13, 64)], m)) 3 rfl ?_
    obtain ⟨v1, m1, hc, h⟩ := h
    refine Ev_call (rest := []) rfl rfl (Nat.le_of_ble_eq_true rfl) hc ?_
    refine Ev_if rfl (fun hc => ?_) (fun hc => ?_)
    · replace h := h.1 hc
      refine Ev_rn (q := (47, [(17, 0), (0, x1), (0, x2), (0, x3)], [(0, x2), (140, 65)], m1)) 4 rfl ?_
      obtain ⟨hc, h⟩ := h
      refine Ev_iald (n := 5) rfl (by decide) (by decide) hc ?_
      exact Ev_ret rfl rfl h
    · replace h := h.2 hc
      refine Ev_rn (q := (48, [(17, 0), (0, x1), (0, x2), (0, x3)], [(0, (-1))], m1)) 2 rfl ?_
      exact Ev_ret rfl rfl h
  · replace h := h.2 hc
    refine Ev_rn (q := (29, [(17, 0), (0, x1), (0, x2), (0, x3)], [(0, 9999), (0, m 64 5)], m)) 4 rfl ?_
    refine Ev_icmp rfl (fun hc => ?_) (fun hc => ?_)
    · replace h := h.1 hc
      refine Ev_rn (q := (39, [(17, 0), (0, x1), (0, x2), (0, x3)], [(0, x2), (13, 64)], m)) 3 rfl ?_
      obtain ⟨v2, m2, hc, h⟩ := h
      refine Ev_call (rest := []) rfl rfl (Nat.le_of_ble_eq_true rfl) hc ?_
      refine Ev_if rfl (fun hc => ?_) (fun hc => ?_)
      · replace h := h.1 hc
        refine Ev_rn (q := (47, [(17, 0), (0, x1), (0, x2), (0, x3)], [(0, x2), (140, 65)], m2)) 4 rfl ?_
        obtain ⟨hc, h⟩ := h
        refine Ev_iald (n := 5) rfl (by decide) (by decide) hc ?_
        exact Ev_ret rfl rfl h
      · replace h := h.2 hc
        refine Ev_rn (q := (48, [(17, 0), (0, x1), (0, x2), (0, x3)], [(0, (-1))], m2)) 2 rfl ?_
        exact Ev_ret rfl rfl h
    · replace h := h.2 hc
      refine Ev_rn (q := (33, [(17, 0), (0, x1), (0, x2), (0, x3)], [(13, 64), (17, 0)], m)) 3 rfl ?_
      obtain ⟨m3, hc, h⟩ := h
      refine Ev_call (rest := []) rfl rfl (Nat.le_of_ble_eq_true rfl) hc ?_
      refine Ev_rn (q := (22, [(17, 0), (0, x1), (0, x2), (0, w32 (x3 + 1))], [], m3)) 2 rfl ?_
      exact h
theorem b_Th_miles {d : Nat} {r : Option Vv × Mm} {m : Mm} {x1 x2 : Int} (h : ∃ (v1 : Int) (m1 : Mm), Cl d k_Pl_isCell [(0, x1)] m (some (0, v1), m1) ∧ ((v1 = 0 → r = (some (0, (-1)), m1)) ∧ (¬ (v1 = 0) → ∃ (v2 : Int) (m2 : Mm), Cl d k_Pl_isCell [(0, x2)] m1 (some (0, v2), m2) ∧ ((¬ v2 = 0 → ∃ (m3 : Mm), Cl d k_Th_mazeNow [(17, 0)] m2 (some (14, 13), m3) ∧ (∃ (v4 : Int) (m4 : Mm), Cl d k_Mz_milesTo [(14, 13), (0, x1), (0, isl 1 x2)] m3 (some (0, v4), m4) ∧ (r = (some (0, v4), m4)))) ∧ (¬ (¬ v2 = 0) → r = (some (0, (-1)), m2)))))) : Ev (d + 1) K_Th_miles 0 0 [(17, 0), (0, x1), (0, x2)] [] m r := by
  refine Ev_rn (q := (1, [(17, 0), (0, x1), (0, x2)], [(0, x1)], m)) 1 rfl ?_
  obtain ⟨v1, m1, hc, h⟩ := h
  refine Ev_call (rest := []) rfl rfl (Nat.le_of_ble_eq_true rfl) hc ?_
  refine Ev_if rfl (fun hc => ?_) (fun hc => ?_)
  · replace h := h.1 hc
    refine Ev_rn (q := (7, [(17, 0), (0, x1), (0, x2)], [(0, (-1))], m1)) 1 rfl ?_
    exact Ev_ret rfl rfl h
  · replace h := h.2 hc
    refine Ev_rn (q := (4, [(17, 0), (0, x1), (0, x2)], [(0, x2)], m1)) 1 rfl ?_
    obtain ⟨v2, m2, hc, h⟩ := h
    refine Ev_call (rest := []) rfl rfl (Nat.le_of_ble_eq_true rfl) hc ?_
    refine Ev_if rfl (fun hc => ?_) (fun hc => ?_)
    · replace h := h.1 hc
      refine Ev_rn (q := (9, [(17, 0), (0, x1), (0, x2)], [(17, 0)], m2)) 1 rfl ?_
      obtain ⟨m3, hc, h⟩ := h
      refine Ev_call (rest := []) rfl rfl (Nat.le_of_ble_eq_true rfl) hc ?_
      refine Ev_rn (q := (14, [(17, 0), (0, x1), (0, x2)], [(0, isl 1 x2), (0, x1), (14, 13)], m3)) 4 rfl ?_
      obtain ⟨v4, m4, hc, h⟩ := h
      refine Ev_call (rest := []) rfl rfl (Nat.le_of_ble_eq_true rfl) hc ?_
      exact Ev_ret rfl rfl h
    · replace h := h.2 hc
      refine Ev_rn (q := (7, [(17, 0), (0, x1), (0, x2)], [(0, (-1))], m2)) 1 rfl ?_
      exact Ev_ret rfl rfl h
theorem b_Th_way {d : Nat} {r : Option Vv × Mm} {m : Mm} {x1 x2 x3 : Int} (h : ∃ (v1 : Int) (m1 : Mm), Cl d k_Pl_isCell [(0, x1)] m (some (0, v1), m1) ∧ ((v1 = 0 → r = (some (0, (-2)), m1)) ∧ (¬ (v1 = 0) → ∃ (v2 : Int) (m2 : Mm), Cl d k_Pl_isCell [(0, x2)] m1 (some (0, v2), m2) ∧ ((v2 = 0 → r = (some (0, (-2)), m2)) ∧ (¬ (v2 = 0) → (0 ≤ x3 → ∃ (m3 : Mm), Cl d k_Th_mazeNow [(17, 0)] m2 (some (14, 13), m3) ∧ (∃ (v4 : Int) (m4 : Mm), Cl d k_Mz_milesTo [(14, 13), (0, x1), (0, isl 1 x2)] m3 (some (0, v4), m4) ∧ ((x3 < v4 → Ev (d + 1) K_Th_way 0 29 [(17, 0), (0, x1), (0, x2), (0, x3), (0, v4), (0, x1), (0, (-2)), (0, v4)] [] m4 r) ∧ (¬ (x3 < v4) → r = (some (0, (-2)), m4))))) ∧ (¬ (0 ≤ x3) → r = (some (0, (-2)), m2))))))) : Ev (d + 1) K_Th_way 0 0 [(17, 0), (0, x1), (0, x2), (0, x3), (9, 0), (9, 0), (9, 0), (9, 0)] [] m r := by
  refine Ev_rn (q := (1, [(17, 0), (0, x1), (0, x2), (0, x3), (9, 0), (9, 0), (9, 0), (9, 0)], [(0, x1)], m)) 1 rfl ?_
  obtain ⟨v1, m1, hc, h⟩ := h
  refine Ev_call (rest := []) rfl rfl (Nat.le_of_ble_eq_true rfl) hc ?_
  refine Ev_if rfl (fun hc => ?_) (fun hc => ?_)
  · replace h := h.1 hc
    refine Ev_rn (q := (9, [(17, 0), (0, x1), (0, x2), (0, x3), (9, 0), (9, 0), (9, 0), (9, 0)], [(0, (-2))], m1)) 1 rfl ?_
    exact Ev_ret rfl rfl h
  · replace h := h.2 hc
    refine Ev_rn (q := (4, [(17, 0), (0, x1), (0, x2), (0, x3), (9, 0), (9, 0), (9, 0), (9, 0)], [(0, x2)], m1)) 1 rfl ?_
    obtain ⟨v2, m2, hc, h⟩ := h
    refine Ev_call (rest := []) rfl rfl (Nat.le_of_ble_eq_true rfl) hc ?_
    refine Ev_if rfl (fun hc => ?_) (fun hc => ?_)
    · replace h := h.1 hc
      refine Ev_rn (q := (9, [(17, 0), (0, x1), (0, x2), (0, x3), (9, 0), (9, 0), (9, 0), (9, 0)], [(0, (-2))], m2)) 1 rfl ?_
      exact Ev_ret rfl rfl h
    · replace h := h.2 hc
      refine Ev_rn (q := (7, [(17, 0), (0, x1), (0, x2), (0, x3), (9, 0), (9, 0), (9, 0), (9, 0)], [(0, x3)], m2)) 1 rfl ?_
      refine Ev_if rfl (fun hc => ?_) (fun hc => ?_)
      · replace h := h.1 hc
        refine Ev_rn (q := (11, [(17, 0), (0, x1), (0, x2), (0, x3), (9, 0), (9, 0), (9, 0), (9, 0)], [(17, 0)], m2)) 1 rfl ?_
        obtain ⟨m3, hc, h⟩ := h
        refine Ev_call (rest := []) rfl rfl (Nat.le_of_ble_eq_true rfl) hc ?_
        refine Ev_rn (q := (16, [(17, 0), (0, x1), (0, x2), (0, x3), (9, 0), (9, 0), (9, 0), (9, 0)], [(0, isl 1 x2), (0, x1), (14, 13)], m3)) 4 rfl ?_
        obtain ⟨v4, m4, hc, h⟩ := h
        refine Ev_call (rest := []) rfl rfl (Nat.le_of_ble_eq_true rfl) hc ?_
        refine Ev_rn (q := (20, [(17, 0), (0, x1), (0, x2), (0, x3), (0, v4), (9, 0), (9, 0), (9, 0)], [(0, v4), (0, x3)], m4)) 3 rfl ?_
        refine Ev_icmp rfl (fun hc => ?_) (fun hc => ?_)
        · replace h := h.1 hc
          refine Ev_rn (q := (29, [(17, 0), (0, x1), (0, x2), (0, x3), (0, v4), (0, x1), (0, (-2)), (0, v4)], [], m4)) 6 rfl ?_
          exact h
        · replace h := h.2 hc
          refine Ev_rn (q := (22, [(17, 0), (0, x1), (0, x2), (0, x3), (0, v4), (9, 0), (9, 0), (9, 0)], [(0, (-2))], m4)) 1 rfl ?_
          exact Ev_ret rfl rfl h
      · replace h := h.2 hc
        refine Ev_rn (q := (9, [(17, 0), (0, x1), (0, x2), (0, x3), (9, 0), (9, 0), (9, 0), (9, 0)], [(0, (-2))], m2)) 1 rfl ?_
        exact Ev_ret rfl rfl h
theorem b_Th_way_29 {d : Nat} {r : Option Vv × Mm} {m : Mm} {x1 x2 x3 x4 x5 x6 x7 : Int} (h : (x7 ≤ w32 ((w32 (x4 - x3)) - 1) → r = (some (0, x6), m)) ∧ (¬ (x7 ≤ w32 ((w32 (x4 - x3)) - 1)) → ∃ (v1 : Int) (m1 : Mm), Cl d k_Pl_isCell [(0, x5)] m (some (0, v1), m1) ∧ ((v1 = 0 → r = (some (0, x6), m1)) ∧ (¬ (v1 = 0) → ∃ (v2 : Int) (m2 : Mm), Cl d k_Mz_wayNearer [(14, 13), (0, x5), (0, isl 1 x2), (0, x7)] m1 (some (0, v2), m2) ∧ (∃ (v3 : Int) (m3 : Mm), Cl d k_Pl_cellBeyond [(0, x5), (0, v2)] m2 (some (0, v3), m3) ∧ (Ev (d + 1) K_Th_way 0 29 [(17, 0), (0, x1), (0, x2), (0, x3), (0, x4), (0, v3), (0, v2), (0, w32 (x7 + (-1)))] [] m3 r)))))) : Ev (d + 1) K_Th_way 0 29 [(17, 0), (0, x1), (0, x2), (0, x3), (0, x4), (0, x5), (0, x6), (0, x7)] [] m r := by
  refine Ev_rn (q := (35, [(17, 0), (0, x1), (0, x2), (0, x3), (0, x4), (0, x5), (0, x6), (0, x7)], [(0, w32 ((w32 (x4 - x3)) - 1)), (0, x7)], m)) 6 rfl ?_
  refine Ev_icmp rfl (fun hc => ?_) (fun hc => ?_)
  · replace h := h.1 hc
    refine Ev_rn (q := (55, [(17, 0), (0, x1), (0, x2), (0, x3), (0, x4), (0, x5), (0, x6), (0, x7)], [(0, x6)], m)) 1 rfl ?_
    exact Ev_ret rfl rfl h
  · replace h := h.2 hc
    refine Ev_rn (q := (37, [(17, 0), (0, x1), (0, x2), (0, x3), (0, x4), (0, x5), (0, x6), (0, x7)], [(0, x5)], m)) 1 rfl ?_
    obtain ⟨v1, m1, hc, h⟩ := h
    refine Ev_call (rest := []) rfl rfl (Nat.le_of_ble_eq_true rfl) hc ?_
    refine Ev_if rfl (fun hc => ?_) (fun hc => ?_)
    · replace h := h.1 hc
      refine Ev_rn (q := (55, [(17, 0), (0, x1), (0, x2), (0, x3), (0, x4), (0, x5), (0, x6), (0, x7)], [(0, x6)], m1)) 1 rfl ?_
      exact Ev_ret rfl rfl h
    · replace h := h.2 hc
      refine Ev_rn (q := (46, [(17, 0), (0, x1), (0, x2), (0, x3), (0, x4), (0, x5), (0, x6), (0, x7)], [(0, x7), (0, isl 1 x2), (0, x5), (14, 13)], m1)) 7 rfl ?_
      obtain ⟨v2, m2, hc, h⟩ := h
      refine Ev_call (rest := []) rfl rfl (Nat.le_of_ble_eq_true rfl) hc ?_
      refine Ev_rn (q := (50, [(17, 0), (0, x1), (0, x2), (0, x3), (0, x4), (0, x5), (0, v2), (0, x7)], [(0, v2), (0, x5)], m2)) 3 rfl ?_
      obtain ⟨v3, m3, hc, h⟩ := h
      refine Ev_call (rest := []) rfl rfl (Nat.le_of_ble_eq_true rfl) hc ?_
      refine Ev_rn (q := (29, [(17, 0), (0, x1), (0, x2), (0, x3), (0, x4), (0, v3), (0, v2), (0, w32 (x7 + (-1)))], [], m3)) 3 rfl ?_
      exact h
theorem b_Th_cuts {d : Nat} {r : Option Vv × Mm} {m : Mm} {x1 x2 : Int} (h : ∃ (v1 : Int) (m1 : Mm), Cl d k_Pl_isCell [(0, x1)] m (some (0, v1), m1) ∧ ((v1 = 0 → r = (some (0, (-1)), m1)) ∧ (¬ (v1 = 0) → ∃ (v2 : Int) (m2 : Mm), Cl d k_Pl_isCell [(0, x2)] m1 (some (0, v2), m2) ∧ ((¬ v2 = 0 → ∃ (m3 : Mm), Cl d k_Th_mazeNow [(17, 0)] m2 (some (14, 13), m3) ∧ (∃ (v4 : Int) (m4 : Mm), Cl d k_Mz_cutsTo [(14, 13), (0, x1), (0, isl 1 x2)] m3 (some (0, v4), m4) ∧ (r = (some (0, v4), m4)))) ∧ (¬ (¬ v2 = 0) → r = (some (0, (-1)), m2)))))) : Ev (d + 1) K_Th_cuts 0 0 [(17, 0), (0, x1), (0, x2)] [] m r := by
  refine Ev_rn (q := (1, [(17, 0), (0, x1), (0, x2)], [(0, x1)], m)) 1 rfl ?_
  obtain ⟨v1, m1, hc, h⟩ := h
  refine Ev_call (rest := []) rfl rfl (Nat.le_of_ble_eq_true rfl) hc ?_
  refine Ev_if rfl (fun hc => ?_) (fun hc => ?_)
  · replace h := h.1 hc
    refine Ev_rn (q := (7, [(17, 0), (0, x1), (0, x2)], [(0, (-1))], m1)) 1 rfl ?_
    exact Ev_ret rfl rfl h
  · replace h := h.2 hc
    refine Ev_rn (q := (4, [(17, 0), (0, x1), (0, x2)], [(0, x2)], m1)) 1 rfl ?_
    obtain ⟨v2, m2, hc, h⟩ := h
    refine Ev_call (rest := []) rfl rfl (Nat.le_of_ble_eq_true rfl) hc ?_
    refine Ev_if rfl (fun hc => ?_) (fun hc => ?_)
    · replace h := h.1 hc
      refine Ev_rn (q := (9, [(17, 0), (0, x1), (0, x2)], [(17, 0)], m2)) 1 rfl ?_
      obtain ⟨m3, hc, h⟩ := h
      refine Ev_call (rest := []) rfl rfl (Nat.le_of_ble_eq_true rfl) hc ?_
      refine Ev_rn (q := (14, [(17, 0), (0, x1), (0, x2)], [(0, isl 1 x2), (0, x1), (14, 13)], m3)) 4 rfl ?_
      obtain ⟨v4, m4, hc, h⟩ := h
      refine Ev_call (rest := []) rfl rfl (Nat.le_of_ble_eq_true rfl) hc ?_
      exact Ev_ret rfl rfl h
    · replace h := h.2 hc
      refine Ev_rn (q := (7, [(17, 0), (0, x1), (0, x2)], [(0, (-1))], m2)) 1 rfl ?_
      exact Ev_ret rfl rfl h
theorem b_Th_farthest {d : Nat} {r : Option Vv × Mm} {m : Mm} {x1 : Int} (h : ∃ (v1 : Int) (m1 : Mm), Cl d k_Pl_isCell [(0, x1)] m (some (0, v1), m1) ∧ ((¬ v1 = 0 → ∃ (m2 : Mm), Cl d k_Th_mazeNow [(17, 0)] m1 (some (14, 13), m2) ∧ (∃ (v3 : Int) (m3 : Mm), Cl d k_Mz_farthestFrom [(14, 13), (0, x1)] m2 (some (0, v3), m3) ∧ (r = (some (0, v3), m3)))) ∧ (¬ (¬ v1 = 0) → r = (some (0, (-1)), m1)))) : Ev (d + 1) K_Th_farthest 0 0 [(17, 0), (0, x1)] [] m r := by
  refine Ev_rn (q := (1, [(17, 0), (0, x1)], [(0, x1)], m)) 1 rfl ?_
  obtain ⟨v1, m1, hc, h⟩ := h
  refine Ev_call (rest := []) rfl rfl (Nat.le_of_ble_eq_true rfl) hc ?_
  refine Ev_if rfl (fun hc => ?_) (fun hc => ?_)
  · replace h := h.1 hc
    refine Ev_rn (q := (6, [(17, 0), (0, x1)], [(17, 0)], m1)) 1 rfl ?_
    obtain ⟨m2, hc, h⟩ := h
    refine Ev_call (rest := []) rfl rfl (Nat.le_of_ble_eq_true rfl) hc ?_
    refine Ev_rn (q := (8, [(17, 0), (0, x1)], [(0, x1), (14, 13)], m2)) 1 rfl ?_
    obtain ⟨v3, m3, hc, h⟩ := h
    refine Ev_call (rest := []) rfl rfl (Nat.le_of_ble_eq_true rfl) hc ?_
    exact Ev_ret rfl rfl h
  · replace h := h.2 hc
    refine Ev_rn (q := (4, [(17, 0), (0, x1)], [(0, (-1))], m1)) 1 rfl ?_
    exact Ev_ret rfl rfl h
theorem b_Th_wide {d : Nat} {r : Option Vv × Mm} {m : Mm} (h : ∃ (m1 : Mm), Cl d k_Th_mazeNow [(17, 0)] m (some (14, 13), m1) ∧ (Ev (d + 1) K_Th_wide 0 7 [(17, 0), (0, 0), (0, 0)] [] m1 r)) : Ev (d + 1) K_Th_wide 0 0 [(17, 0), (9, 0), (9, 0)] [] m r := by
  refine Ev_rn (q := (1, [(17, 0), (9, 0), (9, 0)], [(17, 0)], m)) 1 rfl ?_
  obtain ⟨m1, hc, h⟩ := h
  refine Ev_call (rest := []) rfl rfl (Nat.le_of_ble_eq_true rfl) hc ?_
  refine Ev_rn (q := (7, [(17, 0), (0, 0), (0, 0)], [], m1)) 5 rfl ?_
  exact h
theorem b_Th_wide_7 {d : Nat} {r : Option Vv × Mm} {m : Mm} {x1 x2 : Int} (h : (25 ≤ x2 → r = (some (0, x1), m)) ∧ (¬ (25 ≤ x2) → ∃ (v1 : Int) (m1 : Mm), Cl d k_Mz_farthestFrom [(14, 13), (0, x2)] m (some (0, v1), m1) ∧ (∃ (v2 : Int) (m2 : Mm), Cl d k_Mz_milesTo [(14, 13), (0, x2), (0, isl 1 v1)] m1 (some (0, v2), m2) ∧ (Ev (d + 1) K_Th_wide 0 7 [(17, 0), (0, max x1 v2), (0, w32 (x2 + 1))] [] m2 r)))) : Ev (d + 1) K_Th_wide 0 7 [(17, 0), (0, x1), (0, x2)] [] m r := by
  refine Ev_rn (q := (9, [(17, 0), (0, x1), (0, x2)], [(0, 25), (0, x2)], m)) 2 rfl ?_
  refine Ev_icmp rfl (fun hc => ?_) (fun hc => ?_)
  · replace h := h.1 hc
    refine Ev_rn (q := (26, [(17, 0), (0, x1), (0, x2)], [(0, x1)], m)) 1 rfl ?_
    exact Ev_ret rfl rfl h
  · replace h := h.2 hc
    refine Ev_rn (q := (18, [(17, 0), (0, x1), (0, x2)], [(0, x2), (14, 13), (0, 1), (0, x2), (14, 13), (0, x1)], m)) 8 rfl ?_
    obtain ⟨v1, m1, hc, h⟩ := h
    refine Ev_call (rest := [(0, 1), (0, x2), (14, 13), (0, x1)]) rfl rfl (Nat.le_of_ble_eq_true rfl) hc ?_
    refine Ev_rn (q := (20, [(17, 0), (0, x1), (0, x2)], [(0, isl 1 v1), (0, x2), (14, 13), (0, x1)], m1)) 1 rfl ?_
    obtain ⟨v2, m2, hc, h⟩ := h
    refine Ev_call (rest := [(0, x1)]) rfl rfl (Nat.le_of_ble_eq_true rfl) hc ?_
    refine Ev_rn (q := (7, [(17, 0), (0, max x1 v2), (0, w32 (x2 + 1))], [], m2)) 4 rfl ?_
    exact h
theorem b_Th_regions {d : Nat} {r : Option Vv × Mm} {m : Mm} {x1 : Int} (h : (x1 = 0 → ∃ (m1 : Mm), Cl d k_Th_mazeNow [(17, 0)] m (some (14, 13), m1) ∧ (∃ (v2 : Int) (m2 : Mm), Cl d k_Mz_regionCount [(14, 13)] m1 (some (0, v2), m2) ∧ (r = (some (0, v2), m2)))) ∧ (¬ (x1 = 0) → ∃ (m3 : Mm), Cl d k_Th_mazeNow [(17, 0)] m (some (14, 13), m3) ∧ (∃ (v4 : Int) (m4 : Mm), Cl d k_Mz_greatestRegion [(14, 13)] m3 (some (0, v4), m4) ∧ (r = (some (0, v4), m4))))) : Ev (d + 1) K_Th_regions 0 0 [(17, 0), (0, x1)] [] m r := by
  refine Ev_rn (q := (1, [(17, 0), (0, x1)], [(0, x1)], m)) 1 rfl ?_
  refine Ev_if rfl (fun hc => ?_) (fun hc => ?_)
  · replace h := h.1 hc
    refine Ev_rn (q := (7, [(17, 0), (0, x1)], [(17, 0)], m)) 1 rfl ?_
    obtain ⟨m1, hc, h⟩ := h
    refine Ev_call (rest := []) rfl rfl (Nat.le_of_ble_eq_true rfl) hc ?_
    obtain ⟨v2, m2, hc, h⟩ := h
    refine Ev_call (rest := []) rfl rfl (Nat.le_of_ble_eq_true rfl) hc ?_
    exact Ev_ret rfl rfl h
  · replace h := h.2 hc
    refine Ev_rn (q := (3, [(17, 0), (0, x1)], [(17, 0)], m)) 1 rfl ?_
    obtain ⟨m3, hc, h⟩ := h
    refine Ev_call (rest := []) rfl rfl (Nat.le_of_ble_eq_true rfl) hc ?_
    obtain ⟨v4, m4, hc, h⟩ := h
    refine Ev_call (rest := []) rfl rfl (Nat.le_of_ble_eq_true rfl) hc ?_
    refine Ev_rn (q := (9, [(17, 0), (0, x1)], [(0, v4)], m4)) 1 rfl ?_
    exact Ev_ret rfl rfl h
theorem b_Th_rings {d : Nat} {r : Option Vv × Mm} {m : Mm} (h : ∃ (v1 : Int) (m1 : Mm), Cl d k_Lo_bitCount [(1, m 129 0)] m (some (0, v1), m1) ∧ (∃ (m2 : Mm), Cl d k_Th_mazeNow [(17, 0)] m1 (some (14, 13), m2) ∧ (∃ (v3 : Int) (m3 : Mm), Cl d k_Mz_regionCount [(14, 13)] m2 (some (0, v3), m3) ∧ (r = (some (0, w32 ((w32 ((w32 (40 - v1)) - 25)) + v3)), m3))))) : Ev (d + 1) K_Th_rings 0 0 [(17, 0)] [] m r := by
  refine Ev_rn (q := (5, [(17, 0)], [(1, m 129 0), (0, 40)], m)) 5 rfl ?_
  obtain ⟨v1, m1, hc, h⟩ := h
  refine Ev_call (rest := [(0, 40)]) rfl rfl (Nat.le_of_ble_eq_true rfl) hc ?_
  refine Ev_rn (q := (10, [(17, 0)], [(17, 0), (0, w32 ((w32 (40 - v1)) - 25))], m1)) 4 rfl ?_
  obtain ⟨m2, hc, h⟩ := h
  refine Ev_call (rest := [(0, w32 ((w32 (40 - v1)) - 25))]) rfl rfl (Nat.le_of_ble_eq_true rfl) hc ?_
  obtain ⟨v3, m3, hc, h⟩ := h
  refine Ev_call (rest := [(0, w32 ((w32 (40 - v1)) - 25))]) rfl rfl (Nat.le_of_ble_eq_true rfl) hc ?_
  refine Ev_rn (q := (13, [(17, 0)], [(0, w32 ((w32 ((w32 (40 - v1)) - 25)) + v3))], m3)) 1 rfl ?_
  exact Ev_ret rfl rfl h
theorem b_Th_ends {d : Nat} {r : Option Vv × Mm} {m : Mm} (h : Ev (d + 1) K_Th_ends 0 4 [(17, 0), (0, 0), (0, 0)] [] m r) : Ev (d + 1) K_Th_ends 0 0 [(17, 0), (9, 0), (9, 0)] [] m r := by
  refine Ev_rn (q := (4, [(17, 0), (0, 0), (0, 0)], [], m)) 4 rfl ?_
  exact h
theorem b_Th_ends_4 {d : Nat} {r : Option Vv × Mm} {m : Mm} {x1 x2 : Int} (h : (25 ≤ x2 → r = (some (0, x1), m)) ∧ (¬ (25 ≤ x2) → ∃ (v1 : Int) (m1 : Mm), Cl d k_La_openWays [(13, 129), (0, x2)] m (some (0, v1), m1) ∧ (∃ (v2 : Int) (m2 : Mm), Cl d k_In_bitCount [(0, v1)] m1 (some (0, v2), m2) ∧ ((¬ v2 = 1 → Ev (d + 1) K_Th_ends 0 4 [(17, 0), (0, x1), (0, w32 (x2 + 1))] [] m2 r) ∧ (¬ (¬ v2 = 1) → Ev (d + 1) K_Th_ends 0 4 [(17, 0), (0, iro x1 (isl 1 x2)), (0, w32 (x2 + 1))] [] m2 r))))) : Ev (d + 1) K_Th_ends 0 4 [(17, 0), (0, x1), (0, x2)] [] m r := by
  refine Ev_rn (q := (6, [(17, 0), (0, x1), (0, x2)], [(0, 25), (0, x2)], m)) 2 rfl ?_
  refine Ev_icmp rfl (fun hc => ?_) (fun hc => ?_)
  · replace h := h.1 hc
    refine Ev_rn (q := (24, [(17, 0), (0, x1), (0, x2)], [(0, x1)], m)) 1 rfl ?_
    exact Ev_ret rfl rfl h
  · replace h := h.2 hc
    refine Ev_rn (q := (11, [(17, 0), (0, x1), (0, x2)], [(0, x2), (13, 129)], m)) 4 rfl ?_
    obtain ⟨v1, m1, hc, h⟩ := h
    refine Ev_call (rest := []) rfl rfl (Nat.le_of_ble_eq_true rfl) hc ?_
    obtain ⟨v2, m2, hc, h⟩ := h
    refine Ev_call (rest := []) rfl rfl (Nat.le_of_ble_eq_true rfl) hc ?_
    refine Ev_rn (q := (14, [(17, 0), (0, x1), (0, x2)], [(0, 1), (0, v2)], m2)) 1 rfl ?_
    refine Ev_icmp rfl (fun hc => ?_) (fun hc => ?_)
    · replace h := h.1 hc
      refine Ev_rn (q := (4, [(17, 0), (0, x1), (0, w32 (x2 + 1))], [], m2)) 2 rfl ?_
      exact h
    · replace h := h.2 hc
      refine Ev_rn (q := (4, [(17, 0), (0, iro x1 (isl 1 x2)), (0, w32 (x2 + 1))], [], m2)) 8 rfl ?_
      exact h
theorem b_Th_necks {d : Nat} {r : Option Vv × Mm} {m : Mm} (h : ∃ (m1 : Mm), Cl d k_Th_mazeNow [(17, 0)] m (some (14, 13), m1) ∧ (Ev (d + 1) K_Th_necks 0 7 [(17, 0), (0, 0), (0, 0)] [] m1 r)) : Ev (d + 1) K_Th_necks 0 0 [(17, 0), (9, 0), (9, 0)] [] m r := by
  refine Ev_rn (q := (1, [(17, 0), (9, 0), (9, 0)], [(17, 0)], m)) 1 rfl ?_
  obtain ⟨m1, hc, h⟩ := h
  refine Ev_call (rest := []) rfl rfl (Nat.le_of_ble_eq_true rfl) hc ?_
  refine Ev_rn (q := (7, [(17, 0), (0, 0), (0, 0)], [], m1)) 5 rfl ?_
  exact h
theorem b_Th_necks_7 {d : Nat} {r : Option Vv × Mm} {m : Mm} {x1 x2 : Int} (h : (25 ≤ x2 → r = (some (0, x1), m)) ∧ (¬ (25 ≤ x2) → ∃ (v1 : Int) (m1 : Mm), Cl d k_Mz_isNeck [(14, 13), (0, x2)] m (some (0, v1), m1) ∧ ((v1 = 0 → Ev (d + 1) K_Th_necks 0 7 [(17, 0), (0, x1), (0, w32 (x2 + 1))] [] m1 r) ∧ (¬ (v1 = 0) → Ev (d + 1) K_Th_necks 0 7 [(17, 0), (0, iro x1 (isl 1 x2)), (0, w32 (x2 + 1))] [] m1 r)))) : Ev (d + 1) K_Th_necks 0 7 [(17, 0), (0, x1), (0, x2)] [] m r := by
  refine Ev_rn (q := (9, [(17, 0), (0, x1), (0, x2)], [(0, 25), (0, x2)], m)) 2 rfl ?_
  refine Ev_icmp rfl (fun hc => ?_) (fun hc => ?_)
  · replace h := h.1 hc
    refine Ev_rn (q := (24, [(17, 0), (0, x1), (0, x2)], [(0, x1)], m)) 1 rfl ?_
    exact Ev_ret rfl rfl h
  · replace h := h.2 hc
    refine Ev_rn (q := (13, [(17, 0), (0, x1), (0, x2)], [(0, x2), (14, 13)], m)) 3 rfl ?_
    obtain ⟨v1, m1, hc, h⟩ := h
    refine Ev_call (rest := []) rfl rfl (Nat.le_of_ble_eq_true rfl) hc ?_
    refine Ev_if rfl (fun hc => ?_) (fun hc => ?_)
    · replace h := h.1 hc
      refine Ev_rn (q := (7, [(17, 0), (0, x1), (0, w32 (x2 + 1))], [], m1)) 2 rfl ?_
      exact h
    · replace h := h.2 hc
      refine Ev_rn (q := (7, [(17, 0), (0, iro x1 (isl 1 x2)), (0, w32 (x2 + 1))], [], m1)) 8 rfl ?_
      exact h
theorem b_Th_paths {d : Nat} {r : Option Vv × Mm} {m : Mm} {x1 x2 : Int} (h : ∃ (v1 : Int) (m1 : Mm), Cl d k_Pl_isCell [(0, x1)] m (some (0, v1), m1) ∧ ((v1 = 0 → r = (some (1, (-1)), m1)) ∧ (¬ (v1 = 0) → ∃ (v2 : Int) (m2 : Mm), Cl d k_Pl_isCell [(0, x2)] m1 (some (0, v2), m2) ∧ ((¬ v2 = 0 → ∃ (m3 : Mm), Cl d k_Th_mazeNow [(17, 0)] m2 (some (14, 13), m3) ∧ (∃ (v4 : Int) (m4 : Mm), Cl d k_Mz_pathsTo [(14, 13), (0, x1), (0, isl 1 x2)] m3 (some (1, v4), m4) ∧ (r = (some (1, v4), m4)))) ∧ (¬ (¬ v2 = 0) → r = (some (1, (-1)), m2)))))) : Ev (d + 1) K_Th_paths 1 0 [(17, 0), (0, x1), (0, x2)] [] m r := by
  refine Ev_rn (q := (1, [(17, 0), (0, x1), (0, x2)], [(0, x1)], m)) 1 rfl ?_
  obtain ⟨v1, m1, hc, h⟩ := h
  refine Ev_call (rest := []) rfl rfl (Nat.le_of_ble_eq_true rfl) hc ?_
  refine Ev_if rfl (fun hc => ?_) (fun hc => ?_)
  · replace h := h.1 hc
    refine Ev_rn (q := (7, [(17, 0), (0, x1), (0, x2)], [(1, (-1))], m1)) 1 rfl ?_
    exact Ev_ret rfl rfl h
  · replace h := h.2 hc
    refine Ev_rn (q := (4, [(17, 0), (0, x1), (0, x2)], [(0, x2)], m1)) 1 rfl ?_
    obtain ⟨v2, m2, hc, h⟩ := h
    refine Ev_call (rest := []) rfl rfl (Nat.le_of_ble_eq_true rfl) hc ?_
    refine Ev_if rfl (fun hc => ?_) (fun hc => ?_)
    · replace h := h.1 hc
      refine Ev_rn (q := (9, [(17, 0), (0, x1), (0, x2)], [(17, 0)], m2)) 1 rfl ?_
      obtain ⟨m3, hc, h⟩ := h
      refine Ev_call (rest := []) rfl rfl (Nat.le_of_ble_eq_true rfl) hc ?_
      refine Ev_rn (q := (14, [(17, 0), (0, x1), (0, x2)], [(0, isl 1 x2), (0, x1), (14, 13)], m3)) 4 rfl ?_
      obtain ⟨v4, m4, hc, h⟩ := h
      refine Ev_call (rest := []) rfl rfl (Nat.le_of_ble_eq_true rfl) hc ?_
      exact Ev_ret rfl rfl h
    · replace h := h.2 hc
      refine Ev_rn (q := (7, [(17, 0), (0, x1), (0, x2)], [(1, (-1))], m2)) 1 rfl ?_
      exact Ev_ret rfl rfl h
theorem b_Th_walk {d : Nat} {r : Option Vv × Mm} {m : Mm} {x1 x2 : Int} (h : ∃ (v1 : Int) (m1 : Mm), Cl d k_La_isCow [(13, 129), (0, x1)] m (some (0, v1), m1) ∧ ((¬ v1 = 0 → ∃ (v2 : Int) (m2 : Mm), Cl d k_La_isHome [(13, 129), (0, x1)] m1 (some (0, v2), m2) ∧ ((v2 = 0 → ∃ (v3 : Int) (m3 : Mm), Cl d k_La_stepsHome [(13, 129), (0, x1), (0, m2 128 4)] m2 (some (0, v3), m3) ∧ ((¬ v3 = (-1) → (x2 = 0 → r = (some (0, v3), m3)) ∧ (¬ (x2 = 0) → r = (some (0, (-1)), m3))) ∧ (¬ (¬ v3 = (-1)) → (¬ x2 = 0 → ∃ (v4 : Int) (m4 : Mm), Cl d k_La_ringOf [(13, 129), (0, x1)] m3 (some (0, v4), m4) ∧ (r = (some (0, v4), m4))) ∧ (¬ (¬ x2 = 0) → (x2 = 0 → r = (some (0, v3), m3)) ∧ (¬ (x2 = 0) → r = (some (0, (-1)), m3)))))) ∧ (¬ (v2 = 0) → (x2 = 0 → r = (some (0, 0), m2)) ∧ (¬ (x2 = 0) → r = (some (0, (-1)), m2))))) ∧ (¬ (¬ v1 = 0) → r = (some (0, (-1)), m1)))) : Ev (d + 1) K_Th_walk 0 0 [(17, 0), (0, x1), (0, x2), (9, 0), (9, 0)] [] m r := by
  refine Ev_rn (q := (6, [(17, 0), (0, x1), (0, x2), (13, 129), (9, 0)], [(0, x1), (13, 129)], m)) 6 rfl ?_
  obtain ⟨v1, m1, hc, h⟩ := h
  refine Ev_call (rest := []) rfl rfl (Nat.le_of_ble_eq_true rfl) hc ?_
  refine Ev_if rfl (fun hc => ?_) (fun hc => ?_)
  · replace h := h.1 hc
    refine Ev_rn (q := (12, [(17, 0), (0, x1), (0, x2), (13, 129), (9, 0)], [(0, x1), (13, 129)], m1)) 2 rfl ?_
    obtain ⟨v2, m2, hc, h⟩ := h
    refine Ev_call (rest := []) rfl rfl (Nat.le_of_ble_eq_true rfl) hc ?_
    refine Ev_if rfl (fun hc => ?_) (fun hc => ?_)
    · replace h := h.1 hc
      refine Ev_rn (q := (25, [(17, 0), (0, x1), (0, x2), (13, 129), (9, 0)], [(0, m2 128 4), (0, x1), (13, 129)], m2)) 5 rfl ?_
      obtain ⟨v3, m3, hc, h⟩ := h
      refine Ev_call (rest := []) rfl rfl (Nat.le_of_ble_eq_true rfl) hc ?_
      refine Ev_rn (q := (29, [(17, 0), (0, x1), (0, x2), (13, 129), (0, v3)], [(0, (-1)), (0, v3)], m3)) 3 rfl ?_
      refine Ev_icmp rfl (fun hc => ?_) (fun hc => ?_)
      · replace h := h.1 hc
        refine Ev_rn (q := (33, [(17, 0), (0, x1), (0, x2), (13, 129), (0, v3)], [(0, x2)], m3)) 1 rfl ?_
        refine Ev_if rfl (fun hc => ?_) (fun hc => ?_)
        · replace h := h.1 hc
          refine Ev_rn (q := (37, [(17, 0), (0, x1), (0, x2), (13, 129), (0, v3)], [(0, v3)], m3)) 1 rfl ?_
          exact Ev_ret rfl rfl h
        · replace h := h.2 hc
          refine Ev_rn (q := (37, [(17, 0), (0, x1), (0, x2), (13, 129), (0, v3)], [(0, (-1))], m3)) 2 rfl ?_
          exact Ev_ret rfl rfl h
      · replace h := h.2 hc
        refine Ev_rn (q := (31, [(17, 0), (0, x1), (0, x2), (13, 129), (0, v3)], [(0, x2)], m3)) 1 rfl ?_
        refine Ev_if rfl (fun hc => ?_) (fun hc => ?_)
        · replace h := h.1 hc
          refine Ev_rn (q := (40, [(17, 0), (0, x1), (0, x2), (13, 129), (0, v3)], [(0, x1), (13, 129)], m3)) 2 rfl ?_
          obtain ⟨v4, m4, hc, h⟩ := h
          refine Ev_call (rest := []) rfl rfl (Nat.le_of_ble_eq_true rfl) hc ?_
          exact Ev_ret rfl rfl h
        · replace h := h.2 hc
          refine Ev_rn (q := (33, [(17, 0), (0, x1), (0, x2), (13, 129), (0, v3)], [(0, x2)], m3)) 1 rfl ?_
          refine Ev_if rfl (fun hc => ?_) (fun hc => ?_)
          · replace h := h.1 hc
            refine Ev_rn (q := (37, [(17, 0), (0, x1), (0, x2), (13, 129), (0, v3)], [(0, v3)], m3)) 1 rfl ?_
            exact Ev_ret rfl rfl h
          · replace h := h.2 hc
            refine Ev_rn (q := (37, [(17, 0), (0, x1), (0, x2), (13, 129), (0, v3)], [(0, (-1))], m3)) 2 rfl ?_
            exact Ev_ret rfl rfl h
    · replace h := h.2 hc
      refine Ev_rn (q := (15, [(17, 0), (0, x1), (0, x2), (13, 129), (9, 0)], [(0, x2)], m2)) 1 rfl ?_
      refine Ev_if rfl (fun hc => ?_) (fun hc => ?_)
      · replace h := h.1 hc
        refine Ev_rn (q := (19, [(17, 0), (0, x1), (0, x2), (13, 129), (9, 0)], [(0, 0)], m2)) 1 rfl ?_
        exact Ev_ret rfl rfl h
      · replace h := h.2 hc
        refine Ev_rn (q := (19, [(17, 0), (0, x1), (0, x2), (13, 129), (9, 0)], [(0, (-1))], m2)) 2 rfl ?_
        exact Ev_ret rfl rfl h
  · replace h := h.2 hc
    refine Ev_rn (q := (9, [(17, 0), (0, x1), (0, x2), (13, 129), (9, 0)], [(0, (-1))], m1)) 1 rfl ?_
    exact Ev_ret rfl rfl h
theorem b_Th_home {d : Nat} {r : Option Vv × Mm} {m : Mm} {x1 : Int} (h : (x1 < 0 → r = (some (0, (-1)), m)) ∧ (¬ (x1 < 0) → (x1 ≤ 99 → ∃ (m1 : Mm), Cl d k_Th_mazeNow [(17, 0)] m (some (14, 13), m1) ∧ (∃ (v2 : Int) (m2 : Mm), Cl d k_Mz_within [(14, 13), (0, m1 128 4), (0, x1)] m1 (some (0, v2), m2) ∧ (Ev (d + 1) K_Th_home 0 19 [(17, 0), (0, x1), (0, v2), (0, 0), (0, 0)] [] m2 r))) ∧ (¬ (x1 ≤ 99) → r = (some (0, (-1)), m)))) : Ev (d + 1) K_Th_home 0 0 [(17, 0), (0, x1), (9, 0), (9, 0), (9, 0)] [] m r := by
  refine Ev_rn (q := (1, [(17, 0), (0, x1), (9, 0), (9, 0), (9, 0)], [(0, x1)], m)) 1 rfl ?_
  refine Ev_if rfl (fun hc => ?_) (fun hc => ?_)
  · replace h := h.1 hc
    refine Ev_rn (q := (6, [(17, 0), (0, x1), (9, 0), (9, 0), (9, 0)], [(0, (-1))], m)) 1 rfl ?_
    exact Ev_ret rfl rfl h
  · replace h := h.2 hc
    refine Ev_rn (q := (4, [(17, 0), (0, x1), (9, 0), (9, 0), (9, 0)], [(0, 99), (0, x1)], m)) 2 rfl ?_
    refine Ev_icmp rfl (fun hc => ?_) (fun hc => ?_)
    · replace h := h.1 hc
      refine Ev_rn (q := (8, [(17, 0), (0, x1), (9, 0), (9, 0), (9, 0)], [(17, 0)], m)) 1 rfl ?_
      obtain ⟨m1, hc, h⟩ := h
      refine Ev_call (rest := []) rfl rfl (Nat.le_of_ble_eq_true rfl) hc ?_
      refine Ev_rn (q := (13, [(17, 0), (0, x1), (9, 0), (9, 0), (9, 0)], [(0, x1), (0, m1 128 4), (14, 13)], m1)) 4 rfl ?_
      obtain ⟨v2, m2, hc, h⟩ := h
      refine Ev_call (rest := []) rfl rfl (Nat.le_of_ble_eq_true rfl) hc ?_
      refine Ev_rn (q := (19, [(17, 0), (0, x1), (0, v2), (0, 0), (0, 0)], [], m2)) 5 rfl ?_
      exact h
    · replace h := h.2 hc
      refine Ev_rn (q := (6, [(17, 0), (0, x1), (9, 0), (9, 0), (9, 0)], [(0, (-1))], m)) 1 rfl ?_
      exact Ev_ret rfl rfl h
theorem b_Th_home_19 {d : Nat} {r : Option Vv × Mm} {m : Mm} {x1 x2 x3 x4 : Int} (h : (m 129 1 ≤ x4 → r = (some (0, x3), m)) ∧ (¬ (m 129 1 ≤ x4) → ∃ (v1 : Int) (m1 : Mm), Cl d k_La_isHome [(13, 129), (0, x4)] m (some (0, v1), m1) ∧ ((¬ v1 = 0 → Ev (d + 1) K_Th_home 0 19 [(17, 0), (0, x1), (0, x2), (0, iro x3 (isl 1 x4)), (0, w32 (x4 + 1))] [] m1 r) ∧ (¬ (¬ v1 = 0) → (0 ≤ x4 ∧ x4 < 5) ∧ ((¬ ian (isr x2 (m1 130 x4)) 1 = 1 → Ev (d + 1) K_Th_home 0 19 [(17, 0), (0, x1), (0, x2), (0, x3), (0, w32 (x4 + 1))] [] m1 r) ∧ (¬ (¬ ian (isr x2 (m1 130 x4)) 1 = 1) → Ev (d + 1) K_Th_home 0 19 [(17, 0), (0, x1), (0, x2), (0, iro x3 (isl 1 x4)), (0, w32 (x4 + 1))] [] m1 r)))))) : Ev (d + 1) K_Th_home 0 19 [(17, 0), (0, x1), (0, x2), (0, x3), (0, x4)] [] m r := by
  refine Ev_rn (q := (24, [(17, 0), (0, x1), (0, x2), (0, x3), (0, x4)], [(0, m 129 1), (0, x4)], m)) 5 rfl ?_
  refine Ev_icmp rfl (fun hc => ?_) (fun hc => ?_)
  · replace h := h.1 hc
    refine Ev_rn (q := (52, [(17, 0), (0, x1), (0, x2), (0, x3), (0, x4)], [(0, x3)], m)) 1 rfl ?_
    exact Ev_ret rfl rfl h
  · replace h := h.2 hc
    refine Ev_rn (q := (29, [(17, 0), (0, x1), (0, x2), (0, x3), (0, x4)], [(0, x4), (13, 129)], m)) 4 rfl ?_
    obtain ⟨v1, m1, hc, h⟩ := h
    refine Ev_call (rest := []) rfl rfl (Nat.le_of_ble_eq_true rfl) hc ?_
    refine Ev_if rfl (fun hc => ?_) (fun hc => ?_)
    · replace h := h.1 hc
      refine Ev_rn (q := (19, [(17, 0), (0, x1), (0, x2), (0, iro x3 (isl 1 x4)), (0, w32 (x4 + 1))], [], m1)) 8 rfl ?_
      exact h
    · replace h := h.2 hc
      refine Ev_rn (q := (37, [(17, 0), (0, x1), (0, x2), (0, x3), (0, x4)], [(0, x4), (140, 130), (0, x2)], m1)) 6 rfl ?_
      obtain ⟨hc, h⟩ := h
      refine Ev_iald (n := 5) rfl (by decide) (by decide) hc ?_
      refine Ev_rn (q := (42, [(17, 0), (0, x1), (0, x2), (0, x3), (0, x4)], [(0, 1), (0, ian (isr x2 (m1 130 x4)) 1)], m1)) 4 rfl ?_
      refine Ev_icmp rfl (fun hc => ?_) (fun hc => ?_)
      · replace h := h.1 hc
        refine Ev_rn (q := (19, [(17, 0), (0, x1), (0, x2), (0, x3), (0, w32 (x4 + 1))], [], m1)) 2 rfl ?_
        exact h
      · replace h := h.2 hc
        refine Ev_rn (q := (19, [(17, 0), (0, x1), (0, x2), (0, iro x3 (isl 1 x4)), (0, w32 (x4 + 1))], [], m1)) 8 rfl ?_
        exact h
theorem b_Th_gates {d : Nat} {r : Option Vv × Mm} {m : Mm} {x1 x2 : Int} (h : (x1 < 0 → r = (some (0, (-1)), m)) ∧ (¬ (x1 < 0) → (x1 < 25 → ∃ (m1 : Mm), Cl d k_Th_mazeNow [(17, 0)] m (some (14, 13), m1) ∧ (∃ (v2 : Int) (m2 : Mm), Cl d k_Mz_fewestGates [(14, 13), (0, x1)] m1 (some (0, v2), m2) ∧ ((v2 = (-1) → r = (some (0, v2), m2)) ∧ (¬ (v2 = (-1)) → (¬ x2 = 0 → ∃ (v3 : Int) (m3 : Mm), Cl d k_In_bitCount [(0, v2)] m2 (some (0, v3), m3) ∧ (r = (some (0, v3), m3))) ∧ (¬ (¬ x2 = 0) → r = (some (0, v2), m2)))))) ∧ (¬ (x1 < 25) → r = (some (0, (-1)), m)))) : Ev (d + 1) K_Th_gates 0 0 [(17, 0), (0, x1), (0, x2), (9, 0)] [] m r := by
  refine Ev_rn (q := (1, [(17, 0), (0, x1), (0, x2), (9, 0)], [(0, x1)], m)) 1 rfl ?_
  refine Ev_if rfl (fun hc => ?_) (fun hc => ?_)
  · replace h := h.1 hc
    refine Ev_rn (q := (6, [(17, 0), (0, x1), (0, x2), (9, 0)], [(0, (-1))], m)) 1 rfl ?_
    exact Ev_ret rfl rfl h
  · replace h := h.2 hc
    refine Ev_rn (q := (4, [(17, 0), (0, x1), (0, x2), (9, 0)], [(0, 25), (0, x1)], m)) 2 rfl ?_
    refine Ev_icmp rfl (fun hc => ?_) (fun hc => ?_)
    · replace h := h.1 hc
      refine Ev_rn (q := (8, [(17, 0), (0, x1), (0, x2), (9, 0)], [(17, 0)], m)) 1 rfl ?_
      obtain ⟨m1, hc, h⟩ := h
      refine Ev_call (rest := []) rfl rfl (Nat.le_of_ble_eq_true rfl) hc ?_
      refine Ev_rn (q := (10, [(17, 0), (0, x1), (0, x2), (9, 0)], [(0, x1), (14, 13)], m1)) 1 rfl ?_
      obtain ⟨v2, m2, hc, h⟩ := h
      refine Ev_call (rest := []) rfl rfl (Nat.le_of_ble_eq_true rfl) hc ?_
      refine Ev_rn (q := (14, [(17, 0), (0, x1), (0, x2), (0, v2)], [(0, (-1)), (0, v2)], m2)) 3 rfl ?_
      refine Ev_icmp rfl (fun hc => ?_) (fun hc => ?_)
      · replace h := h.1 hc
        refine Ev_rn (q := (21, [(17, 0), (0, x1), (0, x2), (0, v2)], [(0, v2)], m2)) 2 rfl ?_
        exact Ev_ret rfl rfl h
      · replace h := h.2 hc
        refine Ev_rn (q := (16, [(17, 0), (0, x1), (0, x2), (0, v2)], [(0, x2)], m2)) 1 rfl ?_
        refine Ev_if rfl (fun hc => ?_) (fun hc => ?_)
        · replace h := h.1 hc
          refine Ev_rn (q := (20, [(17, 0), (0, x1), (0, x2), (0, v2)], [(0, v2)], m2)) 1 rfl ?_
          obtain ⟨v3, m3, hc, h⟩ := h
          refine Ev_call (rest := []) rfl rfl (Nat.le_of_ble_eq_true rfl) hc ?_
          exact Ev_ret rfl rfl h
        · replace h := h.2 hc
          refine Ev_rn (q := (21, [(17, 0), (0, x1), (0, x2), (0, v2)], [(0, v2)], m2)) 2 rfl ?_
          exact Ev_ret rfl rfl h
    · replace h := h.2 hc
      refine Ev_rn (q := (6, [(17, 0), (0, x1), (0, x2), (9, 0)], [(0, (-1))], m)) 1 rfl ?_
      exact Ev_ret rfl rfl h
theorem b_Th_turned {d : Nat} {r : Option Vv × Mm} {m : Mm} {x1 x2 x3 : Int} (h : ∃ (v1 : Int) (m1 : Mm), Cl d k_Th_isHand [(17, 0), (0, x1)] m (some (0, v1), m1) ∧ ((v1 = 0 → r = (some (0, (-1)), m1)) ∧ (¬ (v1 = 0) → ∃ (v2 : Int) (m2 : Mm), Cl d k_Ha_isTurn [(0, x2)] m1 (some (0, v2), m2) ∧ ((¬ v2 = 0 → ∃ (v3 : Int) (m3 : Mm), Cl d k_Ha_pattern [(11, 1), (0, x1), (0, x2)] m2 (some (1, v3), m3) ∧ ((x3 = 0 → ∃ (v4 : Int) (m4 : Mm), Cl d k_Ha_eastOf [(1, v3)] m3 (some (0, v4), m4) ∧ (r = (some (0, v4), m4))) ∧ (¬ (x3 = 0) → ∃ (v5 : Int) (m5 : Mm), Cl d k_Ha_southOf [(1, v3)] m3 (some (0, v5), m5) ∧ (r = (some (0, v5), m5))))) ∧ (¬ (¬ v2 = 0) → r = (some (0, (-1)), m2)))))) : Ev (d + 1) K_Th_turned 0 0 [(17, 0), (0, x1), (0, x2), (0, x3), (9, 0), (9, 0)] [] m r := by
  refine Ev_rn (q := (2, [(17, 0), (0, x1), (0, x2), (0, x3), (9, 0), (9, 0)], [(0, x1), (17, 0)], m)) 2 rfl ?_
  obtain ⟨v1, m1, hc, h⟩ := h
  refine Ev_call (rest := []) rfl rfl (Nat.le_of_ble_eq_true rfl) hc ?_
  refine Ev_if rfl (fun hc => ?_) (fun hc => ?_)
  · replace h := h.1 hc
    refine Ev_rn (q := (8, [(17, 0), (0, x1), (0, x2), (0, x3), (9, 0), (9, 0)], [(0, (-1))], m1)) 1 rfl ?_
    exact Ev_ret rfl rfl h
  · replace h := h.2 hc
    refine Ev_rn (q := (5, [(17, 0), (0, x1), (0, x2), (0, x3), (9, 0), (9, 0)], [(0, x2)], m1)) 1 rfl ?_
    obtain ⟨v2, m2, hc, h⟩ := h
    refine Ev_call (rest := []) rfl rfl (Nat.le_of_ble_eq_true rfl) hc ?_
    refine Ev_if rfl (fun hc => ?_) (fun hc => ?_)
    · replace h := h.1 hc
      refine Ev_rn (q := (13, [(17, 0), (0, x1), (0, x2), (0, x3), (9, 0), (9, 0)], [(0, x2), (0, x1), (11, 1)], m2)) 4 rfl ?_
      obtain ⟨v3, m3, hc, h⟩ := h
      refine Ev_call (rest := []) rfl rfl (Nat.le_of_ble_eq_true rfl) hc ?_
      refine Ev_rn (q := (16, [(17, 0), (0, x1), (0, x2), (0, x3), (1, v3), (9, 0)], [(0, x3)], m3)) 2 rfl ?_
      refine Ev_if rfl (fun hc => ?_) (fun hc => ?_)
      · replace h := h.1 hc
        refine Ev_rn (q := (21, [(17, 0), (0, x1), (0, x2), (0, x3), (1, v3), (9, 0)], [(1, v3)], m3)) 1 rfl ?_
        obtain ⟨v4, m4, hc, h⟩ := h
        refine Ev_call (rest := []) rfl rfl (Nat.le_of_ble_eq_true rfl) hc ?_
        exact Ev_ret rfl rfl h
      · replace h := h.2 hc
        refine Ev_rn (q := (18, [(17, 0), (0, x1), (0, x2), (0, x3), (1, v3), (9, 0)], [(1, v3)], m3)) 1 rfl ?_
        obtain ⟨v5, m5, hc, h⟩ := h
        refine Ev_call (rest := []) rfl rfl (Nat.le_of_ble_eq_true rfl) hc ?_
        refine Ev_rn (q := (22, [(17, 0), (0, x1), (0, x2), (0, x3), (1, v3), (9, 0)], [(0, v5)], m5)) 1 rfl ?_
        exact Ev_ret rfl rfl h
    · replace h := h.2 hc
      refine Ev_rn (q := (8, [(17, 0), (0, x1), (0, x2), (0, x3), (9, 0), (9, 0)], [(0, (-1))], m2)) 1 rfl ?_
      exact Ev_ret rfl rfl h
theorem b_Th_unlike {d : Nat} {r : Option Vv × Mm} {m : Mm} {x1 x2 : Int} (h : ∃ (v1 : Int) (m1 : Mm), Cl d k_Th_isHand [(17, 0), (0, x1)] m (some (0, v1), m1) ∧ ((¬ v1 = 0 → ∃ (v2 : Int) (m2 : Mm), Cl d k_Ha_likestTurn [(11, 1), (0, x1), (1, m1 129 0)] m1 (some (0, v2), m2) ∧ ((x2 = 0 → ∃ (v3 : Int) (m3 : Mm), Cl d k_Ha_unlikeness [(11, 1), (0, x1), (0, v2), (1, m2 129 0)] m2 (some (0, v3), m3) ∧ (r = (some (0, v3), m3))) ∧ (¬ (x2 = 0) → r = (some (0, v2), m2)))) ∧ (¬ (¬ v1 = 0) → r = (some (0, (-1)), m1)))) : Ev (d + 1) K_Th_unlike 0 0 [(17, 0), (0, x1), (0, x2), (9, 0)] [] m r := by
  refine Ev_rn (q := (2, [(17, 0), (0, x1), (0, x2), (9, 0)], [(0, x1), (17, 0)], m)) 2 rfl ?_
  obtain ⟨v1, m1, hc, h⟩ := h
  refine Ev_call (rest := []) rfl rfl (Nat.le_of_ble_eq_true rfl) hc ?_
  refine Ev_if rfl (fun hc => ?_) (fun hc => ?_)
  · replace h := h.1 hc
    refine Ev_rn (q := (13, [(17, 0), (0, x1), (0, x2), (9, 0)], [(1, m1 129 0), (0, x1), (11, 1)], m1)) 7 rfl ?_
    obtain ⟨v2, m2, hc, h⟩ := h
    refine Ev_call (rest := []) rfl rfl (Nat.le_of_ble_eq_true rfl) hc ?_
    refine Ev_rn (q := (16, [(17, 0), (0, x1), (0, x2), (0, v2)], [(0, x2)], m2)) 2 rfl ?_
    refine Ev_if rfl (fun hc => ?_) (fun hc => ?_)
    · replace h := h.1 hc
      refine Ev_rn (q := (27, [(17, 0), (0, x1), (0, x2), (0, v2)], [(1, m2 129 0), (0, v2), (0, x1), (11, 1)], m2)) 8 rfl ?_
      obtain ⟨v3, m3, hc, h⟩ := h
      refine Ev_call (rest := []) rfl rfl (Nat.le_of_ble_eq_true rfl) hc ?_
      exact Ev_ret rfl rfl h
    · replace h := h.2 hc
      refine Ev_rn (q := (28, [(17, 0), (0, x1), (0, x2), (0, v2)], [(0, v2)], m2)) 2 rfl ?_
      exact Ev_ret rfl rfl h
  · replace h := h.2 hc
    refine Ev_rn (q := (5, [(17, 0), (0, x1), (0, x2), (9, 0)], [(0, (-1))], m1)) 1 rfl ?_
    exact Ev_ret rfl rfl h
theorem b_Th_owner {d : Nat} {r : Option Vv × Mm} {m : Mm} {x1 : Int} (h : (x1 < 0 → r = (some (0, (-1)), m)) ∧ (¬ (x1 < 0) → (x1 ≤ 40 → Ev (d + 1) K_Th_owner 0 15 [(17, 0), (0, x1), (0, (-1)), (0, w32 (x1 + 1)), (0, 0), (9, 0)] [] m r) ∧ (¬ (x1 ≤ 40) → r = (some (0, (-1)), m)))) : Ev (d + 1) K_Th_owner 0 0 [(17, 0), (0, x1), (9, 0), (9, 0), (9, 0), (9, 0)] [] m r := by
  refine Ev_rn (q := (1, [(17, 0), (0, x1), (9, 0), (9, 0), (9, 0), (9, 0)], [(0, x1)], m)) 1 rfl ?_
  refine Ev_if rfl (fun hc => ?_) (fun hc => ?_)
  · replace h := h.1 hc
    refine Ev_rn (q := (6, [(17, 0), (0, x1), (9, 0), (9, 0), (9, 0), (9, 0)], [(0, (-1))], m)) 1 rfl ?_
    exact Ev_ret rfl rfl h
  · replace h := h.2 hc
    refine Ev_rn (q := (4, [(17, 0), (0, x1), (9, 0), (9, 0), (9, 0), (9, 0)], [(0, 40), (0, x1)], m)) 2 rfl ?_
    refine Ev_icmp rfl (fun hc => ?_) (fun hc => ?_)
    · replace h := h.1 hc
      refine Ev_rn (q := (15, [(17, 0), (0, x1), (0, (-1)), (0, w32 (x1 + 1)), (0, 0), (9, 0)], [], m)) 8 rfl ?_
      exact h
    · replace h := h.2 hc
      refine Ev_rn (q := (6, [(17, 0), (0, x1), (9, 0), (9, 0), (9, 0), (9, 0)], [(0, (-1))], m)) 1 rfl ?_
      exact Ev_ret rfl rfl h
theorem b_Th_owner_15 {d : Nat} {r : Option Vv × Mm} {m : Mm} {x1 x2 x3 x4 : Int} {u5 : Vv} (h : (m 128 5 ≤ x4 → r = (some (0, x2), m)) ∧ (¬ (m 128 5 ≤ x4) → ∃ (v1 : Int) (m1 : Mm), Cl d k_Ha_likestTurn [(11, 1), (0, x4), (1, m 129 0)] m (some (0, v1), m1) ∧ (∃ (v2 : Int) (m2 : Mm), Cl d k_Ha_unlikeness [(11, 1), (0, x4), (0, v1), (1, m1 129 0)] m1 (some (0, v2), m2) ∧ ((x3 ≤ v2 → Ev (d + 1) K_Th_owner 0 15 [(17, 0), (0, x1), (0, x2), (0, x3), (0, w32 (x4 + 1)), (0, v2)] [] m2 r) ∧ (¬ (x3 ≤ v2) → Ev (d + 1) K_Th_owner 0 15 [(17, 0), (0, x1), (0, x4), (0, v2), (0, w32 (x4 + 1)), (0, v2)] [] m2 r))))) : Ev (d + 1) K_Th_owner 0 15 [(17, 0), (0, x1), (0, x2), (0, x3), (0, x4), u5] [] m r := by
  refine Ev_rn (q := (19, [(17, 0), (0, x1), (0, x2), (0, x3), (0, x4), u5], [(0, m 128 5), (0, x4)], m)) 4 rfl ?_
  refine Ev_icmp rfl (fun hc => ?_) (fun hc => ?_)
  · replace h := h.1 hc
    refine Ev_rn (q := (47, [(17, 0), (0, x1), (0, x2), (0, x3), (0, x4), u5], [(0, x2)], m)) 1 rfl ?_
    exact Ev_ret rfl rfl h
  · replace h := h.2 hc
    refine Ev_rn (q := (30, [(17, 0), (0, x1), (0, x2), (0, x3), (0, x4), u5], [(1, m 129 0), (0, x4), (11, 1), (0, x4), (11, 1)], m)) 10 rfl ?_
    obtain ⟨v1, m1, hc, h⟩ := h
    refine Ev_call (rest := [(0, x4), (11, 1)]) rfl rfl (Nat.le_of_ble_eq_true rfl) hc ?_
    refine Ev_rn (q := (35, [(17, 0), (0, x1), (0, x2), (0, x3), (0, x4), u5], [(1, m1 129 0), (0, v1), (0, x4), (11, 1)], m1)) 4 rfl ?_
    obtain ⟨v2, m2, hc, h⟩ := h
    refine Ev_call (rest := []) rfl rfl (Nat.le_of_ble_eq_true rfl) hc ?_
    refine Ev_rn (q := (39, [(17, 0), (0, x1), (0, x2), (0, x3), (0, x4), (0, v2)], [(0, x3), (0, v2)], m2)) 3 rfl ?_
    refine Ev_icmp rfl (fun hc => ?_) (fun hc => ?_)
    · replace h := h.1 hc
      refine Ev_rn (q := (15, [(17, 0), (0, x1), (0, x2), (0, x3), (0, w32 (x4 + 1)), (0, v2)], [], m2)) 2 rfl ?_
      exact h
    · replace h := h.2 hc
      refine Ev_rn (q := (15, [(17, 0), (0, x1), (0, x4), (0, v2), (0, w32 (x4 + 1)), (0, v2)], [], m2)) 6 rfl ?_
      exact h
theorem b_Th_twins {d : Nat} {r : Option Vv × Mm} {m : Mm} {x1 x2 : Int} (h : ∃ (v1 : Int) (m1 : Mm), Cl d k_Th_isHand [(17, 0), (0, x1)] m (some (0, v1), m1) ∧ ((v1 = 0 → r = (some (0, (-1)), m1)) ∧ (¬ (v1 = 0) → ∃ (v2 : Int) (m2 : Mm), Cl d k_Th_isHand [(17, 0), (0, x2)] m1 (some (0, v2), m2) ∧ ((v2 = 0 → r = (some (0, (-1)), m2)) ∧ (¬ (v2 = 0) → (¬ x1 = x2 → ∃ (v3 : Int) (m3 : Mm), Cl d k_Ha_turnInto [(11, 1), (0, x1), (0, x2)] m2 (some (0, v3), m3) ∧ (r = (some (0, v3), m3))) ∧ (¬ (¬ x1 = x2) → r = (some (0, (-1)), m2))))))) : Ev (d + 1) K_Th_twins 0 0 [(17, 0), (0, x1), (0, x2)] [] m r := by
  refine Ev_rn (q := (2, [(17, 0), (0, x1), (0, x2)], [(0, x1), (17, 0)], m)) 2 rfl ?_
  obtain ⟨v1, m1, hc, h⟩ := h
  refine Ev_call (rest := []) rfl rfl (Nat.le_of_ble_eq_true rfl) hc ?_
  refine Ev_if rfl (fun hc => ?_) (fun hc => ?_)
  · replace h := h.1 hc
    refine Ev_rn (q := (12, [(17, 0), (0, x1), (0, x2)], [(0, (-1))], m1)) 1 rfl ?_
    exact Ev_ret rfl rfl h
  · replace h := h.2 hc
    refine Ev_rn (q := (6, [(17, 0), (0, x1), (0, x2)], [(0, x2), (17, 0)], m1)) 2 rfl ?_
    obtain ⟨v2, m2, hc, h⟩ := h
    refine Ev_call (rest := []) rfl rfl (Nat.le_of_ble_eq_true rfl) hc ?_
    refine Ev_if rfl (fun hc => ?_) (fun hc => ?_)
    · replace h := h.1 hc
      refine Ev_rn (q := (12, [(17, 0), (0, x1), (0, x2)], [(0, (-1))], m2)) 1 rfl ?_
      exact Ev_ret rfl rfl h
    · replace h := h.2 hc
      refine Ev_rn (q := (10, [(17, 0), (0, x1), (0, x2)], [(0, x2), (0, x1)], m2)) 2 rfl ?_
      refine Ev_icmp rfl (fun hc => ?_) (fun hc => ?_)
      · replace h := h.1 hc
        refine Ev_rn (q := (17, [(17, 0), (0, x1), (0, x2)], [(0, x2), (0, x1), (11, 1)], m2)) 4 rfl ?_
        obtain ⟨v3, m3, hc, h⟩ := h
        refine Ev_call (rest := []) rfl rfl (Nat.le_of_ble_eq_true rfl) hc ?_
        exact Ev_ret rfl rfl h
      · replace h := h.2 hc
        refine Ev_rn (q := (12, [(17, 0), (0, x1), (0, x2)], [(0, (-1))], m2)) 1 rfl ?_
        exact Ev_ret rfl rfl h
theorem b_Th_kinds {d : Nat} {r : Option Vv × Mm} {m : Mm} (h : Ev (d + 1) K_Th_kinds 0 4 [(17, 0), (0, 0), (0, 0)] [] m r) : Ev (d + 1) K_Th_kinds 0 0 [(17, 0), (9, 0), (9, 0)] [] m r := by
  refine Ev_rn (q := (4, [(17, 0), (0, 0), (0, 0)], [], m)) 4 rfl ?_
  exact h
theorem b_Th_kinds_4 {d : Nat} {r : Option Vv × Mm} {m : Mm} {x1 x2 : Int} (h : (m 128 5 ≤ x2 → r = (some (0, x1), m)) ∧ (¬ (m 128 5 ≤ x2) → ∃ (v1 : Int) (m1 : Mm), Cl d k_Ha_hasElderTwin [(11, 1), (0, x2)] m (some (0, v1), m1) ∧ ((¬ v1 = 0 → Ev (d + 1) K_Th_kinds 0 4 [(17, 0), (0, x1), (0, w32 (x2 + 1))] [] m1 r) ∧ (¬ (¬ v1 = 0) → Ev (d + 1) K_Th_kinds 0 4 [(17, 0), (0, w32 (x1 + 1)), (0, w32 (x2 + 1))] [] m1 r)))) : Ev (d + 1) K_Th_kinds 0 4 [(17, 0), (0, x1), (0, x2)] [] m r := by
  refine Ev_rn (q := (8, [(17, 0), (0, x1), (0, x2)], [(0, m 128 5), (0, x2)], m)) 4 rfl ?_
  refine Ev_icmp rfl (fun hc => ?_) (fun hc => ?_)
  · replace h := h.1 hc
    refine Ev_rn (q := (18, [(17, 0), (0, x1), (0, x2)], [(0, x1)], m)) 1 rfl ?_
    exact Ev_ret rfl rfl h
  · replace h := h.2 hc
    refine Ev_rn (q := (12, [(17, 0), (0, x1), (0, x2)], [(0, x2), (11, 1)], m)) 3 rfl ?_
    obtain ⟨v1, m1, hc, h⟩ := h
    refine Ev_call (rest := []) rfl rfl (Nat.le_of_ble_eq_true rfl) hc ?_
    refine Ev_if rfl (fun hc => ?_) (fun hc => ?_)
    · replace h := h.1 hc
      refine Ev_rn (q := (4, [(17, 0), (0, x1), (0, w32 (x2 + 1))], [], m1)) 2 rfl ?_
      exact h
    · replace h := h.2 hc
      refine Ev_rn (q := (4, [(17, 0), (0, w32 (x1 + 1)), (0, w32 (x2 + 1))], [], m1)) 3 rfl ?_
      exact h
theorem b_Th_selves {d : Nat} {r : Option Vv × Mm} {m : Mm} {x1 : Int} (h : ∃ (v1 : Int) (m1 : Mm), Cl d k_Th_isHand [(17, 0), (0, x1)] m (some (0, v1), m1) ∧ ((¬ v1 = 0 → ∃ (v2 : Int) (m2 : Mm), Cl d k_Ha_selfTurns [(11, 1), (0, x1)] m1 (some (0, v2), m2) ∧ (r = (some (0, v2), m2))) ∧ (¬ (¬ v1 = 0) → r = (some (0, (-1)), m1)))) : Ev (d + 1) K_Th_selves 0 0 [(17, 0), (0, x1)] [] m r := by
  refine Ev_rn (q := (2, [(17, 0), (0, x1)], [(0, x1), (17, 0)], m)) 2 rfl ?_
  obtain ⟨v1, m1, hc, h⟩ := h
  refine Ev_call (rest := []) rfl rfl (Nat.le_of_ble_eq_true rfl) hc ?_
  refine Ev_if rfl (fun hc => ?_) (fun hc => ?_)
  · replace h := h.1 hc
    refine Ev_rn (q := (9, [(17, 0), (0, x1)], [(0, x1), (11, 1)], m1)) 3 rfl ?_
    obtain ⟨v2, m2, hc, h⟩ := h
    refine Ev_call (rest := []) rfl rfl (Nat.le_of_ble_eq_true rfl) hc ?_
    exact Ev_ret rfl rfl h
  · replace h := h.2 hc
    refine Ev_rn (q := (5, [(17, 0), (0, x1)], [(0, (-1))], m1)) 1 rfl ?_
    exact Ev_ret rfl rfl h
theorem b_Th_look {d : Nat} {r : Option Vv × Mm} {m : Mm} {x1 : Int} (h : (x1 < 0 → r = (some (0, (-1)), m)) ∧ (¬ (x1 < 0) → (x1 ≤ 40 → ∃ (v1 : Int) (m1 : Mm), Cl d k_Ha_partingHedge [(11, 1), (0, m 128 5), (1, m 129 0), (0, x1)] m (some (0, v1), m1) ∧ (r = (some (0, v1), m1))) ∧ (¬ (x1 ≤ 40) → r = (some (0, (-1)), m)))) : Ev (d + 1) K_Th_look 0 0 [(17, 0), (0, x1)] [] m r := by
  refine Ev_rn (q := (1, [(17, 0), (0, x1)], [(0, x1)], m)) 1 rfl ?_
  refine Ev_if rfl (fun hc => ?_) (fun hc => ?_)
  · replace h := h.1 hc
    refine Ev_rn (q := (6, [(17, 0), (0, x1)], [(0, (-1))], m)) 1 rfl ?_
    exact Ev_ret rfl rfl h
  · replace h := h.2 hc
    refine Ev_rn (q := (4, [(17, 0), (0, x1)], [(0, 40), (0, x1)], m)) 2 rfl ?_
    refine Ev_icmp rfl (fun hc => ?_) (fun hc => ?_)
    · replace h := h.1 hc
      refine Ev_rn (q := (17, [(17, 0), (0, x1)], [(0, x1), (1, m 129 0), (0, m 128 5), (11, 1)], m)) 10 rfl ?_
      obtain ⟨v1, m1, hc, h⟩ := h
      refine Ev_call (rest := []) rfl rfl (Nat.le_of_ble_eq_true rfl) hc ?_
      exact Ev_ret rfl rfl h
    · replace h := h.2 hc
      refine Ev_rn (q := (6, [(17, 0), (0, x1)], [(0, (-1))], m)) 1 rfl ?_
      exact Ev_ret rfl rfl h
theorem b_Th_said {d : Nat} {r : Option Vv × Mm} {m : Mm} {x1 x2 : Int} (h : (¬ x1 = (-1) → ∃ (v1 : Int) (m1 : Mm), Cl d k_Pl_isHedge [(0, x1)] m (some (0, v1), m1) ∧ ((v1 = 0 → r = (some (0, (-2)), m1)) ∧ (¬ (v1 = 0) → (x2 < 0 → r = (some (0, (-2)), m1)) ∧ (¬ (x2 < 0) → (10 < x2 → r = (some (0, (-2)), m1)) ∧ (¬ (10 < x2) → (m1 128 8 < 8 → (0 ≤ m1 128 8 ∧ m1 128 8 < 8) ∧ (∀ m2 : Mm, m2 = up m1 254 (m1 128 8) x1 → ((0 ≤ m2 128 8 ∧ m2 128 8 < 8) ∧ (∀ m3 : Mm, m3 = up m2 255 (m2 128 8) x2 → (∀ m4 : Mm, m4 = up m3 128 8 (w32 ((m3 128 8) + 1)) → (r = (some (0, m4 128 8), m4))))))) ∧ (¬ (m1 128 8 < 8) → r = (some (0, (-2)), m1))))))) ∧ (¬ (¬ x1 = (-1)) → ∀ m5 : Mm, m5 = up m 128 8 0 → (r = (some (0, 0), m5)))) : Ev (d + 1) K_Th_said 0 0 [(17, 0), (0, x1), (0, x2)] [] m r := by
  refine Ev_rn (q := (2, [(17, 0), (0, x1), (0, x2)], [(0, (-1)), (0, x1)], m)) 2 rfl ?_
  refine Ev_icmp rfl (fun hc => ?_) (fun hc => ?_)
  · replace h := h.1 hc
    refine Ev_rn (q := (10, [(17, 0), (0, x1), (0, x2)], [(0, x1)], m)) 1 rfl ?_
    obtain ⟨v1, m1, hc, h⟩ := h
    refine Ev_call (rest := []) rfl rfl (Nat.le_of_ble_eq_true rfl) hc ?_
    refine Ev_if rfl (fun hc => ?_) (fun hc => ?_)
    · replace h := h.1 hc
      refine Ev_rn (q := (23, [(17, 0), (0, x1), (0, x2)], [(0, (-2))], m1)) 1 rfl ?_
      exact Ev_ret rfl rfl h
    · replace h := h.2 hc
      refine Ev_rn (q := (13, [(17, 0), (0, x1), (0, x2)], [(0, x2)], m1)) 1 rfl ?_
      refine Ev_if rfl (fun hc => ?_) (fun hc => ?_)
      · replace h := h.1 hc
        refine Ev_rn (q := (23, [(17, 0), (0, x1), (0, x2)], [(0, (-2))], m1)) 1 rfl ?_
        exact Ev_ret rfl rfl h
      · replace h := h.2 hc
        refine Ev_rn (q := (16, [(17, 0), (0, x1), (0, x2)], [(0, 10), (0, x2)], m1)) 2 rfl ?_
        refine Ev_icmp rfl (fun hc => ?_) (fun hc => ?_)
        · replace h := h.1 hc
          refine Ev_rn (q := (23, [(17, 0), (0, x1), (0, x2)], [(0, (-2))], m1)) 1 rfl ?_
          exact Ev_ret rfl rfl h
        · replace h := h.2 hc
          refine Ev_rn (q := (21, [(17, 0), (0, x1), (0, x2)], [(0, 8), (0, m1 128 8)], m1)) 4 rfl ?_
          refine Ev_icmp rfl (fun hc => ?_) (fun hc => ?_)
          · replace h := h.1 hc
            refine Ev_rn (q := (31, [(17, 0), (0, x1), (0, x2)], [(0, x1), (0, m1 128 8), (164, 254)], m1)) 7 rfl ?_
            obtain ⟨hc, h⟩ := h
            refine Ev_iast (n := 8) rfl (by decide) (by decide) hc ?_
            generalize e2 : up m1 254 (m1 128 8) x1 = m2
            replace h := h m2 e2.symm
            refine Ev_rn (q := (39, [(17, 0), (0, x1), (0, x2)], [(0, x2), (0, m2 128 8), (164, 255)], m2)) 7 rfl ?_
            obtain ⟨hc, h⟩ := h
            refine Ev_iast (n := 8) rfl (by decide) (by decide) hc ?_
            generalize e3 : up m2 255 (m2 128 8) x2 = m3
            replace h := h m3 e3.symm
            refine Ev_rn (q := (47, [(17, 0), (0, x1), (0, x2)], [], up m3 128 8 (w32 ((m3 128 8) + 1)))) 7 rfl ?_
            generalize e4 : up m3 128 8 (w32 ((m3 128 8) + 1)) = m4
            replace h := h m4 e4.symm
            refine Ev_rn (q := (50, [(17, 0), (0, x1), (0, x2)], [(0, m4 128 8)], m4)) 3 rfl ?_
            exact Ev_ret rfl rfl h
          · replace h := h.2 hc
            refine Ev_rn (q := (23, [(17, 0), (0, x1), (0, x2)], [(0, (-2))], m1)) 1 rfl ?_
            exact Ev_ret rfl rfl h
  · replace h := h.2 hc
    refine Ev_rn (q := (7, [(17, 0), (0, x1), (0, x2)], [], up m 128 8 0)) 4 rfl ?_
    generalize e5 : up m 128 8 0 = m5
    replace h := h m5 e5.symm
    refine Ev_rn (q := (8, [(17, 0), (0, x1), (0, x2)], [(0, 0)], m5)) 1 rfl ?_
    exact Ev_ret rfl rfl h
theorem b_Th_whose {d : Nat} {r : Option Vv × Mm} {m : Mm} (h : Ev (d + 1) K_Th_whose 0 4 [(17, 0), (0, 0), (0, 0)] [] m r) : Ev (d + 1) K_Th_whose 0 0 [(17, 0), (9, 0), (9, 0)] [] m r := by
  refine Ev_rn (q := (4, [(17, 0), (0, 0), (0, 0)], [], m)) 4 rfl ?_
  exact h
theorem b_Th_whose_4 {d : Nat} {r : Option Vv × Mm} {m : Mm} {x1 x2 : Int} (h : (m 128 6 ≤ x2 → r = (some (0, x1), m)) ∧ (¬ (m 128 6 ≤ x2) → (0 ≤ x2 ∧ x2 < 4) ∧ (∃ (v1 : Int) (m1 : Mm), Cl d k_Th_saysAll [(17, 0), (16, 3 + 13 + 8 * x2)] m (some (0, v1), m1) ∧ ((v1 = 0 → Ev (d + 1) K_Th_whose 0 4 [(17, 0), (0, x1), (0, w32 (x2 + 1))] [] m1 r) ∧ (¬ (v1 = 0) → Ev (d + 1) K_Th_whose 0 4 [(17, 0), (0, iro x1 (isl 1 x2)), (0, w32 (x2 + 1))] [] m1 r))))) : Ev (d + 1) K_Th_whose 0 4 [(17, 0), (0, x1), (0, x2)] [] m r := by
  refine Ev_rn (q := (8, [(17, 0), (0, x1), (0, x2)], [(0, m 128 6), (0, x2)], m)) 4 rfl ?_
  refine Ev_icmp rfl (fun hc => ?_) (fun hc => ?_)
  · replace h := h.1 hc
    refine Ev_rn (q := (25, [(17, 0), (0, x1), (0, x2)], [(0, x1)], m)) 1 rfl ?_
    exact Ev_ret rfl rfl h
  · replace h := h.2 hc
    refine Ev_rn (q := (13, [(17, 0), (0, x1), (0, x2)], [(0, x2), (136, 3), (17, 0)], m)) 4 rfl ?_
    obtain ⟨hc, h⟩ := h
    refine Ev_aald4 (n := 4) rfl (by decide) (by decide) hc ?_
    obtain ⟨v1, m1, hc, h⟩ := h
    refine Ev_call (rest := []) rfl rfl (Nat.le_of_ble_eq_true rfl) hc ?_
    refine Ev_if rfl (fun hc => ?_) (fun hc => ?_)
    · replace h := h.1 hc
      refine Ev_rn (q := (4, [(17, 0), (0, x1), (0, w32 (x2 + 1))], [], m1)) 2 rfl ?_
      exact h
    · replace h := h.2 hc
      refine Ev_rn (q := (4, [(17, 0), (0, iro x1 (isl 1 x2)), (0, w32 (x2 + 1))], [], m1)) 8 rfl ?_
      exact h
theorem b_Th_thickest {d : Nat} {r : Option Vv × Mm} {m : Mm} (h : Ev (d + 1) K_Th_thickest 0 4 [(17, 0), (0, 0), (0, 1)] [] m r) : Ev (d + 1) K_Th_thickest 0 0 [(17, 0), (9, 0), (9, 0)] [] m r := by
  refine Ev_rn (q := (4, [(17, 0), (0, 0), (0, 1)], [], m)) 4 rfl ?_
  exact h
theorem b_Th_thickest_4 {d : Nat} {r : Option Vv × Mm} {m : Mm} {x1 x2 : Int} (h : (25 ≤ x2 → r = (some (0, x1), m)) ∧ (¬ (25 ≤ x2) → ∃ (v1 : Int) (m1 : Mm), Cl d k_La_around [(13, 129), (0, x2)] m (some (0, v1), m1) ∧ (∃ (v2 : Int) (m2 : Mm), Cl d k_La_around [(13, 129), (0, x1)] m1 (some (0, v2), m2) ∧ ((v1 ≤ v2 → Ev (d + 1) K_Th_thickest 0 4 [(17, 0), (0, x1), (0, w32 (x2 + 1))] [] m2 r) ∧ (¬ (v1 ≤ v2) → Ev (d + 1) K_Th_thickest 0 4 [(17, 0), (0, x2), (0, w32 (x2 + 1))] [] m2 r))))) : Ev (d + 1) K_Th_thickest 0 4 [(17, 0), (0, x1), (0, x2)] [] m r := by
  refine Ev_rn (q := (6, [(17, 0), (0, x1), (0, x2)], [(0, 25), (0, x2)], m)) 2 rfl ?_
  refine Ev_icmp rfl (fun hc => ?_) (fun hc => ?_)
  · replace h := h.1 hc
    refine Ev_rn (q := (23, [(17, 0), (0, x1), (0, x2)], [(0, x1)], m)) 1 rfl ?_
    exact Ev_ret rfl rfl h
  · replace h := h.2 hc
    refine Ev_rn (q := (11, [(17, 0), (0, x1), (0, x2)], [(0, x2), (13, 129)], m)) 4 rfl ?_
    obtain ⟨v1, m1, hc, h⟩ := h
    refine Ev_call (rest := []) rfl rfl (Nat.le_of_ble_eq_true rfl) hc ?_
    refine Ev_rn (q := (16, [(17, 0), (0, x1), (0, x2)], [(0, x1), (13, 129), (0, v1)], m1)) 4 rfl ?_
    obtain ⟨v2, m2, hc, h⟩ := h
    refine Ev_call (rest := [(0, v1)]) rfl rfl (Nat.le_of_ble_eq_true rfl) hc ?_
    refine Ev_icmp rfl (fun hc => ?_) (fun hc => ?_)
    · replace h := h.1 hc
      refine Ev_rn (q := (4, [(17, 0), (0, x1), (0, w32 (x2 + 1))], [], m2)) 2 rfl ?_
      exact h
    · replace h := h.2 hc
      refine Ev_rn (q := (4, [(17, 0), (0, x2), (0, w32 (x2 + 1))], [], m2)) 4 rfl ?_
      exact h
theorem b_Th_ledger {d : Nat} {r : Option Vv × Mm} {m : Mm} {x1 : Int} (h : (x1 = 0 → Ev (d + 1) K_Th_ledger 0 11 [(17, 0), (0, x1), (0, 0), (0, 0)] [] m r) ∧ (¬ (x1 = 0) → (x1 = 1 → Ev (d + 1) K_Th_ledger 0 11 [(17, 0), (0, x1), (0, 0), (0, 0)] [] m r) ∧ (¬ (x1 = 1) → r = (some (0, (-2)), m)))) : Ev (d + 1) K_Th_ledger 0 0 [(17, 0), (0, x1), (9, 0), (9, 0)] [] m r := by
  refine Ev_rn (q := (1, [(17, 0), (0, x1), (9, 0), (9, 0)], [(0, x1)], m)) 1 rfl ?_
  refine Ev_if rfl (fun hc => ?_) (fun hc => ?_)
  · replace h := h.1 hc
    refine Ev_rn (q := (11, [(17, 0), (0, x1), (0, 0), (0, 0)], [], m)) 4 rfl ?_
    exact h
  · replace h := h.2 hc
    refine Ev_rn (q := (4, [(17, 0), (0, x1), (9, 0), (9, 0)], [(0, 1), (0, x1)], m)) 2 rfl ?_
    refine Ev_icmp rfl (fun hc => ?_) (fun hc => ?_)
    · replace h := h.1 hc
      refine Ev_rn (q := (11, [(17, 0), (0, x1), (0, 0), (0, 0)], [], m)) 4 rfl ?_
      exact h
    · replace h := h.2 hc
      refine Ev_rn (q := (6, [(17, 0), (0, x1), (9, 0), (9, 0)], [(0, (-2))], m)) 1 rfl ?_
      exact Ev_ret rfl rfl h
theorem b_Th_ledger_11 {d : Nat} {r : Option Vv × Mm} {m : Mm} {x1 x2 x3 : Int} (h : (m 129 7 ≤ x3 → r = (some (0, x2), m)) ∧ (¬ (m 129 7 ≤ x3) → ∃ (v1 : Int) (m1 : Mm), Cl d k_La_lineKind [(13, 129), (0, x3)] m (some (0, v1), m1) ∧ ((¬ v1 = x1 → Ev (d + 1) K_Th_ledger 0 11 [(17, 0), (0, x1), (0, x2), (0, w32 (x3 + 1))] [] m1 r) ∧ (¬ (¬ v1 = x1) → Ev (d + 1) K_Th_ledger 0 11 [(17, 0), (0, x1), (0, w32 (x2 + 1)), (0, w32 (x3 + 1))] [] m1 r)))) : Ev (d + 1) K_Th_ledger 0 11 [(17, 0), (0, x1), (0, x2), (0, x3)] [] m r := by
  refine Ev_rn (q := (16, [(17, 0), (0, x1), (0, x2), (0, x3)], [(0, m 129 7), (0, x3)], m)) 5 rfl ?_
  refine Ev_icmp rfl (fun hc => ?_) (fun hc => ?_)
  · replace h := h.1 hc
    refine Ev_rn (q := (28, [(17, 0), (0, x1), (0, x2), (0, x3)], [(0, x2)], m)) 1 rfl ?_
    exact Ev_ret rfl rfl h
  · replace h := h.2 hc
    refine Ev_rn (q := (21, [(17, 0), (0, x1), (0, x2), (0, x3)], [(0, x3), (13, 129)], m)) 4 rfl ?_
    obtain ⟨v1, m1, hc, h⟩ := h
    refine Ev_call (rest := []) rfl rfl (Nat.le_of_ble_eq_true rfl) hc ?_
    refine Ev_rn (q := (23, [(17, 0), (0, x1), (0, x2), (0, x3)], [(0, x1), (0, v1)], m1)) 1 rfl ?_
    refine Ev_icmp rfl (fun hc => ?_) (fun hc => ?_)
    · replace h := h.1 hc
      refine Ev_rn (q := (11, [(17, 0), (0, x1), (0, x2), (0, w32 (x3 + 1))], [], m1)) 2 rfl ?_
      exact h
    · replace h := h.2 hc
      refine Ev_rn (q := (11, [(17, 0), (0, x1), (0, w32 (x2 + 1)), (0, w32 (x3 + 1))], [], m1)) 3 rfl ?_
      exact h
theorem b_Th_image {d : Nat} {r : Option Vv × Mm} {m : Mm} (h : ∃ (m1 : Mm), Cl d k_Fa_copyFrom [(10, 256), (10, 128)] m (none, m1) ∧ (r = (some (0, m1 129 5), m1))) : Ev (d + 1) K_Th_image 0 0 [(17, 0)] [] m r := by
  refine Ev_rn (q := (4, [(17, 0)], [(10, 128), (10, 256)], m)) 4 rfl ?_
  obtain ⟨m1, hc, h⟩ := h
  refine Ev_call (rest := []) rfl rfl (Nat.le_of_ble_eq_true rfl) hc ?_
  refine Ev_rn (q := (9, [(17, 0)], [(0, m1 129 5)], m1)) 4 rfl ?_
  exact Ev_ret rfl rfl h
theorem b_Th_back {d : Nat} {r : Option Vv × Mm} {m : Mm} (h : ∃ (m1 : Mm), Cl d k_Fa_copyFrom [(10, 128), (10, 256)] m (none, m1) ∧ (r = (some (0, m1 129 5), m1))) : Ev (d + 1) K_Th_back 0 0 [(17, 0)] [] m r := by
  refine Ev_rn (q := (4, [(17, 0)], [(10, 256), (10, 128)], m)) 4 rfl ?_
  obtain ⟨m1, hc, h⟩ := h
  refine Ev_call (rest := []) rfl rfl (Nat.le_of_ble_eq_true rfl) hc ?_
  refine Ev_rn (q := (9, [(17, 0)], [(0, m1 129 5)], m1)) 4 rfl ?_
  exact Ev_ret rfl rfl h
theorem b_Th_about {d : Nat} {r : Option Vv × Mm} {m : Mm} {x1 : Int} (h : (x1 = 0 → r = (some (0, m 128 5), m)) ∧ (¬ x1 = 0 → (x1 = 1 → r = (some (0, m 129 1), m)) ∧ (¬ x1 = 1 → (x1 = 2 → r = (some (0, m 128 6), m)) ∧ (¬ x1 = 2 → (x1 = 3 → r = (some (0, m 128 7), m)) ∧ (¬ x1 = 3 → (x1 = 4 → r = (some (0, m 128 3), m)) ∧ (¬ x1 = 4 → (x1 = 5 → r = (some (0, m 128 8), m)) ∧ (¬ x1 = 5 → (x1 = 6 → r = (some (0, m 80 1), m)) ∧ (¬ x1 = 6 → (x1 = 7 → r = (some (0, m 128 4), m)) ∧ (¬ x1 = 7 → r = (some (0, (-2)), m)))))))))) : Ev d K_Th_about 0 0 [(17, 0), (0, x1)] [] m r := by
  refine Ev_rn (q := (1, [(17, 0), (0, x1)], [(0, x1)], m)) 1 rfl ?_
  refine Ev_tsw rfl ?_
  refine ⟨fun hc => ?_, fun hc => ?_⟩
  · replace h := h.1 hc
    refine Ev_rn (q := (5, [(17, 0), (0, x1)], [(0, m 128 5)], m)) 3 rfl ?_
    exact Ev_ret rfl rfl h
  · replace h := h.2 hc
    refine ⟨fun hc => ?_, fun hc => ?_⟩
    · replace h := h.1 hc
      refine Ev_rn (q := (10, [(17, 0), (0, x1)], [(0, m 129 1)], m)) 4 rfl ?_
      exact Ev_ret rfl rfl h
    · replace h := h.2 hc
      refine ⟨fun hc => ?_, fun hc => ?_⟩
      · replace h := h.1 hc
        refine Ev_rn (q := (14, [(17, 0), (0, x1)], [(0, m 128 6)], m)) 3 rfl ?_
        exact Ev_ret rfl rfl h
      · replace h := h.2 hc
        refine ⟨fun hc => ?_, fun hc => ?_⟩
        · replace h := h.1 hc
          refine Ev_rn (q := (18, [(17, 0), (0, x1)], [(0, m 128 7)], m)) 3 rfl ?_
          exact Ev_ret rfl rfl h
        · replace h := h.2 hc
          refine ⟨fun hc => ?_, fun hc => ?_⟩
          · replace h := h.1 hc
            refine Ev_rn (q := (22, [(17, 0), (0, x1)], [(0, m 128 3)], m)) 3 rfl ?_
            exact Ev_ret rfl rfl h
          · replace h := h.2 hc
            refine ⟨fun hc => ?_, fun hc => ?_⟩
            · replace h := h.1 hc
              refine Ev_rn (q := (26, [(17, 0), (0, x1)], [(0, m 128 8)], m)) 3 rfl ?_
              exact Ev_ret rfl rfl h
            · replace h := h.2 hc
              refine ⟨fun hc => ?_, fun hc => ?_⟩
              · replace h := h.1 hc
                refine Ev_rn (q := (30, [(17, 0), (0, x1)], [(0, m 80 1)], m)) 3 rfl ?_
                exact Ev_ret rfl rfl h
              · replace h := h.2 hc
                refine ⟨fun hc => ?_, fun hc => ?_⟩
                · replace h := h.1 hc
                  refine Ev_rn (q := (34, [(17, 0), (0, x1)], [(0, m 128 4)], m)) 3 rfl ?_
                  exact Ev_ret rfl rfl h
                · replace h := h.2 hc
                  refine Ev_rn (q := (36, [(17, 0), (0, x1)], [(0, (-2))], m)) 1 rfl ?_
                  exact Ev_ret rfl rfl h
theorem b_Th_isHand {d : Nat} {r : Option Vv × Mm} {m : Mm} {x1 : Int} (h : (x1 < 0 → r = (some (0, 0), m)) ∧ (¬ (x1 < 0) → (m 128 5 ≤ x1 → r = (some (0, 0), m)) ∧ (¬ (m 128 5 ≤ x1) → r = (some (0, 1), m)))) : Ev d K_Th_isHand 2 0 [(17, 0), (0, x1)] [] m r := by
  refine Ev_rn (q := (1, [(17, 0), (0, x1)], [(0, x1)], m)) 1 rfl ?_
  refine Ev_if rfl (fun hc => ?_) (fun hc => ?_)
  · replace h := h.1 hc
    refine Ev_rn (q := (10, [(17, 0), (0, x1)], [(0, 0)], m)) 1 rfl ?_
    exact Ev_zret rfl rfl (by decide) h
  · replace h := h.2 hc
    refine Ev_rn (q := (6, [(17, 0), (0, x1)], [(0, m 128 5), (0, x1)], m)) 4 rfl ?_
    refine Ev_icmp rfl (fun hc => ?_) (fun hc => ?_)
    · replace h := h.1 hc
      refine Ev_rn (q := (10, [(17, 0), (0, x1)], [(0, 0)], m)) 1 rfl ?_
      exact Ev_zret rfl rfl (by decide) h
    · replace h := h.2 hc
      refine Ev_rn (q := (10, [(17, 0), (0, x1)], [(0, 1)], m)) 2 rfl ?_
      exact Ev_zret rfl rfl (by decide) h
theorem b_Th_isText {d : Nat} {r : Option Vv × Mm} {m : Mm} {x1 : Int} (h : (x1 < 0 → r = (some (0, 0), m)) ∧ (¬ (x1 < 0) → (m 128 6 ≤ x1 → r = (some (0, 0), m)) ∧ (¬ (m 128 6 ≤ x1) → r = (some (0, 1), m)))) : Ev d K_Th_isText 2 0 [(17, 0), (0, x1)] [] m r := by
  refine Ev_rn (q := (1, [(17, 0), (0, x1)], [(0, x1)], m)) 1 rfl ?_
  refine Ev_if rfl (fun hc => ?_) (fun hc => ?_)
  · replace h := h.1 hc
    refine Ev_rn (q := (10, [(17, 0), (0, x1)], [(0, 0)], m)) 1 rfl ?_
    exact Ev_zret rfl rfl (by decide) h
  · replace h := h.2 hc
    refine Ev_rn (q := (6, [(17, 0), (0, x1)], [(0, m 128 6), (0, x1)], m)) 4 rfl ?_
    refine Ev_icmp rfl (fun hc => ?_) (fun hc => ?_)
    · replace h := h.1 hc
      refine Ev_rn (q := (10, [(17, 0), (0, x1)], [(0, 0)], m)) 1 rfl ?_
      exact Ev_zret rfl rfl (by decide) h
    · replace h := h.2 hc
      refine Ev_rn (q := (10, [(17, 0), (0, x1)], [(0, 1)], m)) 2 rfl ?_
      exact Ev_zret rfl rfl (by decide) h
theorem b_Th_ruling {d : Nat} {r : Option Vv × Mm} {m : Mm} (h : ∃ (v1 : Int) (m1 : Mm), Cl d k_Th_isText [(17, 0), (0, m 128 7)] m (some (0, v1), m1) ∧ ((v1 = 0 → r = (some (16, 48), m1)) ∧ (¬ (v1 = 0) → (0 ≤ m1 128 7 ∧ m1 128 7 < 4) ∧ (r = (some (16, 3 + 13 + 8 * (m1 128 7)), m1))))) : Ev (d + 1) K_Th_ruling 16 0 [(17, 0)] [] m r := by
  refine Ev_rn (q := (4, [(17, 0)], [(0, m 128 7), (17, 0)], m)) 4 rfl ?_
  obtain ⟨v1, m1, hc, h⟩ := h
  refine Ev_call (rest := []) rfl rfl (Nat.le_of_ble_eq_true rfl) hc ?_
  refine Ev_if rfl (fun hc => ?_) (fun hc => ?_)
  · replace h := h.1 hc
    refine Ev_rn (q := (15, [(17, 0)], [(16, 48)], m1)) 2 rfl ?_
    exact Ev_ret rfl rfl h
  · replace h := h.2 hc
    refine Ev_rn (q := (11, [(17, 0)], [(0, m1 128 7), (136, 3)], m1)) 5 rfl ?_
    obtain ⟨hc, h⟩ := h
    refine Ev_aald4 (n := 4) rfl (by decide) (by decide) hc ?_
    refine Ev_rn (q := (15, [(17, 0)], [(16, 3 + 13 + 8 * (m1 128 7))], m1)) 1 rfl ?_
    exact Ev_ret rfl rfl h
theorem b_Th_mazeNow {d : Nat} {r : Option Vv × Mm} {m : Mm} (h : ∃ (m1 : Mm), Cl d k_Mz_layOut [(14, 13), (1, m 129 0)] m (none, m1) ∧ (r = (some (14, 13), m1))) : Ev (d + 1) K_Th_mazeNow 14 0 [(17, 0)] [] m r := by
  refine Ev_rn (q := (6, [(17, 0)], [(1, m 129 0), (14, 13)], m)) 6 rfl ?_
  obtain ⟨m1, hc, h⟩ := h
  refine Ev_call (rest := []) rfl rfl (Nat.le_of_ble_eq_true rfl) hc ?_
  refine Ev_rn (q := (9, [(17, 0)], [(14, 13)], m1)) 2 rfl ?_
  exact Ev_ret rfl rfl h
theorem b_Th_passHours {d : Nat} {r : Option Vv × Mm} {m : Mm} {x1 : Int} (h : Ev (d + 1) K_Th_passHours 2 2 [(17, 0), (0, x1), (0, 0)] [] m r) : Ev (d + 1) K_Th_passHours 2 0 [(17, 0), (0, x1), (9, 0)] [] m r := by
  refine Ev_rn (q := (2, [(17, 0), (0, x1), (0, 0)], [], m)) 2 rfl ?_
  exact h
theorem b_Th_passHours_2 {d : Nat} {r : Option Vv × Mm} {m : Mm} {x1 x2 : Int} (h : (x1 ≤ x2 → r = (some (0, 1), m)) ∧ (¬ (x1 ≤ x2) → (m 129 5 < 9999 → ∃ (m1 : Mm), Cl d k_Fa_markStep [(10, 128)] m (none, m1) ∧ (∃ (m2 : Mm), Cl d k_Th_passHour [(17, 0), (13, 129)] m1 (none, m2) ∧ (Ev (d + 1) K_Th_passHours 2 2 [(17, 0), (0, x1), (0, w32 (x2 + 1))] [] m2 r))) ∧ (¬ (m 129 5 < 9999) → r = (some (0, 0), m)))) : Ev (d + 1) K_Th_passHours 2 2 [(17, 0), (0, x1), (0, x2)] [] m r := by
  refine Ev_rn (q := (4, [(17, 0), (0, x1), (0, x2)], [(0, x1), (0, x2)], m)) 2 rfl ?_
  refine Ev_icmp rfl (fun hc => ?_) (fun hc => ?_)
  · replace h := h.1 hc
    refine Ev_rn (q := (24, [(17, 0), (0, x1), (0, x2)], [(0, 1)], m)) 1 rfl ?_
    exact Ev_zret rfl rfl (by decide) h
  · replace h := h.2 hc
    refine Ev_rn (q := (10, [(17, 0), (0, x1), (0, x2)], [(0, 9999), (0, m 129 5)], m)) 5 rfl ?_
    refine Ev_icmp rfl (fun hc => ?_) (fun hc => ?_)
    · replace h := h.1 hc
      refine Ev_rn (q := (15, [(17, 0), (0, x1), (0, x2)], [(10, 128)], m)) 2 rfl ?_
      obtain ⟨m1, hc, h⟩ := h
      refine Ev_call (rest := []) rfl rfl (Nat.le_of_ble_eq_true rfl) hc ?_
      refine Ev_rn (q := (20, [(17, 0), (0, x1), (0, x2)], [(13, 129), (17, 0)], m1)) 4 rfl ?_
      obtain ⟨m2, hc, h⟩ := h
      refine Ev_call (rest := []) rfl rfl (Nat.le_of_ble_eq_true rfl) hc ?_
      refine Ev_rn (q := (2, [(17, 0), (0, x1), (0, w32 (x2 + 1))], [], m2)) 2 rfl ?_
      exact h
    · replace h := h.2 hc
      refine Ev_rn (q := (12, [(17, 0), (0, x1), (0, x2)], [(0, 0)], m)) 1 rfl ?_
      exact Ev_zret rfl rfl (by decide) h
theorem b_Th_passHour {d : Nat} {r : Option Vv × Mm} {m : Mm} {o1 : Int} (h : ∃ (v1 : Int) (m1 : Mm), Cl d k_Th_ruling [(17, 0)] m (some (16, v1), m1) ∧ (Ev (d + 1) K_Th_passHour 3 5 [(17, 0), (13, o1), (16, v1), (0, 0)] [] m1 r)) : Ev (d + 1) K_Th_passHour 3 0 [(17, 0), (13, o1), (9, 0), (9, 0)] [] m r := by
  refine Ev_rn (q := (1, [(17, 0), (13, o1), (9, 0), (9, 0)], [(17, 0)], m)) 1 rfl ?_
  obtain ⟨v1, m1, hc, h⟩ := h
  refine Ev_call (rest := []) rfl rfl (Nat.le_of_ble_eq_true rfl) hc ?_
  refine Ev_rn (q := (5, [(17, 0), (13, o1), (16, v1), (0, 0)], [], m1)) 3 rfl ?_
  exact h
theorem b_Th_passHour_5 {d : Nat} {r : Option Vv × Mm} {m : Mm} {o1 o2 x3 : Int} (h : (m o1 1 ≤ x3 → ∃ (v1 : Int) (m1 : Mm), Cl d k_La_draw [(13, o1)] m (some (0, v1), m1) ∧ (∃ (v2 : Int) (m2 : Mm), Cl d k_La_hasHedge [(13, o1), (0, irm v1 40)] m1 (some (0, v2), m2) ∧ ((v2 = 0 → ∀ m3 : Mm, m3 = up m2 o1 5 (w32 ((m2 o1 5) + 1)) → (r = (none, m3))) ∧ (¬ (v2 = 0) → ∃ (v4 : Int) (m4 : Mm), Cl d k_La_draw [(13, o1)] m2 (some (0, v4), m4) ∧ (∃ (v5 : Int) (m5 : Mm), Cl d k_Ju_frostsOf [(12, 10), (16, o2), (13, o1), (0, irm v1 40)] m4 (some (0, v5), m5) ∧ ((v5 ≤ irm v4 10 → ∀ m6 : Mm, m6 = up m5 o1 5 (w32 ((m5 o1 5) + 1)) → (r = (none, m6))) ∧ (¬ (v5 ≤ irm v4 10) → ∃ (m7 : Mm), Cl d k_La_removeHedge [(13, o1), (0, irm v1 40)] m5 (none, m7) ∧ (∃ (m8 : Mm), Cl d k_La_write [(13, o1), (0, 0), (0, irm v1 40)] m7 (none, m8) ∧ (∀ m9 : Mm, m9 = up m8 o1 5 (w32 ((m8 o1 5) + 1)) → (r = (none, m9))))))))))) ∧ (¬ (m o1 1 ≤ x3) → ∃ (v10 : Int) (m10 : Mm), Cl d k_La_isHome [(13, o1), (0, x3)] m (some (0, v10), m10) ∧ ((¬ v10 = 0 → Ev (d + 1) K_Th_passHour 3 5 [(17, 0), (13, o1), (16, o2), (0, w32 (x3 + 1))] [] m10 r) ∧ (¬ (¬ v10 = 0) → ∃ (v11 : Int) (m11 : Mm), Cl d k_Ju_goesOf [(12, 10), (16, o2), (13, o1), (0, x3)] m10 (some (0, v11), m11) ∧ ((v11 ≤ 0 → Ev (d + 1) K_Th_passHour 3 5 [(17, 0), (13, o1), (16, o2), (0, w32 (x3 + 1))] [] m11 r) ∧ (¬ (v11 ≤ 0) → ∃ (m12 : Mm), Cl d k_La_wander [(13, o1), (0, x3), (0, m11 128 4)] m11 (none, m12) ∧ (Ev (d + 1) K_Th_passHour 3 5 [(17, 0), (13, o1), (16, o2), (0, w32 (x3 + 1))] [] m12 r))))))) : Ev (d + 1) K_Th_passHour 3 5 [(17, 0), (13, o1), (16, o2), (0, x3)] [] m r := by
  refine Ev_rn (q := (8, [(17, 0), (13, o1), (16, o2), (0, x3)], [(0, m o1 1), (0, x3)], m)) 3 rfl ?_
  refine Ev_icmp rfl (fun hc => ?_) (fun hc => ?_)
  · replace h := h.1 hc
    refine Ev_rn (q := (29, [(17, 0), (13, o1), (16, o2), (0, x3)], [(13, o1)], m)) 1 rfl ?_
    obtain ⟨v1, m1, hc, h⟩ := h
    refine Ev_call (rest := []) rfl rfl (Nat.le_of_ble_eq_true rfl) hc ?_
    refine Ev_rn (q := (31, [(17, 0), (13, o1), (16, o2), (0, x3)], [(0, 40), (0, v1)], m1)) 1 rfl ?_
    refine Ev_irem rfl (by decide) ?_
    refine Ev_rn (q := (35, [(17, 0), (13, o1), (16, o2), (0, irm v1 40)], [(0, irm v1 40), (13, o1)], m1)) 3 rfl ?_
    obtain ⟨v2, m2, hc, h⟩ := h
    refine Ev_call (rest := []) rfl rfl (Nat.le_of_ble_eq_true rfl) hc ?_
    refine Ev_if rfl (fun hc => ?_) (fun hc => ?_)
    · replace h := h.1 hc
      refine Ev_rn (q := (61, [(17, 0), (13, o1), (16, o2), (0, irm v1 40)], [], up m2 o1 5 (w32 ((m2 o1 5) + 1)))) 6 rfl ?_
      generalize e3 : up m2 o1 5 (w32 ((m2 o1 5) + 1)) = m3
      replace h := h m3 e3.symm
      exact Ev_ret rfl rfl h
    · replace h := h.2 hc
      refine Ev_rn (q := (38, [(17, 0), (13, o1), (16, o2), (0, irm v1 40)], [(13, o1)], m2)) 1 rfl ?_
      obtain ⟨v4, m4, hc, h⟩ := h
      refine Ev_call (rest := []) rfl rfl (Nat.le_of_ble_eq_true rfl) hc ?_
      refine Ev_rn (q := (40, [(17, 0), (13, o1), (16, o2), (0, irm v1 40)], [(0, 10), (0, v4)], m4)) 1 rfl ?_
      refine Ev_irem rfl (by decide) ?_
      refine Ev_rn (q := (46, [(17, 0), (13, o1), (16, o2), (0, irm v1 40)], [(0, irm v1 40), (13, o1), (16, o2), (12, 10), (0, irm v4 10)], m4)) 5 rfl ?_
      obtain ⟨v5, m5, hc, h⟩ := h
      refine Ev_call (rest := [(0, irm v4 10)]) rfl rfl (Nat.le_of_ble_eq_true rfl) hc ?_
      refine Ev_icmp rfl (fun hc => ?_) (fun hc => ?_)
      · replace h := h.1 hc
        refine Ev_rn (q := (61, [(17, 0), (13, o1), (16, o2), (0, irm v1 40)], [], up m5 o1 5 (w32 ((m5 o1 5) + 1)))) 6 rfl ?_
        generalize e6 : up m5 o1 5 (w32 ((m5 o1 5) + 1)) = m6
        replace h := h m6 e6.symm
        exact Ev_ret rfl rfl h
      · replace h := h.2 hc
        refine Ev_rn (q := (50, [(17, 0), (13, o1), (16, o2), (0, irm v1 40)], [(0, irm v1 40), (13, o1)], m5)) 2 rfl ?_
        obtain ⟨m7, hc, h⟩ := h
        refine Ev_call (rest := []) rfl rfl (Nat.le_of_ble_eq_true rfl) hc ?_
        refine Ev_rn (q := (54, [(17, 0), (13, o1), (16, o2), (0, irm v1 40)], [(0, irm v1 40), (0, 0), (13, o1)], m7)) 3 rfl ?_
        obtain ⟨m8, hc, h⟩ := h
        refine Ev_call (rest := []) rfl rfl (Nat.le_of_ble_eq_true rfl) hc ?_
        refine Ev_rn (q := (61, [(17, 0), (13, o1), (16, o2), (0, irm v1 40)], [], up m8 o1 5 (w32 ((m8 o1 5) + 1)))) 6 rfl ?_
        generalize e9 : up m8 o1 5 (w32 ((m8 o1 5) + 1)) = m9
        replace h := h m9 e9.symm
        exact Ev_ret rfl rfl h
  · replace h := h.2 hc
    refine Ev_rn (q := (11, [(17, 0), (13, o1), (16, o2), (0, x3)], [(0, x3), (13, o1)], m)) 2 rfl ?_
    obtain ⟨v10, m10, hc, h⟩ := h
    refine Ev_call (rest := []) rfl rfl (Nat.le_of_ble_eq_true rfl) hc ?_
    refine Ev_if rfl (fun hc => ?_) (fun hc => ?_)
    · replace h := h.1 hc
      refine Ev_rn (q := (5, [(17, 0), (13, o1), (16, o2), (0, w32 (x3 + 1))], [], m10)) 2 rfl ?_
      exact h
    · replace h := h.2 hc
      refine Ev_rn (q := (18, [(17, 0), (13, o1), (16, o2), (0, x3)], [(0, x3), (13, o1), (16, o2), (12, 10)], m10)) 5 rfl ?_
      obtain ⟨v11, m11, hc, h⟩ := h
      refine Ev_call (rest := []) rfl rfl (Nat.le_of_ble_eq_true rfl) hc ?_
      refine Ev_if rfl (fun hc => ?_) (fun hc => ?_)
      · replace h := h.1 hc
        refine Ev_rn (q := (5, [(17, 0), (13, o1), (16, o2), (0, w32 (x3 + 1))], [], m11)) 2 rfl ?_
        exact h
      · replace h := h.2 hc
        refine Ev_rn (q := (25, [(17, 0), (13, o1), (16, o2), (0, x3)], [(0, m11 128 4), (0, x3), (13, o1)], m11)) 5 rfl ?_
        obtain ⟨m12, hc, h⟩ := h
        refine Ev_call (rest := []) rfl rfl (Nat.le_of_ble_eq_true rfl) hc ?_
        refine Ev_rn (q := (5, [(17, 0), (13, o1), (16, o2), (0, w32 (x3 + 1))], [], m12)) 2 rfl ?_
        exact h
theorem b_Th_does {d : Nat} {r : Option Vv × Mm} {m : Mm} {x1 x2 x3 : Int} (h : (x1 = 18 → ∃ (v1 : Int) (m1 : Mm), Cl d k_Th_cow [(17, 0), (0, x2), (0, x3)] m (some (0, v1), m1) ∧ ((v1 = (-1) → r = (some (0, 0), m1)) ∧ (¬ (v1 = (-1)) → r = (some (0, 1), m1)))) ∧ (¬ x1 = 18 → (x1 = 19 → ∃ (v2 : Int) (m2 : Mm), Cl d k_Th_gate [(17, 0), (0, x2), (0, 1)] m (some (0, v2), m2) ∧ ((v2 = 0 ∨ v2 = 1) ∧ r = (some (0, v2), m2))) ∧ (¬ x1 = 19 → (x1 = 20 → ∃ (v3 : Int) (m3 : Mm), Cl d k_Th_plant [(17, 0), (0, x2)] m (some (0, v3), m3) ∧ ((v3 = 0 ∨ v3 = 1) ∧ r = (some (0, v3), m3))) ∧ (¬ x1 = 20 → (x1 = 21 → ∃ (v4 : Int) (m4 : Mm), Cl d k_Th_cut [(17, 0), (0, x2)] m (some (0, v4), m4) ∧ ((v4 = 0 ∨ v4 = 1) ∧ r = (some (0, v4), m4))) ∧ (¬ x1 = 21 → (x1 = 22 → ∃ (v5 : Int) (m5 : Mm), Cl d k_Th_press [(17, 0), (0, x2), (0, x3)] m (some (0, v5), m5) ∧ ((v5 = 0 ∨ v5 = 1) ∧ r = (some (0, v5), m5))) ∧ (¬ x1 = 22 → (x1 = 23 → ∃ (v6 : Int) (m6 : Mm), Cl d k_Th_go [(17, 0), (0, x3), (0, x2)] m (some (0, v6), m6) ∧ ((v6 = (-1) → r = (some (0, 0), m6)) ∧ (¬ (v6 = (-1)) → r = (some (0, 1), m6)))) ∧ (¬ x1 = 23 → r = (some (0, 1), m)))))))) : Ev (d + 1) K_Th_does 2 0 [(17, 0), (0, x1), (0, x2), (0, x3)] [] m r := by
  refine Ev_rn (q := (1, [(17, 0), (0, x1), (0, x2), (0, x3)], [(0, x1)], m)) 1 rfl ?_
  refine Ev_tsw rfl ?_
  refine ⟨fun hc => ?_, fun hc => ?_⟩
  · replace h := h.1 hc
    refine Ev_rn (q := (5, [(17, 0), (0, x1), (0, x2), (0, x3)], [(0, x3), (0, x2), (17, 0)], m)) 3 rfl ?_
    obtain ⟨v1, m1, hc, h⟩ := h
    refine Ev_call (rest := []) rfl rfl (Nat.le_of_ble_eq_true rfl) hc ?_
    refine Ev_rn (q := (7, [(17, 0), (0, x1), (0, x2), (0, x3)], [(0, (-1)), (0, v1)], m1)) 1 rfl ?_
    refine Ev_icmp rfl (fun hc => ?_) (fun hc => ?_)
    · replace h := h.1 hc
      refine Ev_rn (q := (11, [(17, 0), (0, x1), (0, x2), (0, x3)], [(0, 0)], m1)) 1 rfl ?_
      exact Ev_zret rfl rfl (by decide) h
    · replace h := h.2 hc
      refine Ev_rn (q := (11, [(17, 0), (0, x1), (0, x2), (0, x3)], [(0, 1)], m1)) 2 rfl ?_
      exact Ev_zret rfl rfl (by decide) h
  · replace h := h.2 hc
    refine ⟨fun hc => ?_, fun hc => ?_⟩
    · replace h := h.1 hc
      refine Ev_rn (q := (15, [(17, 0), (0, x1), (0, x2), (0, x3)], [(0, 1), (0, x2), (17, 0)], m)) 3 rfl ?_
      obtain ⟨v2, m2, hc, h⟩ := h
      refine Ev_call (rest := []) rfl rfl (Nat.le_of_ble_eq_true rfl) hc ?_
      exact Ev_zret rfl rfl h.1 h.2
    · replace h := h.2 hc
      refine ⟨fun hc => ?_, fun hc => ?_⟩
      · replace h := h.1 hc
        refine Ev_rn (q := (19, [(17, 0), (0, x1), (0, x2), (0, x3)], [(0, x2), (17, 0)], m)) 2 rfl ?_
        obtain ⟨v3, m3, hc, h⟩ := h
        refine Ev_call (rest := []) rfl rfl (Nat.le_of_ble_eq_true rfl) hc ?_
        exact Ev_zret rfl rfl h.1 h.2
      · replace h := h.2 hc
        refine ⟨fun hc => ?_, fun hc => ?_⟩
        · replace h := h.1 hc
          refine Ev_rn (q := (23, [(17, 0), (0, x1), (0, x2), (0, x3)], [(0, x2), (17, 0)], m)) 2 rfl ?_
          obtain ⟨v4, m4, hc, h⟩ := h
          refine Ev_call (rest := []) rfl rfl (Nat.le_of_ble_eq_true rfl) hc ?_
          exact Ev_zret rfl rfl h.1 h.2
        · replace h := h.2 hc
          refine ⟨fun hc => ?_, fun hc => ?_⟩
          · replace h := h.1 hc
            refine Ev_rn (q := (28, [(17, 0), (0, x1), (0, x2), (0, x3)], [(0, x3), (0, x2), (17, 0)], m)) 3 rfl ?_
            obtain ⟨v5, m5, hc, h⟩ := h
            refine Ev_call (rest := []) rfl rfl (Nat.le_of_ble_eq_true rfl) hc ?_
            exact Ev_zret rfl rfl h.1 h.2
          · replace h := h.2 hc
            refine ⟨fun hc => ?_, fun hc => ?_⟩
            · replace h := h.1 hc
              refine Ev_rn (q := (33, [(17, 0), (0, x1), (0, x2), (0, x3)], [(0, x2), (0, x3), (17, 0)], m)) 3 rfl ?_
              obtain ⟨v6, m6, hc, h⟩ := h
              refine Ev_call (rest := []) rfl rfl (Nat.le_of_ble_eq_true rfl) hc ?_
              refine Ev_rn (q := (35, [(17, 0), (0, x1), (0, x2), (0, x3)], [(0, (-1)), (0, v6)], m6)) 1 rfl ?_
              refine Ev_icmp rfl (fun hc => ?_) (fun hc => ?_)
              · replace h := h.1 hc
                refine Ev_rn (q := (39, [(17, 0), (0, x1), (0, x2), (0, x3)], [(0, 0)], m6)) 1 rfl ?_
                exact Ev_zret rfl rfl (by decide) h
              · replace h := h.2 hc
                refine Ev_rn (q := (39, [(17, 0), (0, x1), (0, x2), (0, x3)], [(0, 1)], m6)) 2 rfl ?_
                exact Ev_zret rfl rfl (by decide) h
            · replace h := h.2 hc
              refine Ev_rn (q := (41, [(17, 0), (0, x1), (0, x2), (0, x3)], [(0, 1)], m)) 1 rfl ?_
              exact Ev_zret rfl rfl (by decide) h
theorem b_Th_befall {d : Nat} {r : Option Vv × Mm} {m : Mm} {x1 : Int} (h : (irm x1 7 = 0 → ∃ (m1 : Mm), Cl d k_La_addHedge [(13, 129), (0, irm (idv x1 7) 40)] m (none, m1) ∧ (r = (none, m1))) ∧ (¬ irm x1 7 = 0 → (irm x1 7 = 1 → ∃ (m2 : Mm), Cl d k_La_removeHedge [(13, 129), (0, irm (idv x1 7) 40)] m (none, m2) ∧ (r = (none, m2))) ∧ (¬ irm x1 7 = 1 → (irm x1 7 = 2 → (m 128 5 ≤ 0 → r = (none, m)) ∧ (¬ (m 128 5 ≤ 0) → (m 128 5 ≠ 0) ∧ (∃ (v3 : Int) (m3 : Mm), Cl d k_Ha_pattern [(11, 1), (0, irm x1 (m 128 5)), (0, irm (idv x1 7) 8)] m (some (1, v3), m3) ∧ (∀ m4 : Mm, m4 = up m3 129 0 v3 → (r = (none, m4)))))) ∧ (¬ irm x1 7 = 2 → (irm x1 7 = 3 → (m 129 1 ≤ 0 → r = (none, m)) ∧ (¬ (m 129 1 ≤ 0) → (m 129 1 ≠ 0) ∧ (∃ (v5 : Int) (m5 : Mm), Cl d k_La_canGo [(13, 129), (0, irm x1 (m 129 1)), (0, irm (idv x1 7) 4)] m (some (0, v5), m5) ∧ ((v5 = 0 → r = (none, m5)) ∧ (¬ (v5 = 0) → (m5 129 1 ≠ 0) ∧ (∃ (v6 : Int) (m6 : Mm), Cl d k_La_comesHome [(13, 129), (0, irm x1 (m5 129 1)), (0, irm (idv x1 7) 4), (0, m5 128 4)] m5 (some (0, v6), m6) ∧ (r = (none, m6)))))))) ∧ (¬ irm x1 7 = 3 → (9999 ≤ m 129 5 → r = (none, m)) ∧ (¬ (9999 ≤ m 129 5) → ∃ (m7 : Mm), Cl d k_Th_passHour [(17, 0), (13, 129)] m (none, m7) ∧ (r = (none, m7)))))))) : Ev (d + 1) K_Th_befall 3 0 [(17, 0), (0, x1), (9, 0), (9, 0)] [] m r := by
  refine Ev_rn (q := (6, [(17, 0), (0, x1), (13, 129), (9, 0)], [(0, 7), (0, x1)], m)) 6 rfl ?_
  refine Ev_idiv rfl (by decide) ?_
  refine Ev_rn (q := (10, [(17, 0), (0, x1), (13, 129), (0, idv x1 7)], [(0, 7), (0, x1)], m)) 3 rfl ?_
  refine Ev_irem rfl (by decide) ?_
  refine Ev_tsw rfl ?_
  refine ⟨fun hc => ?_, fun hc => ?_⟩
  · replace h := h.1 hc
    refine Ev_rn (q := (15, [(17, 0), (0, x1), (13, 129), (0, idv x1 7)], [(0, 40), (0, idv x1 7), (13, 129)], m)) 3 rfl ?_
    refine Ev_irem rfl (by decide) ?_
    obtain ⟨m1, hc, h⟩ := h
    refine Ev_call (rest := []) rfl rfl (Nat.le_of_ble_eq_true rfl) hc ?_
    refine Ev_rn (q := (76, [(17, 0), (0, x1), (13, 129), (0, idv x1 7)], [], m1)) 1 rfl ?_
    exact Ev_ret rfl rfl h
  · replace h := h.2 hc
    refine ⟨fun hc => ?_, fun hc => ?_⟩
    · replace h := h.1 hc
      refine Ev_rn (q := (21, [(17, 0), (0, x1), (13, 129), (0, idv x1 7)], [(0, 40), (0, idv x1 7), (13, 129)], m)) 3 rfl ?_
      refine Ev_irem rfl (by decide) ?_
      obtain ⟨m2, hc, h⟩ := h
      refine Ev_call (rest := []) rfl rfl (Nat.le_of_ble_eq_true rfl) hc ?_
      refine Ev_rn (q := (76, [(17, 0), (0, x1), (13, 129), (0, idv x1 7)], [], m2)) 1 rfl ?_
      exact Ev_ret rfl rfl h
    · replace h := h.2 hc
      refine ⟨fun hc => ?_, fun hc => ?_⟩
      · replace h := h.1 hc
        refine Ev_rn (q := (27, [(17, 0), (0, x1), (13, 129), (0, idv x1 7)], [(0, m 128 5)], m)) 3 rfl ?_
        refine Ev_if rfl (fun hc => ?_) (fun hc => ?_)
        · replace h := h.1 hc
          exact Ev_ret rfl rfl h
        · replace h := h.2 hc
          refine Ev_rn (q := (35, [(17, 0), (0, x1), (13, 129), (0, idv x1 7)], [(0, m 128 5), (0, x1), (11, 1), (13, 129)], m)) 7 rfl ?_
          obtain ⟨hc, h⟩ := h
          refine Ev_irem rfl hc ?_
          refine Ev_rn (q := (38, [(17, 0), (0, x1), (13, 129), (0, idv x1 7)], [(0, 8), (0, idv x1 7), (0, irm x1 (m 128 5)), (11, 1), (13, 129)], m)) 2 rfl ?_
          refine Ev_irem rfl (by decide) ?_
          obtain ⟨v3, m3, hc, h⟩ := h
          refine Ev_call (rest := [(13, 129)]) rfl rfl (Nat.le_of_ble_eq_true rfl) hc ?_
          refine Ev_rn (q := (41, [(17, 0), (0, x1), (13, 129), (0, idv x1 7)], [], up m3 129 0 v3)) 1 rfl ?_
          generalize e4 : up m3 129 0 v3 = m4
          replace h := h m4 e4.symm
          refine Ev_rn (q := (76, [(17, 0), (0, x1), (13, 129), (0, idv x1 7)], [], m4)) 1 rfl ?_
          exact Ev_ret rfl rfl h
      · replace h := h.2 hc
        refine ⟨fun hc => ?_, fun hc => ?_⟩
        · replace h := h.1 hc
          refine Ev_rn (q := (44, [(17, 0), (0, x1), (13, 129), (0, idv x1 7)], [(0, m 129 1)], m)) 2 rfl ?_
          refine Ev_if rfl (fun hc => ?_) (fun hc => ?_)
          · replace h := h.1 hc
            exact Ev_ret rfl rfl h
          · replace h := h.2 hc
            refine Ev_rn (q := (49, [(17, 0), (0, x1), (13, 129), (0, idv x1 7)], [(0, m 129 1), (0, x1), (13, 129)], m)) 4 rfl ?_
            obtain ⟨hc, h⟩ := h
            refine Ev_irem rfl hc ?_
            refine Ev_rn (q := (52, [(17, 0), (0, x1), (13, 129), (0, idv x1 7)], [(0, 4), (0, idv x1 7), (0, irm x1 (m 129 1)), (13, 129)], m)) 2 rfl ?_
            refine Ev_irem rfl (by decide) ?_
            obtain ⟨v5, m5, hc, h⟩ := h
            refine Ev_call (rest := []) rfl rfl (Nat.le_of_ble_eq_true rfl) hc ?_
            refine Ev_if rfl (fun hc => ?_) (fun hc => ?_)
            · replace h := h.1 hc
              exact Ev_ret rfl rfl h
            · replace h := h.2 hc
              refine Ev_rn (q := (59, [(17, 0), (0, x1), (13, 129), (0, idv x1 7)], [(0, m5 129 1), (0, x1), (13, 129)], m5)) 4 rfl ?_
              obtain ⟨hc, h⟩ := h
              refine Ev_irem rfl hc ?_
              refine Ev_rn (q := (62, [(17, 0), (0, x1), (13, 129), (0, idv x1 7)], [(0, 4), (0, idv x1 7), (0, irm x1 (m5 129 1)), (13, 129)], m5)) 2 rfl ?_
              refine Ev_irem rfl (by decide) ?_
              refine Ev_rn (q := (66, [(17, 0), (0, x1), (13, 129), (0, idv x1 7)], [(0, m5 128 4), (0, irm (idv x1 7) 4), (0, irm x1 (m5 129 1)), (13, 129)], m5)) 3 rfl ?_
              obtain ⟨v6, m6, hc, h⟩ := h
              refine Ev_call (rest := []) rfl rfl (Nat.le_of_ble_eq_true rfl) hc ?_
              refine Ev_rn (q := (76, [(17, 0), (0, x1), (13, 129), (0, idv x1 7)], [], m6)) 2 rfl ?_
              exact Ev_ret rfl rfl h
        · replace h := h.2 hc
          refine Ev_rn (q := (72, [(17, 0), (0, x1), (13, 129), (0, idv x1 7)], [(0, 9999), (0, m 129 5)], m)) 3 rfl ?_
          refine Ev_icmp rfl (fun hc => ?_) (fun hc => ?_)
          · replace h := h.1 hc
            exact Ev_ret rfl rfl h
          · replace h := h.2 hc
            refine Ev_rn (q := (75, [(17, 0), (0, x1), (13, 129), (0, idv x1 7)], [(13, 129), (17, 0)], m)) 2 rfl ?_
            obtain ⟨m7, hc, h⟩ := h
            refine Ev_call (rest := []) rfl rfl (Nat.le_of_ble_eq_true rfl) hc ?_
            exact Ev_ret rfl rfl h
theorem b_Th_saysAll {d : Nat} {r : Option Vv × Mm} {m : Mm} {o1 : Int} (h : Ev (d + 1) K_Th_saysAll 2 2 [(17, 0), (16, o1), (0, 0)] [] m r) : Ev (d + 1) K_Th_saysAll 2 0 [(17, 0), (16, o1), (9, 0)] [] m r := by
  refine Ev_rn (q := (2, [(17, 0), (16, o1), (0, 0)], [], m)) 2 rfl ?_
  exact h
theorem b_Th_saysAll_2 {d : Nat} {r : Option Vv × Mm} {m : Mm} {o1 x2 : Int} (h : (m 128 8 ≤ x2 → r = (some (0, 1), m)) ∧ (¬ (m 128 8 ≤ x2) → (0 ≤ x2 ∧ x2 < 8) ∧ (∃ (v1 : Int) (m1 : Mm), Cl d k_Ju_frostsOf [(12, 10), (16, o1), (13, 129), (0, m 254 x2)] m (some (0, v1), m1) ∧ ((0 ≤ x2 ∧ x2 < 8) ∧ ((v1 = m1 255 x2 → Ev (d + 1) K_Th_saysAll 2 2 [(17, 0), (16, o1), (0, w32 (x2 + 1))] [] m1 r) ∧ (¬ (v1 = m1 255 x2) → r = (some (0, 0), m1))))))) : Ev (d + 1) K_Th_saysAll 2 2 [(17, 0), (16, o1), (0, x2)] [] m r := by
  refine Ev_rn (q := (6, [(17, 0), (16, o1), (0, x2)], [(0, m 128 8), (0, x2)], m)) 4 rfl ?_
  refine Ev_icmp rfl (fun hc => ?_) (fun hc => ?_)
  · replace h := h.1 hc
    refine Ev_rn (q := (30, [(17, 0), (16, o1), (0, x2)], [(0, 1)], m)) 1 rfl ?_
    exact Ev_zret rfl rfl (by decide) h
  · replace h := h.2 hc
    refine Ev_rn (q := (17, [(17, 0), (16, o1), (0, x2)], [(0, x2), (164, 254), (13, 129), (16, o1), (12, 10)], m)) 10 rfl ?_
    obtain ⟨hc, h⟩ := h
    refine Ev_iald (n := 8) rfl (by decide) (by decide) hc ?_
    obtain ⟨v1, m1, hc, h⟩ := h
    refine Ev_call (rest := []) rfl rfl (Nat.le_of_ble_eq_true rfl) hc ?_
    refine Ev_rn (q := (23, [(17, 0), (16, o1), (0, x2)], [(0, x2), (164, 255), (0, v1)], m1)) 4 rfl ?_
    obtain ⟨hc, h⟩ := h
    refine Ev_iald (n := 8) rfl (by decide) (by decide) hc ?_
    refine Ev_icmp rfl (fun hc => ?_) (fun hc => ?_)
    · replace h := h.1 hc
      refine Ev_rn (q := (2, [(17, 0), (16, o1), (0, w32 (x2 + 1))], [], m1)) 2 rfl ?_
      exact h
    · replace h := h.2 hc
      refine Ev_rn (q := (26, [(17, 0), (16, o1), (0, x2)], [(0, 0)], m1)) 1 rfl ?_
      exact Ev_zret rfl rfl (by decide) h
theorem b_Mo_copy {d : Nat} {r : Option Vv × Mm} {m : Mm} {a0 a1 : Int} (h : Ev d K_Mo_copy 3 2 [(11828, a0), (11828, a1), (0, 0)] [] m r) : Ev d K_Mo_copy 3 0 [(11828, a0), (11828, a1), (9, 0)] [] m r := by
  refine Ev_rn (q := (2, [(11828, a0), (11828, a1), (0, 0)], [], m)) 2 rfl ?_
  exact h
theorem b_Mo_copy_2 {d : Nat} {r : Option Vv × Mm} {m : Mm} {a0 a1 x2 : Int} (h : (1466 ≤ x2 → r = (none, m)) ∧ (¬ (1466 ≤ x2) → (0 ≤ x2 ∧ x2 < 1466) ∧ ((0 ≤ x2 ∧ x2 < 1466) ∧ (∀ m1 : Mm, m1 = up m a1 x2 (m a0 x2) → (Ev d K_Mo_copy 3 2 [(11828, a0), (11828, a1), (0, w32 (x2 + 1))] [] m1 r))))) : Ev d K_Mo_copy 3 2 [(11828, a0), (11828, a1), (0, x2)] [] m r := by
  refine Ev_rn (q := (4, [(11828, a0), (11828, a1), (0, x2)], [(0, 1466), (0, x2)], m)) 2 rfl ?_
  refine Ev_icmp rfl (fun hc => ?_) (fun hc => ?_)
  · replace h := h.1 hc
    exact Ev_ret rfl rfl h
  · replace h := h.2 hc
    refine Ev_rn (q := (9, [(11828, a0), (11828, a1), (0, x2)], [(0, x2), (11828, a0), (0, x2), (11828, a1)], m)) 4 rfl ?_
    obtain ⟨hc, h⟩ := h
    refine Ev_iald (n := 1466) rfl (by decide) (by decide) hc ?_
    obtain ⟨hc, h⟩ := h
    refine Ev_iast (n := 1466) rfl (by decide) (by decide) hc ?_
    generalize e1 : up m a1 x2 (m a0 x2) = m1
    replace h := h m1 e1.symm
    refine Ev_rn (q := (2, [(11828, a0), (11828, a1), (0, w32 (x2 + 1))], [], m1)) 2 rfl ?_
    exact h
theorem b_Mo_isIn {d : Nat} {r : Option Vv × Mm} {m : Mm} {x0 x1 x2 : Int} (h : (x0 < x1 → r = (some (0, 0), m)) ∧ (¬ (x0 < x1) → (x2 < x0 → r = (some (0, 0), m)) ∧ (¬ (x2 < x0) → r = (some (0, 1), m)))) : Ev d K_Mo_isIn 2 0 [(0, x0), (0, x1), (0, x2)] [] m r := by
  refine Ev_rn (q := (2, [(0, x0), (0, x1), (0, x2)], [(0, x1), (0, x0)], m)) 2 rfl ?_
  refine Ev_icmp rfl (fun hc => ?_) (fun hc => ?_)
  · replace h := h.1 hc
    refine Ev_rn (q := (9, [(0, x0), (0, x1), (0, x2)], [(0, 0)], m)) 1 rfl ?_
    exact Ev_zret rfl rfl (by decide) h
  · replace h := h.2 hc
    refine Ev_rn (q := (5, [(0, x0), (0, x1), (0, x2)], [(0, x2), (0, x0)], m)) 2 rfl ?_
    refine Ev_icmp rfl (fun hc => ?_) (fun hc => ?_)
    · replace h := h.1 hc
      refine Ev_rn (q := (9, [(0, x0), (0, x1), (0, x2)], [(0, 0)], m)) 1 rfl ?_
      exact Ev_zret rfl rfl (by decide) h
    · replace h := h.2 hc
      refine Ev_rn (q := (9, [(0, x0), (0, x1), (0, x2)], [(0, 1)], m)) 2 rfl ?_
      exact Ev_zret rfl rfl (by decide) h
theorem b_Mo_held {d : Nat} {r : Option Vv × Mm} {m : Mm} {x0 x2 x3 : Int} (h : (0 ≤ lcm x0 x2 → (lcm x0 x3 ≤ 0 → r = (some (0, w32 x0), m)) ∧ (¬ (lcm x0 x3 ≤ 0) → r = (some (0, x3), m))) ∧ (¬ (0 ≤ lcm x0 x2) → r = (some (0, x2), m))) : Ev d K_Mo_held 0 0 [(1, x0), (9, 0), (0, x2), (0, x3)] [] m r := by
  refine Ev_rn (q := (4, [(1, x0), (9, 0), (0, x2), (0, x3)], [(0, lcm x0 x2)], m)) 4 rfl ?_
  refine Ev_if rfl (fun hc => ?_) (fun hc => ?_)
  · replace h := h.1 hc
    refine Ev_rn (q := (11, [(1, x0), (9, 0), (0, x2), (0, x3)], [(0, lcm x0 x3)], m)) 4 rfl ?_
    refine Ev_if rfl (fun hc => ?_) (fun hc => ?_)
    · replace h := h.1 hc
      refine Ev_rn (q := (16, [(1, x0), (9, 0), (0, x2), (0, x3)], [(0, w32 x0)], m)) 2 rfl ?_
      exact Ev_ret rfl rfl h
    · replace h := h.2 hc
      refine Ev_rn (q := (16, [(1, x0), (9, 0), (0, x2), (0, x3)], [(0, x3)], m)) 2 rfl ?_
      exact Ev_ret rfl rfl h
  · replace h := h.2 hc
    refine Ev_rn (q := (16, [(1, x0), (9, 0), (0, x2), (0, x3)], [(0, x2)], m)) 2 rfl ?_
    exact Ev_ret rfl rfl h
theorem b_Mo_size {d : Nat} {r : Option Vv × Mm} {m : Mm} {x0 : Int} (h : (0 ≤ x0 → r = (some (0, x0), m)) ∧ (¬ (0 ≤ x0) → r = (some (0, w32 (-x0)), m))) : Ev d K_Mo_size 0 0 [(0, x0)] [] m r := by
  refine Ev_rn (q := (1, [(0, x0)], [(0, x0)], m)) 1 rfl ?_
  refine Ev_if rfl (fun hc => ?_) (fun hc => ?_)
  · replace h := h.1 hc
    refine Ev_rn (q := (6, [(0, x0)], [(0, x0)], m)) 1 rfl ?_
    exact Ev_ret rfl rfl h
  · replace h := h.2 hc
    refine Ev_rn (q := (6, [(0, x0)], [(0, w32 (-x0))], m)) 3 rfl ?_
    exact Ev_ret rfl rfl h
theorem b_Mo_has {d : Nat} {r : Option Vv × Mm} {m : Mm} {x0 x1 : Int} (h : (¬ ian (isr x0 x1) 1 = 1 → r = (some (0, 0), m)) ∧ (¬ (¬ ian (isr x0 x1) 1 = 1) → r = (some (0, 1), m))) : Ev d K_Mo_has 2 0 [(0, x0), (0, x1)] [] m r := by
  refine Ev_rn (q := (6, [(0, x0), (0, x1)], [(0, 1), (0, ian (isr x0 x1) 1)], m)) 6 rfl ?_
  refine Ev_icmp rfl (fun hc => ?_) (fun hc => ?_)
  · replace h := h.1 hc
    refine Ev_rn (q := (10, [(0, x0), (0, x1)], [(0, 0)], m)) 1 rfl ?_
    exact Ev_zret rfl rfl (by decide) h
  · replace h := h.2 hc
    refine Ev_rn (q := (10, [(0, x0), (0, x1)], [(0, 1)], m)) 2 rfl ?_
    exact Ev_zret rfl rfl (by decide) h
theorem b_Mo_bits {d : Nat} {r : Option Vv × Mm} {m : Mm} {x0 : Int} (h : Ev d K_Mo_bits 0 4 [(0, x0), (0, 0), (0, x0)] [] m r) : Ev d K_Mo_bits 0 0 [(0, x0), (9, 0), (9, 0)] [] m r := by
  refine Ev_rn (q := (4, [(0, x0), (0, 0), (0, x0)], [], m)) 4 rfl ?_
  exact h
theorem b_Mo_bits_4 {d : Nat} {r : Option Vv × Mm} {m : Mm} {x0 x1 x2 : Int} (h : (x2 = 0 → r = (some (0, x1), m)) ∧ (¬ (x2 = 0) → Ev d K_Mo_bits 0 4 [(0, x0), (0, w32 (x1 + 1)), (0, ian x2 (w32 (x2 - 1)))] [] m r)) : Ev d K_Mo_bits 0 4 [(0, x0), (0, x1), (0, x2)] [] m r := by
  refine Ev_rn (q := (5, [(0, x0), (0, x1), (0, x2)], [(0, x2)], m)) 1 rfl ?_
  refine Ev_if rfl (fun hc => ?_) (fun hc => ?_)
  · replace h := h.1 hc
    refine Ev_rn (q := (15, [(0, x0), (0, x1), (0, x2)], [(0, x1)], m)) 1 rfl ?_
    exact Ev_ret rfl rfl h
  · replace h := h.2 hc
    refine Ev_rn (q := (4, [(0, x0), (0, w32 (x1 + 1)), (0, ian x2 (w32 (x2 - 1)))], [], m)) 8 rfl ?_
    exact h
theorem b_Mo_isCell {d : Nat} {r : Option Vv × Mm} {m : Mm} {x0 : Int} (h : ∃ (v1 : Int) (m1 : Mm), Cl d k_Mo_isIn [(0, x0), (0, 0), (0, 24)] m (some (0, v1), m1) ∧ ((v1 = 0 ∨ v1 = 1) ∧ r = (some (0, v1), m1))) : Ev (d + 1) K_Mo_isCell 2 0 [(0, x0)] [] m r := by
  refine Ev_rn (q := (3, [(0, x0)], [(0, 24), (0, 0), (0, x0)], m)) 3 rfl ?_
  obtain ⟨v1, m1, hc, h⟩ := h
  refine Ev_call (rest := []) rfl rfl (Nat.le_of_ble_eq_true rfl) hc ?_
  exact Ev_zret rfl rfl h.1 h.2
theorem b_Mo_isHedge {d : Nat} {r : Option Vv × Mm} {m : Mm} {x0 : Int} (h : ∃ (v1 : Int) (m1 : Mm), Cl d k_Mo_isIn [(0, x0), (0, 0), (0, 39)] m (some (0, v1), m1) ∧ ((v1 = 0 ∨ v1 = 1) ∧ r = (some (0, v1), m1))) : Ev (d + 1) K_Mo_isHedge 2 0 [(0, x0)] [] m r := by
  refine Ev_rn (q := (3, [(0, x0)], [(0, 39), (0, 0), (0, x0)], m)) 3 rfl ?_
  obtain ⟨v1, m1, hc, h⟩ := h
  refine Ev_call (rest := []) rfl rfl (Nat.le_of_ble_eq_true rfl) hc ?_
  exact Ev_zret rfl rfl h.1 h.2
theorem b_Mo_isRim {d : Nat} {r : Option Vv × Mm} {m : Mm} {x0 : Int} (h : (idv x0 5 = 0 → r = (some (0, 1), m)) ∧ (¬ (idv x0 5 = 0) → (idv x0 5 = 4 → r = (some (0, 1), m)) ∧ (¬ (idv x0 5 = 4) → (irm x0 5 = 0 → r = (some (0, 1), m)) ∧ (¬ (irm x0 5 = 0) → (¬ irm x0 5 = 4 → r = (some (0, 0), m)) ∧ (¬ (¬ irm x0 5 = 4) → r = (some (0, 1), m)))))) : Ev d K_Mo_isRim 2 0 [(0, x0)] [] m r := by
  refine Ev_rn (q := (2, [(0, x0)], [(0, 5), (0, x0)], m)) 2 rfl ?_
  refine Ev_idiv rfl (by decide) ?_
  refine Ev_if rfl (fun hc => ?_) (fun hc => ?_)
  · replace h := h.1 hc
    refine Ev_rn (q := (21, [(0, x0)], [(0, 1)], m)) 2 rfl ?_
    exact Ev_zret rfl rfl (by decide) h
  · replace h := h.2 hc
    refine Ev_rn (q := (6, [(0, x0)], [(0, 5), (0, x0)], m)) 2 rfl ?_
    refine Ev_idiv rfl (by decide) ?_
    refine Ev_rn (q := (8, [(0, x0)], [(0, 4), (0, idv x0 5)], m)) 1 rfl ?_
    refine Ev_icmp rfl (fun hc => ?_) (fun hc => ?_)
    · replace h := h.1 hc
      refine Ev_rn (q := (21, [(0, x0)], [(0, 1)], m)) 2 rfl ?_
      exact Ev_zret rfl rfl (by decide) h
    · replace h := h.2 hc
      refine Ev_rn (q := (11, [(0, x0)], [(0, 5), (0, x0)], m)) 2 rfl ?_
      refine Ev_irem rfl (by decide) ?_
      refine Ev_if rfl (fun hc => ?_) (fun hc => ?_)
      · replace h := h.1 hc
        refine Ev_rn (q := (21, [(0, x0)], [(0, 1)], m)) 2 rfl ?_
        exact Ev_zret rfl rfl (by decide) h
      · replace h := h.2 hc
        refine Ev_rn (q := (15, [(0, x0)], [(0, 5), (0, x0)], m)) 2 rfl ?_
        refine Ev_irem rfl (by decide) ?_
        refine Ev_rn (q := (17, [(0, x0)], [(0, 4), (0, irm x0 5)], m)) 1 rfl ?_
        refine Ev_icmp rfl (fun hc => ?_) (fun hc => ?_)
        · replace h := h.1 hc
          refine Ev_rn (q := (21, [(0, x0)], [(0, 0)], m)) 1 rfl ?_
          exact Ev_zret rfl rfl (by decide) h
        · replace h := h.2 hc
          refine Ev_rn (q := (21, [(0, x0)], [(0, 1)], m)) 2 rfl ?_
          exact Ev_zret rfl rfl (by decide) h
theorem b_Mo_isHand {d : Nat} {r : Option Vv × Mm} {m : Mm} {x1 : Int} (h : ∃ (v1 : Int) (m1 : Mm), Cl d k_Mo_isIn [(0, x1), (0, 0), (0, w32 ((m 401 0) - 1))] m (some (0, v1), m1) ∧ ((v1 = 0 ∨ v1 = 1) ∧ r = (some (0, v1), m1))) : Ev (d + 1) K_Mo_isHand 2 0 [(18, 400), (0, x1)] [] m r := by
  refine Ev_rn (q := (5, [(18, 400), (0, x1)], [(0, 0), (11828, 401), (0, 0), (0, x1)], m)) 5 rfl ?_
  refine Ev_iald (n := 1466) rfl (by decide) (by decide) ⟨by decide, by decide⟩ ?_
  refine Ev_rn (q := (8, [(18, 400), (0, x1)], [(0, w32 ((m 401 0) - 1)), (0, 0), (0, x1)], m)) 2 rfl ?_
  obtain ⟨v1, m1, hc, h⟩ := h
  refine Ev_call (rest := []) rfl rfl (Nat.le_of_ble_eq_true rfl) hc ?_
  exact Ev_zret rfl rfl h.1 h.2
theorem b_Mo_isCow {d : Nat} {r : Option Vv × Mm} {m : Mm} {x1 : Int} (h : ∃ (v1 : Int) (m1 : Mm), Cl d k_Mo_isIn [(0, x1), (0, 0), (0, w32 ((m 401 1) - 1))] m (some (0, v1), m1) ∧ ((v1 = 0 ∨ v1 = 1) ∧ r = (some (0, v1), m1))) : Ev (d + 1) K_Mo_isCow 2 0 [(18, 400), (0, x1)] [] m r := by
  refine Ev_rn (q := (5, [(18, 400), (0, x1)], [(0, 1), (11828, 401), (0, 0), (0, x1)], m)) 5 rfl ?_
  refine Ev_iald (n := 1466) rfl (by decide) (by decide) ⟨by decide, by decide⟩ ?_
  refine Ev_rn (q := (8, [(18, 400), (0, x1)], [(0, w32 ((m 401 1) - 1)), (0, 0), (0, x1)], m)) 2 rfl ?_
  obtain ⟨v1, m1, hc, h⟩ := h
  refine Ev_call (rest := []) rfl rfl (Nat.le_of_ble_eq_true rfl) hc ?_
  exact Ev_zret rfl rfl h.1 h.2
theorem b_Mo_beside {d : Nat} {r : Option Vv × Mm} {m : Mm} {x0 x1 : Int} (h : (x1 = 0 → (x0 < 5 → r = (some (0, (-1)), m)) ∧ (¬ (x0 < 5) → r = (some (0, w32 (x0 - 5)), m))) ∧ (¬ x1 = 0 → (x1 = 1 → (4 ≤ irm x0 5 → r = (some (0, (-1)), m)) ∧ (¬ (4 ≤ irm x0 5) → r = (some (0, w32 (x0 + 1)), m))) ∧ (¬ x1 = 1 → (x1 = 2 → (20 ≤ x0 → r = (some (0, (-1)), m)) ∧ (¬ (20 ≤ x0) → r = (some (0, w32 (x0 + 5)), m))) ∧ (¬ x1 = 2 → (irm x0 5 ≤ 0 → r = (some (0, (-1)), m)) ∧ (¬ (irm x0 5 ≤ 0) → r = (some (0, w32 (x0 - 1)), m)))))) : Ev d K_Mo_beside 0 0 [(0, x0), (0, x1)] [] m r := by
  refine Ev_rn (q := (1, [(0, x0), (0, x1)], [(0, x1)], m)) 1 rfl ?_
  refine Ev_tsw rfl ?_
  refine ⟨fun hc => ?_, fun hc => ?_⟩
  · replace h := h.1 hc
    refine Ev_rn (q := (4, [(0, x0), (0, x1)], [(0, 5), (0, x0)], m)) 2 rfl ?_
    refine Ev_icmp rfl (fun hc => ?_) (fun hc => ?_)
    · replace h := h.1 hc
      refine Ev_rn (q := (10, [(0, x0), (0, x1)], [(0, (-1))], m)) 1 rfl ?_
      exact Ev_ret rfl rfl h
    · replace h := h.2 hc
      refine Ev_rn (q := (10, [(0, x0), (0, x1)], [(0, w32 (x0 - 5))], m)) 4 rfl ?_
      exact Ev_ret rfl rfl h
  · replace h := h.2 hc
    refine ⟨fun hc => ?_, fun hc => ?_⟩
    · replace h := h.1 hc
      refine Ev_rn (q := (13, [(0, x0), (0, x1)], [(0, 5), (0, x0)], m)) 2 rfl ?_
      refine Ev_irem rfl (by decide) ?_
      refine Ev_rn (q := (15, [(0, x0), (0, x1)], [(0, 4), (0, irm x0 5)], m)) 1 rfl ?_
      refine Ev_icmp rfl (fun hc => ?_) (fun hc => ?_)
      · replace h := h.1 hc
        refine Ev_rn (q := (21, [(0, x0), (0, x1)], [(0, (-1))], m)) 1 rfl ?_
        exact Ev_ret rfl rfl h
      · replace h := h.2 hc
        refine Ev_rn (q := (21, [(0, x0), (0, x1)], [(0, w32 (x0 + 1))], m)) 4 rfl ?_
        exact Ev_ret rfl rfl h
    · replace h := h.2 hc
      refine ⟨fun hc => ?_, fun hc => ?_⟩
      · replace h := h.1 hc
        refine Ev_rn (q := (24, [(0, x0), (0, x1)], [(0, 20), (0, x0)], m)) 2 rfl ?_
        refine Ev_icmp rfl (fun hc => ?_) (fun hc => ?_)
        · replace h := h.1 hc
          refine Ev_rn (q := (30, [(0, x0), (0, x1)], [(0, (-1))], m)) 1 rfl ?_
          exact Ev_ret rfl rfl h
        · replace h := h.2 hc
          refine Ev_rn (q := (30, [(0, x0), (0, x1)], [(0, w32 (x0 + 5))], m)) 4 rfl ?_
          exact Ev_ret rfl rfl h
      · replace h := h.2 hc
        refine Ev_rn (q := (33, [(0, x0), (0, x1)], [(0, 5), (0, x0)], m)) 2 rfl ?_
        refine Ev_irem rfl (by decide) ?_
        refine Ev_if rfl (fun hc => ?_) (fun hc => ?_)
        · replace h := h.1 hc
          refine Ev_rn (q := (40, [(0, x0), (0, x1)], [(0, (-1))], m)) 1 rfl ?_
          exact Ev_ret rfl rfl h
        · replace h := h.2 hc
          refine Ev_rn (q := (40, [(0, x0), (0, x1)], [(0, w32 (x0 - 1))], m)) 4 rfl ?_
          exact Ev_ret rfl rfl h
theorem b_Mo_hedgeOf {d : Nat} {r : Option Vv × Mm} {m : Mm} {x0 x1 : Int} (h : (x1 ≤ x0 → ∃ (v1 : Int) (m1 : Mm), Cl d k_Mo_size [(0, w32 (x0 - x1))] m (some (0, v1), m1) ∧ ((¬ v1 = 1 → r = (some (0, w32 (20 + x1)), m1)) ∧ (¬ (¬ v1 = 1) → r = (some (0, w32 ((w32 (4 * (idv x1 5))) + (irm x1 5))), m1)))) ∧ (¬ (x1 ≤ x0) → ∃ (v2 : Int) (m2 : Mm), Cl d k_Mo_size [(0, w32 (x0 - x1))] m (some (0, v2), m2) ∧ ((¬ v2 = 1 → r = (some (0, w32 (20 + x0)), m2)) ∧ (¬ (¬ v2 = 1) → r = (some (0, w32 ((w32 (4 * (idv x0 5))) + (irm x0 5))), m2))))) : Ev (d + 1) K_Mo_hedgeOf 0 0 [(0, x0), (0, x1), (9, 0)] [] m r := by
  refine Ev_rn (q := (2, [(0, x0), (0, x1), (9, 0)], [(0, x1), (0, x0)], m)) 2 rfl ?_
  refine Ev_icmp rfl (fun hc => ?_) (fun hc => ?_)
  · replace h := h.1 hc
    refine Ev_rn (q := (10, [(0, x0), (0, x1), (0, x1)], [(0, w32 (x0 - x1))], m)) 5 rfl ?_
    obtain ⟨v1, m1, hc, h⟩ := h
    refine Ev_call (rest := []) rfl rfl (Nat.le_of_ble_eq_true rfl) hc ?_
    refine Ev_rn (q := (12, [(0, x0), (0, x1), (0, x1)], [(0, 1), (0, v1)], m1)) 1 rfl ?_
    refine Ev_icmp rfl (fun hc => ?_) (fun hc => ?_)
    · replace h := h.1 hc
      refine Ev_rn (q := (26, [(0, x0), (0, x1), (0, x1)], [(0, w32 (20 + x1))], m1)) 3 rfl ?_
      exact Ev_ret rfl rfl h
    · replace h := h.2 hc
      refine Ev_rn (q := (16, [(0, x0), (0, x1), (0, x1)], [(0, 5), (0, x1), (0, 4)], m1)) 3 rfl ?_
      refine Ev_idiv rfl (by decide) ?_
      refine Ev_rn (q := (20, [(0, x0), (0, x1), (0, x1)], [(0, 5), (0, x1), (0, w32 (4 * (idv x1 5)))], m1)) 3 rfl ?_
      refine Ev_irem rfl (by decide) ?_
      refine Ev_rn (q := (26, [(0, x0), (0, x1), (0, x1)], [(0, w32 ((w32 (4 * (idv x1 5))) + (irm x1 5)))], m1)) 2 rfl ?_
      exact Ev_ret rfl rfl h
  · replace h := h.2 hc
    refine Ev_rn (q := (10, [(0, x0), (0, x1), (0, x0)], [(0, w32 (x0 - x1))], m)) 6 rfl ?_
    obtain ⟨v2, m2, hc, h⟩ := h
    refine Ev_call (rest := []) rfl rfl (Nat.le_of_ble_eq_true rfl) hc ?_
    refine Ev_rn (q := (12, [(0, x0), (0, x1), (0, x0)], [(0, 1), (0, v2)], m2)) 1 rfl ?_
    refine Ev_icmp rfl (fun hc => ?_) (fun hc => ?_)
    · replace h := h.1 hc
      refine Ev_rn (q := (26, [(0, x0), (0, x1), (0, x0)], [(0, w32 (20 + x0))], m2)) 3 rfl ?_
      exact Ev_ret rfl rfl h
    · replace h := h.2 hc
      refine Ev_rn (q := (16, [(0, x0), (0, x1), (0, x0)], [(0, 5), (0, x0), (0, 4)], m2)) 3 rfl ?_
      refine Ev_idiv rfl (by decide) ?_
      refine Ev_rn (q := (20, [(0, x0), (0, x1), (0, x0)], [(0, 5), (0, x0), (0, w32 (4 * (idv x0 5)))], m2)) 3 rfl ?_
      refine Ev_irem rfl (by decide) ?_
      refine Ev_rn (q := (26, [(0, x0), (0, x1), (0, x0)], [(0, w32 ((w32 (4 * (idv x0 5))) + (irm x0 5)))], m2)) 2 rfl ?_
      exact Ev_ret rfl rfl h
theorem b_Mo_westOf {d : Nat} {r : Option Vv × Mm} {m : Mm} {x0 : Int} (h : (20 ≤ x0 → r = (some (0, w32 (x0 - 20)), m)) ∧ (¬ (20 ≤ x0) → r = (some (0, w32 ((w32 (5 * (idv x0 4))) + (irm x0 4))), m))) : Ev d K_Mo_westOf 0 0 [(0, x0)] [] m r := by
  refine Ev_rn (q := (2, [(0, x0)], [(0, 20), (0, x0)], m)) 2 rfl ?_
  refine Ev_icmp rfl (fun hc => ?_) (fun hc => ?_)
  · replace h := h.1 hc
    refine Ev_rn (q := (16, [(0, x0)], [(0, w32 (x0 - 20))], m)) 3 rfl ?_
    exact Ev_ret rfl rfl h
  · replace h := h.2 hc
    refine Ev_rn (q := (6, [(0, x0)], [(0, 4), (0, x0), (0, 5)], m)) 3 rfl ?_
    refine Ev_idiv rfl (by decide) ?_
    refine Ev_rn (q := (10, [(0, x0)], [(0, 4), (0, x0), (0, w32 (5 * (idv x0 4)))], m)) 3 rfl ?_
    refine Ev_irem rfl (by decide) ?_
    refine Ev_rn (q := (16, [(0, x0)], [(0, w32 ((w32 (5 * (idv x0 4))) + (irm x0 4)))], m)) 2 rfl ?_
    exact Ev_ret rfl rfl h
theorem b_Mo_eastOf {d : Nat} {r : Option Vv × Mm} {m : Mm} {x0 : Int} (h : ∃ (v1 : Int) (m1 : Mm), Cl d k_Mo_westOf [(0, x0)] m (some (0, v1), m1) ∧ ((20 ≤ x0 → r = (some (0, w32 (v1 + 5)), m1)) ∧ (¬ (20 ≤ x0) → r = (some (0, w32 (v1 + 1)), m1)))) : Ev (d + 1) K_Mo_eastOf 0 0 [(0, x0)] [] m r := by
  refine Ev_rn (q := (1, [(0, x0)], [(0, x0)], m)) 1 rfl ?_
  obtain ⟨v1, m1, hc, h⟩ := h
  refine Ev_call (rest := []) rfl rfl (Nat.le_of_ble_eq_true rfl) hc ?_
  refine Ev_rn (q := (4, [(0, x0)], [(0, 20), (0, x0), (0, v1)], m1)) 2 rfl ?_
  refine Ev_icmp rfl (fun hc => ?_) (fun hc => ?_)
  · replace h := h.1 hc
    refine Ev_rn (q := (9, [(0, x0)], [(0, w32 (v1 + 5))], m1)) 2 rfl ?_
    exact Ev_ret rfl rfl h
  · replace h := h.2 hc
    refine Ev_rn (q := (9, [(0, x0)], [(0, w32 (v1 + 1))], m1)) 3 rfl ?_
    exact Ev_ret rfl rfl h
theorem b_Mo_cellTurned {d : Nat} {r : Option Vv × Mm} {m : Mm} {x0 x1 : Int} (h : (4 ≤ x1 → Ev d K_Mo_cellTurned 0 19 [(0, x0), (0, x1), (0, idv x0 5), (0, w32 (4 - (irm x0 5))), (0, 0), (9, 0)] [] m r) ∧ (¬ (4 ≤ x1) → Ev d K_Mo_cellTurned 0 19 [(0, x0), (0, x1), (0, idv x0 5), (0, irm x0 5), (0, 0), (9, 0)] [] m r)) : Ev d K_Mo_cellTurned 0 0 [(0, x0), (0, x1), (9, 0), (9, 0), (9, 0), (9, 0)] [] m r := by
  refine Ev_rn (q := (2, [(0, x0), (0, x1), (9, 0), (9, 0), (9, 0), (9, 0)], [(0, 5), (0, x0)], m)) 2 rfl ?_
  refine Ev_idiv rfl (by decide) ?_
  refine Ev_rn (q := (6, [(0, x0), (0, x1), (0, idv x0 5), (9, 0), (9, 0), (9, 0)], [(0, 4), (0, x1)], m)) 3 rfl ?_
  refine Ev_icmp rfl (fun hc => ?_) (fun hc => ?_)
  · replace h := h.1 hc
    refine Ev_rn (q := (14, [(0, x0), (0, x1), (0, idv x0 5), (9, 0), (9, 0), (9, 0)], [(0, 5), (0, x0), (0, 4)], m)) 3 rfl ?_
    refine Ev_irem rfl (by decide) ?_
    refine Ev_rn (q := (19, [(0, x0), (0, x1), (0, idv x0 5), (0, w32 (4 - (irm x0 5))), (0, 0), (9, 0)], [], m)) 4 rfl ?_
    exact h
  · replace h := h.2 hc
    refine Ev_rn (q := (9, [(0, x0), (0, x1), (0, idv x0 5), (9, 0), (9, 0), (9, 0)], [(0, 5), (0, x0)], m)) 2 rfl ?_
    refine Ev_irem rfl (by decide) ?_
    refine Ev_rn (q := (19, [(0, x0), (0, x1), (0, idv x0 5), (0, irm x0 5), (0, 0), (9, 0)], [], m)) 4 rfl ?_
    exact h
theorem b_Mo_cellTurned_19 {d : Nat} {r : Option Vv × Mm} {m : Mm} {x0 x1 x2 x3 x4 : Int} {u5 : Vv} (h : (irm x1 4 ≤ x4 → r = (some (0, w32 ((w32 (5 * x2)) + x3)), m)) ∧ (¬ (irm x1 4 ≤ x4) → Ev d K_Mo_cellTurned 0 19 [(0, x0), (0, x1), (0, x3), (0, w32 (4 - x2)), (0, w32 (x4 + 1)), (0, x2)] [] m r)) : Ev d K_Mo_cellTurned 0 19 [(0, x0), (0, x1), (0, x2), (0, x3), (0, x4), u5] [] m r := by
  refine Ev_rn (q := (22, [(0, x0), (0, x1), (0, x2), (0, x3), (0, x4), u5], [(0, 4), (0, x1), (0, x4)], m)) 3 rfl ?_
  refine Ev_irem rfl (by decide) ?_
  refine Ev_icmp rfl (fun hc => ?_) (fun hc => ?_)
  · replace h := h.1 hc
    refine Ev_rn (q := (39, [(0, x0), (0, x1), (0, x2), (0, x3), (0, x4), u5], [(0, w32 ((w32 (5 * x2)) + x3))], m)) 5 rfl ?_
    exact Ev_ret rfl rfl h
  · replace h := h.2 hc
    refine Ev_rn (q := (19, [(0, x0), (0, x1), (0, x3), (0, w32 (4 - x2)), (0, w32 (x4 + 1)), (0, x2)], [], m)) 10 rfl ?_
    exact h
theorem b_Mo_layTurns {d : Nat} {r : Option Vv × Mm} {m : Mm} (h : Ev (d + 1) K_Mo_layTurns 3 2 [(18, 400), (0, 0), (9, 0)] [] m r) : Ev (d + 1) K_Mo_layTurns 3 0 [(18, 400), (9, 0), (9, 0)] [] m r := by
  refine Ev_rn (q := (2, [(18, 400), (0, 0), (9, 0)], [], m)) 2 rfl ?_
  exact h
theorem b_Mo_layTurns_2 {d : Nat} {r : Option Vv × Mm} {m : Mm} {x1 : Int} {u2 : Vv} (h : (8 ≤ x1 → r = (none, m)) ∧ (¬ (8 ≤ x1) → Ev (d + 1) K_Mo_layTurns 3 7 [(18, 400), (0, x1), (0, 0)] [] m r)) : Ev (d + 1) K_Mo_layTurns 3 2 [(18, 400), (0, x1), u2] [] m r := by
  refine Ev_rn (q := (4, [(18, 400), (0, x1), u2], [(0, 8), (0, x1)], m)) 2 rfl ?_
  refine Ev_icmp rfl (fun hc => ?_) (fun hc => ?_)
  · replace h := h.1 hc
    exact Ev_ret rfl rfl h
  · replace h := h.2 hc
    refine Ev_rn (q := (7, [(18, 400), (0, x1), (0, 0)], [], m)) 2 rfl ?_
    exact h
theorem b_Mo_layTurns_7 {d : Nat} {r : Option Vv × Mm} {m : Mm} {x1 x2 : Int} (h : (40 ≤ x2 → Ev (d + 1) K_Mo_layTurns 3 2 [(18, 400), (0, w32 (x1 + 1)), (0, x2)] [] m r) ∧ (¬ (40 ≤ x2) → ∃ (v1 : Int) (m1 : Mm), Cl d k_Mo_westOf [(0, x2)] m (some (0, v1), m1) ∧ (∃ (v2 : Int) (m2 : Mm), Cl d k_Mo_cellTurned [(0, v1), (0, x1)] m1 (some (0, v2), m2) ∧ (∃ (v3 : Int) (m3 : Mm), Cl d k_Mo_eastOf [(0, x2)] m2 (some (0, v3), m3) ∧ (∃ (v4 : Int) (m4 : Mm), Cl d k_Mo_cellTurned [(0, v3), (0, x1)] m3 (some (0, v4), m4) ∧ (∃ (v5 : Int) (m5 : Mm), Cl d k_Mo_hedgeOf [(0, v2), (0, v4)] m4 (some (0, v5), m5) ∧ ((0 ≤ w32 ((w32 (40 * x1)) + v5) ∧ w32 ((w32 (40 * x1)) + v5) < 320) ∧ (∀ m6 : Mm, m6 = up m5 404 (w32 ((w32 (40 * x1)) + v5)) x2 → (Ev (d + 1) K_Mo_layTurns 3 7 [(18, 400), (0, x1), (0, w32 (x2 + 1))] [] m6 r))))))))) : Ev (d + 1) K_Mo_layTurns 3 7 [(18, 400), (0, x1), (0, x2)] [] m r := by
  refine Ev_rn (q := (9, [(18, 400), (0, x1), (0, x2)], [(0, 40), (0, x2)], m)) 2 rfl ?_
  refine Ev_icmp rfl (fun hc => ?_) (fun hc => ?_)
  · replace h := h.1 hc
    refine Ev_rn (q := (2, [(18, 400), (0, w32 (x1 + 1)), (0, x2)], [], m)) 2 rfl ?_
    exact h
  · replace h := h.2 hc
    refine Ev_rn (q := (16, [(18, 400), (0, x1), (0, x2)], [(0, x2), (0, w32 (40 * x1)), (2660, 404)], m)) 6 rfl ?_
    obtain ⟨v1, m1, hc, h⟩ := h
    refine Ev_call (rest := [(0, w32 (40 * x1)), (2660, 404)]) rfl rfl (Nat.le_of_ble_eq_true rfl) hc ?_
    refine Ev_rn (q := (18, [(18, 400), (0, x1), (0, x2)], [(0, x1), (0, v1), (0, w32 (40 * x1)), (2660, 404)], m1)) 1 rfl ?_
    obtain ⟨v2, m2, hc, h⟩ := h
    refine Ev_call (rest := [(0, w32 (40 * x1)), (2660, 404)]) rfl rfl (Nat.le_of_ble_eq_true rfl) hc ?_
    refine Ev_rn (q := (20, [(18, 400), (0, x1), (0, x2)], [(0, x2), (0, v2), (0, w32 (40 * x1)), (2660, 404)], m2)) 1 rfl ?_
    obtain ⟨v3, m3, hc, h⟩ := h
    refine Ev_call (rest := [(0, v2), (0, w32 (40 * x1)), (2660, 404)]) rfl rfl (Nat.le_of_ble_eq_true rfl) hc ?_
    refine Ev_rn (q := (22, [(18, 400), (0, x1), (0, x2)], [(0, x1), (0, v3), (0, v2), (0, w32 (40 * x1)), (2660, 404)], m3)) 1 rfl ?_
    obtain ⟨v4, m4, hc, h⟩ := h
    refine Ev_call (rest := [(0, v2), (0, w32 (40 * x1)), (2660, 404)]) rfl rfl (Nat.le_of_ble_eq_true rfl) hc ?_
    obtain ⟨v5, m5, hc, h⟩ := h
    refine Ev_call (rest := [(0, w32 (40 * x1)), (2660, 404)]) rfl rfl (Nat.le_of_ble_eq_true rfl) hc ?_
    refine Ev_rn (q := (26, [(18, 400), (0, x1), (0, x2)], [(0, x2), (0, w32 ((w32 (40 * x1)) + v5)), (2660, 404)], m5)) 2 rfl ?_
    obtain ⟨hc, h⟩ := h
    refine Ev_iast (n := 320) rfl (by decide) (by decide) hc ?_
    generalize e6 : up m5 404 (w32 ((w32 (40 * x1)) + v5)) x2 = m6
    replace h := h m6 e6.symm
    refine Ev_rn (q := (7, [(18, 400), (0, x1), (0, w32 (x2 + 1))], [], m6)) 2 rfl ?_
    exact h
theorem b_Mo_isThere {d : Nat} {r : Option Vv × Mm} {m : Mm} {x1 : Int} (h : (20 ≤ x1 → ∃ (v1 : Int) (m1 : Mm), Cl d k_Mo_has [(0, m 401 9), (0, w32 (x1 - 20))] m (some (0, v1), m1) ∧ ((v1 = 0 ∨ v1 = 1) ∧ r = (some (0, v1), m1))) ∧ (¬ (20 ≤ x1) → ∃ (v2 : Int) (m2 : Mm), Cl d k_Mo_has [(0, m 401 8), (0, x1)] m (some (0, v2), m2) ∧ ((v2 = 0 ∨ v2 = 1) ∧ r = (some (0, v2), m2)))) : Ev (d + 1) K_Mo_isThere 2 0 [(18, 400), (0, x1)] [] m r := by
  refine Ev_rn (q := (2, [(18, 400), (0, x1)], [(0, 20), (0, x1)], m)) 2 rfl ?_
  refine Ev_icmp rfl (fun hc => ?_) (fun hc => ?_)
  · replace h := h.1 hc
    refine Ev_rn (q := (13, [(18, 400), (0, x1)], [(0, 9), (11828, 401)], m)) 3 rfl ?_
    refine Ev_iald (n := 1466) rfl (by decide) (by decide) ⟨by decide, by decide⟩ ?_
    refine Ev_rn (q := (17, [(18, 400), (0, x1)], [(0, w32 (x1 - 20)), (0, m 401 9)], m)) 3 rfl ?_
    obtain ⟨v1, m1, hc, h⟩ := h
    refine Ev_call (rest := []) rfl rfl (Nat.le_of_ble_eq_true rfl) hc ?_
    exact Ev_zret rfl rfl h.1 h.2
  · replace h := h.2 hc
    refine Ev_rn (q := (6, [(18, 400), (0, x1)], [(0, 8), (11828, 401)], m)) 3 rfl ?_
    refine Ev_iald (n := 1466) rfl (by decide) (by decide) ⟨by decide, by decide⟩ ?_
    refine Ev_rn (q := (8, [(18, 400), (0, x1)], [(0, x1), (0, m 401 8)], m)) 1 rfl ?_
    obtain ⟨v2, m2, hc, h⟩ := h
    refine Ev_call (rest := []) rfl rfl (Nat.le_of_ble_eq_true rfl) hc ?_
    refine Ev_rn (q := (18, [(18, 400), (0, x1)], [(0, v2)], m2)) 1 rfl ?_
    exact Ev_zret rfl rfl h.1 h.2
theorem b_Mo_change {d : Nat} {r : Option Vv × Mm} {m : Mm} {x1 : Int} (h : (20 ≤ x1 → ∀ m1 : Mm, m1 = up m 401 9 (ixo (m 401 9) (isl 1 (w32 (x1 - 20)))) → (r = (none, m1))) ∧ (¬ (20 ≤ x1) → ∀ m2 : Mm, m2 = up m 401 8 (ixo (m 401 8) (isl 1 x1)) → (r = (none, m2)))) : Ev d K_Mo_change 3 0 [(18, 400), (0, x1)] [] m r := by
  refine Ev_rn (q := (2, [(18, 400), (0, x1)], [(0, 20), (0, x1)], m)) 2 rfl ?_
  refine Ev_icmp rfl (fun hc => ?_) (fun hc => ?_)
  · replace h := h.1 hc
    refine Ev_rn (q := (18, [(18, 400), (0, x1)], [(0, 9), (11828, 401), (0, 9), (11828, 401)], m)) 4 rfl ?_
    refine Ev_iald (n := 1466) rfl (by decide) (by decide) ⟨by decide, by decide⟩ ?_
    refine Ev_rn (q := (25, [(18, 400), (0, x1)], [(0, ixo (m 401 9) (isl 1 (w32 (x1 - 20)))), (0, 9), (11828, 401)], m)) 6 rfl ?_
    refine Ev_iast (n := 1466) rfl (by decide) (by decide) ⟨by decide, by decide⟩ ?_
    generalize e1 : up m 401 9 (ixo (m 401 9) (isl 1 (w32 (x1 - 20)))) = m1
    replace h := h m1 e1.symm
    exact Ev_ret rfl rfl h
  · replace h := h.2 hc
    refine Ev_rn (q := (7, [(18, 400), (0, x1)], [(0, 8), (11828, 401), (0, 8), (11828, 401)], m)) 4 rfl ?_
    refine Ev_iald (n := 1466) rfl (by decide) (by decide) ⟨by decide, by decide⟩ ?_
    refine Ev_rn (q := (12, [(18, 400), (0, x1)], [(0, ixo (m 401 8) (isl 1 x1)), (0, 8), (11828, 401)], m)) 4 rfl ?_
    refine Ev_iast (n := 1466) rfl (by decide) (by decide) ⟨by decide, by decide⟩ ?_
    generalize e2 : up m 401 8 (ixo (m 401 8) (isl 1 x1)) = m2
    replace h := h m2 e2.symm
    refine Ev_rn (q := (26, [(18, 400), (0, x1)], [], m2)) 1 rfl ?_
    exact Ev_ret rfl rfl h
theorem b_Mo_isOpen {d : Nat} {r : Option Vv × Mm} {m : Mm} {x1 x2 : Int} (h : ∃ (v1 : Int) (m1 : Mm), Cl d k_Mo_beside [(0, x1), (0, x2)] m (some (0, v1), m1) ∧ ((v1 = (-1) → r = (some (0, 0), m1)) ∧ (¬ (v1 = (-1)) → ∃ (v2 : Int) (m2 : Mm), Cl d k_Mo_beside [(0, x1), (0, x2)] m1 (some (0, v2), m2) ∧ (∃ (v3 : Int) (m3 : Mm), Cl d k_Mo_hedgeOf [(0, x1), (0, v2)] m2 (some (0, v3), m3) ∧ (∃ (v4 : Int) (m4 : Mm), Cl d k_Mo_isThere [(18, 400), (0, v3)] m3 (some (0, v4), m4) ∧ ((¬ v4 = 0 → r = (some (0, 0), m4)) ∧ (¬ (¬ v4 = 0) → r = (some (0, 1), m4)))))))) : Ev (d + 1) K_Mo_isOpen 2 0 [(18, 400), (0, x1), (0, x2)] [] m r := by
  refine Ev_rn (q := (2, [(18, 400), (0, x1), (0, x2)], [(0, x2), (0, x1)], m)) 2 rfl ?_
  obtain ⟨v1, m1, hc, h⟩ := h
  refine Ev_call (rest := []) rfl rfl (Nat.le_of_ble_eq_true rfl) hc ?_
  refine Ev_rn (q := (4, [(18, 400), (0, x1), (0, x2)], [(0, (-1)), (0, v1)], m1)) 1 rfl ?_
  refine Ev_icmp rfl (fun hc => ?_) (fun hc => ?_)
  · replace h := h.1 hc
    refine Ev_rn (q := (16, [(18, 400), (0, x1), (0, x2)], [(0, 0)], m1)) 1 rfl ?_
    exact Ev_zret rfl rfl (by decide) h
  · replace h := h.2 hc
    refine Ev_rn (q := (9, [(18, 400), (0, x1), (0, x2)], [(0, x2), (0, x1), (0, x1), (18, 400)], m1)) 4 rfl ?_
    obtain ⟨v2, m2, hc, h⟩ := h
    refine Ev_call (rest := [(0, x1), (18, 400)]) rfl rfl (Nat.le_of_ble_eq_true rfl) hc ?_
    obtain ⟨v3, m3, hc, h⟩ := h
    refine Ev_call (rest := [(18, 400)]) rfl rfl (Nat.le_of_ble_eq_true rfl) hc ?_
    obtain ⟨v4, m4, hc, h⟩ := h
    refine Ev_call (rest := []) rfl rfl (Nat.le_of_ble_eq_true rfl) hc ?_
    refine Ev_if rfl (fun hc => ?_) (fun hc => ?_)
    · replace h := h.1 hc
      refine Ev_rn (q := (16, [(18, 400), (0, x1), (0, x2)], [(0, 0)], m4)) 1 rfl ?_
      exact Ev_zret rfl rfl (by decide) h
    · replace h := h.2 hc
      refine Ev_rn (q := (16, [(18, 400), (0, x1), (0, x2)], [(0, 1)], m4)) 2 rfl ?_
      exact Ev_zret rfl rfl (by decide) h
theorem b_Mo_openOf {d : Nat} {r : Option Vv × Mm} {m : Mm} {x1 : Int} (h : Ev (d + 1) K_Mo_openOf 0 4 [(18, 400), (0, x1), (0, 0), (0, 0)] [] m r) : Ev (d + 1) K_Mo_openOf 0 0 [(18, 400), (0, x1), (9, 0), (9, 0)] [] m r := by
  refine Ev_rn (q := (4, [(18, 400), (0, x1), (0, 0), (0, 0)], [], m)) 4 rfl ?_
  exact h
theorem b_Mo_openOf_4 {d : Nat} {r : Option Vv × Mm} {m : Mm} {x1 x2 x3 : Int} (h : (4 ≤ x3 → r = (some (0, x2), m)) ∧ (¬ (4 ≤ x3) → ∃ (v1 : Int) (m1 : Mm), Cl d k_Mo_isOpen [(18, 400), (0, x1), (0, x3)] m (some (0, v1), m1) ∧ ((v1 = 0 → Ev (d + 1) K_Mo_openOf 0 4 [(18, 400), (0, x1), (0, iro x2 0), (0, w32 (x3 + 1))] [] m1 r) ∧ (¬ (v1 = 0) → Ev (d + 1) K_Mo_openOf 0 4 [(18, 400), (0, x1), (0, iro x2 (isl 1 x3)), (0, w32 (x3 + 1))] [] m1 r)))) : Ev (d + 1) K_Mo_openOf 0 4 [(18, 400), (0, x1), (0, x2), (0, x3)] [] m r := by
  refine Ev_rn (q := (6, [(18, 400), (0, x1), (0, x2), (0, x3)], [(0, 4), (0, x3)], m)) 2 rfl ?_
  refine Ev_icmp rfl (fun hc => ?_) (fun hc => ?_)
  · replace h := h.1 hc
    refine Ev_rn (q := (23, [(18, 400), (0, x1), (0, x2), (0, x3)], [(0, x2)], m)) 1 rfl ?_
    exact Ev_ret rfl rfl h
  · replace h := h.2 hc
    refine Ev_rn (q := (11, [(18, 400), (0, x1), (0, x2), (0, x3)], [(0, x3), (0, x1), (18, 400), (0, x2)], m)) 4 rfl ?_
    obtain ⟨v1, m1, hc, h⟩ := h
    refine Ev_call (rest := [(0, x2)]) rfl rfl (Nat.le_of_ble_eq_true rfl) hc ?_
    refine Ev_if rfl (fun hc => ?_) (fun hc => ?_)
    · replace h := h.1 hc
      refine Ev_rn (q := (4, [(18, 400), (0, x1), (0, iro x2 0), (0, w32 (x3 + 1))], [], m1)) 5 rfl ?_
      exact h
    · replace h := h.2 hc
      refine Ev_rn (q := (4, [(18, 400), (0, x1), (0, iro x2 (isl 1 x3)), (0, w32 (x3 + 1))], [], m1)) 8 rfl ?_
      exact h
theorem b_Mo_aroundOf {d : Nat} {r : Option Vv × Mm} {m : Mm} {x1 : Int} (h : Ev (d + 1) K_Mo_aroundOf 0 4 [(18, 400), (0, x1), (0, 0), (0, 0)] [] m r) : Ev (d + 1) K_Mo_aroundOf 0 0 [(18, 400), (0, x1), (9, 0), (9, 0)] [] m r := by
  refine Ev_rn (q := (4, [(18, 400), (0, x1), (0, 0), (0, 0)], [], m)) 4 rfl ?_
  exact h
theorem b_Mo_aroundOf_4 {d : Nat} {r : Option Vv × Mm} {m : Mm} {x1 x2 x3 : Int} (h : (4 ≤ x3 → r = (some (0, x2), m)) ∧ (¬ (4 ≤ x3) → ∃ (v1 : Int) (m1 : Mm), Cl d k_Mo_beside [(0, x1), (0, x3)] m (some (0, v1), m1) ∧ ((v1 = (-1) → Ev (d + 1) K_Mo_aroundOf 0 4 [(18, 400), (0, x1), (0, w32 (x2 + 0)), (0, w32 (x3 + 1))] [] m1 r) ∧ (¬ (v1 = (-1)) → ∃ (v2 : Int) (m2 : Mm), Cl d k_Mo_isOpen [(18, 400), (0, x1), (0, x3)] m1 (some (0, v2), m2) ∧ ((¬ v2 = 0 → Ev (d + 1) K_Mo_aroundOf 0 4 [(18, 400), (0, x1), (0, w32 (x2 + 0)), (0, w32 (x3 + 1))] [] m2 r) ∧ (¬ (¬ v2 = 0) → Ev (d + 1) K_Mo_aroundOf 0 4 [(18, 400), (0, x1), (0, w32 (x2 + 1)), (0, w32 (x3 + 1))] [] m2 r)))))) : Ev (d + 1) K_Mo_aroundOf 0 4 [(18, 400), (0, x1), (0, x2), (0, x3)] [] m r := by
  refine Ev_rn (q := (6, [(18, 400), (0, x1), (0, x2), (0, x3)], [(0, 4), (0, x3)], m)) 2 rfl ?_
  refine Ev_icmp rfl (fun hc => ?_) (fun hc => ?_)
  · replace h := h.1 hc
    refine Ev_rn (q := (26, [(18, 400), (0, x1), (0, x2), (0, x3)], [(0, x2)], m)) 1 rfl ?_
    exact Ev_ret rfl rfl h
  · replace h := h.2 hc
    refine Ev_rn (q := (10, [(18, 400), (0, x1), (0, x2), (0, x3)], [(0, x3), (0, x1), (0, x2)], m)) 3 rfl ?_
    obtain ⟨v1, m1, hc, h⟩ := h
    refine Ev_call (rest := [(0, x2)]) rfl rfl (Nat.le_of_ble_eq_true rfl) hc ?_
    refine Ev_rn (q := (12, [(18, 400), (0, x1), (0, x2), (0, x3)], [(0, (-1)), (0, v1), (0, x2)], m1)) 1 rfl ?_
    refine Ev_icmp rfl (fun hc => ?_) (fun hc => ?_)
    · replace h := h.1 hc
      refine Ev_rn (q := (4, [(18, 400), (0, x1), (0, w32 (x2 + 0)), (0, w32 (x3 + 1))], [], m1)) 5 rfl ?_
      exact h
    · replace h := h.2 hc
      refine Ev_rn (q := (16, [(18, 400), (0, x1), (0, x2), (0, x3)], [(0, x3), (0, x1), (18, 400), (0, x2)], m1)) 3 rfl ?_
      obtain ⟨v2, m2, hc, h⟩ := h
      refine Ev_call (rest := [(0, x2)]) rfl rfl (Nat.le_of_ble_eq_true rfl) hc ?_
      refine Ev_if rfl (fun hc => ?_) (fun hc => ?_)
      · replace h := h.1 hc
        refine Ev_rn (q := (4, [(18, 400), (0, x1), (0, w32 (x2 + 0)), (0, w32 (x3 + 1))], [], m2)) 5 rfl ?_
        exact h
      · replace h := h.2 hc
        refine Ev_rn (q := (4, [(18, 400), (0, x1), (0, w32 (x2 + 1)), (0, w32 (x3 + 1))], [], m2)) 6 rfl ?_
        exact h
theorem b_Mo_allNow {d : Nat} {r : Option Vv × Mm} {m : Mm} (h : ∃ (v1 : Int) (m1 : Mm), Cl d k_Mo_bits [(0, m 401 8)] m (some (0, v1), m1) ∧ (∃ (v2 : Int) (m2 : Mm), Cl d k_Mo_bits [(0, m1 401 9)] m1 (some (0, v2), m2) ∧ (r = (some (0, w32 (v1 + v2)), m2)))) : Ev (d + 1) K_Mo_allNow 0 0 [(18, 400)] [] m r := by
  refine Ev_rn (q := (3, [(18, 400)], [(0, 8), (11828, 401)], m)) 3 rfl ?_
  refine Ev_iald (n := 1466) rfl (by decide) (by decide) ⟨by decide, by decide⟩ ?_
  obtain ⟨v1, m1, hc, h⟩ := h
  refine Ev_call (rest := []) rfl rfl (Nat.le_of_ble_eq_true rfl) hc ?_
  refine Ev_rn (q := (8, [(18, 400)], [(0, 9), (11828, 401), (0, v1)], m1)) 3 rfl ?_
  refine Ev_iald (n := 1466) rfl (by decide) (by decide) ⟨by decide, by decide⟩ ?_
  obtain ⟨v2, m2, hc, h⟩ := h
  refine Ev_call (rest := [(0, v1)]) rfl rfl (Nat.le_of_ble_eq_true rfl) hc ?_
  refine Ev_rn (q := (11, [(18, 400)], [(0, w32 (v1 + v2))], m2)) 1 rfl ?_
  exact Ev_ret rfl rfl h
theorem b_Mo_cellOf {d : Nat} {r : Option Vv × Mm} {m : Mm} {x1 : Int} (h : (0 ≤ w32 (11 + (w32 (2 * x1))) ∧ w32 (11 + (w32 (2 * x1))) < 1466) ∧ (r = (some (0, m 401 (w32 (11 + (w32 (2 * x1))))), m))) : Ev d K_Mo_cellOf 0 0 [(18, 400), (0, x1)] [] m r := by
  refine Ev_rn (q := (7, [(18, 400), (0, x1)], [(0, w32 (11 + (w32 (2 * x1)))), (11828, 401)], m)) 7 rfl ?_
  obtain ⟨hc, h⟩ := h
  refine Ev_iald (n := 1466) rfl (by decide) (by decide) hc ?_
  exact Ev_ret rfl rfl h
theorem b_Mo_wayOf {d : Nat} {r : Option Vv × Mm} {m : Mm} {x1 : Int} (h : (0 ≤ w32 ((w32 (11 + (w32 (2 * x1)))) + 1) ∧ w32 ((w32 (11 + (w32 (2 * x1)))) + 1) < 1466) ∧ (r = (some (0, m 401 (w32 ((w32 (11 + (w32 (2 * x1)))) + 1))), m))) : Ev d K_Mo_wayOf 0 0 [(18, 400), (0, x1)] [] m r := by
  refine Ev_rn (q := (9, [(18, 400), (0, x1)], [(0, w32 ((w32 (11 + (w32 (2 * x1)))) + 1)), (11828, 401)], m)) 9 rfl ?_
  obtain ⟨hc, h⟩ := h
  refine Ev_iald (n := 1466) rfl (by decide) (by decide) hc ?_
  exact Ev_ret rfl rfl h
theorem b_Mo_put {d : Nat} {r : Option Vv × Mm} {m : Mm} {x1 x2 x3 : Int} (h : (0 ≤ w32 (11 + (w32 (2 * x1))) ∧ w32 (11 + (w32 (2 * x1))) < 1466) ∧ (∀ m1 : Mm, m1 = up m 401 (w32 (11 + (w32 (2 * x1)))) x2 → ((0 ≤ w32 ((w32 (11 + (w32 (2 * x1)))) + 1) ∧ w32 ((w32 (11 + (w32 (2 * x1)))) + 1) < 1466) ∧ (∀ m2 : Mm, m2 = up m1 401 (w32 ((w32 (11 + (w32 (2 * x1)))) + 1)) x3 → (r = (none, m2)))))) : Ev d K_Mo_put 3 0 [(18, 400), (0, x1), (0, x2), (0, x3)] [] m r := by
  refine Ev_rn (q := (8, [(18, 400), (0, x1), (0, x2), (0, x3)], [(0, x2), (0, w32 (11 + (w32 (2 * x1)))), (11828, 401)], m)) 8 rfl ?_
  obtain ⟨hc, h⟩ := h
  refine Ev_iast (n := 1466) rfl (by decide) (by decide) hc ?_
  generalize e1 : up m 401 (w32 (11 + (w32 (2 * x1)))) x2 = m1
  replace h := h m1 e1.symm
  refine Ev_rn (q := (19, [(18, 400), (0, x1), (0, x2), (0, x3)], [(0, x3), (0, w32 ((w32 (11 + (w32 (2 * x1)))) + 1)), (11828, 401)], m1)) 10 rfl ?_
  obtain ⟨hc, h⟩ := h
  refine Ev_iast (n := 1466) rfl (by decide) (by decide) hc ?_
  generalize e2 : up m1 401 (w32 ((w32 (11 + (w32 (2 * x1)))) + 1)) x3 = m2
  replace h := h m2 e2.symm
  exact Ev_ret rfl rfl h
theorem b_Mo_hand {d : Nat} {r : Option Vv × Mm} {m : Mm} {x1 x2 : Int} (h : ∃ (v1 : Int) (m1 : Mm), Cl d k_Mo_isIn [(0, x1), (0, 0), (0, 1048575)] m (some (0, v1), m1) ∧ ((v1 = 0 → r = (some (0, (-1)), m1)) ∧ (¬ (v1 = 0) → ∃ (v2 : Int) (m2 : Mm), Cl d k_Mo_isIn [(0, x2), (0, 0), (0, 1048575)] m1 (some (0, v2), m2) ∧ ((v2 = 0 → r = (some (0, (-1)), m2)) ∧ (¬ (v2 = 0) → (¬ m2 401 0 = 4 → (0 ≤ w32 (32 + (w32 (2 * (m2 401 0)))) ∧ w32 (32 + (w32 (2 * (m2 401 0)))) < 1466) ∧ (∀ m3 : Mm, m3 = up m2 401 (w32 (32 + (w32 (2 * (m2 401 0))))) x1 → ((0 ≤ w32 ((w32 (32 + (w32 (2 * (m3 401 0))))) + 1) ∧ w32 ((w32 (32 + (w32 (2 * (m3 401 0))))) + 1) < 1466) ∧ (∀ m4 : Mm, m4 = up m3 401 (w32 ((w32 (32 + (w32 (2 * (m3 401 0))))) + 1)) x2 → (∀ m5 : Mm, m5 = up m4 401 0 (w32 ((m4 401 0) + 1)) → (r = (some (0, w32 ((m5 401 0) - 1)), m5))))))) ∧ (¬ (¬ m2 401 0 = 4) → r = (some (0, (-1)), m2))))))) : Ev (d + 1) K_Mo_hand 0 0 [(18, 400), (0, x1), (0, x2)] [] m r := by
  refine Ev_rn (q := (3, [(18, 400), (0, x1), (0, x2)], [(0, 1048575), (0, 0), (0, x1)], m)) 3 rfl ?_
  obtain ⟨v1, m1, hc, h⟩ := h
  refine Ev_call (rest := []) rfl rfl (Nat.le_of_ble_eq_true rfl) hc ?_
  refine Ev_if rfl (fun hc => ?_) (fun hc => ?_)
  · replace h := h.1 hc
    refine Ev_rn (q := (17, [(18, 400), (0, x1), (0, x2)], [(0, (-1))], m1)) 1 rfl ?_
    exact Ev_ret rfl rfl h
  · replace h := h.2 hc
    refine Ev_rn (q := (8, [(18, 400), (0, x1), (0, x2)], [(0, 1048575), (0, 0), (0, x2)], m1)) 3 rfl ?_
    obtain ⟨v2, m2, hc, h⟩ := h
    refine Ev_call (rest := []) rfl rfl (Nat.le_of_ble_eq_true rfl) hc ?_
    refine Ev_if rfl (fun hc => ?_) (fun hc => ?_)
    · replace h := h.1 hc
      refine Ev_rn (q := (17, [(18, 400), (0, x1), (0, x2)], [(0, (-1))], m2)) 1 rfl ?_
      exact Ev_ret rfl rfl h
    · replace h := h.2 hc
      refine Ev_rn (q := (13, [(18, 400), (0, x1), (0, x2)], [(0, 0), (11828, 401)], m2)) 3 rfl ?_
      refine Ev_iald (n := 1466) rfl (by decide) (by decide) ⟨by decide, by decide⟩ ?_
      refine Ev_rn (q := (15, [(18, 400), (0, x1), (0, x2)], [(0, 4), (0, m2 401 0)], m2)) 1 rfl ?_
      refine Ev_icmp rfl (fun hc => ?_) (fun hc => ?_)
      · replace h := h.1 hc
        refine Ev_rn (q := (25, [(18, 400), (0, x1), (0, x2)], [(0, 0), (11828, 401), (0, 2), (0, 32), (11828, 401)], m2)) 7 rfl ?_
        refine Ev_iald (n := 1466) rfl (by decide) (by decide) ⟨by decide, by decide⟩ ?_
        refine Ev_rn (q := (29, [(18, 400), (0, x1), (0, x2)], [(0, x1), (0, w32 (32 + (w32 (2 * (m2 401 0))))), (11828, 401)], m2)) 3 rfl ?_
        obtain ⟨hc, h⟩ := h
        refine Ev_iast (n := 1466) rfl (by decide) (by decide) hc ?_
        generalize e3 : up m2 401 (w32 (32 + (w32 (2 * (m2 401 0))))) x1 = m3
        replace h := h m3 e3.symm
        refine Ev_rn (q := (37, [(18, 400), (0, x1), (0, x2)], [(0, 0), (11828, 401), (0, 2), (0, 32), (11828, 401)], m3)) 7 rfl ?_
        refine Ev_iald (n := 1466) rfl (by decide) (by decide) ⟨by decide, by decide⟩ ?_
        refine Ev_rn (q := (43, [(18, 400), (0, x1), (0, x2)], [(0, x2), (0, w32 ((w32 (32 + (w32 (2 * (m3 401 0))))) + 1)), (11828, 401)], m3)) 5 rfl ?_
        obtain ⟨hc, h⟩ := h
        refine Ev_iast (n := 1466) rfl (by decide) (by decide) hc ?_
        generalize e4 : up m3 401 (w32 ((w32 (32 + (w32 (2 * (m3 401 0))))) + 1)) x2 = m4
        replace h := h m4 e4.symm
        refine Ev_rn (q := (48, [(18, 400), (0, x1), (0, x2)], [(0, 0), (11828, 401), (0, 0), (11828, 401)], m4)) 4 rfl ?_
        refine Ev_iald (n := 1466) rfl (by decide) (by decide) ⟨by decide, by decide⟩ ?_
        refine Ev_rn (q := (51, [(18, 400), (0, x1), (0, x2)], [(0, w32 ((m4 401 0) + 1)), (0, 0), (11828, 401)], m4)) 2 rfl ?_
        refine Ev_iast (n := 1466) rfl (by decide) (by decide) ⟨by decide, by decide⟩ ?_
        generalize e5 : up m4 401 0 (w32 ((m4 401 0) + 1)) = m5
        replace h := h m5 e5.symm
        refine Ev_rn (q := (55, [(18, 400), (0, x1), (0, x2)], [(0, 0), (11828, 401)], m5)) 3 rfl ?_
        refine Ev_iald (n := 1466) rfl (by decide) (by decide) ⟨by decide, by decide⟩ ?_
        refine Ev_rn (q := (58, [(18, 400), (0, x1), (0, x2)], [(0, w32 ((m5 401 0) - 1))], m5)) 2 rfl ?_
        exact Ev_ret rfl rfl h
      · replace h := h.2 hc
        refine Ev_rn (q := (17, [(18, 400), (0, x1), (0, x2)], [(0, (-1))], m2)) 1 rfl ?_
        exact Ev_ret rfl rfl h
theorem b_Mo_cow {d : Nat} {r : Option Vv × Mm} {m : Mm} {x1 x2 : Int} (h : ∃ (v1 : Int) (m1 : Mm), Cl d k_Mo_isCell [(0, x1)] m (some (0, v1), m1) ∧ ((v1 = 0 → r = (some (0, (-1)), m1)) ∧ (¬ (v1 = 0) → ∃ (v2 : Int) (m2 : Mm), Cl d k_Mo_isIn [(0, x2), (0, 0), (0, 3)] m1 (some (0, v2), m2) ∧ ((v2 = 0 → r = (some (0, (-1)), m2)) ∧ (¬ (v2 = 0) → (¬ m2 401 1 = 5 → (0 ≤ w32 (21 + (w32 (2 * (m2 401 1)))) ∧ w32 (21 + (w32 (2 * (m2 401 1)))) < 1466) ∧ (∀ m3 : Mm, m3 = up m2 401 (w32 (21 + (w32 (2 * (m2 401 1))))) x1 → ((0 ≤ w32 ((w32 (21 + (w32 (2 * (m2 401 1))))) + 1) ∧ w32 ((w32 (21 + (w32 (2 * (m2 401 1))))) + 1) < 1466) ∧ (∀ m4 : Mm, m4 = up m3 401 (w32 ((w32 (21 + (w32 (2 * (m2 401 1))))) + 1)) x2 → (∃ (m5 : Mm), Cl d k_Mo_put [(18, 400), (0, m2 401 1), (0, x1), (0, x2)] m4 (none, m5) ∧ (∀ m6 : Mm, m6 = up m5 401 1 (w32 ((m5 401 1) + 1)) → (r = (some (0, m2 401 1), m6)))))))) ∧ (¬ (¬ m2 401 1 = 5) → r = (some (0, (-1)), m2))))))) : Ev (d + 1) K_Mo_cow 0 0 [(18, 400), (0, x1), (0, x2), (9, 0)] [] m r := by
  refine Ev_rn (q := (1, [(18, 400), (0, x1), (0, x2), (9, 0)], [(0, x1)], m)) 1 rfl ?_
  obtain ⟨v1, m1, hc, h⟩ := h
  refine Ev_call (rest := []) rfl rfl (Nat.le_of_ble_eq_true rfl) hc ?_
  refine Ev_if rfl (fun hc => ?_) (fun hc => ?_)
  · replace h := h.1 hc
    refine Ev_rn (q := (15, [(18, 400), (0, x1), (0, x2), (9, 0)], [(0, (-1))], m1)) 1 rfl ?_
    exact Ev_ret rfl rfl h
  · replace h := h.2 hc
    refine Ev_rn (q := (6, [(18, 400), (0, x1), (0, x2), (9, 0)], [(0, 3), (0, 0), (0, x2)], m1)) 3 rfl ?_
    obtain ⟨v2, m2, hc, h⟩ := h
    refine Ev_call (rest := []) rfl rfl (Nat.le_of_ble_eq_true rfl) hc ?_
    refine Ev_if rfl (fun hc => ?_) (fun hc => ?_)
    · replace h := h.1 hc
      refine Ev_rn (q := (15, [(18, 400), (0, x1), (0, x2), (9, 0)], [(0, (-1))], m2)) 1 rfl ?_
      exact Ev_ret rfl rfl h
    · replace h := h.2 hc
      refine Ev_rn (q := (11, [(18, 400), (0, x1), (0, x2), (9, 0)], [(0, 1), (11828, 401)], m2)) 3 rfl ?_
      refine Ev_iald (n := 1466) rfl (by decide) (by decide) ⟨by decide, by decide⟩ ?_
      refine Ev_rn (q := (13, [(18, 400), (0, x1), (0, x2), (9, 0)], [(0, 5), (0, m2 401 1)], m2)) 1 rfl ?_
      refine Ev_icmp rfl (fun hc => ?_) (fun hc => ?_)
      · replace h := h.1 hc
        refine Ev_rn (q := (19, [(18, 400), (0, x1), (0, x2), (9, 0)], [(0, 1), (11828, 401)], m2)) 3 rfl ?_
        refine Ev_iald (n := 1466) rfl (by decide) (by decide) ⟨by decide, by decide⟩ ?_
        refine Ev_rn (q := (29, [(18, 400), (0, x1), (0, x2), (0, m2 401 1)], [(0, x1), (0, w32 (21 + (w32 (2 * (m2 401 1))))), (11828, 401)], m2)) 9 rfl ?_
        obtain ⟨hc, h⟩ := h
        refine Ev_iast (n := 1466) rfl (by decide) (by decide) hc ?_
        generalize e3 : up m2 401 (w32 (21 + (w32 (2 * (m2 401 1))))) x1 = m3
        replace h := h m3 e3.symm
        refine Ev_rn (q := (40, [(18, 400), (0, x1), (0, x2), (0, m2 401 1)], [(0, x2), (0, w32 ((w32 (21 + (w32 (2 * (m2 401 1))))) + 1)), (11828, 401)], m3)) 10 rfl ?_
        obtain ⟨hc, h⟩ := h
        refine Ev_iast (n := 1466) rfl (by decide) (by decide) hc ?_
        generalize e4 : up m3 401 (w32 ((w32 (21 + (w32 (2 * (m2 401 1))))) + 1)) x2 = m4
        replace h := h m4 e4.symm
        refine Ev_rn (q := (45, [(18, 400), (0, x1), (0, x2), (0, m2 401 1)], [(0, x2), (0, x1), (0, m2 401 1), (18, 400)], m4)) 4 rfl ?_
        obtain ⟨m5, hc, h⟩ := h
        refine Ev_call (rest := []) rfl rfl (Nat.le_of_ble_eq_true rfl) hc ?_
        refine Ev_rn (q := (50, [(18, 400), (0, x1), (0, x2), (0, m2 401 1)], [(0, 1), (11828, 401), (0, 1), (11828, 401)], m5)) 4 rfl ?_
        refine Ev_iald (n := 1466) rfl (by decide) (by decide) ⟨by decide, by decide⟩ ?_
        refine Ev_rn (q := (53, [(18, 400), (0, x1), (0, x2), (0, m2 401 1)], [(0, w32 ((m5 401 1) + 1)), (0, 1), (11828, 401)], m5)) 2 rfl ?_
        refine Ev_iast (n := 1466) rfl (by decide) (by decide) ⟨by decide, by decide⟩ ?_
        generalize e6 : up m5 401 1 (w32 ((m5 401 1) + 1)) = m6
        replace h := h m6 e6.symm
        refine Ev_rn (q := (55, [(18, 400), (0, x1), (0, x2), (0, m2 401 1)], [(0, m2 401 1)], m6)) 1 rfl ?_
        exact Ev_ret rfl rfl h
      · replace h := h.2 hc
        refine Ev_rn (q := (15, [(18, 400), (0, x1), (0, x2), (9, 0)], [(0, (-1))], m2)) 1 rfl ?_
        exact Ev_ret rfl rfl h
theorem b_Mo_gate {d : Nat} {r : Option Vv × Mm} {m : Mm} {x1 x2 : Int} (h : ∃ (v1 : Int) (m1 : Mm), Cl d k_Mo_isCell [(0, x1)] m (some (0, v1), m1) ∧ ((v1 = 0 → r = (some (0, 0), m1)) ∧ (¬ (v1 = 0) → ∃ (v2 : Int) (m2 : Mm), Cl d k_Mo_isRim [(0, x1)] m1 (some (0, v2), m2) ∧ ((¬ v2 = 0 → (x2 = 0 → ∀ m3 : Mm, m3 = up m2 401 31 (ian (m2 401 31) (ixo (isl 1 x1) (-1))) → (r = (some (0, 1), m3))) ∧ (¬ (x2 = 0) → ∀ m4 : Mm, m4 = up m2 401 31 (iro (m2 401 31) (isl 1 x1)) → (r = (some (0, 1), m4)))) ∧ (¬ (¬ v2 = 0) → r = (some (0, 0), m2)))))) : Ev (d + 1) K_Mo_gate 2 0 [(18, 400), (0, x1), (0, x2)] [] m r := by
  refine Ev_rn (q := (1, [(18, 400), (0, x1), (0, x2)], [(0, x1)], m)) 1 rfl ?_
  obtain ⟨v1, m1, hc, h⟩ := h
  refine Ev_call (rest := []) rfl rfl (Nat.le_of_ble_eq_true rfl) hc ?_
  refine Ev_if rfl (fun hc => ?_) (fun hc => ?_)
  · replace h := h.1 hc
    refine Ev_rn (q := (7, [(18, 400), (0, x1), (0, x2)], [(0, 0)], m1)) 1 rfl ?_
    exact Ev_zret rfl rfl (by decide) h
  · replace h := h.2 hc
    refine Ev_rn (q := (4, [(18, 400), (0, x1), (0, x2)], [(0, x1)], m1)) 1 rfl ?_
    obtain ⟨v2, m2, hc, h⟩ := h
    refine Ev_call (rest := []) rfl rfl (Nat.le_of_ble_eq_true rfl) hc ?_
    refine Ev_if rfl (fun hc => ?_) (fun hc => ?_)
    · replace h := h.1 hc
      refine Ev_rn (q := (12, [(18, 400), (0, x1), (0, x2)], [(0, x2), (0, 31), (11828, 401)], m2)) 4 rfl ?_
      refine Ev_if rfl (fun hc => ?_) (fun hc => ?_)
      · replace h := h.1 hc
        refine Ev_rn (q := (25, [(18, 400), (0, x1), (0, x2)], [(0, 31), (11828, 401), (0, 31), (11828, 401)], m2)) 3 rfl ?_
        refine Ev_iald (n := 1466) rfl (by decide) (by decide) ⟨by decide, by decide⟩ ?_
        refine Ev_rn (q := (32, [(18, 400), (0, x1), (0, x2)], [(0, ian (m2 401 31) (ixo (isl 1 x1) (-1))), (0, 31), (11828, 401)], m2)) 6 rfl ?_
        refine Ev_iast (n := 1466) rfl (by decide) (by decide) ⟨by decide, by decide⟩ ?_
        generalize e3 : up m2 401 31 (ian (m2 401 31) (ixo (isl 1 x1) (-1))) = m3
        replace h := h m3 e3.symm
        refine Ev_rn (q := (34, [(18, 400), (0, x1), (0, x2)], [(0, 1)], m3)) 1 rfl ?_
        exact Ev_zret rfl rfl (by decide) h
      · replace h := h.2 hc
        refine Ev_rn (q := (16, [(18, 400), (0, x1), (0, x2)], [(0, 31), (11828, 401), (0, 31), (11828, 401)], m2)) 3 rfl ?_
        refine Ev_iald (n := 1466) rfl (by decide) (by decide) ⟨by decide, by decide⟩ ?_
        refine Ev_rn (q := (32, [(18, 400), (0, x1), (0, x2)], [(0, iro (m2 401 31) (isl 1 x1)), (0, 31), (11828, 401)], m2)) 5 rfl ?_
        refine Ev_iast (n := 1466) rfl (by decide) (by decide) ⟨by decide, by decide⟩ ?_
        generalize e4 : up m2 401 31 (iro (m2 401 31) (isl 1 x1)) = m4
        replace h := h m4 e4.symm
        refine Ev_rn (q := (34, [(18, 400), (0, x1), (0, x2)], [(0, 1)], m4)) 1 rfl ?_
        exact Ev_zret rfl rfl (by decide) h
    · replace h := h.2 hc
      refine Ev_rn (q := (7, [(18, 400), (0, x1), (0, x2)], [(0, 0)], m2)) 1 rfl ?_
      exact Ev_zret rfl rfl (by decide) h
theorem b_Mo_four {d : Nat} {r : Option Vv × Mm} {m : Mm} {x1 : Int} (h : Ev d K_Mo_four 3 2 [(18, 400), (0, x1), (0, 24)] [] m r) : Ev d K_Mo_four 3 0 [(18, 400), (0, x1), (9, 0)] [] m r := by
  refine Ev_rn (q := (2, [(18, 400), (0, x1), (0, 24)], [], m)) 2 rfl ?_
  exact h
theorem b_Mo_four_2 {d : Nat} {r : Option Vv × Mm} {m : Mm} {x1 x2 : Int} (h : (x2 < 0 → r = (none, m)) ∧ (¬ (x2 < 0) → (0 ≤ m 400 5 ∧ m 400 5 < 300) ∧ (∀ m1 : Mm, m1 = up m 405 (m 400 5) (ian (isr x1 x2) 255) → (∀ m2 : Mm, m2 = up m1 400 5 (w32 ((m1 400 5) + 1)) → (Ev d K_Mo_four 3 2 [(18, 400), (0, x1), (0, w32 (x2 + (-8)))] [] m2 r))))) : Ev d K_Mo_four 3 2 [(18, 400), (0, x1), (0, x2)] [] m r := by
  refine Ev_rn (q := (3, [(18, 400), (0, x1), (0, x2)], [(0, x2)], m)) 1 rfl ?_
  refine Ev_if rfl (fun hc => ?_) (fun hc => ?_)
  · replace h := h.1 hc
    exact Ev_ret rfl rfl h
  · replace h := h.2 hc
    refine Ev_rn (q := (13, [(18, 400), (0, x1), (0, x2)], [(0, ian (isr x1 x2) 255), (0, m 400 5), (2500, 405)], m)) 9 rfl ?_
    obtain ⟨hc, h⟩ := h
    refine Ev_iast (n := 300) rfl (by decide) (by decide) hc ?_
    generalize e1 : up m 405 (m 400 5) (ian (isr x1 x2) 255) = m1
    replace h := h m1 e1.symm
    refine Ev_rn (q := (20, [(18, 400), (0, x1), (0, x2)], [], up m1 400 5 (w32 ((m1 400 5) + 1)))) 6 rfl ?_
    generalize e2 : up m1 400 5 (w32 ((m1 400 5) + 1)) = m2
    replace h := h m2 e2.symm
    refine Ev_rn (q := (2, [(18, 400), (0, x1), (0, w32 (x2 + (-8)))], [], m2)) 2 rfl ?_
    exact h
theorem b_Mo_feed {d : Nat} {r : Option Vv × Mm} {m : Mm} {x1 x2 x3 x4 x5 : Int} (h : (w32 ((m 400 5) + 20) ≤ 300 → ∃ (m1 : Mm), Cl d k_Mo_four [(18, 400), (0, x1)] m (none, m1) ∧ (∃ (m2 : Mm), Cl d k_Mo_four [(18, 400), (0, x2)] m1 (none, m2) ∧ (∃ (m3 : Mm), Cl d k_Mo_four [(18, 400), (0, x3)] m2 (none, m3) ∧ (∃ (m4 : Mm), Cl d k_Mo_four [(18, 400), (0, x4)] m3 (none, m4) ∧ (∃ (m5 : Mm), Cl d k_Mo_four [(18, 400), (0, x5)] m4 (none, m5) ∧ (r = (some (0, m5 400 5), m5))))))) ∧ (¬ (w32 ((m 400 5) + 20) ≤ 300) → r = (some (0, (-1)), m))) : Ev (d + 1) K_Mo_feed 0 0 [(18, 400), (0, x1), (0, x2), (0, x3), (0, x4), (0, x5)] [] m r := by
  refine Ev_rn (q := (5, [(18, 400), (0, x1), (0, x2), (0, x3), (0, x4), (0, x5)], [(0, 300), (0, w32 ((m 400 5) + 20))], m)) 5 rfl ?_
  refine Ev_icmp rfl (fun hc => ?_) (fun hc => ?_)
  · replace h := h.1 hc
    refine Ev_rn (q := (10, [(18, 400), (0, x1), (0, x2), (0, x3), (0, x4), (0, x5)], [(0, x1), (18, 400)], m)) 2 rfl ?_
    obtain ⟨m1, hc, h⟩ := h
    refine Ev_call (rest := []) rfl rfl (Nat.le_of_ble_eq_true rfl) hc ?_
    refine Ev_rn (q := (13, [(18, 400), (0, x1), (0, x2), (0, x3), (0, x4), (0, x5)], [(0, x2), (18, 400)], m1)) 2 rfl ?_
    obtain ⟨m2, hc, h⟩ := h
    refine Ev_call (rest := []) rfl rfl (Nat.le_of_ble_eq_true rfl) hc ?_
    refine Ev_rn (q := (16, [(18, 400), (0, x1), (0, x2), (0, x3), (0, x4), (0, x5)], [(0, x3), (18, 400)], m2)) 2 rfl ?_
    obtain ⟨m3, hc, h⟩ := h
    refine Ev_call (rest := []) rfl rfl (Nat.le_of_ble_eq_true rfl) hc ?_
    refine Ev_rn (q := (19, [(18, 400), (0, x1), (0, x2), (0, x3), (0, x4), (0, x5)], [(0, x4), (18, 400)], m3)) 2 rfl ?_
    obtain ⟨m4, hc, h⟩ := h
    refine Ev_call (rest := []) rfl rfl (Nat.le_of_ble_eq_true rfl) hc ?_
    refine Ev_rn (q := (22, [(18, 400), (0, x1), (0, x2), (0, x3), (0, x4), (0, x5)], [(0, x5), (18, 400)], m4)) 2 rfl ?_
    obtain ⟨m5, hc, h⟩ := h
    refine Ev_call (rest := []) rfl rfl (Nat.le_of_ble_eq_true rfl) hc ?_
    refine Ev_rn (q := (25, [(18, 400), (0, x1), (0, x2), (0, x3), (0, x4), (0, x5)], [(0, m5 400 5)], m5)) 2 rfl ?_
    exact Ev_ret rfl rfl h
  · replace h := h.2 hc
    refine Ev_rn (q := (7, [(18, 400), (0, x1), (0, x2), (0, x3), (0, x4), (0, x5)], [(0, (-1))], m)) 1 rfl ?_
    exact Ev_ret rfl rfl h
theorem b_Mo_end {d : Nat} {r : Option Vv × Mm} {m : Mm} {x1 : Int} (h : ∃ (v1 : Int) (m1 : Mm), Cl d k_Mo_isIn [(0, x1), (0, 0), (0, m 400 5)] m (some (0, v1), m1) ∧ ((¬ v1 = 0 → ∀ m2 : Mm, m2 = up m1 400 5 x1 → (r = (some (0, x1), m2))) ∧ (¬ (¬ v1 = 0) → r = (some (0, (-1)), m1)))) : Ev (d + 1) K_Mo_end 0 0 [(18, 400), (0, x1)] [] m r := by
  refine Ev_rn (q := (4, [(18, 400), (0, x1)], [(0, m 400 5), (0, 0), (0, x1)], m)) 4 rfl ?_
  obtain ⟨v1, m1, hc, h⟩ := h
  refine Ev_call (rest := []) rfl rfl (Nat.le_of_ble_eq_true rfl) hc ?_
  refine Ev_if rfl (fun hc => ?_) (fun hc => ?_)
  · replace h := h.1 hc
    refine Ev_rn (q := (11, [(18, 400), (0, x1)], [], up m1 400 5 x1)) 3 rfl ?_
    generalize e2 : up m1 400 5 x1 = m2
    replace h := h m2 e2.symm
    refine Ev_rn (q := (12, [(18, 400), (0, x1)], [(0, x1)], m2)) 1 rfl ?_
    exact Ev_ret rfl rfl h
  · replace h := h.2 hc
    refine Ev_rn (q := (7, [(18, 400), (0, x1)], [(0, (-1))], m1)) 1 rfl ?_
    exact Ev_ret rfl rfl h
theorem b_Mo_byteAt {d : Nat} {r : Option Vv × Mm} {m : Mm} {x1 : Int} (h : (m 400 5 ≤ x1 → r = (some (0, (-1)), m)) ∧ (¬ (m 400 5 ≤ x1) → (0 ≤ x1 ∧ x1 < 300) ∧ (r = (some (0, m 405 x1), m)))) : Ev d K_Mo_byteAt 0 0 [(18, 400), (0, x1)] [] m r := by
  refine Ev_rn (q := (3, [(18, 400), (0, x1)], [(0, m 400 5), (0, x1)], m)) 3 rfl ?_
  refine Ev_icmp rfl (fun hc => ?_) (fun hc => ?_)
  · replace h := h.1 hc
    refine Ev_rn (q := (10, [(18, 400), (0, x1)], [(0, (-1))], m)) 1 rfl ?_
    exact Ev_ret rfl rfl h
  · replace h := h.2 hc
    refine Ev_rn (q := (7, [(18, 400), (0, x1)], [(0, x1), (2500, 405)], m)) 3 rfl ?_
    obtain ⟨hc, h⟩ := h
    refine Ev_iald (n := 300) rfl (by decide) (by decide) hc ?_
    refine Ev_rn (q := (10, [(18, 400), (0, x1)], [(0, m 405 x1)], m)) 1 rfl ?_
    exact Ev_ret rfl rfl h
theorem b_Mo_isLetterByte {d : Nat} {r : Option Vv × Mm} {m : Mm} {x0 : Int} (h : (x0 < 97 → (x0 < 65 → r = (some (0, 0), m)) ∧ (¬ (x0 < 65) → (90 < x0 → r = (some (0, 0), m)) ∧ (¬ (90 < x0) → r = (some (0, 1), m)))) ∧ (¬ (x0 < 97) → (x0 ≤ 122 → r = (some (0, 1), m)) ∧ (¬ (x0 ≤ 122) → (x0 < 65 → r = (some (0, 0), m)) ∧ (¬ (x0 < 65) → (90 < x0 → r = (some (0, 0), m)) ∧ (¬ (90 < x0) → r = (some (0, 1), m)))))) : Ev d K_Mo_isLetterByte 2 0 [(0, x0)] [] m r := by
  refine Ev_rn (q := (2, [(0, x0)], [(0, 97), (0, x0)], m)) 2 rfl ?_
  refine Ev_icmp rfl (fun hc => ?_) (fun hc => ?_)
  · replace h := h.1 hc
    refine Ev_rn (q := (8, [(0, x0)], [(0, 65), (0, x0)], m)) 2 rfl ?_
    refine Ev_icmp rfl (fun hc => ?_) (fun hc => ?_)
    · replace h := h.1 hc
      refine Ev_rn (q := (15, [(0, x0)], [(0, 0)], m)) 1 rfl ?_
      exact Ev_zret rfl rfl (by decide) h
    · replace h := h.2 hc
      refine Ev_rn (q := (11, [(0, x0)], [(0, 90), (0, x0)], m)) 2 rfl ?_
      refine Ev_icmp rfl (fun hc => ?_) (fun hc => ?_)
      · replace h := h.1 hc
        refine Ev_rn (q := (15, [(0, x0)], [(0, 0)], m)) 1 rfl ?_
        exact Ev_zret rfl rfl (by decide) h
      · replace h := h.2 hc
        refine Ev_rn (q := (15, [(0, x0)], [(0, 1)], m)) 2 rfl ?_
        exact Ev_zret rfl rfl (by decide) h
  · replace h := h.2 hc
    refine Ev_rn (q := (5, [(0, x0)], [(0, 122), (0, x0)], m)) 2 rfl ?_
    refine Ev_icmp rfl (fun hc => ?_) (fun hc => ?_)
    · replace h := h.1 hc
      refine Ev_rn (q := (15, [(0, x0)], [(0, 1)], m)) 2 rfl ?_
      exact Ev_zret rfl rfl (by decide) h
    · replace h := h.2 hc
      refine Ev_rn (q := (8, [(0, x0)], [(0, 65), (0, x0)], m)) 2 rfl ?_
      refine Ev_icmp rfl (fun hc => ?_) (fun hc => ?_)
      · replace h := h.1 hc
        refine Ev_rn (q := (15, [(0, x0)], [(0, 0)], m)) 1 rfl ?_
        exact Ev_zret rfl rfl (by decide) h
      · replace h := h.2 hc
        refine Ev_rn (q := (11, [(0, x0)], [(0, 90), (0, x0)], m)) 2 rfl ?_
        refine Ev_icmp rfl (fun hc => ?_) (fun hc => ?_)
        · replace h := h.1 hc
          refine Ev_rn (q := (15, [(0, x0)], [(0, 0)], m)) 1 rfl ?_
          exact Ev_zret rfl rfl (by decide) h
        · replace h := h.2 hc
          refine Ev_rn (q := (15, [(0, x0)], [(0, 1)], m)) 2 rfl ?_
          exact Ev_zret rfl rfl (by decide) h
theorem b_Mo_isFigure {d : Nat} {r : Option Vv × Mm} {m : Mm} {x0 : Int} (h : (x0 < 48 → r = (some (0, 0), m)) ∧ (¬ (x0 < 48) → (57 < x0 → r = (some (0, 0), m)) ∧ (¬ (57 < x0) → r = (some (0, 1), m)))) : Ev d K_Mo_isFigure 2 0 [(0, x0)] [] m r := by
  refine Ev_rn (q := (2, [(0, x0)], [(0, 48), (0, x0)], m)) 2 rfl ?_
  refine Ev_icmp rfl (fun hc => ?_) (fun hc => ?_)
  · replace h := h.1 hc
    refine Ev_rn (q := (9, [(0, x0)], [(0, 0)], m)) 1 rfl ?_
    exact Ev_zret rfl rfl (by decide) h
  · replace h := h.2 hc
    refine Ev_rn (q := (5, [(0, x0)], [(0, 57), (0, x0)], m)) 2 rfl ?_
    refine Ev_icmp rfl (fun hc => ?_) (fun hc => ?_)
    · replace h := h.1 hc
      refine Ev_rn (q := (9, [(0, x0)], [(0, 0)], m)) 1 rfl ?_
      exact Ev_zret rfl rfl (by decide) h
    · replace h := h.2 hc
      refine Ev_rn (q := (9, [(0, x0)], [(0, 1)], m)) 2 rfl ?_
      exact Ev_zret rfl rfl (by decide) h
theorem b_Mo_isSign {d : Nat} {r : Option Vv × Mm} {m : Mm} {x0 : Int} (h : (x0 = 35 → r = (some (0, 1), m)) ∧ (¬ x0 = 35 → (x0 = 36 → r = (some (0, 0), m)) ∧ (¬ x0 = 36 → (x0 = 37 → r = (some (0, 0), m)) ∧ (¬ x0 = 37 → (x0 = 38 → r = (some (0, 0), m)) ∧ (¬ x0 = 38 → (x0 = 39 → r = (some (0, 0), m)) ∧ (¬ x0 = 39 → (x0 = 40 → r = (some (0, 1), m)) ∧ (¬ x0 = 40 → (x0 = 41 → r = (some (0, 1), m)) ∧ (¬ x0 = 41 → (x0 = 42 → r = (some (0, 1), m)) ∧ (¬ x0 = 42 → (x0 = 43 → r = (some (0, 1), m)) ∧ (¬ x0 = 43 → (x0 = 44 → r = (some (0, 0), m)) ∧ (¬ x0 = 44 → (x0 = 45 → r = (some (0, 1), m)) ∧ (¬ x0 = 45 → (x0 = 46 → r = (some (0, 0), m)) ∧ (¬ x0 = 46 → (x0 = 47 → r = (some (0, 1), m)) ∧ (¬ x0 = 47 → (x0 = 48 → r = (some (0, 0), m)) ∧ (¬ x0 = 48 → (x0 = 49 → r = (some (0, 0), m)) ∧ (¬ x0 = 49 → (x0 = 50 → r = (some (0, 0), m)) ∧ (¬ x0 = 50 → (x0 = 51 → r = (some (0, 0), m)) ∧ (¬ x0 = 51 → (x0 = 52 → r = (some (0, 0), m)) ∧ (¬ x0 = 52 → (x0 = 53 → r = (some (0, 0), m)) ∧ (¬ x0 = 53 → (x0 = 54 → r = (some (0, 0), m)) ∧ (¬ x0 = 54 → (x0 = 55 → r = (some (0, 0), m)) ∧ (¬ x0 = 55 → (x0 = 56 → r = (some (0, 0), m)) ∧ (¬ x0 = 56 → (x0 = 57 → r = (some (0, 0), m)) ∧ (¬ x0 = 57 → (x0 = 58 → r = (some (0, 1), m)) ∧ (¬ x0 = 58 → (x0 = 59 → r = (some (0, 1), m)) ∧ (¬ x0 = 59 → (x0 = 60 → r = (some (0, 1), m)) ∧ (¬ x0 = 60 → (x0 = 61 → r = (some (0, 1), m)) ∧ (¬ x0 = 61 → (x0 = 62 → r = (some (0, 1), m)) ∧ (¬ x0 = 62 → r = (some (0, 0), m)))))))))))))))))))))))))))))) : Ev d K_Mo_isSign 2 0 [(0, x0)] [] m r := by
  refine Ev_rn (q := (1, [(0, x0)], [(0, x0)], m)) 1 rfl ?_
  refine Ev_tsw rfl ?_
  refine ⟨fun hc => ?_, fun hc => ?_⟩
  · replace h := h.1 hc
    refine Ev_rn (q := (3, [(0, x0)], [(0, 1)], m)) 1 rfl ?_
    exact Ev_zret rfl rfl (by decide) h
  · replace h := h.2 hc
    refine ⟨fun hc => ?_, fun hc => ?_⟩
    · replace h := h.1 hc
      refine Ev_rn (q := (5, [(0, x0)], [(0, 0)], m)) 1 rfl ?_
      exact Ev_zret rfl rfl (by decide) h
    · replace h := h.2 hc
      refine ⟨fun hc => ?_, fun hc => ?_⟩
      · replace h := h.1 hc
        refine Ev_rn (q := (5, [(0, x0)], [(0, 0)], m)) 1 rfl ?_
        exact Ev_zret rfl rfl (by decide) h
      · replace h := h.2 hc
        refine ⟨fun hc => ?_, fun hc => ?_⟩
        · replace h := h.1 hc
          refine Ev_rn (q := (5, [(0, x0)], [(0, 0)], m)) 1 rfl ?_
          exact Ev_zret rfl rfl (by decide) h
        · replace h := h.2 hc
          refine ⟨fun hc => ?_, fun hc => ?_⟩
          · replace h := h.1 hc
            refine Ev_rn (q := (5, [(0, x0)], [(0, 0)], m)) 1 rfl ?_
            exact Ev_zret rfl rfl (by decide) h
          · replace h := h.2 hc
            refine ⟨fun hc => ?_, fun hc => ?_⟩
            · replace h := h.1 hc
              refine Ev_rn (q := (3, [(0, x0)], [(0, 1)], m)) 1 rfl ?_
              exact Ev_zret rfl rfl (by decide) h
            · replace h := h.2 hc
              refine ⟨fun hc => ?_, fun hc => ?_⟩
              · replace h := h.1 hc
                refine Ev_rn (q := (3, [(0, x0)], [(0, 1)], m)) 1 rfl ?_
                exact Ev_zret rfl rfl (by decide) h
              · replace h := h.2 hc
                refine ⟨fun hc => ?_, fun hc => ?_⟩
                · replace h := h.1 hc
                  refine Ev_rn (q := (3, [(0, x0)], [(0, 1)], m)) 1 rfl ?_
                  exact Ev_zret rfl rfl (by decide) h
                · replace h := h.2 hc
                  refine ⟨fun hc => ?_, fun hc => ?_⟩
                  · replace h := h.1 hc
                    refine Ev_rn (q := (3, [(0, x0)], [(0, 1)], m)) 1 rfl ?_
                    exact Ev_zret rfl rfl (by decide) h
                  · replace h := h.2 hc
                    refine ⟨fun hc => ?_, fun hc => ?_⟩
                    · replace h := h.1 hc
                      refine Ev_rn (q := (5, [(0, x0)], [(0, 0)], m)) 1 rfl ?_
                      exact Ev_zret rfl rfl (by decide) h
                    · replace h := h.2 hc
                      refine ⟨fun hc => ?_, fun hc => ?_⟩
                      · replace h := h.1 hc
                        refine Ev_rn (q := (3, [(0, x0)], [(0, 1)], m)) 1 rfl ?_
                        exact Ev_zret rfl rfl (by decide) h
                      · replace h := h.2 hc
                        refine ⟨fun hc => ?_, fun hc => ?_⟩
                        · replace h := h.1 hc
                          refine Ev_rn (q := (5, [(0, x0)], [(0, 0)], m)) 1 rfl ?_
                          exact Ev_zret rfl rfl (by decide) h
                        · replace h := h.2 hc
                          refine ⟨fun hc => ?_, fun hc => ?_⟩
                          · replace h := h.1 hc
                            refine Ev_rn (q := (3, [(0, x0)], [(0, 1)], m)) 1 rfl ?_
                            exact Ev_zret rfl rfl (by decide) h
                          · replace h := h.2 hc
                            refine ⟨fun hc => ?_, fun hc => ?_⟩
                            · replace h := h.1 hc
                              refine Ev_rn (q := (5, [(0, x0)], [(0, 0)], m)) 1 rfl ?_
                              exact Ev_zret rfl rfl (by decide) h
                            · replace h := h.2 hc
                              refine ⟨fun hc => ?_, fun hc => ?_⟩
                              · replace h := h.1 hc
                                refine Ev_rn (q := (5, [(0, x0)], [(0, 0)], m)) 1 rfl ?_
                                exact Ev_zret rfl rfl (by decide) h
                              · replace h := h.2 hc
                                refine ⟨fun hc => ?_, fun hc => ?_⟩
                                · replace h := h.1 hc
                                  refine Ev_rn (q := (5, [(0, x0)], [(0, 0)], m)) 1 rfl ?_
                                  exact Ev_zret rfl rfl (by decide) h
                                · replace h := h.2 hc
                                  refine ⟨fun hc => ?_, fun hc => ?_⟩
                                  · replace h := h.1 hc
                                    refine Ev_rn (q := (5, [(0, x0)], [(0, 0)], m)) 1 rfl ?_
                                    exact Ev_zret rfl rfl (by decide) h
                                  · replace h := h.2 hc
                                    refine ⟨fun hc => ?_, fun hc => ?_⟩
                                    · replace h := h.1 hc
                                      refine Ev_rn (q := (5, [(0, x0)], [(0, 0)], m)) 1 rfl ?_
                                      exact Ev_zret rfl rfl (by decide) h
                                    · replace h := h.2 hc
                                      refine ⟨fun hc => ?_, fun hc => ?_⟩
                                      · replace h := h.1 hc
                                        refine Ev_rn (q := (5, [(0, x0)], [(0, 0)], m)) 1 rfl ?_
                                        exact Ev_zret rfl rfl (by decide) h
                                      · replace h := h.2 hc
                                        refine ⟨fun hc => ?_, fun hc => ?_⟩
                                        · replace h := h.1 hc
                                          refine Ev_rn (q := (5, [(0, x0)], [(0, 0)], m)) 1 rfl ?_
                                          exact Ev_zret rfl rfl (by decide) h
                                        · replace h := h.2 hc
                                          refine ⟨fun hc => ?_, fun hc => ?_⟩
                                          · replace h := h.1 hc
                                            refine Ev_rn (q := (5, [(0, x0)], [(0, 0)], m)) 1 rfl ?_
                                            exact Ev_zret rfl rfl (by decide) h
                                          · replace h := h.2 hc
                                            refine ⟨fun hc => ?_, fun hc => ?_⟩
                                            · replace h := h.1 hc
                                              refine Ev_rn (q := (5, [(0, x0)], [(0, 0)], m)) 1 rfl ?_
                                              exact Ev_zret rfl rfl (by decide) h
                                            · replace h := h.2 hc
                                              refine ⟨fun hc => ?_, fun hc => ?_⟩
                                              · replace h := h.1 hc
                                                refine Ev_rn (q := (5, [(0, x0)], [(0, 0)], m)) 1 rfl ?_
                                                exact Ev_zret rfl rfl (by decide) h
                                              · replace h := h.2 hc
                                                refine ⟨fun hc => ?_, fun hc => ?_⟩
                                                · replace h := h.1 hc
                                                  refine Ev_rn (q := (3, [(0, x0)], [(0, 1)], m)) 1 rfl ?_
                                                  exact Ev_zret rfl rfl (by decide) h
                                                · replace h := h.2 hc
                                                  refine ⟨fun hc => ?_, fun hc => ?_⟩
                                                  · replace h := h.1 hc
                                                    refine Ev_rn (q := (3, [(0, x0)], [(0, 1)], m)) 1 rfl ?_
                                                    exact Ev_zret rfl rfl (by decide) h
                                                  · replace h := h.2 hc
                                                    refine ⟨fun hc => ?_, fun hc => ?_⟩
                                                    · replace h := h.1 hc
                                                      refine Ev_rn (q := (3, [(0, x0)], [(0, 1)], m)) 1 rfl ?_
                                                      exact Ev_zret rfl rfl (by decide) h
                                                    · replace h := h.2 hc
                                                      refine ⟨fun hc => ?_, fun hc => ?_⟩
                                                      · replace h := h.1 hc
                                                        refine Ev_rn (q := (3, [(0, x0)], [(0, 1)], m)) 1 rfl ?_
                                                        exact Ev_zret rfl rfl (by decide) h
                                                      · replace h := h.2 hc
                                                        refine ⟨fun hc => ?_, fun hc => ?_⟩
                                                        · replace h := h.1 hc
                                                          refine Ev_rn (q := (3, [(0, x0)], [(0, 1)], m)) 1 rfl ?_
                                                          exact Ev_zret rfl rfl (by decide) h
                                                        · replace h := h.2 hc
                                                          refine Ev_rn (q := (5, [(0, x0)], [(0, 0)], m)) 1 rfl ?_
                                                          exact Ev_zret rfl rfl (by decide) h
theorem b_Mo_nextToken {d : Nat} {r : Option Vv × Mm} {m : Mm} (h : ∃ (v1 : Int) (m1 : Mm), Cl d k_Mo_byteAt [(18, 400), (0, m 400 8)] m (some (0, v1), m1) ∧ ((v1 = 32 → ∀ m2 : Mm, m2 = up m1 400 8 (w32 ((m1 400 8) + 1)) → (Ev (d + 1) K_Mo_nextToken 3 0 [(18, 400), (9, 0)] [] m2 r)) ∧ (¬ (v1 = 32) → ∃ (v3 : Int) (m3 : Mm), Cl d k_Mo_byteAt [(18, 400), (0, m1 400 8)] m1 (some (0, v3), m3) ∧ ((¬ v3 = 10 → ∀ m4 : Mm, m4 = up m3 400 9 (m3 400 8) → (∃ (v5 : Int) (m5 : Mm), Cl d k_Mo_byteAt [(18, 400), (0, m4 400 8)] m4 (some (0, v5), m5) ∧ ((0 ≤ v5 → ∃ (v6 : Int) (m6 : Mm), Cl d k_Mo_isFigure [(0, v5)] m5 (some (0, v6), m6) ∧ ((v6 = 0 → ∃ (v7 : Int) (m7 : Mm), Cl d k_Mo_isLetterByte [(0, v5)] m6 (some (0, v7), m7) ∧ ((v7 = 0 → ∃ (v8 : Int) (m8 : Mm), Cl d k_Mo_isSign [(0, v5)] m7 (some (0, v8), m8) ∧ ((v8 = 0 → ∀ m9 : Mm, m9 = up m8 400 10 3 → (∀ m10 : Mm, m10 = up m9 400 8 (w32 ((m9 400 8) + 1)) → ((v5 = 60 → Ev (d + 1) K_Mo_nextToken 3 139 [(18, 400), (0, v5)] [] m10 r) ∧ (¬ (v5 = 60) → (¬ v5 = 62 → r = (none, m10)) ∧ (¬ (¬ v5 = 62) → Ev (d + 1) K_Mo_nextToken 3 139 [(18, 400), (0, v5)] [] m10 r))))) ∧ (¬ (v8 = 0) → ∀ m11 : Mm, m11 = up m8 400 10 v5 → (∀ m12 : Mm, m12 = up m11 400 8 (w32 ((m11 400 8) + 1)) → ((v5 = 60 → Ev (d + 1) K_Mo_nextToken 3 139 [(18, 400), (0, v5)] [] m12 r) ∧ (¬ (v5 = 60) → (¬ v5 = 62 → r = (none, m12)) ∧ (¬ (¬ v5 = 62) → Ev (d + 1) K_Mo_nextToken 3 139 [(18, 400), (0, v5)] [] m12 r))))))) ∧ (¬ (v7 = 0) → ∀ m13 : Mm, m13 = up m7 400 10 2 → (∀ m14 : Mm, m14 = up m13 400 12 0 → (Ev (d + 1) K_Mo_nextToken 3 85 [(18, 400), (0, v5)] [] m14 r))))) ∧ (¬ (v6 = 0) → ∀ m15 : Mm, m15 = up m6 400 10 1 → (∀ m16 : Mm, m16 = up m15 400 11 0 → (Ev (d + 1) K_Mo_nextToken 3 43 [(18, 400), (0, v5)] [] m16 r))))) ∧ (¬ (0 ≤ v5) → ∀ m17 : Mm, m17 = up m5 400 10 0 → (r = (none, m17)))))) ∧ (¬ (¬ v3 = 10) → ∀ m18 : Mm, m18 = up m3 400 8 (w32 ((m3 400 8) + 1)) → (Ev (d + 1) K_Mo_nextToken 3 0 [(18, 400), (9, 0)] [] m18 r)))))) : Ev (d + 1) K_Mo_nextToken 3 0 [(18, 400), (9, 0)] [] m r := by
  refine Ev_rn (q := (3, [(18, 400), (9, 0)], [(0, m 400 8), (18, 400)], m)) 3 rfl ?_
  obtain ⟨v1, m1, hc, h⟩ := h
  refine Ev_call (rest := []) rfl rfl (Nat.le_of_ble_eq_true rfl) hc ?_
  refine Ev_rn (q := (5, [(18, 400), (9, 0)], [(0, 32), (0, v1)], m1)) 1 rfl ?_
  refine Ev_icmp rfl (fun hc => ?_) (fun hc => ?_)
  · replace h := h.1 hc
    refine Ev_rn (q := (18, [(18, 400), (9, 0)], [], up m1 400 8 (w32 ((m1 400 8) + 1)))) 6 rfl ?_
    generalize e2 : up m1 400 8 (w32 ((m1 400 8) + 1)) = m2
    replace h := h m2 e2.symm
    refine Ev_rn (q := (0, [(18, 400), (9, 0)], [], m2)) 1 rfl ?_
    exact h
  · replace h := h.2 hc
    refine Ev_rn (q := (9, [(18, 400), (9, 0)], [(0, m1 400 8), (18, 400)], m1)) 3 rfl ?_
    obtain ⟨v3, m3, hc, h⟩ := h
    refine Ev_call (rest := []) rfl rfl (Nat.le_of_ble_eq_true rfl) hc ?_
    refine Ev_rn (q := (11, [(18, 400), (9, 0)], [(0, 10), (0, v3)], m3)) 1 rfl ?_
    refine Ev_icmp rfl (fun hc => ?_) (fun hc => ?_)
    · replace h := h.1 hc
      refine Ev_rn (q := (23, [(18, 400), (9, 0)], [], up m3 400 9 (m3 400 8))) 4 rfl ?_
      generalize e4 : up m3 400 9 (m3 400 8) = m4
      replace h := h m4 e4.symm
      refine Ev_rn (q := (26, [(18, 400), (9, 0)], [(0, m4 400 8), (18, 400)], m4)) 3 rfl ?_
      obtain ⟨v5, m5, hc, h⟩ := h
      refine Ev_call (rest := []) rfl rfl (Nat.le_of_ble_eq_true rfl) hc ?_
      refine Ev_rn (q := (29, [(18, 400), (0, v5)], [(0, v5)], m5)) 2 rfl ?_
      refine Ev_if rfl (fun hc => ?_) (fun hc => ?_)
      · replace h := h.1 hc
        refine Ev_rn (q := (35, [(18, 400), (0, v5)], [(0, v5)], m5)) 1 rfl ?_
        obtain ⟨v6, m6, hc, h⟩ := h
        refine Ev_call (rest := []) rfl rfl (Nat.le_of_ble_eq_true rfl) hc ?_
        refine Ev_if rfl (fun hc => ?_) (fun hc => ?_)
        · replace h := h.1 hc
          refine Ev_rn (q := (77, [(18, 400), (0, v5)], [(0, v5)], m6)) 1 rfl ?_
          obtain ⟨v7, m7, hc, h⟩ := h
          refine Ev_call (rest := []) rfl rfl (Nat.le_of_ble_eq_true rfl) hc ?_
          refine Ev_if rfl (fun hc => ?_) (fun hc => ?_)
          · replace h := h.1 hc
            refine Ev_rn (q := (121, [(18, 400), (0, v5)], [(0, v5), (18, 400)], m7)) 2 rfl ?_
            obtain ⟨v8, m8, hc, h⟩ := h
            refine Ev_call (rest := [(18, 400)]) rfl rfl (Nat.le_of_ble_eq_true rfl) hc ?_
            refine Ev_if rfl (fun hc => ?_) (fun hc => ?_)
            · replace h := h.1 hc
              refine Ev_rn (q := (127, [(18, 400), (0, v5)], [], up m8 400 10 3)) 2 rfl ?_
              generalize e9 : up m8 400 10 3 = m9
              replace h := h m9 e9.symm
              refine Ev_rn (q := (133, [(18, 400), (0, v5)], [], up m9 400 8 (w32 ((m9 400 8) + 1)))) 6 rfl ?_
              generalize e10 : up m9 400 8 (w32 ((m9 400 8) + 1)) = m10
              replace h := h m10 e10.symm
              refine Ev_rn (q := (135, [(18, 400), (0, v5)], [(0, 60), (0, v5)], m10)) 2 rfl ?_
              refine Ev_icmp rfl (fun hc => ?_) (fun hc => ?_)
              · replace h := h.1 hc
                exact h
              · replace h := h.2 hc
                refine Ev_rn (q := (138, [(18, 400), (0, v5)], [(0, 62), (0, v5)], m10)) 2 rfl ?_
                refine Ev_icmp rfl (fun hc => ?_) (fun hc => ?_)
                · replace h := h.1 hc
                  exact Ev_ret rfl rfl h
                · replace h := h.2 hc
                  exact h
            · replace h := h.2 hc
              refine Ev_rn (q := (127, [(18, 400), (0, v5)], [], up m8 400 10 v5)) 3 rfl ?_
              generalize e11 : up m8 400 10 v5 = m11
              replace h := h m11 e11.symm
              refine Ev_rn (q := (133, [(18, 400), (0, v5)], [], up m11 400 8 (w32 ((m11 400 8) + 1)))) 6 rfl ?_
              generalize e12 : up m11 400 8 (w32 ((m11 400 8) + 1)) = m12
              replace h := h m12 e12.symm
              refine Ev_rn (q := (135, [(18, 400), (0, v5)], [(0, 60), (0, v5)], m12)) 2 rfl ?_
              refine Ev_icmp rfl (fun hc => ?_) (fun hc => ?_)
              · replace h := h.1 hc
                exact h
              · replace h := h.2 hc
                refine Ev_rn (q := (138, [(18, 400), (0, v5)], [(0, 62), (0, v5)], m12)) 2 rfl ?_
                refine Ev_icmp rfl (fun hc => ?_) (fun hc => ?_)
                · replace h := h.1 hc
                  exact Ev_ret rfl rfl h
                · replace h := h.2 hc
                  exact h
          · replace h := h.2 hc
            refine Ev_rn (q := (82, [(18, 400), (0, v5)], [], up m7 400 10 2)) 3 rfl ?_
            generalize e13 : up m7 400 10 2 = m13
            replace h := h m13 e13.symm
            refine Ev_rn (q := (85, [(18, 400), (0, v5)], [], up m13 400 12 0)) 3 rfl ?_
            generalize e14 : up m13 400 12 0 = m14
            replace h := h m14 e14.symm
            exact h
        · replace h := h.2 hc
          refine Ev_rn (q := (40, [(18, 400), (0, v5)], [], up m6 400 10 1)) 3 rfl ?_
          generalize e15 : up m6 400 10 1 = m15
          replace h := h m15 e15.symm
          refine Ev_rn (q := (43, [(18, 400), (0, v5)], [], up m15 400 11 0)) 3 rfl ?_
          generalize e16 : up m15 400 11 0 = m16
          replace h := h m16 e16.symm
          exact h
      · replace h := h.2 hc
        refine Ev_rn (q := (33, [(18, 400), (0, v5)], [], up m5 400 10 0)) 3 rfl ?_
        generalize e17 : up m5 400 10 0 = m17
        replace h := h m17 e17.symm
        refine Ev_rn (q := (159, [(18, 400), (0, v5)], [], m17)) 1 rfl ?_
        exact Ev_ret rfl rfl h
    · replace h := h.2 hc
      refine Ev_rn (q := (18, [(18, 400), (9, 0)], [], up m3 400 8 (w32 ((m3 400 8) + 1)))) 6 rfl ?_
      generalize e18 : up m3 400 8 (w32 ((m3 400 8) + 1)) = m18
      replace h := h m18 e18.symm
      refine Ev_rn (q := (0, [(18, 400), (9, 0)], [], m18)) 1 rfl ?_
      exact h
theorem b_Mo_nextToken_43 {d : Nat} {r : Option Vv × Mm} {m : Mm} {x1 : Int} (h : ∃ (v1 : Int) (m1 : Mm), Cl d k_Mo_byteAt [(18, 400), (0, m 400 8)] m (some (0, v1), m1) ∧ (∃ (v2 : Int) (m2 : Mm), Cl d k_Mo_isFigure [(0, v1)] m1 (some (0, v2), m2) ∧ ((v2 = 0 → r = (none, m2)) ∧ (¬ (v2 = 0) → (m2 400 11 ≤ 99999 → ∃ (v3 : Int) (m3 : Mm), Cl d k_Mo_byteAt [(18, 400), (0, m2 400 8)] m2 (some (0, v3), m3) ∧ (∀ m4 : Mm, m4 = up m3 400 11 (w32 ((w32 ((w32 (10 * (m2 400 11))) + v3)) - 48)) → (∀ m5 : Mm, m5 = up m4 400 8 (w32 ((m4 400 8) + 1)) → (Ev (d + 1) K_Mo_nextToken 3 43 [(18, 400), (0, x1)] [] m5 r)))) ∧ (¬ (m2 400 11 ≤ 99999) → ∀ m6 : Mm, m6 = up m2 400 11 (m2 400 11) → (∀ m7 : Mm, m7 = up m6 400 8 (w32 ((m6 400 8) + 1)) → (Ev (d + 1) K_Mo_nextToken 3 43 [(18, 400), (0, x1)] [] m7 r))))))) : Ev (d + 1) K_Mo_nextToken 3 43 [(18, 400), (0, x1)] [] m r := by
  refine Ev_rn (q := (46, [(18, 400), (0, x1)], [(0, m 400 8), (18, 400)], m)) 3 rfl ?_
  obtain ⟨v1, m1, hc, h⟩ := h
  refine Ev_call (rest := []) rfl rfl (Nat.le_of_ble_eq_true rfl) hc ?_
  obtain ⟨v2, m2, hc, h⟩ := h
  refine Ev_call (rest := []) rfl rfl (Nat.le_of_ble_eq_true rfl) hc ?_
  refine Ev_if rfl (fun hc => ?_) (fun hc => ?_)
  · replace h := h.1 hc
    exact Ev_ret rfl rfl h
  · replace h := h.2 hc
    refine Ev_rn (q := (53, [(18, 400), (0, x1)], [(0, 99999), (0, m2 400 11), (18, 400)], m2)) 4 rfl ?_
    refine Ev_icmp rfl (fun hc => ?_) (fun hc => ?_)
    · replace h := h.1 hc
      refine Ev_rn (q := (64, [(18, 400), (0, x1)], [(0, m2 400 8), (18, 400), (0, w32 (10 * (m2 400 11))), (18, 400)], m2)) 7 rfl ?_
      obtain ⟨v3, m3, hc, h⟩ := h
      refine Ev_call (rest := [(0, w32 (10 * (m2 400 11))), (18, 400)]) rfl rfl (Nat.le_of_ble_eq_true rfl) hc ?_
      refine Ev_rn (q := (69, [(18, 400), (0, x1)], [], up m3 400 11 (w32 ((w32 ((w32 (10 * (m2 400 11))) + v3)) - 48)))) 4 rfl ?_
      generalize e4 : up m3 400 11 (w32 ((w32 ((w32 (10 * (m2 400 11))) + v3)) - 48)) = m4
      replace h := h m4 e4.symm
      refine Ev_rn (q := (75, [(18, 400), (0, x1)], [], up m4 400 8 (w32 ((m4 400 8) + 1)))) 6 rfl ?_
      generalize e5 : up m4 400 8 (w32 ((m4 400 8) + 1)) = m5
      replace h := h m5 e5.symm
      refine Ev_rn (q := (43, [(18, 400), (0, x1)], [], m5)) 1 rfl ?_
      exact h
    · replace h := h.2 hc
      refine Ev_rn (q := (69, [(18, 400), (0, x1)], [], up m2 400 11 (m2 400 11))) 4 rfl ?_
      generalize e6 : up m2 400 11 (m2 400 11) = m6
      replace h := h m6 e6.symm
      refine Ev_rn (q := (75, [(18, 400), (0, x1)], [], up m6 400 8 (w32 ((m6 400 8) + 1)))) 6 rfl ?_
      generalize e7 : up m6 400 8 (w32 ((m6 400 8) + 1)) = m7
      replace h := h m7 e7.symm
      refine Ev_rn (q := (43, [(18, 400), (0, x1)], [], m7)) 1 rfl ?_
      exact h
theorem b_Mo_nextToken_85 {d : Nat} {r : Option Vv × Mm} {m : Mm} {x1 : Int} (h : ∃ (v1 : Int) (m1 : Mm), Cl d k_Mo_byteAt [(18, 400), (0, m 400 8)] m (some (0, v1), m1) ∧ (∃ (v2 : Int) (m2 : Mm), Cl d k_Mo_isLetterByte [(0, v1)] m1 (some (0, v2), m2) ∧ ((v2 = 0 → r = (none, m2)) ∧ (¬ (v2 = 0) → (lcm (lsr (m2 400 12) 48) 0 = 0 → ∃ (v3 : Int) (m3 : Mm), Cl d k_Mo_byteAt [(18, 400), (0, m2 400 8)] m2 (some (0, v3), m3) ∧ (∀ m4 : Mm, m4 = up m3 400 12 (lro (lsl (m2 400 12) 8) v3) → (∀ m5 : Mm, m5 = up m4 400 8 (w32 ((m4 400 8) + 1)) → (Ev (d + 1) K_Mo_nextToken 3 85 [(18, 400), (0, x1)] [] m5 r)))) ∧ (¬ (lcm (lsr (m2 400 12) 48) 0 = 0) → ∀ m6 : Mm, m6 = up m2 400 12 1152921504606846976 → (∀ m7 : Mm, m7 = up m6 400 8 (w32 ((m6 400 8) + 1)) → (Ev (d + 1) K_Mo_nextToken 3 85 [(18, 400), (0, x1)] [] m7 r))))))) : Ev (d + 1) K_Mo_nextToken 3 85 [(18, 400), (0, x1)] [] m r := by
  refine Ev_rn (q := (88, [(18, 400), (0, x1)], [(0, m 400 8), (18, 400)], m)) 3 rfl ?_
  obtain ⟨v1, m1, hc, h⟩ := h
  refine Ev_call (rest := []) rfl rfl (Nat.le_of_ble_eq_true rfl) hc ?_
  obtain ⟨v2, m2, hc, h⟩ := h
  refine Ev_call (rest := []) rfl rfl (Nat.le_of_ble_eq_true rfl) hc ?_
  refine Ev_if rfl (fun hc => ?_) (fun hc => ?_)
  · replace h := h.1 hc
    exact Ev_ret rfl rfl h
  · replace h := h.2 hc
    refine Ev_rn (q := (98, [(18, 400), (0, x1)], [(0, lcm (lsr (m2 400 12) 48) 0), (18, 400)], m2)) 7 rfl ?_
    refine Ev_if rfl (fun hc => ?_) (fun hc => ?_)
    · replace h := h.1 hc
      refine Ev_rn (q := (108, [(18, 400), (0, x1)], [(0, m2 400 8), (18, 400), (1, lsl (m2 400 12) 8), (18, 400)], m2)) 7 rfl ?_
      obtain ⟨v3, m3, hc, h⟩ := h
      refine Ev_call (rest := [(1, lsl (m2 400 12) 8), (18, 400)]) rfl rfl (Nat.le_of_ble_eq_true rfl) hc ?_
      refine Ev_rn (q := (112, [(18, 400), (0, x1)], [], up m3 400 12 (lro (lsl (m2 400 12) 8) v3))) 3 rfl ?_
      generalize e4 : up m3 400 12 (lro (lsl (m2 400 12) 8) v3) = m4
      replace h := h m4 e4.symm
      refine Ev_rn (q := (118, [(18, 400), (0, x1)], [], up m4 400 8 (w32 ((m4 400 8) + 1)))) 6 rfl ?_
      generalize e5 : up m4 400 8 (w32 ((m4 400 8) + 1)) = m5
      replace h := h m5 e5.symm
      refine Ev_rn (q := (85, [(18, 400), (0, x1)], [], m5)) 1 rfl ?_
      exact h
    · replace h := h.2 hc
      refine Ev_rn (q := (112, [(18, 400), (0, x1)], [], up m2 400 12 1152921504606846976)) 3 rfl ?_
      generalize e6 : up m2 400 12 1152921504606846976 = m6
      replace h := h m6 e6.symm
      refine Ev_rn (q := (118, [(18, 400), (0, x1)], [], up m6 400 8 (w32 ((m6 400 8) + 1)))) 6 rfl ?_
      generalize e7 : up m6 400 8 (w32 ((m6 400 8) + 1)) = m7
      replace h := h m7 e7.symm
      refine Ev_rn (q := (85, [(18, 400), (0, x1)], [], m7)) 1 rfl ?_
      exact h
theorem b_Mo_nextToken_139 {d : Nat} {r : Option Vv × Mm} {m : Mm} {x1 : Int} (h : ∃ (v1 : Int) (m1 : Mm), Cl d k_Mo_byteAt [(18, 400), (0, m 400 8)] m (some (0, v1), m1) ∧ ((¬ v1 = 61 → r = (none, m1)) ∧ (¬ (¬ v1 = 61) → (¬ x1 = 60 → ∀ m2 : Mm, m2 = up m1 400 10 5 → (∀ m3 : Mm, m3 = up m2 400 8 (w32 ((m2 400 8) + 1)) → (r = (none, m3)))) ∧ (¬ (¬ x1 = 60) → ∀ m4 : Mm, m4 = up m1 400 10 4 → (∀ m5 : Mm, m5 = up m4 400 8 (w32 ((m4 400 8) + 1)) → (r = (none, m5))))))) : Ev (d + 1) K_Mo_nextToken 3 139 [(18, 400), (0, x1)] [] m r := by
  refine Ev_rn (q := (142, [(18, 400), (0, x1)], [(0, m 400 8), (18, 400)], m)) 3 rfl ?_
  obtain ⟨v1, m1, hc, h⟩ := h
  refine Ev_call (rest := []) rfl rfl (Nat.le_of_ble_eq_true rfl) hc ?_
  refine Ev_rn (q := (144, [(18, 400), (0, x1)], [(0, 61), (0, v1)], m1)) 1 rfl ?_
  refine Ev_icmp rfl (fun hc => ?_) (fun hc => ?_)
  · replace h := h.1 hc
    exact Ev_ret rfl rfl h
  · replace h := h.2 hc
    refine Ev_rn (q := (148, [(18, 400), (0, x1)], [(0, 60), (0, x1), (18, 400)], m1)) 3 rfl ?_
    refine Ev_icmp rfl (fun hc => ?_) (fun hc => ?_)
    · replace h := h.1 hc
      refine Ev_rn (q := (153, [(18, 400), (0, x1)], [], up m1 400 10 5)) 2 rfl ?_
      generalize e2 : up m1 400 10 5 = m2
      replace h := h m2 e2.symm
      refine Ev_rn (q := (159, [(18, 400), (0, x1)], [], up m2 400 8 (w32 ((m2 400 8) + 1)))) 6 rfl ?_
      generalize e3 : up m2 400 8 (w32 ((m2 400 8) + 1)) = m3
      replace h := h m3 e3.symm
      exact Ev_ret rfl rfl h
    · replace h := h.2 hc
      refine Ev_rn (q := (153, [(18, 400), (0, x1)], [], up m1 400 10 4)) 3 rfl ?_
      generalize e4 : up m1 400 10 4 = m4
      replace h := h m4 e4.symm
      refine Ev_rn (q := (159, [(18, 400), (0, x1)], [], up m4 400 8 (w32 ((m4 400 8) + 1)))) 6 rfl ?_
      generalize e5 : up m4 400 8 (w32 ((m4 400 8) + 1)) = m5
      replace h := h m5 e5.symm
      exact Ev_ret rfl rfl h
theorem b_Mo_w2 {d : Nat} {r : Option Vv × Mm} {m : Mm} {x0 x1 : Int} (h : r = (some (1, lro (lsl x0 8) x1), m)) : Ev d K_Mo_w2 1 0 [(0, x0), (0, x1)] [] m r := by
  refine Ev_rn (q := (7, [(0, x0), (0, x1)], [(1, lro (lsl x0 8) x1)], m)) 7 rfl ?_
  exact Ev_ret rfl rfl h
theorem b_Mo_w3 {d : Nat} {r : Option Vv × Mm} {m : Mm} {x0 x1 x2 : Int} (h : ∃ (v1 : Int) (m1 : Mm), Cl d k_Mo_w2 [(0, x0), (0, x1)] m (some (1, v1), m1) ∧ (r = (some (1, lro (lsl v1 8) x2), m1))) : Ev (d + 1) K_Mo_w3 1 0 [(0, x0), (0, x1), (0, x2)] [] m r := by
  refine Ev_rn (q := (2, [(0, x0), (0, x1), (0, x2)], [(0, x1), (0, x0)], m)) 2 rfl ?_
  obtain ⟨v1, m1, hc, h⟩ := h
  refine Ev_call (rest := []) rfl rfl (Nat.le_of_ble_eq_true rfl) hc ?_
  refine Ev_rn (q := (8, [(0, x0), (0, x1), (0, x2)], [(1, lro (lsl v1 8) x2)], m1)) 5 rfl ?_
  exact Ev_ret rfl rfl h
theorem b_Mo_w4 {d : Nat} {r : Option Vv × Mm} {m : Mm} {x0 x1 x2 x3 : Int} (h : ∃ (v1 : Int) (m1 : Mm), Cl d k_Mo_w3 [(0, x0), (0, x1), (0, x2)] m (some (1, v1), m1) ∧ (r = (some (1, lro (lsl v1 8) x3), m1))) : Ev (d + 1) K_Mo_w4 1 0 [(0, x0), (0, x1), (0, x2), (0, x3)] [] m r := by
  refine Ev_rn (q := (3, [(0, x0), (0, x1), (0, x2), (0, x3)], [(0, x2), (0, x1), (0, x0)], m)) 3 rfl ?_
  obtain ⟨v1, m1, hc, h⟩ := h
  refine Ev_call (rest := []) rfl rfl (Nat.le_of_ble_eq_true rfl) hc ?_
  refine Ev_rn (q := (9, [(0, x0), (0, x1), (0, x2), (0, x3)], [(1, lro (lsl v1 8) x3)], m1)) 5 rfl ?_
  exact Ev_ret rfl rfl h
theorem b_Mo_w5 {d : Nat} {r : Option Vv × Mm} {m : Mm} {x0 x1 x2 x3 x4 : Int} (h : ∃ (v1 : Int) (m1 : Mm), Cl d k_Mo_w4 [(0, x0), (0, x1), (0, x2), (0, x3)] m (some (1, v1), m1) ∧ (r = (some (1, lro (lsl v1 8) x4), m1))) : Ev (d + 1) K_Mo_w5 1 0 [(0, x0), (0, x1), (0, x2), (0, x3), (0, x4)] [] m r := by
  refine Ev_rn (q := (4, [(0, x0), (0, x1), (0, x2), (0, x3), (0, x4)], [(0, x3), (0, x2), (0, x1), (0, x0)], m)) 4 rfl ?_
  obtain ⟨v1, m1, hc, h⟩ := h
  refine Ev_call (rest := []) rfl rfl (Nat.le_of_ble_eq_true rfl) hc ?_
  refine Ev_rn (q := (10, [(0, x0), (0, x1), (0, x2), (0, x3), (0, x4)], [(1, lro (lsl v1 8) x4)], m1)) 5 rfl ?_
  exact Ev_ret rfl rfl h
theorem b_Mo_w6 {d : Nat} {r : Option Vv × Mm} {m : Mm} {x0 x1 x2 x3 x4 x5 : Int} (h : ∃ (v1 : Int) (m1 : Mm), Cl d k_Mo_w5 [(0, x0), (0, x1), (0, x2), (0, x3), (0, x4)] m (some (1, v1), m1) ∧ (r = (some (1, lro (lsl v1 8) x5), m1))) : Ev (d + 1) K_Mo_w6 1 0 [(0, x0), (0, x1), (0, x2), (0, x3), (0, x4), (0, x5)] [] m r := by
  refine Ev_rn (q := (5, [(0, x0), (0, x1), (0, x2), (0, x3), (0, x4), (0, x5)], [(0, x4), (0, x3), (0, x2), (0, x1), (0, x0)], m)) 5 rfl ?_
  obtain ⟨v1, m1, hc, h⟩ := h
  refine Ev_call (rest := []) rfl rfl (Nat.le_of_ble_eq_true rfl) hc ?_
  refine Ev_rn (q := (11, [(0, x0), (0, x1), (0, x2), (0, x3), (0, x4), (0, x5)], [(1, lro (lsl v1 8) x5)], m1)) 5 rfl ?_
  exact Ev_ret rfl rfl h
theorem b_Mo_isWord {d : Nat} {r : Option Vv × Mm} {m : Mm} {x1 : Int} (h : (¬ m 400 10 = 2 → r = (some (0, 0), m)) ∧ (¬ (¬ m 400 10 = 2) → (¬ lcm (m 400 12) x1 = 0 → r = (some (0, 0), m)) ∧ (¬ (¬ lcm (m 400 12) x1 = 0) → r = (some (0, 1), m)))) : Ev d K_Mo_isWord 2 0 [(18, 400), (1, x1), (9, 0)] [] m r := by
  refine Ev_rn (q := (3, [(18, 400), (1, x1), (9, 0)], [(0, 2), (0, m 400 10)], m)) 3 rfl ?_
  refine Ev_icmp rfl (fun hc => ?_) (fun hc => ?_)
  · replace h := h.1 hc
    refine Ev_rn (q := (12, [(18, 400), (1, x1), (9, 0)], [(0, 0)], m)) 1 rfl ?_
    exact Ev_zret rfl rfl (by decide) h
  · replace h := h.2 hc
    refine Ev_rn (q := (8, [(18, 400), (1, x1), (9, 0)], [(0, lcm (m 400 12) x1)], m)) 4 rfl ?_
    refine Ev_if rfl (fun hc => ?_) (fun hc => ?_)
    · replace h := h.1 hc
      refine Ev_rn (q := (12, [(18, 400), (1, x1), (9, 0)], [(0, 0)], m)) 1 rfl ?_
      exact Ev_zret rfl rfl (by decide) h
    · replace h := h.2 hc
      refine Ev_rn (q := (12, [(18, 400), (1, x1), (9, 0)], [(0, 1)], m)) 2 rfl ?_
      exact Ev_zret rfl rfl (by decide) h
theorem b_Mo_emit {d : Nat} {r : Option Vv × Mm} {m : Mm} {x1 x2 : Int} (h : (0 ≤ w32 ((w32 ((m 400 13) + 73)) + (w32 (2 * (m 400 14)))) ∧ w32 ((w32 ((m 400 13) + 73)) + (w32 (2 * (m 400 14)))) < 2724) ∧ (∀ m1 : Mm, m1 = up m 403 (w32 ((w32 ((m 400 13) + 73)) + (w32 (2 * (m 400 14))))) x1 → ((0 ≤ w32 ((w32 ((w32 ((m1 400 13) + 73)) + (w32 (2 * (m1 400 14))))) + 1) ∧ w32 ((w32 ((w32 ((m1 400 13) + 73)) + (w32 (2 * (m1 400 14))))) + 1) < 2724) ∧ (∀ m2 : Mm, m2 = up m1 403 (w32 ((w32 ((w32 ((m1 400 13) + 73)) + (w32 (2 * (m1 400 14))))) + 1)) x2 → (∀ m3 : Mm, m3 = up m2 400 14 (w32 ((m2 400 14) + 1)) → (r = (none, m3))))))) : Ev d K_Mo_emit 3 0 [(18, 400), (0, x1), (0, x2)] [] m r := by
  refine Ev_rn (q := (12, [(18, 400), (0, x1), (0, x2)], [(0, x1), (0, w32 ((w32 ((m 400 13) + 73)) + (w32 (2 * (m 400 14))))), (21892, 403)], m)) 12 rfl ?_
  obtain ⟨hc, h⟩ := h
  refine Ev_iast (n := 2724) rfl (by decide) (by decide) hc ?_
  generalize e1 : up m 403 (w32 ((w32 ((m 400 13) + 73)) + (w32 (2 * (m 400 14))))) x1 = m1
  replace h := h m1 e1.symm
  refine Ev_rn (q := (27, [(18, 400), (0, x1), (0, x2)], [(0, x2), (0, w32 ((w32 ((w32 ((m1 400 13) + 73)) + (w32 (2 * (m1 400 14))))) + 1)), (21892, 403)], m1)) 14 rfl ?_
  obtain ⟨hc, h⟩ := h
  refine Ev_iast (n := 2724) rfl (by decide) (by decide) hc ?_
  generalize e2 : up m1 403 (w32 ((w32 ((w32 ((m1 400 13) + 73)) + (w32 (2 * (m1 400 14))))) + 1)) x2 = m2
  replace h := h m2 e2.symm
  refine Ev_rn (q := (34, [(18, 400), (0, x1), (0, x2)], [], up m2 400 14 (w32 ((m2 400 14) + 1)))) 6 rfl ?_
  generalize e3 : up m2 400 14 (w32 ((m2 400 14) + 1)) = m3
  replace h := h m3 e3.symm
  exact Ev_ret rfl rfl h
theorem b_Mo_nameOf {d : Nat} {r : Option Vv × Mm} {m : Mm} (h : (m 400 10 = 2 → ∃ (v1 : Int) (m1 : Mm), Cl d k_Mo_w4 [(0, 104), (0, 111), (0, 117), (0, 114)] m (some (1, v1), m1) ∧ ((¬ lcm (m 400 12) v1 = 0 → ∃ (v2 : Int) (m2 : Mm), Cl d k_Mo_w4 [(0, 99), (0, 101), (0, 108), (0, 108)] m1 (some (1, v2), m2) ∧ ((¬ lcm (m1 400 12) v2 = 0 → ∃ (v3 : Int) (m3 : Mm), Cl d k_Mo_w6 [(0, 97), (0, 114), (0, 111), (0, 117), (0, 110), (0, 100)] m2 (some (1, v3), m3) ∧ ((¬ lcm (m2 400 12) v3 = 0 → ∃ (v4 : Int) (m4 : Mm), Cl d k_Mo_w3 [(0, 97), (0, 108), (0, 108)] m3 (some (1, v4), m4) ∧ ((¬ lcm (m3 400 12) v4 = 0 → ∃ (v5 : Int) (m5 : Mm), Cl d k_Mo_w6 [(0, 110), (0, 117), (0, 109), (0, 98), (0, 101), (0, 114)] m4 (some (1, v5), m5) ∧ ((¬ lcm (m4 400 12) v5 = 0 → ∃ (v6 : Int) (m6 : Mm), Cl d k_Mo_w3 [(0, 119), (0, 104), (0, 111)] m5 (some (1, v6), m6) ∧ ((¬ lcm (m5 400 12) v6 = 0 → ∃ (v7 : Int) (m7 : Mm), Cl d k_Mo_w3 [(0, 119), (0, 97), (0, 121)] m6 (some (1, v7), m7) ∧ ((¬ lcm (m6 400 12) v7 = 0 → r = (some (0, (-1)), m7)) ∧ (¬ (¬ lcm (m6 400 12) v7 = 0) → r = (some (0, 6), m7)))) ∧ (¬ (¬ lcm (m5 400 12) v6 = 0) → r = (some (0, 5), m6)))) ∧ (¬ (¬ lcm (m4 400 12) v5 = 0) → r = (some (0, 4), m5)))) ∧ (¬ (¬ lcm (m3 400 12) v4 = 0) → r = (some (0, 3), m4)))) ∧ (¬ (¬ lcm (m2 400 12) v3 = 0) → r = (some (0, 2), m3)))) ∧ (¬ (¬ lcm (m1 400 12) v2 = 0) → r = (some (0, 1), m2)))) ∧ (¬ (¬ lcm (m 400 12) v1 = 0) → r = (some (0, 0), m1)))) ∧ (¬ (m 400 10 = 2) → r = (some (0, (-1)), m))) : Ev (d + 1) K_Mo_nameOf 0 0 [(18, 400)] [] m r := by
  refine Ev_rn (q := (3, [(18, 400)], [(0, 2), (0, m 400 10)], m)) 3 rfl ?_
  refine Ev_icmp rfl (fun hc => ?_) (fun hc => ?_)
  · replace h := h.1 hc
    refine Ev_rn (q := (12, [(18, 400)], [(0, 114), (0, 117), (0, 111), (0, 104), (1, m 400 12)], m)) 6 rfl ?_
    obtain ⟨v1, m1, hc, h⟩ := h
    refine Ev_call (rest := [(1, m 400 12)]) rfl rfl (Nat.le_of_ble_eq_true rfl) hc ?_
    refine Ev_rn (q := (14, [(18, 400)], [(0, lcm (m 400 12) v1)], m1)) 1 rfl ?_
    refine Ev_if rfl (fun hc => ?_) (fun hc => ?_)
    · replace h := h.1 hc
      refine Ev_rn (q := (23, [(18, 400)], [(0, 108), (0, 108), (0, 101), (0, 99), (1, m1 400 12)], m1)) 6 rfl ?_
      obtain ⟨v2, m2, hc, h⟩ := h
      refine Ev_call (rest := [(1, m1 400 12)]) rfl rfl (Nat.le_of_ble_eq_true rfl) hc ?_
      refine Ev_rn (q := (25, [(18, 400)], [(0, lcm (m1 400 12) v2)], m2)) 1 rfl ?_
      refine Ev_if rfl (fun hc => ?_) (fun hc => ?_)
      · replace h := h.1 hc
        refine Ev_rn (q := (36, [(18, 400)], [(0, 100), (0, 110), (0, 117), (0, 111), (0, 114), (0, 97), (1, m2 400 12)], m2)) 8 rfl ?_
        obtain ⟨v3, m3, hc, h⟩ := h
        refine Ev_call (rest := [(1, m2 400 12)]) rfl rfl (Nat.le_of_ble_eq_true rfl) hc ?_
        refine Ev_rn (q := (38, [(18, 400)], [(0, lcm (m2 400 12) v3)], m3)) 1 rfl ?_
        refine Ev_if rfl (fun hc => ?_) (fun hc => ?_)
        · replace h := h.1 hc
          refine Ev_rn (q := (46, [(18, 400)], [(0, 108), (0, 108), (0, 97), (1, m3 400 12)], m3)) 5 rfl ?_
          obtain ⟨v4, m4, hc, h⟩ := h
          refine Ev_call (rest := [(1, m3 400 12)]) rfl rfl (Nat.le_of_ble_eq_true rfl) hc ?_
          refine Ev_rn (q := (48, [(18, 400)], [(0, lcm (m3 400 12) v4)], m4)) 1 rfl ?_
          refine Ev_if rfl (fun hc => ?_) (fun hc => ?_)
          · replace h := h.1 hc
            refine Ev_rn (q := (59, [(18, 400)], [(0, 114), (0, 101), (0, 98), (0, 109), (0, 117), (0, 110), (1, m4 400 12)], m4)) 8 rfl ?_
            obtain ⟨v5, m5, hc, h⟩ := h
            refine Ev_call (rest := [(1, m4 400 12)]) rfl rfl (Nat.le_of_ble_eq_true rfl) hc ?_
            refine Ev_rn (q := (61, [(18, 400)], [(0, lcm (m4 400 12) v5)], m5)) 1 rfl ?_
            refine Ev_if rfl (fun hc => ?_) (fun hc => ?_)
            · replace h := h.1 hc
              refine Ev_rn (q := (69, [(18, 400)], [(0, 111), (0, 104), (0, 119), (1, m5 400 12)], m5)) 5 rfl ?_
              obtain ⟨v6, m6, hc, h⟩ := h
              refine Ev_call (rest := [(1, m5 400 12)]) rfl rfl (Nat.le_of_ble_eq_true rfl) hc ?_
              refine Ev_rn (q := (71, [(18, 400)], [(0, lcm (m5 400 12) v6)], m6)) 1 rfl ?_
              refine Ev_if rfl (fun hc => ?_) (fun hc => ?_)
              · replace h := h.1 hc
                refine Ev_rn (q := (79, [(18, 400)], [(0, 121), (0, 97), (0, 119), (1, m6 400 12)], m6)) 5 rfl ?_
                obtain ⟨v7, m7, hc, h⟩ := h
                refine Ev_call (rest := [(1, m6 400 12)]) rfl rfl (Nat.le_of_ble_eq_true rfl) hc ?_
                refine Ev_rn (q := (81, [(18, 400)], [(0, lcm (m6 400 12) v7)], m7)) 1 rfl ?_
                refine Ev_if rfl (fun hc => ?_) (fun hc => ?_)
                · replace h := h.1 hc
                  refine Ev_rn (q := (85, [(18, 400)], [(0, (-1))], m7)) 1 rfl ?_
                  exact Ev_ret rfl rfl h
                · replace h := h.2 hc
                  refine Ev_rn (q := (85, [(18, 400)], [(0, 6)], m7)) 2 rfl ?_
                  exact Ev_ret rfl rfl h
              · replace h := h.2 hc
                refine Ev_rn (q := (85, [(18, 400)], [(0, 5)], m6)) 2 rfl ?_
                exact Ev_ret rfl rfl h
            · replace h := h.2 hc
              refine Ev_rn (q := (63, [(18, 400)], [(0, 4)], m5)) 1 rfl ?_
              exact Ev_ret rfl rfl h
          · replace h := h.2 hc
            refine Ev_rn (q := (50, [(18, 400)], [(0, 3)], m4)) 1 rfl ?_
            exact Ev_ret rfl rfl h
        · replace h := h.2 hc
          refine Ev_rn (q := (40, [(18, 400)], [(0, 2)], m3)) 1 rfl ?_
          exact Ev_ret rfl rfl h
      · replace h := h.2 hc
        refine Ev_rn (q := (27, [(18, 400)], [(0, 1)], m2)) 1 rfl ?_
        exact Ev_ret rfl rfl h
    · replace h := h.2 hc
      refine Ev_rn (q := (16, [(18, 400)], [(0, 0)], m1)) 1 rfl ?_
      exact Ev_ret rfl rfl h
  · replace h := h.2 hc
    refine Ev_rn (q := (5, [(18, 400)], [(0, (-1))], m)) 1 rfl ?_
    exact Ev_ret rfl rfl h
theorem b_Mo_isOf {d : Nat} {r : Option Vv × Mm} {m : Mm} {x1 : Int} (h : (x1 < 4 → r = (some (0, 1), m)) ∧ (¬ (x1 < 4) → (¬ x1 = 4 → (¬ m 400 15 = 1 → r = (some (0, 0), m)) ∧ (¬ (¬ m 400 15 = 1) → r = (some (0, 1), m))) ∧ (¬ (¬ x1 = 4) → (¬ m 400 15 = 0 → r = (some (0, 0), m)) ∧ (¬ (¬ m 400 15 = 0) → r = (some (0, 1), m))))) : Ev d K_Mo_isOf 2 0 [(18, 400), (0, x1)] [] m r := by
  refine Ev_rn (q := (2, [(18, 400), (0, x1)], [(0, 4), (0, x1)], m)) 2 rfl ?_
  refine Ev_icmp rfl (fun hc => ?_) (fun hc => ?_)
  · replace h := h.1 hc
    refine Ev_rn (q := (17, [(18, 400), (0, x1)], [(0, 1)], m)) 2 rfl ?_
    exact Ev_zret rfl rfl (by decide) h
  · replace h := h.2 hc
    refine Ev_rn (q := (5, [(18, 400), (0, x1)], [(0, 4), (0, x1)], m)) 2 rfl ?_
    refine Ev_icmp rfl (fun hc => ?_) (fun hc => ?_)
    · replace h := h.1 hc
      refine Ev_rn (q := (13, [(18, 400), (0, x1)], [(0, 1), (0, m 400 15)], m)) 3 rfl ?_
      refine Ev_icmp rfl (fun hc => ?_) (fun hc => ?_)
      · replace h := h.1 hc
        refine Ev_rn (q := (17, [(18, 400), (0, x1)], [(0, 0)], m)) 1 rfl ?_
        exact Ev_zret rfl rfl (by decide) h
      · replace h := h.2 hc
        refine Ev_rn (q := (17, [(18, 400), (0, x1)], [(0, 1)], m)) 2 rfl ?_
        exact Ev_zret rfl rfl (by decide) h
    · replace h := h.2 hc
      refine Ev_rn (q := (8, [(18, 400), (0, x1)], [(0, m 400 15)], m)) 2 rfl ?_
      refine Ev_if rfl (fun hc => ?_) (fun hc => ?_)
      · replace h := h.1 hc
        refine Ev_rn (q := (17, [(18, 400), (0, x1)], [(0, 0)], m)) 1 rfl ?_
        exact Ev_zret rfl rfl (by decide) h
      · replace h := h.2 hc
        refine Ev_rn (q := (17, [(18, 400), (0, x1)], [(0, 1)], m)) 3 rfl ?_
        exact Ev_zret rfl rfl (by decide) h
theorem b_Mo_rank {d : Nat} {r : Option Vv × Mm} {m : Mm} {x0 : Int} (h : (x0 < 40 → (¬ x0 = 22 → (¬ x0 = 21 → (¬ x0 = 20 → (x0 < 10 → (x0 = 5 → r = (some (0, 7), m)) ∧ (¬ (x0 = 5) → (x0 = 2 → r = (some (0, 7), m)) ∧ (¬ (x0 = 2) → (¬ x0 = 4 → (x0 < 8 → r = (some (0, 5), m)) ∧ (¬ (x0 < 8) → r = (some (0, 6), m))) ∧ (¬ (¬ x0 = 4) → r = (some (0, 7), m))))) ∧ (¬ (x0 < 10) → r = (some (0, 4), m))) ∧ (¬ (¬ x0 = 20) → r = (some (0, 3), m))) ∧ (¬ (¬ x0 = 21) → r = (some (0, 2), m))) ∧ (¬ (¬ x0 = 22) → r = (some (0, 1), m))) ∧ (¬ (x0 < 40) → r = (some (0, 0), m))) : Ev d K_Mo_rank 0 0 [(0, x0)] [] m r := by
  refine Ev_rn (q := (2, [(0, x0)], [(0, 40), (0, x0)], m)) 2 rfl ?_
  refine Ev_icmp rfl (fun hc => ?_) (fun hc => ?_)
  · replace h := h.1 hc
    refine Ev_rn (q := (7, [(0, x0)], [(0, 22), (0, x0)], m)) 2 rfl ?_
    refine Ev_icmp rfl (fun hc => ?_) (fun hc => ?_)
    · replace h := h.1 hc
      refine Ev_rn (q := (12, [(0, x0)], [(0, 21), (0, x0)], m)) 2 rfl ?_
      refine Ev_icmp rfl (fun hc => ?_) (fun hc => ?_)
      · replace h := h.1 hc
        refine Ev_rn (q := (17, [(0, x0)], [(0, 20), (0, x0)], m)) 2 rfl ?_
        refine Ev_icmp rfl (fun hc => ?_) (fun hc => ?_)
        · replace h := h.1 hc
          refine Ev_rn (q := (22, [(0, x0)], [(0, 10), (0, x0)], m)) 2 rfl ?_
          refine Ev_icmp rfl (fun hc => ?_) (fun hc => ?_)
          · replace h := h.1 hc
            refine Ev_rn (q := (27, [(0, x0)], [(0, 5), (0, x0)], m)) 2 rfl ?_
            refine Ev_icmp rfl (fun hc => ?_) (fun hc => ?_)
            · replace h := h.1 hc
              refine Ev_rn (q := (42, [(0, x0)], [(0, 7)], m)) 2 rfl ?_
              exact Ev_ret rfl rfl h
            · replace h := h.2 hc
              refine Ev_rn (q := (30, [(0, x0)], [(0, 2), (0, x0)], m)) 2 rfl ?_
              refine Ev_icmp rfl (fun hc => ?_) (fun hc => ?_)
              · replace h := h.1 hc
                refine Ev_rn (q := (42, [(0, x0)], [(0, 7)], m)) 2 rfl ?_
                exact Ev_ret rfl rfl h
              · replace h := h.2 hc
                refine Ev_rn (q := (33, [(0, x0)], [(0, 4), (0, x0)], m)) 2 rfl ?_
                refine Ev_icmp rfl (fun hc => ?_) (fun hc => ?_)
                · replace h := h.1 hc
                  refine Ev_rn (q := (38, [(0, x0)], [(0, 8), (0, x0)], m)) 2 rfl ?_
                  refine Ev_icmp rfl (fun hc => ?_) (fun hc => ?_)
                  · replace h := h.1 hc
                    refine Ev_rn (q := (42, [(0, x0)], [(0, 5)], m)) 1 rfl ?_
                    exact Ev_ret rfl rfl h
                  · replace h := h.2 hc
                    refine Ev_rn (q := (42, [(0, x0)], [(0, 6)], m)) 2 rfl ?_
                    exact Ev_ret rfl rfl h
                · replace h := h.2 hc
                  refine Ev_rn (q := (42, [(0, x0)], [(0, 7)], m)) 2 rfl ?_
                  exact Ev_ret rfl rfl h
          · replace h := h.2 hc
            refine Ev_rn (q := (42, [(0, x0)], [(0, 4)], m)) 2 rfl ?_
            exact Ev_ret rfl rfl h
        · replace h := h.2 hc
          refine Ev_rn (q := (42, [(0, x0)], [(0, 3)], m)) 2 rfl ?_
          exact Ev_ret rfl rfl h
      · replace h := h.2 hc
        refine Ev_rn (q := (42, [(0, x0)], [(0, 2)], m)) 2 rfl ?_
        exact Ev_ret rfl rfl h
    · replace h := h.2 hc
      refine Ev_rn (q := (42, [(0, x0)], [(0, 1)], m)) 2 rfl ?_
      exact Ev_ret rfl rfl h
  · replace h := h.2 hc
    refine Ev_rn (q := (42, [(0, x0)], [(0, 0)], m)) 2 rfl ?_
    exact Ev_ret rfl rfl h
theorem b_Mo_settle {d : Nat} {r : Option Vv × Mm} {m : Mm} {x1 : Int} (h : (m 400 17 ≤ 0 → r = (none, m)) ∧ (¬ (m 400 17 ≤ 0) → (0 ≤ w32 ((m 400 17) - 1) ∧ w32 ((m 400 17) - 1) < 160) ∧ (∃ (v1 : Int) (m1 : Mm), Cl d k_Mo_rank [(0, m 406 (w32 ((m 400 17) - 1)))] m (some (0, v1), m1) ∧ ((v1 < x1 → r = (none, m1)) ∧ (¬ (v1 < x1) → ∀ m2 : Mm, m2 = up m1 400 17 (w32 ((m1 400 17) - 1)) → ((0 ≤ m2 400 17 ∧ m2 400 17 < 160) ∧ (∃ (m3 : Mm), Cl d k_Mo_emit [(18, 400), (0, m2 406 (m2 400 17)), (0, 0)] m2 (none, m3) ∧ ((0 ≤ m3 400 17 ∧ m3 400 17 < 160) ∧ (∃ (v4 : Int) (m4 : Mm), Cl d k_Mo_rank [(0, m3 406 (m3 400 17))] m3 (some (0, v4), m4) ∧ ((v4 = 7 → ∀ m5 : Mm, m5 = up m4 400 18 (w32 ((m4 400 18) - 1)) → (Ev (d + 1) K_Mo_settle 3 0 [(18, 400), (0, x1)] [] m5 r)) ∧ (¬ (v4 = 7) → (0 ≤ m4 400 17 ∧ m4 400 17 < 160) ∧ ((¬ m4 406 (m4 400 17) = 20 → Ev (d + 1) K_Mo_settle 3 0 [(18, 400), (0, x1)] [] m4 r) ∧ (¬ (¬ m4 406 (m4 400 17) = 20) → ∀ m6 : Mm, m6 = up m4 400 18 (w32 ((m4 400 18) - 1)) → (Ev (d + 1) K_Mo_settle 3 0 [(18, 400), (0, x1)] [] m6 r)))))))))))))) : Ev (d + 1) K_Mo_settle 3 0 [(18, 400), (0, x1)] [] m r := by
  refine Ev_rn (q := (2, [(18, 400), (0, x1)], [(0, m 400 17)], m)) 2 rfl ?_
  refine Ev_if rfl (fun hc => ?_) (fun hc => ?_)
  · replace h := h.1 hc
    exact Ev_ret rfl rfl h
  · replace h := h.2 hc
    refine Ev_rn (q := (9, [(18, 400), (0, x1)], [(0, w32 ((m 400 17) - 1)), (1380, 406)], m)) 6 rfl ?_
    obtain ⟨hc, h⟩ := h
    refine Ev_iald (n := 160) rfl (by decide) (by decide) hc ?_
    obtain ⟨v1, m1, hc, h⟩ := h
    refine Ev_call (rest := []) rfl rfl (Nat.le_of_ble_eq_true rfl) hc ?_
    refine Ev_rn (q := (12, [(18, 400), (0, x1)], [(0, x1), (0, v1)], m1)) 1 rfl ?_
    refine Ev_icmp rfl (fun hc => ?_) (fun hc => ?_)
    · replace h := h.1 hc
      exact Ev_ret rfl rfl h
    · replace h := h.2 hc
      refine Ev_rn (q := (19, [(18, 400), (0, x1)], [], up m1 400 17 (w32 ((m1 400 17) - 1)))) 6 rfl ?_
      generalize e2 : up m1 400 17 (w32 ((m1 400 17) - 1)) = m2
      replace h := h m2 e2.symm
      refine Ev_rn (q := (24, [(18, 400), (0, x1)], [(0, m2 400 17), (1380, 406), (18, 400)], m2)) 5 rfl ?_
      obtain ⟨hc, h⟩ := h
      refine Ev_iald (n := 160) rfl (by decide) (by decide) hc ?_
      refine Ev_rn (q := (26, [(18, 400), (0, x1)], [(0, 0), (0, m2 406 (m2 400 17)), (18, 400)], m2)) 1 rfl ?_
      obtain ⟨m3, hc, h⟩ := h
      refine Ev_call (rest := []) rfl rfl (Nat.le_of_ble_eq_true rfl) hc ?_
      refine Ev_rn (q := (31, [(18, 400), (0, x1)], [(0, m3 400 17), (1380, 406)], m3)) 4 rfl ?_
      obtain ⟨hc, h⟩ := h
      refine Ev_iald (n := 160) rfl (by decide) (by decide) hc ?_
      obtain ⟨v4, m4, hc, h⟩ := h
      refine Ev_call (rest := []) rfl rfl (Nat.le_of_ble_eq_true rfl) hc ?_
      refine Ev_rn (q := (34, [(18, 400), (0, x1)], [(0, 7), (0, v4)], m4)) 1 rfl ?_
      refine Ev_icmp rfl (fun hc => ?_) (fun hc => ?_)
      · replace h := h.1 hc
        refine Ev_rn (q := (48, [(18, 400), (0, x1)], [], up m4 400 18 (w32 ((m4 400 18) - 1)))) 6 rfl ?_
        generalize e5 : up m4 400 18 (w32 ((m4 400 18) - 1)) = m5
        replace h := h m5 e5.symm
        refine Ev_rn (q := (0, [(18, 400), (0, x1)], [], m5)) 1 rfl ?_
        exact h
      · replace h := h.2 hc
        refine Ev_rn (q := (39, [(18, 400), (0, x1)], [(0, m4 400 17), (1380, 406)], m4)) 4 rfl ?_
        obtain ⟨hc, h⟩ := h
        refine Ev_iald (n := 160) rfl (by decide) (by decide) hc ?_
        refine Ev_rn (q := (41, [(18, 400), (0, x1)], [(0, 20), (0, m4 406 (m4 400 17))], m4)) 1 rfl ?_
        refine Ev_icmp rfl (fun hc => ?_) (fun hc => ?_)
        · replace h := h.1 hc
          exact h
        · replace h := h.2 hc
          refine Ev_rn (q := (48, [(18, 400), (0, x1)], [], up m4 400 18 (w32 ((m4 400 18) - 1)))) 6 rfl ?_
          generalize e6 : up m4 400 18 (w32 ((m4 400 18) - 1)) = m6
          replace h := h m6 e6.symm
          refine Ev_rn (q := (0, [(18, 400), (0, x1)], [], m6)) 1 rfl ?_
          exact h
theorem b_Mo_openAt {d : Nat} {r : Option Vv × Mm} {m : Mm} (h : Ev d K_Mo_openAt 0 5 [(18, 400), (0, w32 ((m 400 17) - 1))] [] m r) : Ev d K_Mo_openAt 0 0 [(18, 400), (9, 0)] [] m r := by
  refine Ev_rn (q := (5, [(18, 400), (0, w32 ((m 400 17) - 1))], [], m)) 5 rfl ?_
  exact h
theorem b_Mo_openAt_5 {d : Nat} {r : Option Vv × Mm} {m : Mm} {x1 : Int} (h : (x1 < 0 → r = (some (0, x1), m)) ∧ (¬ (x1 < 0) → (0 ≤ x1 ∧ x1 < 160) ∧ ((40 ≤ m 406 x1 → r = (some (0, x1), m)) ∧ (¬ (40 ≤ m 406 x1) → Ev d K_Mo_openAt 0 5 [(18, 400), (0, w32 (x1 + (-1)))] [] m r)))) : Ev d K_Mo_openAt 0 5 [(18, 400), (0, x1)] [] m r := by
  refine Ev_rn (q := (6, [(18, 400), (0, x1)], [(0, x1)], m)) 1 rfl ?_
  refine Ev_if rfl (fun hc => ?_) (fun hc => ?_)
  · replace h := h.1 hc
    refine Ev_rn (q := (16, [(18, 400), (0, x1)], [(0, x1)], m)) 1 rfl ?_
    exact Ev_ret rfl rfl h
  · replace h := h.2 hc
    refine Ev_rn (q := (10, [(18, 400), (0, x1)], [(0, x1), (1380, 406)], m)) 3 rfl ?_
    obtain ⟨hc, h⟩ := h
    refine Ev_iald (n := 160) rfl (by decide) (by decide) hc ?_
    refine Ev_rn (q := (12, [(18, 400), (0, x1)], [(0, 40), (0, m 406 x1)], m)) 1 rfl ?_
    refine Ev_icmp rfl (fun hc => ?_) (fun hc => ?_)
    · replace h := h.1 hc
      refine Ev_rn (q := (16, [(18, 400), (0, x1)], [(0, x1)], m)) 1 rfl ?_
      exact Ev_ret rfl rfl h
    · replace h := h.2 hc
      refine Ev_rn (q := (5, [(18, 400), (0, w32 (x1 + (-1)))], [], m)) 2 rfl ?_
      exact h
theorem b_Mo_openNow {d : Nat} {r : Option Vv × Mm} {m : Mm} (h : ∃ (v1 : Int) (m1 : Mm), Cl d k_Mo_openAt [(18, 400)] m (some (0, v1), m1) ∧ ((0 ≤ v1 → ∃ (v2 : Int) (m2 : Mm), Cl d k_Mo_openAt [(18, 400)] m1 (some (0, v2), m2) ∧ ((0 ≤ v2 ∧ v2 < 160) ∧ (r = (some (0, m2 406 v2), m2)))) ∧ (¬ (0 ≤ v1) → r = (some (0, (-1)), m1)))) : Ev (d + 1) K_Mo_openNow 0 0 [(18, 400)] [] m r := by
  refine Ev_rn (q := (1, [(18, 400)], [(18, 400)], m)) 1 rfl ?_
  obtain ⟨v1, m1, hc, h⟩ := h
  refine Ev_call (rest := []) rfl rfl (Nat.le_of_ble_eq_true rfl) hc ?_
  refine Ev_if rfl (fun hc => ?_) (fun hc => ?_)
  · replace h := h.1 hc
    refine Ev_rn (q := (8, [(18, 400)], [(18, 400), (1380, 406)], m1)) 3 rfl ?_
    obtain ⟨v2, m2, hc, h⟩ := h
    refine Ev_call (rest := [(1380, 406)]) rfl rfl (Nat.le_of_ble_eq_true rfl) hc ?_
    obtain ⟨hc, h⟩ := h
    refine Ev_iald (n := 160) rfl (by decide) (by decide) hc ?_
    exact Ev_ret rfl rfl h
  · replace h := h.2 hc
    refine Ev_rn (q := (10, [(18, 400)], [(0, (-1))], m1)) 2 rfl ?_
    exact Ev_ret rfl rfl h
theorem b_Mo_isCompared {d : Nat} {r : Option Vv × Mm} {m : Mm} (h : Ev (d + 1) K_Mo_isCompared 2 5 [(18, 400), (0, w32 ((m 400 17) - 1))] [] m r) : Ev (d + 1) K_Mo_isCompared 2 0 [(18, 400), (9, 0)] [] m r := by
  refine Ev_rn (q := (5, [(18, 400), (0, w32 ((m 400 17) - 1))], [], m)) 5 rfl ?_
  exact h
theorem b_Mo_isCompared_5 {d : Nat} {r : Option Vv × Mm} {m : Mm} {x1 : Int} (h : (x1 < 0 → Ev (d + 1) K_Mo_isCompared 2 16 [(18, 400), (0, x1)] [] m r) ∧ (¬ (x1 < 0) → (0 ≤ x1 ∧ x1 < 160) ∧ (∃ (v1 : Int) (m1 : Mm), Cl d k_Mo_rank [(0, m 406 x1)] m (some (0, v1), m1) ∧ ((v1 ≤ 4 → Ev (d + 1) K_Mo_isCompared 2 16 [(18, 400), (0, x1)] [] m1 r) ∧ (¬ (v1 ≤ 4) → Ev (d + 1) K_Mo_isCompared 2 5 [(18, 400), (0, w32 (x1 + (-1)))] [] m1 r))))) : Ev (d + 1) K_Mo_isCompared 2 5 [(18, 400), (0, x1)] [] m r := by
  refine Ev_rn (q := (6, [(18, 400), (0, x1)], [(0, x1)], m)) 1 rfl ?_
  refine Ev_if rfl (fun hc => ?_) (fun hc => ?_)
  · replace h := h.1 hc
    exact h
  · replace h := h.2 hc
    refine Ev_rn (q := (10, [(18, 400), (0, x1)], [(0, x1), (1380, 406)], m)) 3 rfl ?_
    obtain ⟨hc, h⟩ := h
    refine Ev_iald (n := 160) rfl (by decide) (by decide) hc ?_
    obtain ⟨v1, m1, hc, h⟩ := h
    refine Ev_call (rest := []) rfl rfl (Nat.le_of_ble_eq_true rfl) hc ?_
    refine Ev_rn (q := (13, [(18, 400), (0, x1)], [(0, 4), (0, v1)], m1)) 1 rfl ?_
    refine Ev_icmp rfl (fun hc => ?_) (fun hc => ?_)
    · replace h := h.1 hc
      exact h
    · replace h := h.2 hc
      refine Ev_rn (q := (5, [(18, 400), (0, w32 (x1 + (-1)))], [], m1)) 2 rfl ?_
      exact h
theorem b_Mo_isCompared_16 {d : Nat} {r : Option Vv × Mm} {m : Mm} {x1 : Int} (h : (x1 < 0 → r = (some (0, 0), m)) ∧ (¬ (x1 < 0) → (0 ≤ x1 ∧ x1 < 160) ∧ (∃ (v1 : Int) (m1 : Mm), Cl d k_Mo_rank [(0, m 406 x1)] m (some (0, v1), m1) ∧ ((¬ v1 = 4 → r = (some (0, 0), m1)) ∧ (¬ (¬ v1 = 4) → r = (some (0, 1), m1)))))) : Ev (d + 1) K_Mo_isCompared 2 16 [(18, 400), (0, x1)] [] m r := by
  refine Ev_rn (q := (17, [(18, 400), (0, x1)], [(0, x1)], m)) 1 rfl ?_
  refine Ev_if rfl (fun hc => ?_) (fun hc => ?_)
  · replace h := h.1 hc
    refine Ev_rn (q := (28, [(18, 400), (0, x1)], [(0, 0)], m)) 1 rfl ?_
    exact Ev_zret rfl rfl (by decide) h
  · replace h := h.2 hc
    refine Ev_rn (q := (21, [(18, 400), (0, x1)], [(0, x1), (1380, 406)], m)) 3 rfl ?_
    obtain ⟨hc, h⟩ := h
    refine Ev_iald (n := 160) rfl (by decide) (by decide) hc ?_
    obtain ⟨v1, m1, hc, h⟩ := h
    refine Ev_call (rest := []) rfl rfl (Nat.le_of_ble_eq_true rfl) hc ?_
    refine Ev_rn (q := (24, [(18, 400), (0, x1)], [(0, 4), (0, v1)], m1)) 1 rfl ?_
    refine Ev_icmp rfl (fun hc => ?_) (fun hc => ?_)
    · replace h := h.1 hc
      refine Ev_rn (q := (28, [(18, 400), (0, x1)], [(0, 0)], m1)) 1 rfl ?_
      exact Ev_zret rfl rfl (by decide) h
    · replace h := h.2 hc
      refine Ev_rn (q := (28, [(18, 400), (0, x1)], [(0, 1)], m1)) 2 rfl ?_
      exact Ev_zret rfl rfl (by decide) h
theorem b_Mo_isAskAhead {d : Nat} {r : Option Vv × Mm} {m : Mm} (h : ∃ (v1 : Int) (m1 : Mm), Cl d k_Mo_openNow [(18, 400)] m (some (0, v1), m1) ∧ ((¬ v1 = 42 → r = (some (0, 0), m1)) ∧ (¬ (¬ v1 = 42) → (0 ≤ w32 ((m1 400 17) - 1) ∧ w32 ((m1 400 17) - 1) < 160) ∧ ((40 ≤ m1 406 (w32 ((m1 400 17) - 1)) → r = (some (0, 1), m1)) ∧ (¬ (40 ≤ m1 406 (w32 ((m1 400 17) - 1))) → (0 ≤ w32 ((m1 400 17) - 1) ∧ w32 ((m1 400 17) - 1) < 160) ∧ (∃ (v2 : Int) (m2 : Mm), Cl d k_Mo_rank [(0, m1 406 (w32 ((m1 400 17) - 1)))] m1 (some (0, v2), m2) ∧ (∃ (v3 : Int) (m3 : Mm), Cl d k_Mo_isIn [(0, v2), (0, 1), (0, 3)] m2 (some (0, v3), m3) ∧ ((v3 = 0 → r = (some (0, 0), m3)) ∧ (¬ (v3 = 0) → r = (some (0, 1), m3)))))))))) : Ev (d + 1) K_Mo_isAskAhead 2 0 [(18, 400)] [] m r := by
  refine Ev_rn (q := (1, [(18, 400)], [(18, 400)], m)) 1 rfl ?_
  obtain ⟨v1, m1, hc, h⟩ := h
  refine Ev_call (rest := []) rfl rfl (Nat.le_of_ble_eq_true rfl) hc ?_
  refine Ev_rn (q := (3, [(18, 400)], [(0, 42), (0, v1)], m1)) 1 rfl ?_
  refine Ev_icmp rfl (fun hc => ?_) (fun hc => ?_)
  · replace h := h.1 hc
    refine Ev_rn (q := (28, [(18, 400)], [(0, 0)], m1)) 1 rfl ?_
    exact Ev_zret rfl rfl (by decide) h
  · replace h := h.2 hc
    refine Ev_rn (q := (10, [(18, 400)], [(0, w32 ((m1 400 17) - 1)), (1380, 406)], m1)) 6 rfl ?_
    obtain ⟨hc, h⟩ := h
    refine Ev_iald (n := 160) rfl (by decide) (by decide) hc ?_
    refine Ev_rn (q := (12, [(18, 400)], [(0, 40), (0, m1 406 (w32 ((m1 400 17) - 1)))], m1)) 1 rfl ?_
    refine Ev_icmp rfl (fun hc => ?_) (fun hc => ?_)
    · replace h := h.1 hc
      refine Ev_rn (q := (28, [(18, 400)], [(0, 1)], m1)) 2 rfl ?_
      exact Ev_zret rfl rfl (by decide) h
    · replace h := h.2 hc
      refine Ev_rn (q := (19, [(18, 400)], [(0, w32 ((m1 400 17) - 1)), (1380, 406)], m1)) 6 rfl ?_
      obtain ⟨hc, h⟩ := h
      refine Ev_iald (n := 160) rfl (by decide) (by decide) hc ?_
      obtain ⟨v2, m2, hc, h⟩ := h
      refine Ev_call (rest := []) rfl rfl (Nat.le_of_ble_eq_true rfl) hc ?_
      refine Ev_rn (q := (23, [(18, 400)], [(0, 3), (0, 1), (0, v2)], m2)) 2 rfl ?_
      obtain ⟨v3, m3, hc, h⟩ := h
      refine Ev_call (rest := []) rfl rfl (Nat.le_of_ble_eq_true rfl) hc ?_
      refine Ev_if rfl (fun hc => ?_) (fun hc => ?_)
      · replace h := h.1 hc
        refine Ev_rn (q := (28, [(18, 400)], [(0, 0)], m3)) 1 rfl ?_
        exact Ev_zret rfl rfl (by decide) h
      · replace h := h.2 hc
        refine Ev_rn (q := (28, [(18, 400)], [(0, 1)], m3)) 2 rfl ?_
        exact Ev_zret rfl rfl (by decide) h
theorem b_Mo_opened {d : Nat} {r : Option Vv × Mm} {m : Mm} {x1 : Int} (h : (¬ m 400 18 = 8 → ∀ m1 : Mm, m1 = up m 400 18 (w32 ((m 400 18) + 1)) → ((0 ≤ m1 400 17 ∧ m1 400 17 < 160) ∧ (∀ m2 : Mm, m2 = up m1 406 (m1 400 17) x1 → (∀ m3 : Mm, m3 = up m2 400 17 (w32 ((m2 400 17) + 1)) → (∃ (m4 : Mm), Cl d k_Mo_nextToken [(18, 400)] m3 (none, m4) ∧ (r = (some (0, 0), m4))))))) ∧ (¬ (¬ m 400 18 = 8) → r = (some (0, 3), m))) : Ev (d + 1) K_Mo_opened 0 0 [(18, 400), (0, x1)] [] m r := by
  refine Ev_rn (q := (3, [(18, 400), (0, x1)], [(0, 8), (0, m 400 18)], m)) 3 rfl ?_
  refine Ev_icmp rfl (fun hc => ?_) (fun hc => ?_)
  · replace h := h.1 hc
    refine Ev_rn (q := (12, [(18, 400), (0, x1)], [], up m 400 18 (w32 ((m 400 18) + 1)))) 6 rfl ?_
    generalize e1 : up m 400 18 (w32 ((m 400 18) + 1)) = m1
    replace h := h m1 e1.symm
    refine Ev_rn (q := (17, [(18, 400), (0, x1)], [(0, x1), (0, m1 400 17), (1380, 406)], m1)) 5 rfl ?_
    obtain ⟨hc, h⟩ := h
    refine Ev_iast (n := 160) rfl (by decide) (by decide) hc ?_
    generalize e2 : up m1 406 (m1 400 17) x1 = m2
    replace h := h m2 e2.symm
    refine Ev_rn (q := (24, [(18, 400), (0, x1)], [], up m2 400 17 (w32 ((m2 400 17) + 1)))) 6 rfl ?_
    generalize e3 : up m2 400 17 (w32 ((m2 400 17) + 1)) = m3
    replace h := h m3 e3.symm
    refine Ev_rn (q := (25, [(18, 400), (0, x1)], [(18, 400)], m3)) 1 rfl ?_
    obtain ⟨m4, hc, h⟩ := h
    refine Ev_call (rest := []) rfl rfl (Nat.le_of_ble_eq_true rfl) hc ?_
    refine Ev_rn (q := (27, [(18, 400), (0, x1)], [(0, 0)], m4)) 1 rfl ?_
    exact Ev_ret rfl rfl h
  · replace h := h.2 hc
    refine Ev_rn (q := (5, [(18, 400), (0, x1)], [(0, 3)], m)) 1 rfl ?_
    exact Ev_ret rfl rfl h
theorem b_Mo_beginOne {d : Nat} {r : Option Vv × Mm} {m : Mm} (h : (¬ m 400 10 = 1 → ∃ (v1 : Int) (m1 : Mm), Cl d k_Mo_nameOf [(18, 400)] m (some (0, v1), m1) ∧ ((v1 < 0 → Ev (d + 1) K_Mo_beginOne 0 21 [(18, 400), (0, v1)] [] m1 r) ∧ (¬ (v1 < 0) → ∃ (v2 : Int) (m2 : Mm), Cl d k_Mo_isOf [(18, 400), (0, v1)] m1 (some (0, v2), m2) ∧ ((¬ v2 = 0 → Ev (d + 1) K_Mo_beginOne 0 21 [(18, 400), (0, v1)] [] m2 r) ∧ (¬ (¬ v2 = 0) → r = (some (0, 5), m2)))))) ∧ (¬ (¬ m 400 10 = 1) → (m 400 11 ≤ 9999 → ∃ (v3 : Int) (m3 : Mm), Cl d k_Mo_nameOf [(18, 400)] m (some (0, v3), m3) ∧ ((v3 < 0 → Ev (d + 1) K_Mo_beginOne 0 21 [(18, 400), (0, v3)] [] m3 r) ∧ (¬ (v3 < 0) → ∃ (v4 : Int) (m4 : Mm), Cl d k_Mo_isOf [(18, 400), (0, v3)] m3 (some (0, v4), m4) ∧ ((¬ v4 = 0 → Ev (d + 1) K_Mo_beginOne 0 21 [(18, 400), (0, v3)] [] m4 r) ∧ (¬ (¬ v4 = 0) → r = (some (0, 5), m4)))))) ∧ (¬ (m 400 11 ≤ 9999) → r = (some (0, 2), m)))) : Ev (d + 1) K_Mo_beginOne 0 0 [(18, 400), (9, 0)] [] m r := by
  refine Ev_rn (q := (3, [(18, 400), (9, 0)], [(0, 1), (0, m 400 10)], m)) 3 rfl ?_
  refine Ev_icmp rfl (fun hc => ?_) (fun hc => ?_)
  · replace h := h.1 hc
    refine Ev_rn (q := (11, [(18, 400), (9, 0)], [(18, 400)], m)) 1 rfl ?_
    obtain ⟨v1, m1, hc, h⟩ := h
    refine Ev_call (rest := []) rfl rfl (Nat.le_of_ble_eq_true rfl) hc ?_
    refine Ev_rn (q := (14, [(18, 400), (0, v1)], [(0, v1)], m1)) 2 rfl ?_
    refine Ev_if rfl (fun hc => ?_) (fun hc => ?_)
    · replace h := h.1 hc
      exact h
    · replace h := h.2 hc
      refine Ev_rn (q := (17, [(18, 400), (0, v1)], [(0, v1), (18, 400)], m1)) 2 rfl ?_
      obtain ⟨v2, m2, hc, h⟩ := h
      refine Ev_call (rest := []) rfl rfl (Nat.le_of_ble_eq_true rfl) hc ?_
      refine Ev_if rfl (fun hc => ?_) (fun hc => ?_)
      · replace h := h.1 hc
        exact h
      · replace h := h.2 hc
        refine Ev_rn (q := (20, [(18, 400), (0, v1)], [(0, 5)], m2)) 1 rfl ?_
        exact Ev_ret rfl rfl h
  · replace h := h.2 hc
    refine Ev_rn (q := (7, [(18, 400), (9, 0)], [(0, 9999), (0, m 400 11)], m)) 3 rfl ?_
    refine Ev_icmp rfl (fun hc => ?_) (fun hc => ?_)
    · replace h := h.1 hc
      refine Ev_rn (q := (11, [(18, 400), (9, 0)], [(18, 400)], m)) 1 rfl ?_
      obtain ⟨v3, m3, hc, h⟩ := h
      refine Ev_call (rest := []) rfl rfl (Nat.le_of_ble_eq_true rfl) hc ?_
      refine Ev_rn (q := (14, [(18, 400), (0, v3)], [(0, v3)], m3)) 2 rfl ?_
      refine Ev_if rfl (fun hc => ?_) (fun hc => ?_)
      · replace h := h.1 hc
        exact h
      · replace h := h.2 hc
        refine Ev_rn (q := (17, [(18, 400), (0, v3)], [(0, v3), (18, 400)], m3)) 2 rfl ?_
        obtain ⟨v4, m4, hc, h⟩ := h
        refine Ev_call (rest := []) rfl rfl (Nat.le_of_ble_eq_true rfl) hc ?_
        refine Ev_if rfl (fun hc => ?_) (fun hc => ?_)
        · replace h := h.1 hc
          exact h
        · replace h := h.2 hc
          refine Ev_rn (q := (20, [(18, 400), (0, v3)], [(0, 5)], m4)) 1 rfl ?_
          exact Ev_ret rfl rfl h
    · replace h := h.2 hc
      refine Ev_rn (q := (9, [(18, 400), (9, 0)], [(0, 2)], m)) 1 rfl ?_
      exact Ev_ret rfl rfl h
theorem b_Mo_beginOne_21 {d : Nat} {r : Option Vv × Mm} {m : Mm} {x1 : Int} (h : (m 400 10 = 1 → Ev (d + 1) K_Mo_beginOne 0 27 [(18, 400), (0, x1)] [] m r) ∧ (¬ (m 400 10 = 1) → (x1 < 0 → (¬ m 400 10 = 40 → (¬ m 400 10 = 45 → ∃ (v1 : Int) (m1 : Mm), Cl d k_Mo_w3 [(0, 102), (0, 97), (0, 114)] m (some (1, v1), m1) ∧ (∃ (v2 : Int) (m2 : Mm), Cl d k_Mo_isWord [(18, 400), (1, v1)] m1 (some (0, v2), m2) ∧ ((v2 = 0 → ∃ (v3 : Int) (m3 : Mm), Cl d k_Mo_w5 [(0, 104), (0, 101), (0, 100), (0, 103), (0, 101)] m2 (some (1, v3), m3) ∧ (∃ (v4 : Int) (m4 : Mm), Cl d k_Mo_isWord [(18, 400), (1, v3)] m3 (some (0, v4), m4) ∧ ((v4 = 0 → ∃ (v5 : Int) (m5 : Mm), Cl d k_Mo_w2 [(0, 105), (0, 102)] m4 (some (1, v5), m5) ∧ (∃ (v6 : Int) (m6 : Mm), Cl d k_Mo_isWord [(18, 400), (1, v5)] m5 (some (0, v6), m6) ∧ ((v6 = 0 → ∃ (v7 : Int) (m7 : Mm), Cl d k_Mo_w3 [(0, 110), (0, 111), (0, 116)] m6 (some (1, v7), m7) ∧ (∃ (v8 : Int) (m8 : Mm), Cl d k_Mo_isWord [(18, 400), (1, v7)] m7 (some (0, v8), m8) ∧ ((v8 = 0 → r = (some (0, 1), m8)) ∧ (¬ (v8 = 0) → ∃ (v9 : Int) (m9 : Mm), Cl d k_Mo_isAskAhead [(18, 400)] m8 (some (0, v9), m9) ∧ ((v9 = 0 → r = (some (0, 1), m9)) ∧ (¬ (v9 = 0) → ∃ (v10 : Int) (m10 : Mm), Cl d k_Mo_opened [(18, 400), (0, 20)] m9 (some (0, v10), m10) ∧ (r = (some (0, v10), m10)))))))) ∧ (¬ (v6 = 0) → ∃ (v11 : Int) (m11 : Mm), Cl d k_Mo_opened [(18, 400), (0, 42)] m6 (some (0, v11), m11) ∧ (r = (some (0, v11), m11)))))) ∧ (¬ (v4 = 0) → ∃ (v12 : Int) (m12 : Mm), Cl d k_Mo_opened [(18, 400), (0, 2)] m4 (some (0, v12), m12) ∧ (r = (some (0, v12), m12)))))) ∧ (¬ (v2 = 0) → ∃ (v13 : Int) (m13 : Mm), Cl d k_Mo_opened [(18, 400), (0, 41)] m2 (some (0, v13), m13) ∧ (r = (some (0, v13), m13)))))) ∧ (¬ (¬ m 400 10 = 45) → ∃ (v14 : Int) (m14 : Mm), Cl d k_Mo_opened [(18, 400), (0, 5)] m (some (0, v14), m14) ∧ (r = (some (0, v14), m14)))) ∧ (¬ (¬ m 400 10 = 40) → ∃ (v15 : Int) (m15 : Mm), Cl d k_Mo_opened [(18, 400), (0, 40)] m (some (0, v15), m15) ∧ (r = (some (0, v15), m15)))) ∧ (¬ (x1 < 0) → Ev (d + 1) K_Mo_beginOne 0 27 [(18, 400), (0, x1)] [] m r))) : Ev (d + 1) K_Mo_beginOne 0 21 [(18, 400), (0, x1)] [] m r := by
  refine Ev_rn (q := (24, [(18, 400), (0, x1)], [(0, 1), (0, m 400 10)], m)) 3 rfl ?_
  refine Ev_icmp rfl (fun hc => ?_) (fun hc => ?_)
  · replace h := h.1 hc
    exact h
  · replace h := h.2 hc
    refine Ev_rn (q := (26, [(18, 400), (0, x1)], [(0, x1)], m)) 1 rfl ?_
    refine Ev_if rfl (fun hc => ?_) (fun hc => ?_)
    · replace h := h.1 hc
      refine Ev_rn (q := (52, [(18, 400), (0, x1)], [(0, 40), (0, m 400 10)], m)) 3 rfl ?_
      refine Ev_icmp rfl (fun hc => ?_) (fun hc => ?_)
      · replace h := h.1 hc
        refine Ev_rn (q := (60, [(18, 400), (0, x1)], [(0, 45), (0, m 400 10)], m)) 3 rfl ?_
        refine Ev_icmp rfl (fun hc => ?_) (fun hc => ?_)
        · replace h := h.1 hc
          refine Ev_rn (q := (69, [(18, 400), (0, x1)], [(0, 114), (0, 97), (0, 102), (18, 400)], m)) 4 rfl ?_
          obtain ⟨v1, m1, hc, h⟩ := h
          refine Ev_call (rest := [(18, 400)]) rfl rfl (Nat.le_of_ble_eq_true rfl) hc ?_
          obtain ⟨v2, m2, hc, h⟩ := h
          refine Ev_call (rest := []) rfl rfl (Nat.le_of_ble_eq_true rfl) hc ?_
          refine Ev_if rfl (fun hc => ?_) (fun hc => ?_)
          · replace h := h.1 hc
            refine Ev_rn (q := (82, [(18, 400), (0, x1)], [(0, 101), (0, 103), (0, 100), (0, 101), (0, 104), (18, 400)], m2)) 6 rfl ?_
            obtain ⟨v3, m3, hc, h⟩ := h
            refine Ev_call (rest := [(18, 400)]) rfl rfl (Nat.le_of_ble_eq_true rfl) hc ?_
            obtain ⟨v4, m4, hc, h⟩ := h
            refine Ev_call (rest := []) rfl rfl (Nat.le_of_ble_eq_true rfl) hc ?_
            refine Ev_if rfl (fun hc => ?_) (fun hc => ?_)
            · replace h := h.1 hc
              refine Ev_rn (q := (92, [(18, 400), (0, x1)], [(0, 102), (0, 105), (18, 400)], m4)) 3 rfl ?_
              obtain ⟨v5, m5, hc, h⟩ := h
              refine Ev_call (rest := [(18, 400)]) rfl rfl (Nat.le_of_ble_eq_true rfl) hc ?_
              obtain ⟨v6, m6, hc, h⟩ := h
              refine Ev_call (rest := []) rfl rfl (Nat.le_of_ble_eq_true rfl) hc ?_
              refine Ev_if rfl (fun hc => ?_) (fun hc => ?_)
              · replace h := h.1 hc
                refine Ev_rn (q := (103, [(18, 400), (0, x1)], [(0, 116), (0, 111), (0, 110), (18, 400)], m6)) 4 rfl ?_
                obtain ⟨v7, m7, hc, h⟩ := h
                refine Ev_call (rest := [(18, 400)]) rfl rfl (Nat.le_of_ble_eq_true rfl) hc ?_
                obtain ⟨v8, m8, hc, h⟩ := h
                refine Ev_call (rest := []) rfl rfl (Nat.le_of_ble_eq_true rfl) hc ?_
                refine Ev_if rfl (fun hc => ?_) (fun hc => ?_)
                · replace h := h.1 hc
                  refine Ev_rn (q := (114, [(18, 400), (0, x1)], [(0, 1)], m8)) 1 rfl ?_
                  exact Ev_ret rfl rfl h
                · replace h := h.2 hc
                  refine Ev_rn (q := (107, [(18, 400), (0, x1)], [(18, 400)], m8)) 1 rfl ?_
                  obtain ⟨v9, m9, hc, h⟩ := h
                  refine Ev_call (rest := []) rfl rfl (Nat.le_of_ble_eq_true rfl) hc ?_
                  refine Ev_if rfl (fun hc => ?_) (fun hc => ?_)
                  · replace h := h.1 hc
                    refine Ev_rn (q := (114, [(18, 400), (0, x1)], [(0, 1)], m9)) 1 rfl ?_
                    exact Ev_ret rfl rfl h
                  · replace h := h.2 hc
                    refine Ev_rn (q := (111, [(18, 400), (0, x1)], [(0, 20), (18, 400)], m9)) 2 rfl ?_
                    obtain ⟨v10, m10, hc, h⟩ := h
                    refine Ev_call (rest := []) rfl rfl (Nat.le_of_ble_eq_true rfl) hc ?_
                    refine Ev_rn (q := (114, [(18, 400), (0, x1)], [(0, v10)], m10)) 1 rfl ?_
                    exact Ev_ret rfl rfl h
              · replace h := h.2 hc
                refine Ev_rn (q := (97, [(18, 400), (0, x1)], [(0, 42), (18, 400)], m6)) 2 rfl ?_
                obtain ⟨v11, m11, hc, h⟩ := h
                refine Ev_call (rest := []) rfl rfl (Nat.le_of_ble_eq_true rfl) hc ?_
                exact Ev_ret rfl rfl h
            · replace h := h.2 hc
              refine Ev_rn (q := (87, [(18, 400), (0, x1)], [(0, 2), (18, 400)], m4)) 2 rfl ?_
              obtain ⟨v12, m12, hc, h⟩ := h
              refine Ev_call (rest := []) rfl rfl (Nat.le_of_ble_eq_true rfl) hc ?_
              exact Ev_ret rfl rfl h
          · replace h := h.2 hc
            refine Ev_rn (q := (74, [(18, 400), (0, x1)], [(0, 41), (18, 400)], m2)) 2 rfl ?_
            obtain ⟨v13, m13, hc, h⟩ := h
            refine Ev_call (rest := []) rfl rfl (Nat.le_of_ble_eq_true rfl) hc ?_
            exact Ev_ret rfl rfl h
        · replace h := h.2 hc
          refine Ev_rn (q := (63, [(18, 400), (0, x1)], [(0, 5), (18, 400)], m)) 2 rfl ?_
          obtain ⟨v14, m14, hc, h⟩ := h
          refine Ev_call (rest := []) rfl rfl (Nat.le_of_ble_eq_true rfl) hc ?_
          exact Ev_ret rfl rfl h
      · replace h := h.2 hc
        refine Ev_rn (q := (55, [(18, 400), (0, x1)], [(0, 40), (18, 400)], m)) 2 rfl ?_
        obtain ⟨v15, m15, hc, h⟩ := h
        refine Ev_call (rest := []) rfl rfl (Nat.le_of_ble_eq_true rfl) hc ?_
        exact Ev_ret rfl rfl h
    · replace h := h.2 hc
      exact h
theorem b_Mo_beginOne_27 {d : Nat} {r : Option Vv × Mm} {m : Mm} {x1 : Int} (h : (¬ m 400 10 = 1 → (¬ m 400 10 = 1 → ∃ (m1 : Mm), Cl d k_Mo_emit [(18, 400), (0, 1), (0, x1)] m (none, m1) ∧ (∃ (m2 : Mm), Cl d k_Mo_nextToken [(18, 400)] m1 (none, m2) ∧ (∃ (v3 : Int) (m3 : Mm), Cl d k_Mo_endOne [(18, 400)] m2 (some (0, v3), m3) ∧ (r = (some (0, v3), m3))))) ∧ (¬ (¬ m 400 10 = 1) → ∃ (m4 : Mm), Cl d k_Mo_emit [(18, 400), (0, 1), (0, m 400 11)] m (none, m4) ∧ (∃ (m5 : Mm), Cl d k_Mo_nextToken [(18, 400)] m4 (none, m5) ∧ (∃ (v6 : Int) (m6 : Mm), Cl d k_Mo_endOne [(18, 400)] m5 (some (0, v6), m6) ∧ (r = (some (0, v6), m6)))))) ∧ (¬ (¬ m 400 10 = 1) → (¬ m 400 10 = 1 → ∃ (m7 : Mm), Cl d k_Mo_emit [(18, 400), (0, 0), (0, x1)] m (none, m7) ∧ (∃ (m8 : Mm), Cl d k_Mo_nextToken [(18, 400)] m7 (none, m8) ∧ (∃ (v9 : Int) (m9 : Mm), Cl d k_Mo_endOne [(18, 400)] m8 (some (0, v9), m9) ∧ (r = (some (0, v9), m9))))) ∧ (¬ (¬ m 400 10 = 1) → ∃ (m10 : Mm), Cl d k_Mo_emit [(18, 400), (0, 0), (0, m 400 11)] m (none, m10) ∧ (∃ (m11 : Mm), Cl d k_Mo_nextToken [(18, 400)] m10 (none, m11) ∧ (∃ (v12 : Int) (m12 : Mm), Cl d k_Mo_endOne [(18, 400)] m11 (some (0, v12), m12) ∧ (r = (some (0, v12), m12))))))) : Ev (d + 1) K_Mo_beginOne 0 27 [(18, 400), (0, x1)] [] m r := by
  refine Ev_rn (q := (31, [(18, 400), (0, x1)], [(0, 1), (0, m 400 10), (18, 400)], m)) 4 rfl ?_
  refine Ev_icmp rfl (fun hc => ?_) (fun hc => ?_)
  · replace h := h.1 hc
    refine Ev_rn (q := (38, [(18, 400), (0, x1)], [(0, 1), (0, m 400 10), (0, 1), (18, 400)], m)) 4 rfl ?_
    refine Ev_icmp rfl (fun hc => ?_) (fun hc => ?_)
    · replace h := h.1 hc
      refine Ev_rn (q := (43, [(18, 400), (0, x1)], [(0, x1), (0, 1), (18, 400)], m)) 1 rfl ?_
      obtain ⟨m1, hc, h⟩ := h
      refine Ev_call (rest := []) rfl rfl (Nat.le_of_ble_eq_true rfl) hc ?_
      refine Ev_rn (q := (45, [(18, 400), (0, x1)], [(18, 400)], m1)) 1 rfl ?_
      obtain ⟨m2, hc, h⟩ := h
      refine Ev_call (rest := []) rfl rfl (Nat.le_of_ble_eq_true rfl) hc ?_
      refine Ev_rn (q := (47, [(18, 400), (0, x1)], [(18, 400)], m2)) 1 rfl ?_
      obtain ⟨v3, m3, hc, h⟩ := h
      refine Ev_call (rest := []) rfl rfl (Nat.le_of_ble_eq_true rfl) hc ?_
      exact Ev_ret rfl rfl h
    · replace h := h.2 hc
      refine Ev_rn (q := (43, [(18, 400), (0, x1)], [(0, m 400 11), (0, 1), (18, 400)], m)) 3 rfl ?_
      obtain ⟨m4, hc, h⟩ := h
      refine Ev_call (rest := []) rfl rfl (Nat.le_of_ble_eq_true rfl) hc ?_
      refine Ev_rn (q := (45, [(18, 400), (0, x1)], [(18, 400)], m4)) 1 rfl ?_
      obtain ⟨m5, hc, h⟩ := h
      refine Ev_call (rest := []) rfl rfl (Nat.le_of_ble_eq_true rfl) hc ?_
      refine Ev_rn (q := (47, [(18, 400), (0, x1)], [(18, 400)], m5)) 1 rfl ?_
      obtain ⟨v6, m6, hc, h⟩ := h
      refine Ev_call (rest := []) rfl rfl (Nat.le_of_ble_eq_true rfl) hc ?_
      exact Ev_ret rfl rfl h
  · replace h := h.2 hc
    refine Ev_rn (q := (38, [(18, 400), (0, x1)], [(0, 1), (0, m 400 10), (0, 0), (18, 400)], m)) 5 rfl ?_
    refine Ev_icmp rfl (fun hc => ?_) (fun hc => ?_)
    · replace h := h.1 hc
      refine Ev_rn (q := (43, [(18, 400), (0, x1)], [(0, x1), (0, 0), (18, 400)], m)) 1 rfl ?_
      obtain ⟨m7, hc, h⟩ := h
      refine Ev_call (rest := []) rfl rfl (Nat.le_of_ble_eq_true rfl) hc ?_
      refine Ev_rn (q := (45, [(18, 400), (0, x1)], [(18, 400)], m7)) 1 rfl ?_
      obtain ⟨m8, hc, h⟩ := h
      refine Ev_call (rest := []) rfl rfl (Nat.le_of_ble_eq_true rfl) hc ?_
      refine Ev_rn (q := (47, [(18, 400), (0, x1)], [(18, 400)], m8)) 1 rfl ?_
      obtain ⟨v9, m9, hc, h⟩ := h
      refine Ev_call (rest := []) rfl rfl (Nat.le_of_ble_eq_true rfl) hc ?_
      exact Ev_ret rfl rfl h
    · replace h := h.2 hc
      refine Ev_rn (q := (43, [(18, 400), (0, x1)], [(0, m 400 11), (0, 0), (18, 400)], m)) 3 rfl ?_
      obtain ⟨m10, hc, h⟩ := h
      refine Ev_call (rest := []) rfl rfl (Nat.le_of_ble_eq_true rfl) hc ?_
      refine Ev_rn (q := (45, [(18, 400), (0, x1)], [(18, 400)], m10)) 1 rfl ?_
      obtain ⟨m11, hc, h⟩ := h
      refine Ev_call (rest := []) rfl rfl (Nat.le_of_ble_eq_true rfl) hc ?_
      refine Ev_rn (q := (47, [(18, 400), (0, x1)], [(18, 400)], m11)) 1 rfl ?_
      obtain ⟨v12, m12, hc, h⟩ := h
      refine Ev_call (rest := []) rfl rfl (Nat.le_of_ble_eq_true rfl) hc ?_
      exact Ev_ret rfl rfl h
theorem b_Mo_endOne {d : Nat} {r : Option Vv × Mm} {m : Mm} (h : ∃ (m1 : Mm), Cl d k_Mo_settle [(18, 400), (0, 7)] m (none, m1) ∧ (∀ m2 : Mm, m2 = up m1 400 19 1 → ((m2 400 17 = 0 → r = (some (0, 0), m2)) ∧ (¬ (m2 400 17 = 0) → (0 ≤ w32 ((m2 400 17) - 1) ∧ w32 ((m2 400 17) - 1) < 160) ∧ ((m2 406 (w32 ((m2 400 17) - 1)) = 41 → ∃ (v3 : Int) (m3 : Mm), Cl d k_Mo_w2 [(0, 111), (0, 102)] m2 (some (1, v3), m3) ∧ (∃ (v4 : Int) (m4 : Mm), Cl d k_Mo_isWord [(18, 400), (1, v3)] m3 (some (0, v4), m4) ∧ ((¬ v4 = 0 → ∃ (m5 : Mm), Cl d k_Mo_nextToken [(18, 400)] m4 (none, m5) ∧ ((0 ≤ w32 ((m5 400 17) - 1) ∧ w32 ((m5 400 17) - 1) < 160) ∧ (∀ m6 : Mm, m6 = up m5 406 (w32 ((m5 400 17) - 1)) 4 → (∀ m7 : Mm, m7 = up m6 400 19 0 → (r = (some (0, 0), m7)))))) ∧ (¬ (¬ v4 = 0) → r = (some (0, 1), m4))))) ∧ (¬ (m2 406 (w32 ((m2 400 17) - 1)) = 41) → r = (some (0, 0), m2))))))) : Ev (d + 1) K_Mo_endOne 0 0 [(18, 400)] [] m r := by
  refine Ev_rn (q := (2, [(18, 400)], [(0, 7), (18, 400)], m)) 2 rfl ?_
  obtain ⟨m1, hc, h⟩ := h
  refine Ev_call (rest := []) rfl rfl (Nat.le_of_ble_eq_true rfl) hc ?_
  refine Ev_rn (q := (5, [(18, 400)], [(0, 1), (18, 400)], m1)) 2 rfl ?_
  refine Ev_ptz (c := 8) (k := 19) rfl (by decide) (by decide) ?_
  generalize e2 : up m1 400 19 1 = m2
  replace h := h m2 e2.symm
  refine Ev_rn (q := (8, [(18, 400)], [(0, m2 400 17)], m2)) 2 rfl ?_
  refine Ev_if rfl (fun hc => ?_) (fun hc => ?_)
  · replace h := h.1 hc
    refine Ev_rn (q := (19, [(18, 400)], [(0, 0)], m2)) 1 rfl ?_
    exact Ev_ret rfl rfl h
  · replace h := h.2 hc
    refine Ev_rn (q := (15, [(18, 400)], [(0, w32 ((m2 400 17) - 1)), (1380, 406)], m2)) 6 rfl ?_
    obtain ⟨hc, h⟩ := h
    refine Ev_iald (n := 160) rfl (by decide) (by decide) hc ?_
    refine Ev_rn (q := (17, [(18, 400)], [(0, 41), (0, m2 406 (w32 ((m2 400 17) - 1)))], m2)) 1 rfl ?_
    refine Ev_icmp rfl (fun hc => ?_) (fun hc => ?_)
    · replace h := h.1 hc
      refine Ev_rn (q := (23, [(18, 400)], [(0, 102), (0, 111), (18, 400)], m2)) 3 rfl ?_
      obtain ⟨v3, m3, hc, h⟩ := h
      refine Ev_call (rest := [(18, 400)]) rfl rfl (Nat.le_of_ble_eq_true rfl) hc ?_
      obtain ⟨v4, m4, hc, h⟩ := h
      refine Ev_call (rest := []) rfl rfl (Nat.le_of_ble_eq_true rfl) hc ?_
      refine Ev_if rfl (fun hc => ?_) (fun hc => ?_)
      · replace h := h.1 hc
        refine Ev_rn (q := (29, [(18, 400)], [(18, 400)], m4)) 1 rfl ?_
        obtain ⟨m5, hc, h⟩ := h
        refine Ev_call (rest := []) rfl rfl (Nat.le_of_ble_eq_true rfl) hc ?_
        refine Ev_rn (q := (37, [(18, 400)], [(0, 4), (0, w32 ((m5 400 17) - 1)), (1380, 406)], m5)) 7 rfl ?_
        obtain ⟨hc, h⟩ := h
        refine Ev_iast (n := 160) rfl (by decide) (by decide) hc ?_
        generalize e6 : up m5 406 (w32 ((m5 400 17) - 1)) 4 = m6
        replace h := h m6 e6.symm
        refine Ev_rn (q := (40, [(18, 400)], [(0, 0), (18, 400)], m6)) 2 rfl ?_
        refine Ev_ptz (c := 8) (k := 19) rfl (by decide) (by decide) ?_
        generalize e7 : up m6 400 19 0 = m7
        replace h := h m7 e7.symm
        refine Ev_rn (q := (42, [(18, 400)], [(0, 0)], m7)) 1 rfl ?_
        exact Ev_ret rfl rfl h
      · replace h := h.2 hc
        refine Ev_rn (q := (27, [(18, 400)], [(0, 1)], m4)) 1 rfl ?_
        exact Ev_ret rfl rfl h
    · replace h := h.2 hc
      refine Ev_rn (q := (19, [(18, 400)], [(0, 0)], m2)) 1 rfl ?_
      exact Ev_ret rfl rfl h
theorem b_Mo_compareOf {d : Nat} {r : Option Vv × Mm} {m : Mm} (h : (¬ m 400 10 = 60 → (¬ m 400 10 = 4 → (¬ m 400 10 = 62 → (¬ m 400 10 = 5 → (¬ m 400 10 = 61 → (¬ m 400 10 = 35 → r = (some (0, (-1)), m)) ∧ (¬ (¬ m 400 10 = 35) → r = (some (0, 15), m))) ∧ (¬ (¬ m 400 10 = 61) → r = (some (0, 14), m))) ∧ (¬ (¬ m 400 10 = 5) → r = (some (0, 13), m))) ∧ (¬ (¬ m 400 10 = 62) → r = (some (0, 12), m))) ∧ (¬ (¬ m 400 10 = 4) → r = (some (0, 11), m))) ∧ (¬ (¬ m 400 10 = 60) → r = (some (0, 10), m))) : Ev d K_Mo_compareOf 0 0 [(18, 400)] [] m r := by
  refine Ev_rn (q := (3, [(18, 400)], [(0, 60), (0, m 400 10)], m)) 3 rfl ?_
  refine Ev_icmp rfl (fun hc => ?_) (fun hc => ?_)
  · replace h := h.1 hc
    refine Ev_rn (q := (9, [(18, 400)], [(0, 4), (0, m 400 10)], m)) 3 rfl ?_
    refine Ev_icmp rfl (fun hc => ?_) (fun hc => ?_)
    · replace h := h.1 hc
      refine Ev_rn (q := (15, [(18, 400)], [(0, 62), (0, m 400 10)], m)) 3 rfl ?_
      refine Ev_icmp rfl (fun hc => ?_) (fun hc => ?_)
      · replace h := h.1 hc
        refine Ev_rn (q := (21, [(18, 400)], [(0, 5), (0, m 400 10)], m)) 3 rfl ?_
        refine Ev_icmp rfl (fun hc => ?_) (fun hc => ?_)
        · replace h := h.1 hc
          refine Ev_rn (q := (27, [(18, 400)], [(0, 61), (0, m 400 10)], m)) 3 rfl ?_
          refine Ev_icmp rfl (fun hc => ?_) (fun hc => ?_)
          · replace h := h.1 hc
            refine Ev_rn (q := (33, [(18, 400)], [(0, 35), (0, m 400 10)], m)) 3 rfl ?_
            refine Ev_icmp rfl (fun hc => ?_) (fun hc => ?_)
            · replace h := h.1 hc
              refine Ev_rn (q := (37, [(18, 400)], [(0, (-1))], m)) 1 rfl ?_
              exact Ev_ret rfl rfl h
            · replace h := h.2 hc
              refine Ev_rn (q := (37, [(18, 400)], [(0, 15)], m)) 2 rfl ?_
              exact Ev_ret rfl rfl h
          · replace h := h.2 hc
            refine Ev_rn (q := (37, [(18, 400)], [(0, 14)], m)) 2 rfl ?_
            exact Ev_ret rfl rfl h
        · replace h := h.2 hc
          refine Ev_rn (q := (37, [(18, 400)], [(0, 13)], m)) 2 rfl ?_
          exact Ev_ret rfl rfl h
      · replace h := h.2 hc
        refine Ev_rn (q := (37, [(18, 400)], [(0, 12)], m)) 2 rfl ?_
        exact Ev_ret rfl rfl h
    · replace h := h.2 hc
      refine Ev_rn (q := (37, [(18, 400)], [(0, 11)], m)) 2 rfl ?_
      exact Ev_ret rfl rfl h
  · replace h := h.2 hc
    refine Ev_rn (q := (37, [(18, 400)], [(0, 10)], m)) 2 rfl ?_
    exact Ev_ret rfl rfl h
theorem b_Mo_betweenOf {d : Nat} {r : Option Vv × Mm} {m : Mm} (h : (¬ m 400 10 = 43 → (¬ m 400 10 = 45 → (¬ m 400 10 = 42 → (¬ m 400 10 = 47 → ∃ (v1 : Int) (m1 : Mm), Cl d k_Mo_openNow [(18, 400)] m (some (0, v1), m1) ∧ ((v1 = 42 → ∃ (v2 : Int) (m2 : Mm), Cl d k_Mo_isCompared [(18, 400)] m1 (some (0, v2), m2) ∧ ((¬ v2 = 0 → ∃ (v3 : Int) (m3 : Mm), Cl d k_Mo_w3 [(0, 97), (0, 110), (0, 100)] m2 (some (1, v3), m3) ∧ (∃ (v4 : Int) (m4 : Mm), Cl d k_Mo_isWord [(18, 400), (1, v3)] m3 (some (0, v4), m4) ∧ ((v4 = 0 → ∃ (v5 : Int) (m5 : Mm), Cl d k_Mo_w2 [(0, 111), (0, 114)] m4 (some (1, v5), m5) ∧ (∃ (v6 : Int) (m6 : Mm), Cl d k_Mo_isWord [(18, 400), (1, v5)] m5 (some (0, v6), m6) ∧ ((v6 = 0 → r = (some (0, (-1)), m6)) ∧ (¬ (v6 = 0) → r = (some (0, 22), m6))))) ∧ (¬ (v4 = 0) → r = (some (0, 21), m4))))) ∧ (¬ (¬ v2 = 0) → ∃ (v7 : Int) (m7 : Mm), Cl d k_Mo_compareOf [(18, 400)] m2 (some (0, v7), m7) ∧ (r = (some (0, v7), m7))))) ∧ (¬ (v1 = 42) → r = (some (0, (-1)), m1)))) ∧ (¬ (¬ m 400 10 = 47) → r = (some (0, 9), m))) ∧ (¬ (¬ m 400 10 = 42) → r = (some (0, 8), m))) ∧ (¬ (¬ m 400 10 = 45) → r = (some (0, 7), m))) ∧ (¬ (¬ m 400 10 = 43) → r = (some (0, 6), m))) : Ev (d + 1) K_Mo_betweenOf 0 0 [(18, 400)] [] m r := by
  refine Ev_rn (q := (3, [(18, 400)], [(0, 43), (0, m 400 10)], m)) 3 rfl ?_
  refine Ev_icmp rfl (fun hc => ?_) (fun hc => ?_)
  · replace h := h.1 hc
    refine Ev_rn (q := (9, [(18, 400)], [(0, 45), (0, m 400 10)], m)) 3 rfl ?_
    refine Ev_icmp rfl (fun hc => ?_) (fun hc => ?_)
    · replace h := h.1 hc
      refine Ev_rn (q := (15, [(18, 400)], [(0, 42), (0, m 400 10)], m)) 3 rfl ?_
      refine Ev_icmp rfl (fun hc => ?_) (fun hc => ?_)
      · replace h := h.1 hc
        refine Ev_rn (q := (21, [(18, 400)], [(0, 47), (0, m 400 10)], m)) 3 rfl ?_
        refine Ev_icmp rfl (fun hc => ?_) (fun hc => ?_)
        · replace h := h.1 hc
          refine Ev_rn (q := (25, [(18, 400)], [(18, 400)], m)) 1 rfl ?_
          obtain ⟨v1, m1, hc, h⟩ := h
          refine Ev_call (rest := []) rfl rfl (Nat.le_of_ble_eq_true rfl) hc ?_
          refine Ev_rn (q := (27, [(18, 400)], [(0, 42), (0, v1)], m1)) 1 rfl ?_
          refine Ev_icmp rfl (fun hc => ?_) (fun hc => ?_)
          · replace h := h.1 hc
            refine Ev_rn (q := (31, [(18, 400)], [(18, 400)], m1)) 1 rfl ?_
            obtain ⟨v2, m2, hc, h⟩ := h
            refine Ev_call (rest := []) rfl rfl (Nat.le_of_ble_eq_true rfl) hc ?_
            refine Ev_if rfl (fun hc => ?_) (fun hc => ?_)
            · replace h := h.1 hc
              refine Ev_rn (q := (40, [(18, 400)], [(0, 100), (0, 110), (0, 97), (18, 400)], m2)) 4 rfl ?_
              obtain ⟨v3, m3, hc, h⟩ := h
              refine Ev_call (rest := [(18, 400)]) rfl rfl (Nat.le_of_ble_eq_true rfl) hc ?_
              obtain ⟨v4, m4, hc, h⟩ := h
              refine Ev_call (rest := []) rfl rfl (Nat.le_of_ble_eq_true rfl) hc ?_
              refine Ev_if rfl (fun hc => ?_) (fun hc => ?_)
              · replace h := h.1 hc
                refine Ev_rn (q := (48, [(18, 400)], [(0, 114), (0, 111), (18, 400)], m4)) 3 rfl ?_
                obtain ⟨v5, m5, hc, h⟩ := h
                refine Ev_call (rest := [(18, 400)]) rfl rfl (Nat.le_of_ble_eq_true rfl) hc ?_
                obtain ⟨v6, m6, hc, h⟩ := h
                refine Ev_call (rest := []) rfl rfl (Nat.le_of_ble_eq_true rfl) hc ?_
                refine Ev_if rfl (fun hc => ?_) (fun hc => ?_)
                · replace h := h.1 hc
                  refine Ev_rn (q := (54, [(18, 400)], [(0, (-1))], m6)) 1 rfl ?_
                  exact Ev_ret rfl rfl h
                · replace h := h.2 hc
                  refine Ev_rn (q := (54, [(18, 400)], [(0, 22)], m6)) 2 rfl ?_
                  exact Ev_ret rfl rfl h
              · replace h := h.2 hc
                refine Ev_rn (q := (54, [(18, 400)], [(0, 21)], m4)) 2 rfl ?_
                exact Ev_ret rfl rfl h
            · replace h := h.2 hc
              refine Ev_rn (q := (34, [(18, 400)], [(18, 400)], m2)) 1 rfl ?_
              obtain ⟨v7, m7, hc, h⟩ := h
              refine Ev_call (rest := []) rfl rfl (Nat.le_of_ble_eq_true rfl) hc ?_
              exact Ev_ret rfl rfl h
          · replace h := h.2 hc
            refine Ev_rn (q := (29, [(18, 400)], [(0, (-1))], m1)) 1 rfl ?_
            exact Ev_ret rfl rfl h
        · replace h := h.2 hc
          refine Ev_rn (q := (23, [(18, 400)], [(0, 9)], m)) 1 rfl ?_
          exact Ev_ret rfl rfl h
      · replace h := h.2 hc
        refine Ev_rn (q := (17, [(18, 400)], [(0, 8)], m)) 1 rfl ?_
        exact Ev_ret rfl rfl h
    · replace h := h.2 hc
      refine Ev_rn (q := (11, [(18, 400)], [(0, 7)], m)) 1 rfl ?_
      exact Ev_ret rfl rfl h
  · replace h := h.2 hc
    refine Ev_rn (q := (5, [(18, 400)], [(0, 6)], m)) 1 rfl ?_
    exact Ev_ret rfl rfl h
theorem b_Mo_partOf {d : Nat} {r : Option Vv × Mm} {m : Mm} {x1 : Int} (h : (x1 = 40 → (¬ m 400 10 = 41 → r = (some (0, (-1)), m)) ∧ (¬ (¬ m 400 10 = 41) → r = (some (0, 0), m))) ∧ (¬ x1 = 40 → (x1 = 41 → r = (some (0, (-1)), m)) ∧ (¬ x1 = 41 → (x1 = 42 → ∃ (v1 : Int) (m1 : Mm), Cl d k_Mo_w4 [(0, 116), (0, 104), (0, 101), (0, 110)] m (some (1, v1), m1) ∧ (∃ (v2 : Int) (m2 : Mm), Cl d k_Mo_isWord [(18, 400), (1, v1)] m1 (some (0, v2), m2) ∧ ((v2 = 0 → r = (some (0, (-1)), m2)) ∧ (¬ (v2 = 0) → ∃ (v3 : Int) (m3 : Mm), Cl d k_Mo_isCompared [(18, 400)] m2 (some (0, v3), m3) ∧ ((v3 = 0 → r = (some (0, (-1)), m3)) ∧ (¬ (v3 = 0) → r = (some (0, 43), m3))))))) ∧ (¬ x1 = 42 → (x1 = 43 → ∃ (v4 : Int) (m4 : Mm), Cl d k_Mo_w4 [(0, 101), (0, 108), (0, 115), (0, 101)] m (some (1, v4), m4) ∧ (∃ (v5 : Int) (m5 : Mm), Cl d k_Mo_isWord [(18, 400), (1, v4)] m4 (some (0, v5), m5) ∧ ((v5 = 0 → r = (some (0, (-1)), m5)) ∧ (¬ (v5 = 0) → r = (some (0, 44), m5))))) ∧ (¬ x1 = 43 → (x1 = 44 → ∃ (v6 : Int) (m6 : Mm), Cl d k_Mo_w3 [(0, 101), (0, 110), (0, 100)] m (some (1, v6), m6) ∧ (∃ (v7 : Int) (m7 : Mm), Cl d k_Mo_isWord [(18, 400), (1, v6)] m6 (some (0, v7), m7) ∧ ((v7 = 0 → r = (some (0, (-1)), m7)) ∧ (¬ (v7 = 0) → r = (some (0, 0), m7))))) ∧ (¬ x1 = 44 → r = (some (0, (-1)), m))))))) : Ev (d + 1) K_Mo_partOf 0 0 [(18, 400), (0, x1)] [] m r := by
  refine Ev_rn (q := (1, [(18, 400), (0, x1)], [(0, x1)], m)) 1 rfl ?_
  refine Ev_tsw rfl ?_
  refine ⟨fun hc => ?_, fun hc => ?_⟩
  · replace h := h.1 hc
    refine Ev_rn (q := (5, [(18, 400), (0, x1)], [(0, 41), (0, m 400 10)], m)) 3 rfl ?_
    refine Ev_icmp rfl (fun hc => ?_) (fun hc => ?_)
    · replace h := h.1 hc
      refine Ev_rn (q := (9, [(18, 400), (0, x1)], [(0, (-1))], m)) 1 rfl ?_
      exact Ev_ret rfl rfl h
    · replace h := h.2 hc
      refine Ev_rn (q := (9, [(18, 400), (0, x1)], [(0, 0)], m)) 2 rfl ?_
      exact Ev_ret rfl rfl h
  · replace h := h.2 hc
    refine ⟨fun hc => ?_, fun hc => ?_⟩
    · replace h := h.1 hc
      refine Ev_rn (q := (49, [(18, 400), (0, x1)], [(0, (-1))], m)) 1 rfl ?_
      exact Ev_ret rfl rfl h
    · replace h := h.2 hc
      refine ⟨fun hc => ?_, fun hc => ?_⟩
      · replace h := h.1 hc
        refine Ev_rn (q := (15, [(18, 400), (0, x1)], [(0, 110), (0, 101), (0, 104), (0, 116), (18, 400)], m)) 5 rfl ?_
        obtain ⟨v1, m1, hc, h⟩ := h
        refine Ev_call (rest := [(18, 400)]) rfl rfl (Nat.le_of_ble_eq_true rfl) hc ?_
        obtain ⟨v2, m2, hc, h⟩ := h
        refine Ev_call (rest := []) rfl rfl (Nat.le_of_ble_eq_true rfl) hc ?_
        refine Ev_if rfl (fun hc => ?_) (fun hc => ?_)
        · replace h := h.1 hc
          refine Ev_rn (q := (24, [(18, 400), (0, x1)], [(0, (-1))], m2)) 1 rfl ?_
          exact Ev_ret rfl rfl h
        · replace h := h.2 hc
          refine Ev_rn (q := (19, [(18, 400), (0, x1)], [(18, 400)], m2)) 1 rfl ?_
          obtain ⟨v3, m3, hc, h⟩ := h
          refine Ev_call (rest := []) rfl rfl (Nat.le_of_ble_eq_true rfl) hc ?_
          refine Ev_if rfl (fun hc => ?_) (fun hc => ?_)
          · replace h := h.1 hc
            refine Ev_rn (q := (24, [(18, 400), (0, x1)], [(0, (-1))], m3)) 1 rfl ?_
            exact Ev_ret rfl rfl h
          · replace h := h.2 hc
            refine Ev_rn (q := (24, [(18, 400), (0, x1)], [(0, 43)], m3)) 2 rfl ?_
            exact Ev_ret rfl rfl h
      · replace h := h.2 hc
        refine ⟨fun hc => ?_, fun hc => ?_⟩
        · replace h := h.1 hc
          refine Ev_rn (q := (30, [(18, 400), (0, x1)], [(0, 101), (0, 115), (0, 108), (0, 101), (18, 400)], m)) 5 rfl ?_
          obtain ⟨v4, m4, hc, h⟩ := h
          refine Ev_call (rest := [(18, 400)]) rfl rfl (Nat.le_of_ble_eq_true rfl) hc ?_
          obtain ⟨v5, m5, hc, h⟩ := h
          refine Ev_call (rest := []) rfl rfl (Nat.le_of_ble_eq_true rfl) hc ?_
          refine Ev_if rfl (fun hc => ?_) (fun hc => ?_)
          · replace h := h.1 hc
            refine Ev_rn (q := (36, [(18, 400), (0, x1)], [(0, (-1))], m5)) 1 rfl ?_
            exact Ev_ret rfl rfl h
          · replace h := h.2 hc
            refine Ev_rn (q := (36, [(18, 400), (0, x1)], [(0, 44)], m5)) 2 rfl ?_
            exact Ev_ret rfl rfl h
        · replace h := h.2 hc
          refine ⟨fun hc => ?_, fun hc => ?_⟩
          · replace h := h.1 hc
            refine Ev_rn (q := (41, [(18, 400), (0, x1)], [(0, 100), (0, 110), (0, 101), (18, 400)], m)) 4 rfl ?_
            obtain ⟨v6, m6, hc, h⟩ := h
            refine Ev_call (rest := [(18, 400)]) rfl rfl (Nat.le_of_ble_eq_true rfl) hc ?_
            obtain ⟨v7, m7, hc, h⟩ := h
            refine Ev_call (rest := []) rfl rfl (Nat.le_of_ble_eq_true rfl) hc ?_
            refine Ev_if rfl (fun hc => ?_) (fun hc => ?_)
            · replace h := h.1 hc
              refine Ev_rn (q := (47, [(18, 400), (0, x1)], [(0, (-1))], m7)) 1 rfl ?_
              exact Ev_ret rfl rfl h
            · replace h := h.2 hc
              refine Ev_rn (q := (47, [(18, 400), (0, x1)], [(0, 0)], m7)) 2 rfl ?_
              exact Ev_ret rfl rfl h
          · replace h := h.2 hc
            refine Ev_rn (q := (49, [(18, 400), (0, x1)], [(0, (-1))], m)) 1 rfl ?_
            exact Ev_ret rfl rfl h
theorem b_Mo_behindOne {d : Nat} {r : Option Vv × Mm} {m : Mm} (h : ∃ (v1 : Int) (m1 : Mm), Cl d k_Mo_betweenOf [(18, 400)] m (some (0, v1), m1) ∧ ((v1 < 0 → ∃ (v2 : Int) (m2 : Mm), Cl d k_Mo_openNow [(18, 400)] m1 (some (0, v2), m2) ∧ (∃ (v3 : Int) (m3 : Mm), Cl d k_Mo_partOf [(18, 400), (0, v2)] m2 (some (0, v3), m3) ∧ ((0 ≤ v3 → ∃ (m4 : Mm), Cl d k_Mo_settle [(18, 400), (0, 1)] m3 (none, m4) ∧ (∃ (m5 : Mm), Cl d k_Mo_nextToken [(18, 400)] m4 (none, m5) ∧ ((¬ v3 = 0 → ∃ (v6 : Int) (m6 : Mm), Cl d k_Mo_openAt [(18, 400)] m5 (some (0, v6), m6) ∧ ((0 ≤ v6 ∧ v6 < 160) ∧ (∀ m7 : Mm, m7 = up m6 406 v6 v3 → (∀ m8 : Mm, m8 = up m7 400 19 0 → (r = (some (0, 0), m8)))))) ∧ (¬ (¬ v3 = 0) → ∀ m9 : Mm, m9 = up m5 400 18 (w32 ((m5 400 18) - 1)) → (∀ m10 : Mm, m10 = up m9 400 17 (w32 ((m9 400 17) - 1)) → ((¬ v2 = 44 → ∃ (v11 : Int) (m11 : Mm), Cl d k_Mo_endOne [(18, 400)] m10 (some (0, v11), m11) ∧ (r = (some (0, v11), m11))) ∧ (¬ (¬ v2 = 44) → ∃ (m12 : Mm), Cl d k_Mo_emit [(18, 400), (0, 3), (0, 0)] m10 (none, m12) ∧ (∃ (v13 : Int) (m13 : Mm), Cl d k_Mo_endOne [(18, 400)] m12 (some (0, v13), m13) ∧ (r = (some (0, v13), m13)))))))))) ∧ (¬ (0 ≤ v3) → r = (some (0, (-1)), m3))))) ∧ (¬ (v1 < 0) → ∃ (v14 : Int) (m14 : Mm), Cl d k_Mo_rank [(0, v1)] m1 (some (0, v14), m14) ∧ ((¬ v14 = 4 → ∃ (v15 : Int) (m15 : Mm), Cl d k_Mo_rank [(0, v1)] m14 (some (0, v15), m15) ∧ (∃ (m16 : Mm), Cl d k_Mo_settle [(18, 400), (0, v15)] m15 (none, m16) ∧ ((0 ≤ m16 400 17 ∧ m16 400 17 < 160) ∧ (∀ m17 : Mm, m17 = up m16 406 (m16 400 17) v1 → (∀ m18 : Mm, m18 = up m17 400 17 (w32 ((m17 400 17) + 1)) → (∀ m19 : Mm, m19 = up m18 400 19 0 → (∃ (m20 : Mm), Cl d k_Mo_nextToken [(18, 400)] m19 (none, m20) ∧ (r = (some (0, 0), m20))))))))) ∧ (¬ (¬ v14 = 4) → ∃ (m21 : Mm), Cl d k_Mo_settle [(18, 400), (0, 5)] m14 (none, m21) ∧ ((0 ≤ m21 400 17 ∧ m21 400 17 < 160) ∧ (∀ m22 : Mm, m22 = up m21 406 (m21 400 17) v1 → (∀ m23 : Mm, m23 = up m22 400 17 (w32 ((m22 400 17) + 1)) → (∀ m24 : Mm, m24 = up m23 400 19 0 → (∃ (m25 : Mm), Cl d k_Mo_nextToken [(18, 400)] m24 (none, m25) ∧ (r = (some (0, 0), m25)))))))))))) : Ev (d + 1) K_Mo_behindOne 0 0 [(18, 400), (9, 0), (9, 0), (9, 0)] [] m r := by
  refine Ev_rn (q := (1, [(18, 400), (9, 0), (9, 0), (9, 0)], [(18, 400)], m)) 1 rfl ?_
  obtain ⟨v1, m1, hc, h⟩ := h
  refine Ev_call (rest := []) rfl rfl (Nat.le_of_ble_eq_true rfl) hc ?_
  refine Ev_rn (q := (4, [(18, 400), (0, v1), (9, 0), (9, 0)], [(0, v1)], m1)) 2 rfl ?_
  refine Ev_if rfl (fun hc => ?_) (fun hc => ?_)
  · replace h := h.1 hc
    refine Ev_rn (q := (35, [(18, 400), (0, v1), (9, 0), (9, 0)], [(18, 400)], m1)) 1 rfl ?_
    obtain ⟨v2, m2, hc, h⟩ := h
    refine Ev_call (rest := []) rfl rfl (Nat.le_of_ble_eq_true rfl) hc ?_
    refine Ev_rn (q := (39, [(18, 400), (0, v1), (0, v2), (9, 0)], [(0, v2), (18, 400)], m2)) 3 rfl ?_
    obtain ⟨v3, m3, hc, h⟩ := h
    refine Ev_call (rest := []) rfl rfl (Nat.le_of_ble_eq_true rfl) hc ?_
    refine Ev_rn (q := (42, [(18, 400), (0, v1), (0, v2), (0, v3)], [(0, v3)], m3)) 2 rfl ?_
    refine Ev_if rfl (fun hc => ?_) (fun hc => ?_)
    · replace h := h.1 hc
      refine Ev_rn (q := (47, [(18, 400), (0, v1), (0, v2), (0, v3)], [(0, 1), (18, 400)], m3)) 2 rfl ?_
      obtain ⟨m4, hc, h⟩ := h
      refine Ev_call (rest := []) rfl rfl (Nat.le_of_ble_eq_true rfl) hc ?_
      refine Ev_rn (q := (49, [(18, 400), (0, v1), (0, v2), (0, v3)], [(18, 400)], m4)) 1 rfl ?_
      obtain ⟨m5, hc, h⟩ := h
      refine Ev_call (rest := []) rfl rfl (Nat.le_of_ble_eq_true rfl) hc ?_
      refine Ev_rn (q := (51, [(18, 400), (0, v1), (0, v2), (0, v3)], [(0, v3)], m5)) 1 rfl ?_
      refine Ev_if rfl (fun hc => ?_) (fun hc => ?_)
      · replace h := h.1 hc
        refine Ev_rn (q := (77, [(18, 400), (0, v1), (0, v2), (0, v3)], [(18, 400), (1380, 406)], m5)) 3 rfl ?_
        obtain ⟨v6, m6, hc, h⟩ := h
        refine Ev_call (rest := [(1380, 406)]) rfl rfl (Nat.le_of_ble_eq_true rfl) hc ?_
        refine Ev_rn (q := (79, [(18, 400), (0, v1), (0, v2), (0, v3)], [(0, v3), (0, v6), (1380, 406)], m6)) 1 rfl ?_
        obtain ⟨hc, h⟩ := h
        refine Ev_iast (n := 160) rfl (by decide) (by decide) hc ?_
        generalize e7 : up m6 406 v6 v3 = m7
        replace h := h m7 e7.symm
        refine Ev_rn (q := (82, [(18, 400), (0, v1), (0, v2), (0, v3)], [(0, 0), (18, 400)], m7)) 2 rfl ?_
        refine Ev_ptz (c := 8) (k := 19) rfl (by decide) (by decide) ?_
        generalize e8 : up m7 400 19 0 = m8
        replace h := h m8 e8.symm
        refine Ev_rn (q := (84, [(18, 400), (0, v1), (0, v2), (0, v3)], [(0, 0)], m8)) 1 rfl ?_
        exact Ev_ret rfl rfl h
      · replace h := h.2 hc
        refine Ev_rn (q := (58, [(18, 400), (0, v1), (0, v2), (0, v3)], [], up m5 400 18 (w32 ((m5 400 18) - 1)))) 6 rfl ?_
        generalize e9 : up m5 400 18 (w32 ((m5 400 18) - 1)) = m9
        replace h := h m9 e9.symm
        refine Ev_rn (q := (64, [(18, 400), (0, v1), (0, v2), (0, v3)], [], up m9 400 17 (w32 ((m9 400 17) - 1)))) 6 rfl ?_
        generalize e10 : up m9 400 17 (w32 ((m9 400 17) - 1)) = m10
        replace h := h m10 e10.symm
        refine Ev_rn (q := (66, [(18, 400), (0, v1), (0, v2), (0, v3)], [(0, 44), (0, v2)], m10)) 2 rfl ?_
        refine Ev_icmp rfl (fun hc => ?_) (fun hc => ?_)
        · replace h := h.1 hc
          refine Ev_rn (q := (72, [(18, 400), (0, v1), (0, v2), (0, v3)], [(18, 400)], m10)) 1 rfl ?_
          obtain ⟨v11, m11, hc, h⟩ := h
          refine Ev_call (rest := []) rfl rfl (Nat.le_of_ble_eq_true rfl) hc ?_
          exact Ev_ret rfl rfl h
        · replace h := h.2 hc
          refine Ev_rn (q := (70, [(18, 400), (0, v1), (0, v2), (0, v3)], [(0, 0), (0, 3), (18, 400)], m10)) 3 rfl ?_
          obtain ⟨m12, hc, h⟩ := h
          refine Ev_call (rest := []) rfl rfl (Nat.le_of_ble_eq_true rfl) hc ?_
          refine Ev_rn (q := (72, [(18, 400), (0, v1), (0, v2), (0, v3)], [(18, 400)], m12)) 1 rfl ?_
          obtain ⟨v13, m13, hc, h⟩ := h
          refine Ev_call (rest := []) rfl rfl (Nat.le_of_ble_eq_true rfl) hc ?_
          exact Ev_ret rfl rfl h
    · replace h := h.2 hc
      refine Ev_rn (q := (44, [(18, 400), (0, v1), (0, v2), (0, v3)], [(0, (-1))], m3)) 1 rfl ?_
      exact Ev_ret rfl rfl h
  · replace h := h.2 hc
    refine Ev_rn (q := (7, [(18, 400), (0, v1), (9, 0), (9, 0)], [(0, v1), (18, 400)], m1)) 2 rfl ?_
    obtain ⟨v14, m14, hc, h⟩ := h
    refine Ev_call (rest := [(18, 400)]) rfl rfl (Nat.le_of_ble_eq_true rfl) hc ?_
    refine Ev_rn (q := (9, [(18, 400), (0, v1), (9, 0), (9, 0)], [(0, 4), (0, v14), (18, 400)], m14)) 1 rfl ?_
    refine Ev_icmp rfl (fun hc => ?_) (fun hc => ?_)
    · replace h := h.1 hc
      refine Ev_rn (q := (13, [(18, 400), (0, v1), (9, 0), (9, 0)], [(0, v1), (18, 400)], m14)) 1 rfl ?_
      obtain ⟨v15, m15, hc, h⟩ := h
      refine Ev_call (rest := [(18, 400)]) rfl rfl (Nat.le_of_ble_eq_true rfl) hc ?_
      obtain ⟨m16, hc, h⟩ := h
      refine Ev_call (rest := []) rfl rfl (Nat.le_of_ble_eq_true rfl) hc ?_
      refine Ev_rn (q := (20, [(18, 400), (0, v1), (9, 0), (9, 0)], [(0, v1), (0, m16 400 17), (1380, 406)], m16)) 5 rfl ?_
      obtain ⟨hc, h⟩ := h
      refine Ev_iast (n := 160) rfl (by decide) (by decide) hc ?_
      generalize e17 : up m16 406 (m16 400 17) v1 = m17
      replace h := h m17 e17.symm
      refine Ev_rn (q := (27, [(18, 400), (0, v1), (9, 0), (9, 0)], [], up m17 400 17 (w32 ((m17 400 17) + 1)))) 6 rfl ?_
      generalize e18 : up m17 400 17 (w32 ((m17 400 17) + 1)) = m18
      replace h := h m18 e18.symm
      refine Ev_rn (q := (29, [(18, 400), (0, v1), (9, 0), (9, 0)], [(0, 0), (18, 400)], m18)) 2 rfl ?_
      refine Ev_ptz (c := 8) (k := 19) rfl (by decide) (by decide) ?_
      generalize e19 : up m18 400 19 0 = m19
      replace h := h m19 e19.symm
      refine Ev_rn (q := (31, [(18, 400), (0, v1), (9, 0), (9, 0)], [(18, 400)], m19)) 1 rfl ?_
      obtain ⟨m20, hc, h⟩ := h
      refine Ev_call (rest := []) rfl rfl (Nat.le_of_ble_eq_true rfl) hc ?_
      refine Ev_rn (q := (33, [(18, 400), (0, v1), (9, 0), (9, 0)], [(0, 0)], m20)) 1 rfl ?_
      exact Ev_ret rfl rfl h
    · replace h := h.2 hc
      refine Ev_rn (q := (14, [(18, 400), (0, v1), (9, 0), (9, 0)], [(0, 5), (18, 400)], m14)) 2 rfl ?_
      obtain ⟨m21, hc, h⟩ := h
      refine Ev_call (rest := []) rfl rfl (Nat.le_of_ble_eq_true rfl) hc ?_
      refine Ev_rn (q := (20, [(18, 400), (0, v1), (9, 0), (9, 0)], [(0, v1), (0, m21 400 17), (1380, 406)], m21)) 5 rfl ?_
      obtain ⟨hc, h⟩ := h
      refine Ev_iast (n := 160) rfl (by decide) (by decide) hc ?_
      generalize e22 : up m21 406 (m21 400 17) v1 = m22
      replace h := h m22 e22.symm
      refine Ev_rn (q := (27, [(18, 400), (0, v1), (9, 0), (9, 0)], [], up m22 400 17 (w32 ((m22 400 17) + 1)))) 6 rfl ?_
      generalize e23 : up m22 400 17 (w32 ((m22 400 17) + 1)) = m23
      replace h := h m23 e23.symm
      refine Ev_rn (q := (29, [(18, 400), (0, v1), (9, 0), (9, 0)], [(0, 0), (18, 400)], m23)) 2 rfl ?_
      refine Ev_ptz (c := 8) (k := 19) rfl (by decide) (by decide) ?_
      generalize e24 : up m23 400 19 0 = m24
      replace h := h m24 e24.symm
      refine Ev_rn (q := (31, [(18, 400), (0, v1), (9, 0), (9, 0)], [(18, 400)], m24)) 1 rfl ?_
      obtain ⟨m25, hc, h⟩ := h
      refine Ev_call (rest := []) rfl rfl (Nat.le_of_ble_eq_true rfl) hc ?_
      refine Ev_rn (q := (33, [(18, 400), (0, v1), (9, 0), (9, 0)], [(0, 0)], m25)) 1 rfl ?_
      exact Ev_ret rfl rfl h
theorem b_Mo_summed {d : Nat} {r : Option Vv × Mm} {m : Mm} (h : ∀ m1 : Mm, m1 = up m 400 17 0 → (∀ m2 : Mm, m2 = up m1 400 18 0 → (∀ m3 : Mm, m3 = up m2 400 19 0 → (Ev (d + 1) K_Mo_summed 0 9 [(18, 400), (9, 0)] [] m3 r)))) : Ev (d + 1) K_Mo_summed 0 0 [(18, 400), (9, 0)] [] m r := by
  refine Ev_rn (q := (3, [(18, 400), (9, 0)], [], up m 400 17 0)) 3 rfl ?_
  generalize e1 : up m 400 17 0 = m1
  replace h := h m1 e1.symm
  refine Ev_rn (q := (6, [(18, 400), (9, 0)], [], up m1 400 18 0)) 3 rfl ?_
  generalize e2 : up m1 400 18 0 = m2
  replace h := h m2 e2.symm
  refine Ev_rn (q := (8, [(18, 400), (9, 0)], [(0, 0), (18, 400)], m2)) 2 rfl ?_
  refine Ev_ptz (c := 8) (k := 19) rfl (by decide) (by decide) ?_
  generalize e3 : up m2 400 19 0 = m3
  replace h := h m3 e3.symm
  exact h
theorem b_Mo_summed_9 {d : Nat} {r : Option Vv × Mm} {m : Mm} {u1 : Vv} (h : (m 400 19 = 0 → ∃ (v1 : Int) (m1 : Mm), Cl d k_Mo_beginOne [(18, 400)] m (some (0, v1), m1) ∧ ((v1 ≤ 0 → (¬ v1 = 0 → ∃ (v2 : Int) (m2 : Mm), Cl d k_Mo_openNow [(18, 400)] m1 (some (0, v2), m2) ∧ ((v2 < 0 → ∃ (m3 : Mm), Cl d k_Mo_settle [(18, 400), (0, 1)] m2 (none, m3) ∧ (r = (some (0, 0), m3))) ∧ (¬ (v2 < 0) → r = (some (0, 1), m2)))) ∧ (¬ (¬ v1 = 0) → Ev (d + 1) K_Mo_summed 0 9 [(18, 400), (0, v1)] [] m1 r)) ∧ (¬ (v1 ≤ 0) → r = (some (0, v1), m1)))) ∧ (¬ (m 400 19 = 0) → ∃ (v4 : Int) (m4 : Mm), Cl d k_Mo_behindOne [(18, 400)] m (some (0, v4), m4) ∧ ((v4 ≤ 0 → (¬ v4 = 0 → ∃ (v5 : Int) (m5 : Mm), Cl d k_Mo_openNow [(18, 400)] m4 (some (0, v5), m5) ∧ ((v5 < 0 → ∃ (m6 : Mm), Cl d k_Mo_settle [(18, 400), (0, 1)] m5 (none, m6) ∧ (r = (some (0, 0), m6))) ∧ (¬ (v5 < 0) → r = (some (0, 1), m5)))) ∧ (¬ (¬ v4 = 0) → Ev (d + 1) K_Mo_summed 0 9 [(18, 400), (0, v4)] [] m4 r)) ∧ (¬ (v4 ≤ 0) → r = (some (0, v4), m4))))) : Ev (d + 1) K_Mo_summed 0 9 [(18, 400), u1] [] m r := by
  refine Ev_rn (q := (11, [(18, 400), u1], [(0, m 400 19)], m)) 2 rfl ?_
  refine Ev_if rfl (fun hc => ?_) (fun hc => ?_)
  · replace h := h.1 hc
    refine Ev_rn (q := (16, [(18, 400), u1], [(18, 400)], m)) 1 rfl ?_
    obtain ⟨v1, m1, hc, h⟩ := h
    refine Ev_call (rest := []) rfl rfl (Nat.le_of_ble_eq_true rfl) hc ?_
    refine Ev_rn (q := (19, [(18, 400), (0, v1)], [(0, v1)], m1)) 2 rfl ?_
    refine Ev_if rfl (fun hc => ?_) (fun hc => ?_)
    · replace h := h.1 hc
      refine Ev_rn (q := (23, [(18, 400), (0, v1)], [(0, v1)], m1)) 1 rfl ?_
      refine Ev_if rfl (fun hc => ?_) (fun hc => ?_)
      · replace h := h.1 hc
        refine Ev_rn (q := (26, [(18, 400), (0, v1)], [(18, 400)], m1)) 1 rfl ?_
        obtain ⟨v2, m2, hc, h⟩ := h
        refine Ev_call (rest := []) rfl rfl (Nat.le_of_ble_eq_true rfl) hc ?_
        refine Ev_if rfl (fun hc => ?_) (fun hc => ?_)
        · replace h := h.1 hc
          refine Ev_rn (q := (32, [(18, 400), (0, v1)], [(0, 1), (18, 400)], m2)) 2 rfl ?_
          obtain ⟨m3, hc, h⟩ := h
          refine Ev_call (rest := []) rfl rfl (Nat.le_of_ble_eq_true rfl) hc ?_
          refine Ev_rn (q := (34, [(18, 400), (0, v1)], [(0, 0)], m3)) 1 rfl ?_
          exact Ev_ret rfl rfl h
        · replace h := h.2 hc
          refine Ev_rn (q := (29, [(18, 400), (0, v1)], [(0, 1)], m2)) 1 rfl ?_
          exact Ev_ret rfl rfl h
      · replace h := h.2 hc
        refine Ev_rn (q := (9, [(18, 400), (0, v1)], [], m1)) 1 rfl ?_
        exact h
    · replace h := h.2 hc
      refine Ev_rn (q := (21, [(18, 400), (0, v1)], [(0, v1)], m1)) 1 rfl ?_
      exact Ev_ret rfl rfl h
  · replace h := h.2 hc
    refine Ev_rn (q := (13, [(18, 400), u1], [(18, 400)], m)) 1 rfl ?_
    obtain ⟨v4, m4, hc, h⟩ := h
    refine Ev_call (rest := []) rfl rfl (Nat.le_of_ble_eq_true rfl) hc ?_
    refine Ev_rn (q := (19, [(18, 400), (0, v4)], [(0, v4)], m4)) 3 rfl ?_
    refine Ev_if rfl (fun hc => ?_) (fun hc => ?_)
    · replace h := h.1 hc
      refine Ev_rn (q := (23, [(18, 400), (0, v4)], [(0, v4)], m4)) 1 rfl ?_
      refine Ev_if rfl (fun hc => ?_) (fun hc => ?_)
      · replace h := h.1 hc
        refine Ev_rn (q := (26, [(18, 400), (0, v4)], [(18, 400)], m4)) 1 rfl ?_
        obtain ⟨v5, m5, hc, h⟩ := h
        refine Ev_call (rest := []) rfl rfl (Nat.le_of_ble_eq_true rfl) hc ?_
        refine Ev_if rfl (fun hc => ?_) (fun hc => ?_)
        · replace h := h.1 hc
          refine Ev_rn (q := (32, [(18, 400), (0, v4)], [(0, 1), (18, 400)], m5)) 2 rfl ?_
          obtain ⟨m6, hc, h⟩ := h
          refine Ev_call (rest := []) rfl rfl (Nat.le_of_ble_eq_true rfl) hc ?_
          refine Ev_rn (q := (34, [(18, 400), (0, v4)], [(0, 0)], m6)) 1 rfl ?_
          exact Ev_ret rfl rfl h
        · replace h := h.2 hc
          refine Ev_rn (q := (29, [(18, 400), (0, v4)], [(0, 1)], m5)) 1 rfl ?_
          exact Ev_ret rfl rfl h
      · replace h := h.2 hc
        refine Ev_rn (q := (9, [(18, 400), (0, v4)], [], m4)) 1 rfl ?_
        exact h
    · replace h := h.2 hc
      refine Ev_rn (q := (21, [(18, 400), (0, v4)], [(0, v4)], m4)) 1 rfl ?_
      exact Ev_ret rfl rfl h
theorem b_Mo_figure {d : Nat} {r : Option Vv × Mm} {m : Mm} {x1 x2 x3 : Int} (h : (m 400 10 = 1 → ∃ (v1 : Int) (m1 : Mm), Cl d k_Mo_isIn [(0, m 400 11), (0, x2), (0, x3)] m (some (0, v1), m1) ∧ ((¬ v1 = 0 → (0 ≤ x1 ∧ x1 < 2724) ∧ (∀ m2 : Mm, m2 = up m1 403 x1 (m1 400 11) → (∃ (m3 : Mm), Cl d k_Mo_nextToken [(18, 400)] m2 (none, m3) ∧ (r = (some (0, 0), m3))))) ∧ (¬ (¬ v1 = 0) → r = (some (0, 2), m1)))) ∧ (¬ (m 400 10 = 1) → r = (some (0, 1), m))) : Ev (d + 1) K_Mo_figure 0 0 [(18, 400), (0, x1), (0, x2), (0, x3)] [] m r := by
  refine Ev_rn (q := (3, [(18, 400), (0, x1), (0, x2), (0, x3)], [(0, 1), (0, m 400 10)], m)) 3 rfl ?_
  refine Ev_icmp rfl (fun hc => ?_) (fun hc => ?_)
  · replace h := h.1 hc
    refine Ev_rn (q := (10, [(18, 400), (0, x1), (0, x2), (0, x3)], [(0, x3), (0, x2), (0, m 400 11)], m)) 4 rfl ?_
    obtain ⟨v1, m1, hc, h⟩ := h
    refine Ev_call (rest := []) rfl rfl (Nat.le_of_ble_eq_true rfl) hc ?_
    refine Ev_if rfl (fun hc => ?_) (fun hc => ?_)
    · replace h := h.1 hc
      refine Ev_rn (q := (19, [(18, 400), (0, x1), (0, x2), (0, x3)], [(0, m1 400 11), (0, x1), (21892, 403)], m1)) 5 rfl ?_
      obtain ⟨hc, h⟩ := h
      refine Ev_iast (n := 2724) rfl (by decide) (by decide) hc ?_
      generalize e2 : up m1 403 x1 (m1 400 11) = m2
      replace h := h m2 e2.symm
      refine Ev_rn (q := (21, [(18, 400), (0, x1), (0, x2), (0, x3)], [(18, 400)], m2)) 1 rfl ?_
      obtain ⟨m3, hc, h⟩ := h
      refine Ev_call (rest := []) rfl rfl (Nat.le_of_ble_eq_true rfl) hc ?_
      refine Ev_rn (q := (23, [(18, 400), (0, x1), (0, x2), (0, x3)], [(0, 0)], m3)) 1 rfl ?_
      exact Ev_ret rfl rfl h
    · replace h := h.2 hc
      refine Ev_rn (q := (13, [(18, 400), (0, x1), (0, x2), (0, x3)], [(0, 2)], m1)) 1 rfl ?_
      exact Ev_ret rfl rfl h
  · replace h := h.2 hc
    refine Ev_rn (q := (5, [(18, 400), (0, x1), (0, x2), (0, x3)], [(0, 1)], m)) 1 rfl ?_
    exact Ev_ret rfl rfl h
theorem b_Mo_lawClause {d : Nat} {r : Option Vv × Mm} {m : Mm} {x1 : Int} (h : (0 ≤ w32 (x1 + 1) ∧ w32 (x1 + 1) < 2724) ∧ (∀ m1 : Mm, m1 = up m 403 (w32 (x1 + 1)) (m 400 14) → (∃ (v2 : Int) (m2 : Mm), Cl d k_Mo_summed [(18, 400)] m1 (some (0, v2), m2) ∧ ((0 ≤ w32 (x1 + 2) ∧ w32 (x1 + 2) < 2724) ∧ (∀ m3 : Mm, m3 = up m2 403 (w32 (x1 + 2)) (m2 400 14) → (r = (some (0, v2), m3))))))) : Ev (d + 1) K_Mo_lawClause 0 0 [(18, 400), (0, x1), (9, 0)] [] m r := by
  refine Ev_rn (q := (7, [(18, 400), (0, x1), (9, 0)], [(0, m 400 14), (0, w32 (x1 + 1)), (21892, 403)], m)) 7 rfl ?_
  obtain ⟨hc, h⟩ := h
  refine Ev_iast (n := 2724) rfl (by decide) (by decide) hc ?_
  generalize e1 : up m 403 (w32 (x1 + 1)) (m 400 14) = m1
  replace h := h m1 e1.symm
  refine Ev_rn (q := (9, [(18, 400), (0, x1), (9, 0)], [(18, 400)], m1)) 1 rfl ?_
  obtain ⟨v2, m2, hc, h⟩ := h
  refine Ev_call (rest := []) rfl rfl (Nat.le_of_ble_eq_true rfl) hc ?_
  refine Ev_rn (q := (18, [(18, 400), (0, x1), (0, v2)], [(0, m2 400 14), (0, w32 (x1 + 2)), (21892, 403)], m2)) 8 rfl ?_
  obtain ⟨hc, h⟩ := h
  refine Ev_iast (n := 2724) rfl (by decide) (by decide) hc ?_
  generalize e3 : up m2 403 (w32 (x1 + 2)) (m2 400 14) = m3
  replace h := h m3 e3.symm
  refine Ev_rn (q := (20, [(18, 400), (0, x1), (0, v2)], [(0, v2)], m3)) 1 rfl ?_
  exact Ev_ret rfl rfl h
theorem b_Mo_pair {d : Nat} {r : Option Vv × Mm} {m : Mm} {x1 x2 x3 x5 : Int} (h : ∃ (v1 : Int) (m1 : Mm), Cl d k_Mo_figure [(18, 400), (0, w32 (x1 + 1)), (0, 0), (0, x2)] m (some (0, v1), m1) ∧ ((v1 = 0 → ∃ (v2 : Int) (m2 : Mm), Cl d k_Mo_isWord [(18, 400), (1, x3)] m1 (some (0, v2), m2) ∧ ((¬ v2 = 0 → ∃ (m3 : Mm), Cl d k_Mo_nextToken [(18, 400)] m2 (none, m3) ∧ (∃ (v4 : Int) (m4 : Mm), Cl d k_Mo_figure [(18, 400), (0, w32 (x1 + 2)), (0, 0), (0, x5)] m3 (some (0, v4), m4) ∧ (r = (some (0, v4), m4)))) ∧ (¬ (¬ v2 = 0) → r = (some (0, 1), m2)))) ∧ (¬ (v1 = 0) → r = (some (0, v1), m1)))) : Ev (d + 1) K_Mo_pair 0 0 [(18, 400), (0, x1), (0, x2), (1, x3), (9, 0), (0, x5), (9, 0)] [] m r := by
  refine Ev_rn (q := (6, [(18, 400), (0, x1), (0, x2), (1, x3), (9, 0), (0, x5), (9, 0)], [(0, x2), (0, 0), (0, w32 (x1 + 1)), (18, 400)], m)) 6 rfl ?_
  obtain ⟨v1, m1, hc, h⟩ := h
  refine Ev_call (rest := []) rfl rfl (Nat.le_of_ble_eq_true rfl) hc ?_
  refine Ev_rn (q := (9, [(18, 400), (0, x1), (0, x2), (1, x3), (9, 0), (0, x5), (0, v1)], [(0, v1)], m1)) 2 rfl ?_
  refine Ev_if rfl (fun hc => ?_) (fun hc => ?_)
  · replace h := h.1 hc
    refine Ev_rn (q := (14, [(18, 400), (0, x1), (0, x2), (1, x3), (9, 0), (0, x5), (0, v1)], [(1, x3), (18, 400)], m1)) 2 rfl ?_
    obtain ⟨v2, m2, hc, h⟩ := h
    refine Ev_call (rest := []) rfl rfl (Nat.le_of_ble_eq_true rfl) hc ?_
    refine Ev_if rfl (fun hc => ?_) (fun hc => ?_)
    · replace h := h.1 hc
      refine Ev_rn (q := (19, [(18, 400), (0, x1), (0, x2), (1, x3), (9, 0), (0, x5), (0, v1)], [(18, 400)], m2)) 1 rfl ?_
      obtain ⟨m3, hc, h⟩ := h
      refine Ev_call (rest := []) rfl rfl (Nat.le_of_ble_eq_true rfl) hc ?_
      refine Ev_rn (q := (26, [(18, 400), (0, x1), (0, x2), (1, x3), (9, 0), (0, x5), (0, v1)], [(0, x5), (0, 0), (0, w32 (x1 + 2)), (18, 400)], m3)) 6 rfl ?_
      obtain ⟨v4, m4, hc, h⟩ := h
      refine Ev_call (rest := []) rfl rfl (Nat.le_of_ble_eq_true rfl) hc ?_
      exact Ev_ret rfl rfl h
    · replace h := h.2 hc
      refine Ev_rn (q := (17, [(18, 400), (0, x1), (0, x2), (1, x3), (9, 0), (0, x5), (0, v1)], [(0, 1)], m2)) 1 rfl ?_
      exact Ev_ret rfl rfl h
  · replace h := h.2 hc
    refine Ev_rn (q := (11, [(18, 400), (0, x1), (0, x2), (1, x3), (9, 0), (0, x5), (0, v1)], [(0, v1)], m1)) 1 rfl ?_
    exact Ev_ret rfl rfl h
theorem b_Mo_body {d : Nat} {r : Option Vv × Mm} {m : Mm} {x1 x2 : Int} (h : (x1 = 2 → ∃ (v1 : Int) (m1 : Mm), Cl d k_Mo_w3 [(0, 119), (0, 97), (0, 121)] m (some (1, v1), m1) ∧ (∃ (v2 : Int) (m2 : Mm), Cl d k_Mo_pair [(18, 400), (0, x2), (0, 24), (1, v1), (0, 3)] m1 (some (0, v2), m2) ∧ (r = (some (0, v2), m2)))) ∧ (¬ x1 = 2 → (x1 = 3 → ∃ (v3 : Int) (m3 : Mm), Cl d k_Mo_figure [(18, 400), (0, w32 (x2 + 1)), (0, 0), (0, 24)] m (some (0, v3), m3) ∧ (r = (some (0, v3), m3))) ∧ (¬ x1 = 3 → (x1 = 4 → ∃ (v4 : Int) (m4 : Mm), Cl d k_Mo_figure [(18, 400), (0, w32 (x2 + 1)), (0, 0), (0, 39)] m (some (0, v4), m4) ∧ (r = (some (0, v4), m4))) ∧ (¬ x1 = 4 → (x1 = 5 → ∃ (v5 : Int) (m5 : Mm), Cl d k_Mo_figure [(18, 400), (0, w32 (x2 + 1)), (0, 0), (0, 39)] m (some (0, v5), m5) ∧ (r = (some (0, v5), m5))) ∧ (¬ x1 = 5 → (x1 = 6 → ∃ (v6 : Int) (m6 : Mm), Cl d k_Mo_w4 [(0, 116), (0, 117), (0, 114), (0, 110)] m (some (1, v6), m6) ∧ (∃ (v7 : Int) (m7 : Mm), Cl d k_Mo_pair [(18, 400), (0, x2), (0, 3), (1, v6), (0, 7)] m6 (some (0, v7), m7) ∧ (r = (some (0, v7), m7)))) ∧ (¬ x1 = 6 → (x1 = 7 → ∃ (v8 : Int) (m8 : Mm), Cl d k_Mo_w2 [(0, 98), (0, 121)] m (some (1, v8), m8) ∧ (∃ (v9 : Int) (m9 : Mm), Cl d k_Mo_pair [(18, 400), (0, x2), (0, 3), (1, v8), (0, 4)] m8 (some (0, v9), m9) ∧ (r = (some (0, v9), m9)))) ∧ (¬ x1 = 7 → (x1 = 8 → ∃ (v10 : Int) (m10 : Mm), Cl d k_Mo_figure [(18, 400), (0, w32 (x2 + 1)), (0, 1), (0, 60)] m (some (0, v10), m10) ∧ (r = (some (0, v10), m10))) ∧ (¬ x1 = 8 → ∃ (v11 : Int) (m11 : Mm), Cl d k_Mo_lawClause [(18, 400), (0, x2)] m (some (0, v11), m11) ∧ (r = (some (0, v11), m11)))))))))) : Ev (d + 1) K_Mo_body 0 0 [(18, 400), (0, x1), (0, x2)] [] m r := by
  refine Ev_rn (q := (1, [(18, 400), (0, x1), (0, x2)], [(0, x1)], m)) 1 rfl ?_
  refine Ev_tsw rfl ?_
  refine ⟨fun hc => ?_, fun hc => ?_⟩
  · replace h := h.1 hc
    refine Ev_rn (q := (8, [(18, 400), (0, x1), (0, x2)], [(0, 121), (0, 97), (0, 119), (0, 24), (0, x2), (18, 400)], m)) 6 rfl ?_
    obtain ⟨v1, m1, hc, h⟩ := h
    refine Ev_call (rest := [(0, 24), (0, x2), (18, 400)]) rfl rfl (Nat.le_of_ble_eq_true rfl) hc ?_
    refine Ev_rn (q := (10, [(18, 400), (0, x1), (0, x2)], [(0, 3), (1, v1), (0, 24), (0, x2), (18, 400)], m1)) 1 rfl ?_
    obtain ⟨v2, m2, hc, h⟩ := h
    refine Ev_call (rest := []) rfl rfl (Nat.le_of_ble_eq_true rfl) hc ?_
    exact Ev_ret rfl rfl h
  · replace h := h.2 hc
    refine ⟨fun hc => ?_, fun hc => ?_⟩
    · replace h := h.1 hc
      refine Ev_rn (q := (18, [(18, 400), (0, x1), (0, x2)], [(0, 24), (0, 0), (0, w32 (x2 + 1)), (18, 400)], m)) 6 rfl ?_
      obtain ⟨v3, m3, hc, h⟩ := h
      refine Ev_call (rest := []) rfl rfl (Nat.le_of_ble_eq_true rfl) hc ?_
      exact Ev_ret rfl rfl h
    · replace h := h.2 hc
      refine ⟨fun hc => ?_, fun hc => ?_⟩
      · replace h := h.1 hc
        refine Ev_rn (q := (26, [(18, 400), (0, x1), (0, x2)], [(0, 39), (0, 0), (0, w32 (x2 + 1)), (18, 400)], m)) 6 rfl ?_
        obtain ⟨v4, m4, hc, h⟩ := h
        refine Ev_call (rest := []) rfl rfl (Nat.le_of_ble_eq_true rfl) hc ?_
        exact Ev_ret rfl rfl h
      · replace h := h.2 hc
        refine ⟨fun hc => ?_, fun hc => ?_⟩
        · replace h := h.1 hc
          refine Ev_rn (q := (34, [(18, 400), (0, x1), (0, x2)], [(0, 39), (0, 0), (0, w32 (x2 + 1)), (18, 400)], m)) 6 rfl ?_
          obtain ⟨v5, m5, hc, h⟩ := h
          refine Ev_call (rest := []) rfl rfl (Nat.le_of_ble_eq_true rfl) hc ?_
          exact Ev_ret rfl rfl h
        · replace h := h.2 hc
          refine ⟨fun hc => ?_, fun hc => ?_⟩
          · replace h := h.1 hc
            refine Ev_rn (q := (43, [(18, 400), (0, x1), (0, x2)], [(0, 110), (0, 114), (0, 117), (0, 116), (0, 3), (0, x2), (18, 400)], m)) 7 rfl ?_
            obtain ⟨v6, m6, hc, h⟩ := h
            refine Ev_call (rest := [(0, 3), (0, x2), (18, 400)]) rfl rfl (Nat.le_of_ble_eq_true rfl) hc ?_
            refine Ev_rn (q := (45, [(18, 400), (0, x1), (0, x2)], [(0, 7), (1, v6), (0, 3), (0, x2), (18, 400)], m6)) 1 rfl ?_
            obtain ⟨v7, m7, hc, h⟩ := h
            refine Ev_call (rest := []) rfl rfl (Nat.le_of_ble_eq_true rfl) hc ?_
            exact Ev_ret rfl rfl h
          · replace h := h.2 hc
            refine ⟨fun hc => ?_, fun hc => ?_⟩
            · replace h := h.1 hc
              refine Ev_rn (q := (52, [(18, 400), (0, x1), (0, x2)], [(0, 121), (0, 98), (0, 3), (0, x2), (18, 400)], m)) 5 rfl ?_
              obtain ⟨v8, m8, hc, h⟩ := h
              refine Ev_call (rest := [(0, 3), (0, x2), (18, 400)]) rfl rfl (Nat.le_of_ble_eq_true rfl) hc ?_
              refine Ev_rn (q := (54, [(18, 400), (0, x1), (0, x2)], [(0, 4), (1, v8), (0, 3), (0, x2), (18, 400)], m8)) 1 rfl ?_
              obtain ⟨v9, m9, hc, h⟩ := h
              refine Ev_call (rest := []) rfl rfl (Nat.le_of_ble_eq_true rfl) hc ?_
              exact Ev_ret rfl rfl h
            · replace h := h.2 hc
              refine ⟨fun hc => ?_, fun hc => ?_⟩
              · replace h := h.1 hc
                refine Ev_rn (q := (62, [(18, 400), (0, x1), (0, x2)], [(0, 60), (0, 1), (0, w32 (x2 + 1)), (18, 400)], m)) 6 rfl ?_
                obtain ⟨v10, m10, hc, h⟩ := h
                refine Ev_call (rest := []) rfl rfl (Nat.le_of_ble_eq_true rfl) hc ?_
                exact Ev_ret rfl rfl h
              · replace h := h.2 hc
                refine Ev_rn (q := (66, [(18, 400), (0, x1), (0, x2)], [(0, x2), (18, 400)], m)) 2 rfl ?_
                obtain ⟨v11, m11, hc, h⟩ := h
                refine Ev_call (rest := []) rfl rfl (Nat.le_of_ble_eq_true rfl) hc ?_
                exact Ev_ret rfl rfl h
theorem b_Mo_sortOf {d : Nat} {r : Option Vv × Mm} {m : Mm} (h : ∃ (v1 : Int) (m1 : Mm), Cl d k_Mo_w6 [(0, 102), (0, 114), (0, 111), (0, 115), (0, 116), (0, 115)] m (some (1, v1), m1) ∧ (∃ (v2 : Int) (m2 : Mm), Cl d k_Mo_isWord [(18, 400), (1, v1)] m1 (some (0, v2), m2) ∧ ((v2 = 0 → ∃ (v3 : Int) (m3 : Mm), Cl d k_Mo_w4 [(0, 103), (0, 111), (0, 101), (0, 115)] m2 (some (1, v3), m3) ∧ (∃ (v4 : Int) (m4 : Mm), Cl d k_Mo_isWord [(18, 400), (1, v3)] m3 (some (0, v4), m4) ∧ ((v4 = 0 → ∃ (v5 : Int) (m5 : Mm), Cl d k_Mo_w3 [(0, 99), (0, 111), (0, 119)] m4 (some (1, v5), m5) ∧ (∃ (v6 : Int) (m6 : Mm), Cl d k_Mo_isWord [(18, 400), (1, v5)] m5 (some (0, v6), m6) ∧ ((v6 = 0 → ∃ (v7 : Int) (m7 : Mm), Cl d k_Mo_w4 [(0, 103), (0, 97), (0, 116), (0, 101)] m6 (some (1, v7), m7) ∧ (∃ (v8 : Int) (m8 : Mm), Cl d k_Mo_isWord [(18, 400), (1, v7)] m7 (some (0, v8), m8) ∧ ((v8 = 0 → ∃ (v9 : Int) (m9 : Mm), Cl d k_Mo_w5 [(0, 112), (0, 108), (0, 97), (0, 110), (0, 116)] m8 (some (1, v9), m9) ∧ (∃ (v10 : Int) (m10 : Mm), Cl d k_Mo_isWord [(18, 400), (1, v9)] m9 (some (0, v10), m10) ∧ ((v10 = 0 → ∃ (v11 : Int) (m11 : Mm), Cl d k_Mo_w3 [(0, 99), (0, 117), (0, 116)] m10 (some (1, v11), m11) ∧ (∃ (v12 : Int) (m12 : Mm), Cl d k_Mo_isWord [(18, 400), (1, v11)] m11 (some (0, v12), m12) ∧ ((v12 = 0 → ∃ (v13 : Int) (m13 : Mm), Cl d k_Mo_w5 [(0, 112), (0, 114), (0, 101), (0, 115), (0, 115)] m12 (some (1, v13), m13) ∧ (∃ (v14 : Int) (m14 : Mm), Cl d k_Mo_isWord [(18, 400), (1, v13)] m13 (some (0, v14), m14) ∧ ((v14 = 0 → ∃ (v15 : Int) (m15 : Mm), Cl d k_Mo_w2 [(0, 103), (0, 111)] m14 (some (1, v15), m15) ∧ (∃ (v16 : Int) (m16 : Mm), Cl d k_Mo_isWord [(18, 400), (1, v15)] m15 (some (0, v16), m16) ∧ ((v16 = 0 → ∃ (v17 : Int) (m17 : Mm), Cl d k_Mo_w4 [(0, 104), (0, 111), (0, 117), (0, 114)] m16 (some (1, v17), m17) ∧ (∃ (v18 : Int) (m18 : Mm), Cl d k_Mo_isWord [(18, 400), (1, v17)] m17 (some (0, v18), m18) ∧ ((v18 = 0 → r = (some (0, (-1)), m18)) ∧ (¬ (v18 = 0) → r = (some (0, 8), m18))))) ∧ (¬ (v16 = 0) → r = (some (0, 7), m16))))) ∧ (¬ (v14 = 0) → r = (some (0, 6), m14))))) ∧ (¬ (v12 = 0) → r = (some (0, 5), m12))))) ∧ (¬ (v10 = 0) → r = (some (0, 4), m10))))) ∧ (¬ (v8 = 0) → r = (some (0, 3), m8))))) ∧ (¬ (v6 = 0) → r = (some (0, 2), m6))))) ∧ (¬ (v4 = 0) → r = (some (0, 1), m4))))) ∧ (¬ (v2 = 0) → r = (some (0, 0), m2))))) : Ev (d + 1) K_Mo_sortOf 0 0 [(18, 400)] [] m r := by
  refine Ev_rn (q := (7, [(18, 400)], [(0, 115), (0, 116), (0, 115), (0, 111), (0, 114), (0, 102), (18, 400)], m)) 7 rfl ?_
  obtain ⟨v1, m1, hc, h⟩ := h
  refine Ev_call (rest := [(18, 400)]) rfl rfl (Nat.le_of_ble_eq_true rfl) hc ?_
  obtain ⟨v2, m2, hc, h⟩ := h
  refine Ev_call (rest := []) rfl rfl (Nat.le_of_ble_eq_true rfl) hc ?_
  refine Ev_if rfl (fun hc => ?_) (fun hc => ?_)
  · replace h := h.1 hc
    refine Ev_rn (q := (17, [(18, 400)], [(0, 115), (0, 101), (0, 111), (0, 103), (18, 400)], m2)) 5 rfl ?_
    obtain ⟨v3, m3, hc, h⟩ := h
    refine Ev_call (rest := [(18, 400)]) rfl rfl (Nat.le_of_ble_eq_true rfl) hc ?_
    obtain ⟨v4, m4, hc, h⟩ := h
    refine Ev_call (rest := []) rfl rfl (Nat.le_of_ble_eq_true rfl) hc ?_
    refine Ev_if rfl (fun hc => ?_) (fun hc => ?_)
    · replace h := h.1 hc
      refine Ev_rn (q := (26, [(18, 400)], [(0, 119), (0, 111), (0, 99), (18, 400)], m4)) 4 rfl ?_
      obtain ⟨v5, m5, hc, h⟩ := h
      refine Ev_call (rest := [(18, 400)]) rfl rfl (Nat.le_of_ble_eq_true rfl) hc ?_
      obtain ⟨v6, m6, hc, h⟩ := h
      refine Ev_call (rest := []) rfl rfl (Nat.le_of_ble_eq_true rfl) hc ?_
      refine Ev_if rfl (fun hc => ?_) (fun hc => ?_)
      · replace h := h.1 hc
        refine Ev_rn (q := (36, [(18, 400)], [(0, 101), (0, 116), (0, 97), (0, 103), (18, 400)], m6)) 5 rfl ?_
        obtain ⟨v7, m7, hc, h⟩ := h
        refine Ev_call (rest := [(18, 400)]) rfl rfl (Nat.le_of_ble_eq_true rfl) hc ?_
        obtain ⟨v8, m8, hc, h⟩ := h
        refine Ev_call (rest := []) rfl rfl (Nat.le_of_ble_eq_true rfl) hc ?_
        refine Ev_if rfl (fun hc => ?_) (fun hc => ?_)
        · replace h := h.1 hc
          refine Ev_rn (q := (47, [(18, 400)], [(0, 116), (0, 110), (0, 97), (0, 108), (0, 112), (18, 400)], m8)) 6 rfl ?_
          obtain ⟨v9, m9, hc, h⟩ := h
          refine Ev_call (rest := [(18, 400)]) rfl rfl (Nat.le_of_ble_eq_true rfl) hc ?_
          obtain ⟨v10, m10, hc, h⟩ := h
          refine Ev_call (rest := []) rfl rfl (Nat.le_of_ble_eq_true rfl) hc ?_
          refine Ev_if rfl (fun hc => ?_) (fun hc => ?_)
          · replace h := h.1 hc
            refine Ev_rn (q := (56, [(18, 400)], [(0, 116), (0, 117), (0, 99), (18, 400)], m10)) 4 rfl ?_
            obtain ⟨v11, m11, hc, h⟩ := h
            refine Ev_call (rest := [(18, 400)]) rfl rfl (Nat.le_of_ble_eq_true rfl) hc ?_
            obtain ⟨v12, m12, hc, h⟩ := h
            refine Ev_call (rest := []) rfl rfl (Nat.le_of_ble_eq_true rfl) hc ?_
            refine Ev_if rfl (fun hc => ?_) (fun hc => ?_)
            · replace h := h.1 hc
              refine Ev_rn (q := (67, [(18, 400)], [(0, 115), (0, 115), (0, 101), (0, 114), (0, 112), (18, 400)], m12)) 6 rfl ?_
              obtain ⟨v13, m13, hc, h⟩ := h
              refine Ev_call (rest := [(18, 400)]) rfl rfl (Nat.le_of_ble_eq_true rfl) hc ?_
              obtain ⟨v14, m14, hc, h⟩ := h
              refine Ev_call (rest := []) rfl rfl (Nat.le_of_ble_eq_true rfl) hc ?_
              refine Ev_if rfl (fun hc => ?_) (fun hc => ?_)
              · replace h := h.1 hc
                refine Ev_rn (q := (75, [(18, 400)], [(0, 111), (0, 103), (18, 400)], m14)) 3 rfl ?_
                obtain ⟨v15, m15, hc, h⟩ := h
                refine Ev_call (rest := [(18, 400)]) rfl rfl (Nat.le_of_ble_eq_true rfl) hc ?_
                obtain ⟨v16, m16, hc, h⟩ := h
                refine Ev_call (rest := []) rfl rfl (Nat.le_of_ble_eq_true rfl) hc ?_
                refine Ev_if rfl (fun hc => ?_) (fun hc => ?_)
                · replace h := h.1 hc
                  refine Ev_rn (q := (85, [(18, 400)], [(0, 114), (0, 117), (0, 111), (0, 104), (18, 400)], m16)) 5 rfl ?_
                  obtain ⟨v17, m17, hc, h⟩ := h
                  refine Ev_call (rest := [(18, 400)]) rfl rfl (Nat.le_of_ble_eq_true rfl) hc ?_
                  obtain ⟨v18, m18, hc, h⟩ := h
                  refine Ev_call (rest := []) rfl rfl (Nat.le_of_ble_eq_true rfl) hc ?_
                  refine Ev_if rfl (fun hc => ?_) (fun hc => ?_)
                  · replace h := h.1 hc
                    refine Ev_rn (q := (91, [(18, 400)], [(0, (-1))], m18)) 1 rfl ?_
                    exact Ev_ret rfl rfl h
                  · replace h := h.2 hc
                    refine Ev_rn (q := (91, [(18, 400)], [(0, 8)], m18)) 2 rfl ?_
                    exact Ev_ret rfl rfl h
                · replace h := h.2 hc
                  refine Ev_rn (q := (91, [(18, 400)], [(0, 7)], m16)) 2 rfl ?_
                  exact Ev_ret rfl rfl h
              · replace h := h.2 hc
                refine Ev_rn (q := (71, [(18, 400)], [(0, 6)], m14)) 1 rfl ?_
                exact Ev_ret rfl rfl h
            · replace h := h.2 hc
              refine Ev_rn (q := (60, [(18, 400)], [(0, 5)], m12)) 1 rfl ?_
              exact Ev_ret rfl rfl h
          · replace h := h.2 hc
            refine Ev_rn (q := (51, [(18, 400)], [(0, 4)], m10)) 1 rfl ?_
            exact Ev_ret rfl rfl h
        · replace h := h.2 hc
          refine Ev_rn (q := (40, [(18, 400)], [(0, 3)], m8)) 1 rfl ?_
          exact Ev_ret rfl rfl h
      · replace h := h.2 hc
        refine Ev_rn (q := (30, [(18, 400)], [(0, 2)], m6)) 1 rfl ?_
        exact Ev_ret rfl rfl h
    · replace h := h.2 hc
      refine Ev_rn (q := (21, [(18, 400)], [(0, 1)], m4)) 1 rfl ?_
      exact Ev_ret rfl rfl h
  · replace h := h.2 hc
    refine Ev_rn (q := (11, [(18, 400)], [(0, 0)], m2)) 1 rfl ?_
    exact Ev_ret rfl rfl h
theorem b_Mo_clause {d : Nat} {r : Option Vv × Mm} {m : Mm} (h : ∃ (v1 : Int) (m1 : Mm), Cl d k_Mo_sortOf [(18, 400)] m (some (0, v1), m1) ∧ ((0 ≤ v1 → (1 < v1 → Ev (d + 1) K_Mo_clause 0 17 [(18, 400), (0, v1), (9, 0), (9, 0), (9, 0)] [] m1 r) ∧ (¬ (1 < v1) → ∃ (v2 : Int) (m2 : Mm), Cl d k_Mo_has [(0, m1 400 20), (0, v1)] m1 (some (0, v2), m2) ∧ ((v2 = 0 → Ev (d + 1) K_Mo_clause 0 17 [(18, 400), (0, v1), (9, 0), (9, 0), (9, 0)] [] m2 r) ∧ (¬ (v2 = 0) → r = (some (0, 4), m2))))) ∧ (¬ (0 ≤ v1) → r = (some (0, 1), m1)))) : Ev (d + 1) K_Mo_clause 0 0 [(18, 400), (9, 0), (9, 0), (9, 0), (9, 0)] [] m r := by
  refine Ev_rn (q := (1, [(18, 400), (9, 0), (9, 0), (9, 0), (9, 0)], [(18, 400)], m)) 1 rfl ?_
  obtain ⟨v1, m1, hc, h⟩ := h
  refine Ev_call (rest := []) rfl rfl (Nat.le_of_ble_eq_true rfl) hc ?_
  refine Ev_rn (q := (4, [(18, 400), (0, v1), (9, 0), (9, 0), (9, 0)], [(0, v1)], m1)) 2 rfl ?_
  refine Ev_if rfl (fun hc => ?_) (fun hc => ?_)
  · replace h := h.1 hc
    refine Ev_rn (q := (9, [(18, 400), (0, v1), (9, 0), (9, 0), (9, 0)], [(0, 1), (0, v1)], m1)) 2 rfl ?_
    refine Ev_icmp rfl (fun hc => ?_) (fun hc => ?_)
    · replace h := h.1 hc
      exact h
    · replace h := h.2 hc
      refine Ev_rn (q := (13, [(18, 400), (0, v1), (9, 0), (9, 0), (9, 0)], [(0, v1), (0, m1 400 20)], m1)) 3 rfl ?_
      obtain ⟨v2, m2, hc, h⟩ := h
      refine Ev_call (rest := []) rfl rfl (Nat.le_of_ble_eq_true rfl) hc ?_
      refine Ev_if rfl (fun hc => ?_) (fun hc => ?_)
      · replace h := h.1 hc
        exact h
      · replace h := h.2 hc
        refine Ev_rn (q := (16, [(18, 400), (0, v1), (9, 0), (9, 0), (9, 0)], [(0, 4)], m2)) 1 rfl ?_
        exact Ev_ret rfl rfl h
  · replace h := h.2 hc
    refine Ev_rn (q := (6, [(18, 400), (0, v1), (9, 0), (9, 0), (9, 0)], [(0, 1)], m1)) 1 rfl ?_
    exact Ev_ret rfl rfl h
theorem b_Mo_clause_17 {d : Nat} {r : Option Vv × Mm} {m : Mm} {x1 : Int} {u2 u3 u4 : Vv} (h : (0 ≤ m 400 13 ∧ m 400 13 < 2724) ∧ ((¬ m 403 (m 400 13) = 24 → (1 < x1 → Ev (d + 1) K_Mo_clause 0 39 [(18, 400), (0, x1), (0, m 403 (m 400 13)), u3, u4] [] m r) ∧ (¬ (1 < x1) → ∀ m1 : Mm, m1 = up m 400 20 (iro (m 400 20) (isl 1 x1)) → (Ev (d + 1) K_Mo_clause 0 39 [(18, 400), (0, x1), (0, m 403 (m 400 13)), u3, u4] [] m1 r))) ∧ (¬ (¬ m 403 (m 400 13) = 24) → r = (some (0, 6), m)))) : Ev (d + 1) K_Mo_clause 0 17 [(18, 400), (0, x1), u2, u3, u4] [] m r := by
  refine Ev_rn (q := (21, [(18, 400), (0, x1), u2, u3, u4], [(0, m 400 13), (21892, 403)], m)) 4 rfl ?_
  obtain ⟨hc, h⟩ := h
  refine Ev_iald (n := 2724) rfl (by decide) (by decide) hc ?_
  refine Ev_rn (q := (25, [(18, 400), (0, x1), (0, m 403 (m 400 13)), u3, u4], [(0, 24), (0, m 403 (m 400 13))], m)) 3 rfl ?_
  refine Ev_icmp rfl (fun hc => ?_) (fun hc => ?_)
  · replace h := h.1 hc
    refine Ev_rn (q := (30, [(18, 400), (0, x1), (0, m 403 (m 400 13)), u3, u4], [(0, 1), (0, x1)], m)) 2 rfl ?_
    refine Ev_icmp rfl (fun hc => ?_) (fun hc => ?_)
    · replace h := h.1 hc
      exact h
    · replace h := h.2 hc
      refine Ev_rn (q := (39, [(18, 400), (0, x1), (0, m 403 (m 400 13)), u3, u4], [], up m 400 20 (iro (m 400 20) (isl 1 x1)))) 8 rfl ?_
      generalize e1 : up m 400 20 (iro (m 400 20) (isl 1 x1)) = m1
      replace h := h m1 e1.symm
      exact h
  · replace h := h.2 hc
    refine Ev_rn (q := (27, [(18, 400), (0, x1), (0, m 403 (m 400 13)), u3, u4], [(0, 6)], m)) 1 rfl ?_
    exact Ev_ret rfl rfl h
theorem b_Mo_clause_39 {d : Nat} {r : Option Vv × Mm} {m : Mm} {x1 x2 : Int} {u3 u4 : Vv} (h : ∀ m1 : Mm, m1 = up m 400 15 x1 → (∃ (m2 : Mm), Cl d k_Mo_nextToken [(18, 400)] m1 (none, m2) ∧ ((0 ≤ w32 ((w32 ((m2 400 13) + 1)) + (w32 (3 * x2))) ∧ w32 ((w32 ((m2 400 13) + 1)) + (w32 (3 * x2))) < 2724) ∧ (∀ m3 : Mm, m3 = up m2 403 (w32 ((w32 ((m2 400 13) + 1)) + (w32 (3 * x2)))) x1 → (∃ (v4 : Int) (m4 : Mm), Cl d k_Mo_body [(18, 400), (0, x1), (0, w32 ((w32 ((m2 400 13) + 1)) + (w32 (3 * x2))))] m3 (some (0, v4), m4) ∧ ((v4 = 0 → (0 ≤ m4 400 13 ∧ m4 400 13 < 2724) ∧ ((0 ≤ m4 400 13 ∧ m4 400 13 < 2724) ∧ (∀ m5 : Mm, m5 = up m4 403 (m4 400 13) (w32 ((m4 403 (m4 400 13)) + 1)) → ((m5 400 10 = 59 → ∃ (m6 : Mm), Cl d k_Mo_nextToken [(18, 400)] m5 (none, m6) ∧ (r = (some (0, 0), m6))) ∧ (¬ (m5 400 10 = 59) → r = (some (0, 1), m5)))))) ∧ (¬ (v4 = 0) → r = (some (0, v4), m4)))))))) : Ev (d + 1) K_Mo_clause 0 39 [(18, 400), (0, x1), (0, x2), u3, u4] [] m r := by
  refine Ev_rn (q := (42, [(18, 400), (0, x1), (0, x2), u3, u4], [], up m 400 15 x1)) 3 rfl ?_
  generalize e1 : up m 400 15 x1 = m1
  replace h := h m1 e1.symm
  refine Ev_rn (q := (43, [(18, 400), (0, x1), (0, x2), u3, u4], [(18, 400)], m1)) 1 rfl ?_
  obtain ⟨m2, hc, h⟩ := h
  refine Ev_call (rest := []) rfl rfl (Nat.le_of_ble_eq_true rfl) hc ?_
  refine Ev_rn (q := (57, [(18, 400), (0, x1), (0, x2), (0, w32 ((w32 ((m2 400 13) + 1)) + (w32 (3 * x2)))), u4], [(0, x1), (0, w32 ((w32 ((m2 400 13) + 1)) + (w32 (3 * x2)))), (21892, 403)], m2)) 13 rfl ?_
  obtain ⟨hc, h⟩ := h
  refine Ev_iast (n := 2724) rfl (by decide) (by decide) hc ?_
  generalize e3 : up m2 403 (w32 ((w32 ((m2 400 13) + 1)) + (w32 (3 * x2)))) x1 = m3
  replace h := h m3 e3.symm
  refine Ev_rn (q := (61, [(18, 400), (0, x1), (0, x2), (0, w32 ((w32 ((m2 400 13) + 1)) + (w32 (3 * x2)))), u4], [(0, w32 ((w32 ((m2 400 13) + 1)) + (w32 (3 * x2)))), (0, x1), (18, 400)], m3)) 3 rfl ?_
  obtain ⟨v4, m4, hc, h⟩ := h
  refine Ev_call (rest := []) rfl rfl (Nat.le_of_ble_eq_true rfl) hc ?_
  refine Ev_rn (q := (64, [(18, 400), (0, x1), (0, x2), (0, w32 ((w32 ((m2 400 13) + 1)) + (w32 (3 * x2)))), (0, v4)], [(0, v4)], m4)) 2 rfl ?_
  refine Ev_if rfl (fun hc => ?_) (fun hc => ?_)
  · replace h := h.1 hc
    refine Ev_rn (q := (72, [(18, 400), (0, x1), (0, x2), (0, w32 ((w32 ((m2 400 13) + 1)) + (w32 (3 * x2)))), (0, v4)], [(0, m4 400 13), (21892, 403), (0, m4 400 13), (21892, 403)], m4)) 5 rfl ?_
    obtain ⟨hc, h⟩ := h
    refine Ev_iald (n := 2724) rfl (by decide) (by decide) hc ?_
    refine Ev_rn (q := (75, [(18, 400), (0, x1), (0, x2), (0, w32 ((w32 ((m2 400 13) + 1)) + (w32 (3 * x2)))), (0, v4)], [(0, w32 ((m4 403 (m4 400 13)) + 1)), (0, m4 400 13), (21892, 403)], m4)) 2 rfl ?_
    obtain ⟨hc, h⟩ := h
    refine Ev_iast (n := 2724) rfl (by decide) (by decide) hc ?_
    generalize e5 : up m4 403 (m4 400 13) (w32 ((m4 403 (m4 400 13)) + 1)) = m5
    replace h := h m5 e5.symm
    refine Ev_rn (q := (79, [(18, 400), (0, x1), (0, x2), (0, w32 ((w32 ((m2 400 13) + 1)) + (w32 (3 * x2)))), (0, v4)], [(0, 59), (0, m5 400 10)], m5)) 3 rfl ?_
    refine Ev_icmp rfl (fun hc => ?_) (fun hc => ?_)
    · replace h := h.1 hc
      refine Ev_rn (q := (83, [(18, 400), (0, x1), (0, x2), (0, w32 ((w32 ((m2 400 13) + 1)) + (w32 (3 * x2)))), (0, v4)], [(18, 400)], m5)) 1 rfl ?_
      obtain ⟨m6, hc, h⟩ := h
      refine Ev_call (rest := []) rfl rfl (Nat.le_of_ble_eq_true rfl) hc ?_
      refine Ev_rn (q := (85, [(18, 400), (0, x1), (0, x2), (0, w32 ((w32 ((m2 400 13) + 1)) + (w32 (3 * x2)))), (0, v4)], [(0, 0)], m6)) 1 rfl ?_
      exact Ev_ret rfl rfl h
    · replace h := h.2 hc
      refine Ev_rn (q := (81, [(18, 400), (0, x1), (0, x2), (0, w32 ((w32 ((m2 400 13) + 1)) + (w32 (3 * x2)))), (0, v4)], [(0, 1)], m5)) 1 rfl ?_
      exact Ev_ret rfl rfl h
  · replace h := h.2 hc
    refine Ev_rn (q := (66, [(18, 400), (0, x1), (0, x2), (0, w32 ((w32 ((m2 400 13) + 1)) + (w32 (3 * x2)))), (0, v4)], [(0, v4)], m4)) 1 rfl ?_
    exact Ev_ret rfl rfl h
theorem b_Mo_readText {d : Nat} {r : Option Vv × Mm} {m : Mm} (h : ∀ m1 : Mm, m1 = up m 400 13 (w32 (681 * (m 401 2))) → ((0 ≤ m1 400 13 ∧ m1 400 13 < 2724) ∧ (∀ m2 : Mm, m2 = up m1 403 (m1 400 13) 0 → (∀ m3 : Mm, m3 = up m2 400 14 0 → (∀ m4 : Mm, m4 = up m3 400 20 0 → (∀ m5 : Mm, m5 = up m4 400 8 0 → (∃ (m6 : Mm), Cl d k_Mo_nextToken [(18, 400)] m5 (none, m6) ∧ (Ev (d + 1) K_Mo_readText 0 25 [(18, 400), (9, 0)] [] m6 r)))))))) : Ev (d + 1) K_Mo_readText 0 0 [(18, 400), (9, 0)] [] m r := by
  refine Ev_rn (q := (5, [(18, 400), (9, 0)], [(0, 2), (11828, 401), (0, 681), (18, 400)], m)) 5 rfl ?_
  refine Ev_iald (n := 1466) rfl (by decide) (by decide) ⟨by decide, by decide⟩ ?_
  refine Ev_rn (q := (8, [(18, 400), (9, 0)], [], up m 400 13 (w32 (681 * (m 401 2))))) 2 rfl ?_
  generalize e1 : up m 400 13 (w32 (681 * (m 401 2))) = m1
  replace h := h m1 e1.symm
  refine Ev_rn (q := (13, [(18, 400), (9, 0)], [(0, 0), (0, m1 400 13), (21892, 403)], m1)) 5 rfl ?_
  obtain ⟨hc, h⟩ := h
  refine Ev_iast (n := 2724) rfl (by decide) (by decide) hc ?_
  generalize e2 : up m1 403 (m1 400 13) 0 = m2
  replace h := h m2 e2.symm
  refine Ev_rn (q := (17, [(18, 400), (9, 0)], [], up m2 400 14 0)) 3 rfl ?_
  generalize e3 : up m2 400 14 0 = m3
  replace h := h m3 e3.symm
  refine Ev_rn (q := (20, [(18, 400), (9, 0)], [], up m3 400 20 0)) 3 rfl ?_
  generalize e4 : up m3 400 20 0 = m4
  replace h := h m4 e4.symm
  refine Ev_rn (q := (23, [(18, 400), (9, 0)], [], up m4 400 8 0)) 3 rfl ?_
  generalize e5 : up m4 400 8 0 = m5
  replace h := h m5 e5.symm
  refine Ev_rn (q := (24, [(18, 400), (9, 0)], [(18, 400)], m5)) 1 rfl ?_
  obtain ⟨m6, hc, h⟩ := h
  refine Ev_call (rest := []) rfl rfl (Nat.le_of_ble_eq_true rfl) hc ?_
  exact h
theorem b_Mo_readText_25 {d : Nat} {r : Option Vv × Mm} {m : Mm} {u1 : Vv} (h : (m 400 10 = 0 → r = (some (0, 0), m)) ∧ (¬ (m 400 10 = 0) → ∃ (v1 : Int) (m1 : Mm), Cl d k_Mo_clause [(18, 400)] m (some (0, v1), m1) ∧ ((v1 = 0 → Ev (d + 1) K_Mo_readText 0 25 [(18, 400), (0, v1)] [] m1 r) ∧ (¬ (v1 = 0) → r = (some (0, v1), m1))))) : Ev (d + 1) K_Mo_readText 0 25 [(18, 400), u1] [] m r := by
  refine Ev_rn (q := (27, [(18, 400), u1], [(0, m 400 10)], m)) 2 rfl ?_
  refine Ev_if rfl (fun hc => ?_) (fun hc => ?_)
  · replace h := h.1 hc
    refine Ev_rn (q := (37, [(18, 400), u1], [(0, 0)], m)) 1 rfl ?_
    exact Ev_ret rfl rfl h
  · replace h := h.2 hc
    refine Ev_rn (q := (29, [(18, 400), u1], [(18, 400)], m)) 1 rfl ?_
    obtain ⟨v1, m1, hc, h⟩ := h
    refine Ev_call (rest := []) rfl rfl (Nat.le_of_ble_eq_true rfl) hc ?_
    refine Ev_rn (q := (32, [(18, 400), (0, v1)], [(0, v1)], m1)) 2 rfl ?_
    refine Ev_if rfl (fun hc => ?_) (fun hc => ?_)
    · replace h := h.1 hc
      refine Ev_rn (q := (25, [(18, 400), (0, v1)], [], m1)) 1 rfl ?_
      exact h
    · replace h := h.2 hc
      refine Ev_rn (q := (34, [(18, 400), (0, v1)], [(0, v1)], m1)) 1 rfl ?_
      exact Ev_ret rfl rfl h
theorem b_Mo_text {d : Nat} {r : Option Vv × Mm} {m : Mm} (h : (¬ m 401 2 = 4 → ∃ (v1 : Int) (m1 : Mm), Cl d k_Mo_readText [(18, 400)] m (some (0, v1), m1) ∧ (∀ m2 : Mm, m2 = up m1 400 6 v1 → ((¬ m2 400 6 = 0 → ∀ m3 : Mm, m3 = up m2 400 7 (m2 400 9) → (∀ m4 : Mm, m4 = up m3 400 5 0 → ((m4 400 6 = 0 → ∀ m5 : Mm, m5 = up m4 401 2 (w32 ((m4 401 2) + 1)) → (r = (some (0, w32 ((m5 401 2) - 1)), m5))) ∧ (¬ (m4 400 6 = 0) → r = (some (0, (-1)), m4))))) ∧ (¬ (¬ m2 400 6 = 0) → ∀ m6 : Mm, m6 = up m2 400 7 (-1) → (∀ m7 : Mm, m7 = up m6 400 5 0 → ((m7 400 6 = 0 → ∀ m8 : Mm, m8 = up m7 401 2 (w32 ((m7 401 2) + 1)) → (r = (some (0, w32 ((m8 401 2) - 1)), m8))) ∧ (¬ (m7 400 6 = 0) → r = (some (0, (-1)), m7)))))))) ∧ (¬ (¬ m 401 2 = 4) → r = (some (0, (-1)), m))) : Ev (d + 1) K_Mo_text 0 0 [(18, 400)] [] m r := by
  refine Ev_rn (q := (3, [(18, 400)], [(0, 2), (11828, 401)], m)) 3 rfl ?_
  refine Ev_iald (n := 1466) rfl (by decide) (by decide) ⟨by decide, by decide⟩ ?_
  refine Ev_rn (q := (5, [(18, 400)], [(0, 4), (0, m 401 2)], m)) 1 rfl ?_
  refine Ev_icmp rfl (fun hc => ?_) (fun hc => ?_)
  · replace h := h.1 hc
    refine Ev_rn (q := (10, [(18, 400)], [(18, 400), (18, 400)], m)) 2 rfl ?_
    obtain ⟨v1, m1, hc, h⟩ := h
    refine Ev_call (rest := [(18, 400)]) rfl rfl (Nat.le_of_ble_eq_true rfl) hc ?_
    refine Ev_rn (q := (12, [(18, 400)], [], up m1 400 6 v1)) 1 rfl ?_
    generalize e2 : up m1 400 6 v1 = m2
    replace h := h m2 e2.symm
    refine Ev_rn (q := (15, [(18, 400)], [(0, m2 400 6), (18, 400)], m2)) 3 rfl ?_
    refine Ev_if rfl (fun hc => ?_) (fun hc => ?_)
    · replace h := h.1 hc
      refine Ev_rn (q := (21, [(18, 400)], [], up m2 400 7 (m2 400 9))) 3 rfl ?_
      generalize e3 : up m2 400 7 (m2 400 9) = m3
      replace h := h m3 e3.symm
      refine Ev_rn (q := (24, [(18, 400)], [], up m3 400 5 0)) 3 rfl ?_
      generalize e4 : up m3 400 5 0 = m4
      replace h := h m4 e4.symm
      refine Ev_rn (q := (26, [(18, 400)], [(0, m4 400 6)], m4)) 2 rfl ?_
      refine Ev_if rfl (fun hc => ?_) (fun hc => ?_)
      · replace h := h.1 hc
        refine Ev_rn (q := (33, [(18, 400)], [(0, 2), (11828, 401), (0, 2), (11828, 401)], m4)) 4 rfl ?_
        refine Ev_iald (n := 1466) rfl (by decide) (by decide) ⟨by decide, by decide⟩ ?_
        refine Ev_rn (q := (36, [(18, 400)], [(0, w32 ((m4 401 2) + 1)), (0, 2), (11828, 401)], m4)) 2 rfl ?_
        refine Ev_iast (n := 1466) rfl (by decide) (by decide) ⟨by decide, by decide⟩ ?_
        generalize e5 : up m4 401 2 (w32 ((m4 401 2) + 1)) = m5
        replace h := h m5 e5.symm
        refine Ev_rn (q := (40, [(18, 400)], [(0, 2), (11828, 401)], m5)) 3 rfl ?_
        refine Ev_iald (n := 1466) rfl (by decide) (by decide) ⟨by decide, by decide⟩ ?_
        refine Ev_rn (q := (43, [(18, 400)], [(0, w32 ((m5 401 2) - 1))], m5)) 2 rfl ?_
        exact Ev_ret rfl rfl h
      · replace h := h.2 hc
        refine Ev_rn (q := (28, [(18, 400)], [(0, (-1))], m4)) 1 rfl ?_
        exact Ev_ret rfl rfl h
    · replace h := h.2 hc
      refine Ev_rn (q := (21, [(18, 400)], [], up m2 400 7 (-1))) 3 rfl ?_
      generalize e6 : up m2 400 7 (-1) = m6
      replace h := h m6 e6.symm
      refine Ev_rn (q := (24, [(18, 400)], [], up m6 400 5 0)) 3 rfl ?_
      generalize e7 : up m6 400 5 0 = m7
      replace h := h m7 e7.symm
      refine Ev_rn (q := (26, [(18, 400)], [(0, m7 400 6)], m7)) 2 rfl ?_
      refine Ev_if rfl (fun hc => ?_) (fun hc => ?_)
      · replace h := h.1 hc
        refine Ev_rn (q := (33, [(18, 400)], [(0, 2), (11828, 401), (0, 2), (11828, 401)], m7)) 4 rfl ?_
        refine Ev_iald (n := 1466) rfl (by decide) (by decide) ⟨by decide, by decide⟩ ?_
        refine Ev_rn (q := (36, [(18, 400)], [(0, w32 ((m7 401 2) + 1)), (0, 2), (11828, 401)], m7)) 2 rfl ?_
        refine Ev_iast (n := 1466) rfl (by decide) (by decide) ⟨by decide, by decide⟩ ?_
        generalize e8 : up m7 401 2 (w32 ((m7 401 2) + 1)) = m8
        replace h := h m8 e8.symm
        refine Ev_rn (q := (40, [(18, 400)], [(0, 2), (11828, 401)], m8)) 3 rfl ?_
        refine Ev_iald (n := 1466) rfl (by decide) (by decide) ⟨by decide, by decide⟩ ?_
        refine Ev_rn (q := (43, [(18, 400)], [(0, w32 ((m8 401 2) - 1))], m8)) 2 rfl ?_
        exact Ev_ret rfl rfl h
      · replace h := h.2 hc
        refine Ev_rn (q := (28, [(18, 400)], [(0, (-1))], m7)) 1 rfl ?_
        exact Ev_ret rfl rfl h
  · replace h := h.2 hc
    refine Ev_rn (q := (7, [(18, 400)], [(0, (-1))], m)) 1 rfl ?_
    exact Ev_ret rfl rfl h
theorem b_Mo_fault {d : Nat} {r : Option Vv × Mm} {m : Mm} {x1 : Int} (h : (¬ x1 = 0 → (¬ x1 = 1 → r = (some (0, (-1)), m)) ∧ (¬ (¬ x1 = 1) → r = (some (0, m 400 7), m))) ∧ (¬ (¬ x1 = 0) → r = (some (0, m 400 6), m))) : Ev d K_Mo_fault 0 0 [(18, 400), (0, x1)] [] m r := by
  refine Ev_rn (q := (1, [(18, 400), (0, x1)], [(0, x1)], m)) 1 rfl ?_
  refine Ev_if rfl (fun hc => ?_) (fun hc => ?_)
  · replace h := h.1 hc
    refine Ev_rn (q := (7, [(18, 400), (0, x1)], [(0, 1), (0, x1)], m)) 2 rfl ?_
    refine Ev_icmp rfl (fun hc => ?_) (fun hc => ?_)
    · replace h := h.1 hc
      refine Ev_rn (q := (12, [(18, 400), (0, x1)], [(0, (-1))], m)) 1 rfl ?_
      exact Ev_ret rfl rfl h
    · replace h := h.2 hc
      refine Ev_rn (q := (12, [(18, 400), (0, x1)], [(0, m 400 7)], m)) 3 rfl ?_
      exact Ev_ret rfl rfl h
  · replace h := h.2 hc
    refine Ev_rn (q := (12, [(18, 400), (0, x1)], [(0, m 400 6)], m)) 3 rfl ?_
    exact Ev_ret rfl rfl h
theorem b_Mo_by {d : Nat} {r : Option Vv × Mm} {m : Mm} {x1 : Int} (h : ∃ (v1 : Int) (m1 : Mm), Cl d k_Mo_isIn [(0, x1), (0, (-1)), (0, w32 ((m 401 2) - 1))] m (some (0, v1), m1) ∧ ((¬ v1 = 0 → ∀ m2 : Mm, m2 = up m1 401 3 x1 → (r = (some (0, 1), m2))) ∧ (¬ (¬ v1 = 0) → r = (some (0, 0), m1)))) : Ev (d + 1) K_Mo_by 2 0 [(18, 400), (0, x1)] [] m r := by
  refine Ev_rn (q := (5, [(18, 400), (0, x1)], [(0, 2), (11828, 401), (0, (-1)), (0, x1)], m)) 5 rfl ?_
  refine Ev_iald (n := 1466) rfl (by decide) (by decide) ⟨by decide, by decide⟩ ?_
  refine Ev_rn (q := (8, [(18, 400), (0, x1)], [(0, w32 ((m 401 2) - 1)), (0, (-1)), (0, x1)], m)) 2 rfl ?_
  obtain ⟨v1, m1, hc, h⟩ := h
  refine Ev_call (rest := []) rfl rfl (Nat.le_of_ble_eq_true rfl) hc ?_
  refine Ev_if rfl (fun hc => ?_) (fun hc => ?_)
  · replace h := h.1 hc
    refine Ev_rn (q := (16, [(18, 400), (0, x1)], [(0, x1), (0, 3), (11828, 401)], m1)) 4 rfl ?_
    refine Ev_iast (n := 1466) rfl (by decide) (by decide) ⟨by decide, by decide⟩ ?_
    generalize e2 : up m1 401 3 x1 = m2
    replace h := h m2 e2.symm
    refine Ev_rn (q := (18, [(18, 400), (0, x1)], [(0, 1)], m2)) 1 rfl ?_
    exact Ev_zret rfl rfl (by decide) h
  · replace h := h.2 hc
    refine Ev_rn (q := (11, [(18, 400), (0, x1)], [(0, 0)], m1)) 1 rfl ?_
    exact Ev_zret rfl rfl (by decide) h
theorem b_Mo_clip {d : Nat} {r : Option Vv × Mm} {m : Mm} {x0 : Int} (h : (lcm x0 1000000 ≤ 0 → (0 ≤ lcm x0 (-1000000) → r = (some (1, x0), m)) ∧ (¬ (0 ≤ lcm x0 (-1000000)) → r = (some (1, (-1000000)), m))) ∧ (¬ (lcm x0 1000000 ≤ 0) → r = (some (1, 1000000), m))) : Ev d K_Mo_clip 1 0 [(1, x0), (9, 0)] [] m r := by
  refine Ev_rn (q := (3, [(1, x0), (9, 0)], [(0, lcm x0 1000000)], m)) 3 rfl ?_
  refine Ev_if rfl (fun hc => ?_) (fun hc => ?_)
  · replace h := h.1 hc
    refine Ev_rn (q := (9, [(1, x0), (9, 0)], [(0, lcm x0 (-1000000))], m)) 3 rfl ?_
    refine Ev_if rfl (fun hc => ?_) (fun hc => ?_)
    · replace h := h.1 hc
      refine Ev_rn (q := (13, [(1, x0), (9, 0)], [(1, x0)], m)) 1 rfl ?_
      exact Ev_ret rfl rfl h
    · replace h := h.2 hc
      refine Ev_rn (q := (13, [(1, x0), (9, 0)], [(1, (-1000000))], m)) 2 rfl ?_
      exact Ev_ret rfl rfl h
  · replace h := h.2 hc
    refine Ev_rn (q := (13, [(1, x0), (9, 0)], [(1, 1000000)], m)) 2 rfl ?_
    exact Ev_ret rfl rfl h
theorem b_Mo_two {d : Nat} {r : Option Vv × Mm} {m : Mm} {x0 x1 x3 : Int} (h : (x0 = 6 → ∃ (v1 : Int) (m1 : Mm), Cl d k_Mo_clip [(1, w64 (x1 + x3))] m (some (1, v1), m1) ∧ (r = (some (1, v1), m1))) ∧ (¬ x0 = 6 → (x0 = 7 → ∃ (v2 : Int) (m2 : Mm), Cl d k_Mo_clip [(1, w64 (x1 - x3))] m (some (1, v2), m2) ∧ (r = (some (1, v2), m2))) ∧ (¬ x0 = 7 → (x0 = 8 → ∃ (v3 : Int) (m3 : Mm), Cl d k_Mo_clip [(1, w64 (x1 * x3))] m (some (1, v3), m3) ∧ (r = (some (1, v3), m3))) ∧ (¬ x0 = 8 → (¬ lcm x3 0 = 0 → (x3 ≠ 0) ∧ (∃ (v4 : Int) (m4 : Mm), Cl d k_Mo_clip [(1, ldv x1 x3)] m (some (1, v4), m4) ∧ (r = (some (1, v4), m4)))) ∧ (¬ (¬ lcm x3 0 = 0) → r = (some (1, 0), m)))))) : Ev (d + 1) K_Mo_two 1 0 [(0, x0), (1, x1), (9, 0), (1, x3), (9, 0)] [] m r := by
  refine Ev_rn (q := (1, [(0, x0), (1, x1), (9, 0), (1, x3), (9, 0)], [(0, x0)], m)) 1 rfl ?_
  refine Ev_tsw rfl ?_
  refine ⟨fun hc => ?_, fun hc => ?_⟩
  · replace h := h.1 hc
    refine Ev_rn (q := (5, [(0, x0), (1, x1), (9, 0), (1, x3), (9, 0)], [(1, w64 (x1 + x3))], m)) 3 rfl ?_
    obtain ⟨v1, m1, hc, h⟩ := h
    refine Ev_call (rest := []) rfl rfl (Nat.le_of_ble_eq_true rfl) hc ?_
    exact Ev_ret rfl rfl h
  · replace h := h.2 hc
    refine ⟨fun hc => ?_, fun hc => ?_⟩
    · replace h := h.1 hc
      refine Ev_rn (q := (10, [(0, x0), (1, x1), (9, 0), (1, x3), (9, 0)], [(1, w64 (x1 - x3))], m)) 3 rfl ?_
      obtain ⟨v2, m2, hc, h⟩ := h
      refine Ev_call (rest := []) rfl rfl (Nat.le_of_ble_eq_true rfl) hc ?_
      exact Ev_ret rfl rfl h
    · replace h := h.2 hc
      refine ⟨fun hc => ?_, fun hc => ?_⟩
      · replace h := h.1 hc
        refine Ev_rn (q := (15, [(0, x0), (1, x1), (9, 0), (1, x3), (9, 0)], [(1, w64 (x1 * x3))], m)) 3 rfl ?_
        obtain ⟨v3, m3, hc, h⟩ := h
        refine Ev_call (rest := []) rfl rfl (Nat.le_of_ble_eq_true rfl) hc ?_
        exact Ev_ret rfl rfl h
      · replace h := h.2 hc
        refine Ev_rn (q := (20, [(0, x0), (1, x1), (9, 0), (1, x3), (9, 0)], [(0, lcm x3 0)], m)) 3 rfl ?_
        refine Ev_if rfl (fun hc => ?_) (fun hc => ?_)
        · replace h := h.1 hc
          refine Ev_rn (q := (25, [(0, x0), (1, x1), (9, 0), (1, x3), (9, 0)], [(1, x3), (1, x1)], m)) 2 rfl ?_
          obtain ⟨hc, h⟩ := h
          refine Ev_ldiv rfl hc ?_
          obtain ⟨v4, m4, hc, h⟩ := h
          refine Ev_call (rest := []) rfl rfl (Nat.le_of_ble_eq_true rfl) hc ?_
          exact Ev_ret rfl rfl h
        · replace h := h.2 hc
          refine Ev_rn (q := (27, [(0, x0), (1, x1), (9, 0), (1, x3), (9, 0)], [(1, 0)], m)) 2 rfl ?_
          exact Ev_ret rfl rfl h
theorem b_Mo_isAsked {d : Nat} {r : Option Vv × Mm} {m : Mm} {x0 x1 x3 : Int} (h : (¬ x0 = 10 → (¬ x0 = 11 → (¬ x0 = 12 → (¬ x0 = 13 → (¬ x0 = 14 → (lcm x1 x3 = 0 → r = (some (0, 0), m)) ∧ (¬ (lcm x1 x3 = 0) → r = (some (0, 1), m))) ∧ (¬ (¬ x0 = 14) → (¬ lcm x1 x3 = 0 → r = (some (0, 0), m)) ∧ (¬ (¬ lcm x1 x3 = 0) → r = (some (0, 1), m)))) ∧ (¬ (¬ x0 = 13) → (lcm x1 x3 < 0 → r = (some (0, 0), m)) ∧ (¬ (lcm x1 x3 < 0) → r = (some (0, 1), m)))) ∧ (¬ (¬ x0 = 12) → (lcm x1 x3 ≤ 0 → r = (some (0, 0), m)) ∧ (¬ (lcm x1 x3 ≤ 0) → r = (some (0, 1), m)))) ∧ (¬ (¬ x0 = 11) → (0 < lcm x1 x3 → r = (some (0, 0), m)) ∧ (¬ (0 < lcm x1 x3) → r = (some (0, 1), m)))) ∧ (¬ (¬ x0 = 10) → (0 ≤ lcm x1 x3 → r = (some (0, 0), m)) ∧ (¬ (0 ≤ lcm x1 x3) → r = (some (0, 1), m)))) : Ev d K_Mo_isAsked 2 0 [(0, x0), (1, x1), (9, 0), (1, x3), (9, 0)] [] m r := by
  refine Ev_rn (q := (2, [(0, x0), (1, x1), (9, 0), (1, x3), (9, 0)], [(0, 10), (0, x0)], m)) 2 rfl ?_
  refine Ev_icmp rfl (fun hc => ?_) (fun hc => ?_)
  · replace h := h.1 hc
    refine Ev_rn (q := (13, [(0, x0), (1, x1), (9, 0), (1, x3), (9, 0)], [(0, 11), (0, x0)], m)) 2 rfl ?_
    refine Ev_icmp rfl (fun hc => ?_) (fun hc => ?_)
    · replace h := h.1 hc
      refine Ev_rn (q := (24, [(0, x0), (1, x1), (9, 0), (1, x3), (9, 0)], [(0, 12), (0, x0)], m)) 2 rfl ?_
      refine Ev_icmp rfl (fun hc => ?_) (fun hc => ?_)
      · replace h := h.1 hc
        refine Ev_rn (q := (35, [(0, x0), (1, x1), (9, 0), (1, x3), (9, 0)], [(0, 13), (0, x0)], m)) 2 rfl ?_
        refine Ev_icmp rfl (fun hc => ?_) (fun hc => ?_)
        · replace h := h.1 hc
          refine Ev_rn (q := (46, [(0, x0), (1, x1), (9, 0), (1, x3), (9, 0)], [(0, 14), (0, x0)], m)) 2 rfl ?_
          refine Ev_icmp rfl (fun hc => ?_) (fun hc => ?_)
          · replace h := h.1 hc
            refine Ev_rn (q := (58, [(0, x0), (1, x1), (9, 0), (1, x3), (9, 0)], [(0, lcm x1 x3)], m)) 3 rfl ?_
            refine Ev_if rfl (fun hc => ?_) (fun hc => ?_)
            · replace h := h.1 hc
              refine Ev_rn (q := (62, [(0, x0), (1, x1), (9, 0), (1, x3), (9, 0)], [(0, 0)], m)) 1 rfl ?_
              exact Ev_zret rfl rfl (by decide) h
            · replace h := h.2 hc
              refine Ev_rn (q := (62, [(0, x0), (1, x1), (9, 0), (1, x3), (9, 0)], [(0, 1)], m)) 2 rfl ?_
              exact Ev_zret rfl rfl (by decide) h
          · replace h := h.2 hc
            refine Ev_rn (q := (50, [(0, x0), (1, x1), (9, 0), (1, x3), (9, 0)], [(0, lcm x1 x3)], m)) 3 rfl ?_
            refine Ev_if rfl (fun hc => ?_) (fun hc => ?_)
            · replace h := h.1 hc
              refine Ev_rn (q := (62, [(0, x0), (1, x1), (9, 0), (1, x3), (9, 0)], [(0, 0)], m)) 2 rfl ?_
              exact Ev_zret rfl rfl (by decide) h
            · replace h := h.2 hc
              refine Ev_rn (q := (62, [(0, x0), (1, x1), (9, 0), (1, x3), (9, 0)], [(0, 1)], m)) 2 rfl ?_
              exact Ev_zret rfl rfl (by decide) h
        · replace h := h.2 hc
          refine Ev_rn (q := (39, [(0, x0), (1, x1), (9, 0), (1, x3), (9, 0)], [(0, lcm x1 x3)], m)) 3 rfl ?_
          refine Ev_if rfl (fun hc => ?_) (fun hc => ?_)
          · replace h := h.1 hc
            refine Ev_rn (q := (62, [(0, x0), (1, x1), (9, 0), (1, x3), (9, 0)], [(0, 0)], m)) 2 rfl ?_
            exact Ev_zret rfl rfl (by decide) h
          · replace h := h.2 hc
            refine Ev_rn (q := (62, [(0, x0), (1, x1), (9, 0), (1, x3), (9, 0)], [(0, 1)], m)) 2 rfl ?_
            exact Ev_zret rfl rfl (by decide) h
      · replace h := h.2 hc
        refine Ev_rn (q := (28, [(0, x0), (1, x1), (9, 0), (1, x3), (9, 0)], [(0, lcm x1 x3)], m)) 3 rfl ?_
        refine Ev_if rfl (fun hc => ?_) (fun hc => ?_)
        · replace h := h.1 hc
          refine Ev_rn (q := (62, [(0, x0), (1, x1), (9, 0), (1, x3), (9, 0)], [(0, 0)], m)) 2 rfl ?_
          exact Ev_zret rfl rfl (by decide) h
        · replace h := h.2 hc
          refine Ev_rn (q := (62, [(0, x0), (1, x1), (9, 0), (1, x3), (9, 0)], [(0, 1)], m)) 2 rfl ?_
          exact Ev_zret rfl rfl (by decide) h
    · replace h := h.2 hc
      refine Ev_rn (q := (17, [(0, x0), (1, x1), (9, 0), (1, x3), (9, 0)], [(0, lcm x1 x3)], m)) 3 rfl ?_
      refine Ev_if rfl (fun hc => ?_) (fun hc => ?_)
      · replace h := h.1 hc
        refine Ev_rn (q := (62, [(0, x0), (1, x1), (9, 0), (1, x3), (9, 0)], [(0, 0)], m)) 2 rfl ?_
        exact Ev_zret rfl rfl (by decide) h
      · replace h := h.2 hc
        refine Ev_rn (q := (62, [(0, x0), (1, x1), (9, 0), (1, x3), (9, 0)], [(0, 1)], m)) 2 rfl ?_
        exact Ev_zret rfl rfl (by decide) h
  · replace h := h.2 hc
    refine Ev_rn (q := (6, [(0, x0), (1, x1), (9, 0), (1, x3), (9, 0)], [(0, lcm x1 x3)], m)) 3 rfl ?_
    refine Ev_if rfl (fun hc => ?_) (fun hc => ?_)
    · replace h := h.1 hc
      refine Ev_rn (q := (62, [(0, x0), (1, x1), (9, 0), (1, x3), (9, 0)], [(0, 0)], m)) 2 rfl ?_
      exact Ev_zret rfl rfl (by decide) h
    · replace h := h.2 hc
      refine Ev_rn (q := (62, [(0, x0), (1, x1), (9, 0), (1, x3), (9, 0)], [(0, 1)], m)) 2 rfl ?_
      exact Ev_zret rfl rfl (by decide) h
theorem b_Mo_hedgeThere {d : Nat} {r : Option Vv × Mm} {m : Mm} {x1 : Int} (h : (lcm x1 0 < 0 → r = (some (1, 0), m)) ∧ (¬ (lcm x1 0 < 0) → (0 ≤ lcm x1 40 → r = (some (1, 0), m)) ∧ (¬ (0 ≤ lcm x1 40) → ∃ (v1 : Int) (m1 : Mm), Cl d k_Mo_isThere [(18, 400), (0, w32 x1)] m (some (0, v1), m1) ∧ ((v1 = 0 → r = (some (1, 0), m1)) ∧ (¬ (v1 = 0) → r = (some (1, 1), m1)))))) : Ev (d + 1) K_Mo_hedgeThere 1 0 [(18, 400), (1, x1), (9, 0)] [] m r := by
  refine Ev_rn (q := (3, [(18, 400), (1, x1), (9, 0)], [(0, lcm x1 0)], m)) 3 rfl ?_
  refine Ev_if rfl (fun hc => ?_) (fun hc => ?_)
  · replace h := h.1 hc
    refine Ev_rn (q := (16, [(18, 400), (1, x1), (9, 0)], [(1, 0)], m)) 1 rfl ?_
    exact Ev_ret rfl rfl h
  · replace h := h.2 hc
    refine Ev_rn (q := (7, [(18, 400), (1, x1), (9, 0)], [(0, lcm x1 40)], m)) 3 rfl ?_
    refine Ev_if rfl (fun hc => ?_) (fun hc => ?_)
    · replace h := h.1 hc
      refine Ev_rn (q := (16, [(18, 400), (1, x1), (9, 0)], [(1, 0)], m)) 1 rfl ?_
      exact Ev_ret rfl rfl h
    · replace h := h.2 hc
      refine Ev_rn (q := (11, [(18, 400), (1, x1), (9, 0)], [(0, w32 x1), (18, 400)], m)) 3 rfl ?_
      obtain ⟨v1, m1, hc, h⟩ := h
      refine Ev_call (rest := []) rfl rfl (Nat.le_of_ble_eq_true rfl) hc ?_
      refine Ev_if rfl (fun hc => ?_) (fun hc => ?_)
      · replace h := h.1 hc
        refine Ev_rn (q := (16, [(18, 400), (1, x1), (9, 0)], [(1, 0)], m1)) 1 rfl ?_
        exact Ev_ret rfl rfl h
      · replace h := h.2 hc
        refine Ev_rn (q := (16, [(18, 400), (1, x1), (9, 0)], [(1, 1)], m1)) 2 rfl ?_
        exact Ev_ret rfl rfl h
theorem b_Mo_apart {d : Nat} {r : Option Vv × Mm} {m : Mm} {x0 x1 : Int} (h : ∃ (v1 : Int) (m1 : Mm), Cl d k_Mo_size [(0, w32 ((idv x0 5) - (idv x1 5)))] m (some (0, v1), m1) ∧ (∃ (v2 : Int) (m2 : Mm), Cl d k_Mo_size [(0, w32 ((irm x0 5) - (irm x1 5)))] m1 (some (0, v2), m2) ∧ (r = (some (0, w32 (v1 + v2)), m2)))) : Ev (d + 1) K_Mo_apart 0 0 [(0, x0), (0, x1)] [] m r := by
  refine Ev_rn (q := (2, [(0, x0), (0, x1)], [(0, 5), (0, x0)], m)) 2 rfl ?_
  refine Ev_idiv rfl (by decide) ?_
  refine Ev_rn (q := (5, [(0, x0), (0, x1)], [(0, 5), (0, x1), (0, idv x0 5)], m)) 2 rfl ?_
  refine Ev_idiv rfl (by decide) ?_
  refine Ev_rn (q := (7, [(0, x0), (0, x1)], [(0, w32 ((idv x0 5) - (idv x1 5)))], m)) 1 rfl ?_
  obtain ⟨v1, m1, hc, h⟩ := h
  refine Ev_call (rest := []) rfl rfl (Nat.le_of_ble_eq_true rfl) hc ?_
  refine Ev_rn (q := (10, [(0, x0), (0, x1)], [(0, 5), (0, x0), (0, v1)], m1)) 2 rfl ?_
  refine Ev_irem rfl (by decide) ?_
  refine Ev_rn (q := (13, [(0, x0), (0, x1)], [(0, 5), (0, x1), (0, irm x0 5), (0, v1)], m1)) 2 rfl ?_
  refine Ev_irem rfl (by decide) ?_
  refine Ev_rn (q := (15, [(0, x0), (0, x1)], [(0, w32 ((irm x0 5) - (irm x1 5))), (0, v1)], m1)) 1 rfl ?_
  obtain ⟨v2, m2, hc, h⟩ := h
  refine Ev_call (rest := [(0, v1)]) rfl rfl (Nat.le_of_ble_eq_true rfl) hc ?_
  refine Ev_rn (q := (17, [(0, x0), (0, x1)], [(0, w32 (v1 + v2))], m2)) 1 rfl ?_
  exact Ev_ret rfl rfl h
theorem b_Mo_farOf {d : Nat} {r : Option Vv × Mm} {m : Mm} {x0 x2 : Int} (h : (lcm x0 0 < 0 → r = (some (1, 0), m)) ∧ (¬ (lcm x0 0 < 0) → (0 ≤ lcm x0 25 → r = (some (1, 0), m)) ∧ (¬ (0 ≤ lcm x0 25) → (lcm x2 0 < 0 → r = (some (1, 0), m)) ∧ (¬ (lcm x2 0 < 0) → (lcm x2 25 < 0 → ∃ (v1 : Int) (m1 : Mm), Cl d k_Mo_apart [(0, w32 x0), (0, w32 x2)] m (some (0, v1), m1) ∧ (r = (some (1, v1), m1))) ∧ (¬ (lcm x2 25 < 0) → r = (some (1, 0), m)))))) : Ev (d + 1) K_Mo_farOf 1 0 [(1, x0), (9, 0), (1, x2), (9, 0)] [] m r := by
  refine Ev_rn (q := (3, [(1, x0), (9, 0), (1, x2), (9, 0)], [(0, lcm x0 0)], m)) 3 rfl ?_
  refine Ev_if rfl (fun hc => ?_) (fun hc => ?_)
  · replace h := h.1 hc
    refine Ev_rn (q := (24, [(1, x0), (9, 0), (1, x2), (9, 0)], [(1, 0)], m)) 2 rfl ?_
    exact Ev_ret rfl rfl h
  · replace h := h.2 hc
    refine Ev_rn (q := (7, [(1, x0), (9, 0), (1, x2), (9, 0)], [(0, lcm x0 25)], m)) 3 rfl ?_
    refine Ev_if rfl (fun hc => ?_) (fun hc => ?_)
    · replace h := h.1 hc
      refine Ev_rn (q := (24, [(1, x0), (9, 0), (1, x2), (9, 0)], [(1, 0)], m)) 2 rfl ?_
      exact Ev_ret rfl rfl h
    · replace h := h.2 hc
      refine Ev_rn (q := (11, [(1, x0), (9, 0), (1, x2), (9, 0)], [(0, lcm x2 0)], m)) 3 rfl ?_
      refine Ev_if rfl (fun hc => ?_) (fun hc => ?_)
      · replace h := h.1 hc
        refine Ev_rn (q := (24, [(1, x0), (9, 0), (1, x2), (9, 0)], [(1, 0)], m)) 2 rfl ?_
        exact Ev_ret rfl rfl h
      · replace h := h.2 hc
        refine Ev_rn (q := (15, [(1, x0), (9, 0), (1, x2), (9, 0)], [(0, lcm x2 25)], m)) 3 rfl ?_
        refine Ev_if rfl (fun hc => ?_) (fun hc => ?_)
        · replace h := h.1 hc
          refine Ev_rn (q := (22, [(1, x0), (9, 0), (1, x2), (9, 0)], [(0, w32 x2), (0, w32 x0)], m)) 4 rfl ?_
          obtain ⟨v1, m1, hc, h⟩ := h
          refine Ev_call (rest := []) rfl rfl (Nat.le_of_ble_eq_true rfl) hc ?_
          refine Ev_rn (q := (24, [(1, x0), (9, 0), (1, x2), (9, 0)], [(1, v1)], m1)) 1 rfl ?_
          exact Ev_ret rfl rfl h
        · replace h := h.2 hc
          refine Ev_rn (q := (24, [(1, x0), (9, 0), (1, x2), (9, 0)], [(1, 0)], m)) 2 rfl ?_
          exact Ev_ret rfl rfl h
theorem b_Mo_joined {d : Nat} {r : Option Vv × Mm} {m : Mm} {x0 x1 x2 : Int} (h : (¬ x0 = 21 → (¬ x1 = 0 → r = (some (0, 1), m)) ∧ (¬ (¬ x1 = 0) → (x2 = 0 → r = (some (0, 0), m)) ∧ (¬ (x2 = 0) → r = (some (0, 1), m)))) ∧ (¬ (¬ x0 = 21) → (x1 = 0 → r = (some (0, 0), m)) ∧ (¬ (x1 = 0) → (x2 = 0 → r = (some (0, 0), m)) ∧ (¬ (x2 = 0) → r = (some (0, 1), m))))) : Ev d K_Mo_joined 2 0 [(0, x0), (0, x1), (0, x2)] [] m r := by
  refine Ev_rn (q := (2, [(0, x0), (0, x1), (0, x2)], [(0, 21), (0, x0)], m)) 2 rfl ?_
  refine Ev_icmp rfl (fun hc => ?_) (fun hc => ?_)
  · replace h := h.1 hc
    refine Ev_rn (q := (12, [(0, x0), (0, x1), (0, x2)], [(0, x1)], m)) 1 rfl ?_
    refine Ev_if rfl (fun hc => ?_) (fun hc => ?_)
    · replace h := h.1 hc
      refine Ev_rn (q := (18, [(0, x0), (0, x1), (0, x2)], [(0, 1)], m)) 2 rfl ?_
      exact Ev_zret rfl rfl (by decide) h
    · replace h := h.2 hc
      refine Ev_rn (q := (14, [(0, x0), (0, x1), (0, x2)], [(0, x2)], m)) 1 rfl ?_
      refine Ev_if rfl (fun hc => ?_) (fun hc => ?_)
      · replace h := h.1 hc
        refine Ev_rn (q := (18, [(0, x0), (0, x1), (0, x2)], [(0, 0)], m)) 1 rfl ?_
        exact Ev_zret rfl rfl (by decide) h
      · replace h := h.2 hc
        refine Ev_rn (q := (18, [(0, x0), (0, x1), (0, x2)], [(0, 1)], m)) 2 rfl ?_
        exact Ev_zret rfl rfl (by decide) h
  · replace h := h.2 hc
    refine Ev_rn (q := (4, [(0, x0), (0, x1), (0, x2)], [(0, x1)], m)) 1 rfl ?_
    refine Ev_if rfl (fun hc => ?_) (fun hc => ?_)
    · replace h := h.1 hc
      refine Ev_rn (q := (18, [(0, x0), (0, x1), (0, x2)], [(0, 0)], m)) 2 rfl ?_
      exact Ev_zret rfl rfl (by decide) h
    · replace h := h.2 hc
      refine Ev_rn (q := (6, [(0, x0), (0, x1), (0, x2)], [(0, x2)], m)) 1 rfl ?_
      refine Ev_if rfl (fun hc => ?_) (fun hc => ?_)
      · replace h := h.1 hc
        refine Ev_rn (q := (18, [(0, x0), (0, x1), (0, x2)], [(0, 0)], m)) 2 rfl ?_
        exact Ev_zret rfl rfl (by decide) h
      · replace h := h.2 hc
        refine Ev_rn (q := (18, [(0, x0), (0, x1), (0, x2)], [(0, 1)], m)) 2 rfl ?_
        exact Ev_zret rfl rfl (by decide) h
theorem b_Mo_summedUp {d : Nat} {r : Option Vv × Mm} {m : Mm} {x1 x2 : Int} (h : (0 ≤ w32 ((w32 ((w32 ((w32 (681 * x1)) + 1)) + (w32 (3 * x2)))) + 1) ∧ w32 ((w32 ((w32 ((w32 (681 * x1)) + 1)) + (w32 (3 * x2)))) + 1) < 2724) ∧ (Ev (d + 1) K_Mo_summedUp 1 27 [(18, 400), (0, x1), (0, x2), (0, w32 ((w32 ((w32 (681 * x1)) + 1)) + (w32 (3 * x2)))), (0, w32 ((w32 (681 * x1)) + 73)), (0, 0), (0, 0), (0, m 403 (w32 ((w32 ((w32 ((w32 (681 * x1)) + 1)) + (w32 (3 * x2)))) + 1))), (9, 0), (9, 0)] [] m r)) : Ev (d + 1) K_Mo_summedUp 1 0 [(18, 400), (0, x1), (0, x2), (9, 0), (9, 0), (9, 0), (9, 0), (9, 0), (9, 0), (9, 0)] [] m r := by
  refine Ev_rn (q := (25, [(18, 400), (0, x1), (0, x2), (0, w32 ((w32 ((w32 (681 * x1)) + 1)) + (w32 (3 * x2)))), (0, w32 ((w32 (681 * x1)) + 73)), (0, 0), (0, 0), (9, 0), (9, 0), (9, 0)], [(0, w32 ((w32 ((w32 ((w32 (681 * x1)) + 1)) + (w32 (3 * x2)))) + 1)), (21892, 403)], m)) 25 rfl ?_
  obtain ⟨hc, h⟩ := h
  refine Ev_iald (n := 2724) rfl (by decide) (by decide) hc ?_
  refine Ev_rn (q := (27, [(18, 400), (0, x1), (0, x2), (0, w32 ((w32 ((w32 (681 * x1)) + 1)) + (w32 (3 * x2)))), (0, w32 ((w32 (681 * x1)) + 73)), (0, 0), (0, 0), (0, m 403 (w32 ((w32 ((w32 ((w32 (681 * x1)) + 1)) + (w32 (3 * x2)))) + 1))), (9, 0), (9, 0)], [], m)) 1 rfl ?_
  exact h
theorem b_Mo_summedUp_27 {d : Nat} {r : Option Vv × Mm} {m : Mm} {x1 x2 x3 x4 x5 x6 x7 : Int} {u8 u9 : Vv} (h : (0 ≤ w32 (x3 + 2) ∧ w32 (x3 + 2) < 2724) ∧ ((m 403 (w32 (x3 + 2)) ≤ x7 → r = (some (1, m 408 0), m)) ∧ (¬ (m 403 (w32 (x3 + 2)) ≤ x7) → (0 ≤ w32 (x4 + (w32 (2 * x7))) ∧ w32 (x4 + (w32 (2 * x7))) < 2724) ∧ ((0 ≤ w32 ((w32 (x4 + (w32 (2 * x7)))) + 1) ∧ w32 ((w32 (x4 + (w32 (2 * x7)))) + 1) < 2724) ∧ ((1 < m 403 (w32 (x4 + (w32 (2 * x7)))) → (¬ m 403 (w32 (x4 + (w32 (2 * x7)))) = 3 → (m 403 (w32 (x4 + (w32 (2 * x7)))) = 5 → Ev (d + 1) K_Mo_summedUp 1 101 [(18, 400), (0, x1), (0, x2), (0, x3), (0, x4), (0, x5), (0, x6), (0, x7), (0, m 403 (w32 (x4 + (w32 (2 * x7))))), (0, m 403 (w32 ((w32 (x4 + (w32 (2 * x7)))) + 1)))] [] m r) ∧ (¬ (m 403 (w32 (x4 + (w32 (2 * x7)))) = 5) → (¬ m 403 (w32 (x4 + (w32 (2 * x7)))) = 2 → (10 ≤ m 403 (w32 (x4 + (w32 (2 * x7)))) → (20 ≤ m 403 (w32 (x4 + (w32 (2 * x7)))) → (¬ m 403 (w32 (x4 + (w32 (2 * x7)))) = 20 → (0 ≤ w32 ((w32 (x6 + (-1))) - 1) ∧ w32 ((w32 (x6 + (-1))) - 1) < 330) ∧ ((0 ≤ w32 (x6 + (-1)) ∧ w32 (x6 + (-1)) < 330) ∧ (∃ (v1 : Int) (m1 : Mm), Cl d k_Mo_joined [(0, m 403 (w32 (x4 + (w32 (2 * x7))))), (0, m 409 (w32 ((w32 (x6 + (-1))) - 1))), (0, m 409 (w32 (x6 + (-1))))] m (some (0, v1), m1) ∧ ((v1 = 0 ∨ v1 = 1) ∧ (0 ≤ w32 ((w32 (x6 + (-1))) - 1) ∧ w32 ((w32 (x6 + (-1))) - 1) < 330) ∧ (∀ m2 : Mm, m2 = up m1 409 (w32 ((w32 (x6 + (-1))) - 1)) v1 → (Ev (d + 1) K_Mo_summedUp 1 27 [(18, 400), (0, x1), (0, x2), (0, x3), (0, x4), (0, x5), (0, w32 (x6 + (-1))), (0, w32 (x7 + 1)), (0, m 403 (w32 (x4 + (w32 (2 * x7))))), (0, m 403 (w32 ((w32 (x4 + (w32 (2 * x7)))) + 1)))] [] m2 r)))))) ∧ (¬ (¬ m 403 (w32 (x4 + (w32 (2 * x7)))) = 20) → (0 ≤ w32 (x6 - 1) ∧ w32 (x6 - 1) < 330) ∧ ((¬ m 409 (w32 (x6 - 1)) = 0 → (0 ≤ w32 (x6 - 1) ∧ w32 (x6 - 1) < 330) ∧ (∀ m3 : Mm, m3 = up m 409 (w32 (x6 - 1)) 0 → (Ev (d + 1) K_Mo_summedUp 1 27 [(18, 400), (0, x1), (0, x2), (0, x3), (0, x4), (0, x5), (0, x6), (0, w32 (x7 + 1)), (0, m 403 (w32 (x4 + (w32 (2 * x7))))), (0, m 403 (w32 ((w32 (x4 + (w32 (2 * x7)))) + 1)))] [] m3 r))) ∧ (¬ (¬ m 409 (w32 (x6 - 1)) = 0) → (0 ≤ w32 (x6 - 1) ∧ w32 (x6 - 1) < 330) ∧ (∀ m4 : Mm, m4 = up m 409 (w32 (x6 - 1)) 1 → (Ev (d + 1) K_Mo_summedUp 1 27 [(18, 400), (0, x1), (0, x2), (0, x3), (0, x4), (0, x5), (0, x6), (0, w32 (x7 + 1)), (0, m 403 (w32 (x4 + (w32 (2 * x7))))), (0, m 403 (w32 ((w32 (x4 + (w32 (2 * x7)))) + 1)))] [] m4 r)))))) ∧ (¬ (20 ≤ m 403 (w32 (x4 + (w32 (2 * x7))))) → (0 ≤ w32 (x5 + (-2)) ∧ w32 (x5 + (-2)) < 330) ∧ ((0 ≤ w32 ((w32 (x5 + (-2))) + 1) ∧ w32 ((w32 (x5 + (-2))) + 1) < 330) ∧ (∃ (v5 : Int) (m5 : Mm), Cl d k_Mo_isAsked [(0, m 403 (w32 (x4 + (w32 (2 * x7))))), (1, m 408 (w32 (x5 + (-2)))), (1, m 408 (w32 ((w32 (x5 + (-2))) + 1)))] m (some (0, v5), m5) ∧ ((v5 = 0 ∨ v5 = 1) ∧ (0 ≤ x6 ∧ x6 < 330) ∧ (∀ m6 : Mm, m6 = up m5 409 x6 v5 → (Ev (d + 1) K_Mo_summedUp 1 27 [(18, 400), (0, x1), (0, x2), (0, x3), (0, x4), (0, w32 (x5 + (-2))), (0, w32 (x6 + 1)), (0, w32 (x7 + 1)), (0, m 403 (w32 (x4 + (w32 (2 * x7))))), (0, m 403 (w32 ((w32 (x4 + (w32 (2 * x7)))) + 1)))] [] m6 r))))))) ∧ (¬ (10 ≤ m 403 (w32 (x4 + (w32 (2 * x7))))) → (¬ m 403 (w32 (x4 + (w32 (2 * x7)))) = 4 → (0 ≤ w32 ((w32 (x5 + (-1))) - 1) ∧ w32 ((w32 (x5 + (-1))) - 1) < 330) ∧ ((0 ≤ w32 (x5 + (-1)) ∧ w32 (x5 + (-1)) < 330) ∧ (∃ (v7 : Int) (m7 : Mm), Cl d k_Mo_two [(0, m 403 (w32 (x4 + (w32 (2 * x7))))), (1, m 408 (w32 ((w32 (x5 + (-1))) - 1))), (1, m 408 (w32 (x5 + (-1))))] m (some (1, v7), m7) ∧ ((0 ≤ w32 ((w32 (x5 + (-1))) - 1) ∧ w32 ((w32 (x5 + (-1))) - 1) < 330) ∧ (∀ m8 : Mm, m8 = up m7 408 (w32 ((w32 (x5 + (-1))) - 1)) v7 → (Ev (d + 1) K_Mo_summedUp 1 27 [(18, 400), (0, x1), (0, x2), (0, x3), (0, x4), (0, w32 (x5 + (-1))), (0, x6), (0, w32 (x7 + 1)), (0, m 403 (w32 (x4 + (w32 (2 * x7))))), (0, m 403 (w32 ((w32 (x4 + (w32 (2 * x7)))) + 1)))] [] m8 r)))))) ∧ (¬ (¬ m 403 (w32 (x4 + (w32 (2 * x7)))) = 4) → (0 ≤ w32 ((w32 (x5 + (-1))) - 1) ∧ w32 ((w32 (x5 + (-1))) - 1) < 330) ∧ ((0 ≤ w32 (x5 + (-1)) ∧ w32 (x5 + (-1)) < 330) ∧ (∃ (v9 : Int) (m9 : Mm), Cl d k_Mo_farOf [(1, m 408 (w32 ((w32 (x5 + (-1))) - 1))), (1, m 408 (w32 (x5 + (-1))))] m (some (1, v9), m9) ∧ ((0 ≤ w32 ((w32 (x5 + (-1))) - 1) ∧ w32 ((w32 (x5 + (-1))) - 1) < 330) ∧ (∀ m10 : Mm, m10 = up m9 408 (w32 ((w32 (x5 + (-1))) - 1)) v9 → (Ev (d + 1) K_Mo_summedUp 1 27 [(18, 400), (0, x1), (0, x2), (0, x3), (0, x4), (0, w32 (x5 + (-1))), (0, x6), (0, w32 (x7 + 1)), (0, m 403 (w32 (x4 + (w32 (2 * x7))))), (0, m 403 (w32 ((w32 (x4 + (w32 (2 * x7)))) + 1)))] [] m10 r)))))))) ∧ (¬ (¬ m 403 (w32 (x4 + (w32 (2 * x7)))) = 2) → Ev (d + 1) K_Mo_summedUp 1 101 [(18, 400), (0, x1), (0, x2), (0, x3), (0, x4), (0, x5), (0, x6), (0, x7), (0, m 403 (w32 (x4 + (w32 (2 * x7))))), (0, m 403 (w32 ((w32 (x4 + (w32 (2 * x7)))) + 1)))] [] m r))) ∧ (¬ (¬ m 403 (w32 (x4 + (w32 (2 * x7)))) = 3) → (0 ≤ w32 (x6 + (-1)) ∧ w32 (x6 + (-1)) < 330) ∧ ((¬ m 409 (w32 (x6 + (-1))) = 0 → Ev (d + 1) K_Mo_summedUp 1 27 [(18, 400), (0, x1), (0, x2), (0, x3), (0, x4), (0, w32 (x5 + (-1))), (0, w32 (x6 + (-1))), (0, w32 (x7 + 1)), (0, m 403 (w32 (x4 + (w32 (2 * x7))))), (0, m 403 (w32 ((w32 (x4 + (w32 (2 * x7)))) + 1)))] [] m r) ∧ (¬ (¬ m 409 (w32 (x6 + (-1))) = 0) → (0 ≤ w32 (x5 + (-1)) ∧ w32 (x5 + (-1)) < 330) ∧ ((0 ≤ w32 ((w32 (x5 + (-1))) - 1) ∧ w32 ((w32 (x5 + (-1))) - 1) < 330) ∧ (∀ m11 : Mm, m11 = up m 408 (w32 ((w32 (x5 + (-1))) - 1)) (m 408 (w32 (x5 + (-1)))) → (Ev (d + 1) K_Mo_summedUp 1 27 [(18, 400), (0, x1), (0, x2), (0, x3), (0, x4), (0, w32 (x5 + (-1))), (0, w32 (x6 + (-1))), (0, w32 (x7 + 1)), (0, m 403 (w32 (x4 + (w32 (2 * x7))))), (0, m 403 (w32 ((w32 (x4 + (w32 (2 * x7)))) + 1)))] [] m11 r))))))) ∧ (¬ (1 < m 403 (w32 (x4 + (w32 (2 * x7))))) → (¬ m 403 (w32 (x4 + (w32 (2 * x7)))) = 0 → (0 ≤ m 403 (w32 ((w32 (x4 + (w32 (2 * x7)))) + 1)) ∧ m 403 (w32 ((w32 (x4 + (w32 (2 * x7)))) + 1)) < 7) ∧ ((0 ≤ x5 ∧ x5 < 330) ∧ (∀ m12 : Mm, m12 = up m 408 x5 (m 407 (m 403 (w32 ((w32 (x4 + (w32 (2 * x7)))) + 1)))) → (Ev (d + 1) K_Mo_summedUp 1 27 [(18, 400), (0, x1), (0, x2), (0, x3), (0, x4), (0, w32 (x5 + 1)), (0, x6), (0, w32 (x7 + 1)), (0, m 403 (w32 (x4 + (w32 (2 * x7))))), (0, m 403 (w32 ((w32 (x4 + (w32 (2 * x7)))) + 1)))] [] m12 r)))) ∧ (¬ (¬ m 403 (w32 (x4 + (w32 (2 * x7)))) = 0) → (0 ≤ x5 ∧ x5 < 330) ∧ (∀ m13 : Mm, m13 = up m 408 x5 (m 403 (w32 ((w32 (x4 + (w32 (2 * x7)))) + 1))) → (Ev (d + 1) K_Mo_summedUp 1 27 [(18, 400), (0, x1), (0, x2), (0, x3), (0, x4), (0, w32 (x5 + 1)), (0, x6), (0, w32 (x7 + 1)), (0, m 403 (w32 (x4 + (w32 (2 * x7))))), (0, m 403 (w32 ((w32 (x4 + (w32 (2 * x7)))) + 1)))] [] m13 r))))))))) : Ev (d + 1) K_Mo_summedUp 1 27 [(18, 400), (0, x1), (0, x2), (0, x3), (0, x4), (0, x5), (0, x6), (0, x7), u8, u9] [] m r := by
  refine Ev_rn (q := (33, [(18, 400), (0, x1), (0, x2), (0, x3), (0, x4), (0, x5), (0, x6), (0, x7), u8, u9], [(0, w32 (x3 + 2)), (21892, 403), (0, x7)], m)) 6 rfl ?_
  obtain ⟨hc, h⟩ := h
  refine Ev_iald (n := 2724) rfl (by decide) (by decide) hc ?_
  refine Ev_icmp rfl (fun hc => ?_) (fun hc => ?_)
  · replace h := h.1 hc
    refine Ev_rn (q := (231, [(18, 400), (0, x1), (0, x2), (0, x3), (0, x4), (0, x5), (0, x6), (0, x7), u8, u9], [(0, 0), (2741, 408)], m)) 3 rfl ?_
    refine Ev_lald (n := 330) rfl (by decide) (by decide) ⟨by decide, by decide⟩ ?_
    exact Ev_ret rfl rfl h
  · replace h := h.2 hc
    refine Ev_rn (q := (42, [(18, 400), (0, x1), (0, x2), (0, x3), (0, x4), (0, x5), (0, x6), (0, x7), u8, u9], [(0, w32 (x4 + (w32 (2 * x7)))), (21892, 403)], m)) 7 rfl ?_
    obtain ⟨hc, h⟩ := h
    refine Ev_iald (n := 2724) rfl (by decide) (by decide) hc ?_
    refine Ev_rn (q := (53, [(18, 400), (0, x1), (0, x2), (0, x3), (0, x4), (0, x5), (0, x6), (0, x7), (0, m 403 (w32 (x4 + (w32 (2 * x7))))), u9], [(0, w32 ((w32 (x4 + (w32 (2 * x7)))) + 1)), (21892, 403)], m)) 10 rfl ?_
    obtain ⟨hc, h⟩ := h
    refine Ev_iald (n := 2724) rfl (by decide) (by decide) hc ?_
    refine Ev_rn (q := (57, [(18, 400), (0, x1), (0, x2), (0, x3), (0, x4), (0, x5), (0, x6), (0, x7), (0, m 403 (w32 (x4 + (w32 (2 * x7))))), (0, m 403 (w32 ((w32 (x4 + (w32 (2 * x7)))) + 1)))], [(0, 1), (0, m 403 (w32 (x4 + (w32 (2 * x7)))))], m)) 3 rfl ?_
    refine Ev_icmp rfl (fun hc => ?_) (fun hc => ?_)
    · replace h := h.1 hc
      refine Ev_rn (q := (76, [(18, 400), (0, x1), (0, x2), (0, x3), (0, x4), (0, x5), (0, x6), (0, x7), (0, m 403 (w32 (x4 + (w32 (2 * x7))))), (0, m 403 (w32 ((w32 (x4 + (w32 (2 * x7)))) + 1)))], [(0, 3), (0, m 403 (w32 (x4 + (w32 (2 * x7)))))], m)) 2 rfl ?_
      refine Ev_icmp rfl (fun hc => ?_) (fun hc => ?_)
      · replace h := h.1 hc
        refine Ev_rn (q := (97, [(18, 400), (0, x1), (0, x2), (0, x3), (0, x4), (0, x5), (0, x6), (0, x7), (0, m 403 (w32 (x4 + (w32 (2 * x7))))), (0, m 403 (w32 ((w32 (x4 + (w32 (2 * x7)))) + 1)))], [(0, 5), (0, m 403 (w32 (x4 + (w32 (2 * x7)))))], m)) 2 rfl ?_
        refine Ev_icmp rfl (fun hc => ?_) (fun hc => ?_)
        · replace h := h.1 hc
          exact h
        · replace h := h.2 hc
          refine Ev_rn (q := (100, [(18, 400), (0, x1), (0, x2), (0, x3), (0, x4), (0, x5), (0, x6), (0, x7), (0, m 403 (w32 (x4 + (w32 (2 * x7))))), (0, m 403 (w32 ((w32 (x4 + (w32 (2 * x7)))) + 1)))], [(0, 2), (0, m 403 (w32 (x4 + (w32 (2 * x7)))))], m)) 2 rfl ?_
          refine Ev_icmp rfl (fun hc => ?_) (fun hc => ?_)
          · replace h := h.1 hc
            refine Ev_rn (q := (129, [(18, 400), (0, x1), (0, x2), (0, x3), (0, x4), (0, x5), (0, x6), (0, x7), (0, m 403 (w32 (x4 + (w32 (2 * x7))))), (0, m 403 (w32 ((w32 (x4 + (w32 (2 * x7)))) + 1)))], [(0, 10), (0, m 403 (w32 (x4 + (w32 (2 * x7)))))], m)) 2 rfl ?_
            refine Ev_icmp rfl (fun hc => ?_) (fun hc => ?_)
            · replace h := h.1 hc
              refine Ev_rn (q := (167, [(18, 400), (0, x1), (0, x2), (0, x3), (0, x4), (0, x5), (0, x6), (0, x7), (0, m 403 (w32 (x4 + (w32 (2 * x7))))), (0, m 403 (w32 ((w32 (x4 + (w32 (2 * x7)))) + 1)))], [(0, 20), (0, m 403 (w32 (x4 + (w32 (2 * x7)))))], m)) 2 rfl ?_
              refine Ev_icmp rfl (fun hc => ?_) (fun hc => ?_)
              · replace h := h.1 hc
                refine Ev_rn (q := (189, [(18, 400), (0, x1), (0, x2), (0, x3), (0, x4), (0, x5), (0, x6), (0, x7), (0, m 403 (w32 (x4 + (w32 (2 * x7))))), (0, m 403 (w32 ((w32 (x4 + (w32 (2 * x7)))) + 1)))], [(0, 20), (0, m 403 (w32 (x4 + (w32 (2 * x7)))))], m)) 2 rfl ?_
                refine Ev_icmp rfl (fun hc => ?_) (fun hc => ?_)
                · replace h := h.1 hc
                  refine Ev_rn (q := (219, [(18, 400), (0, x1), (0, x2), (0, x3), (0, x4), (0, x5), (0, w32 (x6 + (-1))), (0, x7), (0, m 403 (w32 (x4 + (w32 (2 * x7))))), (0, m 403 (w32 ((w32 (x4 + (w32 (2 * x7)))) + 1)))], [(0, w32 ((w32 (x6 + (-1))) - 1)), (2742, 409), (0, m 403 (w32 (x4 + (w32 (2 * x7))))), (0, w32 ((w32 (x6 + (-1))) - 1)), (2742, 409)], m)) 12 rfl ?_
                  obtain ⟨hc, h⟩ := h
                  refine Ev_bald (n := 330) rfl (by decide) (by decide) hc ?_
                  refine Ev_rn (q := (223, [(18, 400), (0, x1), (0, x2), (0, x3), (0, x4), (0, x5), (0, w32 (x6 + (-1))), (0, x7), (0, m 403 (w32 (x4 + (w32 (2 * x7))))), (0, m 403 (w32 ((w32 (x4 + (w32 (2 * x7)))) + 1)))], [(0, w32 (x6 + (-1))), (2742, 409), (0, m 409 (w32 ((w32 (x6 + (-1))) - 1))), (0, m 403 (w32 (x4 + (w32 (2 * x7))))), (0, w32 ((w32 (x6 + (-1))) - 1)), (2742, 409)], m)) 3 rfl ?_
                  obtain ⟨hc, h⟩ := h
                  refine Ev_bald (n := 330) rfl (by decide) (by decide) hc ?_
                  obtain ⟨v1, m1, hc, h⟩ := h
                  refine Ev_call (rest := [(0, w32 ((w32 (x6 + (-1))) - 1)), (2742, 409)]) rfl rfl (Nat.le_of_ble_eq_true rfl) hc ?_
                  obtain ⟨hv, hc, h⟩ := h
                  refine Ev_bast (n := 330) rfl (by decide) (by decide) hv hc ?_
                  generalize e2 : up m1 409 (w32 ((w32 (x6 + (-1))) - 1)) v1 = m2
                  replace h := h m2 e2.symm
                  refine Ev_rn (q := (27, [(18, 400), (0, x1), (0, x2), (0, x3), (0, x4), (0, x5), (0, w32 (x6 + (-1))), (0, w32 (x7 + 1)), (0, m 403 (w32 (x4 + (w32 (2 * x7))))), (0, m 403 (w32 ((w32 (x4 + (w32 (2 * x7)))) + 1)))], [], m2)) 2 rfl ?_
                  exact h
                · replace h := h.2 hc
                  refine Ev_rn (q := (200, [(18, 400), (0, x1), (0, x2), (0, x3), (0, x4), (0, x5), (0, x6), (0, x7), (0, m 403 (w32 (x4 + (w32 (2 * x7))))), (0, m 403 (w32 ((w32 (x4 + (w32 (2 * x7)))) + 1)))], [(0, w32 (x6 - 1)), (2742, 409), (0, w32 (x6 - 1)), (2742, 409)], m)) 10 rfl ?_
                  obtain ⟨hc, h⟩ := h
                  refine Ev_bald (n := 330) rfl (by decide) (by decide) hc ?_
                  refine Ev_if rfl (fun hc => ?_) (fun hc => ?_)
                  · replace h := h.1 hc
                    refine Ev_rn (q := (205, [(18, 400), (0, x1), (0, x2), (0, x3), (0, x4), (0, x5), (0, x6), (0, x7), (0, m 403 (w32 (x4 + (w32 (2 * x7))))), (0, m 403 (w32 ((w32 (x4 + (w32 (2 * x7)))) + 1)))], [(0, 0), (0, w32 (x6 - 1)), (2742, 409)], m)) 1 rfl ?_
                    obtain ⟨hc, h⟩ := h
                    refine Ev_bast (n := 330) rfl (by decide) (by decide) (by decide) hc ?_
                    generalize e3 : up m 409 (w32 (x6 - 1)) 0 = m3
                    replace h := h m3 e3.symm
                    refine Ev_rn (q := (27, [(18, 400), (0, x1), (0, x2), (0, x3), (0, x4), (0, x5), (0, x6), (0, w32 (x7 + 1)), (0, m 403 (w32 (x4 + (w32 (2 * x7))))), (0, m 403 (w32 ((w32 (x4 + (w32 (2 * x7)))) + 1)))], [], m3)) 3 rfl ?_
                    exact h
                  · replace h := h.2 hc
                    refine Ev_rn (q := (205, [(18, 400), (0, x1), (0, x2), (0, x3), (0, x4), (0, x5), (0, x6), (0, x7), (0, m 403 (w32 (x4 + (w32 (2 * x7))))), (0, m 403 (w32 ((w32 (x4 + (w32 (2 * x7)))) + 1)))], [(0, 1), (0, w32 (x6 - 1)), (2742, 409)], m)) 2 rfl ?_
                    obtain ⟨hc, h⟩ := h
                    refine Ev_bast (n := 330) rfl (by decide) (by decide) (by decide) hc ?_
                    generalize e4 : up m 409 (w32 (x6 - 1)) 1 = m4
                    replace h := h m4 e4.symm
                    refine Ev_rn (q := (27, [(18, 400), (0, x1), (0, x2), (0, x3), (0, x4), (0, x5), (0, x6), (0, w32 (x7 + 1)), (0, m 403 (w32 (x4 + (w32 (2 * x7))))), (0, m 403 (w32 ((w32 (x4 + (w32 (2 * x7)))) + 1)))], [], m4)) 3 rfl ?_
                    exact h
              · replace h := h.2 hc
                refine Ev_rn (q := (176, [(18, 400), (0, x1), (0, x2), (0, x3), (0, x4), (0, w32 (x5 + (-2))), (0, x6), (0, x7), (0, m 403 (w32 (x4 + (w32 (2 * x7))))), (0, m 403 (w32 ((w32 (x4 + (w32 (2 * x7)))) + 1)))], [(0, w32 (x5 + (-2))), (2741, 408), (0, m 403 (w32 (x4 + (w32 (2 * x7))))), (0, x6), (2742, 409)], m)) 8 rfl ?_
                obtain ⟨hc, h⟩ := h
                refine Ev_lald (n := 330) rfl (by decide) (by decide) hc ?_
                refine Ev_rn (q := (182, [(18, 400), (0, x1), (0, x2), (0, x3), (0, x4), (0, w32 (x5 + (-2))), (0, x6), (0, x7), (0, m 403 (w32 (x4 + (w32 (2 * x7))))), (0, m 403 (w32 ((w32 (x4 + (w32 (2 * x7)))) + 1)))], [(0, w32 ((w32 (x5 + (-2))) + 1)), (2741, 408), (1, m 408 (w32 (x5 + (-2)))), (0, m 403 (w32 (x4 + (w32 (2 * x7))))), (0, x6), (2742, 409)], m)) 5 rfl ?_
                obtain ⟨hc, h⟩ := h
                refine Ev_lald (n := 330) rfl (by decide) (by decide) hc ?_
                obtain ⟨v5, m5, hc, h⟩ := h
                refine Ev_call (rest := [(0, x6), (2742, 409)]) rfl rfl (Nat.le_of_ble_eq_true rfl) hc ?_
                obtain ⟨hv, hc, h⟩ := h
                refine Ev_bast (n := 330) rfl (by decide) (by decide) hv hc ?_
                generalize e6 : up m5 409 x6 v5 = m6
                replace h := h m6 e6.symm
                refine Ev_rn (q := (27, [(18, 400), (0, x1), (0, x2), (0, x3), (0, x4), (0, w32 (x5 + (-2))), (0, w32 (x6 + 1)), (0, w32 (x7 + 1)), (0, m 403 (w32 (x4 + (w32 (2 * x7))))), (0, m 403 (w32 ((w32 (x4 + (w32 (2 * x7)))) + 1)))], [], m6)) 4 rfl ?_
                exact h
            · replace h := h.2 hc
              refine Ev_rn (q := (138, [(18, 400), (0, x1), (0, x2), (0, x3), (0, x4), (0, w32 (x5 + (-1))), (0, x6), (0, x7), (0, m 403 (w32 (x4 + (w32 (2 * x7))))), (0, m 403 (w32 ((w32 (x4 + (w32 (2 * x7)))) + 1)))], [(0, 4), (0, m 403 (w32 (x4 + (w32 (2 * x7))))), (0, w32 ((w32 (x5 + (-1))) - 1)), (2741, 408)], m)) 8 rfl ?_
              refine Ev_icmp rfl (fun hc => ?_) (fun hc => ?_)
              · replace h := h.1 hc
                refine Ev_rn (q := (157, [(18, 400), (0, x1), (0, x2), (0, x3), (0, x4), (0, w32 (x5 + (-1))), (0, x6), (0, x7), (0, m 403 (w32 (x4 + (w32 (2 * x7))))), (0, m 403 (w32 ((w32 (x4 + (w32 (2 * x7)))) + 1)))], [(0, w32 ((w32 (x5 + (-1))) - 1)), (2741, 408), (0, m 403 (w32 (x4 + (w32 (2 * x7))))), (0, w32 ((w32 (x5 + (-1))) - 1)), (2741, 408)], m)) 6 rfl ?_
                obtain ⟨hc, h⟩ := h
                refine Ev_lald (n := 330) rfl (by decide) (by decide) hc ?_
                refine Ev_rn (q := (161, [(18, 400), (0, x1), (0, x2), (0, x3), (0, x4), (0, w32 (x5 + (-1))), (0, x6), (0, x7), (0, m 403 (w32 (x4 + (w32 (2 * x7))))), (0, m 403 (w32 ((w32 (x4 + (w32 (2 * x7)))) + 1)))], [(0, w32 (x5 + (-1))), (2741, 408), (1, m 408 (w32 ((w32 (x5 + (-1))) - 1))), (0, m 403 (w32 (x4 + (w32 (2 * x7))))), (0, w32 ((w32 (x5 + (-1))) - 1)), (2741, 408)], m)) 3 rfl ?_
                obtain ⟨hc, h⟩ := h
                refine Ev_lald (n := 330) rfl (by decide) (by decide) hc ?_
                obtain ⟨v7, m7, hc, h⟩ := h
                refine Ev_call (rest := [(0, w32 ((w32 (x5 + (-1))) - 1)), (2741, 408)]) rfl rfl (Nat.le_of_ble_eq_true rfl) hc ?_
                obtain ⟨hc, h⟩ := h
                refine Ev_last (n := 330) rfl (by decide) (by decide) hc ?_
                generalize e8 : up m7 408 (w32 ((w32 (x5 + (-1))) - 1)) v7 = m8
                replace h := h m8 e8.symm
                refine Ev_rn (q := (27, [(18, 400), (0, x1), (0, x2), (0, x3), (0, x4), (0, w32 (x5 + (-1))), (0, x6), (0, w32 (x7 + 1)), (0, m 403 (w32 (x4 + (w32 (2 * x7))))), (0, m 403 (w32 ((w32 (x4 + (w32 (2 * x7)))) + 1)))], [], m8)) 3 rfl ?_
                exact h
              · replace h := h.2 hc
                refine Ev_rn (q := (144, [(18, 400), (0, x1), (0, x2), (0, x3), (0, x4), (0, w32 (x5 + (-1))), (0, x6), (0, x7), (0, m 403 (w32 (x4 + (w32 (2 * x7))))), (0, m 403 (w32 ((w32 (x4 + (w32 (2 * x7)))) + 1)))], [(0, w32 ((w32 (x5 + (-1))) - 1)), (2741, 408), (0, w32 ((w32 (x5 + (-1))) - 1)), (2741, 408)], m)) 5 rfl ?_
                obtain ⟨hc, h⟩ := h
                refine Ev_lald (n := 330) rfl (by decide) (by decide) hc ?_
                refine Ev_rn (q := (148, [(18, 400), (0, x1), (0, x2), (0, x3), (0, x4), (0, w32 (x5 + (-1))), (0, x6), (0, x7), (0, m 403 (w32 (x4 + (w32 (2 * x7))))), (0, m 403 (w32 ((w32 (x4 + (w32 (2 * x7)))) + 1)))], [(0, w32 (x5 + (-1))), (2741, 408), (1, m 408 (w32 ((w32 (x5 + (-1))) - 1))), (0, w32 ((w32 (x5 + (-1))) - 1)), (2741, 408)], m)) 3 rfl ?_
                obtain ⟨hc, h⟩ := h
                refine Ev_lald (n := 330) rfl (by decide) (by decide) hc ?_
                obtain ⟨v9, m9, hc, h⟩ := h
                refine Ev_call (rest := [(0, w32 ((w32 (x5 + (-1))) - 1)), (2741, 408)]) rfl rfl (Nat.le_of_ble_eq_true rfl) hc ?_
                refine Ev_rn (q := (163, [(18, 400), (0, x1), (0, x2), (0, x3), (0, x4), (0, w32 (x5 + (-1))), (0, x6), (0, x7), (0, m 403 (w32 (x4 + (w32 (2 * x7))))), (0, m 403 (w32 ((w32 (x4 + (w32 (2 * x7)))) + 1)))], [(1, v9), (0, w32 ((w32 (x5 + (-1))) - 1)), (2741, 408)], m9)) 1 rfl ?_
                obtain ⟨hc, h⟩ := h
                refine Ev_last (n := 330) rfl (by decide) (by decide) hc ?_
                generalize e10 : up m9 408 (w32 ((w32 (x5 + (-1))) - 1)) v9 = m10
                replace h := h m10 e10.symm
                refine Ev_rn (q := (27, [(18, 400), (0, x1), (0, x2), (0, x3), (0, x4), (0, w32 (x5 + (-1))), (0, x6), (0, w32 (x7 + 1)), (0, m 403 (w32 (x4 + (w32 (2 * x7))))), (0, m 403 (w32 ((w32 (x4 + (w32 (2 * x7)))) + 1)))], [], m10)) 3 rfl ?_
                exact h
          · replace h := h.2 hc
            exact h
      · replace h := h.2 hc
        refine Ev_rn (q := (82, [(18, 400), (0, x1), (0, x2), (0, x3), (0, x4), (0, w32 (x5 + (-1))), (0, w32 (x6 + (-1))), (0, x7), (0, m 403 (w32 (x4 + (w32 (2 * x7))))), (0, m 403 (w32 ((w32 (x4 + (w32 (2 * x7)))) + 1)))], [(0, w32 (x6 + (-1))), (2742, 409)], m)) 5 rfl ?_
        obtain ⟨hc, h⟩ := h
        refine Ev_bald (n := 330) rfl (by decide) (by decide) hc ?_
        refine Ev_if rfl (fun hc => ?_) (fun hc => ?_)
        · replace h := h.1 hc
          refine Ev_rn (q := (27, [(18, 400), (0, x1), (0, x2), (0, x3), (0, x4), (0, w32 (x5 + (-1))), (0, w32 (x6 + (-1))), (0, w32 (x7 + 1)), (0, m 403 (w32 (x4 + (w32 (2 * x7))))), (0, m 403 (w32 ((w32 (x4 + (w32 (2 * x7)))) + 1)))], [], m)) 2 rfl ?_
          exact h
        · replace h := h.2 hc
          refine Ev_rn (q := (92, [(18, 400), (0, x1), (0, x2), (0, x3), (0, x4), (0, w32 (x5 + (-1))), (0, w32 (x6 + (-1))), (0, x7), (0, m 403 (w32 (x4 + (w32 (2 * x7))))), (0, m 403 (w32 ((w32 (x4 + (w32 (2 * x7)))) + 1)))], [(0, w32 (x5 + (-1))), (2741, 408), (0, w32 ((w32 (x5 + (-1))) - 1)), (2741, 408)], m)) 8 rfl ?_
          obtain ⟨hc, h⟩ := h
          refine Ev_lald (n := 330) rfl (by decide) (by decide) hc ?_
          obtain ⟨hc, h⟩ := h
          refine Ev_last (n := 330) rfl (by decide) (by decide) hc ?_
          generalize e11 : up m 408 (w32 ((w32 (x5 + (-1))) - 1)) (m 408 (w32 (x5 + (-1)))) = m11
          replace h := h m11 e11.symm
          refine Ev_rn (q := (27, [(18, 400), (0, x1), (0, x2), (0, x3), (0, x4), (0, w32 (x5 + (-1))), (0, w32 (x6 + (-1))), (0, w32 (x7 + 1)), (0, m 403 (w32 (x4 + (w32 (2 * x7))))), (0, m 403 (w32 ((w32 (x4 + (w32 (2 * x7)))) + 1)))], [], m11)) 3 rfl ?_
          exact h
    · replace h := h.2 hc
      refine Ev_rn (q := (62, [(18, 400), (0, x1), (0, x2), (0, x3), (0, x4), (0, x5), (0, x6), (0, x7), (0, m 403 (w32 (x4 + (w32 (2 * x7))))), (0, m 403 (w32 ((w32 (x4 + (w32 (2 * x7)))) + 1)))], [(0, m 403 (w32 (x4 + (w32 (2 * x7))))), (0, x5), (2741, 408)], m)) 4 rfl ?_
      refine Ev_if rfl (fun hc => ?_) (fun hc => ?_)
      · replace h := h.1 hc
        refine Ev_rn (q := (69, [(18, 400), (0, x1), (0, x2), (0, x3), (0, x4), (0, x5), (0, x6), (0, x7), (0, m 403 (w32 (x4 + (w32 (2 * x7))))), (0, m 403 (w32 ((w32 (x4 + (w32 (2 * x7)))) + 1)))], [(0, m 403 (w32 ((w32 (x4 + (w32 (2 * x7)))) + 1))), (156, 407), (0, x5), (2741, 408)], m)) 3 rfl ?_
        obtain ⟨hc, h⟩ := h
        refine Ev_iald (n := 7) rfl (by decide) (by decide) hc ?_
        refine Ev_rn (q := (71, [(18, 400), (0, x1), (0, x2), (0, x3), (0, x4), (0, x5), (0, x6), (0, x7), (0, m 403 (w32 (x4 + (w32 (2 * x7))))), (0, m 403 (w32 ((w32 (x4 + (w32 (2 * x7)))) + 1)))], [(1, m 407 (m 403 (w32 ((w32 (x4 + (w32 (2 * x7)))) + 1)))), (0, x5), (2741, 408)], m)) 1 rfl ?_
        obtain ⟨hc, h⟩ := h
        refine Ev_last (n := 330) rfl (by decide) (by decide) hc ?_
        generalize e12 : up m 408 x5 (m 407 (m 403 (w32 ((w32 (x4 + (w32 (2 * x7)))) + 1)))) = m12
        replace h := h m12 e12.symm
        refine Ev_rn (q := (27, [(18, 400), (0, x1), (0, x2), (0, x3), (0, x4), (0, w32 (x5 + 1)), (0, x6), (0, w32 (x7 + 1)), (0, m 403 (w32 (x4 + (w32 (2 * x7))))), (0, m 403 (w32 ((w32 (x4 + (w32 (2 * x7)))) + 1)))], [], m12)) 4 rfl ?_
        exact h
      · replace h := h.2 hc
        refine Ev_rn (q := (71, [(18, 400), (0, x1), (0, x2), (0, x3), (0, x4), (0, x5), (0, x6), (0, x7), (0, m 403 (w32 (x4 + (w32 (2 * x7))))), (0, m 403 (w32 ((w32 (x4 + (w32 (2 * x7)))) + 1)))], [(1, m 403 (w32 ((w32 (x4 + (w32 (2 * x7)))) + 1))), (0, x5), (2741, 408)], m)) 3 rfl ?_
        obtain ⟨hc, h⟩ := h
        refine Ev_last (n := 330) rfl (by decide) (by decide) hc ?_
        generalize e13 : up m 408 x5 (m 403 (w32 ((w32 (x4 + (w32 (2 * x7)))) + 1))) = m13
        replace h := h m13 e13.symm
        refine Ev_rn (q := (27, [(18, 400), (0, x1), (0, x2), (0, x3), (0, x4), (0, w32 (x5 + 1)), (0, x6), (0, w32 (x7 + 1)), (0, m 403 (w32 (x4 + (w32 (2 * x7))))), (0, m 403 (w32 ((w32 (x4 + (w32 (2 * x7)))) + 1)))], [], m13)) 4 rfl ?_
        exact h
theorem b_Mo_summedUp_101 {d : Nat} {r : Option Vv × Mm} {m : Mm} {x1 x2 x3 x4 x5 x6 x7 x8 x9 : Int} (h : (¬ x8 = 5 → (0 ≤ w32 (x5 - 1) ∧ w32 (x5 - 1) < 330) ∧ (∃ (v1 : Int) (m1 : Mm), Cl d k_Mo_hedgeThere [(18, 400), (1, m 408 (w32 (x5 - 1)))] m (some (1, v1), m1) ∧ ((0 ≤ w32 (x5 - 1) ∧ w32 (x5 - 1) < 330) ∧ (∀ m2 : Mm, m2 = up m1 408 (w32 (x5 - 1)) v1 → (Ev (d + 1) K_Mo_summedUp 1 27 [(18, 400), (0, x1), (0, x2), (0, x3), (0, x4), (0, x5), (0, x6), (0, w32 (x7 + 1)), (0, x8), (0, x9)] [] m2 r))))) ∧ (¬ (¬ x8 = 5) → (0 ≤ w32 (x5 - 1) ∧ w32 (x5 - 1) < 330) ∧ ((0 ≤ w32 (x5 - 1) ∧ w32 (x5 - 1) < 330) ∧ (∀ m3 : Mm, m3 = up m 408 (w32 (x5 - 1)) (w64 (-(m 408 (w32 (x5 - 1))))) → (Ev (d + 1) K_Mo_summedUp 1 27 [(18, 400), (0, x1), (0, x2), (0, x3), (0, x4), (0, x5), (0, x6), (0, w32 (x7 + 1)), (0, x8), (0, x9)] [] m3 r))))) : Ev (d + 1) K_Mo_summedUp 1 101 [(18, 400), (0, x1), (0, x2), (0, x3), (0, x4), (0, x5), (0, x6), (0, x7), (0, x8), (0, x9)] [] m r := by
  refine Ev_rn (q := (108, [(18, 400), (0, x1), (0, x2), (0, x3), (0, x4), (0, x5), (0, x6), (0, x7), (0, x8), (0, x9)], [(0, 5), (0, x8), (0, w32 (x5 - 1)), (2741, 408)], m)) 7 rfl ?_
  refine Ev_icmp rfl (fun hc => ?_) (fun hc => ?_)
  · replace h := h.1 hc
    refine Ev_rn (q := (123, [(18, 400), (0, x1), (0, x2), (0, x3), (0, x4), (0, x5), (0, x6), (0, x7), (0, x8), (0, x9)], [(0, w32 (x5 - 1)), (2741, 408), (18, 400), (0, w32 (x5 - 1)), (2741, 408)], m)) 6 rfl ?_
    obtain ⟨hc, h⟩ := h
    refine Ev_lald (n := 330) rfl (by decide) (by decide) hc ?_
    obtain ⟨v1, m1, hc, h⟩ := h
    refine Ev_call (rest := [(0, w32 (x5 - 1)), (2741, 408)]) rfl rfl (Nat.le_of_ble_eq_true rfl) hc ?_
    obtain ⟨hc, h⟩ := h
    refine Ev_last (n := 330) rfl (by decide) (by decide) hc ?_
    generalize e2 : up m1 408 (w32 (x5 - 1)) v1 = m2
    replace h := h m2 e2.symm
    refine Ev_rn (q := (27, [(18, 400), (0, x1), (0, x2), (0, x3), (0, x4), (0, x5), (0, x6), (0, w32 (x7 + 1)), (0, x8), (0, x9)], [], m2)) 3 rfl ?_
    exact h
  · replace h := h.2 hc
    refine Ev_rn (q := (114, [(18, 400), (0, x1), (0, x2), (0, x3), (0, x4), (0, x5), (0, x6), (0, x7), (0, x8), (0, x9)], [(0, w32 (x5 - 1)), (2741, 408), (0, w32 (x5 - 1)), (2741, 408)], m)) 5 rfl ?_
    obtain ⟨hc, h⟩ := h
    refine Ev_lald (n := 330) rfl (by decide) (by decide) hc ?_
    refine Ev_rn (q := (125, [(18, 400), (0, x1), (0, x2), (0, x3), (0, x4), (0, x5), (0, x6), (0, x7), (0, x8), (0, x9)], [(1, w64 (-(m 408 (w32 (x5 - 1))))), (0, w32 (x5 - 1)), (2741, 408)], m)) 2 rfl ?_
    obtain ⟨hc, h⟩ := h
    refine Ev_last (n := 330) rfl (by decide) (by decide) hc ?_
    generalize e3 : up m 408 (w32 (x5 - 1)) (w64 (-(m 408 (w32 (x5 - 1))))) = m3
    replace h := h m3 e3.symm
    refine Ev_rn (q := (27, [(18, 400), (0, x1), (0, x2), (0, x3), (0, x4), (0, x5), (0, x6), (0, w32 (x7 + 1)), (0, x8), (0, x9)], [], m3)) 3 rfl ?_
    exact h
theorem b_Mo_says {d : Nat} {r : Option Vv × Mm} {m : Mm} {x1 x2 x3 x4 x5 : Int} (h : Ev (d + 1) K_Mo_says 0 2 [(18, 400), (0, x1), (0, x2), (0, x3), (0, x4), (0, x5), (0, 0)] [] m r) : Ev (d + 1) K_Mo_says 0 0 [(18, 400), (0, x1), (0, x2), (0, x3), (0, x4), (0, x5), (9, 0)] [] m r := by
  refine Ev_rn (q := (2, [(18, 400), (0, x1), (0, x2), (0, x3), (0, x4), (0, x5), (0, 0)], [], m)) 2 rfl ?_
  exact h
theorem b_Mo_says_2 {d : Nat} {r : Option Vv × Mm} {m : Mm} {x1 x2 x3 x4 x5 x6 : Int} (h : (x1 < 0 → r = (some (0, x3), m)) ∧ (¬ (x1 < 0) → (0 ≤ w32 (681 * x1) ∧ w32 (681 * x1) < 2724) ∧ ((m 403 (w32 (681 * x1)) ≤ x6 → r = (some (0, x3), m)) ∧ (¬ (m 403 (w32 (681 * x1)) ≤ x6) → (0 ≤ w32 ((w32 ((w32 (681 * x1)) + 1)) + (w32 (3 * x6))) ∧ w32 ((w32 ((w32 (681 * x1)) + 1)) + (w32 (3 * x6))) < 2724) ∧ ((¬ m 403 (w32 ((w32 ((w32 (681 * x1)) + 1)) + (w32 (3 * x6)))) = x2 → Ev (d + 1) K_Mo_says 0 2 [(18, 400), (0, x1), (0, x2), (0, x3), (0, x4), (0, x5), (0, w32 (x6 + 1))] [] m r) ∧ (¬ (¬ m 403 (w32 ((w32 ((w32 (681 * x1)) + 1)) + (w32 (3 * x6)))) = x2) → ∃ (v1 : Int) (m1 : Mm), Cl d k_Mo_summedUp [(18, 400), (0, x1), (0, x6)] m (some (1, v1), m1) ∧ (∃ (v2 : Int) (m2 : Mm), Cl d k_Mo_held [(1, v1), (0, x4), (0, x5)] m1 (some (0, v2), m2) ∧ (r = (some (0, v2), m2))))))))) : Ev (d + 1) K_Mo_says 0 2 [(18, 400), (0, x1), (0, x2), (0, x3), (0, x4), (0, x5), (0, x6)] [] m r := by
  refine Ev_rn (q := (3, [(18, 400), (0, x1), (0, x2), (0, x3), (0, x4), (0, x5), (0, x6)], [(0, x1)], m)) 1 rfl ?_
  refine Ev_if rfl (fun hc => ?_) (fun hc => ?_)
  · replace h := h.1 hc
    refine Ev_rn (q := (37, [(18, 400), (0, x1), (0, x2), (0, x3), (0, x4), (0, x5), (0, x6)], [(0, x3)], m)) 1 rfl ?_
    exact Ev_ret rfl rfl h
  · replace h := h.2 hc
    refine Ev_rn (q := (10, [(18, 400), (0, x1), (0, x2), (0, x3), (0, x4), (0, x5), (0, x6)], [(0, w32 (681 * x1)), (21892, 403), (0, x6)], m)) 6 rfl ?_
    obtain ⟨hc, h⟩ := h
    refine Ev_iald (n := 2724) rfl (by decide) (by decide) hc ?_
    refine Ev_icmp rfl (fun hc => ?_) (fun hc => ?_)
    · replace h := h.1 hc
      refine Ev_rn (q := (37, [(18, 400), (0, x1), (0, x2), (0, x3), (0, x4), (0, x5), (0, x6)], [(0, x3)], m)) 1 rfl ?_
      exact Ev_ret rfl rfl h
    · replace h := h.2 hc
      refine Ev_rn (q := (23, [(18, 400), (0, x1), (0, x2), (0, x3), (0, x4), (0, x5), (0, x6)], [(0, w32 ((w32 ((w32 (681 * x1)) + 1)) + (w32 (3 * x6)))), (21892, 403)], m)) 11 rfl ?_
      obtain ⟨hc, h⟩ := h
      refine Ev_iald (n := 2724) rfl (by decide) (by decide) hc ?_
      refine Ev_rn (q := (25, [(18, 400), (0, x1), (0, x2), (0, x3), (0, x4), (0, x5), (0, x6)], [(0, x2), (0, m 403 (w32 ((w32 ((w32 (681 * x1)) + 1)) + (w32 (3 * x6)))))], m)) 1 rfl ?_
      refine Ev_icmp rfl (fun hc => ?_) (fun hc => ?_)
      · replace h := h.1 hc
        refine Ev_rn (q := (2, [(18, 400), (0, x1), (0, x2), (0, x3), (0, x4), (0, x5), (0, w32 (x6 + 1))], [], m)) 2 rfl ?_
        exact h
      · replace h := h.2 hc
        refine Ev_rn (q := (29, [(18, 400), (0, x1), (0, x2), (0, x3), (0, x4), (0, x5), (0, x6)], [(0, x6), (0, x1), (18, 400)], m)) 3 rfl ?_
        obtain ⟨v1, m1, hc, h⟩ := h
        refine Ev_call (rest := []) rfl rfl (Nat.le_of_ble_eq_true rfl) hc ?_
        refine Ev_rn (q := (32, [(18, 400), (0, x1), (0, x2), (0, x3), (0, x4), (0, x5), (0, x6)], [(0, x5), (0, x4), (1, v1)], m1)) 2 rfl ?_
        obtain ⟨v2, m2, hc, h⟩ := h
        refine Ev_call (rest := []) rfl rfl (Nat.le_of_ble_eq_true rfl) hc ?_
        exact Ev_ret rfl rfl h
theorem b_Mo_name {d : Nat} {r : Option Vv × Mm} {m : Mm} {x1 : Int} (h : ∀ m1 : Mm, m1 = up m 407 0 (m 401 6) → (∀ m2 : Mm, m2 = up m1 407 1 x1 → (∃ (v3 : Int) (m3 : Mm), Cl d k_Mo_aroundOf [(18, 400), (0, x1)] m2 (some (0, v3), m3) ∧ (∀ m4 : Mm, m4 = up m3 407 2 v3 → (∃ (v5 : Int) (m5 : Mm), Cl d k_Mo_allNow [(18, 400)] m4 (some (0, v5), m5) ∧ (∀ m6 : Mm, m6 = up m5 407 3 v5 → (r = (none, m6)))))))) : Ev (d + 1) K_Mo_name 3 0 [(18, 400), (0, x1)] [] m r := by
  refine Ev_rn (q := (6, [(18, 400), (0, x1)], [(0, 6), (11828, 401), (0, 0), (156, 407)], m)) 6 rfl ?_
  refine Ev_iald (n := 1466) rfl (by decide) (by decide) ⟨by decide, by decide⟩ ?_
  refine Ev_iast (n := 7) rfl (by decide) (by decide) ⟨by decide, by decide⟩ ?_
  generalize e1 : up m 407 0 (m 401 6) = m1
  replace h := h m1 e1.symm
  refine Ev_rn (q := (12, [(18, 400), (0, x1)], [(0, x1), (0, 1), (156, 407)], m1)) 4 rfl ?_
  refine Ev_iast (n := 7) rfl (by decide) (by decide) ⟨by decide, by decide⟩ ?_
  generalize e2 : up m1 407 1 x1 = m2
  replace h := h m2 e2.symm
  refine Ev_rn (q := (18, [(18, 400), (0, x1)], [(0, x1), (18, 400), (0, 2), (156, 407)], m2)) 5 rfl ?_
  obtain ⟨v3, m3, hc, h⟩ := h
  refine Ev_call (rest := [(0, 2), (156, 407)]) rfl rfl (Nat.le_of_ble_eq_true rfl) hc ?_
  refine Ev_iast (n := 7) rfl (by decide) (by decide) ⟨by decide, by decide⟩ ?_
  generalize e4 : up m3 407 2 v3 = m4
  replace h := h m4 e4.symm
  refine Ev_rn (q := (24, [(18, 400), (0, x1)], [(18, 400), (0, 3), (156, 407)], m4)) 4 rfl ?_
  obtain ⟨v5, m5, hc, h⟩ := h
  refine Ev_call (rest := [(0, 3), (156, 407)]) rfl rfl (Nat.le_of_ble_eq_true rfl) hc ?_
  refine Ev_iast (n := 7) rfl (by decide) (by decide) ⟨by decide, by decide⟩ ?_
  generalize e6 : up m5 407 3 v5 = m6
  replace h := h m6 e6.symm
  exact Ev_ret rfl rfl h
theorem b_Mo_frostsOf {d : Nat} {r : Option Vv × Mm} {m : Mm} {x1 x2 : Int} (h : ∃ (v1 : Int) (m1 : Mm), Cl d k_Mo_westOf [(0, x2)] m (some (0, v1), m1) ∧ (∃ (m2 : Mm), Cl d k_Mo_name [(18, 400), (0, v1)] m1 (none, m2) ∧ (∀ m3 : Mm, m3 = up m2 407 4 x2 → (∃ (v4 : Int) (m4 : Mm), Cl d k_Mo_says [(18, 400), (0, x1), (0, 0), (0, 3), (0, 0), (0, 10)] m3 (some (0, v4), m4) ∧ (r = (some (0, v4), m4)))))) : Ev (d + 1) K_Mo_frostsOf 0 0 [(18, 400), (0, x1), (0, x2)] [] m r := by
  refine Ev_rn (q := (2, [(18, 400), (0, x1), (0, x2)], [(0, x2), (18, 400)], m)) 2 rfl ?_
  obtain ⟨v1, m1, hc, h⟩ := h
  refine Ev_call (rest := [(18, 400)]) rfl rfl (Nat.le_of_ble_eq_true rfl) hc ?_
  obtain ⟨m2, hc, h⟩ := h
  refine Ev_call (rest := []) rfl rfl (Nat.le_of_ble_eq_true rfl) hc ?_
  refine Ev_rn (q := (8, [(18, 400), (0, x1), (0, x2)], [(0, x2), (0, 4), (156, 407)], m2)) 4 rfl ?_
  refine Ev_iast (n := 7) rfl (by decide) (by decide) ⟨by decide, by decide⟩ ?_
  generalize e3 : up m2 407 4 x2 = m3
  replace h := h m3 e3.symm
  refine Ev_rn (q := (15, [(18, 400), (0, x1), (0, x2)], [(0, 10), (0, 0), (0, 3), (0, 0), (0, x1), (18, 400)], m3)) 6 rfl ?_
  obtain ⟨v4, m4, hc, h⟩ := h
  refine Ev_call (rest := []) rfl rfl (Nat.le_of_ble_eq_true rfl) hc ?_
  exact Ev_ret rfl rfl h
theorem b_Mo_goesOf {d : Nat} {r : Option Vv × Mm} {m : Mm} {x1 : Int} (h : ∃ (v1 : Int) (m1 : Mm), Cl d k_Mo_cellOf [(18, 400), (0, x1)] m (some (0, v1), m1) ∧ (∃ (m2 : Mm), Cl d k_Mo_name [(18, 400), (0, v1)] m1 (none, m2) ∧ (∀ m3 : Mm, m3 = up m2 407 5 x1 → (∃ (v4 : Int) (m4 : Mm), Cl d k_Mo_wayOf [(18, 400), (0, x1)] m3 (some (0, v4), m4) ∧ (∀ m5 : Mm, m5 = up m4 407 6 v4 → (∃ (v6 : Int) (m6 : Mm), Cl d k_Mo_says [(18, 400), (0, m5 401 3), (0, 1), (0, 1), (0, (-99)), (0, 99)] m5 (some (0, v6), m6) ∧ (r = (some (0, v6), m6)))))))) : Ev (d + 1) K_Mo_goesOf 0 0 [(18, 400), (0, x1)] [] m r := by
  refine Ev_rn (q := (3, [(18, 400), (0, x1)], [(0, x1), (18, 400), (18, 400)], m)) 3 rfl ?_
  obtain ⟨v1, m1, hc, h⟩ := h
  refine Ev_call (rest := [(18, 400)]) rfl rfl (Nat.le_of_ble_eq_true rfl) hc ?_
  obtain ⟨m2, hc, h⟩ := h
  refine Ev_call (rest := []) rfl rfl (Nat.le_of_ble_eq_true rfl) hc ?_
  refine Ev_rn (q := (9, [(18, 400), (0, x1)], [(0, x1), (0, 5), (156, 407)], m2)) 4 rfl ?_
  refine Ev_iast (n := 7) rfl (by decide) (by decide) ⟨by decide, by decide⟩ ?_
  generalize e3 : up m2 407 5 x1 = m3
  replace h := h m3 e3.symm
  refine Ev_rn (q := (15, [(18, 400), (0, x1)], [(0, x1), (18, 400), (0, 6), (156, 407)], m3)) 5 rfl ?_
  obtain ⟨v4, m4, hc, h⟩ := h
  refine Ev_call (rest := [(0, 6), (156, 407)]) rfl rfl (Nat.le_of_ble_eq_true rfl) hc ?_
  refine Ev_iast (n := 7) rfl (by decide) (by decide) ⟨by decide, by decide⟩ ?_
  generalize e5 : up m4 407 6 v4 = m5
  replace h := h m5 e5.symm
  refine Ev_rn (q := (21, [(18, 400), (0, x1)], [(0, 3), (11828, 401), (18, 400)], m5)) 4 rfl ?_
  refine Ev_iald (n := 1466) rfl (by decide) (by decide) ⟨by decide, by decide⟩ ?_
  refine Ev_rn (q := (26, [(18, 400), (0, x1)], [(0, 99), (0, (-99)), (0, 1), (0, 1), (0, m5 401 3), (18, 400)], m5)) 4 rfl ?_
  obtain ⟨v6, m6, hc, h⟩ := h
  refine Ev_call (rest := []) rfl rfl (Nat.le_of_ble_eq_true rfl) hc ?_
  exact Ev_ret rfl rfl h
theorem b_Mo_write {d : Nat} {r : Option Vv × Mm} {m : Mm} {x1 x2 : Int} (h : (¬ m 400 24 = 0 → (¬ m 401 10 = 30 → Ev d K_Mo_write 3 39 [(18, 400), (0, x1), (0, x2), (9, 0)] [] m r) ∧ (¬ (¬ m 401 10 = 30) → Ev d K_Mo_write 3 12 [(18, 400), (0, x1), (0, x2), (0, 1)] [] m r)) ∧ (¬ (¬ m 400 24 = 0) → r = (none, m))) : Ev d K_Mo_write 3 0 [(18, 400), (0, x1), (0, x2), (9, 0)] [] m r := by
  refine Ev_rn (q := (2, [(18, 400), (0, x1), (0, x2), (9, 0)], [(0, m 400 24)], m)) 2 rfl ?_
  refine Ev_if rfl (fun hc => ?_) (fun hc => ?_)
  · replace h := h.1 hc
    refine Ev_rn (q := (7, [(18, 400), (0, x1), (0, x2), (9, 0)], [(0, 10), (11828, 401)], m)) 3 rfl ?_
    refine Ev_iald (n := 1466) rfl (by decide) (by decide) ⟨by decide, by decide⟩ ?_
    refine Ev_rn (q := (9, [(18, 400), (0, x1), (0, x2), (9, 0)], [(0, 30), (0, m 401 10)], m)) 1 rfl ?_
    refine Ev_icmp rfl (fun hc => ?_) (fun hc => ?_)
    · replace h := h.1 hc
      exact h
    · replace h := h.2 hc
      refine Ev_rn (q := (12, [(18, 400), (0, x1), (0, x2), (0, 1)], [], m)) 2 rfl ?_
      exact h
  · replace h := h.2 hc
    exact Ev_ret rfl rfl h
theorem b_Mo_write_12 {d : Nat} {r : Option Vv × Mm} {m : Mm} {x1 x2 x3 : Int} (h : (30 ≤ x3 → ∀ m1 : Mm, m1 = up m 401 10 (w32 ((m 401 10) - 1)) → (Ev d K_Mo_write 3 39 [(18, 400), (0, x1), (0, x2), (0, x3)] [] m1 r)) ∧ (¬ (30 ≤ x3) → (0 ≤ w32 (1436 + x3) ∧ w32 (1436 + x3) < 1466) ∧ ((0 ≤ w32 ((w32 (1436 + x3)) - 1) ∧ w32 ((w32 (1436 + x3)) - 1) < 1466) ∧ (∀ m2 : Mm, m2 = up m 401 (w32 ((w32 (1436 + x3)) - 1)) (m 401 (w32 (1436 + x3))) → (Ev d K_Mo_write 3 12 [(18, 400), (0, x1), (0, x2), (0, w32 (x3 + 1))] [] m2 r))))) : Ev d K_Mo_write 3 12 [(18, 400), (0, x1), (0, x2), (0, x3)] [] m r := by
  refine Ev_rn (q := (14, [(18, 400), (0, x1), (0, x2), (0, x3)], [(0, 30), (0, x3)], m)) 2 rfl ?_
  refine Ev_icmp rfl (fun hc => ?_) (fun hc => ?_)
  · replace h := h.1 hc
    refine Ev_rn (q := (35, [(18, 400), (0, x1), (0, x2), (0, x3)], [(0, 10), (11828, 401), (0, 10), (11828, 401)], m)) 4 rfl ?_
    refine Ev_iald (n := 1466) rfl (by decide) (by decide) ⟨by decide, by decide⟩ ?_
    refine Ev_rn (q := (38, [(18, 400), (0, x1), (0, x2), (0, x3)], [(0, w32 ((m 401 10) - 1)), (0, 10), (11828, 401)], m)) 2 rfl ?_
    refine Ev_iast (n := 1466) rfl (by decide) (by decide) ⟨by decide, by decide⟩ ?_
    generalize e1 : up m 401 10 (w32 ((m 401 10) - 1)) = m1
    replace h := h m1 e1.symm
    exact h
  · replace h := h.2 hc
    refine Ev_rn (q := (27, [(18, 400), (0, x1), (0, x2), (0, x3)], [(0, w32 (1436 + x3)), (11828, 401), (0, w32 ((w32 (1436 + x3)) - 1)), (11828, 401)], m)) 12 rfl ?_
    obtain ⟨hc, h⟩ := h
    refine Ev_iald (n := 1466) rfl (by decide) (by decide) hc ?_
    obtain ⟨hc, h⟩ := h
    refine Ev_iast (n := 1466) rfl (by decide) (by decide) hc ?_
    generalize e2 : up m 401 (w32 ((w32 (1436 + x3)) - 1)) (m 401 (w32 (1436 + x3))) = m2
    replace h := h m2 e2.symm
    refine Ev_rn (q := (12, [(18, 400), (0, x1), (0, x2), (0, w32 (x3 + 1))], [], m2)) 2 rfl ?_
    exact h
theorem b_Mo_write_39 {d : Nat} {r : Option Vv × Mm} {m : Mm} {x1 x2 : Int} {u3 : Vv} (h : (0 ≤ w32 (1436 + (m 401 10)) ∧ w32 (1436 + (m 401 10)) < 1466) ∧ (∀ m1 : Mm, m1 = up m 401 (w32 (1436 + (m 401 10))) (w32 ((w32 ((w32 ((w32 ((m 401 6) * 2)) + x1)) * 40)) + x2)) → (∀ m2 : Mm, m2 = up m1 401 10 (w32 ((m1 401 10) + 1)) → (r = (none, m2))))) : Ev d K_Mo_write 3 39 [(18, 400), (0, x1), (0, x2), u3] [] m r := by
  refine Ev_rn (q := (45, [(18, 400), (0, x1), (0, x2), u3], [(0, 10), (11828, 401), (0, 1436), (11828, 401)], m)) 6 rfl ?_
  refine Ev_iald (n := 1466) rfl (by decide) (by decide) ⟨by decide, by decide⟩ ?_
  refine Ev_rn (q := (50, [(18, 400), (0, x1), (0, x2), u3], [(0, 6), (11828, 401), (0, w32 (1436 + (m 401 10))), (11828, 401)], m)) 4 rfl ?_
  refine Ev_iald (n := 1466) rfl (by decide) (by decide) ⟨by decide, by decide⟩ ?_
  refine Ev_rn (q := (59, [(18, 400), (0, x1), (0, x2), u3], [(0, w32 ((w32 ((w32 ((w32 ((m 401 6) * 2)) + x1)) * 40)) + x2)), (0, w32 (1436 + (m 401 10))), (11828, 401)], m)) 8 rfl ?_
  obtain ⟨hc, h⟩ := h
  refine Ev_iast (n := 1466) rfl (by decide) (by decide) hc ?_
  generalize e1 : up m 401 (w32 (1436 + (m 401 10))) (w32 ((w32 ((w32 ((w32 ((m 401 6) * 2)) + x1)) * 40)) + x2)) = m1
  replace h := h m1 e1.symm
  refine Ev_rn (q := (64, [(18, 400), (0, x1), (0, x2), u3], [(0, 10), (11828, 401), (0, 10), (11828, 401)], m1)) 4 rfl ?_
  refine Ev_iald (n := 1466) rfl (by decide) (by decide) ⟨by decide, by decide⟩ ?_
  refine Ev_rn (q := (67, [(18, 400), (0, x1), (0, x2), u3], [(0, w32 ((m1 401 10) + 1)), (0, 10), (11828, 401)], m1)) 2 rfl ?_
  refine Ev_iast (n := 1466) rfl (by decide) (by decide) ⟨by decide, by decide⟩ ?_
  generalize e2 : up m1 401 10 (w32 ((m1 401 10) + 1)) = m2
  replace h := h m2 e2.symm
  exact Ev_ret rfl rfl h
theorem b_Mo_drawnBy {d : Nat} {r : Option Vv × Mm} {m : Mm} {x1 : Int} (h : (x1 ≠ 0) ∧ (∃ (m1 : Mm), Cl d k_Mo_anew [(18, 400)] m (none, m1) ∧ (r = (some (0, irm (m 401 7) x1), m1)))) : Ev (d + 1) K_Mo_drawnBy 0 0 [(18, 400), (0, x1), (9, 0)] [] m r := by
  refine Ev_rn (q := (3, [(18, 400), (0, x1), (9, 0)], [(0, 7), (11828, 401)], m)) 3 rfl ?_
  refine Ev_iald (n := 1466) rfl (by decide) (by decide) ⟨by decide, by decide⟩ ?_
  refine Ev_rn (q := (5, [(18, 400), (0, x1), (9, 0)], [(0, x1), (0, m 401 7)], m)) 1 rfl ?_
  obtain ⟨hc, h⟩ := h
  refine Ev_irem rfl hc ?_
  refine Ev_rn (q := (8, [(18, 400), (0, x1), (0, irm (m 401 7) x1)], [(18, 400)], m)) 2 rfl ?_
  obtain ⟨m1, hc, h⟩ := h
  refine Ev_call (rest := []) rfl rfl (Nat.le_of_ble_eq_true rfl) hc ?_
  refine Ev_rn (q := (10, [(18, 400), (0, x1), (0, irm (m 401 7) x1)], [(0, irm (m 401 7) x1)], m1)) 1 rfl ?_
  exact Ev_ret rfl rfl h
theorem b_Mo_anew {d : Nat} {r : Option Vv × Mm} {m : Mm} (h : ∀ m1 : Mm, m1 = up m 401 7 (w32 (lrm (w64 ((w64 ((m 401 7) * 587)) + 457)) 30817)) → (r = (none, m1))) : Ev d K_Mo_anew 3 0 [(18, 400)] [] m r := by
  refine Ev_rn (q := (6, [(18, 400)], [(0, 7), (11828, 401), (0, 7), (11828, 401)], m)) 6 rfl ?_
  refine Ev_iald (n := 1466) rfl (by decide) (by decide) ⟨by decide, by decide⟩ ?_
  refine Ev_rn (q := (13, [(18, 400)], [(1, 30817), (1, w64 ((w64 ((m 401 7) * 587)) + 457)), (0, 7), (11828, 401)], m)) 6 rfl ?_
  refine Ev_lrem rfl (by decide) ?_
  refine Ev_rn (q := (15, [(18, 400)], [(0, w32 (lrm (w64 ((w64 ((m 401 7) * 587)) + 457)) 30817)), (0, 7), (11828, 401)], m)) 1 rfl ?_
  refine Ev_iast (n := 1466) rfl (by decide) (by decide) ⟨by decide, by decide⟩ ?_
  generalize e1 : up m 401 7 (w32 (lrm (w64 ((w64 ((m 401 7) * 587)) + 457)) 30817)) = m1
  replace h := h m1 e1.symm
  exact Ev_ret rfl rfl h
theorem b_Mo_isHome {d : Nat} {r : Option Vv × Mm} {m : Mm} {x1 : Int} (h : ∃ (v1 : Int) (m1 : Mm), Cl d k_Mo_cellOf [(18, 400), (0, x1)] m (some (0, v1), m1) ∧ ((¬ v1 = (-1) → r = (some (0, 0), m1)) ∧ (¬ (¬ v1 = (-1)) → r = (some (0, 1), m1)))) : Ev (d + 1) K_Mo_isHome 2 0 [(18, 400), (0, x1)] [] m r := by
  refine Ev_rn (q := (2, [(18, 400), (0, x1)], [(0, x1), (18, 400)], m)) 2 rfl ?_
  obtain ⟨v1, m1, hc, h⟩ := h
  refine Ev_call (rest := []) rfl rfl (Nat.le_of_ble_eq_true rfl) hc ?_
  refine Ev_rn (q := (4, [(18, 400), (0, x1)], [(0, (-1)), (0, v1)], m1)) 1 rfl ?_
  refine Ev_icmp rfl (fun hc => ?_) (fun hc => ?_)
  · replace h := h.1 hc
    refine Ev_rn (q := (8, [(18, 400), (0, x1)], [(0, 0)], m1)) 1 rfl ?_
    exact Ev_zret rfl rfl (by decide) h
  · replace h := h.2 hc
    refine Ev_rn (q := (8, [(18, 400), (0, x1)], [(0, 1)], m1)) 2 rfl ?_
    exact Ev_zret rfl rfl (by decide) h
theorem b_Mo_goNow {d : Nat} {r : Option Vv × Mm} {m : Mm} {x1 x2 : Int} (h : ∃ (v1 : Int) (m1 : Mm), Cl d k_Mo_cellOf [(18, 400), (0, x1)] m (some (0, v1), m1) ∧ (∃ (v2 : Int) (m2 : Mm), Cl d k_Mo_beside [(0, v1), (0, x2)] m1 (some (0, v2), m2) ∧ (∃ (v3 : Int) (m3 : Mm), Cl d k_Mo_has [(0, m2 401 31), (0, v2)] m2 (some (0, v3), m3) ∧ ((v3 = 0 → ∃ (m4 : Mm), Cl d k_Mo_put [(18, 400), (0, x1), (0, v2), (0, x2)] m3 (none, m4) ∧ (r = (some (0, v2), m4))) ∧ (¬ (v3 = 0) → ∃ (m5 : Mm), Cl d k_Mo_put [(18, 400), (0, x1), (0, (-1)), (0, x2)] m3 (none, m5) ∧ (r = (some (0, v2), m5))))))) : Ev (d + 1) K_Mo_goNow 0 0 [(18, 400), (0, x1), (0, x2), (9, 0)] [] m r := by
  refine Ev_rn (q := (2, [(18, 400), (0, x1), (0, x2), (9, 0)], [(0, x1), (18, 400)], m)) 2 rfl ?_
  obtain ⟨v1, m1, hc, h⟩ := h
  refine Ev_call (rest := []) rfl rfl (Nat.le_of_ble_eq_true rfl) hc ?_
  refine Ev_rn (q := (4, [(18, 400), (0, x1), (0, x2), (9, 0)], [(0, x2), (0, v1)], m1)) 1 rfl ?_
  obtain ⟨v2, m2, hc, h⟩ := h
  refine Ev_call (rest := []) rfl rfl (Nat.le_of_ble_eq_true rfl) hc ?_
  refine Ev_rn (q := (11, [(18, 400), (0, x1), (0, x2), (0, v2)], [(0, 31), (11828, 401), (0, x1), (18, 400)], m2)) 6 rfl ?_
  refine Ev_iald (n := 1466) rfl (by decide) (by decide) ⟨by decide, by decide⟩ ?_
  refine Ev_rn (q := (13, [(18, 400), (0, x1), (0, x2), (0, v2)], [(0, v2), (0, m2 401 31), (0, x1), (18, 400)], m2)) 1 rfl ?_
  obtain ⟨v3, m3, hc, h⟩ := h
  refine Ev_call (rest := [(0, x1), (18, 400)]) rfl rfl (Nat.le_of_ble_eq_true rfl) hc ?_
  refine Ev_if rfl (fun hc => ?_) (fun hc => ?_)
  · replace h := h.1 hc
    refine Ev_rn (q := (19, [(18, 400), (0, x1), (0, x2), (0, v2)], [(0, x2), (0, v2), (0, x1), (18, 400)], m3)) 2 rfl ?_
    obtain ⟨m4, hc, h⟩ := h
    refine Ev_call (rest := []) rfl rfl (Nat.le_of_ble_eq_true rfl) hc ?_
    refine Ev_rn (q := (21, [(18, 400), (0, x1), (0, x2), (0, v2)], [(0, v2)], m4)) 1 rfl ?_
    exact Ev_ret rfl rfl h
  · replace h := h.2 hc
    refine Ev_rn (q := (19, [(18, 400), (0, x1), (0, x2), (0, v2)], [(0, x2), (0, (-1)), (0, x1), (18, 400)], m3)) 3 rfl ?_
    obtain ⟨m5, hc, h⟩ := h
    refine Ev_call (rest := []) rfl rfl (Nat.le_of_ble_eq_true rfl) hc ?_
    refine Ev_rn (q := (21, [(18, 400), (0, x1), (0, x2), (0, v2)], [(0, v2)], m5)) 1 rfl ?_
    exact Ev_ret rfl rfl h
theorem b_Mo_onward {d : Nat} {r : Option Vv × Mm} {m : Mm} {x1 x2 : Int} (h : ∃ (v1 : Int) (m1 : Mm), Cl d k_Mo_isOpen [(18, 400), (0, x1), (0, irm (w32 (x2 + 1)) 4)] m (some (0, v1), m1) ∧ ((v1 = 0 → ∃ (v2 : Int) (m2 : Mm), Cl d k_Mo_isOpen [(18, 400), (0, x1), (0, x2)] m1 (some (0, v2), m2) ∧ ((v2 = 0 → ∃ (v3 : Int) (m3 : Mm), Cl d k_Mo_isOpen [(18, 400), (0, x1), (0, irm (w32 (x2 + 3)) 4)] m2 (some (0, v3), m3) ∧ ((v3 = 0 → ∃ (v4 : Int) (m4 : Mm), Cl d k_Mo_isOpen [(18, 400), (0, x1), (0, irm (w32 (x2 + 2)) 4)] m3 (some (0, v4), m4) ∧ ((v4 = 0 → r = (some (0, (-1)), m4)) ∧ (¬ (v4 = 0) → r = (some (0, irm (w32 (x2 + 2)) 4), m4)))) ∧ (¬ (v3 = 0) → r = (some (0, irm (w32 (x2 + 3)) 4), m3)))) ∧ (¬ (v2 = 0) → r = (some (0, x2), m2)))) ∧ (¬ (v1 = 0) → r = (some (0, irm (w32 (x2 + 1)) 4), m1)))) : Ev (d + 1) K_Mo_onward 0 0 [(18, 400), (0, x1), (0, x2)] [] m r := by
  refine Ev_rn (q := (6, [(18, 400), (0, x1), (0, x2)], [(0, 4), (0, w32 (x2 + 1)), (0, x1), (18, 400)], m)) 6 rfl ?_
  refine Ev_irem rfl (by decide) ?_
  obtain ⟨v1, m1, hc, h⟩ := h
  refine Ev_call (rest := []) rfl rfl (Nat.le_of_ble_eq_true rfl) hc ?_
  refine Ev_if rfl (fun hc => ?_) (fun hc => ?_)
  · replace h := h.1 hc
    refine Ev_rn (q := (18, [(18, 400), (0, x1), (0, x2)], [(0, x2), (0, x1), (18, 400)], m1)) 3 rfl ?_
    obtain ⟨v2, m2, hc, h⟩ := h
    refine Ev_call (rest := []) rfl rfl (Nat.le_of_ble_eq_true rfl) hc ?_
    refine Ev_if rfl (fun hc => ?_) (fun hc => ?_)
    · replace h := h.1 hc
      refine Ev_rn (q := (28, [(18, 400), (0, x1), (0, x2)], [(0, 4), (0, w32 (x2 + 3)), (0, x1), (18, 400)], m2)) 6 rfl ?_
      refine Ev_irem rfl (by decide) ?_
      obtain ⟨v3, m3, hc, h⟩ := h
      refine Ev_call (rest := []) rfl rfl (Nat.le_of_ble_eq_true rfl) hc ?_
      refine Ev_if rfl (fun hc => ?_) (fun hc => ?_)
      · replace h := h.1 hc
        refine Ev_rn (q := (43, [(18, 400), (0, x1), (0, x2)], [(0, 4), (0, w32 (x2 + 2)), (0, x1), (18, 400)], m3)) 6 rfl ?_
        refine Ev_irem rfl (by decide) ?_
        obtain ⟨v4, m4, hc, h⟩ := h
        refine Ev_call (rest := []) rfl rfl (Nat.le_of_ble_eq_true rfl) hc ?_
        refine Ev_if rfl (fun hc => ?_) (fun hc => ?_)
        · replace h := h.1 hc
          refine Ev_rn (q := (53, [(18, 400), (0, x1), (0, x2)], [(0, (-1))], m4)) 1 rfl ?_
          exact Ev_ret rfl rfl h
        · replace h := h.2 hc
          refine Ev_rn (q := (50, [(18, 400), (0, x1), (0, x2)], [(0, 4), (0, w32 (x2 + 2))], m4)) 4 rfl ?_
          refine Ev_irem rfl (by decide) ?_
          refine Ev_rn (q := (53, [(18, 400), (0, x1), (0, x2)], [(0, irm (w32 (x2 + 2)) 4)], m4)) 1 rfl ?_
          exact Ev_ret rfl rfl h
      · replace h := h.2 hc
        refine Ev_rn (q := (35, [(18, 400), (0, x1), (0, x2)], [(0, 4), (0, w32 (x2 + 3))], m3)) 4 rfl ?_
        refine Ev_irem rfl (by decide) ?_
        exact Ev_ret rfl rfl h
    · replace h := h.2 hc
      refine Ev_rn (q := (21, [(18, 400), (0, x1), (0, x2)], [(0, x2)], m2)) 1 rfl ?_
      exact Ev_ret rfl rfl h
  · replace h := h.2 hc
    refine Ev_rn (q := (13, [(18, 400), (0, x1), (0, x2)], [(0, 4), (0, w32 (x2 + 1))], m1)) 4 rfl ?_
    refine Ev_irem rfl (by decide) ?_
    exact Ev_ret rfl rfl h
theorem b_Mo_goOn {d : Nat} {r : Option Vv × Mm} {m : Mm} {x1 : Int} (h : ∃ (v1 : Int) (m1 : Mm), Cl d k_Mo_cellOf [(18, 400), (0, x1)] m (some (0, v1), m1) ∧ (∃ (v2 : Int) (m2 : Mm), Cl d k_Mo_wayOf [(18, 400), (0, x1)] m1 (some (0, v2), m2) ∧ (∃ (v3 : Int) (m3 : Mm), Cl d k_Mo_onward [(18, 400), (0, v1), (0, v2)] m2 (some (0, v3), m3) ∧ ((¬ v3 = (-1) → ∃ (v4 : Int) (m4 : Mm), Cl d k_Mo_goNow [(18, 400), (0, x1), (0, v3)] m3 (some (0, v4), m4) ∧ (∃ (v5 : Int) (m5 : Mm), Cl d k_Mo_isHome [(18, 400), (0, x1)] m4 (some (0, v5), m5) ∧ ((¬ v5 = 0 → ∀ m6 : Mm, m6 = up m5 400 25 (w32 ((m5 400 25) + 1)) → (∃ (m7 : Mm), Cl d k_Mo_write [(18, 400), (0, 1), (0, x1)] m6 (none, m7) ∧ (r = (none, m7)))) ∧ (¬ (¬ v5 = 0) → r = (none, m5))))) ∧ (¬ (¬ v3 = (-1)) → r = (none, m3)))))) : Ev (d + 1) K_Mo_goOn 3 0 [(18, 400), (0, x1), (9, 0)] [] m r := by
  refine Ev_rn (q := (3, [(18, 400), (0, x1), (9, 0)], [(0, x1), (18, 400), (18, 400)], m)) 3 rfl ?_
  obtain ⟨v1, m1, hc, h⟩ := h
  refine Ev_call (rest := [(18, 400)]) rfl rfl (Nat.le_of_ble_eq_true rfl) hc ?_
  refine Ev_rn (q := (6, [(18, 400), (0, x1), (9, 0)], [(0, x1), (18, 400), (0, v1), (18, 400)], m1)) 2 rfl ?_
  obtain ⟨v2, m2, hc, h⟩ := h
  refine Ev_call (rest := [(0, v1), (18, 400)]) rfl rfl (Nat.le_of_ble_eq_true rfl) hc ?_
  obtain ⟨v3, m3, hc, h⟩ := h
  refine Ev_call (rest := []) rfl rfl (Nat.le_of_ble_eq_true rfl) hc ?_
  refine Ev_rn (q := (11, [(18, 400), (0, x1), (0, v3)], [(0, (-1)), (0, v3)], m3)) 3 rfl ?_
  refine Ev_icmp rfl (fun hc => ?_) (fun hc => ?_)
  · replace h := h.1 hc
    refine Ev_rn (q := (16, [(18, 400), (0, x1), (0, v3)], [(0, v3), (0, x1), (18, 400)], m3)) 3 rfl ?_
    obtain ⟨v4, m4, hc, h⟩ := h
    refine Ev_call (rest := []) rfl rfl (Nat.le_of_ble_eq_true rfl) hc ?_
    refine Ev_rn (q := (20, [(18, 400), (0, x1), (0, v3)], [(0, x1), (18, 400)], m4)) 3 rfl ?_
    obtain ⟨v5, m5, hc, h⟩ := h
    refine Ev_call (rest := []) rfl rfl (Nat.le_of_ble_eq_true rfl) hc ?_
    refine Ev_if rfl (fun hc => ?_) (fun hc => ?_)
    · replace h := h.1 hc
      refine Ev_rn (q := (29, [(18, 400), (0, x1), (0, v3)], [], up m5 400 25 (w32 ((m5 400 25) + 1)))) 6 rfl ?_
      generalize e6 : up m5 400 25 (w32 ((m5 400 25) + 1)) = m6
      replace h := h m6 e6.symm
      refine Ev_rn (q := (32, [(18, 400), (0, x1), (0, v3)], [(0, x1), (0, 1), (18, 400)], m6)) 3 rfl ?_
      obtain ⟨m7, hc, h⟩ := h
      refine Ev_call (rest := []) rfl rfl (Nat.le_of_ble_eq_true rfl) hc ?_
      exact Ev_ret rfl rfl h
    · replace h := h.2 hc
      exact Ev_ret rfl rfl h
  · replace h := h.2 hc
    exact Ev_ret rfl rfl h
theorem b_Mo_pass {d : Nat} {r : Option Vv × Mm} {m : Mm} (h : Ev (d + 1) K_Mo_pass 3 2 [(18, 400), (0, 0)] [] m r) : Ev (d + 1) K_Mo_pass 3 0 [(18, 400), (9, 0)] [] m r := by
  refine Ev_rn (q := (2, [(18, 400), (0, 0)], [], m)) 2 rfl ?_
  exact h
theorem b_Mo_pass_2 {d : Nat} {r : Option Vv × Mm} {m : Mm} {x1 : Int} (h : (m 401 1 ≤ x1 → ∃ (v1 : Int) (m1 : Mm), Cl d k_Mo_drawnBy [(18, 400), (0, 40)] m (some (0, v1), m1) ∧ (∃ (v2 : Int) (m2 : Mm), Cl d k_Mo_isThere [(18, 400), (0, v1)] m1 (some (0, v2), m2) ∧ ((v2 = 0 → ∀ m3 : Mm, m3 = up m2 401 6 (w32 ((m2 401 6) + 1)) → (r = (none, m3))) ∧ (¬ (v2 = 0) → ∃ (v4 : Int) (m4 : Mm), Cl d k_Mo_drawnBy [(18, 400), (0, 10)] m2 (some (0, v4), m4) ∧ (∃ (v5 : Int) (m5 : Mm), Cl d k_Mo_frostsOf [(18, 400), (0, m4 401 3), (0, v1)] m4 (some (0, v5), m5) ∧ ((v5 ≤ v4 → ∀ m6 : Mm, m6 = up m5 401 6 (w32 ((m5 401 6) + 1)) → (r = (none, m6))) ∧ (¬ (v5 ≤ v4) → ∃ (m7 : Mm), Cl d k_Mo_change [(18, 400), (0, v1)] m5 (none, m7) ∧ (∃ (m8 : Mm), Cl d k_Mo_write [(18, 400), (0, 0), (0, v1)] m7 (none, m8) ∧ (∀ m9 : Mm, m9 = up m8 401 6 (w32 ((m8 401 6) + 1)) → (r = (none, m9))))))))))) ∧ (¬ (m 401 1 ≤ x1) → ∃ (v10 : Int) (m10 : Mm), Cl d k_Mo_isHome [(18, 400), (0, x1)] m (some (0, v10), m10) ∧ ((¬ v10 = 0 → Ev (d + 1) K_Mo_pass 3 2 [(18, 400), (0, w32 (x1 + 1))] [] m10 r) ∧ (¬ (¬ v10 = 0) → ∃ (v11 : Int) (m11 : Mm), Cl d k_Mo_goesOf [(18, 400), (0, x1)] m10 (some (0, v11), m11) ∧ ((v11 ≤ 0 → Ev (d + 1) K_Mo_pass 3 2 [(18, 400), (0, w32 (x1 + 1))] [] m11 r) ∧ (¬ (v11 ≤ 0) → ∃ (m12 : Mm), Cl d k_Mo_goOn [(18, 400), (0, x1)] m11 (none, m12) ∧ (Ev (d + 1) K_Mo_pass 3 2 [(18, 400), (0, w32 (x1 + 1))] [] m12 r))))))) : Ev (d + 1) K_Mo_pass 3 2 [(18, 400), (0, x1)] [] m r := by
  refine Ev_rn (q := (6, [(18, 400), (0, x1)], [(0, 1), (11828, 401), (0, x1)], m)) 4 rfl ?_
  refine Ev_iald (n := 1466) rfl (by decide) (by decide) ⟨by decide, by decide⟩ ?_
  refine Ev_icmp rfl (fun hc => ?_) (fun hc => ?_)
  · replace h := h.1 hc
    refine Ev_rn (q := (23, [(18, 400), (0, x1)], [(0, 40), (18, 400)], m)) 2 rfl ?_
    obtain ⟨v1, m1, hc, h⟩ := h
    refine Ev_call (rest := []) rfl rfl (Nat.le_of_ble_eq_true rfl) hc ?_
    refine Ev_rn (q := (27, [(18, 400), (0, v1)], [(0, v1), (18, 400)], m1)) 3 rfl ?_
    obtain ⟨v2, m2, hc, h⟩ := h
    refine Ev_call (rest := []) rfl rfl (Nat.le_of_ble_eq_true rfl) hc ?_
    refine Ev_if rfl (fun hc => ?_) (fun hc => ?_)
    · replace h := h.1 hc
      refine Ev_rn (q := (51, [(18, 400), (0, v1)], [(0, 6), (11828, 401), (0, 6), (11828, 401)], m2)) 4 rfl ?_
      refine Ev_iald (n := 1466) rfl (by decide) (by decide) ⟨by decide, by decide⟩ ?_
      refine Ev_rn (q := (54, [(18, 400), (0, v1)], [(0, w32 ((m2 401 6) + 1)), (0, 6), (11828, 401)], m2)) 2 rfl ?_
      refine Ev_iast (n := 1466) rfl (by decide) (by decide) ⟨by decide, by decide⟩ ?_
      generalize e3 : up m2 401 6 (w32 ((m2 401 6) + 1)) = m3
      replace h := h m3 e3.symm
      exact Ev_ret rfl rfl h
    · replace h := h.2 hc
      refine Ev_rn (q := (31, [(18, 400), (0, v1)], [(0, 10), (18, 400)], m2)) 2 rfl ?_
      obtain ⟨v4, m4, hc, h⟩ := h
      refine Ev_call (rest := []) rfl rfl (Nat.le_of_ble_eq_true rfl) hc ?_
      refine Ev_rn (q := (36, [(18, 400), (0, v1)], [(0, 3), (11828, 401), (18, 400), (0, v4)], m4)) 4 rfl ?_
      refine Ev_iald (n := 1466) rfl (by decide) (by decide) ⟨by decide, by decide⟩ ?_
      refine Ev_rn (q := (38, [(18, 400), (0, v1)], [(0, v1), (0, m4 401 3), (18, 400), (0, v4)], m4)) 1 rfl ?_
      obtain ⟨v5, m5, hc, h⟩ := h
      refine Ev_call (rest := [(0, v4)]) rfl rfl (Nat.le_of_ble_eq_true rfl) hc ?_
      refine Ev_icmp rfl (fun hc => ?_) (fun hc => ?_)
      · replace h := h.1 hc
        refine Ev_rn (q := (51, [(18, 400), (0, v1)], [(0, 6), (11828, 401), (0, 6), (11828, 401)], m5)) 4 rfl ?_
        refine Ev_iald (n := 1466) rfl (by decide) (by decide) ⟨by decide, by decide⟩ ?_
        refine Ev_rn (q := (54, [(18, 400), (0, v1)], [(0, w32 ((m5 401 6) + 1)), (0, 6), (11828, 401)], m5)) 2 rfl ?_
        refine Ev_iast (n := 1466) rfl (by decide) (by decide) ⟨by decide, by decide⟩ ?_
        generalize e6 : up m5 401 6 (w32 ((m5 401 6) + 1)) = m6
        replace h := h m6 e6.symm
        exact Ev_ret rfl rfl h
      · replace h := h.2 hc
        refine Ev_rn (q := (42, [(18, 400), (0, v1)], [(0, v1), (18, 400)], m5)) 2 rfl ?_
        obtain ⟨m7, hc, h⟩ := h
        refine Ev_call (rest := []) rfl rfl (Nat.le_of_ble_eq_true rfl) hc ?_
        refine Ev_rn (q := (46, [(18, 400), (0, v1)], [(0, v1), (0, 0), (18, 400)], m7)) 3 rfl ?_
        obtain ⟨m8, hc, h⟩ := h
        refine Ev_call (rest := []) rfl rfl (Nat.le_of_ble_eq_true rfl) hc ?_
        refine Ev_rn (q := (51, [(18, 400), (0, v1)], [(0, 6), (11828, 401), (0, 6), (11828, 401)], m8)) 4 rfl ?_
        refine Ev_iald (n := 1466) rfl (by decide) (by decide) ⟨by decide, by decide⟩ ?_
        refine Ev_rn (q := (54, [(18, 400), (0, v1)], [(0, w32 ((m8 401 6) + 1)), (0, 6), (11828, 401)], m8)) 2 rfl ?_
        refine Ev_iast (n := 1466) rfl (by decide) (by decide) ⟨by decide, by decide⟩ ?_
        generalize e9 : up m8 401 6 (w32 ((m8 401 6) + 1)) = m9
        replace h := h m9 e9.symm
        exact Ev_ret rfl rfl h
  · replace h := h.2 hc
    refine Ev_rn (q := (10, [(18, 400), (0, x1)], [(0, x1), (18, 400)], m)) 2 rfl ?_
    obtain ⟨v10, m10, hc, h⟩ := h
    refine Ev_call (rest := []) rfl rfl (Nat.le_of_ble_eq_true rfl) hc ?_
    refine Ev_if rfl (fun hc => ?_) (fun hc => ?_)
    · replace h := h.1 hc
      refine Ev_rn (q := (2, [(18, 400), (0, w32 (x1 + 1))], [], m10)) 2 rfl ?_
      exact h
    · replace h := h.2 hc
      refine Ev_rn (q := (14, [(18, 400), (0, x1)], [(0, x1), (18, 400)], m10)) 2 rfl ?_
      obtain ⟨v11, m11, hc, h⟩ := h
      refine Ev_call (rest := []) rfl rfl (Nat.le_of_ble_eq_true rfl) hc ?_
      refine Ev_if rfl (fun hc => ?_) (fun hc => ?_)
      · replace h := h.1 hc
        refine Ev_rn (q := (2, [(18, 400), (0, w32 (x1 + 1))], [], m11)) 2 rfl ?_
        exact h
      · replace h := h.2 hc
        refine Ev_rn (q := (18, [(18, 400), (0, x1)], [(0, x1), (18, 400)], m11)) 2 rfl ?_
        obtain ⟨m12, hc, h⟩ := h
        refine Ev_call (rest := []) rfl rfl (Nat.le_of_ble_eq_true rfl) hc ?_
        refine Ev_rn (q := (2, [(18, 400), (0, w32 (x1 + 1))], [], m12)) 2 rfl ?_
        exact h
theorem b_Mo_turnedBy {d : Nat} {r : Option Vv × Mm} {m : Mm} {x1 x2 x3 x4 : Int} (h : Ev (d + 1) K_Mo_turnedBy 0 4 [(18, 400), (0, x1), (0, x2), (0, x3), (0, x4), (0, 0), (0, 0), (9, 0)] [] m r) : Ev (d + 1) K_Mo_turnedBy 0 0 [(18, 400), (0, x1), (0, x2), (0, x3), (0, x4), (9, 0), (9, 0), (9, 0)] [] m r := by
  refine Ev_rn (q := (4, [(18, 400), (0, x1), (0, x2), (0, x3), (0, x4), (0, 0), (0, 0), (9, 0)], [], m)) 4 rfl ?_
  exact h
theorem b_Mo_turnedBy_4 {d : Nat} {r : Option Vv × Mm} {m : Mm} {x1 x2 x3 x4 x5 x6 : Int} {u7 : Vv} (h : (20 ≤ x6 → r = (some (0, x5), m)) ∧ (¬ (20 ≤ x6) → (x4 = 0 → (0 ≤ w32 ((w32 (40 * x3)) + x6) ∧ w32 ((w32 (40 * x3)) + x6) < 320) ∧ ((20 ≤ m 404 (w32 ((w32 (40 * x3)) + x6)) → ∃ (v1 : Int) (m1 : Mm), Cl d k_Mo_has [(0, x2), (0, w32 ((m 404 (w32 ((w32 (40 * x3)) + x6))) - 20))] m (some (0, v1), m1) ∧ ((v1 = 0 → Ev (d + 1) K_Mo_turnedBy 0 4 [(18, 400), (0, x1), (0, x2), (0, x3), (0, x4), (0, iro x5 0), (0, w32 (x6 + 1)), (0, m 404 (w32 ((w32 (40 * x3)) + x6)))] [] m1 r) ∧ (¬ (v1 = 0) → Ev (d + 1) K_Mo_turnedBy 0 4 [(18, 400), (0, x1), (0, x2), (0, x3), (0, x4), (0, iro x5 (isl 1 x6)), (0, w32 (x6 + 1)), (0, m 404 (w32 ((w32 (40 * x3)) + x6)))] [] m1 r))) ∧ (¬ (20 ≤ m 404 (w32 ((w32 (40 * x3)) + x6))) → ∃ (v2 : Int) (m2 : Mm), Cl d k_Mo_has [(0, x1), (0, m 404 (w32 ((w32 (40 * x3)) + x6)))] m (some (0, v2), m2) ∧ ((v2 = 0 → Ev (d + 1) K_Mo_turnedBy 0 4 [(18, 400), (0, x1), (0, x2), (0, x3), (0, x4), (0, iro x5 0), (0, w32 (x6 + 1)), (0, m 404 (w32 ((w32 (40 * x3)) + x6)))] [] m2 r) ∧ (¬ (v2 = 0) → Ev (d + 1) K_Mo_turnedBy 0 4 [(18, 400), (0, x1), (0, x2), (0, x3), (0, x4), (0, iro x5 (isl 1 x6)), (0, w32 (x6 + 1)), (0, m 404 (w32 ((w32 (40 * x3)) + x6)))] [] m2 r))))) ∧ (¬ (x4 = 0) → (0 ≤ w32 ((w32 (40 * x3)) + (w32 (20 + x6))) ∧ w32 ((w32 (40 * x3)) + (w32 (20 + x6))) < 320) ∧ ((20 ≤ m 404 (w32 ((w32 (40 * x3)) + (w32 (20 + x6)))) → ∃ (v3 : Int) (m3 : Mm), Cl d k_Mo_has [(0, x2), (0, w32 ((m 404 (w32 ((w32 (40 * x3)) + (w32 (20 + x6))))) - 20))] m (some (0, v3), m3) ∧ ((v3 = 0 → Ev (d + 1) K_Mo_turnedBy 0 4 [(18, 400), (0, x1), (0, x2), (0, x3), (0, x4), (0, iro x5 0), (0, w32 (x6 + 1)), (0, m 404 (w32 ((w32 (40 * x3)) + (w32 (20 + x6)))))] [] m3 r) ∧ (¬ (v3 = 0) → Ev (d + 1) K_Mo_turnedBy 0 4 [(18, 400), (0, x1), (0, x2), (0, x3), (0, x4), (0, iro x5 (isl 1 x6)), (0, w32 (x6 + 1)), (0, m 404 (w32 ((w32 (40 * x3)) + (w32 (20 + x6)))))] [] m3 r))) ∧ (¬ (20 ≤ m 404 (w32 ((w32 (40 * x3)) + (w32 (20 + x6))))) → ∃ (v4 : Int) (m4 : Mm), Cl d k_Mo_has [(0, x1), (0, m 404 (w32 ((w32 (40 * x3)) + (w32 (20 + x6)))))] m (some (0, v4), m4) ∧ ((v4 = 0 → Ev (d + 1) K_Mo_turnedBy 0 4 [(18, 400), (0, x1), (0, x2), (0, x3), (0, x4), (0, iro x5 0), (0, w32 (x6 + 1)), (0, m 404 (w32 ((w32 (40 * x3)) + (w32 (20 + x6)))))] [] m4 r) ∧ (¬ (v4 = 0) → Ev (d + 1) K_Mo_turnedBy 0 4 [(18, 400), (0, x1), (0, x2), (0, x3), (0, x4), (0, iro x5 (isl 1 x6)), (0, w32 (x6 + 1)), (0, m 404 (w32 ((w32 (40 * x3)) + (w32 (20 + x6)))))] [] m4 r))))))) : Ev (d + 1) K_Mo_turnedBy 0 4 [(18, 400), (0, x1), (0, x2), (0, x3), (0, x4), (0, x5), (0, x6), u7] [] m r := by
  refine Ev_rn (q := (6, [(18, 400), (0, x1), (0, x2), (0, x3), (0, x4), (0, x5), (0, x6), u7], [(0, 20), (0, x6)], m)) 2 rfl ?_
  refine Ev_icmp rfl (fun hc => ?_) (fun hc => ?_)
  · replace h := h.1 hc
    refine Ev_rn (q := (47, [(18, 400), (0, x1), (0, x2), (0, x3), (0, x4), (0, x5), (0, x6), u7], [(0, x5)], m)) 1 rfl ?_
    exact Ev_ret rfl rfl h
  · replace h := h.2 hc
    refine Ev_rn (q := (13, [(18, 400), (0, x1), (0, x2), (0, x3), (0, x4), (0, x5), (0, x6), u7], [(0, x4), (0, w32 (40 * x3)), (2660, 404)], m)) 6 rfl ?_
    refine Ev_if rfl (fun hc => ?_) (fun hc => ?_)
    · replace h := h.1 hc
      refine Ev_rn (q := (20, [(18, 400), (0, x1), (0, x2), (0, x3), (0, x4), (0, x5), (0, x6), u7], [(0, w32 ((w32 (40 * x3)) + x6)), (2660, 404)], m)) 2 rfl ?_
      obtain ⟨hc, h⟩ := h
      refine Ev_iald (n := 320) rfl (by decide) (by decide) hc ?_
      refine Ev_rn (q := (25, [(18, 400), (0, x1), (0, x2), (0, x3), (0, x4), (0, x5), (0, x6), (0, m 404 (w32 ((w32 (40 * x3)) + x6)))], [(0, 20), (0, m 404 (w32 ((w32 (40 * x3)) + x6))), (0, x5)], m)) 4 rfl ?_
      refine Ev_icmp rfl (fun hc => ?_) (fun hc => ?_)
      · replace h := h.1 hc
        refine Ev_rn (q := (35, [(18, 400), (0, x1), (0, x2), (0, x3), (0, x4), (0, x5), (0, x6), (0, m 404 (w32 ((w32 (40 * x3)) + x6)))], [(0, w32 ((m 404 (w32 ((w32 (40 * x3)) + x6))) - 20)), (0, x2), (0, x5)], m)) 4 rfl ?_
        obtain ⟨v1, m1, hc, h⟩ := h
        refine Ev_call (rest := [(0, x5)]) rfl rfl (Nat.le_of_ble_eq_true rfl) hc ?_
        refine Ev_if rfl (fun hc => ?_) (fun hc => ?_)
        · replace h := h.1 hc
          refine Ev_rn (q := (4, [(18, 400), (0, x1), (0, x2), (0, x3), (0, x4), (0, iro x5 0), (0, w32 (x6 + 1)), (0, m 404 (w32 ((w32 (40 * x3)) + x6)))], [], m1)) 5 rfl ?_
          exact h
        · replace h := h.2 hc
          refine Ev_rn (q := (4, [(18, 400), (0, x1), (0, x2), (0, x3), (0, x4), (0, iro x5 (isl 1 x6)), (0, w32 (x6 + 1)), (0, m 404 (w32 ((w32 (40 * x3)) + x6)))], [], m1)) 8 rfl ?_
          exact h
      · replace h := h.2 hc
        refine Ev_rn (q := (28, [(18, 400), (0, x1), (0, x2), (0, x3), (0, x4), (0, x5), (0, x6), (0, m 404 (w32 ((w32 (40 * x3)) + x6)))], [(0, m 404 (w32 ((w32 (40 * x3)) + x6))), (0, x1), (0, x5)], m)) 2 rfl ?_
        obtain ⟨v2, m2, hc, h⟩ := h
        refine Ev_call (rest := [(0, x5)]) rfl rfl (Nat.le_of_ble_eq_true rfl) hc ?_
        refine Ev_if rfl (fun hc => ?_) (fun hc => ?_)
        · replace h := h.1 hc
          refine Ev_rn (q := (4, [(18, 400), (0, x1), (0, x2), (0, x3), (0, x4), (0, iro x5 0), (0, w32 (x6 + 1)), (0, m 404 (w32 ((w32 (40 * x3)) + x6)))], [], m2)) 5 rfl ?_
          exact h
        · replace h := h.2 hc
          refine Ev_rn (q := (4, [(18, 400), (0, x1), (0, x2), (0, x3), (0, x4), (0, iro x5 (isl 1 x6)), (0, w32 (x6 + 1)), (0, m 404 (w32 ((w32 (40 * x3)) + x6)))], [], m2)) 9 rfl ?_
          exact h
    · replace h := h.2 hc
      refine Ev_rn (q := (20, [(18, 400), (0, x1), (0, x2), (0, x3), (0, x4), (0, x5), (0, x6), u7], [(0, w32 ((w32 (40 * x3)) + (w32 (20 + x6)))), (2660, 404)], m)) 5 rfl ?_
      obtain ⟨hc, h⟩ := h
      refine Ev_iald (n := 320) rfl (by decide) (by decide) hc ?_
      refine Ev_rn (q := (25, [(18, 400), (0, x1), (0, x2), (0, x3), (0, x4), (0, x5), (0, x6), (0, m 404 (w32 ((w32 (40 * x3)) + (w32 (20 + x6)))))], [(0, 20), (0, m 404 (w32 ((w32 (40 * x3)) + (w32 (20 + x6))))), (0, x5)], m)) 4 rfl ?_
      refine Ev_icmp rfl (fun hc => ?_) (fun hc => ?_)
      · replace h := h.1 hc
        refine Ev_rn (q := (35, [(18, 400), (0, x1), (0, x2), (0, x3), (0, x4), (0, x5), (0, x6), (0, m 404 (w32 ((w32 (40 * x3)) + (w32 (20 + x6)))))], [(0, w32 ((m 404 (w32 ((w32 (40 * x3)) + (w32 (20 + x6))))) - 20)), (0, x2), (0, x5)], m)) 4 rfl ?_
        obtain ⟨v3, m3, hc, h⟩ := h
        refine Ev_call (rest := [(0, x5)]) rfl rfl (Nat.le_of_ble_eq_true rfl) hc ?_
        refine Ev_if rfl (fun hc => ?_) (fun hc => ?_)
        · replace h := h.1 hc
          refine Ev_rn (q := (4, [(18, 400), (0, x1), (0, x2), (0, x3), (0, x4), (0, iro x5 0), (0, w32 (x6 + 1)), (0, m 404 (w32 ((w32 (40 * x3)) + (w32 (20 + x6)))))], [], m3)) 5 rfl ?_
          exact h
        · replace h := h.2 hc
          refine Ev_rn (q := (4, [(18, 400), (0, x1), (0, x2), (0, x3), (0, x4), (0, iro x5 (isl 1 x6)), (0, w32 (x6 + 1)), (0, m 404 (w32 ((w32 (40 * x3)) + (w32 (20 + x6)))))], [], m3)) 8 rfl ?_
          exact h
      · replace h := h.2 hc
        refine Ev_rn (q := (28, [(18, 400), (0, x1), (0, x2), (0, x3), (0, x4), (0, x5), (0, x6), (0, m 404 (w32 ((w32 (40 * x3)) + (w32 (20 + x6)))))], [(0, m 404 (w32 ((w32 (40 * x3)) + (w32 (20 + x6))))), (0, x1), (0, x5)], m)) 2 rfl ?_
        obtain ⟨v4, m4, hc, h⟩ := h
        refine Ev_call (rest := [(0, x5)]) rfl rfl (Nat.le_of_ble_eq_true rfl) hc ?_
        refine Ev_if rfl (fun hc => ?_) (fun hc => ?_)
        · replace h := h.1 hc
          refine Ev_rn (q := (4, [(18, 400), (0, x1), (0, x2), (0, x3), (0, x4), (0, iro x5 0), (0, w32 (x6 + 1)), (0, m 404 (w32 ((w32 (40 * x3)) + (w32 (20 + x6)))))], [], m4)) 5 rfl ?_
          exact h
        · replace h := h.2 hc
          refine Ev_rn (q := (4, [(18, 400), (0, x1), (0, x2), (0, x3), (0, x4), (0, iro x5 (isl 1 x6)), (0, w32 (x6 + 1)), (0, m 404 (w32 ((w32 (40 * x3)) + (w32 (20 + x6)))))], [], m4)) 9 rfl ?_
          exact h
theorem b_Mo_ofHand {d : Nat} {r : Option Vv × Mm} {m : Mm} {x1 x2 x3 : Int} (h : (0 ≤ w32 (32 + (w32 (2 * x1))) ∧ w32 (32 + (w32 (2 * x1))) < 1466) ∧ ((0 ≤ w32 ((w32 (32 + (w32 (2 * x1)))) + 1) ∧ w32 ((w32 (32 + (w32 (2 * x1)))) + 1) < 1466) ∧ (∃ (v1 : Int) (m1 : Mm), Cl d k_Mo_turnedBy [(18, 400), (0, m 401 (w32 (32 + (w32 (2 * x1))))), (0, m 401 (w32 ((w32 (32 + (w32 (2 * x1)))) + 1))), (0, x2), (0, x3)] m (some (0, v1), m1) ∧ (r = (some (0, v1), m1))))) : Ev (d + 1) K_Mo_ofHand 0 0 [(18, 400), (0, x1), (0, x2), (0, x3)] [] m r := by
  refine Ev_rn (q := (8, [(18, 400), (0, x1), (0, x2), (0, x3)], [(0, w32 (32 + (w32 (2 * x1)))), (11828, 401), (18, 400)], m)) 8 rfl ?_
  obtain ⟨hc, h⟩ := h
  refine Ev_iald (n := 1466) rfl (by decide) (by decide) hc ?_
  refine Ev_rn (q := (18, [(18, 400), (0, x1), (0, x2), (0, x3)], [(0, w32 ((w32 (32 + (w32 (2 * x1)))) + 1)), (11828, 401), (0, m 401 (w32 (32 + (w32 (2 * x1))))), (18, 400)], m)) 9 rfl ?_
  obtain ⟨hc, h⟩ := h
  refine Ev_iald (n := 1466) rfl (by decide) (by decide) hc ?_
  refine Ev_rn (q := (21, [(18, 400), (0, x1), (0, x2), (0, x3)], [(0, x3), (0, x2), (0, m 401 (w32 ((w32 (32 + (w32 (2 * x1)))) + 1))), (0, m 401 (w32 (32 + (w32 (2 * x1))))), (18, 400)], m)) 2 rfl ?_
  obtain ⟨v1, m1, hc, h⟩ := h
  refine Ev_call (rest := []) rfl rfl (Nat.le_of_ble_eq_true rfl) hc ?_
  exact Ev_ret rfl rfl h
theorem b_Mo_pressNow {d : Nat} {r : Option Vv × Mm} {m : Mm} {x1 x2 : Int} (h : ∃ (v1 : Int) (m1 : Mm), Cl d k_Mo_ofHand [(18, 400), (0, x1), (0, x2), (0, 0)] m (some (0, v1), m1) ∧ (∀ m2 : Mm, m2 = up m1 401 8 v1 → (∃ (v3 : Int) (m3 : Mm), Cl d k_Mo_ofHand [(18, 400), (0, x1), (0, x2), (0, 1)] m2 (some (0, v3), m3) ∧ (∀ m4 : Mm, m4 = up m3 401 9 v3 → (r = (none, m4)))))) : Ev (d + 1) K_Mo_pressNow 3 0 [(18, 400), (0, x1), (0, x2)] [] m r := by
  refine Ev_rn (q := (7, [(18, 400), (0, x1), (0, x2)], [(0, 0), (0, x2), (0, x1), (18, 400), (0, 8), (11828, 401)], m)) 7 rfl ?_
  obtain ⟨v1, m1, hc, h⟩ := h
  refine Ev_call (rest := [(0, 8), (11828, 401)]) rfl rfl (Nat.le_of_ble_eq_true rfl) hc ?_
  refine Ev_iast (n := 1466) rfl (by decide) (by decide) ⟨by decide, by decide⟩ ?_
  generalize e2 : up m1 401 8 v1 = m2
  replace h := h m2 e2.symm
  refine Ev_rn (q := (16, [(18, 400), (0, x1), (0, x2)], [(0, 1), (0, x2), (0, x1), (18, 400), (0, 9), (11828, 401)], m2)) 7 rfl ?_
  obtain ⟨v3, m3, hc, h⟩ := h
  refine Ev_call (rest := [(0, 9), (11828, 401)]) rfl rfl (Nat.le_of_ble_eq_true rfl) hc ?_
  refine Ev_iast (n := 1466) rfl (by decide) (by decide) ⟨by decide, by decide⟩ ?_
  generalize e4 : up m3 401 9 v3 = m4
  replace h := h m4 e4.symm
  exact Ev_ret rfl rfl h
theorem b_Mo_keep {d : Nat} {r : Option Vv × Mm} {m : Mm} (h : (¬ m 401 4 = 30 → Ev d K_Mo_keep 3 33 [(18, 400), (9, 0), (9, 0)] [] m r) ∧ (¬ (¬ m 401 4 = 30) → Ev d K_Mo_keep 3 8 [(18, 400), (0, 0), (9, 0)] [] m r)) : Ev d K_Mo_keep 3 0 [(18, 400), (9, 0), (9, 0)] [] m r := by
  refine Ev_rn (q := (3, [(18, 400), (9, 0), (9, 0)], [(0, 4), (11828, 401)], m)) 3 rfl ?_
  refine Ev_iald (n := 1466) rfl (by decide) (by decide) ⟨by decide, by decide⟩ ?_
  refine Ev_rn (q := (5, [(18, 400), (9, 0), (9, 0)], [(0, 30), (0, m 401 4)], m)) 1 rfl ?_
  refine Ev_icmp rfl (fun hc => ?_) (fun hc => ?_)
  · replace h := h.1 hc
    exact h
  · replace h := h.2 hc
    refine Ev_rn (q := (8, [(18, 400), (0, 0), (9, 0)], [], m)) 2 rfl ?_
    exact h
theorem b_Mo_keep_8 {d : Nat} {r : Option Vv × Mm} {m : Mm} {x1 : Int} {u2 : Vv} (h : (1334 ≤ x1 → ∀ m1 : Mm, m1 = up m 401 4 (w32 ((m 401 4) - 1)) → (Ev d K_Mo_keep 3 33 [(18, 400), (0, x1), u2] [] m1 r)) ∧ (¬ (1334 ≤ x1) → (0 ≤ w32 (102 + x1) ∧ w32 (102 + x1) < 1466) ∧ ((0 ≤ w32 (56 + x1) ∧ w32 (56 + x1) < 1466) ∧ (∀ m2 : Mm, m2 = up m 401 (w32 (56 + x1)) (m 401 (w32 (102 + x1))) → (Ev d K_Mo_keep 3 8 [(18, 400), (0, w32 (x1 + 1)), u2] [] m2 r))))) : Ev d K_Mo_keep 3 8 [(18, 400), (0, x1), u2] [] m r := by
  refine Ev_rn (q := (10, [(18, 400), (0, x1), u2], [(0, 1334), (0, x1)], m)) 2 rfl ?_
  refine Ev_icmp rfl (fun hc => ?_) (fun hc => ?_)
  · replace h := h.1 hc
    refine Ev_rn (q := (29, [(18, 400), (0, x1), u2], [(0, 4), (11828, 401), (0, 4), (11828, 401)], m)) 4 rfl ?_
    refine Ev_iald (n := 1466) rfl (by decide) (by decide) ⟨by decide, by decide⟩ ?_
    refine Ev_rn (q := (32, [(18, 400), (0, x1), u2], [(0, w32 ((m 401 4) - 1)), (0, 4), (11828, 401)], m)) 2 rfl ?_
    refine Ev_iast (n := 1466) rfl (by decide) (by decide) ⟨by decide, by decide⟩ ?_
    generalize e1 : up m 401 4 (w32 ((m 401 4) - 1)) = m1
    replace h := h m1 e1.symm
    exact h
  · replace h := h.2 hc
    refine Ev_rn (q := (21, [(18, 400), (0, x1), u2], [(0, w32 (102 + x1)), (11828, 401), (0, w32 (56 + x1)), (11828, 401)], m)) 10 rfl ?_
    obtain ⟨hc, h⟩ := h
    refine Ev_iald (n := 1466) rfl (by decide) (by decide) hc ?_
    obtain ⟨hc, h⟩ := h
    refine Ev_iast (n := 1466) rfl (by decide) (by decide) hc ?_
    generalize e2 : up m 401 (w32 (56 + x1)) (m 401 (w32 (102 + x1))) = m2
    replace h := h m2 e2.symm
    refine Ev_rn (q := (8, [(18, 400), (0, w32 (x1 + 1)), u2], [], m2)) 2 rfl ?_
    exact h
theorem b_Mo_keep_33 {d : Nat} {r : Option Vv × Mm} {m : Mm} {u1 u2 : Vv} (h : (0 ≤ w32 (56 + (w32 (46 * (m 401 4)))) ∧ w32 (56 + (w32 (46 * (m 401 4)))) < 1466) ∧ (∀ m1 : Mm, m1 = up m 401 (w32 (56 + (w32 (46 * (m 401 4))))) (m 401 1) → (Ev d K_Mo_keep 3 52 [(18, 400), (0, w32 (56 + (w32 (46 * (m 401 4))))), (0, 0)] [] m1 r))) : Ev d K_Mo_keep 3 33 [(18, 400), u1, u2] [] m r := by
  refine Ev_rn (q := (38, [(18, 400), u1, u2], [(0, 4), (11828, 401), (0, 46), (0, 56)], m)) 5 rfl ?_
  refine Ev_iald (n := 1466) rfl (by decide) (by decide) ⟨by decide, by decide⟩ ?_
  refine Ev_rn (q := (48, [(18, 400), (0, w32 (56 + (w32 (46 * (m 401 4))))), u2], [(0, 1), (11828, 401), (0, w32 (56 + (w32 (46 * (m 401 4))))), (11828, 401)], m)) 9 rfl ?_
  refine Ev_iald (n := 1466) rfl (by decide) (by decide) ⟨by decide, by decide⟩ ?_
  obtain ⟨hc, h⟩ := h
  refine Ev_iast (n := 1466) rfl (by decide) (by decide) hc ?_
  generalize e1 : up m 401 (w32 (56 + (w32 (46 * (m 401 4))))) (m 401 1) = m1
  replace h := h m1 e1.symm
  refine Ev_rn (q := (52, [(18, 400), (0, w32 (56 + (w32 (46 * (m 401 4))))), (0, 0)], [], m1)) 2 rfl ?_
  exact h
theorem b_Mo_keep_52 {d : Nat} {r : Option Vv × Mm} {m : Mm} {x1 x2 : Int} (h : (15 ≤ x2 → Ev d K_Mo_keep 3 73 [(18, 400), (0, x1), (0, 0)] [] m r) ∧ (¬ (15 ≤ x2) → (0 ≤ w32 (6 + x2) ∧ w32 (6 + x2) < 1466) ∧ ((0 ≤ w32 ((w32 (x1 + 1)) + x2) ∧ w32 ((w32 (x1 + 1)) + x2) < 1466) ∧ (∀ m1 : Mm, m1 = up m 401 (w32 ((w32 (x1 + 1)) + x2)) (m 401 (w32 (6 + x2))) → (Ev d K_Mo_keep 3 52 [(18, 400), (0, x1), (0, w32 (x2 + 1))] [] m1 r))))) : Ev d K_Mo_keep 3 52 [(18, 400), (0, x1), (0, x2)] [] m r := by
  refine Ev_rn (q := (54, [(18, 400), (0, x1), (0, x2)], [(0, 15), (0, x2)], m)) 2 rfl ?_
  refine Ev_icmp rfl (fun hc => ?_) (fun hc => ?_)
  · replace h := h.1 hc
    refine Ev_rn (q := (73, [(18, 400), (0, x1), (0, 0)], [], m)) 2 rfl ?_
    exact h
  · replace h := h.2 hc
    refine Ev_rn (q := (67, [(18, 400), (0, x1), (0, x2)], [(0, w32 (6 + x2)), (11828, 401), (0, w32 ((w32 (x1 + 1)) + x2)), (11828, 401)], m)) 12 rfl ?_
    obtain ⟨hc, h⟩ := h
    refine Ev_iald (n := 1466) rfl (by decide) (by decide) hc ?_
    obtain ⟨hc, h⟩ := h
    refine Ev_iast (n := 1466) rfl (by decide) (by decide) hc ?_
    generalize e1 : up m 401 (w32 ((w32 (x1 + 1)) + x2)) (m 401 (w32 (6 + x2))) = m1
    replace h := h m1 e1.symm
    refine Ev_rn (q := (52, [(18, 400), (0, x1), (0, w32 (x2 + 1))], [], m1)) 2 rfl ?_
    exact h
theorem b_Mo_keep_73 {d : Nat} {r : Option Vv × Mm} {m : Mm} {x1 x2 : Int} (h : (30 ≤ x2 → ∀ m1 : Mm, m1 = up m 401 4 (w32 ((m 401 4) + 1)) → (r = (none, m1))) ∧ (¬ (30 ≤ x2) → (0 ≤ w32 (1436 + x2) ∧ w32 (1436 + x2) < 1466) ∧ ((0 ≤ w32 ((w32 (x1 + 16)) + x2) ∧ w32 ((w32 (x1 + 16)) + x2) < 1466) ∧ (∀ m2 : Mm, m2 = up m 401 (w32 ((w32 (x1 + 16)) + x2)) (m 401 (w32 (1436 + x2))) → (Ev d K_Mo_keep 3 73 [(18, 400), (0, x1), (0, w32 (x2 + 1))] [] m2 r))))) : Ev d K_Mo_keep 3 73 [(18, 400), (0, x1), (0, x2)] [] m r := by
  refine Ev_rn (q := (75, [(18, 400), (0, x1), (0, x2)], [(0, 30), (0, x2)], m)) 2 rfl ?_
  refine Ev_icmp rfl (fun hc => ?_) (fun hc => ?_)
  · replace h := h.1 hc
    refine Ev_rn (q := (96, [(18, 400), (0, x1), (0, x2)], [(0, 4), (11828, 401), (0, 4), (11828, 401)], m)) 4 rfl ?_
    refine Ev_iald (n := 1466) rfl (by decide) (by decide) ⟨by decide, by decide⟩ ?_
    refine Ev_rn (q := (99, [(18, 400), (0, x1), (0, x2)], [(0, w32 ((m 401 4) + 1)), (0, 4), (11828, 401)], m)) 2 rfl ?_
    refine Ev_iast (n := 1466) rfl (by decide) (by decide) ⟨by decide, by decide⟩ ?_
    generalize e1 : up m 401 4 (w32 ((m 401 4) + 1)) = m1
    replace h := h m1 e1.symm
    exact Ev_ret rfl rfl h
  · replace h := h.2 hc
    refine Ev_rn (q := (88, [(18, 400), (0, x1), (0, x2)], [(0, w32 (1436 + x2)), (11828, 401), (0, w32 ((w32 (x1 + 16)) + x2)), (11828, 401)], m)) 12 rfl ?_
    obtain ⟨hc, h⟩ := h
    refine Ev_iald (n := 1466) rfl (by decide) (by decide) hc ?_
    obtain ⟨hc, h⟩ := h
    refine Ev_iast (n := 1466) rfl (by decide) (by decide) hc ?_
    generalize e2 : up m 401 (w32 ((w32 (x1 + 16)) + x2)) (m 401 (w32 (1436 + x2))) = m2
    replace h := h m2 e2.symm
    refine Ev_rn (q := (73, [(18, 400), (0, x1), (0, w32 (x2 + 1))], [], m2)) 2 rfl ?_
    exact h
theorem b_Mo_undo {d : Nat} {r : Option Vv × Mm} {m : Mm} (h : (¬ m 401 4 = 0 → ∀ m1 : Mm, m1 = up m 401 4 (w32 ((m 401 4) - 1)) → (Ev (d + 1) K_Mo_undo 0 26 [(18, 400), (0, w32 (56 + (w32 (46 * (m1 401 4))))), (0, 0)] [] m1 r)) ∧ (¬ (¬ m 401 4 = 0) → r = (some (0, (-1)), m))) : Ev (d + 1) K_Mo_undo 0 0 [(18, 400), (9, 0), (9, 0)] [] m r := by
  refine Ev_rn (q := (3, [(18, 400), (9, 0), (9, 0)], [(0, 4), (11828, 401)], m)) 3 rfl ?_
  refine Ev_iald (n := 1466) rfl (by decide) (by decide) ⟨by decide, by decide⟩ ?_
  refine Ev_if rfl (fun hc => ?_) (fun hc => ?_)
  · replace h := h.1 hc
    refine Ev_rn (q := (11, [(18, 400), (9, 0), (9, 0)], [(0, 4), (11828, 401), (0, 4), (11828, 401)], m)) 4 rfl ?_
    refine Ev_iald (n := 1466) rfl (by decide) (by decide) ⟨by decide, by decide⟩ ?_
    refine Ev_rn (q := (14, [(18, 400), (9, 0), (9, 0)], [(0, w32 ((m 401 4) - 1)), (0, 4), (11828, 401)], m)) 2 rfl ?_
    refine Ev_iast (n := 1466) rfl (by decide) (by decide) ⟨by decide, by decide⟩ ?_
    generalize e1 : up m 401 4 (w32 ((m 401 4) - 1)) = m1
    replace h := h m1 e1.symm
    refine Ev_rn (q := (20, [(18, 400), (9, 0), (9, 0)], [(0, 4), (11828, 401), (0, 46), (0, 56)], m1)) 5 rfl ?_
    refine Ev_iald (n := 1466) rfl (by decide) (by decide) ⟨by decide, by decide⟩ ?_
    refine Ev_rn (q := (26, [(18, 400), (0, w32 (56 + (w32 (46 * (m1 401 4))))), (0, 0)], [], m1)) 5 rfl ?_
    exact h
  · replace h := h.2 hc
    refine Ev_rn (q := (6, [(18, 400), (9, 0), (9, 0)], [(0, (-1))], m)) 1 rfl ?_
    exact Ev_ret rfl rfl h
theorem b_Mo_undo_26 {d : Nat} {r : Option Vv × Mm} {m : Mm} {x1 x2 : Int} (h : (15 ≤ x2 → (0 ≤ x1 ∧ x1 < 1466) ∧ (Ev (d + 1) K_Mo_undo 0 50 [(18, 400), (0, x1), (0, m 401 x1)] [] m r)) ∧ (¬ (15 ≤ x2) → (0 ≤ w32 ((w32 (x1 + 1)) + x2) ∧ w32 ((w32 (x1 + 1)) + x2) < 1466) ∧ ((0 ≤ w32 (6 + x2) ∧ w32 (6 + x2) < 1466) ∧ (∀ m1 : Mm, m1 = up m 401 (w32 (6 + x2)) (m 401 (w32 ((w32 (x1 + 1)) + x2))) → (Ev (d + 1) K_Mo_undo 0 26 [(18, 400), (0, x1), (0, w32 (x2 + 1))] [] m1 r))))) : Ev (d + 1) K_Mo_undo 0 26 [(18, 400), (0, x1), (0, x2)] [] m r := by
  refine Ev_rn (q := (28, [(18, 400), (0, x1), (0, x2)], [(0, 15), (0, x2)], m)) 2 rfl ?_
  refine Ev_icmp rfl (fun hc => ?_) (fun hc => ?_)
  · replace h := h.1 hc
    refine Ev_rn (q := (48, [(18, 400), (0, x1), (0, x2)], [(0, x1), (11828, 401)], m)) 3 rfl ?_
    obtain ⟨hc, h⟩ := h
    refine Ev_iald (n := 1466) rfl (by decide) (by decide) hc ?_
    refine Ev_rn (q := (50, [(18, 400), (0, x1), (0, m 401 x1)], [], m)) 1 rfl ?_
    exact h
  · replace h := h.2 hc
    refine Ev_rn (q := (41, [(18, 400), (0, x1), (0, x2)], [(0, w32 ((w32 (x1 + 1)) + x2)), (11828, 401), (0, w32 (6 + x2)), (11828, 401)], m)) 12 rfl ?_
    obtain ⟨hc, h⟩ := h
    refine Ev_iald (n := 1466) rfl (by decide) (by decide) hc ?_
    obtain ⟨hc, h⟩ := h
    refine Ev_iast (n := 1466) rfl (by decide) (by decide) hc ?_
    generalize e1 : up m 401 (w32 (6 + x2)) (m 401 (w32 ((w32 (x1 + 1)) + x2))) = m1
    replace h := h m1 e1.symm
    refine Ev_rn (q := (26, [(18, 400), (0, x1), (0, w32 (x2 + 1))], [], m1)) 2 rfl ?_
    exact h
theorem b_Mo_undo_50 {d : Nat} {r : Option Vv × Mm} {m : Mm} {x1 x2 : Int} (h : (m 401 1 ≤ x2 → Ev (d + 1) K_Mo_undo 0 81 [(18, 400), (0, x1), (0, 0)] [] m r) ∧ (¬ (m 401 1 ≤ x2) → (0 ≤ w32 (21 + (w32 (2 * x2))) ∧ w32 (21 + (w32 (2 * x2))) < 1466) ∧ ((0 ≤ w32 ((w32 (21 + (w32 (2 * x2)))) + 1) ∧ w32 ((w32 (21 + (w32 (2 * x2)))) + 1) < 1466) ∧ (∃ (m1 : Mm), Cl d k_Mo_put [(18, 400), (0, x2), (0, m 401 (w32 (21 + (w32 (2 * x2))))), (0, m 401 (w32 ((w32 (21 + (w32 (2 * x2)))) + 1)))] m (none, m1) ∧ (Ev (d + 1) K_Mo_undo 0 50 [(18, 400), (0, x1), (0, w32 (x2 + 1))] [] m1 r))))) : Ev (d + 1) K_Mo_undo 0 50 [(18, 400), (0, x1), (0, x2)] [] m r := by
  refine Ev_rn (q := (54, [(18, 400), (0, x1), (0, x2)], [(0, 1), (11828, 401), (0, x2)], m)) 4 rfl ?_
  refine Ev_iald (n := 1466) rfl (by decide) (by decide) ⟨by decide, by decide⟩ ?_
  refine Ev_icmp rfl (fun hc => ?_) (fun hc => ?_)
  · replace h := h.1 hc
    refine Ev_rn (q := (81, [(18, 400), (0, x1), (0, 0)], [], m)) 2 rfl ?_
    exact h
  · replace h := h.2 hc
    refine Ev_rn (q := (65, [(18, 400), (0, x1), (0, x2)], [(0, w32 (21 + (w32 (2 * x2)))), (11828, 401), (0, x2), (18, 400)], m)) 9 rfl ?_
    obtain ⟨hc, h⟩ := h
    refine Ev_iald (n := 1466) rfl (by decide) (by decide) hc ?_
    refine Ev_rn (q := (75, [(18, 400), (0, x1), (0, x2)], [(0, w32 ((w32 (21 + (w32 (2 * x2)))) + 1)), (11828, 401), (0, m 401 (w32 (21 + (w32 (2 * x2))))), (0, x2), (18, 400)], m)) 9 rfl ?_
    obtain ⟨hc, h⟩ := h
    refine Ev_iald (n := 1466) rfl (by decide) (by decide) hc ?_
    obtain ⟨m1, hc, h⟩ := h
    refine Ev_call (rest := []) rfl rfl (Nat.le_of_ble_eq_true rfl) hc ?_
    refine Ev_rn (q := (50, [(18, 400), (0, x1), (0, w32 (x2 + 1))], [], m1)) 2 rfl ?_
    exact h
theorem b_Mo_undo_81 {d : Nat} {r : Option Vv × Mm} {m : Mm} {x1 x2 : Int} (h : (30 ≤ x2 → r = (some (0, m 401 4), m)) ∧ (¬ (30 ≤ x2) → (0 ≤ w32 ((w32 (x1 + 16)) + x2) ∧ w32 ((w32 (x1 + 16)) + x2) < 1466) ∧ ((0 ≤ w32 (1436 + x2) ∧ w32 (1436 + x2) < 1466) ∧ (∀ m1 : Mm, m1 = up m 401 (w32 (1436 + x2)) (m 401 (w32 ((w32 (x1 + 16)) + x2))) → (Ev (d + 1) K_Mo_undo 0 81 [(18, 400), (0, x1), (0, w32 (x2 + 1))] [] m1 r))))) : Ev (d + 1) K_Mo_undo 0 81 [(18, 400), (0, x1), (0, x2)] [] m r := by
  refine Ev_rn (q := (83, [(18, 400), (0, x1), (0, x2)], [(0, 30), (0, x2)], m)) 2 rfl ?_
  refine Ev_icmp rfl (fun hc => ?_) (fun hc => ?_)
  · replace h := h.1 hc
    refine Ev_rn (q := (103, [(18, 400), (0, x1), (0, x2)], [(0, 4), (11828, 401)], m)) 3 rfl ?_
    refine Ev_iald (n := 1466) rfl (by decide) (by decide) ⟨by decide, by decide⟩ ?_
    exact Ev_ret rfl rfl h
  · replace h := h.2 hc
    refine Ev_rn (q := (96, [(18, 400), (0, x1), (0, x2)], [(0, w32 ((w32 (x1 + 16)) + x2)), (11828, 401), (0, w32 (1436 + x2)), (11828, 401)], m)) 12 rfl ?_
    obtain ⟨hc, h⟩ := h
    refine Ev_iald (n := 1466) rfl (by decide) (by decide) hc ?_
    obtain ⟨hc, h⟩ := h
    refine Ev_iast (n := 1466) rfl (by decide) (by decide) hc ?_
    generalize e1 : up m 401 (w32 (1436 + x2)) (m 401 (w32 ((w32 (x1 + 16)) + x2))) = m1
    replace h := h m1 e1.symm
    refine Ev_rn (q := (81, [(18, 400), (0, x1), (0, w32 (x2 + 1))], [], m1)) 2 rfl ?_
    exact h
theorem b_Mo_plant {d : Nat} {r : Option Vv × Mm} {m : Mm} {x1 : Int} (h : ∃ (v1 : Int) (m1 : Mm), Cl d k_Mo_isHedge [(0, x1)] m (some (0, v1), m1) ∧ ((v1 = 0 → r = (some (0, 0), m1)) ∧ (¬ (v1 = 0) → ∃ (v2 : Int) (m2 : Mm), Cl d k_Mo_isThere [(18, 400), (0, x1)] m1 (some (0, v2), m2) ∧ ((v2 = 0 → ∃ (m3 : Mm), Cl d k_Mo_keep [(18, 400)] m2 (none, m3) ∧ (∃ (m4 : Mm), Cl d k_Mo_change [(18, 400), (0, x1)] m3 (none, m4) ∧ (r = (some (0, 1), m4)))) ∧ (¬ (v2 = 0) → r = (some (0, 0), m2)))))) : Ev (d + 1) K_Mo_plant 2 0 [(18, 400), (0, x1)] [] m r := by
  refine Ev_rn (q := (1, [(18, 400), (0, x1)], [(0, x1)], m)) 1 rfl ?_
  obtain ⟨v1, m1, hc, h⟩ := h
  refine Ev_call (rest := []) rfl rfl (Nat.le_of_ble_eq_true rfl) hc ?_
  refine Ev_if rfl (fun hc => ?_) (fun hc => ?_)
  · replace h := h.1 hc
    refine Ev_rn (q := (8, [(18, 400), (0, x1)], [(0, 0)], m1)) 1 rfl ?_
    exact Ev_zret rfl rfl (by decide) h
  · replace h := h.2 hc
    refine Ev_rn (q := (5, [(18, 400), (0, x1)], [(0, x1), (18, 400)], m1)) 2 rfl ?_
    obtain ⟨v2, m2, hc, h⟩ := h
    refine Ev_call (rest := []) rfl rfl (Nat.le_of_ble_eq_true rfl) hc ?_
    refine Ev_if rfl (fun hc => ?_) (fun hc => ?_)
    · replace h := h.1 hc
      refine Ev_rn (q := (10, [(18, 400), (0, x1)], [(18, 400)], m2)) 1 rfl ?_
      obtain ⟨m3, hc, h⟩ := h
      refine Ev_call (rest := []) rfl rfl (Nat.le_of_ble_eq_true rfl) hc ?_
      refine Ev_rn (q := (13, [(18, 400), (0, x1)], [(0, x1), (18, 400)], m3)) 2 rfl ?_
      obtain ⟨m4, hc, h⟩ := h
      refine Ev_call (rest := []) rfl rfl (Nat.le_of_ble_eq_true rfl) hc ?_
      refine Ev_rn (q := (15, [(18, 400), (0, x1)], [(0, 1)], m4)) 1 rfl ?_
      exact Ev_zret rfl rfl (by decide) h
    · replace h := h.2 hc
      refine Ev_rn (q := (8, [(18, 400), (0, x1)], [(0, 0)], m2)) 1 rfl ?_
      exact Ev_zret rfl rfl (by decide) h
theorem b_Mo_cut {d : Nat} {r : Option Vv × Mm} {m : Mm} {x1 : Int} (h : ∃ (v1 : Int) (m1 : Mm), Cl d k_Mo_isHedge [(0, x1)] m (some (0, v1), m1) ∧ ((v1 = 0 → r = (some (0, 0), m1)) ∧ (¬ (v1 = 0) → ∃ (v2 : Int) (m2 : Mm), Cl d k_Mo_isThere [(18, 400), (0, x1)] m1 (some (0, v2), m2) ∧ ((¬ v2 = 0 → ∃ (m3 : Mm), Cl d k_Mo_keep [(18, 400)] m2 (none, m3) ∧ (∃ (m4 : Mm), Cl d k_Mo_change [(18, 400), (0, x1)] m3 (none, m4) ∧ (r = (some (0, 1), m4)))) ∧ (¬ (¬ v2 = 0) → r = (some (0, 0), m2)))))) : Ev (d + 1) K_Mo_cut 2 0 [(18, 400), (0, x1)] [] m r := by
  refine Ev_rn (q := (1, [(18, 400), (0, x1)], [(0, x1)], m)) 1 rfl ?_
  obtain ⟨v1, m1, hc, h⟩ := h
  refine Ev_call (rest := []) rfl rfl (Nat.le_of_ble_eq_true rfl) hc ?_
  refine Ev_if rfl (fun hc => ?_) (fun hc => ?_)
  · replace h := h.1 hc
    refine Ev_rn (q := (8, [(18, 400), (0, x1)], [(0, 0)], m1)) 1 rfl ?_
    exact Ev_zret rfl rfl (by decide) h
  · replace h := h.2 hc
    refine Ev_rn (q := (5, [(18, 400), (0, x1)], [(0, x1), (18, 400)], m1)) 2 rfl ?_
    obtain ⟨v2, m2, hc, h⟩ := h
    refine Ev_call (rest := []) rfl rfl (Nat.le_of_ble_eq_true rfl) hc ?_
    refine Ev_if rfl (fun hc => ?_) (fun hc => ?_)
    · replace h := h.1 hc
      refine Ev_rn (q := (10, [(18, 400), (0, x1)], [(18, 400)], m2)) 1 rfl ?_
      obtain ⟨m3, hc, h⟩ := h
      refine Ev_call (rest := []) rfl rfl (Nat.le_of_ble_eq_true rfl) hc ?_
      refine Ev_rn (q := (13, [(18, 400), (0, x1)], [(0, x1), (18, 400)], m3)) 2 rfl ?_
      obtain ⟨m4, hc, h⟩ := h
      refine Ev_call (rest := []) rfl rfl (Nat.le_of_ble_eq_true rfl) hc ?_
      refine Ev_rn (q := (15, [(18, 400), (0, x1)], [(0, 1)], m4)) 1 rfl ?_
      exact Ev_zret rfl rfl (by decide) h
    · replace h := h.2 hc
      refine Ev_rn (q := (8, [(18, 400), (0, x1)], [(0, 0)], m2)) 1 rfl ?_
      exact Ev_zret rfl rfl (by decide) h
theorem b_Mo_press {d : Nat} {r : Option Vv × Mm} {m : Mm} {x1 x2 : Int} (h : ∃ (v1 : Int) (m1 : Mm), Cl d k_Mo_isHand [(18, 400), (0, x1)] m (some (0, v1), m1) ∧ ((v1 = 0 → r = (some (0, 0), m1)) ∧ (¬ (v1 = 0) → ∃ (v2 : Int) (m2 : Mm), Cl d k_Mo_isIn [(0, x2), (0, 0), (0, 7)] m1 (some (0, v2), m2) ∧ ((¬ v2 = 0 → ∃ (m3 : Mm), Cl d k_Mo_keep [(18, 400)] m2 (none, m3) ∧ (∃ (m4 : Mm), Cl d k_Mo_pressNow [(18, 400), (0, x1), (0, x2)] m3 (none, m4) ∧ (r = (some (0, 1), m4)))) ∧ (¬ (¬ v2 = 0) → r = (some (0, 0), m2)))))) : Ev (d + 1) K_Mo_press 2 0 [(18, 400), (0, x1), (0, x2)] [] m r := by
  refine Ev_rn (q := (2, [(18, 400), (0, x1), (0, x2)], [(0, x1), (18, 400)], m)) 2 rfl ?_
  obtain ⟨v1, m1, hc, h⟩ := h
  refine Ev_call (rest := []) rfl rfl (Nat.le_of_ble_eq_true rfl) hc ?_
  refine Ev_if rfl (fun hc => ?_) (fun hc => ?_)
  · replace h := h.1 hc
    refine Ev_rn (q := (10, [(18, 400), (0, x1), (0, x2)], [(0, 0)], m1)) 1 rfl ?_
    exact Ev_zret rfl rfl (by decide) h
  · replace h := h.2 hc
    refine Ev_rn (q := (7, [(18, 400), (0, x1), (0, x2)], [(0, 7), (0, 0), (0, x2)], m1)) 3 rfl ?_
    obtain ⟨v2, m2, hc, h⟩ := h
    refine Ev_call (rest := []) rfl rfl (Nat.le_of_ble_eq_true rfl) hc ?_
    refine Ev_if rfl (fun hc => ?_) (fun hc => ?_)
    · replace h := h.1 hc
      refine Ev_rn (q := (12, [(18, 400), (0, x1), (0, x2)], [(18, 400)], m2)) 1 rfl ?_
      obtain ⟨m3, hc, h⟩ := h
      refine Ev_call (rest := []) rfl rfl (Nat.le_of_ble_eq_true rfl) hc ?_
      refine Ev_rn (q := (16, [(18, 400), (0, x1), (0, x2)], [(0, x2), (0, x1), (18, 400)], m3)) 3 rfl ?_
      obtain ⟨m4, hc, h⟩ := h
      refine Ev_call (rest := []) rfl rfl (Nat.le_of_ble_eq_true rfl) hc ?_
      refine Ev_rn (q := (18, [(18, 400), (0, x1), (0, x2)], [(0, 1)], m4)) 1 rfl ?_
      exact Ev_zret rfl rfl (by decide) h
    · replace h := h.2 hc
      refine Ev_rn (q := (10, [(18, 400), (0, x1), (0, x2)], [(0, 0)], m2)) 1 rfl ?_
      exact Ev_zret rfl rfl (by decide) h
theorem b_Mo_canGo {d : Nat} {r : Option Vv × Mm} {m : Mm} {x1 x2 : Int} (h : ∃ (v1 : Int) (m1 : Mm), Cl d k_Mo_isCow [(18, 400), (0, x1)] m (some (0, v1), m1) ∧ ((v1 = 0 → r = (some (0, 0), m1)) ∧ (¬ (v1 = 0) → ∃ (v2 : Int) (m2 : Mm), Cl d k_Mo_isIn [(0, x2), (0, 0), (0, 3)] m1 (some (0, v2), m2) ∧ ((v2 = 0 → r = (some (0, 0), m2)) ∧ (¬ (v2 = 0) → ∃ (v3 : Int) (m3 : Mm), Cl d k_Mo_isHome [(18, 400), (0, x1)] m2 (some (0, v3), m3) ∧ ((¬ v3 = 0 → r = (some (0, 0), m3)) ∧ (¬ (¬ v3 = 0) → ∃ (v4 : Int) (m4 : Mm), Cl d k_Mo_cellOf [(18, 400), (0, x1)] m3 (some (0, v4), m4) ∧ (∃ (v5 : Int) (m5 : Mm), Cl d k_Mo_isOpen [(18, 400), (0, v4), (0, x2)] m4 (some (0, v5), m5) ∧ ((v5 = 0 → r = (some (0, 0), m5)) ∧ (¬ (v5 = 0) → r = (some (0, 1), m5))))))))))) : Ev (d + 1) K_Mo_canGo 2 0 [(18, 400), (0, x1), (0, x2)] [] m r := by
  refine Ev_rn (q := (2, [(18, 400), (0, x1), (0, x2)], [(0, x1), (18, 400)], m)) 2 rfl ?_
  obtain ⟨v1, m1, hc, h⟩ := h
  refine Ev_call (rest := []) rfl rfl (Nat.le_of_ble_eq_true rfl) hc ?_
  refine Ev_if rfl (fun hc => ?_) (fun hc => ?_)
  · replace h := h.1 hc
    refine Ev_rn (q := (23, [(18, 400), (0, x1), (0, x2)], [(0, 0)], m1)) 1 rfl ?_
    exact Ev_zret rfl rfl (by decide) h
  · replace h := h.2 hc
    refine Ev_rn (q := (7, [(18, 400), (0, x1), (0, x2)], [(0, 3), (0, 0), (0, x2)], m1)) 3 rfl ?_
    obtain ⟨v2, m2, hc, h⟩ := h
    refine Ev_call (rest := []) rfl rfl (Nat.le_of_ble_eq_true rfl) hc ?_
    refine Ev_if rfl (fun hc => ?_) (fun hc => ?_)
    · replace h := h.1 hc
      refine Ev_rn (q := (23, [(18, 400), (0, x1), (0, x2)], [(0, 0)], m2)) 1 rfl ?_
      exact Ev_zret rfl rfl (by decide) h
    · replace h := h.2 hc
      refine Ev_rn (q := (11, [(18, 400), (0, x1), (0, x2)], [(0, x1), (18, 400)], m2)) 2 rfl ?_
      obtain ⟨v3, m3, hc, h⟩ := h
      refine Ev_call (rest := []) rfl rfl (Nat.le_of_ble_eq_true rfl) hc ?_
      refine Ev_if rfl (fun hc => ?_) (fun hc => ?_)
      · replace h := h.1 hc
        refine Ev_rn (q := (23, [(18, 400), (0, x1), (0, x2)], [(0, 0)], m3)) 1 rfl ?_
        exact Ev_zret rfl rfl (by decide) h
      · replace h := h.2 hc
        refine Ev_rn (q := (16, [(18, 400), (0, x1), (0, x2)], [(0, x1), (18, 400), (18, 400)], m3)) 3 rfl ?_
        obtain ⟨v4, m4, hc, h⟩ := h
        refine Ev_call (rest := [(18, 400)]) rfl rfl (Nat.le_of_ble_eq_true rfl) hc ?_
        refine Ev_rn (q := (18, [(18, 400), (0, x1), (0, x2)], [(0, x2), (0, v4), (18, 400)], m4)) 1 rfl ?_
        obtain ⟨v5, m5, hc, h⟩ := h
        refine Ev_call (rest := []) rfl rfl (Nat.le_of_ble_eq_true rfl) hc ?_
        refine Ev_if rfl (fun hc => ?_) (fun hc => ?_)
        · replace h := h.1 hc
          refine Ev_rn (q := (23, [(18, 400), (0, x1), (0, x2)], [(0, 0)], m5)) 1 rfl ?_
          exact Ev_zret rfl rfl (by decide) h
        · replace h := h.2 hc
          refine Ev_rn (q := (23, [(18, 400), (0, x1), (0, x2)], [(0, 1)], m5)) 2 rfl ?_
          exact Ev_zret rfl rfl (by decide) h
theorem b_Mo_go {d : Nat} {r : Option Vv × Mm} {m : Mm} {x1 x2 : Int} (h : ∃ (v1 : Int) (m1 : Mm), Cl d k_Mo_canGo [(18, 400), (0, x1), (0, x2)] m (some (0, v1), m1) ∧ ((¬ v1 = 0 → ∃ (m2 : Mm), Cl d k_Mo_keep [(18, 400)] m1 (none, m2) ∧ (∃ (v3 : Int) (m3 : Mm), Cl d k_Mo_goNow [(18, 400), (0, x1), (0, x2)] m2 (some (0, v3), m3) ∧ (r = (some (0, v3), m3)))) ∧ (¬ (¬ v1 = 0) → r = (some (0, (-1)), m1)))) : Ev (d + 1) K_Mo_go 0 0 [(18, 400), (0, x1), (0, x2)] [] m r := by
  refine Ev_rn (q := (3, [(18, 400), (0, x1), (0, x2)], [(0, x2), (0, x1), (18, 400)], m)) 3 rfl ?_
  obtain ⟨v1, m1, hc, h⟩ := h
  refine Ev_call (rest := []) rfl rfl (Nat.le_of_ble_eq_true rfl) hc ?_
  refine Ev_if rfl (fun hc => ?_) (fun hc => ?_)
  · replace h := h.1 hc
    refine Ev_rn (q := (8, [(18, 400), (0, x1), (0, x2)], [(18, 400)], m1)) 1 rfl ?_
    obtain ⟨m2, hc, h⟩ := h
    refine Ev_call (rest := []) rfl rfl (Nat.le_of_ble_eq_true rfl) hc ?_
    refine Ev_rn (q := (12, [(18, 400), (0, x1), (0, x2)], [(0, x2), (0, x1), (18, 400)], m2)) 3 rfl ?_
    obtain ⟨v3, m3, hc, h⟩ := h
    refine Ev_call (rest := []) rfl rfl (Nat.le_of_ble_eq_true rfl) hc ?_
    exact Ev_ret rfl rfl h
  · replace h := h.2 hc
    refine Ev_rn (q := (6, [(18, 400), (0, x1), (0, x2)], [(0, (-1))], m1)) 1 rfl ?_
    exact Ev_ret rfl rfl h
theorem b_Mo_arePassed {d : Nat} {r : Option Vv × Mm} {m : Mm} {x1 : Int} (h : ∀ m1 : Mm, m1 = up m 400 25 0 → (Ev (d + 1) K_Mo_arePassed 2 5 [(18, 400), (0, x1), (0, 0)] [] m1 r)) : Ev (d + 1) K_Mo_arePassed 2 0 [(18, 400), (0, x1), (9, 0)] [] m r := by
  refine Ev_rn (q := (3, [(18, 400), (0, x1), (9, 0)], [], up m 400 25 0)) 3 rfl ?_
  generalize e1 : up m 400 25 0 = m1
  replace h := h m1 e1.symm
  refine Ev_rn (q := (5, [(18, 400), (0, x1), (0, 0)], [], m1)) 2 rfl ?_
  exact h
theorem b_Mo_arePassed_5 {d : Nat} {r : Option Vv × Mm} {m : Mm} {x1 x2 : Int} (h : (x1 ≤ x2 → r = (some (0, 1), m)) ∧ (¬ (x1 ≤ x2) → (¬ m 401 6 = 9999 → ∃ (m1 : Mm), Cl d k_Mo_keep [(18, 400)] m (none, m1) ∧ (∃ (m2 : Mm), Cl d k_Mo_pass [(18, 400)] m1 (none, m2) ∧ (Ev (d + 1) K_Mo_arePassed 2 5 [(18, 400), (0, x1), (0, w32 (x2 + 1))] [] m2 r))) ∧ (¬ (¬ m 401 6 = 9999) → r = (some (0, 0), m)))) : Ev (d + 1) K_Mo_arePassed 2 5 [(18, 400), (0, x1), (0, x2)] [] m r := by
  refine Ev_rn (q := (7, [(18, 400), (0, x1), (0, x2)], [(0, x1), (0, x2)], m)) 2 rfl ?_
  refine Ev_icmp rfl (fun hc => ?_) (fun hc => ?_)
  · replace h := h.1 hc
    refine Ev_rn (q := (23, [(18, 400), (0, x1), (0, x2)], [(0, 1)], m)) 1 rfl ?_
    exact Ev_zret rfl rfl (by decide) h
  · replace h := h.2 hc
    refine Ev_rn (q := (11, [(18, 400), (0, x1), (0, x2)], [(0, 6), (11828, 401)], m)) 3 rfl ?_
    refine Ev_iald (n := 1466) rfl (by decide) (by decide) ⟨by decide, by decide⟩ ?_
    refine Ev_rn (q := (13, [(18, 400), (0, x1), (0, x2)], [(0, 9999), (0, m 401 6)], m)) 1 rfl ?_
    refine Ev_icmp rfl (fun hc => ?_) (fun hc => ?_)
    · replace h := h.1 hc
      refine Ev_rn (q := (17, [(18, 400), (0, x1), (0, x2)], [(18, 400)], m)) 1 rfl ?_
      obtain ⟨m1, hc, h⟩ := h
      refine Ev_call (rest := []) rfl rfl (Nat.le_of_ble_eq_true rfl) hc ?_
      refine Ev_rn (q := (19, [(18, 400), (0, x1), (0, x2)], [(18, 400)], m1)) 1 rfl ?_
      obtain ⟨m2, hc, h⟩ := h
      refine Ev_call (rest := []) rfl rfl (Nat.le_of_ble_eq_true rfl) hc ?_
      refine Ev_rn (q := (5, [(18, 400), (0, x1), (0, w32 (x2 + 1))], [], m2)) 2 rfl ?_
      exact h
    · replace h := h.2 hc
      refine Ev_rn (q := (15, [(18, 400), (0, x1), (0, x2)], [(0, 0)], m)) 1 rfl ?_
      exact Ev_zret rfl rfl (by decide) h
theorem b_Mo_hour {d : Nat} {r : Option Vv × Mm} {m : Mm} {x1 : Int} (h : ∃ (v1 : Int) (m1 : Mm), Cl d k_Mo_isIn [(0, x1), (0, 1), (0, 60)] m (some (0, v1), m1) ∧ ((v1 = 0 → r = (some (0, (-1)), m1)) ∧ (¬ (v1 = 0) → (9999 < w32 ((m1 401 6) + x1) → r = (some (0, (-1)), m1)) ∧ (¬ (9999 < w32 ((m1 401 6) + x1)) → ∃ (v2 : Int) (m2 : Mm), Cl d k_Mo_arePassed [(18, 400), (0, x1)] m1 (some (0, v2), m2) ∧ ((v2 = 0 → r = (some (0, (-1)), m2)) ∧ (¬ (v2 = 0) → r = (some (0, m2 400 25), m2))))))) : Ev (d + 1) K_Mo_hour 0 0 [(18, 400), (0, x1)] [] m r := by
  refine Ev_rn (q := (3, [(18, 400), (0, x1)], [(0, 60), (0, 1), (0, x1)], m)) 3 rfl ?_
  obtain ⟨v1, m1, hc, h⟩ := h
  refine Ev_call (rest := []) rfl rfl (Nat.le_of_ble_eq_true rfl) hc ?_
  refine Ev_if rfl (fun hc => ?_) (fun hc => ?_)
  · replace h := h.1 hc
    refine Ev_rn (q := (21, [(18, 400), (0, x1)], [(0, (-1))], m1)) 1 rfl ?_
    exact Ev_ret rfl rfl h
  · replace h := h.2 hc
    refine Ev_rn (q := (8, [(18, 400), (0, x1)], [(0, 6), (11828, 401)], m1)) 3 rfl ?_
    refine Ev_iald (n := 1466) rfl (by decide) (by decide) ⟨by decide, by decide⟩ ?_
    refine Ev_rn (q := (12, [(18, 400), (0, x1)], [(0, 9999), (0, w32 ((m1 401 6) + x1))], m1)) 3 rfl ?_
    refine Ev_icmp rfl (fun hc => ?_) (fun hc => ?_)
    · replace h := h.1 hc
      refine Ev_rn (q := (21, [(18, 400), (0, x1)], [(0, (-1))], m1)) 1 rfl ?_
      exact Ev_ret rfl rfl h
    · replace h := h.2 hc
      refine Ev_rn (q := (15, [(18, 400), (0, x1)], [(0, x1), (18, 400)], m1)) 2 rfl ?_
      obtain ⟨v2, m2, hc, h⟩ := h
      refine Ev_call (rest := []) rfl rfl (Nat.le_of_ble_eq_true rfl) hc ?_
      refine Ev_if rfl (fun hc => ?_) (fun hc => ?_)
      · replace h := h.1 hc
        refine Ev_rn (q := (21, [(18, 400), (0, x1)], [(0, (-1))], m2)) 1 rfl ?_
        exact Ev_ret rfl rfl h
      · replace h := h.2 hc
        refine Ev_rn (q := (21, [(18, 400), (0, x1)], [(0, m2 400 25)], m2)) 3 rfl ?_
        exact Ev_ret rfl rfl h
theorem b_Mo_isPlayed {d : Nat} {r : Option Vv × Mm} {m : Mm} {x1 : Int} (h : (0 ≤ w32 (x1 + 1) ∧ w32 (x1 + 1) < 2724) ∧ ((0 ≤ w32 (x1 + 2) ∧ w32 (x1 + 2) < 2724) ∧ ((0 ≤ x1 ∧ x1 < 2724) ∧ ((m 403 x1 = 2 → ∃ (v1 : Int) (m1 : Mm), Cl d k_Mo_cow [(18, 400), (0, m 403 (w32 (x1 + 1))), (0, m 403 (w32 (x1 + 2)))] m (some (0, v1), m1) ∧ ((v1 < 0 → r = (some (0, 0), m1)) ∧ (¬ (v1 < 0) → r = (some (0, 1), m1)))) ∧ (¬ m 403 x1 = 2 → (m 403 x1 = 3 → ∃ (v2 : Int) (m2 : Mm), Cl d k_Mo_gate [(18, 400), (0, m 403 (w32 (x1 + 1))), (0, 1)] m (some (0, v2), m2) ∧ ((v2 = 0 ∨ v2 = 1) ∧ r = (some (0, v2), m2))) ∧ (¬ m 403 x1 = 3 → (m 403 x1 = 4 → ∃ (v3 : Int) (m3 : Mm), Cl d k_Mo_plant [(18, 400), (0, m 403 (w32 (x1 + 1)))] m (some (0, v3), m3) ∧ ((v3 = 0 ∨ v3 = 1) ∧ r = (some (0, v3), m3))) ∧ (¬ m 403 x1 = 4 → (m 403 x1 = 5 → ∃ (v4 : Int) (m4 : Mm), Cl d k_Mo_cut [(18, 400), (0, m 403 (w32 (x1 + 1)))] m (some (0, v4), m4) ∧ ((v4 = 0 ∨ v4 = 1) ∧ r = (some (0, v4), m4))) ∧ (¬ m 403 x1 = 5 → (m 403 x1 = 6 → ∃ (v5 : Int) (m5 : Mm), Cl d k_Mo_press [(18, 400), (0, m 403 (w32 (x1 + 1))), (0, m 403 (w32 (x1 + 2)))] m (some (0, v5), m5) ∧ ((v5 = 0 ∨ v5 = 1) ∧ r = (some (0, v5), m5))) ∧ (¬ m 403 x1 = 6 → (m 403 x1 = 7 → ∃ (v6 : Int) (m6 : Mm), Cl d k_Mo_go [(18, 400), (0, m 403 (w32 (x1 + 2))), (0, m 403 (w32 (x1 + 1)))] m (some (0, v6), m6) ∧ ((v6 < 0 → r = (some (0, 0), m6)) ∧ (¬ (v6 < 0) → r = (some (0, 1), m6)))) ∧ (¬ m 403 x1 = 7 → (m 403 x1 = 8 → ∃ (v7 : Int) (m7 : Mm), Cl d k_Mo_arePassed [(18, 400), (0, m 403 (w32 (x1 + 1)))] m (some (0, v7), m7) ∧ ((v7 = 0 ∨ v7 = 1) ∧ r = (some (0, v7), m7))) ∧ (¬ m 403 x1 = 8 → r = (some (0, 1), m)))))))))))) : Ev (d + 1) K_Mo_isPlayed 2 0 [(18, 400), (0, x1), (9, 0), (9, 0)] [] m r := by
  refine Ev_rn (q := (5, [(18, 400), (0, x1), (9, 0), (9, 0)], [(0, w32 (x1 + 1)), (21892, 403)], m)) 5 rfl ?_
  obtain ⟨hc, h⟩ := h
  refine Ev_iald (n := 2724) rfl (by decide) (by decide) hc ?_
  refine Ev_rn (q := (12, [(18, 400), (0, x1), (0, m 403 (w32 (x1 + 1))), (9, 0)], [(0, w32 (x1 + 2)), (21892, 403)], m)) 6 rfl ?_
  obtain ⟨hc, h⟩ := h
  refine Ev_iald (n := 2724) rfl (by decide) (by decide) hc ?_
  refine Ev_rn (q := (17, [(18, 400), (0, x1), (0, m 403 (w32 (x1 + 1))), (0, m 403 (w32 (x1 + 2)))], [(0, x1), (21892, 403)], m)) 4 rfl ?_
  obtain ⟨hc, h⟩ := h
  refine Ev_iald (n := 2724) rfl (by decide) (by decide) hc ?_
  refine Ev_tsw rfl ?_
  refine ⟨fun hc => ?_, fun hc => ?_⟩
  · replace h := h.1 hc
    refine Ev_rn (q := (22, [(18, 400), (0, x1), (0, m 403 (w32 (x1 + 1))), (0, m 403 (w32 (x1 + 2)))], [(0, m 403 (w32 (x1 + 2))), (0, m 403 (w32 (x1 + 1))), (18, 400)], m)) 3 rfl ?_
    obtain ⟨v1, m1, hc, h⟩ := h
    refine Ev_call (rest := []) rfl rfl (Nat.le_of_ble_eq_true rfl) hc ?_
    refine Ev_if rfl (fun hc => ?_) (fun hc => ?_)
    · replace h := h.1 hc
      refine Ev_rn (q := (27, [(18, 400), (0, x1), (0, m 403 (w32 (x1 + 1))), (0, m 403 (w32 (x1 + 2)))], [(0, 0)], m1)) 1 rfl ?_
      exact Ev_zret rfl rfl (by decide) h
    · replace h := h.2 hc
      refine Ev_rn (q := (27, [(18, 400), (0, x1), (0, m 403 (w32 (x1 + 1))), (0, m 403 (w32 (x1 + 2)))], [(0, 1)], m1)) 2 rfl ?_
      exact Ev_zret rfl rfl (by decide) h
  · replace h := h.2 hc
    refine ⟨fun hc => ?_, fun hc => ?_⟩
    · replace h := h.1 hc
      refine Ev_rn (q := (31, [(18, 400), (0, x1), (0, m 403 (w32 (x1 + 1))), (0, m 403 (w32 (x1 + 2)))], [(0, 1), (0, m 403 (w32 (x1 + 1))), (18, 400)], m)) 3 rfl ?_
      obtain ⟨v2, m2, hc, h⟩ := h
      refine Ev_call (rest := []) rfl rfl (Nat.le_of_ble_eq_true rfl) hc ?_
      exact Ev_zret rfl rfl h.1 h.2
    · replace h := h.2 hc
      refine ⟨fun hc => ?_, fun hc => ?_⟩
      · replace h := h.1 hc
        refine Ev_rn (q := (35, [(18, 400), (0, x1), (0, m 403 (w32 (x1 + 1))), (0, m 403 (w32 (x1 + 2)))], [(0, m 403 (w32 (x1 + 1))), (18, 400)], m)) 2 rfl ?_
        obtain ⟨v3, m3, hc, h⟩ := h
        refine Ev_call (rest := []) rfl rfl (Nat.le_of_ble_eq_true rfl) hc ?_
        exact Ev_zret rfl rfl h.1 h.2
      · replace h := h.2 hc
        refine ⟨fun hc => ?_, fun hc => ?_⟩
        · replace h := h.1 hc
          refine Ev_rn (q := (39, [(18, 400), (0, x1), (0, m 403 (w32 (x1 + 1))), (0, m 403 (w32 (x1 + 2)))], [(0, m 403 (w32 (x1 + 1))), (18, 400)], m)) 2 rfl ?_
          obtain ⟨v4, m4, hc, h⟩ := h
          refine Ev_call (rest := []) rfl rfl (Nat.le_of_ble_eq_true rfl) hc ?_
          exact Ev_zret rfl rfl h.1 h.2
        · replace h := h.2 hc
          refine ⟨fun hc => ?_, fun hc => ?_⟩
          · replace h := h.1 hc
            refine Ev_rn (q := (44, [(18, 400), (0, x1), (0, m 403 (w32 (x1 + 1))), (0, m 403 (w32 (x1 + 2)))], [(0, m 403 (w32 (x1 + 2))), (0, m 403 (w32 (x1 + 1))), (18, 400)], m)) 3 rfl ?_
            obtain ⟨v5, m5, hc, h⟩ := h
            refine Ev_call (rest := []) rfl rfl (Nat.le_of_ble_eq_true rfl) hc ?_
            exact Ev_zret rfl rfl h.1 h.2
          · replace h := h.2 hc
            refine ⟨fun hc => ?_, fun hc => ?_⟩
            · replace h := h.1 hc
              refine Ev_rn (q := (49, [(18, 400), (0, x1), (0, m 403 (w32 (x1 + 1))), (0, m 403 (w32 (x1 + 2)))], [(0, m 403 (w32 (x1 + 1))), (0, m 403 (w32 (x1 + 2))), (18, 400)], m)) 3 rfl ?_
              obtain ⟨v6, m6, hc, h⟩ := h
              refine Ev_call (rest := []) rfl rfl (Nat.le_of_ble_eq_true rfl) hc ?_
              refine Ev_if rfl (fun hc => ?_) (fun hc => ?_)
              · replace h := h.1 hc
                refine Ev_rn (q := (54, [(18, 400), (0, x1), (0, m 403 (w32 (x1 + 1))), (0, m 403 (w32 (x1 + 2)))], [(0, 0)], m6)) 1 rfl ?_
                exact Ev_zret rfl rfl (by decide) h
              · replace h := h.2 hc
                refine Ev_rn (q := (54, [(18, 400), (0, x1), (0, m 403 (w32 (x1 + 1))), (0, m 403 (w32 (x1 + 2)))], [(0, 1)], m6)) 2 rfl ?_
                exact Ev_zret rfl rfl (by decide) h
            · replace h := h.2 hc
              refine ⟨fun hc => ?_, fun hc => ?_⟩
              · replace h := h.1 hc
                refine Ev_rn (q := (57, [(18, 400), (0, x1), (0, m 403 (w32 (x1 + 1))), (0, m 403 (w32 (x1 + 2)))], [(0, m 403 (w32 (x1 + 1))), (18, 400)], m)) 2 rfl ?_
                obtain ⟨v7, m7, hc, h⟩ := h
                refine Ev_call (rest := []) rfl rfl (Nat.le_of_ble_eq_true rfl) hc ?_
                exact Ev_zret rfl rfl h.1 h.2
              · replace h := h.2 hc
                refine Ev_rn (q := (60, [(18, 400), (0, x1), (0, m 403 (w32 (x1 + 1))), (0, m 403 (w32 (x1 + 2)))], [(0, 1)], m)) 1 rfl ?_
                exact Ev_zret rfl rfl (by decide) h
theorem b_Mo_played {d : Nat} {r : Option Vv × Mm} {m : Mm} {x1 : Int} (h : ∃ (v1 : Int) (m1 : Mm), Cl d k_Mo_isIn [(0, x1), (0, 0), (0, w32 ((m 401 2) - 1))] m (some (0, v1), m1) ∧ ((¬ v1 = 0 → Ev (d + 1) K_Mo_played 0 14 [(18, 400), (0, x1), (0, 0)] [] m1 r) ∧ (¬ (¬ v1 = 0) → r = (some (0, (-2)), m1)))) : Ev (d + 1) K_Mo_played 0 0 [(18, 400), (0, x1), (9, 0)] [] m r := by
  refine Ev_rn (q := (5, [(18, 400), (0, x1), (9, 0)], [(0, 2), (11828, 401), (0, 0), (0, x1)], m)) 5 rfl ?_
  refine Ev_iald (n := 1466) rfl (by decide) (by decide) ⟨by decide, by decide⟩ ?_
  refine Ev_rn (q := (8, [(18, 400), (0, x1), (9, 0)], [(0, w32 ((m 401 2) - 1)), (0, 0), (0, x1)], m)) 2 rfl ?_
  obtain ⟨v1, m1, hc, h⟩ := h
  refine Ev_call (rest := []) rfl rfl (Nat.le_of_ble_eq_true rfl) hc ?_
  refine Ev_if rfl (fun hc => ?_) (fun hc => ?_)
  · replace h := h.1 hc
    refine Ev_rn (q := (14, [(18, 400), (0, x1), (0, 0)], [], m1)) 2 rfl ?_
    exact h
  · replace h := h.2 hc
    refine Ev_rn (q := (11, [(18, 400), (0, x1), (9, 0)], [(0, (-2))], m1)) 1 rfl ?_
    exact Ev_ret rfl rfl h
theorem b_Mo_played_14 {d : Nat} {r : Option Vv × Mm} {m : Mm} {x1 x2 : Int} (h : (0 ≤ w32 (681 * x1) ∧ w32 (681 * x1) < 2724) ∧ ((m 403 (w32 (681 * x1)) ≤ x2 → r = (some (0, (-1)), m)) ∧ (¬ (m 403 (w32 (681 * x1)) ≤ x2) → ∃ (v1 : Int) (m1 : Mm), Cl d k_Mo_isPlayed [(18, 400), (0, w32 ((w32 ((w32 (681 * x1)) + 1)) + (w32 (3 * x2))))] m (some (0, v1), m1) ∧ ((¬ v1 = 0 → Ev (d + 1) K_Mo_played 0 14 [(18, 400), (0, x1), (0, w32 (x2 + 1))] [] m1 r) ∧ (¬ (¬ v1 = 0) → r = (some (0, x2), m1)))))) : Ev (d + 1) K_Mo_played 0 14 [(18, 400), (0, x1), (0, x2)] [] m r := by
  refine Ev_rn (q := (20, [(18, 400), (0, x1), (0, x2)], [(0, w32 (681 * x1)), (21892, 403), (0, x2)], m)) 6 rfl ?_
  obtain ⟨hc, h⟩ := h
  refine Ev_iald (n := 2724) rfl (by decide) (by decide) hc ?_
  refine Ev_icmp rfl (fun hc => ?_) (fun hc => ?_)
  · replace h := h.1 hc
    refine Ev_rn (q := (39, [(18, 400), (0, x1), (0, x2)], [(0, (-1))], m)) 1 rfl ?_
    exact Ev_ret rfl rfl h
  · replace h := h.2 hc
    refine Ev_rn (q := (32, [(18, 400), (0, x1), (0, x2)], [(0, w32 ((w32 ((w32 (681 * x1)) + 1)) + (w32 (3 * x2)))), (18, 400)], m)) 10 rfl ?_
    obtain ⟨v1, m1, hc, h⟩ := h
    refine Ev_call (rest := []) rfl rfl (Nat.le_of_ble_eq_true rfl) hc ?_
    refine Ev_if rfl (fun hc => ?_) (fun hc => ?_)
    · replace h := h.1 hc
      refine Ev_rn (q := (14, [(18, 400), (0, x1), (0, w32 (x2 + 1))], [], m1)) 2 rfl ?_
      exact h
    · replace h := h.2 hc
      refine Ev_rn (q := (35, [(18, 400), (0, x1), (0, x2)], [(0, x2)], m1)) 1 rfl ?_
      exact Ev_ret rfl rfl h
theorem b_Mo_happens {d : Nat} {r : Option Vv × Mm} {m : Mm} {x1 : Int} (h : (irm x1 7 = 0 → ∃ (v1 : Int) (m1 : Mm), Cl d k_Mo_isThere [(18, 400), (0, irm (idv x1 7) 40)] m (some (0, v1), m1) ∧ ((¬ v1 = 0 → r = (none, m1)) ∧ (¬ (¬ v1 = 0) → ∃ (m2 : Mm), Cl d k_Mo_change [(18, 400), (0, irm (idv x1 7) 40)] m1 (none, m2) ∧ (r = (none, m2))))) ∧ (¬ irm x1 7 = 0 → (irm x1 7 = 1 → ∃ (v3 : Int) (m3 : Mm), Cl d k_Mo_isThere [(18, 400), (0, irm (idv x1 7) 40)] m (some (0, v3), m3) ∧ ((v3 = 0 → r = (none, m3)) ∧ (¬ (v3 = 0) → ∃ (m4 : Mm), Cl d k_Mo_change [(18, 400), (0, irm (idv x1 7) 40)] m3 (none, m4) ∧ (r = (none, m4))))) ∧ (¬ irm x1 7 = 1 → (irm x1 7 = 2 → (m 401 0 ≤ 0 → r = (none, m)) ∧ (¬ (m 401 0 ≤ 0) → (m 401 0 ≠ 0) ∧ (∃ (m5 : Mm), Cl d k_Mo_pressNow [(18, 400), (0, irm x1 (m 401 0)), (0, irm (idv x1 7) 8)] m (none, m5) ∧ (r = (none, m5))))) ∧ (¬ irm x1 7 = 2 → (irm x1 7 = 3 → (m 401 1 ≤ 0 → r = (none, m)) ∧ (¬ (m 401 1 ≤ 0) → (m 401 1 ≠ 0) ∧ (∃ (v6 : Int) (m6 : Mm), Cl d k_Mo_canGo [(18, 400), (0, irm x1 (m 401 1)), (0, irm (idv x1 7) 4)] m (some (0, v6), m6) ∧ ((v6 = 0 → r = (none, m6)) ∧ (¬ (v6 = 0) → (m6 401 1 ≠ 0) ∧ (∃ (v7 : Int) (m7 : Mm), Cl d k_Mo_goNow [(18, 400), (0, irm x1 (m6 401 1)), (0, irm (idv x1 7) 4)] m6 (some (0, v7), m7) ∧ ((0 ≤ v7 → r = (none, m7)) ∧ (¬ (0 ≤ v7) → r = (none, m7))))))))) ∧ (¬ irm x1 7 = 3 → (9999 ≤ m 401 6 → r = (none, m)) ∧ (¬ (9999 ≤ m 401 6) → ∃ (m8 : Mm), Cl d k_Mo_pass [(18, 400)] m (none, m8) ∧ (r = (none, m8)))))))) : Ev (d + 1) K_Mo_happens 3 0 [(18, 400), (0, x1), (9, 0)] [] m r := by
  refine Ev_rn (q := (2, [(18, 400), (0, x1), (9, 0)], [(0, 7), (0, x1)], m)) 2 rfl ?_
  refine Ev_idiv rfl (by decide) ?_
  refine Ev_rn (q := (4, [(18, 400), (0, x1), (9, 0)], [(0, 40), (0, idv x1 7)], m)) 1 rfl ?_
  refine Ev_irem rfl (by decide) ?_
  refine Ev_rn (q := (8, [(18, 400), (0, x1), (0, irm (idv x1 7) 40)], [(0, 7), (0, x1)], m)) 3 rfl ?_
  refine Ev_irem rfl (by decide) ?_
  refine Ev_tsw rfl ?_
  refine ⟨fun hc => ?_, fun hc => ?_⟩
  · replace h := h.1 hc
    refine Ev_rn (q := (12, [(18, 400), (0, x1), (0, irm (idv x1 7) 40)], [(0, irm (idv x1 7) 40), (18, 400)], m)) 2 rfl ?_
    obtain ⟨v1, m1, hc, h⟩ := h
    refine Ev_call (rest := []) rfl rfl (Nat.le_of_ble_eq_true rfl) hc ?_
    refine Ev_if rfl (fun hc => ?_) (fun hc => ?_)
    · replace h := h.1 hc
      exact Ev_ret rfl rfl h
    · replace h := h.2 hc
      refine Ev_rn (q := (16, [(18, 400), (0, x1), (0, irm (idv x1 7) 40)], [(0, irm (idv x1 7) 40), (18, 400)], m1)) 2 rfl ?_
      obtain ⟨m2, hc, h⟩ := h
      refine Ev_call (rest := []) rfl rfl (Nat.le_of_ble_eq_true rfl) hc ?_
      refine Ev_rn (q := (87, [(18, 400), (0, x1), (0, irm (idv x1 7) 40)], [], m2)) 1 rfl ?_
      exact Ev_ret rfl rfl h
  · replace h := h.2 hc
    refine ⟨fun hc => ?_, fun hc => ?_⟩
    · replace h := h.1 hc
      refine Ev_rn (q := (20, [(18, 400), (0, x1), (0, irm (idv x1 7) 40)], [(0, irm (idv x1 7) 40), (18, 400)], m)) 2 rfl ?_
      obtain ⟨v3, m3, hc, h⟩ := h
      refine Ev_call (rest := []) rfl rfl (Nat.le_of_ble_eq_true rfl) hc ?_
      refine Ev_if rfl (fun hc => ?_) (fun hc => ?_)
      · replace h := h.1 hc
        exact Ev_ret rfl rfl h
      · replace h := h.2 hc
        refine Ev_rn (q := (24, [(18, 400), (0, x1), (0, irm (idv x1 7) 40)], [(0, irm (idv x1 7) 40), (18, 400)], m3)) 2 rfl ?_
        obtain ⟨m4, hc, h⟩ := h
        refine Ev_call (rest := []) rfl rfl (Nat.le_of_ble_eq_true rfl) hc ?_
        refine Ev_rn (q := (87, [(18, 400), (0, x1), (0, irm (idv x1 7) 40)], [], m4)) 1 rfl ?_
        exact Ev_ret rfl rfl h
    · replace h := h.2 hc
      refine ⟨fun hc => ?_, fun hc => ?_⟩
      · replace h := h.1 hc
        refine Ev_rn (q := (29, [(18, 400), (0, x1), (0, irm (idv x1 7) 40)], [(0, 0), (11828, 401)], m)) 3 rfl ?_
        refine Ev_iald (n := 1466) rfl (by decide) (by decide) ⟨by decide, by decide⟩ ?_
        refine Ev_if rfl (fun hc => ?_) (fun hc => ?_)
        · replace h := h.1 hc
          exact Ev_ret rfl rfl h
        · replace h := h.2 hc
          refine Ev_rn (q := (36, [(18, 400), (0, x1), (0, irm (idv x1 7) 40)], [(0, 0), (11828, 401), (0, x1), (18, 400)], m)) 5 rfl ?_
          refine Ev_iald (n := 1466) rfl (by decide) (by decide) ⟨by decide, by decide⟩ ?_
          obtain ⟨hc, h⟩ := h
          refine Ev_irem rfl hc ?_
          refine Ev_rn (q := (40, [(18, 400), (0, x1), (0, irm (idv x1 7) 40)], [(0, 7), (0, x1), (0, irm x1 (m 401 0)), (18, 400)], m)) 2 rfl ?_
          refine Ev_idiv rfl (by decide) ?_
          refine Ev_rn (q := (42, [(18, 400), (0, x1), (0, irm (idv x1 7) 40)], [(0, 8), (0, idv x1 7), (0, irm x1 (m 401 0)), (18, 400)], m)) 1 rfl ?_
          refine Ev_irem rfl (by decide) ?_
          obtain ⟨m5, hc, h⟩ := h
          refine Ev_call (rest := []) rfl rfl (Nat.le_of_ble_eq_true rfl) hc ?_
          refine Ev_rn (q := (87, [(18, 400), (0, x1), (0, irm (idv x1 7) 40)], [], m5)) 1 rfl ?_
          exact Ev_ret rfl rfl h
      · replace h := h.2 hc
        refine ⟨fun hc => ?_, fun hc => ?_⟩
        · replace h := h.1 hc
          refine Ev_rn (q := (48, [(18, 400), (0, x1), (0, irm (idv x1 7) 40)], [(0, 1), (11828, 401)], m)) 3 rfl ?_
          refine Ev_iald (n := 1466) rfl (by decide) (by decide) ⟨by decide, by decide⟩ ?_
          refine Ev_if rfl (fun hc => ?_) (fun hc => ?_)
          · replace h := h.1 hc
            exact Ev_ret rfl rfl h
          · replace h := h.2 hc
            refine Ev_rn (q := (55, [(18, 400), (0, x1), (0, irm (idv x1 7) 40)], [(0, 1), (11828, 401), (0, x1), (18, 400)], m)) 5 rfl ?_
            refine Ev_iald (n := 1466) rfl (by decide) (by decide) ⟨by decide, by decide⟩ ?_
            obtain ⟨hc, h⟩ := h
            refine Ev_irem rfl hc ?_
            refine Ev_rn (q := (59, [(18, 400), (0, x1), (0, irm (idv x1 7) 40)], [(0, 7), (0, x1), (0, irm x1 (m 401 1)), (18, 400)], m)) 2 rfl ?_
            refine Ev_idiv rfl (by decide) ?_
            refine Ev_rn (q := (61, [(18, 400), (0, x1), (0, irm (idv x1 7) 40)], [(0, 4), (0, idv x1 7), (0, irm x1 (m 401 1)), (18, 400)], m)) 1 rfl ?_
            refine Ev_irem rfl (by decide) ?_
            obtain ⟨v6, m6, hc, h⟩ := h
            refine Ev_call (rest := []) rfl rfl (Nat.le_of_ble_eq_true rfl) hc ?_
            refine Ev_if rfl (fun hc => ?_) (fun hc => ?_)
            · replace h := h.1 hc
              exact Ev_ret rfl rfl h
            · replace h := h.2 hc
              refine Ev_rn (q := (69, [(18, 400), (0, x1), (0, irm (idv x1 7) 40)], [(0, 1), (11828, 401), (0, x1), (18, 400)], m6)) 5 rfl ?_
              refine Ev_iald (n := 1466) rfl (by decide) (by decide) ⟨by decide, by decide⟩ ?_
              obtain ⟨hc, h⟩ := h
              refine Ev_irem rfl hc ?_
              refine Ev_rn (q := (73, [(18, 400), (0, x1), (0, irm (idv x1 7) 40)], [(0, 7), (0, x1), (0, irm x1 (m6 401 1)), (18, 400)], m6)) 2 rfl ?_
              refine Ev_idiv rfl (by decide) ?_
              refine Ev_rn (q := (75, [(18, 400), (0, x1), (0, irm (idv x1 7) 40)], [(0, 4), (0, idv x1 7), (0, irm x1 (m6 401 1)), (18, 400)], m6)) 1 rfl ?_
              refine Ev_irem rfl (by decide) ?_
              obtain ⟨v7, m7, hc, h⟩ := h
              refine Ev_call (rest := []) rfl rfl (Nat.le_of_ble_eq_true rfl) hc ?_
              refine Ev_if rfl (fun hc => ?_) (fun hc => ?_)
              · replace h := h.1 hc
                exact Ev_ret rfl rfl h
              · replace h := h.2 hc
                exact Ev_ret rfl rfl h
        · replace h := h.2 hc
          refine Ev_rn (q := (82, [(18, 400), (0, x1), (0, irm (idv x1 7) 40)], [(0, 6), (11828, 401)], m)) 3 rfl ?_
          refine Ev_iald (n := 1466) rfl (by decide) (by decide) ⟨by decide, by decide⟩ ?_
          refine Ev_rn (q := (84, [(18, 400), (0, x1), (0, irm (idv x1 7) 40)], [(0, 9999), (0, m 401 6)], m)) 1 rfl ?_
          refine Ev_icmp rfl (fun hc => ?_) (fun hc => ?_)
          · replace h := h.1 hc
            exact Ev_ret rfl rfl h
          · replace h := h.2 hc
            refine Ev_rn (q := (86, [(18, 400), (0, x1), (0, irm (idv x1 7) 40)], [(18, 400)], m)) 1 rfl ?_
            obtain ⟨m8, hc, h⟩ := h
            refine Ev_call (rest := []) rfl rfl (Nat.le_of_ble_eq_true rfl) hc ?_
            exact Ev_ret rfl rfl h
theorem b_Mo_years {d : Nat} {r : Option Vv × Mm} {m : Mm} {x1 x2 : Int} (h : ∃ (v1 : Int) (m1 : Mm), Cl d k_Mo_isIn [(0, x1), (0, 0), (0, 9999)] m (some (0, v1), m1) ∧ ((v1 = 0 → r = (some (0, (-1)), m1)) ∧ (¬ (v1 = 0) → ∃ (v2 : Int) (m2 : Mm), Cl d k_Mo_isIn [(0, x2), (0, 1), (0, 40)] m1 (some (0, v2), m2) ∧ ((¬ v2 = 0 → ∃ (m3 : Mm), Cl d k_Mo_keep [(18, 400)] m2 (none, m3) ∧ (∀ m4 : Mm, m4 = up m3 401 7 (w32 ((w32 (x1 * 2)) + 331)) → (Ev (d + 1) K_Mo_years 0 25 [(18, 400), (0, x1), (0, x2), (0, 0), (9, 0)] [] m4 r))) ∧ (¬ (¬ v2 = 0) → r = (some (0, (-1)), m2)))))) : Ev (d + 1) K_Mo_years 0 0 [(18, 400), (0, x1), (0, x2), (9, 0), (9, 0)] [] m r := by
  refine Ev_rn (q := (3, [(18, 400), (0, x1), (0, x2), (9, 0), (9, 0)], [(0, 9999), (0, 0), (0, x1)], m)) 3 rfl ?_
  obtain ⟨v1, m1, hc, h⟩ := h
  refine Ev_call (rest := []) rfl rfl (Nat.le_of_ble_eq_true rfl) hc ?_
  refine Ev_if rfl (fun hc => ?_) (fun hc => ?_)
  · replace h := h.1 hc
    refine Ev_rn (q := (11, [(18, 400), (0, x1), (0, x2), (9, 0), (9, 0)], [(0, (-1))], m1)) 1 rfl ?_
    exact Ev_ret rfl rfl h
  · replace h := h.2 hc
    refine Ev_rn (q := (8, [(18, 400), (0, x1), (0, x2), (9, 0), (9, 0)], [(0, 40), (0, 1), (0, x2)], m1)) 3 rfl ?_
    obtain ⟨v2, m2, hc, h⟩ := h
    refine Ev_call (rest := []) rfl rfl (Nat.le_of_ble_eq_true rfl) hc ?_
    refine Ev_if rfl (fun hc => ?_) (fun hc => ?_)
    · replace h := h.1 hc
      refine Ev_rn (q := (13, [(18, 400), (0, x1), (0, x2), (9, 0), (9, 0)], [(18, 400)], m2)) 1 rfl ?_
      obtain ⟨m3, hc, h⟩ := h
      refine Ev_call (rest := []) rfl rfl (Nat.le_of_ble_eq_true rfl) hc ?_
      refine Ev_rn (q := (22, [(18, 400), (0, x1), (0, x2), (9, 0), (9, 0)], [(0, w32 ((w32 (x1 * 2)) + 331)), (0, 7), (11828, 401)], m3)) 8 rfl ?_
      refine Ev_iast (n := 1466) rfl (by decide) (by decide) ⟨by decide, by decide⟩ ?_
      generalize e4 : up m3 401 7 (w32 ((w32 (x1 * 2)) + 331)) = m4
      replace h := h m4 e4.symm
      refine Ev_rn (q := (25, [(18, 400), (0, x1), (0, x2), (0, 0), (9, 0)], [], m4)) 2 rfl ?_
      exact h
    · replace h := h.2 hc
      refine Ev_rn (q := (11, [(18, 400), (0, x1), (0, x2), (9, 0), (9, 0)], [(0, (-1))], m2)) 1 rfl ?_
      exact Ev_ret rfl rfl h
theorem b_Mo_years_25 {d : Nat} {r : Option Vv × Mm} {m : Mm} {x1 x2 x3 : Int} {u4 : Vv} (h : (x2 ≤ x3 → r = (some (0, m 401 6), m)) ∧ (¬ (x2 ≤ x3) → ∃ (m1 : Mm), Cl d k_Mo_anew [(18, 400)] m (none, m1) ∧ (∃ (m2 : Mm), Cl d k_Mo_happens [(18, 400), (0, m 401 7)] m1 (none, m2) ∧ (Ev (d + 1) K_Mo_years 0 25 [(18, 400), (0, x1), (0, x2), (0, w32 (x3 + 1)), (0, m 401 7)] [] m2 r)))) : Ev (d + 1) K_Mo_years 0 25 [(18, 400), (0, x1), (0, x2), (0, x3), u4] [] m r := by
  refine Ev_rn (q := (27, [(18, 400), (0, x1), (0, x2), (0, x3), u4], [(0, x2), (0, x3)], m)) 2 rfl ?_
  refine Ev_icmp rfl (fun hc => ?_) (fun hc => ?_)
  · replace h := h.1 hc
    refine Ev_rn (q := (43, [(18, 400), (0, x1), (0, x2), (0, x3), u4], [(0, 6), (11828, 401)], m)) 3 rfl ?_
    refine Ev_iald (n := 1466) rfl (by decide) (by decide) ⟨by decide, by decide⟩ ?_
    exact Ev_ret rfl rfl h
  · replace h := h.2 hc
    refine Ev_rn (q := (31, [(18, 400), (0, x1), (0, x2), (0, x3), u4], [(0, 7), (11828, 401)], m)) 3 rfl ?_
    refine Ev_iald (n := 1466) rfl (by decide) (by decide) ⟨by decide, by decide⟩ ?_
    refine Ev_rn (q := (34, [(18, 400), (0, x1), (0, x2), (0, x3), (0, m 401 7)], [(18, 400)], m)) 2 rfl ?_
    obtain ⟨m1, hc, h⟩ := h
    refine Ev_call (rest := []) rfl rfl (Nat.le_of_ble_eq_true rfl) hc ?_
    refine Ev_rn (q := (37, [(18, 400), (0, x1), (0, x2), (0, x3), (0, m 401 7)], [(0, m 401 7), (18, 400)], m1)) 2 rfl ?_
    obtain ⟨m2, hc, h⟩ := h
    refine Ev_call (rest := []) rfl rfl (Nat.le_of_ble_eq_true rfl) hc ?_
    refine Ev_rn (q := (25, [(18, 400), (0, x1), (0, x2), (0, w32 (x3 + 1)), (0, m 401 7)], [], m2)) 2 rfl ?_
    exact h
theorem b_Mo_of {d : Nat} {r : Option Vv × Mm} {m : Mm} {x1 x2 : Int} (h : ∃ (v1 : Int) (m1 : Mm), Cl d k_Mo_isCow [(18, 400), (0, x1)] m (some (0, v1), m1) ∧ ((¬ v1 = 0 → (¬ x2 = 0 → (¬ x2 = 1 → (¬ x2 = 2 → r = (some (0, (-100)), m1)) ∧ (¬ (¬ x2 = 2) → ∃ (v2 : Int) (m2 : Mm), Cl d k_Mo_isHome [(18, 400), (0, x1)] m1 (some (0, v2), m2) ∧ ((¬ v2 = 0 → r = (some (0, (-100)), m2)) ∧ (¬ (¬ v2 = 0) → ∃ (v3 : Int) (m3 : Mm), Cl d k_Mo_goesOf [(18, 400), (0, x1)] m2 (some (0, v3), m3) ∧ (r = (some (0, v3), m3)))))) ∧ (¬ (¬ x2 = 1) → ∃ (v4 : Int) (m4 : Mm), Cl d k_Mo_wayOf [(18, 400), (0, x1)] m1 (some (0, v4), m4) ∧ (r = (some (0, v4), m4)))) ∧ (¬ (¬ x2 = 0) → ∃ (v5 : Int) (m5 : Mm), Cl d k_Mo_cellOf [(18, 400), (0, x1)] m1 (some (0, v5), m5) ∧ (r = (some (0, v5), m5)))) ∧ (¬ (¬ v1 = 0) → r = (some (0, (-100)), m1)))) : Ev (d + 1) K_Mo_of 0 0 [(18, 400), (0, x1), (0, x2)] [] m r := by
  refine Ev_rn (q := (2, [(18, 400), (0, x1), (0, x2)], [(0, x1), (18, 400)], m)) 2 rfl ?_
  obtain ⟨v1, m1, hc, h⟩ := h
  refine Ev_call (rest := []) rfl rfl (Nat.le_of_ble_eq_true rfl) hc ?_
  refine Ev_if rfl (fun hc => ?_) (fun hc => ?_)
  · replace h := h.1 hc
    refine Ev_rn (q := (7, [(18, 400), (0, x1), (0, x2)], [(0, x2)], m1)) 1 rfl ?_
    refine Ev_if rfl (fun hc => ?_) (fun hc => ?_)
    · replace h := h.1 hc
      refine Ev_rn (q := (14, [(18, 400), (0, x1), (0, x2)], [(0, 1), (0, x2)], m1)) 2 rfl ?_
      refine Ev_icmp rfl (fun hc => ?_) (fun hc => ?_)
      · replace h := h.1 hc
        refine Ev_rn (q := (21, [(18, 400), (0, x1), (0, x2)], [(0, 2), (0, x2)], m1)) 2 rfl ?_
        refine Ev_icmp rfl (fun hc => ?_) (fun hc => ?_)
        · replace h := h.1 hc
          refine Ev_rn (q := (31, [(18, 400), (0, x1), (0, x2)], [(0, (-100))], m1)) 1 rfl ?_
          exact Ev_ret rfl rfl h
        · replace h := h.2 hc
          refine Ev_rn (q := (24, [(18, 400), (0, x1), (0, x2)], [(0, x1), (18, 400)], m1)) 2 rfl ?_
          obtain ⟨v2, m2, hc, h⟩ := h
          refine Ev_call (rest := []) rfl rfl (Nat.le_of_ble_eq_true rfl) hc ?_
          refine Ev_if rfl (fun hc => ?_) (fun hc => ?_)
          · replace h := h.1 hc
            refine Ev_rn (q := (31, [(18, 400), (0, x1), (0, x2)], [(0, (-100))], m2)) 1 rfl ?_
            exact Ev_ret rfl rfl h
          · replace h := h.2 hc
            refine Ev_rn (q := (28, [(18, 400), (0, x1), (0, x2)], [(0, x1), (18, 400)], m2)) 2 rfl ?_
            obtain ⟨v3, m3, hc, h⟩ := h
            refine Ev_call (rest := []) rfl rfl (Nat.le_of_ble_eq_true rfl) hc ?_
            refine Ev_rn (q := (31, [(18, 400), (0, x1), (0, x2)], [(0, v3)], m3)) 1 rfl ?_
            exact Ev_ret rfl rfl h
      · replace h := h.2 hc
        refine Ev_rn (q := (17, [(18, 400), (0, x1), (0, x2)], [(0, x1), (18, 400)], m1)) 2 rfl ?_
        obtain ⟨v4, m4, hc, h⟩ := h
        refine Ev_call (rest := []) rfl rfl (Nat.le_of_ble_eq_true rfl) hc ?_
        refine Ev_rn (q := (31, [(18, 400), (0, x1), (0, x2)], [(0, v4)], m4)) 1 rfl ?_
        exact Ev_ret rfl rfl h
    · replace h := h.2 hc
      refine Ev_rn (q := (10, [(18, 400), (0, x1), (0, x2)], [(0, x1), (18, 400)], m1)) 2 rfl ?_
      obtain ⟨v5, m5, hc, h⟩ := h
      refine Ev_call (rest := []) rfl rfl (Nat.le_of_ble_eq_true rfl) hc ?_
      refine Ev_rn (q := (31, [(18, 400), (0, x1), (0, x2)], [(0, v5)], m5)) 1 rfl ?_
      exact Ev_ret rfl rfl h
  · replace h := h.2 hc
    refine Ev_rn (q := (5, [(18, 400), (0, x1), (0, x2)], [(0, (-100))], m1)) 1 rfl ?_
    exact Ev_ret rfl rfl h
theorem b_Mo_cell {d : Nat} {r : Option Vv × Mm} {m : Mm} {x1 x2 : Int} (h : ∃ (v1 : Int) (m1 : Mm), Cl d k_Mo_isCell [(0, x1)] m (some (0, v1), m1) ∧ ((¬ v1 = 0 → (¬ x2 = 0 → (¬ x2 = 1 → (¬ x2 = 2 → (¬ x2 = 3 → r = (some (0, (-1)), m1)) ∧ (¬ (¬ x2 = 3) → ∃ (v2 : Int) (m2 : Mm), Cl d k_Mo_regionOf [(18, 400), (0, x1), (0, (-1))] m1 (some (0, v2), m2) ∧ (∃ (v3 : Int) (m3 : Mm), Cl d k_Mo_bits [(0, v2)] m2 (some (0, v3), m3) ∧ (r = (some (0, v3), m3))))) ∧ (¬ (¬ x2 = 2) → r = (some (0, ian (isr (m1 401 31) x1) 1), m1))) ∧ (¬ (¬ x2 = 1) → ∃ (v4 : Int) (m4 : Mm), Cl d k_Mo_openOf [(18, 400), (0, x1)] m1 (some (0, v4), m4) ∧ (r = (some (0, v4), m4)))) ∧ (¬ (¬ x2 = 0) → ∃ (v5 : Int) (m5 : Mm), Cl d k_Mo_aroundOf [(18, 400), (0, x1)] m1 (some (0, v5), m5) ∧ (r = (some (0, v5), m5)))) ∧ (¬ (¬ v1 = 0) → r = (some (0, (-1)), m1)))) : Ev (d + 1) K_Mo_cell 0 0 [(18, 400), (0, x1), (0, x2)] [] m r := by
  refine Ev_rn (q := (1, [(18, 400), (0, x1), (0, x2)], [(0, x1)], m)) 1 rfl ?_
  obtain ⟨v1, m1, hc, h⟩ := h
  refine Ev_call (rest := []) rfl rfl (Nat.le_of_ble_eq_true rfl) hc ?_
  refine Ev_if rfl (fun hc => ?_) (fun hc => ?_)
  · replace h := h.1 hc
    refine Ev_rn (q := (6, [(18, 400), (0, x1), (0, x2)], [(0, x2)], m1)) 1 rfl ?_
    refine Ev_if rfl (fun hc => ?_) (fun hc => ?_)
    · replace h := h.1 hc
      refine Ev_rn (q := (13, [(18, 400), (0, x1), (0, x2)], [(0, 1), (0, x2)], m1)) 2 rfl ?_
      refine Ev_icmp rfl (fun hc => ?_) (fun hc => ?_)
      · replace h := h.1 hc
        refine Ev_rn (q := (20, [(18, 400), (0, x1), (0, x2)], [(0, 2), (0, x2)], m1)) 2 rfl ?_
        refine Ev_icmp rfl (fun hc => ?_) (fun hc => ?_)
        · replace h := h.1 hc
          refine Ev_rn (q := (32, [(18, 400), (0, x1), (0, x2)], [(0, 3), (0, x2)], m1)) 2 rfl ?_
          refine Ev_icmp rfl (fun hc => ?_) (fun hc => ?_)
          · replace h := h.1 hc
            refine Ev_rn (q := (40, [(18, 400), (0, x1), (0, x2)], [(0, (-1))], m1)) 1 rfl ?_
            exact Ev_ret rfl rfl h
          · replace h := h.2 hc
            refine Ev_rn (q := (36, [(18, 400), (0, x1), (0, x2)], [(0, (-1)), (0, x1), (18, 400)], m1)) 3 rfl ?_
            obtain ⟨v2, m2, hc, h⟩ := h
            refine Ev_call (rest := []) rfl rfl (Nat.le_of_ble_eq_true rfl) hc ?_
            obtain ⟨v3, m3, hc, h⟩ := h
            refine Ev_call (rest := []) rfl rfl (Nat.le_of_ble_eq_true rfl) hc ?_
            refine Ev_rn (q := (40, [(18, 400), (0, x1), (0, x2)], [(0, v3)], m3)) 1 rfl ?_
            exact Ev_ret rfl rfl h
        · replace h := h.2 hc
          refine Ev_rn (q := (24, [(18, 400), (0, x1), (0, x2)], [(0, 31), (11828, 401)], m1)) 3 rfl ?_
          refine Ev_iald (n := 1466) rfl (by decide) (by decide) ⟨by decide, by decide⟩ ?_
          refine Ev_rn (q := (40, [(18, 400), (0, x1), (0, x2)], [(0, ian (isr (m1 401 31) x1) 1)], m1)) 5 rfl ?_
          exact Ev_ret rfl rfl h
      · replace h := h.2 hc
        refine Ev_rn (q := (16, [(18, 400), (0, x1), (0, x2)], [(0, x1), (18, 400)], m1)) 2 rfl ?_
        obtain ⟨v4, m4, hc, h⟩ := h
        refine Ev_call (rest := []) rfl rfl (Nat.le_of_ble_eq_true rfl) hc ?_
        refine Ev_rn (q := (40, [(18, 400), (0, x1), (0, x2)], [(0, v4)], m4)) 1 rfl ?_
        exact Ev_ret rfl rfl h
    · replace h := h.2 hc
      refine Ev_rn (q := (9, [(18, 400), (0, x1), (0, x2)], [(0, x1), (18, 400)], m1)) 2 rfl ?_
      obtain ⟨v5, m5, hc, h⟩ := h
      refine Ev_call (rest := []) rfl rfl (Nat.le_of_ble_eq_true rfl) hc ?_
      refine Ev_rn (q := (40, [(18, 400), (0, x1), (0, x2)], [(0, v5)], m5)) 1 rfl ?_
      exact Ev_ret rfl rfl h
  · replace h := h.2 hc
    refine Ev_rn (q := (4, [(18, 400), (0, x1), (0, x2)], [(0, (-1))], m1)) 1 rfl ?_
    exact Ev_ret rfl rfl h
theorem b_Mo_hedge {d : Nat} {r : Option Vv × Mm} {m : Mm} {x1 x2 : Int} (h : ∃ (v1 : Int) (m1 : Mm), Cl d k_Mo_isHedge [(0, x1)] m (some (0, v1), m1) ∧ ((¬ v1 = 0 → (¬ x2 = 0 → (¬ x2 = 1 → (¬ x2 = 2 → (¬ x2 = 3 → r = (some (0, (-1)), m1)) ∧ (¬ (¬ x2 = 3) → ∃ (v2 : Int) (m2 : Mm), Cl d k_Mo_frostsOf [(18, 400), (0, m1 401 3), (0, x1)] m1 (some (0, v2), m2) ∧ (r = (some (0, v2), m2)))) ∧ (¬ (¬ x2 = 2) → ∃ (v3 : Int) (m3 : Mm), Cl d k_Mo_eastOf [(0, x1)] m1 (some (0, v3), m3) ∧ (r = (some (0, v3), m3)))) ∧ (¬ (¬ x2 = 1) → ∃ (v4 : Int) (m4 : Mm), Cl d k_Mo_westOf [(0, x1)] m1 (some (0, v4), m4) ∧ (r = (some (0, v4), m4)))) ∧ (¬ (¬ x2 = 0) → ∃ (v5 : Int) (m5 : Mm), Cl d k_Mo_isThere [(18, 400), (0, x1)] m1 (some (0, v5), m5) ∧ ((v5 = 0 → r = (some (0, 0), m5)) ∧ (¬ (v5 = 0) → r = (some (0, 1), m5))))) ∧ (¬ (¬ v1 = 0) → r = (some (0, (-1)), m1)))) : Ev (d + 1) K_Mo_hedge 0 0 [(18, 400), (0, x1), (0, x2)] [] m r := by
  refine Ev_rn (q := (1, [(18, 400), (0, x1), (0, x2)], [(0, x1)], m)) 1 rfl ?_
  obtain ⟨v1, m1, hc, h⟩ := h
  refine Ev_call (rest := []) rfl rfl (Nat.le_of_ble_eq_true rfl) hc ?_
  refine Ev_if rfl (fun hc => ?_) (fun hc => ?_)
  · replace h := h.1 hc
    refine Ev_rn (q := (6, [(18, 400), (0, x1), (0, x2)], [(0, x2)], m1)) 1 rfl ?_
    refine Ev_if rfl (fun hc => ?_) (fun hc => ?_)
    · replace h := h.1 hc
      refine Ev_rn (q := (17, [(18, 400), (0, x1), (0, x2)], [(0, 1), (0, x2)], m1)) 2 rfl ?_
      refine Ev_icmp rfl (fun hc => ?_) (fun hc => ?_)
      · replace h := h.1 hc
        refine Ev_rn (q := (23, [(18, 400), (0, x1), (0, x2)], [(0, 2), (0, x2)], m1)) 2 rfl ?_
        refine Ev_icmp rfl (fun hc => ?_) (fun hc => ?_)
        · replace h := h.1 hc
          refine Ev_rn (q := (29, [(18, 400), (0, x1), (0, x2)], [(0, 3), (0, x2)], m1)) 2 rfl ?_
          refine Ev_icmp rfl (fun hc => ?_) (fun hc => ?_)
          · replace h := h.1 hc
            refine Ev_rn (q := (39, [(18, 400), (0, x1), (0, x2)], [(0, (-1))], m1)) 1 rfl ?_
            exact Ev_ret rfl rfl h
          · replace h := h.2 hc
            refine Ev_rn (q := (34, [(18, 400), (0, x1), (0, x2)], [(0, 3), (11828, 401), (18, 400)], m1)) 4 rfl ?_
            refine Ev_iald (n := 1466) rfl (by decide) (by decide) ⟨by decide, by decide⟩ ?_
            refine Ev_rn (q := (36, [(18, 400), (0, x1), (0, x2)], [(0, x1), (0, m1 401 3), (18, 400)], m1)) 1 rfl ?_
            obtain ⟨v2, m2, hc, h⟩ := h
            refine Ev_call (rest := []) rfl rfl (Nat.le_of_ble_eq_true rfl) hc ?_
            refine Ev_rn (q := (39, [(18, 400), (0, x1), (0, x2)], [(0, v2)], m2)) 1 rfl ?_
            exact Ev_ret rfl rfl h
        · replace h := h.2 hc
          refine Ev_rn (q := (25, [(18, 400), (0, x1), (0, x2)], [(0, x1)], m1)) 1 rfl ?_
          obtain ⟨v3, m3, hc, h⟩ := h
          refine Ev_call (rest := []) rfl rfl (Nat.le_of_ble_eq_true rfl) hc ?_
          refine Ev_rn (q := (39, [(18, 400), (0, x1), (0, x2)], [(0, v3)], m3)) 1 rfl ?_
          exact Ev_ret rfl rfl h
      · replace h := h.2 hc
        refine Ev_rn (q := (19, [(18, 400), (0, x1), (0, x2)], [(0, x1)], m1)) 1 rfl ?_
        obtain ⟨v4, m4, hc, h⟩ := h
        refine Ev_call (rest := []) rfl rfl (Nat.le_of_ble_eq_true rfl) hc ?_
        refine Ev_rn (q := (39, [(18, 400), (0, x1), (0, x2)], [(0, v4)], m4)) 1 rfl ?_
        exact Ev_ret rfl rfl h
    · replace h := h.2 hc
      refine Ev_rn (q := (9, [(18, 400), (0, x1), (0, x2)], [(0, x1), (18, 400)], m1)) 2 rfl ?_
      obtain ⟨v5, m5, hc, h⟩ := h
      refine Ev_call (rest := []) rfl rfl (Nat.le_of_ble_eq_true rfl) hc ?_
      refine Ev_if rfl (fun hc => ?_) (fun hc => ?_)
      · replace h := h.1 hc
        refine Ev_rn (q := (39, [(18, 400), (0, x1), (0, x2)], [(0, 0)], m5)) 2 rfl ?_
        exact Ev_ret rfl rfl h
      · replace h := h.2 hc
        refine Ev_rn (q := (39, [(18, 400), (0, x1), (0, x2)], [(0, 1)], m5)) 2 rfl ?_
        exact Ev_ret rfl rfl h
  · replace h := h.2 hc
    refine Ev_rn (q := (4, [(18, 400), (0, x1), (0, x2)], [(0, (-1))], m1)) 1 rfl ?_
    exact Ev_ret rfl rfl h
theorem b_Mo_between {d : Nat} {r : Option Vv × Mm} {m : Mm} {x1 x2 : Int} (h : ∃ (v1 : Int) (m1 : Mm), Cl d k_Mo_isCell [(0, x1)] m (some (0, v1), m1) ∧ ((v1 = 0 → r = (some (0, (-1)), m1)) ∧ (¬ (v1 = 0) → ∃ (v2 : Int) (m2 : Mm), Cl d k_Mo_isCell [(0, x2)] m1 (some (0, v2), m2) ∧ ((v2 = 0 → r = (some (0, (-1)), m2)) ∧ (¬ (v2 = 0) → ∃ (v3 : Int) (m3 : Mm), Cl d k_Mo_apart [(0, x1), (0, x2)] m2 (some (0, v3), m3) ∧ ((¬ v3 = 1 → r = (some (0, (-1)), m3)) ∧ (¬ (¬ v3 = 1) → ∃ (v4 : Int) (m4 : Mm), Cl d k_Mo_hedgeOf [(0, x1), (0, x2)] m3 (some (0, v4), m4) ∧ (r = (some (0, v4), m4))))))))) : Ev (d + 1) K_Mo_between 0 0 [(18, 400), (0, x1), (0, x2)] [] m r := by
  refine Ev_rn (q := (1, [(18, 400), (0, x1), (0, x2)], [(0, x1)], m)) 1 rfl ?_
  obtain ⟨v1, m1, hc, h⟩ := h
  refine Ev_call (rest := []) rfl rfl (Nat.le_of_ble_eq_true rfl) hc ?_
  refine Ev_if rfl (fun hc => ?_) (fun hc => ?_)
  · replace h := h.1 hc
    refine Ev_rn (q := (16, [(18, 400), (0, x1), (0, x2)], [(0, (-1))], m1)) 1 rfl ?_
    exact Ev_ret rfl rfl h
  · replace h := h.2 hc
    refine Ev_rn (q := (4, [(18, 400), (0, x1), (0, x2)], [(0, x2)], m1)) 1 rfl ?_
    obtain ⟨v2, m2, hc, h⟩ := h
    refine Ev_call (rest := []) rfl rfl (Nat.le_of_ble_eq_true rfl) hc ?_
    refine Ev_if rfl (fun hc => ?_) (fun hc => ?_)
    · replace h := h.1 hc
      refine Ev_rn (q := (16, [(18, 400), (0, x1), (0, x2)], [(0, (-1))], m2)) 1 rfl ?_
      exact Ev_ret rfl rfl h
    · replace h := h.2 hc
      refine Ev_rn (q := (8, [(18, 400), (0, x1), (0, x2)], [(0, x2), (0, x1)], m2)) 2 rfl ?_
      obtain ⟨v3, m3, hc, h⟩ := h
      refine Ev_call (rest := []) rfl rfl (Nat.le_of_ble_eq_true rfl) hc ?_
      refine Ev_rn (q := (10, [(18, 400), (0, x1), (0, x2)], [(0, 1), (0, v3)], m3)) 1 rfl ?_
      refine Ev_icmp rfl (fun hc => ?_) (fun hc => ?_)
      · replace h := h.1 hc
        refine Ev_rn (q := (16, [(18, 400), (0, x1), (0, x2)], [(0, (-1))], m3)) 1 rfl ?_
        exact Ev_ret rfl rfl h
      · replace h := h.2 hc
        refine Ev_rn (q := (13, [(18, 400), (0, x1), (0, x2)], [(0, x2), (0, x1)], m3)) 2 rfl ?_
        obtain ⟨v4, m4, hc, h⟩ := h
        refine Ev_call (rest := []) rfl rfl (Nat.le_of_ble_eq_true rfl) hc ?_
        refine Ev_rn (q := (16, [(18, 400), (0, x1), (0, x2)], [(0, v4)], m4)) 1 rfl ?_
        exact Ev_ret rfl rfl h
theorem b_Mo_is {d : Nat} {r : Option Vv × Mm} {m : Mm} {x1 : Int} (h : ∃ (v1 : Int) (m1 : Mm), Cl d k_Mo_isIn [(0, x1), (0, 0), (0, 3)] m (some (0, v1), m1) ∧ ((v1 = 0 → (¬ x1 = 4 → r = (some (0, (-2)), m1)) ∧ (¬ (¬ x1 = 4) → ∃ (v2 : Int) (m2 : Mm), Cl d k_Mo_allNow [(18, 400)] m1 (some (0, v2), m2) ∧ (r = (some (0, v2), m2)))) ∧ (¬ (v1 = 0) → (0 ≤ w32 (6 + x1) ∧ w32 (6 + x1) < 1466) ∧ (r = (some (0, m1 401 (w32 (6 + x1))), m1))))) : Ev (d + 1) K_Mo_is 0 0 [(18, 400), (0, x1)] [] m r := by
  refine Ev_rn (q := (3, [(18, 400), (0, x1)], [(0, 3), (0, 0), (0, x1)], m)) 3 rfl ?_
  obtain ⟨v1, m1, hc, h⟩ := h
  refine Ev_call (rest := []) rfl rfl (Nat.le_of_ble_eq_true rfl) hc ?_
  refine Ev_if rfl (fun hc => ?_) (fun hc => ?_)
  · replace h := h.1 hc
    refine Ev_rn (q := (14, [(18, 400), (0, x1)], [(0, 4), (0, x1)], m1)) 2 rfl ?_
    refine Ev_icmp rfl (fun hc => ?_) (fun hc => ?_)
    · replace h := h.1 hc
      refine Ev_rn (q := (19, [(18, 400), (0, x1)], [(0, (-2))], m1)) 1 rfl ?_
      exact Ev_ret rfl rfl h
    · replace h := h.2 hc
      refine Ev_rn (q := (16, [(18, 400), (0, x1)], [(18, 400)], m1)) 1 rfl ?_
      obtain ⟨v2, m2, hc, h⟩ := h
      refine Ev_call (rest := []) rfl rfl (Nat.le_of_ble_eq_true rfl) hc ?_
      refine Ev_rn (q := (19, [(18, 400), (0, x1)], [(0, v2)], m2)) 1 rfl ?_
      exact Ev_ret rfl rfl h
  · replace h := h.2 hc
    refine Ev_rn (q := (10, [(18, 400), (0, x1)], [(0, w32 (6 + x1)), (11828, 401)], m1)) 5 rfl ?_
    obtain ⟨hc, h⟩ := h
    refine Ev_iald (n := 1466) rfl (by decide) (by decide) hc ?_
    refine Ev_rn (q := (19, [(18, 400), (0, x1)], [(0, m1 401 (w32 (6 + x1)))], m1)) 1 rfl ?_
    exact Ev_ret rfl rfl h
theorem b_Mo_entry {d : Nat} {r : Option Vv × Mm} {m : Mm} {x1 x2 : Int} (h : (0 ≤ w32 (1436 + x1) ∧ w32 (1436 + x1) < 1466) ∧ ((¬ x2 = 0 → (¬ x2 = 1 → r = (some (0, irm (m 401 (w32 (1436 + x1))) 40), m)) ∧ (¬ (¬ x2 = 1) → r = (some (0, irm (idv (m 401 (w32 (1436 + x1))) 40) 2), m))) ∧ (¬ (¬ x2 = 0) → r = (some (0, idv (m 401 (w32 (1436 + x1))) 80), m)))) : Ev d K_Mo_entry 0 0 [(18, 400), (0, x1), (0, x2), (9, 0)] [] m r := by
  refine Ev_rn (q := (5, [(18, 400), (0, x1), (0, x2), (9, 0)], [(0, w32 (1436 + x1)), (11828, 401)], m)) 5 rfl ?_
  obtain ⟨hc, h⟩ := h
  refine Ev_iald (n := 1466) rfl (by decide) (by decide) hc ?_
  refine Ev_rn (q := (8, [(18, 400), (0, x1), (0, x2), (0, m 401 (w32 (1436 + x1)))], [(0, x2)], m)) 2 rfl ?_
  refine Ev_if rfl (fun hc => ?_) (fun hc => ?_)
  · replace h := h.1 hc
    refine Ev_rn (q := (15, [(18, 400), (0, x1), (0, x2), (0, m 401 (w32 (1436 + x1)))], [(0, 1), (0, x2)], m)) 2 rfl ?_
    refine Ev_icmp rfl (fun hc => ?_) (fun hc => ?_)
    · replace h := h.1 hc
      refine Ev_rn (q := (24, [(18, 400), (0, x1), (0, x2), (0, m 401 (w32 (1436 + x1)))], [(0, 40), (0, m 401 (w32 (1436 + x1)))], m)) 2 rfl ?_
      refine Ev_irem rfl (by decide) ?_
      exact Ev_ret rfl rfl h
    · replace h := h.2 hc
      refine Ev_rn (q := (18, [(18, 400), (0, x1), (0, x2), (0, m 401 (w32 (1436 + x1)))], [(0, 40), (0, m 401 (w32 (1436 + x1)))], m)) 2 rfl ?_
      refine Ev_idiv rfl (by decide) ?_
      refine Ev_rn (q := (20, [(18, 400), (0, x1), (0, x2), (0, m 401 (w32 (1436 + x1)))], [(0, 2), (0, idv (m 401 (w32 (1436 + x1))) 40)], m)) 1 rfl ?_
      refine Ev_irem rfl (by decide) ?_
      refine Ev_rn (q := (25, [(18, 400), (0, x1), (0, x2), (0, m 401 (w32 (1436 + x1)))], [(0, irm (idv (m 401 (w32 (1436 + x1))) 40) 2)], m)) 1 rfl ?_
      exact Ev_ret rfl rfl h
  · replace h := h.2 hc
    refine Ev_rn (q := (11, [(18, 400), (0, x1), (0, x2), (0, m 401 (w32 (1436 + x1)))], [(0, 80), (0, m 401 (w32 (1436 + x1)))], m)) 2 rfl ?_
    refine Ev_idiv rfl (by decide) ?_
    refine Ev_rn (q := (25, [(18, 400), (0, x1), (0, x2), (0, m 401 (w32 (1436 + x1)))], [(0, idv (m 401 (w32 (1436 + x1))) 80)], m)) 1 rfl ?_
    exact Ev_ret rfl rfl h
theorem b_Mo_book {d : Nat} {r : Option Vv × Mm} {m : Mm} {x1 x2 : Int} (h : (¬ x1 = (-1) → ∃ (v1 : Int) (m1 : Mm), Cl d k_Mo_isIn [(0, x1), (0, 0), (0, w32 ((m 401 10) - 1))] m (some (0, v1), m1) ∧ ((v1 = 0 → r = (some (0, (-2)), m1)) ∧ (¬ (v1 = 0) → ∃ (v2 : Int) (m2 : Mm), Cl d k_Mo_isIn [(0, x2), (0, 0), (0, 2)] m1 (some (0, v2), m2) ∧ ((v2 = 0 → r = (some (0, (-2)), m2)) ∧ (¬ (v2 = 0) → ∃ (v3 : Int) (m3 : Mm), Cl d k_Mo_entry [(18, 400), (0, x1), (0, x2)] m2 (some (0, v3), m3) ∧ (r = (some (0, v3), m3))))))) ∧ (¬ (¬ x1 = (-1)) → r = (some (0, m 401 10), m))) : Ev (d + 1) K_Mo_book 0 0 [(18, 400), (0, x1), (0, x2)] [] m r := by
  refine Ev_rn (q := (2, [(18, 400), (0, x1), (0, x2)], [(0, (-1)), (0, x1)], m)) 2 rfl ?_
  refine Ev_icmp rfl (fun hc => ?_) (fun hc => ?_)
  · replace h := h.1 hc
    refine Ev_rn (q := (13, [(18, 400), (0, x1), (0, x2)], [(0, 10), (11828, 401), (0, 0), (0, x1)], m)) 5 rfl ?_
    refine Ev_iald (n := 1466) rfl (by decide) (by decide) ⟨by decide, by decide⟩ ?_
    refine Ev_rn (q := (16, [(18, 400), (0, x1), (0, x2)], [(0, w32 ((m 401 10) - 1)), (0, 0), (0, x1)], m)) 2 rfl ?_
    obtain ⟨v1, m1, hc, h⟩ := h
    refine Ev_call (rest := []) rfl rfl (Nat.le_of_ble_eq_true rfl) hc ?_
    refine Ev_if rfl (fun hc => ?_) (fun hc => ?_)
    · replace h := h.1 hc
      refine Ev_rn (q := (29, [(18, 400), (0, x1), (0, x2)], [(0, (-2))], m1)) 1 rfl ?_
      exact Ev_ret rfl rfl h
    · replace h := h.2 hc
      refine Ev_rn (q := (21, [(18, 400), (0, x1), (0, x2)], [(0, 2), (0, 0), (0, x2)], m1)) 3 rfl ?_
      obtain ⟨v2, m2, hc, h⟩ := h
      refine Ev_call (rest := []) rfl rfl (Nat.le_of_ble_eq_true rfl) hc ?_
      refine Ev_if rfl (fun hc => ?_) (fun hc => ?_)
      · replace h := h.1 hc
        refine Ev_rn (q := (29, [(18, 400), (0, x1), (0, x2)], [(0, (-2))], m2)) 1 rfl ?_
        exact Ev_ret rfl rfl h
      · replace h := h.2 hc
        refine Ev_rn (q := (26, [(18, 400), (0, x1), (0, x2)], [(0, x2), (0, x1), (18, 400)], m2)) 3 rfl ?_
        obtain ⟨v3, m3, hc, h⟩ := h
        refine Ev_call (rest := []) rfl rfl (Nat.le_of_ble_eq_true rfl) hc ?_
        refine Ev_rn (q := (29, [(18, 400), (0, x1), (0, x2)], [(0, v3)], m3)) 1 rfl ?_
        exact Ev_ret rfl rfl h
  · replace h := h.2 hc
    refine Ev_rn (q := (6, [(18, 400), (0, x1), (0, x2)], [(0, 10), (11828, 401)], m)) 3 rfl ?_
    refine Ev_iald (n := 1466) rfl (by decide) (by decide) ⟨by decide, by decide⟩ ?_
    exact Ev_ret rfl rfl h
theorem b_Mo_ledger {d : Nat} {r : Option Vv × Mm} {m : Mm} {x1 : Int} (h : ∃ (v1 : Int) (m1 : Mm), Cl d k_Mo_isIn [(0, x1), (0, 0), (0, 1)] m (some (0, v1), m1) ∧ ((¬ v1 = 0 → Ev (d + 1) K_Mo_ledger 0 11 [(18, 400), (0, x1), (0, 0), (0, 0)] [] m1 r) ∧ (¬ (¬ v1 = 0) → r = (some (0, (-2)), m1)))) : Ev (d + 1) K_Mo_ledger 0 0 [(18, 400), (0, x1), (9, 0), (9, 0)] [] m r := by
  refine Ev_rn (q := (3, [(18, 400), (0, x1), (9, 0), (9, 0)], [(0, 1), (0, 0), (0, x1)], m)) 3 rfl ?_
  obtain ⟨v1, m1, hc, h⟩ := h
  refine Ev_call (rest := []) rfl rfl (Nat.le_of_ble_eq_true rfl) hc ?_
  refine Ev_if rfl (fun hc => ?_) (fun hc => ?_)
  · replace h := h.1 hc
    refine Ev_rn (q := (11, [(18, 400), (0, x1), (0, 0), (0, 0)], [], m1)) 4 rfl ?_
    exact h
  · replace h := h.2 hc
    refine Ev_rn (q := (6, [(18, 400), (0, x1), (9, 0), (9, 0)], [(0, (-2))], m1)) 1 rfl ?_
    exact Ev_ret rfl rfl h
theorem b_Mo_ledger_11 {d : Nat} {r : Option Vv × Mm} {m : Mm} {x1 x2 x3 : Int} (h : (m 401 10 ≤ x3 → r = (some (0, x2), m)) ∧ (¬ (m 401 10 ≤ x3) → ∃ (v1 : Int) (m1 : Mm), Cl d k_Mo_entry [(18, 400), (0, x3), (0, 1)] m (some (0, v1), m1) ∧ ((¬ v1 = x1 → Ev (d + 1) K_Mo_ledger 0 11 [(18, 400), (0, x1), (0, w32 (x2 + 0)), (0, w32 (x3 + 1))] [] m1 r) ∧ (¬ (¬ v1 = x1) → Ev (d + 1) K_Mo_ledger 0 11 [(18, 400), (0, x1), (0, w32 (x2 + 1)), (0, w32 (x3 + 1))] [] m1 r)))) : Ev (d + 1) K_Mo_ledger 0 11 [(18, 400), (0, x1), (0, x2), (0, x3)] [] m r := by
  refine Ev_rn (q := (15, [(18, 400), (0, x1), (0, x2), (0, x3)], [(0, 10), (11828, 401), (0, x3)], m)) 4 rfl ?_
  refine Ev_iald (n := 1466) rfl (by decide) (by decide) ⟨by decide, by decide⟩ ?_
  refine Ev_icmp rfl (fun hc => ?_) (fun hc => ?_)
  · replace h := h.1 hc
    refine Ev_rn (q := (32, [(18, 400), (0, x1), (0, x2), (0, x3)], [(0, x2)], m)) 1 rfl ?_
    exact Ev_ret rfl rfl h
  · replace h := h.2 hc
    refine Ev_rn (q := (21, [(18, 400), (0, x1), (0, x2), (0, x3)], [(0, 1), (0, x3), (18, 400), (0, x2)], m)) 4 rfl ?_
    obtain ⟨v1, m1, hc, h⟩ := h
    refine Ev_call (rest := [(0, x2)]) rfl rfl (Nat.le_of_ble_eq_true rfl) hc ?_
    refine Ev_rn (q := (23, [(18, 400), (0, x1), (0, x2), (0, x3)], [(0, x1), (0, v1), (0, x2)], m1)) 1 rfl ?_
    refine Ev_icmp rfl (fun hc => ?_) (fun hc => ?_)
    · replace h := h.1 hc
      refine Ev_rn (q := (11, [(18, 400), (0, x1), (0, w32 (x2 + 0)), (0, w32 (x3 + 1))], [], m1)) 5 rfl ?_
      exact h
    · replace h := h.2 hc
      refine Ev_rn (q := (11, [(18, 400), (0, x1), (0, w32 (x2 + 1)), (0, w32 (x3 + 1))], [], m1)) 6 rfl ?_
      exact h
theorem b_Mo_thickest {d : Nat} {r : Option Vv × Mm} {m : Mm} (h : Ev (d + 1) K_Mo_thickest 0 4 [(18, 400), (0, 0), (0, 1)] [] m r) : Ev (d + 1) K_Mo_thickest 0 0 [(18, 400), (9, 0), (9, 0)] [] m r := by
  refine Ev_rn (q := (4, [(18, 400), (0, 0), (0, 1)], [], m)) 4 rfl ?_
  exact h
theorem b_Mo_thickest_4 {d : Nat} {r : Option Vv × Mm} {m : Mm} {x1 x2 : Int} (h : (25 ≤ x2 → r = (some (0, x1), m)) ∧ (¬ (25 ≤ x2) → ∃ (v1 : Int) (m1 : Mm), Cl d k_Mo_aroundOf [(18, 400), (0, x2)] m (some (0, v1), m1) ∧ (∃ (v2 : Int) (m2 : Mm), Cl d k_Mo_aroundOf [(18, 400), (0, x1)] m1 (some (0, v2), m2) ∧ ((v1 ≤ v2 → Ev (d + 1) K_Mo_thickest 0 4 [(18, 400), (0, x1), (0, w32 (x2 + 1))] [] m2 r) ∧ (¬ (v1 ≤ v2) → Ev (d + 1) K_Mo_thickest 0 4 [(18, 400), (0, x2), (0, w32 (x2 + 1))] [] m2 r))))) : Ev (d + 1) K_Mo_thickest 0 4 [(18, 400), (0, x1), (0, x2)] [] m r := by
  refine Ev_rn (q := (6, [(18, 400), (0, x1), (0, x2)], [(0, 25), (0, x2)], m)) 2 rfl ?_
  refine Ev_icmp rfl (fun hc => ?_) (fun hc => ?_)
  · replace h := h.1 hc
    refine Ev_rn (q := (19, [(18, 400), (0, x1), (0, x2)], [(0, x1)], m)) 1 rfl ?_
    exact Ev_ret rfl rfl h
  · replace h := h.2 hc
    refine Ev_rn (q := (9, [(18, 400), (0, x1), (0, x2)], [(0, x2), (18, 400)], m)) 2 rfl ?_
    obtain ⟨v1, m1, hc, h⟩ := h
    refine Ev_call (rest := []) rfl rfl (Nat.le_of_ble_eq_true rfl) hc ?_
    refine Ev_rn (q := (12, [(18, 400), (0, x1), (0, x2)], [(0, x1), (18, 400), (0, v1)], m1)) 2 rfl ?_
    obtain ⟨v2, m2, hc, h⟩ := h
    refine Ev_call (rest := [(0, v1)]) rfl rfl (Nat.le_of_ble_eq_true rfl) hc ?_
    refine Ev_icmp rfl (fun hc => ?_) (fun hc => ?_)
    · replace h := h.1 hc
      refine Ev_rn (q := (4, [(18, 400), (0, x1), (0, w32 (x2 + 1))], [], m2)) 2 rfl ?_
      exact h
    · replace h := h.2 hc
      refine Ev_rn (q := (4, [(18, 400), (0, x2), (0, w32 (x2 + 1))], [], m2)) 4 rfl ?_
      exact h
theorem b_Mo_foretold {d : Nat} {r : Option Vv × Mm} {m : Mm} {x1 x2 : Int} (h : ∃ (v1 : Int) (m1 : Mm), Cl d k_Mo_isIn [(0, x1), (0, 1), (0, 60)] m (some (0, v1), m1) ∧ ((v1 = 0 → r = (some (0, (-2)), m1)) ∧ (¬ (v1 = 0) → ∃ (v2 : Int) (m2 : Mm), Cl d k_Mo_isCow [(18, 400), (0, x2)] m1 (some (0, v2), m2) ∧ ((¬ v2 = 0 → Ev (d + 1) K_Mo_foretold 0 13 [(18, 400), (0, x1), (0, x2), (0, 6), (9, 0)] [] m2 r) ∧ (¬ (¬ v2 = 0) → r = (some (0, (-2)), m2)))))) : Ev (d + 1) K_Mo_foretold 0 0 [(18, 400), (0, x1), (0, x2), (9, 0), (9, 0)] [] m r := by
  refine Ev_rn (q := (3, [(18, 400), (0, x1), (0, x2), (9, 0), (9, 0)], [(0, 60), (0, 1), (0, x1)], m)) 3 rfl ?_
  obtain ⟨v1, m1, hc, h⟩ := h
  refine Ev_call (rest := []) rfl rfl (Nat.le_of_ble_eq_true rfl) hc ?_
  refine Ev_if rfl (fun hc => ?_) (fun hc => ?_)
  · replace h := h.1 hc
    refine Ev_rn (q := (10, [(18, 400), (0, x1), (0, x2), (9, 0), (9, 0)], [(0, (-2))], m1)) 1 rfl ?_
    exact Ev_ret rfl rfl h
  · replace h := h.2 hc
    refine Ev_rn (q := (7, [(18, 400), (0, x1), (0, x2), (9, 0), (9, 0)], [(0, x2), (18, 400)], m1)) 2 rfl ?_
    obtain ⟨v2, m2, hc, h⟩ := h
    refine Ev_call (rest := []) rfl rfl (Nat.le_of_ble_eq_true rfl) hc ?_
    refine Ev_if rfl (fun hc => ?_) (fun hc => ?_)
    · replace h := h.1 hc
      refine Ev_rn (q := (13, [(18, 400), (0, x1), (0, x2), (0, 6), (9, 0)], [], m2)) 2 rfl ?_
      exact h
    · replace h := h.2 hc
      refine Ev_rn (q := (10, [(18, 400), (0, x1), (0, x2), (9, 0), (9, 0)], [(0, (-2))], m2)) 1 rfl ?_
      exact Ev_ret rfl rfl h
theorem b_Mo_foretold_13 {d : Nat} {r : Option Vv × Mm} {m : Mm} {x1 x2 x3 : Int} {u4 : Vv} (h : (21 ≤ x3 → ∀ m1 : Mm, m1 = up m 400 24 0 → (Ev (d + 1) K_Mo_foretold 0 31 [(18, 400), (0, x1), (0, x2), (0, 0), u4] [] m1 r)) ∧ (¬ (21 ≤ x3) → (0 ≤ x3 ∧ x3 < 1466) ∧ ((0 ≤ x3 ∧ x3 < 21) ∧ (∀ m2 : Mm, m2 = up m 410 x3 (m 401 x3) → (Ev (d + 1) K_Mo_foretold 0 13 [(18, 400), (0, x1), (0, x2), (0, w32 (x3 + 1)), u4] [] m2 r))))) : Ev (d + 1) K_Mo_foretold 0 13 [(18, 400), (0, x1), (0, x2), (0, x3), u4] [] m r := by
  refine Ev_rn (q := (15, [(18, 400), (0, x1), (0, x2), (0, x3), u4], [(0, 21), (0, x3)], m)) 2 rfl ?_
  refine Ev_icmp rfl (fun hc => ?_) (fun hc => ?_)
  · replace h := h.1 hc
    refine Ev_rn (q := (28, [(18, 400), (0, x1), (0, x2), (0, x3), u4], [(0, 0), (18, 400)], m)) 2 rfl ?_
    refine Ev_ptz (c := 8) (k := 24) rfl (by decide) (by decide) ?_
    generalize e1 : up m 400 24 0 = m1
    replace h := h m1 e1.symm
    refine Ev_rn (q := (31, [(18, 400), (0, x1), (0, x2), (0, 0), u4], [], m1)) 2 rfl ?_
    exact h
  · replace h := h.2 hc
    refine Ev_rn (q := (22, [(18, 400), (0, x1), (0, x2), (0, x3), u4], [(0, x3), (11828, 401), (0, x3), (268, 410)], m)) 6 rfl ?_
    obtain ⟨hc, h⟩ := h
    refine Ev_iald (n := 1466) rfl (by decide) (by decide) hc ?_
    obtain ⟨hc, h⟩ := h
    refine Ev_iast (n := 21) rfl (by decide) (by decide) hc ?_
    generalize e2 : up m 410 x3 (m 401 x3) = m2
    replace h := h m2 e2.symm
    refine Ev_rn (q := (13, [(18, 400), (0, x1), (0, x2), (0, w32 (x3 + 1)), u4], [], m2)) 2 rfl ?_
    exact h
theorem b_Mo_foretold_31 {d : Nat} {r : Option Vv × Mm} {m : Mm} {x1 x2 x3 : Int} {u4 : Vv} (h : (x1 ≤ x3 → ∃ (v1 : Int) (m1 : Mm), Cl d k_Mo_cellOf [(18, 400), (0, x2)] m (some (0, v1), m1) ∧ (Ev (d + 1) K_Mo_foretold 0 50 [(18, 400), (0, x1), (0, x2), (0, v1), (0, 6)] [] m1 r)) ∧ (¬ (x1 ≤ x3) → (9999 ≤ m 401 6 → Ev (d + 1) K_Mo_foretold 0 31 [(18, 400), (0, x1), (0, x2), (0, w32 (x3 + 1)), u4] [] m r) ∧ (¬ (9999 ≤ m 401 6) → ∃ (m2 : Mm), Cl d k_Mo_pass [(18, 400)] m (none, m2) ∧ (Ev (d + 1) K_Mo_foretold 0 31 [(18, 400), (0, x1), (0, x2), (0, w32 (x3 + 1)), u4] [] m2 r)))) : Ev (d + 1) K_Mo_foretold 0 31 [(18, 400), (0, x1), (0, x2), (0, x3), u4] [] m r := by
  refine Ev_rn (q := (33, [(18, 400), (0, x1), (0, x2), (0, x3), u4], [(0, x1), (0, x3)], m)) 2 rfl ?_
  refine Ev_icmp rfl (fun hc => ?_) (fun hc => ?_)
  · replace h := h.1 hc
    refine Ev_rn (q := (46, [(18, 400), (0, x1), (0, x2), (0, x3), u4], [(0, x2), (18, 400)], m)) 2 rfl ?_
    obtain ⟨v1, m1, hc, h⟩ := h
    refine Ev_call (rest := []) rfl rfl (Nat.le_of_ble_eq_true rfl) hc ?_
    refine Ev_rn (q := (50, [(18, 400), (0, x1), (0, x2), (0, v1), (0, 6)], [], m1)) 3 rfl ?_
    exact h
  · replace h := h.2 hc
    refine Ev_rn (q := (37, [(18, 400), (0, x1), (0, x2), (0, x3), u4], [(0, 6), (11828, 401)], m)) 3 rfl ?_
    refine Ev_iald (n := 1466) rfl (by decide) (by decide) ⟨by decide, by decide⟩ ?_
    refine Ev_rn (q := (39, [(18, 400), (0, x1), (0, x2), (0, x3), u4], [(0, 9999), (0, m 401 6)], m)) 1 rfl ?_
    refine Ev_icmp rfl (fun hc => ?_) (fun hc => ?_)
    · replace h := h.1 hc
      refine Ev_rn (q := (31, [(18, 400), (0, x1), (0, x2), (0, w32 (x3 + 1)), u4], [], m)) 2 rfl ?_
      exact h
    · replace h := h.2 hc
      refine Ev_rn (q := (41, [(18, 400), (0, x1), (0, x2), (0, x3), u4], [(18, 400)], m)) 1 rfl ?_
      obtain ⟨m2, hc, h⟩ := h
      refine Ev_call (rest := []) rfl rfl (Nat.le_of_ble_eq_true rfl) hc ?_
      refine Ev_rn (q := (31, [(18, 400), (0, x1), (0, x2), (0, w32 (x3 + 1)), u4], [], m2)) 2 rfl ?_
      exact h
theorem b_Mo_foretold_50 {d : Nat} {r : Option Vv × Mm} {m : Mm} {x1 x2 x3 x4 : Int} (h : (21 ≤ x4 → ∀ m1 : Mm, m1 = up m 400 24 1 → (r = (some (0, x3), m1))) ∧ (¬ (21 ≤ x4) → (0 ≤ x4 ∧ x4 < 21) ∧ ((0 ≤ x4 ∧ x4 < 1466) ∧ (∀ m2 : Mm, m2 = up m 401 x4 (m 410 x4) → (Ev (d + 1) K_Mo_foretold 0 50 [(18, 400), (0, x1), (0, x2), (0, x3), (0, w32 (x4 + 1))] [] m2 r))))) : Ev (d + 1) K_Mo_foretold 0 50 [(18, 400), (0, x1), (0, x2), (0, x3), (0, x4)] [] m r := by
  refine Ev_rn (q := (52, [(18, 400), (0, x1), (0, x2), (0, x3), (0, x4)], [(0, 21), (0, x4)], m)) 2 rfl ?_
  refine Ev_icmp rfl (fun hc => ?_) (fun hc => ?_)
  · replace h := h.1 hc
    refine Ev_rn (q := (65, [(18, 400), (0, x1), (0, x2), (0, x3), (0, x4)], [(0, 1), (18, 400)], m)) 2 rfl ?_
    refine Ev_ptz (c := 8) (k := 24) rfl (by decide) (by decide) ?_
    generalize e1 : up m 400 24 1 = m1
    replace h := h m1 e1.symm
    refine Ev_rn (q := (67, [(18, 400), (0, x1), (0, x2), (0, x3), (0, x4)], [(0, x3)], m1)) 1 rfl ?_
    exact Ev_ret rfl rfl h
  · replace h := h.2 hc
    refine Ev_rn (q := (59, [(18, 400), (0, x1), (0, x2), (0, x3), (0, x4)], [(0, x4), (268, 410), (0, x4), (11828, 401)], m)) 6 rfl ?_
    obtain ⟨hc, h⟩ := h
    refine Ev_iald (n := 21) rfl (by decide) (by decide) hc ?_
    obtain ⟨hc, h⟩ := h
    refine Ev_iast (n := 1466) rfl (by decide) (by decide) hc ?_
    generalize e2 : up m 401 x4 (m 410 x4) = m2
    replace h := h m2 e2.symm
    refine Ev_rn (q := (50, [(18, 400), (0, x1), (0, x2), (0, x3), (0, w32 (x4 + 1))], [], m2)) 2 rfl ?_
    exact h
theorem b_Mo_layFar {d : Nat} {r : Option Vv × Mm} {m : Mm} {x1 x2 : Int} (h : Ev (d + 1) K_Mo_layFar 3 2 [(18, 400), (0, x1), (0, x2), (0, 0), (9, 0), (9, 0), (9, 0), (9, 0)] [] m r) : Ev (d + 1) K_Mo_layFar 3 0 [(18, 400), (0, x1), (0, x2), (9, 0), (9, 0), (9, 0), (9, 0), (9, 0)] [] m r := by
  refine Ev_rn (q := (2, [(18, 400), (0, x1), (0, x2), (0, 0), (9, 0), (9, 0), (9, 0), (9, 0)], [], m)) 2 rfl ?_
  exact h
theorem b_Mo_layFar_2 {d : Nat} {r : Option Vv × Mm} {m : Mm} {x1 x2 x3 : Int} {u4 u5 u6 u7 : Vv} (h : (25 ≤ x3 → Ev (d + 1) K_Mo_layFar 3 19 [(18, 400), (0, x1), (0, x2), (0, 1), u4, u5, u6, u7] [] m r) ∧ (¬ (25 ≤ x3) → (¬ x3 = x1 → (0 ≤ x3 ∧ x3 < 25) ∧ (∀ m1 : Mm, m1 = up m 411 x3 1000000 → (Ev (d + 1) K_Mo_layFar 3 2 [(18, 400), (0, x1), (0, x2), (0, w32 (x3 + 1)), u4, u5, u6, u7] [] m1 r))) ∧ (¬ (¬ x3 = x1) → (0 ≤ x3 ∧ x3 < 25) ∧ (∀ m2 : Mm, m2 = up m 411 x3 0 → (Ev (d + 1) K_Mo_layFar 3 2 [(18, 400), (0, x1), (0, x2), (0, w32 (x3 + 1)), u4, u5, u6, u7] [] m2 r))))) : Ev (d + 1) K_Mo_layFar 3 2 [(18, 400), (0, x1), (0, x2), (0, x3), u4, u5, u6, u7] [] m r := by
  refine Ev_rn (q := (4, [(18, 400), (0, x1), (0, x2), (0, x3), u4, u5, u6, u7], [(0, 25), (0, x3)], m)) 2 rfl ?_
  refine Ev_icmp rfl (fun hc => ?_) (fun hc => ?_)
  · replace h := h.1 hc
    refine Ev_rn (q := (19, [(18, 400), (0, x1), (0, x2), (0, 1), u4, u5, u6, u7], [], m)) 2 rfl ?_
    exact h
  · replace h := h.2 hc
    refine Ev_rn (q := (10, [(18, 400), (0, x1), (0, x2), (0, x3), u4, u5, u6, u7], [(0, x1), (0, x3), (0, x3), (300, 411)], m)) 5 rfl ?_
    refine Ev_icmp rfl (fun hc => ?_) (fun hc => ?_)
    · replace h := h.1 hc
      refine Ev_rn (q := (14, [(18, 400), (0, x1), (0, x2), (0, x3), u4, u5, u6, u7], [(0, 1000000), (0, x3), (300, 411)], m)) 1 rfl ?_
      obtain ⟨hc, h⟩ := h
      refine Ev_iast (n := 25) rfl (by decide) (by decide) hc ?_
      generalize e1 : up m 411 x3 1000000 = m1
      replace h := h m1 e1.symm
      refine Ev_rn (q := (2, [(18, 400), (0, x1), (0, x2), (0, w32 (x3 + 1)), u4, u5, u6, u7], [], m1)) 2 rfl ?_
      exact h
    · replace h := h.2 hc
      refine Ev_rn (q := (14, [(18, 400), (0, x1), (0, x2), (0, x3), u4, u5, u6, u7], [(0, 0), (0, x3), (300, 411)], m)) 2 rfl ?_
      obtain ⟨hc, h⟩ := h
      refine Ev_iast (n := 25) rfl (by decide) (by decide) hc ?_
      generalize e2 : up m 411 x3 0 = m2
      replace h := h m2 e2.symm
      refine Ev_rn (q := (2, [(18, 400), (0, x1), (0, x2), (0, w32 (x3 + 1)), u4, u5, u6, u7], [], m2)) 2 rfl ?_
      exact h
theorem b_Mo_layFar_19 {d : Nat} {r : Option Vv × Mm} {m : Mm} {x1 x2 x3 : Int} {u4 u5 u6 u7 : Vv} (h : (x3 = 0 → r = (none, m)) ∧ (¬ (x3 = 0) → Ev (d + 1) K_Mo_layFar 3 25 [(18, 400), (0, x1), (0, x2), (0, 0), (0, 0), u5, u6, u7] [] m r)) : Ev (d + 1) K_Mo_layFar 3 19 [(18, 400), (0, x1), (0, x2), (0, x3), u4, u5, u6, u7] [] m r := by
  refine Ev_rn (q := (20, [(18, 400), (0, x1), (0, x2), (0, x3), u4, u5, u6, u7], [(0, x3)], m)) 1 rfl ?_
  refine Ev_if rfl (fun hc => ?_) (fun hc => ?_)
  · replace h := h.1 hc
    exact Ev_ret rfl rfl h
  · replace h := h.2 hc
    refine Ev_rn (q := (25, [(18, 400), (0, x1), (0, x2), (0, 0), (0, 0), u5, u6, u7], [], m)) 4 rfl ?_
    exact h
theorem b_Mo_layFar_25 {d : Nat} {r : Option Vv × Mm} {m : Mm} {x1 x2 x3 x4 : Int} {u5 u6 u7 : Vv} (h : (25 ≤ x4 → Ev (d + 1) K_Mo_layFar 3 19 [(18, 400), (0, x1), (0, x2), (0, x3), (0, x4), u5, u6, u7] [] m r) ∧ (¬ (25 ≤ x4) → Ev (d + 1) K_Mo_layFar 3 30 [(18, 400), (0, x1), (0, x2), (0, x3), (0, x4), (0, 0), u6, u7] [] m r)) : Ev (d + 1) K_Mo_layFar 3 25 [(18, 400), (0, x1), (0, x2), (0, x3), (0, x4), u5, u6, u7] [] m r := by
  refine Ev_rn (q := (27, [(18, 400), (0, x1), (0, x2), (0, x3), (0, x4), u5, u6, u7], [(0, 25), (0, x4)], m)) 2 rfl ?_
  refine Ev_icmp rfl (fun hc => ?_) (fun hc => ?_)
  · replace h := h.1 hc
    refine Ev_rn (q := (19, [(18, 400), (0, x1), (0, x2), (0, x3), (0, x4), u5, u6, u7], [], m)) 1 rfl ?_
    exact h
  · replace h := h.2 hc
    refine Ev_rn (q := (30, [(18, 400), (0, x1), (0, x2), (0, x3), (0, x4), (0, 0), u6, u7], [], m)) 2 rfl ?_
    exact h
theorem b_Mo_layFar_30 {d : Nat} {r : Option Vv × Mm} {m : Mm} {x1 x2 x3 x4 x5 : Int} {u6 u7 : Vv} (h : (4 ≤ x5 → Ev (d + 1) K_Mo_layFar 3 25 [(18, 400), (0, x1), (0, x2), (0, x3), (0, w32 (x4 + 1)), (0, x5), u6, u7] [] m r) ∧ (¬ (4 ≤ x5) → ∃ (v1 : Int) (m1 : Mm), Cl d k_Mo_beside [(0, x4), (0, x5)] m (some (0, v1), m1) ∧ ((v1 = (-1) → Ev (d + 1) K_Mo_layFar 3 30 [(18, 400), (0, x1), (0, x2), (0, x3), (0, x4), (0, w32 (x5 + 1)), (0, v1), u7] [] m1 r) ∧ (¬ (v1 = (-1)) → (¬ x2 = 0 → Ev (d + 1) K_Mo_layFar 3 48 [(18, 400), (0, x1), (0, x2), (0, x3), (0, x4), (0, x5), (0, v1), u7] [] m1 r) ∧ (¬ (¬ x2 = 0) → ∃ (v2 : Int) (m2 : Mm), Cl d k_Mo_isOpen [(18, 400), (0, x4), (0, x5)] m1 (some (0, v2), m2) ∧ ((¬ v2 = 0 → Ev (d + 1) K_Mo_layFar 3 48 [(18, 400), (0, x1), (0, x2), (0, x3), (0, x4), (0, x5), (0, v1), u7] [] m2 r) ∧ (¬ (¬ v2 = 0) → Ev (d + 1) K_Mo_layFar 3 30 [(18, 400), (0, x1), (0, x2), (0, x3), (0, x4), (0, w32 (x5 + 1)), (0, v1), u7] [] m2 r))))))) : Ev (d + 1) K_Mo_layFar 3 30 [(18, 400), (0, x1), (0, x2), (0, x3), (0, x4), (0, x5), u6, u7] [] m r := by
  refine Ev_rn (q := (32, [(18, 400), (0, x1), (0, x2), (0, x3), (0, x4), (0, x5), u6, u7], [(0, 4), (0, x5)], m)) 2 rfl ?_
  refine Ev_icmp rfl (fun hc => ?_) (fun hc => ?_)
  · replace h := h.1 hc
    refine Ev_rn (q := (25, [(18, 400), (0, x1), (0, x2), (0, x3), (0, w32 (x4 + 1)), (0, x5), u6, u7], [], m)) 2 rfl ?_
    exact h
  · replace h := h.2 hc
    refine Ev_rn (q := (35, [(18, 400), (0, x1), (0, x2), (0, x3), (0, x4), (0, x5), u6, u7], [(0, x5), (0, x4)], m)) 2 rfl ?_
    obtain ⟨v1, m1, hc, h⟩ := h
    refine Ev_call (rest := []) rfl rfl (Nat.le_of_ble_eq_true rfl) hc ?_
    refine Ev_rn (q := (39, [(18, 400), (0, x1), (0, x2), (0, x3), (0, x4), (0, x5), (0, v1), u7], [(0, (-1)), (0, v1)], m1)) 3 rfl ?_
    refine Ev_icmp rfl (fun hc => ?_) (fun hc => ?_)
    · replace h := h.1 hc
      refine Ev_rn (q := (30, [(18, 400), (0, x1), (0, x2), (0, x3), (0, x4), (0, w32 (x5 + 1)), (0, v1), u7], [], m1)) 2 rfl ?_
      exact h
    · replace h := h.2 hc
      refine Ev_rn (q := (41, [(18, 400), (0, x1), (0, x2), (0, x3), (0, x4), (0, x5), (0, v1), u7], [(0, x2)], m1)) 1 rfl ?_
      refine Ev_if rfl (fun hc => ?_) (fun hc => ?_)
      · replace h := h.1 hc
        exact h
      · replace h := h.2 hc
        refine Ev_rn (q := (45, [(18, 400), (0, x1), (0, x2), (0, x3), (0, x4), (0, x5), (0, v1), u7], [(0, x5), (0, x4), (18, 400)], m1)) 3 rfl ?_
        obtain ⟨v2, m2, hc, h⟩ := h
        refine Ev_call (rest := []) rfl rfl (Nat.le_of_ble_eq_true rfl) hc ?_
        refine Ev_if rfl (fun hc => ?_) (fun hc => ?_)
        · replace h := h.1 hc
          exact h
        · replace h := h.2 hc
          refine Ev_rn (q := (30, [(18, 400), (0, x1), (0, x2), (0, x3), (0, x4), (0, w32 (x5 + 1)), (0, v1), u7], [], m2)) 3 rfl ?_
          exact h
theorem b_Mo_layFar_48 {d : Nat} {r : Option Vv × Mm} {m : Mm} {x1 x2 x3 x4 x5 x6 : Int} {u7 : Vv} (h : (0 ≤ x4 ∧ x4 < 25) ∧ ((x2 = 0 → (0 ≤ x6 ∧ x6 < 25) ∧ ((w32 ((m 411 x4) + 1) < m 411 x6 → (0 ≤ x6 ∧ x6 < 25) ∧ (∀ m1 : Mm, m1 = up m 411 x6 (w32 ((m 411 x4) + 1)) → (Ev (d + 1) K_Mo_layFar 3 30 [(18, 400), (0, x1), (0, x2), (0, 1), (0, x4), (0, w32 (x5 + 1)), (0, x6), (0, w32 ((m 411 x4) + 1))] [] m1 r))) ∧ (¬ (w32 ((m 411 x4) + 1) < m 411 x6) → Ev (d + 1) K_Mo_layFar 3 30 [(18, 400), (0, x1), (0, x2), (0, x3), (0, x4), (0, w32 (x5 + 1)), (0, x6), (0, w32 ((m 411 x4) + 1))] [] m r))) ∧ (¬ (x2 = 0) → ∃ (v2 : Int) (m2 : Mm), Cl d k_Mo_isOpen [(18, 400), (0, x4), (0, x5)] m (some (0, v2), m2) ∧ ((v2 = 0 → (0 ≤ x6 ∧ x6 < 25) ∧ ((w32 ((m 411 x4) + 1) < m2 411 x6 → (0 ≤ x6 ∧ x6 < 25) ∧ (∀ m3 : Mm, m3 = up m2 411 x6 (w32 ((m 411 x4) + 1)) → (Ev (d + 1) K_Mo_layFar 3 30 [(18, 400), (0, x1), (0, x2), (0, 1), (0, x4), (0, w32 (x5 + 1)), (0, x6), (0, w32 ((m 411 x4) + 1))] [] m3 r))) ∧ (¬ (w32 ((m 411 x4) + 1) < m2 411 x6) → Ev (d + 1) K_Mo_layFar 3 30 [(18, 400), (0, x1), (0, x2), (0, x3), (0, x4), (0, w32 (x5 + 1)), (0, x6), (0, w32 ((m 411 x4) + 1))] [] m2 r))) ∧ (¬ (v2 = 0) → (0 ≤ x6 ∧ x6 < 25) ∧ ((w32 ((m 411 x4) + 0) < m2 411 x6 → (0 ≤ x6 ∧ x6 < 25) ∧ (∀ m4 : Mm, m4 = up m2 411 x6 (w32 ((m 411 x4) + 0)) → (Ev (d + 1) K_Mo_layFar 3 30 [(18, 400), (0, x1), (0, x2), (0, 1), (0, x4), (0, w32 (x5 + 1)), (0, x6), (0, w32 ((m 411 x4) + 0))] [] m4 r))) ∧ (¬ (w32 ((m 411 x4) + 0) < m2 411 x6) → Ev (d + 1) K_Mo_layFar 3 30 [(18, 400), (0, x1), (0, x2), (0, x3), (0, x4), (0, w32 (x5 + 1)), (0, x6), (0, w32 ((m 411 x4) + 0))] [] m2 r))))))) : Ev (d + 1) K_Mo_layFar 3 48 [(18, 400), (0, x1), (0, x2), (0, x3), (0, x4), (0, x5), (0, x6), u7] [] m r := by
  refine Ev_rn (q := (51, [(18, 400), (0, x1), (0, x2), (0, x3), (0, x4), (0, x5), (0, x6), u7], [(0, x4), (300, 411)], m)) 3 rfl ?_
  obtain ⟨hc, h⟩ := h
  refine Ev_iald (n := 25) rfl (by decide) (by decide) hc ?_
  refine Ev_rn (q := (53, [(18, 400), (0, x1), (0, x2), (0, x3), (0, x4), (0, x5), (0, x6), u7], [(0, x2), (0, m 411 x4)], m)) 1 rfl ?_
  refine Ev_if rfl (fun hc => ?_) (fun hc => ?_)
  · replace h := h.1 hc
    refine Ev_rn (q := (68, [(18, 400), (0, x1), (0, x2), (0, x3), (0, x4), (0, x5), (0, x6), (0, w32 ((m 411 x4) + 1))], [(0, x6), (300, 411), (0, w32 ((m 411 x4) + 1))], m)) 7 rfl ?_
    obtain ⟨hc, h⟩ := h
    refine Ev_iald (n := 25) rfl (by decide) (by decide) hc ?_
    refine Ev_icmp rfl (fun hc => ?_) (fun hc => ?_)
    · replace h := h.1 hc
      refine Ev_rn (q := (75, [(18, 400), (0, x1), (0, x2), (0, x3), (0, x4), (0, x5), (0, x6), (0, w32 ((m 411 x4) + 1))], [(0, w32 ((m 411 x4) + 1)), (0, x6), (300, 411)], m)) 4 rfl ?_
      obtain ⟨hc, h⟩ := h
      refine Ev_iast (n := 25) rfl (by decide) (by decide) hc ?_
      generalize e1 : up m 411 x6 (w32 ((m 411 x4) + 1)) = m1
      replace h := h m1 e1.symm
      refine Ev_rn (q := (30, [(18, 400), (0, x1), (0, x2), (0, 1), (0, x4), (0, w32 (x5 + 1)), (0, x6), (0, w32 ((m 411 x4) + 1))], [], m1)) 4 rfl ?_
      exact h
    · replace h := h.2 hc
      refine Ev_rn (q := (30, [(18, 400), (0, x1), (0, x2), (0, x3), (0, x4), (0, w32 (x5 + 1)), (0, x6), (0, w32 ((m 411 x4) + 1))], [], m)) 3 rfl ?_
      exact h
  · replace h := h.2 hc
    refine Ev_rn (q := (57, [(18, 400), (0, x1), (0, x2), (0, x3), (0, x4), (0, x5), (0, x6), u7], [(0, x5), (0, x4), (18, 400), (0, m 411 x4)], m)) 3 rfl ?_
    obtain ⟨v2, m2, hc, h⟩ := h
    refine Ev_call (rest := [(0, m 411 x4)]) rfl rfl (Nat.le_of_ble_eq_true rfl) hc ?_
    refine Ev_if rfl (fun hc => ?_) (fun hc => ?_)
    · replace h := h.1 hc
      refine Ev_rn (q := (68, [(18, 400), (0, x1), (0, x2), (0, x3), (0, x4), (0, x5), (0, x6), (0, w32 ((m 411 x4) + 1))], [(0, x6), (300, 411), (0, w32 ((m 411 x4) + 1))], m2)) 7 rfl ?_
      obtain ⟨hc, h⟩ := h
      refine Ev_iald (n := 25) rfl (by decide) (by decide) hc ?_
      refine Ev_icmp rfl (fun hc => ?_) (fun hc => ?_)
      · replace h := h.1 hc
        refine Ev_rn (q := (75, [(18, 400), (0, x1), (0, x2), (0, x3), (0, x4), (0, x5), (0, x6), (0, w32 ((m 411 x4) + 1))], [(0, w32 ((m 411 x4) + 1)), (0, x6), (300, 411)], m2)) 4 rfl ?_
        obtain ⟨hc, h⟩ := h
        refine Ev_iast (n := 25) rfl (by decide) (by decide) hc ?_
        generalize e3 : up m2 411 x6 (w32 ((m 411 x4) + 1)) = m3
        replace h := h m3 e3.symm
        refine Ev_rn (q := (30, [(18, 400), (0, x1), (0, x2), (0, 1), (0, x4), (0, w32 (x5 + 1)), (0, x6), (0, w32 ((m 411 x4) + 1))], [], m3)) 4 rfl ?_
        exact h
      · replace h := h.2 hc
        refine Ev_rn (q := (30, [(18, 400), (0, x1), (0, x2), (0, x3), (0, x4), (0, w32 (x5 + 1)), (0, x6), (0, w32 ((m 411 x4) + 1))], [], m2)) 3 rfl ?_
        exact h
    · replace h := h.2 hc
      refine Ev_rn (q := (68, [(18, 400), (0, x1), (0, x2), (0, x3), (0, x4), (0, x5), (0, x6), (0, w32 ((m 411 x4) + 0))], [(0, x6), (300, 411), (0, w32 ((m 411 x4) + 0))], m2)) 8 rfl ?_
      obtain ⟨hc, h⟩ := h
      refine Ev_iald (n := 25) rfl (by decide) (by decide) hc ?_
      refine Ev_icmp rfl (fun hc => ?_) (fun hc => ?_)
      · replace h := h.1 hc
        refine Ev_rn (q := (75, [(18, 400), (0, x1), (0, x2), (0, x3), (0, x4), (0, x5), (0, x6), (0, w32 ((m 411 x4) + 0))], [(0, w32 ((m 411 x4) + 0)), (0, x6), (300, 411)], m2)) 4 rfl ?_
        obtain ⟨hc, h⟩ := h
        refine Ev_iast (n := 25) rfl (by decide) (by decide) hc ?_
        generalize e4 : up m2 411 x6 (w32 ((m 411 x4) + 0)) = m4
        replace h := h m4 e4.symm
        refine Ev_rn (q := (30, [(18, 400), (0, x1), (0, x2), (0, 1), (0, x4), (0, w32 (x5 + 1)), (0, x6), (0, w32 ((m 411 x4) + 0))], [], m4)) 4 rfl ?_
        exact h
      · replace h := h.2 hc
        refine Ev_rn (q := (30, [(18, 400), (0, x1), (0, x2), (0, x3), (0, x4), (0, w32 (x5 + 1)), (0, x6), (0, w32 ((m 411 x4) + 0))], [], m2)) 3 rfl ?_
        exact h
theorem b_Mo_areCells {d : Nat} {r : Option Vv × Mm} {m : Mm} {x0 x1 : Int} (h : ∃ (v1 : Int) (m1 : Mm), Cl d k_Mo_isCell [(0, x0)] m (some (0, v1), m1) ∧ ((v1 = 0 → r = (some (0, 0), m1)) ∧ (¬ (v1 = 0) → ∃ (v2 : Int) (m2 : Mm), Cl d k_Mo_isCell [(0, x1)] m1 (some (0, v2), m2) ∧ ((v2 = 0 → r = (some (0, 0), m2)) ∧ (¬ (v2 = 0) → r = (some (0, 1), m2)))))) : Ev (d + 1) K_Mo_areCells 2 0 [(0, x0), (0, x1)] [] m r := by
  refine Ev_rn (q := (1, [(0, x0), (0, x1)], [(0, x0)], m)) 1 rfl ?_
  obtain ⟨v1, m1, hc, h⟩ := h
  refine Ev_call (rest := []) rfl rfl (Nat.le_of_ble_eq_true rfl) hc ?_
  refine Ev_if rfl (fun hc => ?_) (fun hc => ?_)
  · replace h := h.1 hc
    refine Ev_rn (q := (9, [(0, x0), (0, x1)], [(0, 0)], m1)) 1 rfl ?_
    exact Ev_zret rfl rfl (by decide) h
  · replace h := h.2 hc
    refine Ev_rn (q := (4, [(0, x0), (0, x1)], [(0, x1)], m1)) 1 rfl ?_
    obtain ⟨v2, m2, hc, h⟩ := h
    refine Ev_call (rest := []) rfl rfl (Nat.le_of_ble_eq_true rfl) hc ?_
    refine Ev_if rfl (fun hc => ?_) (fun hc => ?_)
    · replace h := h.1 hc
      refine Ev_rn (q := (9, [(0, x0), (0, x1)], [(0, 0)], m2)) 1 rfl ?_
      exact Ev_zret rfl rfl (by decide) h
    · replace h := h.2 hc
      refine Ev_rn (q := (9, [(0, x0), (0, x1)], [(0, 1)], m2)) 2 rfl ?_
      exact Ev_zret rfl rfl (by decide) h
theorem b_Mo_miles {d : Nat} {r : Option Vv × Mm} {m : Mm} {x1 x2 : Int} (h : ∃ (v1 : Int) (m1 : Mm), Cl d k_Mo_areCells [(0, x1), (0, x2)] m (some (0, v1), m1) ∧ ((¬ v1 = 0 → ∃ (m2 : Mm), Cl d k_Mo_layFar [(18, 400), (0, x2), (0, 0)] m1 (none, m2) ∧ ((0 ≤ x1 ∧ x1 < 25) ∧ ((¬ m2 411 x1 = 1000000 → (0 ≤ x1 ∧ x1 < 25) ∧ (r = (some (0, m2 411 x1), m2))) ∧ (¬ (¬ m2 411 x1 = 1000000) → r = (some (0, (-1)), m2))))) ∧ (¬ (¬ v1 = 0) → r = (some (0, (-1)), m1)))) : Ev (d + 1) K_Mo_miles 0 0 [(18, 400), (0, x1), (0, x2)] [] m r := by
  refine Ev_rn (q := (2, [(18, 400), (0, x1), (0, x2)], [(0, x2), (0, x1)], m)) 2 rfl ?_
  obtain ⟨v1, m1, hc, h⟩ := h
  refine Ev_call (rest := []) rfl rfl (Nat.le_of_ble_eq_true rfl) hc ?_
  refine Ev_if rfl (fun hc => ?_) (fun hc => ?_)
  · replace h := h.1 hc
    refine Ev_rn (q := (9, [(18, 400), (0, x1), (0, x2)], [(0, 0), (0, x2), (18, 400)], m1)) 3 rfl ?_
    obtain ⟨m2, hc, h⟩ := h
    refine Ev_call (rest := []) rfl rfl (Nat.le_of_ble_eq_true rfl) hc ?_
    refine Ev_rn (q := (13, [(18, 400), (0, x1), (0, x2)], [(0, x1), (300, 411)], m2)) 3 rfl ?_
    obtain ⟨hc, h⟩ := h
    refine Ev_iald (n := 25) rfl (by decide) (by decide) hc ?_
    refine Ev_rn (q := (15, [(18, 400), (0, x1), (0, x2)], [(0, 1000000), (0, m2 411 x1)], m2)) 1 rfl ?_
    refine Ev_icmp rfl (fun hc => ?_) (fun hc => ?_)
    · replace h := h.1 hc
      refine Ev_rn (q := (21, [(18, 400), (0, x1), (0, x2)], [(0, x1), (300, 411)], m2)) 3 rfl ?_
      obtain ⟨hc, h⟩ := h
      refine Ev_iald (n := 25) rfl (by decide) (by decide) hc ?_
      exact Ev_ret rfl rfl h
    · replace h := h.2 hc
      refine Ev_rn (q := (22, [(18, 400), (0, x1), (0, x2)], [(0, (-1))], m2)) 2 rfl ?_
      exact Ev_ret rfl rfl h
  · replace h := h.2 hc
    refine Ev_rn (q := (5, [(18, 400), (0, x1), (0, x2)], [(0, (-1))], m1)) 1 rfl ?_
    exact Ev_ret rfl rfl h
theorem b_Mo_way {d : Nat} {r : Option Vv × Mm} {m : Mm} {x1 x2 x3 : Int} (h : ∃ (v1 : Int) (m1 : Mm), Cl d k_Mo_miles [(18, 400), (0, x1), (0, x2)] m (some (0, v1), m1) ∧ (∃ (v2 : Int) (m2 : Mm), Cl d k_Mo_isIn [(0, x3), (0, 0), (0, w32 (v1 - 1))] m1 (some (0, v2), m2) ∧ ((¬ v2 = 0 → Ev (d + 1) K_Mo_way 0 20 [(18, 400), (0, x1), (0, x2), (0, x3), (0, v1), (0, x1), (0, 0), (0, 0)] [] m2 r) ∧ (¬ (¬ v2 = 0) → r = (some (0, (-2)), m2))))) : Ev (d + 1) K_Mo_way 0 0 [(18, 400), (0, x1), (0, x2), (0, x3), (9, 0), (9, 0), (9, 0), (9, 0)] [] m r := by
  refine Ev_rn (q := (3, [(18, 400), (0, x1), (0, x2), (0, x3), (9, 0), (9, 0), (9, 0), (9, 0)], [(0, x2), (0, x1), (18, 400)], m)) 3 rfl ?_
  obtain ⟨v1, m1, hc, h⟩ := h
  refine Ev_call (rest := []) rfl rfl (Nat.le_of_ble_eq_true rfl) hc ?_
  refine Ev_rn (q := (10, [(18, 400), (0, x1), (0, x2), (0, x3), (0, v1), (9, 0), (9, 0), (9, 0)], [(0, w32 (v1 - 1)), (0, 0), (0, x3)], m1)) 6 rfl ?_
  obtain ⟨v2, m2, hc, h⟩ := h
  refine Ev_call (rest := []) rfl rfl (Nat.le_of_ble_eq_true rfl) hc ?_
  refine Ev_if rfl (fun hc => ?_) (fun hc => ?_)
  · replace h := h.1 hc
    refine Ev_rn (q := (20, [(18, 400), (0, x1), (0, x2), (0, x3), (0, v1), (0, x1), (0, 0), (0, 0)], [], m2)) 6 rfl ?_
    exact h
  · replace h := h.2 hc
    refine Ev_rn (q := (13, [(18, 400), (0, x1), (0, x2), (0, x3), (0, v1), (9, 0), (9, 0), (9, 0)], [(0, (-2))], m2)) 1 rfl ?_
    exact Ev_ret rfl rfl h
theorem b_Mo_way_20 {d : Nat} {r : Option Vv × Mm} {m : Mm} {x1 x2 x3 x4 x5 x6 x7 : Int} (h : (x3 < x7 → r = (some (0, x6), m)) ∧ (¬ (x3 < x7) → Ev (d + 1) K_Mo_way 0 25 [(18, 400), (0, x1), (0, x2), (0, x3), (0, x4), (0, x5), (0, 0), (0, x7)] [] m r)) : Ev (d + 1) K_Mo_way 0 20 [(18, 400), (0, x1), (0, x2), (0, x3), (0, x4), (0, x5), (0, x6), (0, x7)] [] m r := by
  refine Ev_rn (q := (22, [(18, 400), (0, x1), (0, x2), (0, x3), (0, x4), (0, x5), (0, x6), (0, x7)], [(0, x3), (0, x7)], m)) 2 rfl ?_
  refine Ev_icmp rfl (fun hc => ?_) (fun hc => ?_)
  · replace h := h.1 hc
    refine Ev_rn (q := (52, [(18, 400), (0, x1), (0, x2), (0, x3), (0, x4), (0, x5), (0, x6), (0, x7)], [(0, x6)], m)) 1 rfl ?_
    exact Ev_ret rfl rfl h
  · replace h := h.2 hc
    refine Ev_rn (q := (25, [(18, 400), (0, x1), (0, x2), (0, x3), (0, x4), (0, x5), (0, 0), (0, x7)], [], m)) 2 rfl ?_
    exact h
theorem b_Mo_way_25 {d : Nat} {r : Option Vv × Mm} {m : Mm} {x1 x2 x3 x4 x5 x6 x7 : Int} (h : ∃ (v1 : Int) (m1 : Mm), Cl d k_Mo_isOpen [(18, 400), (0, x5), (0, x6)] m (some (0, v1), m1) ∧ ((v1 = 0 → Ev (d + 1) K_Mo_way 0 25 [(18, 400), (0, x1), (0, x2), (0, x3), (0, x4), (0, x5), (0, w32 (x6 + 1)), (0, x7)] [] m1 r) ∧ (¬ (v1 = 0) → ∃ (v2 : Int) (m2 : Mm), Cl d k_Mo_beside [(0, x5), (0, x6)] m1 (some (0, v2), m2) ∧ ((0 ≤ v2 ∧ v2 < 25) ∧ ((0 ≤ x5 ∧ x5 < 25) ∧ ((m2 411 v2 = w32 ((m2 411 x5) - 1) → ∃ (v3 : Int) (m3 : Mm), Cl d k_Mo_beside [(0, x5), (0, x6)] m2 (some (0, v3), m3) ∧ (Ev (d + 1) K_Mo_way 0 20 [(18, 400), (0, x1), (0, x2), (0, x3), (0, x4), (0, v3), (0, x6), (0, w32 (x7 + 1))] [] m3 r)) ∧ (¬ (m2 411 v2 = w32 ((m2 411 x5) - 1)) → Ev (d + 1) K_Mo_way 0 25 [(18, 400), (0, x1), (0, x2), (0, x3), (0, x4), (0, x5), (0, w32 (x6 + 1)), (0, x7)] [] m2 r))))))) : Ev (d + 1) K_Mo_way 0 25 [(18, 400), (0, x1), (0, x2), (0, x3), (0, x4), (0, x5), (0, x6), (0, x7)] [] m r := by
  refine Ev_rn (q := (28, [(18, 400), (0, x1), (0, x2), (0, x3), (0, x4), (0, x5), (0, x6), (0, x7)], [(0, x6), (0, x5), (18, 400)], m)) 3 rfl ?_
  obtain ⟨v1, m1, hc, h⟩ := h
  refine Ev_call (rest := []) rfl rfl (Nat.le_of_ble_eq_true rfl) hc ?_
  refine Ev_if rfl (fun hc => ?_) (fun hc => ?_)
  · replace h := h.1 hc
    refine Ev_rn (q := (25, [(18, 400), (0, x1), (0, x2), (0, x3), (0, x4), (0, x5), (0, w32 (x6 + 1)), (0, x7)], [], m1)) 2 rfl ?_
    exact h
  · replace h := h.2 hc
    refine Ev_rn (q := (34, [(18, 400), (0, x1), (0, x2), (0, x3), (0, x4), (0, x5), (0, x6), (0, x7)], [(0, x6), (0, x5), (300, 411)], m1)) 4 rfl ?_
    obtain ⟨v2, m2, hc, h⟩ := h
    refine Ev_call (rest := [(300, 411)]) rfl rfl (Nat.le_of_ble_eq_true rfl) hc ?_
    obtain ⟨hc, h⟩ := h
    refine Ev_iald (n := 25) rfl (by decide) (by decide) hc ?_
    refine Ev_rn (q := (39, [(18, 400), (0, x1), (0, x2), (0, x3), (0, x4), (0, x5), (0, x6), (0, x7)], [(0, x5), (300, 411), (0, m2 411 v2)], m2)) 3 rfl ?_
    obtain ⟨hc, h⟩ := h
    refine Ev_iald (n := 25) rfl (by decide) (by decide) hc ?_
    refine Ev_rn (q := (42, [(18, 400), (0, x1), (0, x2), (0, x3), (0, x4), (0, x5), (0, x6), (0, x7)], [(0, w32 ((m2 411 x5) - 1)), (0, m2 411 v2)], m2)) 2 rfl ?_
    refine Ev_icmp rfl (fun hc => ?_) (fun hc => ?_)
    · replace h := h.1 hc
      refine Ev_rn (q := (47, [(18, 400), (0, x1), (0, x2), (0, x3), (0, x4), (0, x5), (0, x6), (0, x7)], [(0, x6), (0, x5)], m2)) 2 rfl ?_
      obtain ⟨v3, m3, hc, h⟩ := h
      refine Ev_call (rest := []) rfl rfl (Nat.le_of_ble_eq_true rfl) hc ?_
      refine Ev_rn (q := (20, [(18, 400), (0, x1), (0, x2), (0, x3), (0, x4), (0, v3), (0, x6), (0, w32 (x7 + 1))], [], m3)) 3 rfl ?_
      exact h
    · replace h := h.2 hc
      refine Ev_rn (q := (25, [(18, 400), (0, x1), (0, x2), (0, x3), (0, x4), (0, x5), (0, w32 (x6 + 1)), (0, x7)], [], m2)) 2 rfl ?_
      exact h
theorem b_Mo_cuts {d : Nat} {r : Option Vv × Mm} {m : Mm} {x1 x2 : Int} (h : ∃ (v1 : Int) (m1 : Mm), Cl d k_Mo_areCells [(0, x1), (0, x2)] m (some (0, v1), m1) ∧ ((¬ v1 = 0 → ∃ (m2 : Mm), Cl d k_Mo_layFar [(18, 400), (0, x1), (0, 1)] m1 (none, m2) ∧ ((0 ≤ x2 ∧ x2 < 25) ∧ (r = (some (0, m2 411 x2), m2)))) ∧ (¬ (¬ v1 = 0) → r = (some (0, (-1)), m1)))) : Ev (d + 1) K_Mo_cuts 0 0 [(18, 400), (0, x1), (0, x2)] [] m r := by
  refine Ev_rn (q := (2, [(18, 400), (0, x1), (0, x2)], [(0, x2), (0, x1)], m)) 2 rfl ?_
  obtain ⟨v1, m1, hc, h⟩ := h
  refine Ev_call (rest := []) rfl rfl (Nat.le_of_ble_eq_true rfl) hc ?_
  refine Ev_if rfl (fun hc => ?_) (fun hc => ?_)
  · replace h := h.1 hc
    refine Ev_rn (q := (9, [(18, 400), (0, x1), (0, x2)], [(0, 1), (0, x1), (18, 400)], m1)) 3 rfl ?_
    obtain ⟨m2, hc, h⟩ := h
    refine Ev_call (rest := []) rfl rfl (Nat.le_of_ble_eq_true rfl) hc ?_
    refine Ev_rn (q := (13, [(18, 400), (0, x1), (0, x2)], [(0, x2), (300, 411)], m2)) 3 rfl ?_
    obtain ⟨hc, h⟩ := h
    refine Ev_iald (n := 25) rfl (by decide) (by decide) hc ?_
    exact Ev_ret rfl rfl h
  · replace h := h.2 hc
    refine Ev_rn (q := (5, [(18, 400), (0, x1), (0, x2)], [(0, (-1))], m1)) 1 rfl ?_
    exact Ev_ret rfl rfl h
theorem b_Mo_farthestNow {d : Nat} {r : Option Vv × Mm} {m : Mm} (h : Ev d K_Mo_farthestNow 0 4 [(18, 400), (0, (-1)), (0, 0)] [] m r) : Ev d K_Mo_farthestNow 0 0 [(18, 400), (9, 0), (9, 0)] [] m r := by
  refine Ev_rn (q := (4, [(18, 400), (0, (-1)), (0, 0)], [], m)) 4 rfl ?_
  exact h
theorem b_Mo_farthestNow_4 {d : Nat} {r : Option Vv × Mm} {m : Mm} {x1 x2 : Int} (h : (25 ≤ x2 → r = (some (0, x1), m)) ∧ (¬ (25 ≤ x2) → (0 ≤ x2 ∧ x2 < 25) ∧ ((m 411 x2 = 1000000 → Ev d K_Mo_farthestNow 0 4 [(18, 400), (0, x1), (0, w32 (x2 + 1))] [] m r) ∧ (¬ (m 411 x2 = 1000000) → (x1 = (-1) → Ev d K_Mo_farthestNow 0 4 [(18, 400), (0, x2), (0, w32 (x2 + 1))] [] m r) ∧ (¬ (x1 = (-1)) → (0 ≤ x2 ∧ x2 < 25) ∧ ((0 ≤ x1 ∧ x1 < 25) ∧ ((m 411 x2 ≤ m 411 x1 → Ev d K_Mo_farthestNow 0 4 [(18, 400), (0, x1), (0, w32 (x2 + 1))] [] m r) ∧ (¬ (m 411 x2 ≤ m 411 x1) → Ev d K_Mo_farthestNow 0 4 [(18, 400), (0, x2), (0, w32 (x2 + 1))] [] m r)))))))) : Ev d K_Mo_farthestNow 0 4 [(18, 400), (0, x1), (0, x2)] [] m r := by
  refine Ev_rn (q := (6, [(18, 400), (0, x1), (0, x2)], [(0, 25), (0, x2)], m)) 2 rfl ?_
  refine Ev_icmp rfl (fun hc => ?_) (fun hc => ?_)
  · replace h := h.1 hc
    refine Ev_rn (q := (30, [(18, 400), (0, x1), (0, x2)], [(0, x1)], m)) 1 rfl ?_
    exact Ev_ret rfl rfl h
  · replace h := h.2 hc
    refine Ev_rn (q := (10, [(18, 400), (0, x1), (0, x2)], [(0, x2), (300, 411)], m)) 3 rfl ?_
    obtain ⟨hc, h⟩ := h
    refine Ev_iald (n := 25) rfl (by decide) (by decide) hc ?_
    refine Ev_rn (q := (12, [(18, 400), (0, x1), (0, x2)], [(0, 1000000), (0, m 411 x2)], m)) 1 rfl ?_
    refine Ev_icmp rfl (fun hc => ?_) (fun hc => ?_)
    · replace h := h.1 hc
      refine Ev_rn (q := (4, [(18, 400), (0, x1), (0, w32 (x2 + 1))], [], m)) 2 rfl ?_
      exact h
    · replace h := h.2 hc
      refine Ev_rn (q := (15, [(18, 400), (0, x1), (0, x2)], [(0, (-1)), (0, x1)], m)) 2 rfl ?_
      refine Ev_icmp rfl (fun hc => ?_) (fun hc => ?_)
      · replace h := h.1 hc
        refine Ev_rn (q := (4, [(18, 400), (0, x2), (0, w32 (x2 + 1))], [], m)) 4 rfl ?_
        exact h
      · replace h := h.2 hc
        refine Ev_rn (q := (19, [(18, 400), (0, x1), (0, x2)], [(0, x2), (300, 411)], m)) 3 rfl ?_
        obtain ⟨hc, h⟩ := h
        refine Ev_iald (n := 25) rfl (by decide) (by decide) hc ?_
        refine Ev_rn (q := (23, [(18, 400), (0, x1), (0, x2)], [(0, x1), (300, 411), (0, m 411 x2)], m)) 3 rfl ?_
        obtain ⟨hc, h⟩ := h
        refine Ev_iald (n := 25) rfl (by decide) (by decide) hc ?_
        refine Ev_icmp rfl (fun hc => ?_) (fun hc => ?_)
        · replace h := h.1 hc
          refine Ev_rn (q := (4, [(18, 400), (0, x1), (0, w32 (x2 + 1))], [], m)) 2 rfl ?_
          exact h
        · replace h := h.2 hc
          refine Ev_rn (q := (4, [(18, 400), (0, x2), (0, w32 (x2 + 1))], [], m)) 4 rfl ?_
          exact h
theorem b_Mo_farthest {d : Nat} {r : Option Vv × Mm} {m : Mm} {x1 : Int} (h : ∃ (v1 : Int) (m1 : Mm), Cl d k_Mo_isCell [(0, x1)] m (some (0, v1), m1) ∧ ((¬ v1 = 0 → ∃ (m2 : Mm), Cl d k_Mo_layFar [(18, 400), (0, x1), (0, 0)] m1 (none, m2) ∧ (∃ (v3 : Int) (m3 : Mm), Cl d k_Mo_farthestNow [(18, 400)] m2 (some (0, v3), m3) ∧ (r = (some (0, v3), m3)))) ∧ (¬ (¬ v1 = 0) → r = (some (0, (-1)), m1)))) : Ev (d + 1) K_Mo_farthest 0 0 [(18, 400), (0, x1)] [] m r := by
  refine Ev_rn (q := (1, [(18, 400), (0, x1)], [(0, x1)], m)) 1 rfl ?_
  obtain ⟨v1, m1, hc, h⟩ := h
  refine Ev_call (rest := []) rfl rfl (Nat.le_of_ble_eq_true rfl) hc ?_
  refine Ev_if rfl (fun hc => ?_) (fun hc => ?_)
  · replace h := h.1 hc
    refine Ev_rn (q := (8, [(18, 400), (0, x1)], [(0, 0), (0, x1), (18, 400)], m1)) 3 rfl ?_
    obtain ⟨m2, hc, h⟩ := h
    refine Ev_call (rest := []) rfl rfl (Nat.le_of_ble_eq_true rfl) hc ?_
    refine Ev_rn (q := (10, [(18, 400), (0, x1)], [(18, 400)], m2)) 1 rfl ?_
    obtain ⟨v3, m3, hc, h⟩ := h
    refine Ev_call (rest := []) rfl rfl (Nat.le_of_ble_eq_true rfl) hc ?_
    exact Ev_ret rfl rfl h
  · replace h := h.2 hc
    refine Ev_rn (q := (4, [(18, 400), (0, x1)], [(0, (-1))], m1)) 1 rfl ?_
    exact Ev_ret rfl rfl h
theorem b_Mo_wide {d : Nat} {r : Option Vv × Mm} {m : Mm} (h : Ev (d + 1) K_Mo_wide 0 4 [(18, 400), (0, 0), (0, 0)] [] m r) : Ev (d + 1) K_Mo_wide 0 0 [(18, 400), (9, 0), (9, 0)] [] m r := by
  refine Ev_rn (q := (4, [(18, 400), (0, 0), (0, 0)], [], m)) 4 rfl ?_
  exact h
theorem b_Mo_wide_4 {d : Nat} {r : Option Vv × Mm} {m : Mm} {x1 x2 : Int} (h : (25 ≤ x2 → r = (some (0, x1), m)) ∧ (¬ (25 ≤ x2) → ∃ (m1 : Mm), Cl d k_Mo_layFar [(18, 400), (0, x2), (0, 0)] m (none, m1) ∧ (∃ (v2 : Int) (m2 : Mm), Cl d k_Mo_farthestNow [(18, 400)] m1 (some (0, v2), m2) ∧ ((0 ≤ v2 ∧ v2 < 25) ∧ ((m2 411 v2 ≤ x1 → Ev (d + 1) K_Mo_wide 0 4 [(18, 400), (0, x1), (0, w32 (x2 + 1))] [] m2 r) ∧ (¬ (m2 411 v2 ≤ x1) → ∃ (v3 : Int) (m3 : Mm), Cl d k_Mo_farthestNow [(18, 400)] m2 (some (0, v3), m3) ∧ ((0 ≤ v3 ∧ v3 < 25) ∧ (Ev (d + 1) K_Mo_wide 0 4 [(18, 400), (0, m3 411 v3), (0, w32 (x2 + 1))] [] m3 r)))))))) : Ev (d + 1) K_Mo_wide 0 4 [(18, 400), (0, x1), (0, x2)] [] m r := by
  refine Ev_rn (q := (6, [(18, 400), (0, x1), (0, x2)], [(0, 25), (0, x2)], m)) 2 rfl ?_
  refine Ev_icmp rfl (fun hc => ?_) (fun hc => ?_)
  · replace h := h.1 hc
    refine Ev_rn (q := (29, [(18, 400), (0, x1), (0, x2)], [(0, x1)], m)) 1 rfl ?_
    exact Ev_ret rfl rfl h
  · replace h := h.2 hc
    refine Ev_rn (q := (10, [(18, 400), (0, x1), (0, x2)], [(0, 0), (0, x2), (18, 400)], m)) 3 rfl ?_
    obtain ⟨m1, hc, h⟩ := h
    refine Ev_call (rest := []) rfl rfl (Nat.le_of_ble_eq_true rfl) hc ?_
    refine Ev_rn (q := (14, [(18, 400), (0, x1), (0, x2)], [(18, 400), (300, 411)], m1)) 3 rfl ?_
    obtain ⟨v2, m2, hc, h⟩ := h
    refine Ev_call (rest := [(300, 411)]) rfl rfl (Nat.le_of_ble_eq_true rfl) hc ?_
    obtain ⟨hc, h⟩ := h
    refine Ev_iald (n := 25) rfl (by decide) (by decide) hc ?_
    refine Ev_rn (q := (17, [(18, 400), (0, x1), (0, x2)], [(0, x1), (0, m2 411 v2)], m2)) 1 rfl ?_
    refine Ev_icmp rfl (fun hc => ?_) (fun hc => ?_)
    · replace h := h.1 hc
      refine Ev_rn (q := (4, [(18, 400), (0, x1), (0, w32 (x2 + 1))], [], m2)) 4 rfl ?_
      exact h
    · replace h := h.2 hc
      refine Ev_rn (q := (21, [(18, 400), (0, x1), (0, x2)], [(18, 400), (300, 411)], m2)) 3 rfl ?_
      obtain ⟨v3, m3, hc, h⟩ := h
      refine Ev_call (rest := [(300, 411)]) rfl rfl (Nat.le_of_ble_eq_true rfl) hc ?_
      obtain ⟨hc, h⟩ := h
      refine Ev_iald (n := 25) rfl (by decide) (by decide) hc ?_
      refine Ev_rn (q := (4, [(18, 400), (0, m3 411 v3), (0, w32 (x2 + 1))], [], m3)) 4 rfl ?_
      exact h
theorem b_Mo_regionOf {d : Nat} {r : Option Vv × Mm} {m : Mm} {x1 x2 : Int} (h : Ev (d + 1) K_Mo_regionOf 0 6 [(18, 400), (0, x1), (0, x2), (0, isl 1 x1), (0, 0), (9, 0), (9, 0)] [] m r) : Ev (d + 1) K_Mo_regionOf 0 0 [(18, 400), (0, x1), (0, x2), (9, 0), (9, 0), (9, 0), (9, 0)] [] m r := by
  refine Ev_rn (q := (6, [(18, 400), (0, x1), (0, x2), (0, isl 1 x1), (0, 0), (9, 0), (9, 0)], [], m)) 6 rfl ?_
  exact h
theorem b_Mo_regionOf_6 {d : Nat} {r : Option Vv × Mm} {m : Mm} {x1 x2 x3 x4 : Int} {u5 u6 : Vv} (h : (x4 = x3 → r = (some (0, x3), m)) ∧ (¬ (x4 = x3) → Ev (d + 1) K_Mo_regionOf 0 13 [(18, 400), (0, x1), (0, x2), (0, x3), (0, x3), (0, 0), u6] [] m r)) : Ev (d + 1) K_Mo_regionOf 0 6 [(18, 400), (0, x1), (0, x2), (0, x3), (0, x4), u5, u6] [] m r := by
  refine Ev_rn (q := (8, [(18, 400), (0, x1), (0, x2), (0, x3), (0, x4), u5, u6], [(0, x3), (0, x4)], m)) 2 rfl ?_
  refine Ev_icmp rfl (fun hc => ?_) (fun hc => ?_)
  · replace h := h.1 hc
    refine Ev_rn (q := (49, [(18, 400), (0, x1), (0, x2), (0, x3), (0, x4), u5, u6], [(0, x3)], m)) 1 rfl ?_
    exact Ev_ret rfl rfl h
  · replace h := h.2 hc
    refine Ev_rn (q := (13, [(18, 400), (0, x1), (0, x2), (0, x3), (0, x3), (0, 0), u6], [], m)) 4 rfl ?_
    exact h
theorem b_Mo_regionOf_13 {d : Nat} {r : Option Vv × Mm} {m : Mm} {x1 x2 x3 x4 x5 : Int} {u6 : Vv} (h : (25 ≤ x5 → Ev (d + 1) K_Mo_regionOf 0 6 [(18, 400), (0, x1), (0, x2), (0, x3), (0, x4), (0, x5), u6] [] m r) ∧ (¬ (25 ≤ x5) → Ev (d + 1) K_Mo_regionOf 0 18 [(18, 400), (0, x1), (0, x2), (0, x3), (0, x4), (0, x5), (0, 0)] [] m r)) : Ev (d + 1) K_Mo_regionOf 0 13 [(18, 400), (0, x1), (0, x2), (0, x3), (0, x4), (0, x5), u6] [] m r := by
  refine Ev_rn (q := (15, [(18, 400), (0, x1), (0, x2), (0, x3), (0, x4), (0, x5), u6], [(0, 25), (0, x5)], m)) 2 rfl ?_
  refine Ev_icmp rfl (fun hc => ?_) (fun hc => ?_)
  · replace h := h.1 hc
    refine Ev_rn (q := (6, [(18, 400), (0, x1), (0, x2), (0, x3), (0, x4), (0, x5), u6], [], m)) 1 rfl ?_
    exact h
  · replace h := h.2 hc
    refine Ev_rn (q := (18, [(18, 400), (0, x1), (0, x2), (0, x3), (0, x4), (0, x5), (0, 0)], [], m)) 2 rfl ?_
    exact h
theorem b_Mo_regionOf_18 {d : Nat} {r : Option Vv × Mm} {m : Mm} {x1 x2 x3 x4 x5 x6 : Int} (h : (4 ≤ x6 → Ev (d + 1) K_Mo_regionOf 0 13 [(18, 400), (0, x1), (0, x2), (0, x3), (0, x4), (0, w32 (x5 + 1)), (0, x6)] [] m r) ∧ (¬ (4 ≤ x6) → ∃ (v1 : Int) (m1 : Mm), Cl d k_Mo_has [(0, x3), (0, x5)] m (some (0, v1), m1) ∧ ((v1 = 0 → Ev (d + 1) K_Mo_regionOf 0 13 [(18, 400), (0, x1), (0, x2), (0, x3), (0, x4), (0, w32 (x5 + 1)), (0, x6)] [] m1 r) ∧ (¬ (v1 = 0) → ∃ (v2 : Int) (m2 : Mm), Cl d k_Mo_isOpen [(18, 400), (0, x5), (0, x6)] m1 (some (0, v2), m2) ∧ ((v2 = 0 → Ev (d + 1) K_Mo_regionOf 0 18 [(18, 400), (0, x1), (0, x2), (0, x3), (0, x4), (0, x5), (0, w32 (x6 + 1))] [] m2 r) ∧ (¬ (v2 = 0) → ∃ (v3 : Int) (m3 : Mm), Cl d k_Mo_beside [(0, x5), (0, x6)] m2 (some (0, v3), m3) ∧ ((v3 = x2 → Ev (d + 1) K_Mo_regionOf 0 18 [(18, 400), (0, x1), (0, x2), (0, x3), (0, x4), (0, x5), (0, w32 (x6 + 1))] [] m3 r) ∧ (¬ (v3 = x2) → ∃ (v4 : Int) (m4 : Mm), Cl d k_Mo_beside [(0, x5), (0, x6)] m3 (some (0, v4), m4) ∧ (Ev (d + 1) K_Mo_regionOf 0 18 [(18, 400), (0, x1), (0, x2), (0, iro x3 (isl 1 v4)), (0, x4), (0, x5), (0, w32 (x6 + 1))] [] m4 r))))))))) : Ev (d + 1) K_Mo_regionOf 0 18 [(18, 400), (0, x1), (0, x2), (0, x3), (0, x4), (0, x5), (0, x6)] [] m r := by
  refine Ev_rn (q := (20, [(18, 400), (0, x1), (0, x2), (0, x3), (0, x4), (0, x5), (0, x6)], [(0, 4), (0, x6)], m)) 2 rfl ?_
  refine Ev_icmp rfl (fun hc => ?_) (fun hc => ?_)
  · replace h := h.1 hc
    refine Ev_rn (q := (13, [(18, 400), (0, x1), (0, x2), (0, x3), (0, x4), (0, w32 (x5 + 1)), (0, x6)], [], m)) 2 rfl ?_
    exact h
  · replace h := h.2 hc
    refine Ev_rn (q := (23, [(18, 400), (0, x1), (0, x2), (0, x3), (0, x4), (0, x5), (0, x6)], [(0, x5), (0, x3)], m)) 2 rfl ?_
    obtain ⟨v1, m1, hc, h⟩ := h
    refine Ev_call (rest := []) rfl rfl (Nat.le_of_ble_eq_true rfl) hc ?_
    refine Ev_if rfl (fun hc => ?_) (fun hc => ?_)
    · replace h := h.1 hc
      refine Ev_rn (q := (13, [(18, 400), (0, x1), (0, x2), (0, x3), (0, x4), (0, w32 (x5 + 1)), (0, x6)], [], m1)) 2 rfl ?_
      exact h
    · replace h := h.2 hc
      refine Ev_rn (q := (28, [(18, 400), (0, x1), (0, x2), (0, x3), (0, x4), (0, x5), (0, x6)], [(0, x6), (0, x5), (18, 400)], m1)) 3 rfl ?_
      obtain ⟨v2, m2, hc, h⟩ := h
      refine Ev_call (rest := []) rfl rfl (Nat.le_of_ble_eq_true rfl) hc ?_
      refine Ev_if rfl (fun hc => ?_) (fun hc => ?_)
      · replace h := h.1 hc
        refine Ev_rn (q := (18, [(18, 400), (0, x1), (0, x2), (0, x3), (0, x4), (0, x5), (0, w32 (x6 + 1))], [], m2)) 2 rfl ?_
        exact h
      · replace h := h.2 hc
        refine Ev_rn (q := (32, [(18, 400), (0, x1), (0, x2), (0, x3), (0, x4), (0, x5), (0, x6)], [(0, x6), (0, x5)], m2)) 2 rfl ?_
        obtain ⟨v3, m3, hc, h⟩ := h
        refine Ev_call (rest := []) rfl rfl (Nat.le_of_ble_eq_true rfl) hc ?_
        refine Ev_rn (q := (34, [(18, 400), (0, x1), (0, x2), (0, x3), (0, x4), (0, x5), (0, x6)], [(0, x2), (0, v3)], m3)) 1 rfl ?_
        refine Ev_icmp rfl (fun hc => ?_) (fun hc => ?_)
        · replace h := h.1 hc
          refine Ev_rn (q := (18, [(18, 400), (0, x1), (0, x2), (0, x3), (0, x4), (0, x5), (0, w32 (x6 + 1))], [], m3)) 2 rfl ?_
          exact h
        · replace h := h.2 hc
          refine Ev_rn (q := (39, [(18, 400), (0, x1), (0, x2), (0, x3), (0, x4), (0, x5), (0, x6)], [(0, x6), (0, x5), (0, 1), (0, x3)], m3)) 4 rfl ?_
          obtain ⟨v4, m4, hc, h⟩ := h
          refine Ev_call (rest := [(0, 1), (0, x3)]) rfl rfl (Nat.le_of_ble_eq_true rfl) hc ?_
          refine Ev_rn (q := (18, [(18, 400), (0, x1), (0, x2), (0, iro x3 (isl 1 v4)), (0, x4), (0, x5), (0, w32 (x6 + 1))], [], m4)) 5 rfl ?_
          exact h
theorem b_Mo_regions {d : Nat} {r : Option Vv × Mm} {m : Mm} {x1 : Int} (h : Ev (d + 1) K_Mo_regions 0 8 [(18, 400), (0, x1), (0, 0), (0, 0), (0, 33554431), (0, 0), (9, 0)] [] m r) : Ev (d + 1) K_Mo_regions 0 0 [(18, 400), (0, x1), (9, 0), (9, 0), (9, 0), (9, 0), (9, 0)] [] m r := by
  refine Ev_rn (q := (8, [(18, 400), (0, x1), (0, 0), (0, 0), (0, 33554431), (0, 0), (9, 0)], [], m)) 8 rfl ?_
  exact h
theorem b_Mo_regions_8 {d : Nat} {r : Option Vv × Mm} {m : Mm} {x1 x2 x3 x4 x5 : Int} {u6 : Vv} (h : (25 ≤ x5 → (x1 = 0 → r = (some (0, x2), m)) ∧ (¬ (x1 = 0) → r = (some (0, x3), m))) ∧ (¬ (25 ≤ x5) → ∃ (v1 : Int) (m1 : Mm), Cl d k_Mo_has [(0, x4), (0, x5)] m (some (0, v1), m1) ∧ ((¬ v1 = 0 → ∃ (v2 : Int) (m2 : Mm), Cl d k_Mo_regionOf [(18, 400), (0, x5), (0, (-1))] m1 (some (0, v2), m2) ∧ (∃ (v3 : Int) (m3 : Mm), Cl d k_Mo_bits [(0, v2)] m2 (some (0, v3), m3) ∧ ((v3 ≤ x3 → Ev (d + 1) K_Mo_regions 0 8 [(18, 400), (0, x1), (0, w32 (x2 + 1)), (0, x3), (0, ian x4 (ixo v2 (-1))), (0, w32 (x5 + 1)), (0, v2)] [] m3 r) ∧ (¬ (v3 ≤ x3) → ∃ (v4 : Int) (m4 : Mm), Cl d k_Mo_bits [(0, v2)] m3 (some (0, v4), m4) ∧ (Ev (d + 1) K_Mo_regions 0 8 [(18, 400), (0, x1), (0, w32 (x2 + 1)), (0, v4), (0, ian x4 (ixo v2 (-1))), (0, w32 (x5 + 1)), (0, v2)] [] m4 r))))) ∧ (¬ (¬ v1 = 0) → Ev (d + 1) K_Mo_regions 0 8 [(18, 400), (0, x1), (0, x2), (0, x3), (0, x4), (0, w32 (x5 + 1)), u6] [] m1 r)))) : Ev (d + 1) K_Mo_regions 0 8 [(18, 400), (0, x1), (0, x2), (0, x3), (0, x4), (0, x5), u6] [] m r := by
  refine Ev_rn (q := (10, [(18, 400), (0, x1), (0, x2), (0, x3), (0, x4), (0, x5), u6], [(0, 25), (0, x5)], m)) 2 rfl ?_
  refine Ev_icmp rfl (fun hc => ?_) (fun hc => ?_)
  · replace h := h.1 hc
    refine Ev_rn (q := (40, [(18, 400), (0, x1), (0, x2), (0, x3), (0, x4), (0, x5), u6], [(0, x1)], m)) 1 rfl ?_
    refine Ev_if rfl (fun hc => ?_) (fun hc => ?_)
    · replace h := h.1 hc
      refine Ev_rn (q := (44, [(18, 400), (0, x1), (0, x2), (0, x3), (0, x4), (0, x5), u6], [(0, x2)], m)) 1 rfl ?_
      exact Ev_ret rfl rfl h
    · replace h := h.2 hc
      refine Ev_rn (q := (44, [(18, 400), (0, x1), (0, x2), (0, x3), (0, x4), (0, x5), u6], [(0, x3)], m)) 2 rfl ?_
      exact Ev_ret rfl rfl h
  · replace h := h.2 hc
    refine Ev_rn (q := (13, [(18, 400), (0, x1), (0, x2), (0, x3), (0, x4), (0, x5), u6], [(0, x5), (0, x4)], m)) 2 rfl ?_
    obtain ⟨v1, m1, hc, h⟩ := h
    refine Ev_call (rest := []) rfl rfl (Nat.le_of_ble_eq_true rfl) hc ?_
    refine Ev_if rfl (fun hc => ?_) (fun hc => ?_)
    · replace h := h.1 hc
      refine Ev_rn (q := (19, [(18, 400), (0, x1), (0, x2), (0, x3), (0, x4), (0, x5), u6], [(0, (-1)), (0, x5), (18, 400)], m1)) 3 rfl ?_
      obtain ⟨v2, m2, hc, h⟩ := h
      refine Ev_call (rest := []) rfl rfl (Nat.le_of_ble_eq_true rfl) hc ?_
      refine Ev_rn (q := (29, [(18, 400), (0, x1), (0, w32 (x2 + 1)), (0, x3), (0, ian x4 (ixo v2 (-1))), (0, x5), (0, v2)], [(0, v2)], m2)) 9 rfl ?_
      obtain ⟨v3, m3, hc, h⟩ := h
      refine Ev_call (rest := []) rfl rfl (Nat.le_of_ble_eq_true rfl) hc ?_
      refine Ev_rn (q := (31, [(18, 400), (0, x1), (0, w32 (x2 + 1)), (0, x3), (0, ian x4 (ixo v2 (-1))), (0, x5), (0, v2)], [(0, x3), (0, v3)], m3)) 1 rfl ?_
      refine Ev_icmp rfl (fun hc => ?_) (fun hc => ?_)
      · replace h := h.1 hc
        refine Ev_rn (q := (8, [(18, 400), (0, x1), (0, w32 (x2 + 1)), (0, x3), (0, ian x4 (ixo v2 (-1))), (0, w32 (x5 + 1)), (0, v2)], [], m3)) 4 rfl ?_
        exact h
      · replace h := h.2 hc
        refine Ev_rn (q := (33, [(18, 400), (0, x1), (0, w32 (x2 + 1)), (0, x3), (0, ian x4 (ixo v2 (-1))), (0, x5), (0, v2)], [(0, v2)], m3)) 1 rfl ?_
        obtain ⟨v4, m4, hc, h⟩ := h
        refine Ev_call (rest := []) rfl rfl (Nat.le_of_ble_eq_true rfl) hc ?_
        refine Ev_rn (q := (8, [(18, 400), (0, x1), (0, w32 (x2 + 1)), (0, v4), (0, ian x4 (ixo v2 (-1))), (0, w32 (x5 + 1)), (0, v2)], [], m4)) 4 rfl ?_
        exact h
    · replace h := h.2 hc
      refine Ev_rn (q := (8, [(18, 400), (0, x1), (0, x2), (0, x3), (0, x4), (0, w32 (x5 + 1)), u6], [], m1)) 3 rfl ?_
      exact h
theorem b_Mo_rings {d : Nat} {r : Option Vv × Mm} {m : Mm} (h : ∃ (v1 : Int) (m1 : Mm), Cl d k_Mo_allNow [(18, 400)] m (some (0, v1), m1) ∧ (∃ (v2 : Int) (m2 : Mm), Cl d k_Mo_regions [(18, 400), (0, 0)] m1 (some (0, v2), m2) ∧ (r = (some (0, w32 ((w32 ((w32 (40 - v1)) - 25)) + v2)), m2)))) : Ev (d + 1) K_Mo_rings 0 0 [(18, 400)] [] m r := by
  refine Ev_rn (q := (2, [(18, 400)], [(18, 400), (0, 40)], m)) 2 rfl ?_
  obtain ⟨v1, m1, hc, h⟩ := h
  refine Ev_call (rest := [(0, 40)]) rfl rfl (Nat.le_of_ble_eq_true rfl) hc ?_
  refine Ev_rn (q := (8, [(18, 400)], [(0, 0), (18, 400), (0, w32 ((w32 (40 - v1)) - 25))], m1)) 5 rfl ?_
  obtain ⟨v2, m2, hc, h⟩ := h
  refine Ev_call (rest := [(0, w32 ((w32 (40 - v1)) - 25))]) rfl rfl (Nat.le_of_ble_eq_true rfl) hc ?_
  refine Ev_rn (q := (10, [(18, 400)], [(0, w32 ((w32 ((w32 (40 - v1)) - 25)) + v2))], m2)) 1 rfl ?_
  exact Ev_ret rfl rfl h
theorem b_Mo_ends {d : Nat} {r : Option Vv × Mm} {m : Mm} (h : Ev (d + 1) K_Mo_ends 0 4 [(18, 400), (0, 0), (0, 0)] [] m r) : Ev (d + 1) K_Mo_ends 0 0 [(18, 400), (9, 0), (9, 0)] [] m r := by
  refine Ev_rn (q := (4, [(18, 400), (0, 0), (0, 0)], [], m)) 4 rfl ?_
  exact h
theorem b_Mo_ends_4 {d : Nat} {r : Option Vv × Mm} {m : Mm} {x1 x2 : Int} (h : (25 ≤ x2 → r = (some (0, x1), m)) ∧ (¬ (25 ≤ x2) → ∃ (v1 : Int) (m1 : Mm), Cl d k_Mo_openOf [(18, 400), (0, x2)] m (some (0, v1), m1) ∧ (∃ (v2 : Int) (m2 : Mm), Cl d k_Mo_bits [(0, v1)] m1 (some (0, v2), m2) ∧ ((¬ v2 = 1 → Ev (d + 1) K_Mo_ends 0 4 [(18, 400), (0, iro x1 0), (0, w32 (x2 + 1))] [] m2 r) ∧ (¬ (¬ v2 = 1) → Ev (d + 1) K_Mo_ends 0 4 [(18, 400), (0, iro x1 (isl 1 x2)), (0, w32 (x2 + 1))] [] m2 r))))) : Ev (d + 1) K_Mo_ends 0 4 [(18, 400), (0, x1), (0, x2)] [] m r := by
  refine Ev_rn (q := (6, [(18, 400), (0, x1), (0, x2)], [(0, 25), (0, x2)], m)) 2 rfl ?_
  refine Ev_icmp rfl (fun hc => ?_) (fun hc => ?_)
  · replace h := h.1 hc
    refine Ev_rn (q := (24, [(18, 400), (0, x1), (0, x2)], [(0, x1)], m)) 1 rfl ?_
    exact Ev_ret rfl rfl h
  · replace h := h.2 hc
    refine Ev_rn (q := (10, [(18, 400), (0, x1), (0, x2)], [(0, x2), (18, 400), (0, x1)], m)) 3 rfl ?_
    obtain ⟨v1, m1, hc, h⟩ := h
    refine Ev_call (rest := [(0, x1)]) rfl rfl (Nat.le_of_ble_eq_true rfl) hc ?_
    obtain ⟨v2, m2, hc, h⟩ := h
    refine Ev_call (rest := [(0, x1)]) rfl rfl (Nat.le_of_ble_eq_true rfl) hc ?_
    refine Ev_rn (q := (13, [(18, 400), (0, x1), (0, x2)], [(0, 1), (0, v2), (0, x1)], m2)) 1 rfl ?_
    refine Ev_icmp rfl (fun hc => ?_) (fun hc => ?_)
    · replace h := h.1 hc
      refine Ev_rn (q := (4, [(18, 400), (0, iro x1 0), (0, w32 (x2 + 1))], [], m2)) 5 rfl ?_
      exact h
    · replace h := h.2 hc
      refine Ev_rn (q := (4, [(18, 400), (0, iro x1 (isl 1 x2)), (0, w32 (x2 + 1))], [], m2)) 8 rfl ?_
      exact h
theorem b_Mo_isNeck {d : Nat} {r : Option Vv × Mm} {m : Mm} {x1 : Int} (h : ∃ (v1 : Int) (m1 : Mm), Cl d k_Mo_regionOf [(18, 400), (0, x1), (0, (-1))] m (some (0, v1), m1) ∧ ((¬ ian v1 (ixo (isl 1 x1) (-1)) = 0 → Ev (d + 1) K_Mo_isNeck 2 17 [(18, 400), (0, x1), (0, ian v1 (ixo (isl 1 x1) (-1))), (0, 0)] [] m1 r) ∧ (¬ (¬ ian v1 (ixo (isl 1 x1) (-1)) = 0) → r = (some (0, 0), m1)))) : Ev (d + 1) K_Mo_isNeck 2 0 [(18, 400), (0, x1), (9, 0), (9, 0)] [] m r := by
  refine Ev_rn (q := (3, [(18, 400), (0, x1), (9, 0), (9, 0)], [(0, (-1)), (0, x1), (18, 400)], m)) 3 rfl ?_
  obtain ⟨v1, m1, hc, h⟩ := h
  refine Ev_call (rest := []) rfl rfl (Nat.le_of_ble_eq_true rfl) hc ?_
  refine Ev_rn (q := (12, [(18, 400), (0, x1), (0, ian v1 (ixo (isl 1 x1) (-1))), (9, 0)], [(0, ian v1 (ixo (isl 1 x1) (-1)))], m1)) 8 rfl ?_
  refine Ev_if rfl (fun hc => ?_) (fun hc => ?_)
  · replace h := h.1 hc
    refine Ev_rn (q := (17, [(18, 400), (0, x1), (0, ian v1 (ixo (isl 1 x1) (-1))), (0, 0)], [], m1)) 2 rfl ?_
    exact h
  · replace h := h.2 hc
    refine Ev_rn (q := (14, [(18, 400), (0, x1), (0, ian v1 (ixo (isl 1 x1) (-1))), (9, 0)], [(0, 0)], m1)) 1 rfl ?_
    exact Ev_zret rfl rfl (by decide) h
theorem b_Mo_isNeck_17 {d : Nat} {r : Option Vv × Mm} {m : Mm} {x1 x2 x3 : Int} (h : ∃ (v1 : Int) (m1 : Mm), Cl d k_Mo_has [(0, x2), (0, x3)] m (some (0, v1), m1) ∧ ((¬ v1 = 0 → ∃ (v2 : Int) (m2 : Mm), Cl d k_Mo_regionOf [(18, 400), (0, x3), (0, x1)] m1 (some (0, v2), m2) ∧ ((v2 = x2 → r = (some (0, 0), m2)) ∧ (¬ (v2 = x2) → r = (some (0, 1), m2)))) ∧ (¬ (¬ v1 = 0) → Ev (d + 1) K_Mo_isNeck 2 17 [(18, 400), (0, x1), (0, x2), (0, w32 (x3 + 1))] [] m1 r))) : Ev (d + 1) K_Mo_isNeck 2 17 [(18, 400), (0, x1), (0, x2), (0, x3)] [] m r := by
  refine Ev_rn (q := (19, [(18, 400), (0, x1), (0, x2), (0, x3)], [(0, x3), (0, x2)], m)) 2 rfl ?_
  obtain ⟨v1, m1, hc, h⟩ := h
  refine Ev_call (rest := []) rfl rfl (Nat.le_of_ble_eq_true rfl) hc ?_
  refine Ev_if rfl (fun hc => ?_) (fun hc => ?_)
  · replace h := h.1 hc
    refine Ev_rn (q := (26, [(18, 400), (0, x1), (0, x2), (0, x3)], [(0, x1), (0, x3), (18, 400)], m1)) 3 rfl ?_
    obtain ⟨v2, m2, hc, h⟩ := h
    refine Ev_call (rest := []) rfl rfl (Nat.le_of_ble_eq_true rfl) hc ?_
    refine Ev_rn (q := (28, [(18, 400), (0, x1), (0, x2), (0, x3)], [(0, x2), (0, v2)], m2)) 1 rfl ?_
    refine Ev_icmp rfl (fun hc => ?_) (fun hc => ?_)
    · replace h := h.1 hc
      refine Ev_rn (q := (32, [(18, 400), (0, x1), (0, x2), (0, x3)], [(0, 0)], m2)) 1 rfl ?_
      exact Ev_zret rfl rfl (by decide) h
    · replace h := h.2 hc
      refine Ev_rn (q := (32, [(18, 400), (0, x1), (0, x2), (0, x3)], [(0, 1)], m2)) 2 rfl ?_
      exact Ev_zret rfl rfl (by decide) h
  · replace h := h.2 hc
    refine Ev_rn (q := (17, [(18, 400), (0, x1), (0, x2), (0, w32 (x3 + 1))], [], m1)) 2 rfl ?_
    exact h
theorem b_Mo_necks {d : Nat} {r : Option Vv × Mm} {m : Mm} (h : Ev (d + 1) K_Mo_necks 0 4 [(18, 400), (0, 0), (0, 0)] [] m r) : Ev (d + 1) K_Mo_necks 0 0 [(18, 400), (9, 0), (9, 0)] [] m r := by
  refine Ev_rn (q := (4, [(18, 400), (0, 0), (0, 0)], [], m)) 4 rfl ?_
  exact h
theorem b_Mo_necks_4 {d : Nat} {r : Option Vv × Mm} {m : Mm} {x1 x2 : Int} (h : (25 ≤ x2 → r = (some (0, x1), m)) ∧ (¬ (25 ≤ x2) → ∃ (v1 : Int) (m1 : Mm), Cl d k_Mo_isNeck [(18, 400), (0, x2)] m (some (0, v1), m1) ∧ ((v1 = 0 → Ev (d + 1) K_Mo_necks 0 4 [(18, 400), (0, iro x1 0), (0, w32 (x2 + 1))] [] m1 r) ∧ (¬ (v1 = 0) → Ev (d + 1) K_Mo_necks 0 4 [(18, 400), (0, iro x1 (isl 1 x2)), (0, w32 (x2 + 1))] [] m1 r)))) : Ev (d + 1) K_Mo_necks 0 4 [(18, 400), (0, x1), (0, x2)] [] m r := by
  refine Ev_rn (q := (6, [(18, 400), (0, x1), (0, x2)], [(0, 25), (0, x2)], m)) 2 rfl ?_
  refine Ev_icmp rfl (fun hc => ?_) (fun hc => ?_)
  · replace h := h.1 hc
    refine Ev_rn (q := (22, [(18, 400), (0, x1), (0, x2)], [(0, x1)], m)) 1 rfl ?_
    exact Ev_ret rfl rfl h
  · replace h := h.2 hc
    refine Ev_rn (q := (10, [(18, 400), (0, x1), (0, x2)], [(0, x2), (18, 400), (0, x1)], m)) 3 rfl ?_
    obtain ⟨v1, m1, hc, h⟩ := h
    refine Ev_call (rest := [(0, x1)]) rfl rfl (Nat.le_of_ble_eq_true rfl) hc ?_
    refine Ev_if rfl (fun hc => ?_) (fun hc => ?_)
    · replace h := h.1 hc
      refine Ev_rn (q := (4, [(18, 400), (0, iro x1 0), (0, w32 (x2 + 1))], [], m1)) 5 rfl ?_
      exact h
    · replace h := h.2 hc
      refine Ev_rn (q := (4, [(18, 400), (0, iro x1 (isl 1 x2)), (0, w32 (x2 + 1))], [], m1)) 8 rfl ?_
      exact h
theorem b_Mo_paths {d : Nat} {r : Option Vv × Mm} {m : Mm} {x1 x2 : Int} (h : ∃ (v1 : Int) (m1 : Mm), Cl d k_Mo_areCells [(0, x1), (0, x2)] m (some (0, v1), m1) ∧ ((¬ v1 = 0 → ∀ m2 : Mm, m2 = up m1 412 0 x1 → (∀ m3 : Mm, m3 = up m2 413 0 (-1) → (Ev (d + 1) K_Mo_paths 1 24 [(18, 400), (0, x1), (0, x2), (1, 0), (9, 0), (0, 0), (0, isl 1 x1)] [] m3 r))) ∧ (¬ (¬ v1 = 0) → r = (some (1, (-1)), m1)))) : Ev (d + 1) K_Mo_paths 1 0 [(18, 400), (0, x1), (0, x2), (9, 0), (9, 0), (9, 0), (9, 0)] [] m r := by
  refine Ev_rn (q := (2, [(18, 400), (0, x1), (0, x2), (9, 0), (9, 0), (9, 0), (9, 0)], [(0, x2), (0, x1)], m)) 2 rfl ?_
  obtain ⟨v1, m1, hc, h⟩ := h
  refine Ev_call (rest := []) rfl rfl (Nat.le_of_ble_eq_true rfl) hc ?_
  refine Ev_if rfl (fun hc => ?_) (fun hc => ?_)
  · replace h := h.1 hc
    refine Ev_rn (q := (18, [(18, 400), (0, x1), (0, x2), (1, 0), (9, 0), (0, 0), (0, isl 1 x1)], [(0, x1), (0, 0), (308, 412)], m1)) 12 rfl ?_
    refine Ev_iast (n := 26) rfl (by decide) (by decide) ⟨by decide, by decide⟩ ?_
    generalize e2 : up m1 412 0 x1 = m2
    replace h := h m2 e2.symm
    refine Ev_rn (q := (23, [(18, 400), (0, x1), (0, x2), (1, 0), (9, 0), (0, 0), (0, isl 1 x1)], [(0, (-1)), (0, 0), (308, 413)], m2)) 4 rfl ?_
    refine Ev_iast (n := 26) rfl (by decide) (by decide) ⟨by decide, by decide⟩ ?_
    generalize e3 : up m2 413 0 (-1) = m3
    replace h := h m3 e3.symm
    exact h
  · replace h := h.2 hc
    refine Ev_rn (q := (5, [(18, 400), (0, x1), (0, x2), (9, 0), (9, 0), (9, 0), (9, 0)], [(1, (-1))], m1)) 1 rfl ?_
    exact Ev_ret rfl rfl h
theorem b_Mo_paths_24 {d : Nat} {r : Option Vv × Mm} {m : Mm} {x1 x2 x3 x5 x6 : Int} (h : (x5 < 0 → r = (some (1, x3), m)) ∧ (¬ (x5 < 0) → (0 ≤ x5 ∧ x5 < 26) ∧ ((0 ≤ x5 ∧ x5 < 26) ∧ (∀ m1 : Mm, m1 = up m 413 x5 (w32 ((m 413 x5) + 1)) → ((0 ≤ x5 ∧ x5 < 26) ∧ ((m1 412 x5 = x2 → Ev (d + 1) K_Mo_paths 1 46 [(18, 400), (0, x1), (0, x2), (1, x3), (9, 0), (0, x5), (0, x6)] [] m1 r) ∧ (¬ (m1 412 x5 = x2) → (0 ≤ x5 ∧ x5 < 26) ∧ ((¬ m1 413 x5 = 4 → (0 ≤ x5 ∧ x5 < 26) ∧ ((0 ≤ x5 ∧ x5 < 26) ∧ (∃ (v2 : Int) (m2 : Mm), Cl d k_Mo_isOpen [(18, 400), (0, m1 412 x5), (0, m1 413 x5)] m1 (some (0, v2), m2) ∧ ((v2 = 0 → Ev (d + 1) K_Mo_paths 1 24 [(18, 400), (0, x1), (0, x2), (1, x3), (9, 0), (0, x5), (0, x6)] [] m2 r) ∧ (¬ (v2 = 0) → (0 ≤ x5 ∧ x5 < 26) ∧ ((0 ≤ x5 ∧ x5 < 26) ∧ (∃ (v3 : Int) (m3 : Mm), Cl d k_Mo_beside [(0, m2 412 x5), (0, m2 413 x5)] m2 (some (0, v3), m3) ∧ (∃ (v4 : Int) (m4 : Mm), Cl d k_Mo_has [(0, x6), (0, v3)] m3 (some (0, v4), m4) ∧ ((v4 = 0 → (0 ≤ x5 ∧ x5 < 26) ∧ ((0 ≤ x5 ∧ x5 < 26) ∧ (∃ (v5 : Int) (m5 : Mm), Cl d k_Mo_beside [(0, m4 412 x5), (0, m4 413 x5)] m4 (some (0, v5), m5) ∧ ((0 ≤ w32 (x5 + 1) ∧ w32 (x5 + 1) < 26) ∧ (∀ m6 : Mm, m6 = up m5 412 (w32 (x5 + 1)) v5 → ((0 ≤ w32 (x5 + 1) ∧ w32 (x5 + 1) < 26) ∧ (∀ m7 : Mm, m7 = up m6 413 (w32 (x5 + 1)) (-1) → ((0 ≤ w32 (x5 + 1) ∧ w32 (x5 + 1) < 26) ∧ (Ev (d + 1) K_Mo_paths 1 24 [(18, 400), (0, x1), (0, x2), (1, x3), (9, 0), (0, w32 (x5 + 1)), (0, iro x6 (isl 1 (m7 412 (w32 (x5 + 1)))))] [] m7 r))))))))) ∧ (¬ (v4 = 0) → Ev (d + 1) K_Mo_paths 1 24 [(18, 400), (0, x1), (0, x2), (1, x3), (9, 0), (0, x5), (0, x6)] [] m4 r)))))))))) ∧ (¬ (¬ m1 413 x5 = 4) → Ev (d + 1) K_Mo_paths 1 46 [(18, 400), (0, x1), (0, x2), (1, x3), (9, 0), (0, x5), (0, x6)] [] m1 r))))))))) : Ev (d + 1) K_Mo_paths 1 24 [(18, 400), (0, x1), (0, x2), (1, x3), (9, 0), (0, x5), (0, x6)] [] m r := by
  refine Ev_rn (q := (25, [(18, 400), (0, x1), (0, x2), (1, x3), (9, 0), (0, x5), (0, x6)], [(0, x5)], m)) 1 rfl ?_
  refine Ev_if rfl (fun hc => ?_) (fun hc => ?_)
  · replace h := h.1 hc
    refine Ev_rn (q := (129, [(18, 400), (0, x1), (0, x2), (1, x3), (9, 0), (0, x5), (0, x6)], [(1, x3)], m)) 1 rfl ?_
    exact Ev_ret rfl rfl h
  · replace h := h.2 hc
    refine Ev_rn (q := (30, [(18, 400), (0, x1), (0, x2), (1, x3), (9, 0), (0, x5), (0, x6)], [(0, x5), (308, 413), (0, x5), (308, 413)], m)) 4 rfl ?_
    obtain ⟨hc, h⟩ := h
    refine Ev_iald (n := 26) rfl (by decide) (by decide) hc ?_
    refine Ev_rn (q := (33, [(18, 400), (0, x1), (0, x2), (1, x3), (9, 0), (0, x5), (0, x6)], [(0, w32 ((m 413 x5) + 1)), (0, x5), (308, 413)], m)) 2 rfl ?_
    obtain ⟨hc, h⟩ := h
    refine Ev_iast (n := 26) rfl (by decide) (by decide) hc ?_
    generalize e1 : up m 413 x5 (w32 ((m 413 x5) + 1)) = m1
    replace h := h m1 e1.symm
    refine Ev_rn (q := (37, [(18, 400), (0, x1), (0, x2), (1, x3), (9, 0), (0, x5), (0, x6)], [(0, x5), (308, 412)], m1)) 3 rfl ?_
    obtain ⟨hc, h⟩ := h
    refine Ev_iald (n := 26) rfl (by decide) (by decide) hc ?_
    refine Ev_rn (q := (39, [(18, 400), (0, x1), (0, x2), (1, x3), (9, 0), (0, x5), (0, x6)], [(0, x2), (0, m1 412 x5)], m1)) 1 rfl ?_
    refine Ev_icmp rfl (fun hc => ?_) (fun hc => ?_)
    · replace h := h.1 hc
      exact h
    · replace h := h.2 hc
      refine Ev_rn (q := (43, [(18, 400), (0, x1), (0, x2), (1, x3), (9, 0), (0, x5), (0, x6)], [(0, x5), (308, 413)], m1)) 3 rfl ?_
      obtain ⟨hc, h⟩ := h
      refine Ev_iald (n := 26) rfl (by decide) (by decide) hc ?_
      refine Ev_rn (q := (45, [(18, 400), (0, x1), (0, x2), (1, x3), (9, 0), (0, x5), (0, x6)], [(0, 4), (0, m1 413 x5)], m1)) 1 rfl ?_
      refine Ev_icmp rfl (fun hc => ?_) (fun hc => ?_)
      · replace h := h.1 hc
        refine Ev_rn (q := (75, [(18, 400), (0, x1), (0, x2), (1, x3), (9, 0), (0, x5), (0, x6)], [(0, x5), (308, 412), (18, 400)], m1)) 4 rfl ?_
        obtain ⟨hc, h⟩ := h
        refine Ev_iald (n := 26) rfl (by decide) (by decide) hc ?_
        refine Ev_rn (q := (79, [(18, 400), (0, x1), (0, x2), (1, x3), (9, 0), (0, x5), (0, x6)], [(0, x5), (308, 413), (0, m1 412 x5), (18, 400)], m1)) 3 rfl ?_
        obtain ⟨hc, h⟩ := h
        refine Ev_iald (n := 26) rfl (by decide) (by decide) hc ?_
        obtain ⟨v2, m2, hc, h⟩ := h
        refine Ev_call (rest := []) rfl rfl (Nat.le_of_ble_eq_true rfl) hc ?_
        refine Ev_if rfl (fun hc => ?_) (fun hc => ?_)
        · replace h := h.1 hc
          exact h
        · replace h := h.2 hc
          refine Ev_rn (q := (86, [(18, 400), (0, x1), (0, x2), (1, x3), (9, 0), (0, x5), (0, x6)], [(0, x5), (308, 412), (0, x6)], m2)) 4 rfl ?_
          obtain ⟨hc, h⟩ := h
          refine Ev_iald (n := 26) rfl (by decide) (by decide) hc ?_
          refine Ev_rn (q := (90, [(18, 400), (0, x1), (0, x2), (1, x3), (9, 0), (0, x5), (0, x6)], [(0, x5), (308, 413), (0, m2 412 x5), (0, x6)], m2)) 3 rfl ?_
          obtain ⟨hc, h⟩ := h
          refine Ev_iald (n := 26) rfl (by decide) (by decide) hc ?_
          obtain ⟨v3, m3, hc, h⟩ := h
          refine Ev_call (rest := [(0, x6)]) rfl rfl (Nat.le_of_ble_eq_true rfl) hc ?_
          obtain ⟨v4, m4, hc, h⟩ := h
          refine Ev_call (rest := []) rfl rfl (Nat.le_of_ble_eq_true rfl) hc ?_
          refine Ev_if rfl (fun hc => ?_) (fun hc => ?_)
          · replace h := h.1 hc
            refine Ev_rn (q := (103, [(18, 400), (0, x1), (0, x2), (1, x3), (9, 0), (0, x5), (0, x6)], [(0, x5), (308, 412), (0, w32 (x5 + 1)), (308, 412)], m4)) 8 rfl ?_
            obtain ⟨hc, h⟩ := h
            refine Ev_iald (n := 26) rfl (by decide) (by decide) hc ?_
            refine Ev_rn (q := (107, [(18, 400), (0, x1), (0, x2), (1, x3), (9, 0), (0, x5), (0, x6)], [(0, x5), (308, 413), (0, m4 412 x5), (0, w32 (x5 + 1)), (308, 412)], m4)) 3 rfl ?_
            obtain ⟨hc, h⟩ := h
            refine Ev_iald (n := 26) rfl (by decide) (by decide) hc ?_
            obtain ⟨v5, m5, hc, h⟩ := h
            refine Ev_call (rest := [(0, w32 (x5 + 1)), (308, 412)]) rfl rfl (Nat.le_of_ble_eq_true rfl) hc ?_
            obtain ⟨hc, h⟩ := h
            refine Ev_iast (n := 26) rfl (by decide) (by decide) hc ?_
            generalize e6 : up m5 412 (w32 (x5 + 1)) v5 = m6
            replace h := h m6 e6.symm
            refine Ev_rn (q := (116, [(18, 400), (0, x1), (0, x2), (1, x3), (9, 0), (0, x5), (0, x6)], [(0, (-1)), (0, w32 (x5 + 1)), (308, 413)], m6)) 6 rfl ?_
            obtain ⟨hc, h⟩ := h
            refine Ev_iast (n := 26) rfl (by decide) (by decide) hc ?_
            generalize e7 : up m6 413 (w32 (x5 + 1)) (-1) = m7
            replace h := h m7 e7.symm
            refine Ev_rn (q := (123, [(18, 400), (0, x1), (0, x2), (1, x3), (9, 0), (0, w32 (x5 + 1)), (0, x6)], [(0, w32 (x5 + 1)), (308, 412), (0, 1), (0, x6)], m7)) 6 rfl ?_
            obtain ⟨hc, h⟩ := h
            refine Ev_iald (n := 26) rfl (by decide) (by decide) hc ?_
            refine Ev_rn (q := (24, [(18, 400), (0, x1), (0, x2), (1, x3), (9, 0), (0, w32 (x5 + 1)), (0, iro x6 (isl 1 (m7 412 (w32 (x5 + 1)))))], [], m7)) 4 rfl ?_
            exact h
          · replace h := h.2 hc
            refine Ev_rn (q := (24, [(18, 400), (0, x1), (0, x2), (1, x3), (9, 0), (0, x5), (0, x6)], [], m4)) 1 rfl ?_
            exact h
      · replace h := h.2 hc
        exact h
theorem b_Mo_paths_46 {d : Nat} {r : Option Vv × Mm} {m : Mm} {x1 x2 x3 x5 x6 : Int} (h : (0 ≤ x5 ∧ x5 < 26) ∧ ((¬ m 412 x5 = x2 → (0 ≤ x5 ∧ x5 < 26) ∧ (Ev (d + 1) K_Mo_paths 1 24 [(18, 400), (0, x1), (0, x2), (1, w64 (x3 + 0)), (9, 0), (0, w32 (x5 + (-1))), (0, ian x6 (ixo (isl 1 (m 412 x5)) (-1)))] [] m r)) ∧ (¬ (¬ m 412 x5 = x2) → (0 ≤ x5 ∧ x5 < 26) ∧ (Ev (d + 1) K_Mo_paths 1 24 [(18, 400), (0, x1), (0, x2), (1, w64 (x3 + 1)), (9, 0), (0, w32 (x5 + (-1))), (0, ian x6 (ixo (isl 1 (m 412 x5)) (-1)))] [] m r)))) : Ev (d + 1) K_Mo_paths 1 46 [(18, 400), (0, x1), (0, x2), (1, x3), (9, 0), (0, x5), (0, x6)] [] m r := by
  refine Ev_rn (q := (50, [(18, 400), (0, x1), (0, x2), (1, x3), (9, 0), (0, x5), (0, x6)], [(0, x5), (308, 412), (1, x3)], m)) 4 rfl ?_
  obtain ⟨hc, h⟩ := h
  refine Ev_iald (n := 26) rfl (by decide) (by decide) hc ?_
  refine Ev_rn (q := (52, [(18, 400), (0, x1), (0, x2), (1, x3), (9, 0), (0, x5), (0, x6)], [(0, x2), (0, m 412 x5), (1, x3)], m)) 1 rfl ?_
  refine Ev_icmp rfl (fun hc => ?_) (fun hc => ?_)
  · replace h := h.1 hc
    refine Ev_rn (q := (63, [(18, 400), (0, x1), (0, x2), (1, w64 (x3 + 0)), (9, 0), (0, x5), (0, x6)], [(0, x5), (308, 412), (0, 1), (0, x6)], m)) 8 rfl ?_
    obtain ⟨hc, h⟩ := h
    refine Ev_iald (n := 26) rfl (by decide) (by decide) hc ?_
    refine Ev_rn (q := (24, [(18, 400), (0, x1), (0, x2), (1, w64 (x3 + 0)), (9, 0), (0, w32 (x5 + (-1))), (0, ian x6 (ixo (isl 1 (m 412 x5)) (-1)))], [], m)) 7 rfl ?_
    exact h
  · replace h := h.2 hc
    refine Ev_rn (q := (63, [(18, 400), (0, x1), (0, x2), (1, w64 (x3 + 1)), (9, 0), (0, x5), (0, x6)], [(0, x5), (308, 412), (0, 1), (0, x6)], m)) 9 rfl ?_
    obtain ⟨hc, h⟩ := h
    refine Ev_iald (n := 26) rfl (by decide) (by decide) hc ?_
    refine Ev_rn (q := (24, [(18, 400), (0, x1), (0, x2), (1, w64 (x3 + 1)), (9, 0), (0, w32 (x5 + (-1))), (0, ian x6 (ixo (isl 1 (m 412 x5)) (-1)))], [], m)) 7 rfl ?_
    exact h
theorem b_Mo_walk {d : Nat} {r : Option Vv × Mm} {m : Mm} {x1 x2 : Int} (h : ∃ (v1 : Int) (m1 : Mm), Cl d k_Mo_isCow [(18, 400), (0, x1)] m (some (0, v1), m1) ∧ ((¬ v1 = 0 → Ev (d + 1) K_Mo_walk 0 8 [(18, 400), (0, x1), (0, x2), (0, 0), (9, 0), (9, 0), (9, 0)] [] m1 r) ∧ (¬ (¬ v1 = 0) → r = (some (0, (-1)), m1)))) : Ev (d + 1) K_Mo_walk 0 0 [(18, 400), (0, x1), (0, x2), (9, 0), (9, 0), (9, 0), (9, 0)] [] m r := by
  refine Ev_rn (q := (2, [(18, 400), (0, x1), (0, x2), (9, 0), (9, 0), (9, 0), (9, 0)], [(0, x1), (18, 400)], m)) 2 rfl ?_
  obtain ⟨v1, m1, hc, h⟩ := h
  refine Ev_call (rest := []) rfl rfl (Nat.le_of_ble_eq_true rfl) hc ?_
  refine Ev_if rfl (fun hc => ?_) (fun hc => ?_)
  · replace h := h.1 hc
    refine Ev_rn (q := (8, [(18, 400), (0, x1), (0, x2), (0, 0), (9, 0), (9, 0), (9, 0)], [], m1)) 2 rfl ?_
    exact h
  · replace h := h.2 hc
    refine Ev_rn (q := (5, [(18, 400), (0, x1), (0, x2), (9, 0), (9, 0), (9, 0), (9, 0)], [(0, (-1))], m1)) 1 rfl ?_
    exact Ev_ret rfl rfl h
theorem b_Mo_walk_8 {d : Nat} {r : Option Vv × Mm} {m : Mm} {x1 x2 x3 : Int} {u4 u5 u6 : Vv} (h : (100 ≤ x3 → ∃ (v1 : Int) (m1 : Mm), Cl d k_Mo_cellOf [(18, 400), (0, x1)] m (some (0, v1), m1) ∧ (∃ (v2 : Int) (m2 : Mm), Cl d k_Mo_wayOf [(18, 400), (0, x1)] m1 (some (0, v2), m2) ∧ (Ev (d + 1) K_Mo_walk 0 28 [(18, 400), (0, x1), (0, x2), (0, v1), (0, v2), (0, 0), u6] [] m2 r))) ∧ (¬ (100 ≤ x3) → (0 ≤ x3 ∧ x3 < 100) ∧ (∀ m3 : Mm, m3 = up m 414 x3 (-1) → (Ev (d + 1) K_Mo_walk 0 8 [(18, 400), (0, x1), (0, x2), (0, w32 (x3 + 1)), u4, u5, u6] [] m3 r)))) : Ev (d + 1) K_Mo_walk 0 8 [(18, 400), (0, x1), (0, x2), (0, x3), u4, u5, u6] [] m r := by
  refine Ev_rn (q := (10, [(18, 400), (0, x1), (0, x2), (0, x3), u4, u5, u6], [(0, 100), (0, x3)], m)) 2 rfl ?_
  refine Ev_icmp rfl (fun hc => ?_) (fun hc => ?_)
  · replace h := h.1 hc
    refine Ev_rn (q := (20, [(18, 400), (0, x1), (0, x2), (0, x3), u4, u5, u6], [(0, x1), (18, 400)], m)) 2 rfl ?_
    obtain ⟨v1, m1, hc, h⟩ := h
    refine Ev_call (rest := []) rfl rfl (Nat.le_of_ble_eq_true rfl) hc ?_
    refine Ev_rn (q := (24, [(18, 400), (0, x1), (0, x2), (0, v1), u4, u5, u6], [(0, x1), (18, 400)], m1)) 3 rfl ?_
    obtain ⟨v2, m2, hc, h⟩ := h
    refine Ev_call (rest := []) rfl rfl (Nat.le_of_ble_eq_true rfl) hc ?_
    refine Ev_rn (q := (28, [(18, 400), (0, x1), (0, x2), (0, v1), (0, v2), (0, 0), u6], [], m2)) 3 rfl ?_
    exact h
  · replace h := h.2 hc
    refine Ev_rn (q := (15, [(18, 400), (0, x1), (0, x2), (0, x3), u4, u5, u6], [(0, (-1)), (0, x3), (900, 414)], m)) 4 rfl ?_
    obtain ⟨hc, h⟩ := h
    refine Ev_iast (n := 100) rfl (by decide) (by decide) hc ?_
    generalize e3 : up m 414 x3 (-1) = m3
    replace h := h m3 e3.symm
    refine Ev_rn (q := (8, [(18, 400), (0, x1), (0, x2), (0, w32 (x3 + 1)), u4, u5, u6], [], m3)) 2 rfl ?_
    exact h
theorem b_Mo_walk_28 {d : Nat} {r : Option Vv × Mm} {m : Mm} {x1 x2 x3 x4 x5 : Int} {u6 : Vv} (h : (x3 = (-1) → Ev (d + 1) K_Mo_walk 0 83 [(18, 400), (0, x1), (0, x2), (0, x3), (0, x4), (0, x5), u6] [] m r) ∧ (¬ (x3 = (-1)) → (0 ≤ w32 ((w32 (4 * x3)) + x4) ∧ w32 ((w32 (4 * x3)) + x4) < 100) ∧ ((¬ m 414 (w32 ((w32 (4 * x3)) + x4)) = (-1) → Ev (d + 1) K_Mo_walk 0 83 [(18, 400), (0, x1), (0, x2), (0, x3), (0, x4), (0, x5), u6] [] m r) ∧ (¬ (¬ m 414 (w32 ((w32 (4 * x3)) + x4)) = (-1)) → (0 ≤ w32 ((w32 (4 * x3)) + x4) ∧ w32 ((w32 (4 * x3)) + x4) < 100) ∧ (∀ m1 : Mm, m1 = up m 414 (w32 ((w32 (4 * x3)) + x4)) x5 → (∃ (v2 : Int) (m2 : Mm), Cl d k_Mo_onward [(18, 400), (0, x3), (0, x4)] m1 (some (0, v2), m2) ∧ ((¬ v2 = (-1) → ∃ (v3 : Int) (m3 : Mm), Cl d k_Mo_beside [(0, x3), (0, v2)] m2 (some (0, v3), m3) ∧ (∃ (v4 : Int) (m4 : Mm), Cl d k_Mo_has [(0, m2 401 31), (0, v3)] m3 (some (0, v4), m4) ∧ ((v4 = 0 → ∃ (v5 : Int) (m5 : Mm), Cl d k_Mo_beside [(0, x3), (0, v2)] m4 (some (0, v5), m5) ∧ (Ev (d + 1) K_Mo_walk 0 28 [(18, 400), (0, x1), (0, x2), (0, v5), (0, v2), (0, w32 (x5 + 1)), (0, v2)] [] m5 r)) ∧ (¬ (v4 = 0) → Ev (d + 1) K_Mo_walk 0 28 [(18, 400), (0, x1), (0, x2), (0, (-1)), (0, v2), (0, w32 (x5 + 1)), (0, v2)] [] m4 r)))) ∧ (¬ (¬ v2 = (-1)) → (x2 = 0 → r = (some (0, (-1)), m2)) ∧ (¬ (x2 = 0) → r = (some (0, 0), m2)))))))))) : Ev (d + 1) K_Mo_walk 0 28 [(18, 400), (0, x1), (0, x2), (0, x3), (0, x4), (0, x5), u6] [] m r := by
  refine Ev_rn (q := (30, [(18, 400), (0, x1), (0, x2), (0, x3), (0, x4), (0, x5), u6], [(0, (-1)), (0, x3)], m)) 2 rfl ?_
  refine Ev_icmp rfl (fun hc => ?_) (fun hc => ?_)
  · replace h := h.1 hc
    exact h
  · replace h := h.2 hc
    refine Ev_rn (q := (38, [(18, 400), (0, x1), (0, x2), (0, x3), (0, x4), (0, x5), u6], [(0, w32 ((w32 (4 * x3)) + x4)), (900, 414)], m)) 7 rfl ?_
    obtain ⟨hc, h⟩ := h
    refine Ev_iald (n := 100) rfl (by decide) (by decide) hc ?_
    refine Ev_rn (q := (40, [(18, 400), (0, x1), (0, x2), (0, x3), (0, x4), (0, x5), u6], [(0, (-1)), (0, m 414 (w32 ((w32 (4 * x3)) + x4)))], m)) 1 rfl ?_
    refine Ev_icmp rfl (fun hc => ?_) (fun hc => ?_)
    · replace h := h.1 hc
      exact h
    · replace h := h.2 hc
      refine Ev_rn (q := (49, [(18, 400), (0, x1), (0, x2), (0, x3), (0, x4), (0, x5), u6], [(0, x5), (0, w32 ((w32 (4 * x3)) + x4)), (900, 414)], m)) 8 rfl ?_
      obtain ⟨hc, h⟩ := h
      refine Ev_iast (n := 100) rfl (by decide) (by decide) hc ?_
      generalize e1 : up m 414 (w32 ((w32 (4 * x3)) + x4)) x5 = m1
      replace h := h m1 e1.symm
      refine Ev_rn (q := (53, [(18, 400), (0, x1), (0, x2), (0, x3), (0, x4), (0, x5), u6], [(0, x4), (0, x3), (18, 400)], m1)) 3 rfl ?_
      obtain ⟨v2, m2, hc, h⟩ := h
      refine Ev_call (rest := []) rfl rfl (Nat.le_of_ble_eq_true rfl) hc ?_
      refine Ev_rn (q := (57, [(18, 400), (0, x1), (0, x2), (0, x3), (0, x4), (0, x5), (0, v2)], [(0, (-1)), (0, v2)], m2)) 3 rfl ?_
      refine Ev_icmp rfl (fun hc => ?_) (fun hc => ?_)
      · replace h := h.1 hc
        refine Ev_rn (q := (67, [(18, 400), (0, x1), (0, x2), (0, x3), (0, x4), (0, x5), (0, v2)], [(0, 31), (11828, 401)], m2)) 3 rfl ?_
        refine Ev_iald (n := 1466) rfl (by decide) (by decide) ⟨by decide, by decide⟩ ?_
        refine Ev_rn (q := (70, [(18, 400), (0, x1), (0, x2), (0, x3), (0, x4), (0, x5), (0, v2)], [(0, v2), (0, x3), (0, m2 401 31)], m2)) 2 rfl ?_
        obtain ⟨v3, m3, hc, h⟩ := h
        refine Ev_call (rest := [(0, m2 401 31)]) rfl rfl (Nat.le_of_ble_eq_true rfl) hc ?_
        obtain ⟨v4, m4, hc, h⟩ := h
        refine Ev_call (rest := []) rfl rfl (Nat.le_of_ble_eq_true rfl) hc ?_
        refine Ev_if rfl (fun hc => ?_) (fun hc => ?_)
        · replace h := h.1 hc
          refine Ev_rn (q := (77, [(18, 400), (0, x1), (0, x2), (0, x3), (0, x4), (0, x5), (0, v2)], [(0, v2), (0, x3)], m4)) 2 rfl ?_
          obtain ⟨v5, m5, hc, h⟩ := h
          refine Ev_call (rest := []) rfl rfl (Nat.le_of_ble_eq_true rfl) hc ?_
          refine Ev_rn (q := (28, [(18, 400), (0, x1), (0, x2), (0, v5), (0, v2), (0, w32 (x5 + 1)), (0, v2)], [], m5)) 5 rfl ?_
          exact h
        · replace h := h.2 hc
          refine Ev_rn (q := (28, [(18, 400), (0, x1), (0, x2), (0, (-1)), (0, v2), (0, w32 (x5 + 1)), (0, v2)], [], m4)) 7 rfl ?_
          exact h
      · replace h := h.2 hc
        refine Ev_rn (q := (59, [(18, 400), (0, x1), (0, x2), (0, x3), (0, x4), (0, x5), (0, v2)], [(0, x2)], m2)) 1 rfl ?_
        refine Ev_if rfl (fun hc => ?_) (fun hc => ?_)
        · replace h := h.1 hc
          refine Ev_rn (q := (63, [(18, 400), (0, x1), (0, x2), (0, x3), (0, x4), (0, x5), (0, v2)], [(0, (-1))], m2)) 1 rfl ?_
          exact Ev_ret rfl rfl h
        · replace h := h.2 hc
          refine Ev_rn (q := (63, [(18, 400), (0, x1), (0, x2), (0, x3), (0, x4), (0, x5), (0, v2)], [(0, 0)], m2)) 2 rfl ?_
          exact Ev_ret rfl rfl h
theorem b_Mo_walk_83 {d : Nat} {r : Option Vv × Mm} {m : Mm} {x1 x2 x3 x4 x5 : Int} {u6 : Vv} (h : (¬ x3 = (-1) → (x2 = 0 → r = (some (0, (-1)), m)) ∧ (¬ (x2 = 0) → (0 ≤ w32 ((w32 (4 * x3)) + x4) ∧ w32 ((w32 (4 * x3)) + x4) < 100) ∧ (r = (some (0, w32 (x5 - (m 414 (w32 ((w32 (4 * x3)) + x4))))), m)))) ∧ (¬ (¬ x3 = (-1)) → (x2 = 0 → r = (some (0, x5), m)) ∧ (¬ (x2 = 0) → r = (some (0, (-1)), m)))) : Ev (d + 1) K_Mo_walk 0 83 [(18, 400), (0, x1), (0, x2), (0, x3), (0, x4), (0, x5), u6] [] m r := by
  refine Ev_rn (q := (85, [(18, 400), (0, x1), (0, x2), (0, x3), (0, x4), (0, x5), u6], [(0, (-1)), (0, x3)], m)) 2 rfl ?_
  refine Ev_icmp rfl (fun hc => ?_) (fun hc => ?_)
  · replace h := h.1 hc
    refine Ev_rn (q := (93, [(18, 400), (0, x1), (0, x2), (0, x3), (0, x4), (0, x5), u6], [(0, x2)], m)) 1 rfl ?_
    refine Ev_if rfl (fun hc => ?_) (fun hc => ?_)
    · replace h := h.1 hc
      refine Ev_rn (q := (106, [(18, 400), (0, x1), (0, x2), (0, x3), (0, x4), (0, x5), u6], [(0, (-1))], m)) 1 rfl ?_
      exact Ev_ret rfl rfl h
    · replace h := h.2 hc
      refine Ev_rn (q := (102, [(18, 400), (0, x1), (0, x2), (0, x3), (0, x4), (0, x5), u6], [(0, w32 ((w32 (4 * x3)) + x4)), (900, 414), (0, x5)], m)) 8 rfl ?_
      obtain ⟨hc, h⟩ := h
      refine Ev_iald (n := 100) rfl (by decide) (by decide) hc ?_
      refine Ev_rn (q := (106, [(18, 400), (0, x1), (0, x2), (0, x3), (0, x4), (0, x5), u6], [(0, w32 (x5 - (m 414 (w32 ((w32 (4 * x3)) + x4)))))], m)) 2 rfl ?_
      exact Ev_ret rfl rfl h
  · replace h := h.2 hc
    refine Ev_rn (q := (87, [(18, 400), (0, x1), (0, x2), (0, x3), (0, x4), (0, x5), u6], [(0, x2)], m)) 1 rfl ?_
    refine Ev_if rfl (fun hc => ?_) (fun hc => ?_)
    · replace h := h.1 hc
      refine Ev_rn (q := (106, [(18, 400), (0, x1), (0, x2), (0, x3), (0, x4), (0, x5), u6], [(0, x5)], m)) 2 rfl ?_
      exact Ev_ret rfl rfl h
    · replace h := h.2 hc
      refine Ev_rn (q := (106, [(18, 400), (0, x1), (0, x2), (0, x3), (0, x4), (0, x5), u6], [(0, (-1))], m)) 2 rfl ?_
      exact Ev_ret rfl rfl h
theorem b_Mo_home {d : Nat} {r : Option Vv × Mm} {m : Mm} {x1 : Int} (h : ∃ (v1 : Int) (m1 : Mm), Cl d k_Mo_isIn [(0, x1), (0, 0), (0, 99)] m (some (0, v1), m1) ∧ ((¬ v1 = 0 → Ev (d + 1) K_Mo_home 0 11 [(18, 400), (0, x1), (0, 0), (0, 0), (9, 0), (9, 0)] [] m1 r) ∧ (¬ (¬ v1 = 0) → r = (some (0, (-1)), m1)))) : Ev (d + 1) K_Mo_home 0 0 [(18, 400), (0, x1), (9, 0), (9, 0), (9, 0), (9, 0)] [] m r := by
  refine Ev_rn (q := (3, [(18, 400), (0, x1), (9, 0), (9, 0), (9, 0), (9, 0)], [(0, 99), (0, 0), (0, x1)], m)) 3 rfl ?_
  obtain ⟨v1, m1, hc, h⟩ := h
  refine Ev_call (rest := []) rfl rfl (Nat.le_of_ble_eq_true rfl) hc ?_
  refine Ev_if rfl (fun hc => ?_) (fun hc => ?_)
  · replace h := h.1 hc
    refine Ev_rn (q := (11, [(18, 400), (0, x1), (0, 0), (0, 0), (9, 0), (9, 0)], [], m1)) 4 rfl ?_
    exact h
  · replace h := h.2 hc
    refine Ev_rn (q := (6, [(18, 400), (0, x1), (9, 0), (9, 0), (9, 0), (9, 0)], [(0, (-1))], m1)) 1 rfl ?_
    exact Ev_ret rfl rfl h
theorem b_Mo_home_11 {d : Nat} {r : Option Vv × Mm} {m : Mm} {x1 x2 x3 : Int} {u4 u5 : Vv} (h : (m 401 1 ≤ x3 → r = (some (0, x2), m)) ∧ (¬ (m 401 1 ≤ x3) → ∃ (v1 : Int) (m1 : Mm), Cl d k_Mo_isHome [(18, 400), (0, x3)] m (some (0, v1), m1) ∧ ((¬ v1 = 0 → Ev (d + 1) K_Mo_home 0 31 [(18, 400), (0, x1), (0, x2), (0, x3), (0, v1), (0, 0)] [] m1 r) ∧ (¬ (¬ v1 = 0) → ∃ (v2 : Int) (m2 : Mm), Cl d k_Mo_cellOf [(18, 400), (0, x3)] m1 (some (0, v2), m2) ∧ (∃ (m3 : Mm), Cl d k_Mo_layFar [(18, 400), (0, v2), (0, 0)] m2 (none, m3) ∧ (Ev (d + 1) K_Mo_home 0 31 [(18, 400), (0, x1), (0, x2), (0, x3), (0, v1), (0, 0)] [] m3 r)))))) : Ev (d + 1) K_Mo_home 0 11 [(18, 400), (0, x1), (0, x2), (0, x3), u4, u5] [] m r := by
  refine Ev_rn (q := (15, [(18, 400), (0, x1), (0, x2), (0, x3), u4, u5], [(0, 1), (11828, 401), (0, x3)], m)) 4 rfl ?_
  refine Ev_iald (n := 1466) rfl (by decide) (by decide) ⟨by decide, by decide⟩ ?_
  refine Ev_icmp rfl (fun hc => ?_) (fun hc => ?_)
  · replace h := h.1 hc
    refine Ev_rn (q := (68, [(18, 400), (0, x1), (0, x2), (0, x3), u4, u5], [(0, x2)], m)) 1 rfl ?_
    exact Ev_ret rfl rfl h
  · replace h := h.2 hc
    refine Ev_rn (q := (19, [(18, 400), (0, x1), (0, x2), (0, x3), u4, u5], [(0, x3), (18, 400)], m)) 2 rfl ?_
    obtain ⟨v1, m1, hc, h⟩ := h
    refine Ev_call (rest := []) rfl rfl (Nat.le_of_ble_eq_true rfl) hc ?_
    refine Ev_rn (q := (22, [(18, 400), (0, x1), (0, x2), (0, x3), (0, v1), u5], [(0, v1)], m1)) 2 rfl ?_
    refine Ev_if rfl (fun hc => ?_) (fun hc => ?_)
    · replace h := h.1 hc
      refine Ev_rn (q := (31, [(18, 400), (0, x1), (0, x2), (0, x3), (0, v1), (0, 0)], [], m1)) 2 rfl ?_
      exact h
    · replace h := h.2 hc
      refine Ev_rn (q := (26, [(18, 400), (0, x1), (0, x2), (0, x3), (0, v1), u5], [(0, x3), (18, 400), (18, 400)], m1)) 3 rfl ?_
      obtain ⟨v2, m2, hc, h⟩ := h
      refine Ev_call (rest := [(18, 400)]) rfl rfl (Nat.le_of_ble_eq_true rfl) hc ?_
      refine Ev_rn (q := (28, [(18, 400), (0, x1), (0, x2), (0, x3), (0, v1), u5], [(0, 0), (0, v2), (18, 400)], m2)) 1 rfl ?_
      obtain ⟨m3, hc, h⟩ := h
      refine Ev_call (rest := []) rfl rfl (Nat.le_of_ble_eq_true rfl) hc ?_
      refine Ev_rn (q := (31, [(18, 400), (0, x1), (0, x2), (0, x3), (0, v1), (0, 0)], [], m3)) 2 rfl ?_
      exact h
theorem b_Mo_home_31 {d : Nat} {r : Option Vv × Mm} {m : Mm} {x1 x2 x3 x4 x5 : Int} (h : (25 ≤ x5 → Ev (d + 1) K_Mo_home 0 55 [(18, 400), (0, x1), (0, x2), (0, x3), (0, x4), (0, x5)] [] m r) ∧ (¬ (25 ≤ x5) → (¬ x4 = 0 → Ev (d + 1) K_Mo_home 0 55 [(18, 400), (0, x1), (0, x2), (0, x3), (0, x4), (0, x5)] [] m r) ∧ (¬ (¬ x4 = 0) → ∃ (v1 : Int) (m1 : Mm), Cl d k_Mo_has [(0, m 401 31), (0, x5)] m (some (0, v1), m1) ∧ ((v1 = 0 → Ev (d + 1) K_Mo_home 0 31 [(18, 400), (0, x1), (0, x2), (0, x3), (0, 0), (0, w32 (x5 + 1))] [] m1 r) ∧ (¬ (v1 = 0) → (0 ≤ x5 ∧ x5 < 25) ∧ ((x1 < m1 411 x5 → Ev (d + 1) K_Mo_home 0 31 [(18, 400), (0, x1), (0, x2), (0, x3), (0, 0), (0, w32 (x5 + 1))] [] m1 r) ∧ (¬ (x1 < m1 411 x5) → Ev (d + 1) K_Mo_home 0 31 [(18, 400), (0, x1), (0, x2), (0, x3), (0, 1), (0, w32 (x5 + 1))] [] m1 r))))))) : Ev (d + 1) K_Mo_home 0 31 [(18, 400), (0, x1), (0, x2), (0, x3), (0, x4), (0, x5)] [] m r := by
  refine Ev_rn (q := (33, [(18, 400), (0, x1), (0, x2), (0, x3), (0, x4), (0, x5)], [(0, 25), (0, x5)], m)) 2 rfl ?_
  refine Ev_icmp rfl (fun hc => ?_) (fun hc => ?_)
  · replace h := h.1 hc
    exact h
  · replace h := h.2 hc
    refine Ev_rn (q := (35, [(18, 400), (0, x1), (0, x2), (0, x3), (0, x4), (0, x5)], [(0, x4)], m)) 1 rfl ?_
    refine Ev_if rfl (fun hc => ?_) (fun hc => ?_)
    · replace h := h.1 hc
      exact h
    · replace h := h.2 hc
      refine Ev_rn (q := (39, [(18, 400), (0, x1), (0, x2), (0, x3), (0, x4), (0, x5)], [(0, 31), (11828, 401)], m)) 3 rfl ?_
      refine Ev_iald (n := 1466) rfl (by decide) (by decide) ⟨by decide, by decide⟩ ?_
      refine Ev_rn (q := (41, [(18, 400), (0, x1), (0, x2), (0, x3), (0, x4), (0, x5)], [(0, x5), (0, m 401 31)], m)) 1 rfl ?_
      obtain ⟨v1, m1, hc, h⟩ := h
      refine Ev_call (rest := []) rfl rfl (Nat.le_of_ble_eq_true rfl) hc ?_
      refine Ev_if rfl (fun hc => ?_) (fun hc => ?_)
      · replace h := h.1 hc
        refine Ev_rn (q := (31, [(18, 400), (0, x1), (0, x2), (0, x3), (0, 0), (0, w32 (x5 + 1))], [], m1)) 4 rfl ?_
        exact h
      · replace h := h.2 hc
        refine Ev_rn (q := (46, [(18, 400), (0, x1), (0, x2), (0, x3), (0, x4), (0, x5)], [(0, x5), (300, 411)], m1)) 3 rfl ?_
        obtain ⟨hc, h⟩ := h
        refine Ev_iald (n := 25) rfl (by decide) (by decide) hc ?_
        refine Ev_rn (q := (48, [(18, 400), (0, x1), (0, x2), (0, x3), (0, x4), (0, x5)], [(0, x1), (0, m1 411 x5)], m1)) 1 rfl ?_
        refine Ev_icmp rfl (fun hc => ?_) (fun hc => ?_)
        · replace h := h.1 hc
          refine Ev_rn (q := (31, [(18, 400), (0, x1), (0, x2), (0, x3), (0, 0), (0, w32 (x5 + 1))], [], m1)) 4 rfl ?_
          exact h
        · replace h := h.2 hc
          refine Ev_rn (q := (31, [(18, 400), (0, x1), (0, x2), (0, x3), (0, 1), (0, w32 (x5 + 1))], [], m1)) 5 rfl ?_
          exact h
theorem b_Mo_home_55 {d : Nat} {r : Option Vv × Mm} {m : Mm} {x1 x2 x3 x4 x5 : Int} (h : (x4 = 0 → Ev (d + 1) K_Mo_home 0 11 [(18, 400), (0, x1), (0, iro x2 0), (0, w32 (x3 + 1)), (0, x4), (0, x5)] [] m r) ∧ (¬ (x4 = 0) → Ev (d + 1) K_Mo_home 0 11 [(18, 400), (0, x1), (0, iro x2 (isl 1 x3)), (0, w32 (x3 + 1)), (0, x4), (0, x5)] [] m r)) : Ev (d + 1) K_Mo_home 0 55 [(18, 400), (0, x1), (0, x2), (0, x3), (0, x4), (0, x5)] [] m r := by
  refine Ev_rn (q := (57, [(18, 400), (0, x1), (0, x2), (0, x3), (0, x4), (0, x5)], [(0, x4), (0, x2)], m)) 2 rfl ?_
  refine Ev_if rfl (fun hc => ?_) (fun hc => ?_)
  · replace h := h.1 hc
    refine Ev_rn (q := (11, [(18, 400), (0, x1), (0, iro x2 0), (0, w32 (x3 + 1)), (0, x4), (0, x5)], [], m)) 5 rfl ?_
    exact h
  · replace h := h.2 hc
    refine Ev_rn (q := (11, [(18, 400), (0, x1), (0, iro x2 (isl 1 x3)), (0, w32 (x3 + 1)), (0, x4), (0, x5)], [], m)) 8 rfl ?_
    exact h
theorem b_Mo_gates {d : Nat} {r : Option Vv × Mm} {m : Mm} {x1 x2 : Int} (h : ∃ (v1 : Int) (m1 : Mm), Cl d k_Mo_isIn [(0, x1), (0, 0), (0, 24)] m (some (0, v1), m1) ∧ ((¬ v1 = 0 → ∃ (m2 : Mm), Cl d k_Mo_layReach [(18, 400), (0, x1)] m1 (none, m2) ∧ (Ev (d + 1) K_Mo_gates 0 12 [(18, 400), (0, x1), (0, x2), (0, 1), (9, 0)] [] m2 r)) ∧ (¬ (¬ v1 = 0) → r = (some (0, (-1)), m1)))) : Ev (d + 1) K_Mo_gates 0 0 [(18, 400), (0, x1), (0, x2), (9, 0), (9, 0)] [] m r := by
  refine Ev_rn (q := (3, [(18, 400), (0, x1), (0, x2), (9, 0), (9, 0)], [(0, 24), (0, 0), (0, x1)], m)) 3 rfl ?_
  obtain ⟨v1, m1, hc, h⟩ := h
  refine Ev_call (rest := []) rfl rfl (Nat.le_of_ble_eq_true rfl) hc ?_
  refine Ev_if rfl (fun hc => ?_) (fun hc => ?_)
  · replace h := h.1 hc
    refine Ev_rn (q := (9, [(18, 400), (0, x1), (0, x2), (9, 0), (9, 0)], [(0, x1), (18, 400)], m1)) 2 rfl ?_
    obtain ⟨m2, hc, h⟩ := h
    refine Ev_call (rest := []) rfl rfl (Nat.le_of_ble_eq_true rfl) hc ?_
    refine Ev_rn (q := (12, [(18, 400), (0, x1), (0, x2), (0, 1), (9, 0)], [], m2)) 2 rfl ?_
    exact h
  · replace h := h.2 hc
    refine Ev_rn (q := (6, [(18, 400), (0, x1), (0, x2), (9, 0), (9, 0)], [(0, (-1))], m1)) 1 rfl ?_
    exact Ev_ret rfl rfl h
theorem b_Mo_gates_12 {d : Nat} {r : Option Vv × Mm} {m : Mm} {x1 x2 x3 : Int} {u4 : Vv} (h : (5 ≤ x3 → r = (some (0, (-1)), m)) ∧ (¬ (5 ≤ x3) → ∃ (v1 : Int) (m1 : Mm), Cl d k_Mo_lowestGates [(18, 400), (0, x3)] m (some (0, v1), m1) ∧ ((v1 = (-1) → Ev (d + 1) K_Mo_gates 0 12 [(18, 400), (0, x1), (0, x2), (0, w32 (x3 + 1)), (0, v1)] [] m1 r) ∧ (¬ (v1 = (-1)) → (x2 = 0 → r = (some (0, v1), m1)) ∧ (¬ (x2 = 0) → r = (some (0, x3), m1)))))) : Ev (d + 1) K_Mo_gates 0 12 [(18, 400), (0, x1), (0, x2), (0, x3), u4] [] m r := by
  refine Ev_rn (q := (14, [(18, 400), (0, x1), (0, x2), (0, x3), u4], [(0, 5), (0, x3)], m)) 2 rfl ?_
  refine Ev_icmp rfl (fun hc => ?_) (fun hc => ?_)
  · replace h := h.1 hc
    refine Ev_rn (q := (31, [(18, 400), (0, x1), (0, x2), (0, x3), u4], [(0, (-1))], m)) 1 rfl ?_
    exact Ev_ret rfl rfl h
  · replace h := h.2 hc
    refine Ev_rn (q := (17, [(18, 400), (0, x1), (0, x2), (0, x3), u4], [(0, x3), (18, 400)], m)) 2 rfl ?_
    obtain ⟨v1, m1, hc, h⟩ := h
    refine Ev_call (rest := []) rfl rfl (Nat.le_of_ble_eq_true rfl) hc ?_
    refine Ev_rn (q := (21, [(18, 400), (0, x1), (0, x2), (0, x3), (0, v1)], [(0, (-1)), (0, v1)], m1)) 3 rfl ?_
    refine Ev_icmp rfl (fun hc => ?_) (fun hc => ?_)
    · replace h := h.1 hc
      refine Ev_rn (q := (12, [(18, 400), (0, x1), (0, x2), (0, w32 (x3 + 1)), (0, v1)], [], m1)) 2 rfl ?_
      exact h
    · replace h := h.2 hc
      refine Ev_rn (q := (23, [(18, 400), (0, x1), (0, x2), (0, x3), (0, v1)], [(0, x2)], m1)) 1 rfl ?_
      refine Ev_if rfl (fun hc => ?_) (fun hc => ?_)
      · replace h := h.1 hc
        refine Ev_rn (q := (27, [(18, 400), (0, x1), (0, x2), (0, x3), (0, v1)], [(0, v1)], m1)) 1 rfl ?_
        exact Ev_ret rfl rfl h
      · replace h := h.2 hc
        refine Ev_rn (q := (27, [(18, 400), (0, x1), (0, x2), (0, x3), (0, v1)], [(0, x3)], m1)) 2 rfl ?_
        exact Ev_ret rfl rfl h
theorem b_Mo_layReach {d : Nat} {r : Option Vv × Mm} {m : Mm} {x1 : Int} (h : Ev (d + 1) K_Mo_layReach 3 2 [(18, 400), (0, x1), (0, 0), (9, 0)] [] m r) : Ev (d + 1) K_Mo_layReach 3 0 [(18, 400), (0, x1), (9, 0), (9, 0)] [] m r := by
  refine Ev_rn (q := (2, [(18, 400), (0, x1), (0, 0), (9, 0)], [], m)) 2 rfl ?_
  exact h
theorem b_Mo_layReach_2 {d : Nat} {r : Option Vv × Mm} {m : Mm} {x1 x2 : Int} {u3 : Vv} (h : (25 ≤ x2 → r = (none, m)) ∧ (¬ (25 ≤ x2) → (0 ≤ x2 ∧ x2 < 25) ∧ (∀ m1 : Mm, m1 = up m 415 x2 0 → (∃ (v2 : Int) (m2 : Mm), Cl d k_Mo_isRim [(0, x2)] m1 (some (0, v2), m2) ∧ ((¬ v2 = 0 → ∃ (m3 : Mm), Cl d k_Mo_layFar [(18, 400), (0, x2), (0, 0)] m2 (none, m3) ∧ (Ev (d + 1) K_Mo_layReach 3 20 [(18, 400), (0, x1), (0, x2), (0, 0)] [] m3 r)) ∧ (¬ (¬ v2 = 0) → Ev (d + 1) K_Mo_layReach 3 2 [(18, 400), (0, x1), (0, w32 (x2 + 1)), u3] [] m2 r)))))) : Ev (d + 1) K_Mo_layReach 3 2 [(18, 400), (0, x1), (0, x2), u3] [] m r := by
  refine Ev_rn (q := (4, [(18, 400), (0, x1), (0, x2), u3], [(0, 25), (0, x2)], m)) 2 rfl ?_
  refine Ev_icmp rfl (fun hc => ?_) (fun hc => ?_)
  · replace h := h.1 hc
    exact Ev_ret rfl rfl h
  · replace h := h.2 hc
    refine Ev_rn (q := (9, [(18, 400), (0, x1), (0, x2), u3], [(0, 0), (0, x2), (300, 415)], m)) 4 rfl ?_
    obtain ⟨hc, h⟩ := h
    refine Ev_iast (n := 25) rfl (by decide) (by decide) hc ?_
    generalize e1 : up m 415 x2 0 = m1
    replace h := h m1 e1.symm
    refine Ev_rn (q := (11, [(18, 400), (0, x1), (0, x2), u3], [(0, x2)], m1)) 1 rfl ?_
    obtain ⟨v2, m2, hc, h⟩ := h
    refine Ev_call (rest := []) rfl rfl (Nat.le_of_ble_eq_true rfl) hc ?_
    refine Ev_if rfl (fun hc => ?_) (fun hc => ?_)
    · replace h := h.1 hc
      refine Ev_rn (q := (17, [(18, 400), (0, x1), (0, x2), u3], [(0, 0), (0, x2), (18, 400)], m2)) 3 rfl ?_
      obtain ⟨m3, hc, h⟩ := h
      refine Ev_call (rest := []) rfl rfl (Nat.le_of_ble_eq_true rfl) hc ?_
      refine Ev_rn (q := (20, [(18, 400), (0, x1), (0, x2), (0, 0)], [], m3)) 2 rfl ?_
      exact h
    · replace h := h.2 hc
      refine Ev_rn (q := (2, [(18, 400), (0, x1), (0, w32 (x2 + 1)), u3], [], m2)) 3 rfl ?_
      exact h
theorem b_Mo_layReach_20 {d : Nat} {r : Option Vv × Mm} {m : Mm} {x1 x2 x3 : Int} (h : (25 ≤ x3 → Ev (d + 1) K_Mo_layReach 3 2 [(18, 400), (0, x1), (0, w32 (x2 + 1)), (0, x3)] [] m r) ∧ (¬ (25 ≤ x3) → (0 ≤ x2 ∧ x2 < 25) ∧ ((0 ≤ x3 ∧ x3 < 25) ∧ ((x1 < m 411 x3 → (0 ≤ x2 ∧ x2 < 25) ∧ (∀ m1 : Mm, m1 = up m 415 x2 (iro (m 415 x2) 0) → (Ev (d + 1) K_Mo_layReach 3 20 [(18, 400), (0, x1), (0, x2), (0, w32 (x3 + 1))] [] m1 r))) ∧ (¬ (x1 < m 411 x3) → (0 ≤ x2 ∧ x2 < 25) ∧ (∀ m2 : Mm, m2 = up m 415 x2 (iro (m 415 x2) (isl 1 x3)) → (Ev (d + 1) K_Mo_layReach 3 20 [(18, 400), (0, x1), (0, x2), (0, w32 (x3 + 1))] [] m2 r))))))) : Ev (d + 1) K_Mo_layReach 3 20 [(18, 400), (0, x1), (0, x2), (0, x3)] [] m r := by
  refine Ev_rn (q := (22, [(18, 400), (0, x1), (0, x2), (0, x3)], [(0, 25), (0, x3)], m)) 2 rfl ?_
  refine Ev_icmp rfl (fun hc => ?_) (fun hc => ?_)
  · replace h := h.1 hc
    refine Ev_rn (q := (2, [(18, 400), (0, x1), (0, w32 (x2 + 1)), (0, x3)], [], m)) 2 rfl ?_
    exact h
  · replace h := h.2 hc
    refine Ev_rn (q := (27, [(18, 400), (0, x1), (0, x2), (0, x3)], [(0, x2), (300, 415), (0, x2), (300, 415)], m)) 4 rfl ?_
    obtain ⟨hc, h⟩ := h
    refine Ev_iald (n := 25) rfl (by decide) (by decide) hc ?_
    refine Ev_rn (q := (31, [(18, 400), (0, x1), (0, x2), (0, x3)], [(0, x3), (300, 411), (0, m 415 x2), (0, x2), (300, 415)], m)) 3 rfl ?_
    obtain ⟨hc, h⟩ := h
    refine Ev_iald (n := 25) rfl (by decide) (by decide) hc ?_
    refine Ev_rn (q := (33, [(18, 400), (0, x1), (0, x2), (0, x3)], [(0, x1), (0, m 411 x3), (0, m 415 x2), (0, x2), (300, 415)], m)) 1 rfl ?_
    refine Ev_icmp rfl (fun hc => ?_) (fun hc => ?_)
    · replace h := h.1 hc
      refine Ev_rn (q := (40, [(18, 400), (0, x1), (0, x2), (0, x3)], [(0, iro (m 415 x2) 0), (0, x2), (300, 415)], m)) 2 rfl ?_
      obtain ⟨hc, h⟩ := h
      refine Ev_iast (n := 25) rfl (by decide) (by decide) hc ?_
      generalize e1 : up m 415 x2 (iro (m 415 x2) 0) = m1
      replace h := h m1 e1.symm
      refine Ev_rn (q := (20, [(18, 400), (0, x1), (0, x2), (0, w32 (x3 + 1))], [], m1)) 2 rfl ?_
      exact h
    · replace h := h.2 hc
      refine Ev_rn (q := (40, [(18, 400), (0, x1), (0, x2), (0, x3)], [(0, iro (m 415 x2) (isl 1 x3)), (0, x2), (300, 415)], m)) 5 rfl ?_
      obtain ⟨hc, h⟩ := h
      refine Ev_iast (n := 25) rfl (by decide) (by decide) hc ?_
      generalize e2 : up m 415 x2 (iro (m 415 x2) (isl 1 x3)) = m2
      replace h := h m2 e2.symm
      refine Ev_rn (q := (20, [(18, 400), (0, x1), (0, x2), (0, w32 (x3 + 1))], [], m2)) 2 rfl ?_
      exact h
theorem b_Mo_lowestGates {d : Nat} {r : Option Vv × Mm} {m : Mm} {x1 : Int} (h : ∀ m1 : Mm, m1 = up m 416 0 (-1) → (Ev (d + 1) K_Mo_lowestGates 0 7 [(18, 400), (0, x1), (0, 0), (9, 0), (9, 0), (9, 0), (9, 0)] [] m1 r)) : Ev (d + 1) K_Mo_lowestGates 0 0 [(18, 400), (0, x1), (9, 0), (9, 0), (9, 0), (9, 0), (9, 0)] [] m r := by
  refine Ev_rn (q := (6, [(18, 400), (0, x1), (0, 0), (9, 0), (9, 0), (9, 0), (9, 0)], [(0, (-1)), (0, 0), (132, 416)], m)) 6 rfl ?_
  refine Ev_iast (n := 4) rfl (by decide) (by decide) ⟨by decide, by decide⟩ ?_
  generalize e1 : up m 416 0 (-1) = m1
  replace h := h m1 e1.symm
  exact h
theorem b_Mo_lowestGates_7 {d : Nat} {r : Option Vv × Mm} {m : Mm} {x1 x2 : Int} {u3 u4 u5 u6 : Vv} (h : (x2 < 0 → r = (some (0, (-1)), m)) ∧ (¬ (x2 < 0) → (0 ≤ x2 ∧ x2 < 4) ∧ ((0 ≤ x2 ∧ x2 < 4) ∧ (∀ m1 : Mm, m1 = up m 416 x2 (w32 ((m 416 x2) + 1)) → ((¬ x2 = 0 → (0 ≤ w32 (x2 - 1) ∧ w32 (x2 - 1) < 4) ∧ ((0 ≤ x2 ∧ x2 < 4) ∧ ((m1 416 x2 < m1 416 (w32 (x2 - 1)) → (0 ≤ x2 ∧ x2 < 4) ∧ (∃ (v2 : Int) (m2 : Mm), Cl d k_Mo_isRim [(0, m1 416 x2)] m1 (some (0, v2), m2) ∧ ((¬ v2 = 0 → (w32 (x1 - 1) ≤ x2 → Ev (d + 1) K_Mo_lowestGates 0 61 [(18, 400), (0, x1), (0, x2), (0, m1 416 (w32 (x2 - 1))), (0, 0), (0, 0), (0, 0)] [] m2 r) ∧ (¬ (w32 (x1 - 1) ≤ x2) → (0 ≤ w32 (x2 + 1) ∧ w32 (x2 + 1) < 4) ∧ (∀ m3 : Mm, m3 = up m2 416 (w32 (x2 + 1)) (-1) → (Ev (d + 1) K_Mo_lowestGates 0 7 [(18, 400), (0, x1), (0, w32 (x2 + 1)), (0, m1 416 (w32 (x2 - 1))), u4, u5, u6] [] m3 r)))) ∧ (¬ (¬ v2 = 0) → Ev (d + 1) K_Mo_lowestGates 0 7 [(18, 400), (0, x1), (0, x2), (0, m1 416 (w32 (x2 - 1))), u4, u5, u6] [] m2 r)))) ∧ (¬ (m1 416 x2 < m1 416 (w32 (x2 - 1))) → Ev (d + 1) K_Mo_lowestGates 0 7 [(18, 400), (0, x1), (0, w32 (x2 + (-1))), (0, m1 416 (w32 (x2 - 1))), u4, u5, u6] [] m1 r)))) ∧ (¬ (¬ x2 = 0) → (0 ≤ x2 ∧ x2 < 4) ∧ ((m1 416 x2 < 25 → (0 ≤ x2 ∧ x2 < 4) ∧ (∃ (v4 : Int) (m4 : Mm), Cl d k_Mo_isRim [(0, m1 416 x2)] m1 (some (0, v4), m4) ∧ ((¬ v4 = 0 → (w32 (x1 - 1) ≤ x2 → Ev (d + 1) K_Mo_lowestGates 0 61 [(18, 400), (0, x1), (0, x2), (0, 25), (0, 0), (0, 0), (0, 0)] [] m4 r) ∧ (¬ (w32 (x1 - 1) ≤ x2) → (0 ≤ w32 (x2 + 1) ∧ w32 (x2 + 1) < 4) ∧ (∀ m5 : Mm, m5 = up m4 416 (w32 (x2 + 1)) (-1) → (Ev (d + 1) K_Mo_lowestGates 0 7 [(18, 400), (0, x1), (0, w32 (x2 + 1)), (0, 25), u4, u5, u6] [] m5 r)))) ∧ (¬ (¬ v4 = 0) → Ev (d + 1) K_Mo_lowestGates 0 7 [(18, 400), (0, x1), (0, x2), (0, 25), u4, u5, u6] [] m4 r)))) ∧ (¬ (m1 416 x2 < 25) → Ev (d + 1) K_Mo_lowestGates 0 7 [(18, 400), (0, x1), (0, w32 (x2 + (-1))), (0, 25), u4, u5, u6] [] m1 r)))))))) : Ev (d + 1) K_Mo_lowestGates 0 7 [(18, 400), (0, x1), (0, x2), u3, u4, u5, u6] [] m r := by
  refine Ev_rn (q := (8, [(18, 400), (0, x1), (0, x2), u3, u4, u5, u6], [(0, x2)], m)) 1 rfl ?_
  refine Ev_if rfl (fun hc => ?_) (fun hc => ?_)
  · replace h := h.1 hc
    refine Ev_rn (q := (92, [(18, 400), (0, x1), (0, x2), u3, u4, u5, u6], [(0, (-1))], m)) 1 rfl ?_
    exact Ev_ret rfl rfl h
  · replace h := h.2 hc
    refine Ev_rn (q := (13, [(18, 400), (0, x1), (0, x2), u3, u4, u5, u6], [(0, x2), (132, 416), (0, x2), (132, 416)], m)) 4 rfl ?_
    obtain ⟨hc, h⟩ := h
    refine Ev_iald (n := 4) rfl (by decide) (by decide) hc ?_
    refine Ev_rn (q := (16, [(18, 400), (0, x1), (0, x2), u3, u4, u5, u6], [(0, w32 ((m 416 x2) + 1)), (0, x2), (132, 416)], m)) 2 rfl ?_
    obtain ⟨hc, h⟩ := h
    refine Ev_iast (n := 4) rfl (by decide) (by decide) hc ?_
    generalize e1 : up m 416 x2 (w32 ((m 416 x2) + 1)) = m1
    replace h := h m1 e1.symm
    refine Ev_rn (q := (18, [(18, 400), (0, x1), (0, x2), u3, u4, u5, u6], [(0, x2)], m1)) 1 rfl ?_
    refine Ev_if rfl (fun hc => ?_) (fun hc => ?_)
    · replace h := h.1 hc
      refine Ev_rn (q := (26, [(18, 400), (0, x1), (0, x2), u3, u4, u5, u6], [(0, w32 (x2 - 1)), (132, 416)], m1)) 5 rfl ?_
      obtain ⟨hc, h⟩ := h
      refine Ev_iald (n := 4) rfl (by decide) (by decide) hc ?_
      refine Ev_rn (q := (31, [(18, 400), (0, x1), (0, x2), (0, m1 416 (w32 (x2 - 1))), u4, u5, u6], [(0, x2), (132, 416)], m1)) 4 rfl ?_
      obtain ⟨hc, h⟩ := h
      refine Ev_iald (n := 4) rfl (by decide) (by decide) hc ?_
      refine Ev_rn (q := (33, [(18, 400), (0, x1), (0, x2), (0, m1 416 (w32 (x2 - 1))), u4, u5, u6], [(0, m1 416 (w32 (x2 - 1))), (0, m1 416 x2)], m1)) 1 rfl ?_
      refine Ev_icmp rfl (fun hc => ?_) (fun hc => ?_)
      · replace h := h.1 hc
        refine Ev_rn (q := (39, [(18, 400), (0, x1), (0, x2), (0, m1 416 (w32 (x2 - 1))), u4, u5, u6], [(0, x2), (132, 416)], m1)) 3 rfl ?_
        obtain ⟨hc, h⟩ := h
        refine Ev_iald (n := 4) rfl (by decide) (by decide) hc ?_
        obtain ⟨v2, m2, hc, h⟩ := h
        refine Ev_call (rest := []) rfl rfl (Nat.le_of_ble_eq_true rfl) hc ?_
        refine Ev_if rfl (fun hc => ?_) (fun hc => ?_)
        · replace h := h.1 hc
          refine Ev_rn (q := (47, [(18, 400), (0, x1), (0, x2), (0, m1 416 (w32 (x2 - 1))), u4, u5, u6], [(0, w32 (x1 - 1)), (0, x2)], m2)) 4 rfl ?_
          refine Ev_icmp rfl (fun hc => ?_) (fun hc => ?_)
          · replace h := h.1 hc
            refine Ev_rn (q := (61, [(18, 400), (0, x1), (0, x2), (0, m1 416 (w32 (x2 - 1))), (0, 0), (0, 0), (0, 0)], [], m2)) 6 rfl ?_
            exact h
          · replace h := h.2 hc
            refine Ev_rn (q := (53, [(18, 400), (0, x1), (0, w32 (x2 + 1)), (0, m1 416 (w32 (x2 - 1))), u4, u5, u6], [(0, (-1)), (0, w32 (x2 + 1)), (132, 416)], m2)) 5 rfl ?_
            obtain ⟨hc, h⟩ := h
            refine Ev_iast (n := 4) rfl (by decide) (by decide) hc ?_
            generalize e3 : up m2 416 (w32 (x2 + 1)) (-1) = m3
            replace h := h m3 e3.symm
            refine Ev_rn (q := (7, [(18, 400), (0, x1), (0, w32 (x2 + 1)), (0, m1 416 (w32 (x2 - 1))), u4, u5, u6], [], m3)) 1 rfl ?_
            exact h
        · replace h := h.2 hc
          refine Ev_rn (q := (7, [(18, 400), (0, x1), (0, x2), (0, m1 416 (w32 (x2 - 1))), u4, u5, u6], [], m2)) 1 rfl ?_
          exact h
      · replace h := h.2 hc
        refine Ev_rn (q := (7, [(18, 400), (0, x1), (0, w32 (x2 + (-1))), (0, m1 416 (w32 (x2 - 1))), u4, u5, u6], [], m1)) 2 rfl ?_
        exact h
    · replace h := h.2 hc
      refine Ev_rn (q := (31, [(18, 400), (0, x1), (0, x2), (0, 25), u4, u5, u6], [(0, x2), (132, 416)], m1)) 6 rfl ?_
      obtain ⟨hc, h⟩ := h
      refine Ev_iald (n := 4) rfl (by decide) (by decide) hc ?_
      refine Ev_rn (q := (33, [(18, 400), (0, x1), (0, x2), (0, 25), u4, u5, u6], [(0, 25), (0, m1 416 x2)], m1)) 1 rfl ?_
      refine Ev_icmp rfl (fun hc => ?_) (fun hc => ?_)
      · replace h := h.1 hc
        refine Ev_rn (q := (39, [(18, 400), (0, x1), (0, x2), (0, 25), u4, u5, u6], [(0, x2), (132, 416)], m1)) 3 rfl ?_
        obtain ⟨hc, h⟩ := h
        refine Ev_iald (n := 4) rfl (by decide) (by decide) hc ?_
        obtain ⟨v4, m4, hc, h⟩ := h
        refine Ev_call (rest := []) rfl rfl (Nat.le_of_ble_eq_true rfl) hc ?_
        refine Ev_if rfl (fun hc => ?_) (fun hc => ?_)
        · replace h := h.1 hc
          refine Ev_rn (q := (47, [(18, 400), (0, x1), (0, x2), (0, 25), u4, u5, u6], [(0, w32 (x1 - 1)), (0, x2)], m4)) 4 rfl ?_
          refine Ev_icmp rfl (fun hc => ?_) (fun hc => ?_)
          · replace h := h.1 hc
            refine Ev_rn (q := (61, [(18, 400), (0, x1), (0, x2), (0, 25), (0, 0), (0, 0), (0, 0)], [], m4)) 6 rfl ?_
            exact h
          · replace h := h.2 hc
            refine Ev_rn (q := (53, [(18, 400), (0, x1), (0, w32 (x2 + 1)), (0, 25), u4, u5, u6], [(0, (-1)), (0, w32 (x2 + 1)), (132, 416)], m4)) 5 rfl ?_
            obtain ⟨hc, h⟩ := h
            refine Ev_iast (n := 4) rfl (by decide) (by decide) hc ?_
            generalize e5 : up m4 416 (w32 (x2 + 1)) (-1) = m5
            replace h := h m5 e5.symm
            refine Ev_rn (q := (7, [(18, 400), (0, x1), (0, w32 (x2 + 1)), (0, 25), u4, u5, u6], [], m5)) 1 rfl ?_
            exact h
        · replace h := h.2 hc
          refine Ev_rn (q := (7, [(18, 400), (0, x1), (0, x2), (0, 25), u4, u5, u6], [], m4)) 1 rfl ?_
          exact h
      · replace h := h.2 hc
        refine Ev_rn (q := (7, [(18, 400), (0, x1), (0, w32 (x2 + (-1))), (0, 25), u4, u5, u6], [], m1)) 2 rfl ?_
        exact h
theorem b_Mo_lowestGates_61 {d : Nat} {r : Option Vv × Mm} {m : Mm} {x1 x2 x3 x4 x5 x6 : Int} (h : (x1 ≤ x6 → (¬ x4 = 33554431 → Ev (d + 1) K_Mo_lowestGates 0 7 [(18, 400), (0, x1), (0, x2), (0, x3), (0, x4), (0, x5), (0, x6)] [] m r) ∧ (¬ (¬ x4 = 33554431) → r = (some (0, x5), m))) ∧ (¬ (x1 ≤ x6) → (0 ≤ x6 ∧ x6 < 4) ∧ ((0 ≤ m 416 x6 ∧ m 416 x6 < 25) ∧ ((0 ≤ x6 ∧ x6 < 4) ∧ (Ev (d + 1) K_Mo_lowestGates 0 61 [(18, 400), (0, x1), (0, x2), (0, x3), (0, iro x4 (m 415 (m 416 x6))), (0, iro x5 (isl 1 (m 416 x6))), (0, w32 (x6 + 1))] [] m r))))) : Ev (d + 1) K_Mo_lowestGates 0 61 [(18, 400), (0, x1), (0, x2), (0, x3), (0, x4), (0, x5), (0, x6)] [] m r := by
  refine Ev_rn (q := (63, [(18, 400), (0, x1), (0, x2), (0, x3), (0, x4), (0, x5), (0, x6)], [(0, x1), (0, x6)], m)) 2 rfl ?_
  refine Ev_icmp rfl (fun hc => ?_) (fun hc => ?_)
  · replace h := h.1 hc
    refine Ev_rn (q := (87, [(18, 400), (0, x1), (0, x2), (0, x3), (0, x4), (0, x5), (0, x6)], [(0, 33554431), (0, x4)], m)) 2 rfl ?_
    refine Ev_icmp rfl (fun hc => ?_) (fun hc => ?_)
    · replace h := h.1 hc
      refine Ev_rn (q := (7, [(18, 400), (0, x1), (0, x2), (0, x3), (0, x4), (0, x5), (0, x6)], [], m)) 1 rfl ?_
      exact h
    · replace h := h.2 hc
      refine Ev_rn (q := (89, [(18, 400), (0, x1), (0, x2), (0, x3), (0, x4), (0, x5), (0, x6)], [(0, x5)], m)) 1 rfl ?_
      exact Ev_ret rfl rfl h
  · replace h := h.2 hc
    refine Ev_rn (q := (70, [(18, 400), (0, x1), (0, x2), (0, x3), (0, x4), (0, x5), (0, x6)], [(0, x6), (132, 416), (300, 415), (0, x4)], m)) 6 rfl ?_
    obtain ⟨hc, h⟩ := h
    refine Ev_iald (n := 4) rfl (by decide) (by decide) hc ?_
    obtain ⟨hc, h⟩ := h
    refine Ev_iald (n := 25) rfl (by decide) (by decide) hc ?_
    refine Ev_rn (q := (79, [(18, 400), (0, x1), (0, x2), (0, x3), (0, iro x4 (m 415 (m 416 x6))), (0, x5), (0, x6)], [(0, x6), (132, 416), (0, 1), (0, x5)], m)) 7 rfl ?_
    obtain ⟨hc, h⟩ := h
    refine Ev_iald (n := 4) rfl (by decide) (by decide) hc ?_
    refine Ev_rn (q := (61, [(18, 400), (0, x1), (0, x2), (0, x3), (0, iro x4 (m 415 (m 416 x6))), (0, iro x5 (isl 1 (m 416 x6))), (0, w32 (x6 + 1))], [], m)) 5 rfl ?_
    exact h
theorem b_Mo_turned {d : Nat} {r : Option Vv × Mm} {m : Mm} {x1 x2 x3 : Int} (h : ∃ (v1 : Int) (m1 : Mm), Cl d k_Mo_isHand [(18, 400), (0, x1)] m (some (0, v1), m1) ∧ ((v1 = 0 → r = (some (0, (-1)), m1)) ∧ (¬ (v1 = 0) → ∃ (v2 : Int) (m2 : Mm), Cl d k_Mo_isIn [(0, x2), (0, 0), (0, 7)] m1 (some (0, v2), m2) ∧ ((v2 = 0 → r = (some (0, (-1)), m2)) ∧ (¬ (v2 = 0) → ∃ (v3 : Int) (m3 : Mm), Cl d k_Mo_ofHand [(18, 400), (0, x1), (0, x2), (0, x3)] m2 (some (0, v3), m3) ∧ (r = (some (0, v3), m3))))))) : Ev (d + 1) K_Mo_turned 0 0 [(18, 400), (0, x1), (0, x2), (0, x3)] [] m r := by
  refine Ev_rn (q := (2, [(18, 400), (0, x1), (0, x2), (0, x3)], [(0, x1), (18, 400)], m)) 2 rfl ?_
  obtain ⟨v1, m1, hc, h⟩ := h
  refine Ev_call (rest := []) rfl rfl (Nat.le_of_ble_eq_true rfl) hc ?_
  refine Ev_if rfl (fun hc => ?_) (fun hc => ?_)
  · replace h := h.1 hc
    refine Ev_rn (q := (16, [(18, 400), (0, x1), (0, x2), (0, x3)], [(0, (-1))], m1)) 1 rfl ?_
    exact Ev_ret rfl rfl h
  · replace h := h.2 hc
    refine Ev_rn (q := (7, [(18, 400), (0, x1), (0, x2), (0, x3)], [(0, 7), (0, 0), (0, x2)], m1)) 3 rfl ?_
    obtain ⟨v2, m2, hc, h⟩ := h
    refine Ev_call (rest := []) rfl rfl (Nat.le_of_ble_eq_true rfl) hc ?_
    refine Ev_if rfl (fun hc => ?_) (fun hc => ?_)
    · replace h := h.1 hc
      refine Ev_rn (q := (16, [(18, 400), (0, x1), (0, x2), (0, x3)], [(0, (-1))], m2)) 1 rfl ?_
      exact Ev_ret rfl rfl h
    · replace h := h.2 hc
      refine Ev_rn (q := (13, [(18, 400), (0, x1), (0, x2), (0, x3)], [(0, x3), (0, x2), (0, x1), (18, 400)], m2)) 4 rfl ?_
      obtain ⟨v3, m3, hc, h⟩ := h
      refine Ev_call (rest := []) rfl rfl (Nat.le_of_ble_eq_true rfl) hc ?_
      refine Ev_rn (q := (16, [(18, 400), (0, x1), (0, x2), (0, x3)], [(0, v3)], m3)) 1 rfl ?_
      exact Ev_ret rfl rfl h
theorem b_Mo_unlikeBy {d : Nat} {r : Option Vv × Mm} {m : Mm} {x1 x2 : Int} (h : ∃ (v1 : Int) (m1 : Mm), Cl d k_Mo_ofHand [(18, 400), (0, x1), (0, x2), (0, 0)] m (some (0, v1), m1) ∧ (∃ (v2 : Int) (m2 : Mm), Cl d k_Mo_bits [(0, ixo v1 (m1 401 8))] m1 (some (0, v2), m2) ∧ (∃ (v3 : Int) (m3 : Mm), Cl d k_Mo_ofHand [(18, 400), (0, x1), (0, x2), (0, 1)] m2 (some (0, v3), m3) ∧ (∃ (v4 : Int) (m4 : Mm), Cl d k_Mo_bits [(0, ixo v3 (m3 401 9))] m3 (some (0, v4), m4) ∧ (r = (some (0, w32 (v2 + v4)), m4)))))) : Ev (d + 1) K_Mo_unlikeBy 0 0 [(18, 400), (0, x1), (0, x2)] [] m r := by
  refine Ev_rn (q := (4, [(18, 400), (0, x1), (0, x2)], [(0, 0), (0, x2), (0, x1), (18, 400)], m)) 4 rfl ?_
  obtain ⟨v1, m1, hc, h⟩ := h
  refine Ev_call (rest := []) rfl rfl (Nat.le_of_ble_eq_true rfl) hc ?_
  refine Ev_rn (q := (8, [(18, 400), (0, x1), (0, x2)], [(0, 8), (11828, 401), (0, v1)], m1)) 3 rfl ?_
  refine Ev_iald (n := 1466) rfl (by decide) (by decide) ⟨by decide, by decide⟩ ?_
  refine Ev_rn (q := (10, [(18, 400), (0, x1), (0, x2)], [(0, ixo v1 (m1 401 8))], m1)) 1 rfl ?_
  obtain ⟨v2, m2, hc, h⟩ := h
  refine Ev_call (rest := []) rfl rfl (Nat.le_of_ble_eq_true rfl) hc ?_
  refine Ev_rn (q := (15, [(18, 400), (0, x1), (0, x2)], [(0, 1), (0, x2), (0, x1), (18, 400), (0, v2)], m2)) 4 rfl ?_
  obtain ⟨v3, m3, hc, h⟩ := h
  refine Ev_call (rest := [(0, v2)]) rfl rfl (Nat.le_of_ble_eq_true rfl) hc ?_
  refine Ev_rn (q := (19, [(18, 400), (0, x1), (0, x2)], [(0, 9), (11828, 401), (0, v3), (0, v2)], m3)) 3 rfl ?_
  refine Ev_iald (n := 1466) rfl (by decide) (by decide) ⟨by decide, by decide⟩ ?_
  refine Ev_rn (q := (21, [(18, 400), (0, x1), (0, x2)], [(0, ixo v3 (m3 401 9)), (0, v2)], m3)) 1 rfl ?_
  obtain ⟨v4, m4, hc, h⟩ := h
  refine Ev_call (rest := [(0, v2)]) rfl rfl (Nat.le_of_ble_eq_true rfl) hc ?_
  refine Ev_rn (q := (23, [(18, 400), (0, x1), (0, x2)], [(0, w32 (v2 + v4))], m4)) 1 rfl ?_
  exact Ev_ret rfl rfl h
theorem b_Mo_bestTurn {d : Nat} {r : Option Vv × Mm} {m : Mm} {x1 : Int} (h : Ev (d + 1) K_Mo_bestTurn 0 4 [(18, 400), (0, x1), (0, 0), (0, 1)] [] m r) : Ev (d + 1) K_Mo_bestTurn 0 0 [(18, 400), (0, x1), (9, 0), (9, 0)] [] m r := by
  refine Ev_rn (q := (4, [(18, 400), (0, x1), (0, 0), (0, 1)], [], m)) 4 rfl ?_
  exact h
theorem b_Mo_bestTurn_4 {d : Nat} {r : Option Vv × Mm} {m : Mm} {x1 x2 x3 : Int} (h : (8 ≤ x3 → r = (some (0, x2), m)) ∧ (¬ (8 ≤ x3) → ∃ (v1 : Int) (m1 : Mm), Cl d k_Mo_unlikeBy [(18, 400), (0, x1), (0, x3)] m (some (0, v1), m1) ∧ (∃ (v2 : Int) (m2 : Mm), Cl d k_Mo_unlikeBy [(18, 400), (0, x1), (0, x2)] m1 (some (0, v2), m2) ∧ ((v2 ≤ v1 → Ev (d + 1) K_Mo_bestTurn 0 4 [(18, 400), (0, x1), (0, x2), (0, w32 (x3 + 1))] [] m2 r) ∧ (¬ (v2 ≤ v1) → Ev (d + 1) K_Mo_bestTurn 0 4 [(18, 400), (0, x1), (0, x3), (0, w32 (x3 + 1))] [] m2 r))))) : Ev (d + 1) K_Mo_bestTurn 0 4 [(18, 400), (0, x1), (0, x2), (0, x3)] [] m r := by
  refine Ev_rn (q := (6, [(18, 400), (0, x1), (0, x2), (0, x3)], [(0, 8), (0, x3)], m)) 2 rfl ?_
  refine Ev_icmp rfl (fun hc => ?_) (fun hc => ?_)
  · replace h := h.1 hc
    refine Ev_rn (q := (21, [(18, 400), (0, x1), (0, x2), (0, x3)], [(0, x2)], m)) 1 rfl ?_
    exact Ev_ret rfl rfl h
  · replace h := h.2 hc
    refine Ev_rn (q := (10, [(18, 400), (0, x1), (0, x2), (0, x3)], [(0, x3), (0, x1), (18, 400)], m)) 3 rfl ?_
    obtain ⟨v1, m1, hc, h⟩ := h
    refine Ev_call (rest := []) rfl rfl (Nat.le_of_ble_eq_true rfl) hc ?_
    refine Ev_rn (q := (14, [(18, 400), (0, x1), (0, x2), (0, x3)], [(0, x2), (0, x1), (18, 400), (0, v1)], m1)) 3 rfl ?_
    obtain ⟨v2, m2, hc, h⟩ := h
    refine Ev_call (rest := [(0, v1)]) rfl rfl (Nat.le_of_ble_eq_true rfl) hc ?_
    refine Ev_icmp rfl (fun hc => ?_) (fun hc => ?_)
    · replace h := h.1 hc
      refine Ev_rn (q := (4, [(18, 400), (0, x1), (0, x2), (0, w32 (x3 + 1))], [], m2)) 2 rfl ?_
      exact h
    · replace h := h.2 hc
      refine Ev_rn (q := (4, [(18, 400), (0, x1), (0, x3), (0, w32 (x3 + 1))], [], m2)) 4 rfl ?_
      exact h
theorem b_Mo_unlike {d : Nat} {r : Option Vv × Mm} {m : Mm} {x1 x2 : Int} (h : ∃ (v1 : Int) (m1 : Mm), Cl d k_Mo_isHand [(18, 400), (0, x1)] m (some (0, v1), m1) ∧ ((¬ v1 = 0 → (x2 = 0 → ∃ (v2 : Int) (m2 : Mm), Cl d k_Mo_bestTurn [(18, 400), (0, x1)] m1 (some (0, v2), m2) ∧ (∃ (v3 : Int) (m3 : Mm), Cl d k_Mo_unlikeBy [(18, 400), (0, x1), (0, v2)] m2 (some (0, v3), m3) ∧ (r = (some (0, v3), m3)))) ∧ (¬ (x2 = 0) → ∃ (v4 : Int) (m4 : Mm), Cl d k_Mo_bestTurn [(18, 400), (0, x1)] m1 (some (0, v4), m4) ∧ (r = (some (0, v4), m4)))) ∧ (¬ (¬ v1 = 0) → r = (some (0, (-1)), m1)))) : Ev (d + 1) K_Mo_unlike 0 0 [(18, 400), (0, x1), (0, x2)] [] m r := by
  refine Ev_rn (q := (2, [(18, 400), (0, x1), (0, x2)], [(0, x1), (18, 400)], m)) 2 rfl ?_
  obtain ⟨v1, m1, hc, h⟩ := h
  refine Ev_call (rest := []) rfl rfl (Nat.le_of_ble_eq_true rfl) hc ?_
  refine Ev_if rfl (fun hc => ?_) (fun hc => ?_)
  · replace h := h.1 hc
    refine Ev_rn (q := (7, [(18, 400), (0, x1), (0, x2)], [(0, x2)], m1)) 1 rfl ?_
    refine Ev_if rfl (fun hc => ?_) (fun hc => ?_)
    · replace h := h.1 hc
      refine Ev_rn (q := (16, [(18, 400), (0, x1), (0, x2)], [(0, x1), (18, 400), (0, x1), (18, 400)], m1)) 4 rfl ?_
      obtain ⟨v2, m2, hc, h⟩ := h
      refine Ev_call (rest := [(0, x1), (18, 400)]) rfl rfl (Nat.le_of_ble_eq_true rfl) hc ?_
      obtain ⟨v3, m3, hc, h⟩ := h
      refine Ev_call (rest := []) rfl rfl (Nat.le_of_ble_eq_true rfl) hc ?_
      exact Ev_ret rfl rfl h
    · replace h := h.2 hc
      refine Ev_rn (q := (10, [(18, 400), (0, x1), (0, x2)], [(0, x1), (18, 400)], m1)) 2 rfl ?_
      obtain ⟨v4, m4, hc, h⟩ := h
      refine Ev_call (rest := []) rfl rfl (Nat.le_of_ble_eq_true rfl) hc ?_
      refine Ev_rn (q := (18, [(18, 400), (0, x1), (0, x2)], [(0, v4)], m4)) 1 rfl ?_
      exact Ev_ret rfl rfl h
  · replace h := h.2 hc
    refine Ev_rn (q := (18, [(18, 400), (0, x1), (0, x2)], [(0, (-1))], m1)) 2 rfl ?_
    exact Ev_ret rfl rfl h
theorem b_Mo_owner {d : Nat} {r : Option Vv × Mm} {m : Mm} {x1 : Int} (h : ∃ (v1 : Int) (m1 : Mm), Cl d k_Mo_isIn [(0, x1), (0, 0), (0, 40)] m (some (0, v1), m1) ∧ ((¬ v1 = 0 → Ev (d + 1) K_Mo_owner 0 15 [(18, 400), (0, x1), (0, (-1)), (0, w32 (x1 + 1)), (0, 0), (9, 0)] [] m1 r) ∧ (¬ (¬ v1 = 0) → r = (some (0, (-1)), m1)))) : Ev (d + 1) K_Mo_owner 0 0 [(18, 400), (0, x1), (9, 0), (9, 0), (9, 0), (9, 0)] [] m r := by
  refine Ev_rn (q := (3, [(18, 400), (0, x1), (9, 0), (9, 0), (9, 0), (9, 0)], [(0, 40), (0, 0), (0, x1)], m)) 3 rfl ?_
  obtain ⟨v1, m1, hc, h⟩ := h
  refine Ev_call (rest := []) rfl rfl (Nat.le_of_ble_eq_true rfl) hc ?_
  refine Ev_if rfl (fun hc => ?_) (fun hc => ?_)
  · replace h := h.1 hc
    refine Ev_rn (q := (15, [(18, 400), (0, x1), (0, (-1)), (0, w32 (x1 + 1)), (0, 0), (9, 0)], [], m1)) 8 rfl ?_
    exact h
  · replace h := h.2 hc
    refine Ev_rn (q := (6, [(18, 400), (0, x1), (9, 0), (9, 0), (9, 0), (9, 0)], [(0, (-1))], m1)) 1 rfl ?_
    exact Ev_ret rfl rfl h
theorem b_Mo_owner_15 {d : Nat} {r : Option Vv × Mm} {m : Mm} {x1 x2 x3 x4 : Int} {u5 : Vv} (h : (m 401 0 ≤ x4 → r = (some (0, x2), m)) ∧ (¬ (m 401 0 ≤ x4) → ∃ (v1 : Int) (m1 : Mm), Cl d k_Mo_unlike [(18, 400), (0, x4), (0, 0)] m (some (0, v1), m1) ∧ ((v1 < x3 → Ev (d + 1) K_Mo_owner 0 15 [(18, 400), (0, x1), (0, x4), (0, v1), (0, w32 (x4 + 1)), (0, v1)] [] m1 r) ∧ (¬ (v1 < x3) → Ev (d + 1) K_Mo_owner 0 15 [(18, 400), (0, x1), (0, x2), (0, x3), (0, w32 (x4 + 1)), (0, v1)] [] m1 r)))) : Ev (d + 1) K_Mo_owner 0 15 [(18, 400), (0, x1), (0, x2), (0, x3), (0, x4), u5] [] m r := by
  refine Ev_rn (q := (19, [(18, 400), (0, x1), (0, x2), (0, x3), (0, x4), u5], [(0, 0), (11828, 401), (0, x4)], m)) 4 rfl ?_
  refine Ev_iald (n := 1466) rfl (by decide) (by decide) ⟨by decide, by decide⟩ ?_
  refine Ev_icmp rfl (fun hc => ?_) (fun hc => ?_)
  · replace h := h.1 hc
    refine Ev_rn (q := (37, [(18, 400), (0, x1), (0, x2), (0, x3), (0, x4), u5], [(0, x2)], m)) 1 rfl ?_
    exact Ev_ret rfl rfl h
  · replace h := h.2 hc
    refine Ev_rn (q := (24, [(18, 400), (0, x1), (0, x2), (0, x3), (0, x4), u5], [(0, 0), (0, x4), (18, 400)], m)) 3 rfl ?_
    obtain ⟨v1, m1, hc, h⟩ := h
    refine Ev_call (rest := []) rfl rfl (Nat.le_of_ble_eq_true rfl) hc ?_
    refine Ev_rn (q := (28, [(18, 400), (0, x1), (0, x2), (0, x3), (0, x4), (0, v1)], [(0, x3), (0, v1)], m1)) 3 rfl ?_
    refine Ev_icmp rfl (fun hc => ?_) (fun hc => ?_)
    · replace h := h.1 hc
      refine Ev_rn (q := (15, [(18, 400), (0, x1), (0, x4), (0, v1), (0, w32 (x4 + 1)), (0, v1)], [], m1)) 6 rfl ?_
      exact h
    · replace h := h.2 hc
      refine Ev_rn (q := (15, [(18, 400), (0, x1), (0, x2), (0, x3), (0, w32 (x4 + 1)), (0, v1)], [], m1)) 3 rfl ?_
      exact h
theorem b_Mo_twinBy {d : Nat} {r : Option Vv × Mm} {m : Mm} {x1 x2 : Int} (h : Ev (d + 1) K_Mo_twinBy 0 2 [(18, 400), (0, x1), (0, x2), (0, 0)] [] m r) : Ev (d + 1) K_Mo_twinBy 0 0 [(18, 400), (0, x1), (0, x2), (9, 0)] [] m r := by
  refine Ev_rn (q := (2, [(18, 400), (0, x1), (0, x2), (0, 0)], [], m)) 2 rfl ?_
  exact h
theorem b_Mo_twinBy_2 {d : Nat} {r : Option Vv × Mm} {m : Mm} {x1 x2 x3 : Int} (h : (8 ≤ x3 → r = (some (0, (-1)), m)) ∧ (¬ (8 ≤ x3) → ∃ (v1 : Int) (m1 : Mm), Cl d k_Mo_ofHand [(18, 400), (0, x1), (0, x3), (0, 0)] m (some (0, v1), m1) ∧ (∃ (v2 : Int) (m2 : Mm), Cl d k_Mo_ofHand [(18, 400), (0, x2), (0, 0), (0, 0)] m1 (some (0, v2), m2) ∧ ((¬ v1 = v2 → Ev (d + 1) K_Mo_twinBy 0 2 [(18, 400), (0, x1), (0, x2), (0, w32 (x3 + 1))] [] m2 r) ∧ (¬ (¬ v1 = v2) → ∃ (v3 : Int) (m3 : Mm), Cl d k_Mo_ofHand [(18, 400), (0, x1), (0, x3), (0, 1)] m2 (some (0, v3), m3) ∧ (∃ (v4 : Int) (m4 : Mm), Cl d k_Mo_ofHand [(18, 400), (0, x2), (0, 0), (0, 1)] m3 (some (0, v4), m4) ∧ ((¬ v3 = v4 → Ev (d + 1) K_Mo_twinBy 0 2 [(18, 400), (0, x1), (0, x2), (0, w32 (x3 + 1))] [] m4 r) ∧ (¬ (¬ v3 = v4) → r = (some (0, x3), m4))))))))) : Ev (d + 1) K_Mo_twinBy 0 2 [(18, 400), (0, x1), (0, x2), (0, x3)] [] m r := by
  refine Ev_rn (q := (4, [(18, 400), (0, x1), (0, x2), (0, x3)], [(0, 8), (0, x3)], m)) 2 rfl ?_
  refine Ev_icmp rfl (fun hc => ?_) (fun hc => ?_)
  · replace h := h.1 hc
    refine Ev_rn (q := (32, [(18, 400), (0, x1), (0, x2), (0, x3)], [(0, (-1))], m)) 1 rfl ?_
    exact Ev_ret rfl rfl h
  · replace h := h.2 hc
    refine Ev_rn (q := (9, [(18, 400), (0, x1), (0, x2), (0, x3)], [(0, 0), (0, x3), (0, x1), (18, 400)], m)) 4 rfl ?_
    obtain ⟨v1, m1, hc, h⟩ := h
    refine Ev_call (rest := []) rfl rfl (Nat.le_of_ble_eq_true rfl) hc ?_
    refine Ev_rn (q := (14, [(18, 400), (0, x1), (0, x2), (0, x3)], [(0, 0), (0, 0), (0, x2), (18, 400), (0, v1)], m1)) 4 rfl ?_
    obtain ⟨v2, m2, hc, h⟩ := h
    refine Ev_call (rest := [(0, v1)]) rfl rfl (Nat.le_of_ble_eq_true rfl) hc ?_
    refine Ev_icmp rfl (fun hc => ?_) (fun hc => ?_)
    · replace h := h.1 hc
      refine Ev_rn (q := (2, [(18, 400), (0, x1), (0, x2), (0, w32 (x3 + 1))], [], m2)) 2 rfl ?_
      exact h
    · replace h := h.2 hc
      refine Ev_rn (q := (20, [(18, 400), (0, x1), (0, x2), (0, x3)], [(0, 1), (0, x3), (0, x1), (18, 400)], m2)) 4 rfl ?_
      obtain ⟨v3, m3, hc, h⟩ := h
      refine Ev_call (rest := []) rfl rfl (Nat.le_of_ble_eq_true rfl) hc ?_
      refine Ev_rn (q := (25, [(18, 400), (0, x1), (0, x2), (0, x3)], [(0, 1), (0, 0), (0, x2), (18, 400), (0, v3)], m3)) 4 rfl ?_
      obtain ⟨v4, m4, hc, h⟩ := h
      refine Ev_call (rest := [(0, v3)]) rfl rfl (Nat.le_of_ble_eq_true rfl) hc ?_
      refine Ev_icmp rfl (fun hc => ?_) (fun hc => ?_)
      · replace h := h.1 hc
        refine Ev_rn (q := (2, [(18, 400), (0, x1), (0, x2), (0, w32 (x3 + 1))], [], m4)) 2 rfl ?_
        exact h
      · replace h := h.2 hc
        refine Ev_rn (q := (28, [(18, 400), (0, x1), (0, x2), (0, x3)], [(0, x3)], m4)) 1 rfl ?_
        exact Ev_ret rfl rfl h
theorem b_Mo_twins {d : Nat} {r : Option Vv × Mm} {m : Mm} {x1 x2 : Int} (h : ∃ (v1 : Int) (m1 : Mm), Cl d k_Mo_isHand [(18, 400), (0, x1)] m (some (0, v1), m1) ∧ ((v1 = 0 → r = (some (0, (-1)), m1)) ∧ (¬ (v1 = 0) → ∃ (v2 : Int) (m2 : Mm), Cl d k_Mo_isHand [(18, 400), (0, x2)] m1 (some (0, v2), m2) ∧ ((v2 = 0 → r = (some (0, (-1)), m2)) ∧ (¬ (v2 = 0) → (x1 = x2 → r = (some (0, (-1)), m2)) ∧ (¬ (x1 = x2) → ∃ (v3 : Int) (m3 : Mm), Cl d k_Mo_twinBy [(18, 400), (0, x1), (0, x2)] m2 (some (0, v3), m3) ∧ (r = (some (0, v3), m3)))))))) : Ev (d + 1) K_Mo_twins 0 0 [(18, 400), (0, x1), (0, x2)] [] m r := by
  refine Ev_rn (q := (2, [(18, 400), (0, x1), (0, x2)], [(0, x1), (18, 400)], m)) 2 rfl ?_
  obtain ⟨v1, m1, hc, h⟩ := h
  refine Ev_call (rest := []) rfl rfl (Nat.le_of_ble_eq_true rfl) hc ?_
  refine Ev_if rfl (fun hc => ?_) (fun hc => ?_)
  · replace h := h.1 hc
    refine Ev_rn (q := (17, [(18, 400), (0, x1), (0, x2)], [(0, (-1))], m1)) 1 rfl ?_
    exact Ev_ret rfl rfl h
  · replace h := h.2 hc
    refine Ev_rn (q := (6, [(18, 400), (0, x1), (0, x2)], [(0, x2), (18, 400)], m1)) 2 rfl ?_
    obtain ⟨v2, m2, hc, h⟩ := h
    refine Ev_call (rest := []) rfl rfl (Nat.le_of_ble_eq_true rfl) hc ?_
    refine Ev_if rfl (fun hc => ?_) (fun hc => ?_)
    · replace h := h.1 hc
      refine Ev_rn (q := (17, [(18, 400), (0, x1), (0, x2)], [(0, (-1))], m2)) 1 rfl ?_
      exact Ev_ret rfl rfl h
    · replace h := h.2 hc
      refine Ev_rn (q := (10, [(18, 400), (0, x1), (0, x2)], [(0, x2), (0, x1)], m2)) 2 rfl ?_
      refine Ev_icmp rfl (fun hc => ?_) (fun hc => ?_)
      · replace h := h.1 hc
        refine Ev_rn (q := (17, [(18, 400), (0, x1), (0, x2)], [(0, (-1))], m2)) 1 rfl ?_
        exact Ev_ret rfl rfl h
      · replace h := h.2 hc
        refine Ev_rn (q := (14, [(18, 400), (0, x1), (0, x2)], [(0, x2), (0, x1), (18, 400)], m2)) 3 rfl ?_
        obtain ⟨v3, m3, hc, h⟩ := h
        refine Ev_call (rest := []) rfl rfl (Nat.le_of_ble_eq_true rfl) hc ?_
        refine Ev_rn (q := (17, [(18, 400), (0, x1), (0, x2)], [(0, v3)], m3)) 1 rfl ?_
        exact Ev_ret rfl rfl h
theorem b_Mo_kinds {d : Nat} {r : Option Vv × Mm} {m : Mm} (h : Ev (d + 1) K_Mo_kinds 0 4 [(18, 400), (0, 0), (0, 0), (9, 0), (9, 0)] [] m r) : Ev (d + 1) K_Mo_kinds 0 0 [(18, 400), (9, 0), (9, 0), (9, 0), (9, 0)] [] m r := by
  refine Ev_rn (q := (4, [(18, 400), (0, 0), (0, 0), (9, 0), (9, 0)], [], m)) 4 rfl ?_
  exact h
theorem b_Mo_kinds_4 {d : Nat} {r : Option Vv × Mm} {m : Mm} {x1 x2 : Int} {u3 u4 : Vv} (h : (m 401 0 ≤ x2 → r = (some (0, x1), m)) ∧ (¬ (m 401 0 ≤ x2) → Ev (d + 1) K_Mo_kinds 0 14 [(18, 400), (0, x1), (0, x2), (0, 1), (0, 0)] [] m r)) : Ev (d + 1) K_Mo_kinds 0 4 [(18, 400), (0, x1), (0, x2), u3, u4] [] m r := by
  refine Ev_rn (q := (8, [(18, 400), (0, x1), (0, x2), u3, u4], [(0, 0), (11828, 401), (0, x2)], m)) 4 rfl ?_
  refine Ev_iald (n := 1466) rfl (by decide) (by decide) ⟨by decide, by decide⟩ ?_
  refine Ev_icmp rfl (fun hc => ?_) (fun hc => ?_)
  · replace h := h.1 hc
    refine Ev_rn (q := (42, [(18, 400), (0, x1), (0, x2), u3, u4], [(0, x1)], m)) 1 rfl ?_
    exact Ev_ret rfl rfl h
  · replace h := h.2 hc
    refine Ev_rn (q := (14, [(18, 400), (0, x1), (0, x2), (0, 1), (0, 0)], [], m)) 4 rfl ?_
    exact h
theorem b_Mo_kinds_14 {d : Nat} {r : Option Vv × Mm} {m : Mm} {x1 x2 x3 x4 : Int} (h : (x2 ≤ x4 → (x3 = 0 → Ev (d + 1) K_Mo_kinds 0 4 [(18, 400), (0, w32 (x1 + 0)), (0, w32 (x2 + 1)), (0, x3), (0, x4)] [] m r) ∧ (¬ (x3 = 0) → Ev (d + 1) K_Mo_kinds 0 4 [(18, 400), (0, w32 (x1 + 1)), (0, w32 (x2 + 1)), (0, x3), (0, x4)] [] m r)) ∧ (¬ (x2 ≤ x4) → ∃ (v1 : Int) (m1 : Mm), Cl d k_Mo_twinBy [(18, 400), (0, x4), (0, x2)] m (some (0, v1), m1) ∧ ((¬ v1 = (-1) → Ev (d + 1) K_Mo_kinds 0 14 [(18, 400), (0, x1), (0, x2), (0, ian x3 0), (0, w32 (x4 + 1))] [] m1 r) ∧ (¬ (¬ v1 = (-1)) → Ev (d + 1) K_Mo_kinds 0 14 [(18, 400), (0, x1), (0, x2), (0, ian x3 1), (0, w32 (x4 + 1))] [] m1 r)))) : Ev (d + 1) K_Mo_kinds 0 14 [(18, 400), (0, x1), (0, x2), (0, x3), (0, x4)] [] m r := by
  refine Ev_rn (q := (16, [(18, 400), (0, x1), (0, x2), (0, x3), (0, x4)], [(0, x2), (0, x4)], m)) 2 rfl ?_
  refine Ev_icmp rfl (fun hc => ?_) (fun hc => ?_)
  · replace h := h.1 hc
    refine Ev_rn (q := (33, [(18, 400), (0, x1), (0, x2), (0, x3), (0, x4)], [(0, x3), (0, x1)], m)) 2 rfl ?_
    refine Ev_if rfl (fun hc => ?_) (fun hc => ?_)
    · replace h := h.1 hc
      refine Ev_rn (q := (4, [(18, 400), (0, w32 (x1 + 0)), (0, w32 (x2 + 1)), (0, x3), (0, x4)], [], m)) 5 rfl ?_
      exact h
    · replace h := h.2 hc
      refine Ev_rn (q := (4, [(18, 400), (0, w32 (x1 + 1)), (0, w32 (x2 + 1)), (0, x3), (0, x4)], [], m)) 6 rfl ?_
      exact h
  · replace h := h.2 hc
    refine Ev_rn (q := (21, [(18, 400), (0, x1), (0, x2), (0, x3), (0, x4)], [(0, x2), (0, x4), (18, 400), (0, x3)], m)) 4 rfl ?_
    obtain ⟨v1, m1, hc, h⟩ := h
    refine Ev_call (rest := [(0, x3)]) rfl rfl (Nat.le_of_ble_eq_true rfl) hc ?_
    refine Ev_rn (q := (23, [(18, 400), (0, x1), (0, x2), (0, x3), (0, x4)], [(0, (-1)), (0, v1), (0, x3)], m1)) 1 rfl ?_
    refine Ev_icmp rfl (fun hc => ?_) (fun hc => ?_)
    · replace h := h.1 hc
      refine Ev_rn (q := (14, [(18, 400), (0, x1), (0, x2), (0, ian x3 0), (0, w32 (x4 + 1))], [], m1)) 5 rfl ?_
      exact h
    · replace h := h.2 hc
      refine Ev_rn (q := (14, [(18, 400), (0, x1), (0, x2), (0, ian x3 1), (0, w32 (x4 + 1))], [], m1)) 6 rfl ?_
      exact h
theorem b_Mo_selves {d : Nat} {r : Option Vv × Mm} {m : Mm} {x1 : Int} (h : ∃ (v1 : Int) (m1 : Mm), Cl d k_Mo_isHand [(18, 400), (0, x1)] m (some (0, v1), m1) ∧ ((¬ v1 = 0 → Ev (d + 1) K_Mo_selves 0 10 [(18, 400), (0, x1), (0, 0), (0, 0)] [] m1 r) ∧ (¬ (¬ v1 = 0) → r = (some (0, (-1)), m1)))) : Ev (d + 1) K_Mo_selves 0 0 [(18, 400), (0, x1), (9, 0), (9, 0)] [] m r := by
  refine Ev_rn (q := (2, [(18, 400), (0, x1), (9, 0), (9, 0)], [(0, x1), (18, 400)], m)) 2 rfl ?_
  obtain ⟨v1, m1, hc, h⟩ := h
  refine Ev_call (rest := []) rfl rfl (Nat.le_of_ble_eq_true rfl) hc ?_
  refine Ev_if rfl (fun hc => ?_) (fun hc => ?_)
  · replace h := h.1 hc
    refine Ev_rn (q := (10, [(18, 400), (0, x1), (0, 0), (0, 0)], [], m1)) 4 rfl ?_
    exact h
  · replace h := h.2 hc
    refine Ev_rn (q := (5, [(18, 400), (0, x1), (9, 0), (9, 0)], [(0, (-1))], m1)) 1 rfl ?_
    exact Ev_ret rfl rfl h
theorem b_Mo_selves_10 {d : Nat} {r : Option Vv × Mm} {m : Mm} {x1 x2 x3 : Int} (h : (8 ≤ x3 → r = (some (0, x2), m)) ∧ (¬ (8 ≤ x3) → ∃ (v1 : Int) (m1 : Mm), Cl d k_Mo_ofHand [(18, 400), (0, x1), (0, x3), (0, 0)] m (some (0, v1), m1) ∧ (∃ (v2 : Int) (m2 : Mm), Cl d k_Mo_ofHand [(18, 400), (0, x1), (0, 0), (0, 0)] m1 (some (0, v2), m2) ∧ ((¬ v1 = v2 → Ev (d + 1) K_Mo_selves 0 10 [(18, 400), (0, x1), (0, w32 (x2 + 0)), (0, w32 (x3 + 1))] [] m2 r) ∧ (¬ (¬ v1 = v2) → ∃ (v3 : Int) (m3 : Mm), Cl d k_Mo_ofHand [(18, 400), (0, x1), (0, x3), (0, 1)] m2 (some (0, v3), m3) ∧ (∃ (v4 : Int) (m4 : Mm), Cl d k_Mo_ofHand [(18, 400), (0, x1), (0, 0), (0, 1)] m3 (some (0, v4), m4) ∧ ((¬ v3 = v4 → Ev (d + 1) K_Mo_selves 0 10 [(18, 400), (0, x1), (0, w32 (x2 + 0)), (0, w32 (x3 + 1))] [] m4 r) ∧ (¬ (¬ v3 = v4) → Ev (d + 1) K_Mo_selves 0 10 [(18, 400), (0, x1), (0, w32 (x2 + 1)), (0, w32 (x3 + 1))] [] m4 r)))))))) : Ev (d + 1) K_Mo_selves 0 10 [(18, 400), (0, x1), (0, x2), (0, x3)] [] m r := by
  refine Ev_rn (q := (12, [(18, 400), (0, x1), (0, x2), (0, x3)], [(0, 8), (0, x3)], m)) 2 rfl ?_
  refine Ev_icmp rfl (fun hc => ?_) (fun hc => ?_)
  · replace h := h.1 hc
    refine Ev_rn (q := (44, [(18, 400), (0, x1), (0, x2), (0, x3)], [(0, x2)], m)) 1 rfl ?_
    exact Ev_ret rfl rfl h
  · replace h := h.2 hc
    refine Ev_rn (q := (18, [(18, 400), (0, x1), (0, x2), (0, x3)], [(0, 0), (0, x3), (0, x1), (18, 400), (0, x2)], m)) 5 rfl ?_
    obtain ⟨v1, m1, hc, h⟩ := h
    refine Ev_call (rest := [(0, x2)]) rfl rfl (Nat.le_of_ble_eq_true rfl) hc ?_
    refine Ev_rn (q := (23, [(18, 400), (0, x1), (0, x2), (0, x3)], [(0, 0), (0, 0), (0, x1), (18, 400), (0, v1), (0, x2)], m1)) 4 rfl ?_
    obtain ⟨v2, m2, hc, h⟩ := h
    refine Ev_call (rest := [(0, v1), (0, x2)]) rfl rfl (Nat.le_of_ble_eq_true rfl) hc ?_
    refine Ev_icmp rfl (fun hc => ?_) (fun hc => ?_)
    · replace h := h.1 hc
      refine Ev_rn (q := (10, [(18, 400), (0, x1), (0, w32 (x2 + 0)), (0, w32 (x3 + 1))], [], m2)) 5 rfl ?_
      exact h
    · replace h := h.2 hc
      refine Ev_rn (q := (29, [(18, 400), (0, x1), (0, x2), (0, x3)], [(0, 1), (0, x3), (0, x1), (18, 400), (0, x2)], m2)) 4 rfl ?_
      obtain ⟨v3, m3, hc, h⟩ := h
      refine Ev_call (rest := [(0, x2)]) rfl rfl (Nat.le_of_ble_eq_true rfl) hc ?_
      refine Ev_rn (q := (34, [(18, 400), (0, x1), (0, x2), (0, x3)], [(0, 1), (0, 0), (0, x1), (18, 400), (0, v3), (0, x2)], m3)) 4 rfl ?_
      obtain ⟨v4, m4, hc, h⟩ := h
      refine Ev_call (rest := [(0, v3), (0, x2)]) rfl rfl (Nat.le_of_ble_eq_true rfl) hc ?_
      refine Ev_icmp rfl (fun hc => ?_) (fun hc => ?_)
      · replace h := h.1 hc
        refine Ev_rn (q := (10, [(18, 400), (0, x1), (0, w32 (x2 + 0)), (0, w32 (x3 + 1))], [], m4)) 5 rfl ?_
        exact h
      · replace h := h.2 hc
        refine Ev_rn (q := (10, [(18, 400), (0, x1), (0, w32 (x2 + 1)), (0, w32 (x3 + 1))], [], m4)) 6 rfl ?_
        exact h
theorem b_Mo_look {d : Nat} {r : Option Vv × Mm} {m : Mm} {x1 : Int} (h : ∃ (v1 : Int) (m1 : Mm), Cl d k_Mo_isIn [(0, x1), (0, 0), (0, 40)] m (some (0, v1), m1) ∧ ((¬ v1 = 0 → Ev (d + 1) K_Mo_look 0 9 [(18, 400), (0, x1), (0, 0), (9, 0), (9, 0), (9, 0), (9, 0), (9, 0)] [] m1 r) ∧ (¬ (¬ v1 = 0) → r = (some (0, (-1)), m1)))) : Ev (d + 1) K_Mo_look 0 0 [(18, 400), (0, x1), (9, 0), (9, 0), (9, 0), (9, 0), (9, 0), (9, 0)] [] m r := by
  refine Ev_rn (q := (3, [(18, 400), (0, x1), (9, 0), (9, 0), (9, 0), (9, 0), (9, 0), (9, 0)], [(0, 40), (0, 0), (0, x1)], m)) 3 rfl ?_
  obtain ⟨v1, m1, hc, h⟩ := h
  refine Ev_call (rest := []) rfl rfl (Nat.le_of_ble_eq_true rfl) hc ?_
  refine Ev_if rfl (fun hc => ?_) (fun hc => ?_)
  · replace h := h.1 hc
    refine Ev_rn (q := (9, [(18, 400), (0, x1), (0, 0), (9, 0), (9, 0), (9, 0), (9, 0), (9, 0)], [], m1)) 2 rfl ?_
    exact h
  · replace h := h.2 hc
    refine Ev_rn (q := (6, [(18, 400), (0, x1), (9, 0), (9, 0), (9, 0), (9, 0), (9, 0), (9, 0)], [(0, (-1))], m1)) 1 rfl ?_
    exact Ev_ret rfl rfl h
theorem b_Mo_look_9 {d : Nat} {r : Option Vv × Mm} {m : Mm} {x1 x2 : Int} {u3 u4 u5 u6 u7 : Vv} (h : (40 ≤ x2 → Ev (d + 1) K_Mo_look 0 23 [(18, 400), (0, x1), (0, 0), (0, 0), u4, u5, u6, u7] [] m r) ∧ (¬ (40 ≤ x2) → (0 ≤ x2 ∧ x2 < 40) ∧ (∀ m1 : Mm, m1 = up m 417 x2 0 → (Ev (d + 1) K_Mo_look 0 9 [(18, 400), (0, x1), (0, w32 (x2 + 1)), u3, u4, u5, u6, u7] [] m1 r)))) : Ev (d + 1) K_Mo_look 0 9 [(18, 400), (0, x1), (0, x2), u3, u4, u5, u6, u7] [] m r := by
  refine Ev_rn (q := (11, [(18, 400), (0, x1), (0, x2), u3, u4, u5, u6, u7], [(0, 40), (0, x2)], m)) 2 rfl ?_
  refine Ev_icmp rfl (fun hc => ?_) (fun hc => ?_)
  · replace h := h.1 hc
    refine Ev_rn (q := (23, [(18, 400), (0, x1), (0, 0), (0, 0), u4, u5, u6, u7], [], m)) 4 rfl ?_
    exact h
  · replace h := h.2 hc
    refine Ev_rn (q := (16, [(18, 400), (0, x1), (0, x2), u3, u4, u5, u6, u7], [(0, 0), (0, x2), (420, 417)], m)) 4 rfl ?_
    obtain ⟨hc, h⟩ := h
    refine Ev_iast (n := 40) rfl (by decide) (by decide) hc ?_
    generalize e1 : up m 417 x2 0 = m1
    replace h := h m1 e1.symm
    refine Ev_rn (q := (9, [(18, 400), (0, x1), (0, w32 (x2 + 1)), u3, u4, u5, u6, u7], [], m1)) 2 rfl ?_
    exact h
theorem b_Mo_look_23 {d : Nat} {r : Option Vv × Mm} {m : Mm} {x1 x2 x3 : Int} {u4 u5 u6 u7 : Vv} (h : (m 401 0 ≤ x3 → Ev (d + 1) K_Mo_look 0 95 [(18, 400), (0, x1), (0, x2), (0, (-1)), (0, 1000000), (0, 0), u6, u7] [] m r) ∧ (¬ (m 401 0 ≤ x3) → Ev (d + 1) K_Mo_look 0 31 [(18, 400), (0, x1), (0, x2), (0, x3), (0, 0), u5, u6, u7] [] m r)) : Ev (d + 1) K_Mo_look 0 23 [(18, 400), (0, x1), (0, x2), (0, x3), u4, u5, u6, u7] [] m r := by
  refine Ev_rn (q := (27, [(18, 400), (0, x1), (0, x2), (0, x3), u4, u5, u6, u7], [(0, 0), (11828, 401), (0, x3)], m)) 4 rfl ?_
  refine Ev_iald (n := 1466) rfl (by decide) (by decide) ⟨by decide, by decide⟩ ?_
  refine Ev_icmp rfl (fun hc => ?_) (fun hc => ?_)
  · replace h := h.1 hc
    refine Ev_rn (q := (95, [(18, 400), (0, x1), (0, x2), (0, (-1)), (0, 1000000), (0, 0), u6, u7], [], m)) 6 rfl ?_
    exact h
  · replace h := h.2 hc
    refine Ev_rn (q := (31, [(18, 400), (0, x1), (0, x2), (0, x3), (0, 0), u5, u6, u7], [], m)) 2 rfl ?_
    exact h
theorem b_Mo_look_31 {d : Nat} {r : Option Vv × Mm} {m : Mm} {x1 x2 x3 x4 : Int} {u5 u6 u7 : Vv} (h : (8 ≤ x4 → Ev (d + 1) K_Mo_look 0 23 [(18, 400), (0, x1), (0, x2), (0, w32 (x3 + 1)), (0, x4), u5, u6, u7] [] m r) ∧ (¬ (8 ≤ x4) → ∃ (v1 : Int) (m1 : Mm), Cl d k_Mo_unlikeBy [(18, 400), (0, x3), (0, x4)] m (some (0, v1), m1) ∧ ((v1 ≤ x1 → ∃ (v2 : Int) (m2 : Mm), Cl d k_Mo_ofHand [(18, 400), (0, x3), (0, x4), (0, 0)] m1 (some (0, v2), m2) ∧ (∃ (v3 : Int) (m3 : Mm), Cl d k_Mo_ofHand [(18, 400), (0, x3), (0, x4), (0, 1)] m2 (some (0, v3), m3) ∧ (Ev (d + 1) K_Mo_look 0 56 [(18, 400), (0, x1), (0, w32 (x2 + 1)), (0, x3), (0, x4), (0, v2), (0, v3), (0, 0)] [] m3 r))) ∧ (¬ (v1 ≤ x1) → Ev (d + 1) K_Mo_look 0 31 [(18, 400), (0, x1), (0, x2), (0, x3), (0, w32 (x4 + 1)), u5, u6, u7] [] m1 r)))) : Ev (d + 1) K_Mo_look 0 31 [(18, 400), (0, x1), (0, x2), (0, x3), (0, x4), u5, u6, u7] [] m r := by
  refine Ev_rn (q := (33, [(18, 400), (0, x1), (0, x2), (0, x3), (0, x4), u5, u6, u7], [(0, 8), (0, x4)], m)) 2 rfl ?_
  refine Ev_icmp rfl (fun hc => ?_) (fun hc => ?_)
  · replace h := h.1 hc
    refine Ev_rn (q := (23, [(18, 400), (0, x1), (0, x2), (0, w32 (x3 + 1)), (0, x4), u5, u6, u7], [], m)) 2 rfl ?_
    exact h
  · replace h := h.2 hc
    refine Ev_rn (q := (37, [(18, 400), (0, x1), (0, x2), (0, x3), (0, x4), u5, u6, u7], [(0, x4), (0, x3), (18, 400)], m)) 3 rfl ?_
    obtain ⟨v1, m1, hc, h⟩ := h
    refine Ev_call (rest := []) rfl rfl (Nat.le_of_ble_eq_true rfl) hc ?_
    refine Ev_rn (q := (39, [(18, 400), (0, x1), (0, x2), (0, x3), (0, x4), u5, u6, u7], [(0, x1), (0, v1)], m1)) 1 rfl ?_
    refine Ev_icmp rfl (fun hc => ?_) (fun hc => ?_)
    · replace h := h.1 hc
      refine Ev_rn (q := (46, [(18, 400), (0, x1), (0, w32 (x2 + 1)), (0, x3), (0, x4), u5, u6, u7], [(0, 0), (0, x4), (0, x3), (18, 400)], m1)) 5 rfl ?_
      obtain ⟨v2, m2, hc, h⟩ := h
      refine Ev_call (rest := []) rfl rfl (Nat.le_of_ble_eq_true rfl) hc ?_
      refine Ev_rn (q := (52, [(18, 400), (0, x1), (0, w32 (x2 + 1)), (0, x3), (0, x4), (0, v2), u6, u7], [(0, 1), (0, x4), (0, x3), (18, 400)], m2)) 5 rfl ?_
      obtain ⟨v3, m3, hc, h⟩ := h
      refine Ev_call (rest := []) rfl rfl (Nat.le_of_ble_eq_true rfl) hc ?_
      refine Ev_rn (q := (56, [(18, 400), (0, x1), (0, w32 (x2 + 1)), (0, x3), (0, x4), (0, v2), (0, v3), (0, 0)], [], m3)) 3 rfl ?_
      exact h
    · replace h := h.2 hc
      refine Ev_rn (q := (31, [(18, 400), (0, x1), (0, x2), (0, x3), (0, w32 (x4 + 1)), u5, u6, u7], [], m1)) 3 rfl ?_
      exact h
theorem b_Mo_look_56 {d : Nat} {r : Option Vv × Mm} {m : Mm} {x1 x2 x3 x4 x5 x6 x7 : Int} (h : (40 ≤ x7 → Ev (d + 1) K_Mo_look 0 31 [(18, 400), (0, x1), (0, x2), (0, x3), (0, w32 (x4 + 1)), (0, x5), (0, x6), (0, x7)] [] m r) ∧ (¬ (40 ≤ x7) → (0 ≤ x7 ∧ x7 < 40) ∧ ((20 ≤ x7 → ∃ (v1 : Int) (m1 : Mm), Cl d k_Mo_has [(0, x6), (0, w32 (x7 - 20))] m (some (0, v1), m1) ∧ ((v1 = 0 → (0 ≤ x7 ∧ x7 < 40) ∧ (∀ m2 : Mm, m2 = up m1 417 x7 (w32 ((m 417 x7) + 0)) → (Ev (d + 1) K_Mo_look 0 56 [(18, 400), (0, x1), (0, x2), (0, x3), (0, x4), (0, x5), (0, x6), (0, w32 (x7 + 1))] [] m2 r))) ∧ (¬ (v1 = 0) → (0 ≤ x7 ∧ x7 < 40) ∧ (∀ m3 : Mm, m3 = up m1 417 x7 (w32 ((m 417 x7) + 1)) → (Ev (d + 1) K_Mo_look 0 56 [(18, 400), (0, x1), (0, x2), (0, x3), (0, x4), (0, x5), (0, x6), (0, w32 (x7 + 1))] [] m3 r))))) ∧ (¬ (20 ≤ x7) → ∃ (v4 : Int) (m4 : Mm), Cl d k_Mo_has [(0, x5), (0, x7)] m (some (0, v4), m4) ∧ ((v4 = 0 → (0 ≤ x7 ∧ x7 < 40) ∧ (∀ m5 : Mm, m5 = up m4 417 x7 (w32 ((m 417 x7) + 0)) → (Ev (d + 1) K_Mo_look 0 56 [(18, 400), (0, x1), (0, x2), (0, x3), (0, x4), (0, x5), (0, x6), (0, w32 (x7 + 1))] [] m5 r))) ∧ (¬ (v4 = 0) → (0 ≤ x7 ∧ x7 < 40) ∧ (∀ m6 : Mm, m6 = up m4 417 x7 (w32 ((m 417 x7) + 1)) → (Ev (d + 1) K_Mo_look 0 56 [(18, 400), (0, x1), (0, x2), (0, x3), (0, x4), (0, x5), (0, x6), (0, w32 (x7 + 1))] [] m6 r)))))))) : Ev (d + 1) K_Mo_look 0 56 [(18, 400), (0, x1), (0, x2), (0, x3), (0, x4), (0, x5), (0, x6), (0, x7)] [] m r := by
  refine Ev_rn (q := (58, [(18, 400), (0, x1), (0, x2), (0, x3), (0, x4), (0, x5), (0, x6), (0, x7)], [(0, 40), (0, x7)], m)) 2 rfl ?_
  refine Ev_icmp rfl (fun hc => ?_) (fun hc => ?_)
  · replace h := h.1 hc
    refine Ev_rn (q := (31, [(18, 400), (0, x1), (0, x2), (0, x3), (0, w32 (x4 + 1)), (0, x5), (0, x6), (0, x7)], [], m)) 2 rfl ?_
    exact h
  · replace h := h.2 hc
    refine Ev_rn (q := (63, [(18, 400), (0, x1), (0, x2), (0, x3), (0, x4), (0, x5), (0, x6), (0, x7)], [(0, x7), (420, 417), (0, x7), (420, 417)], m)) 4 rfl ?_
    obtain ⟨hc, h⟩ := h
    refine Ev_iald (n := 40) rfl (by decide) (by decide) hc ?_
    refine Ev_rn (q := (66, [(18, 400), (0, x1), (0, x2), (0, x3), (0, x4), (0, x5), (0, x6), (0, x7)], [(0, 20), (0, x7), (0, m 417 x7), (0, x7), (420, 417)], m)) 2 rfl ?_
    refine Ev_icmp rfl (fun hc => ?_) (fun hc => ?_)
    · replace h := h.1 hc
      refine Ev_rn (q := (76, [(18, 400), (0, x1), (0, x2), (0, x3), (0, x4), (0, x5), (0, x6), (0, x7)], [(0, w32 (x7 - 20)), (0, x6), (0, m 417 x7), (0, x7), (420, 417)], m)) 4 rfl ?_
      obtain ⟨v1, m1, hc, h⟩ := h
      refine Ev_call (rest := [(0, m 417 x7), (0, x7), (420, 417)]) rfl rfl (Nat.le_of_ble_eq_true rfl) hc ?_
      refine Ev_if rfl (fun hc => ?_) (fun hc => ?_)
      · replace h := h.1 hc
        refine Ev_rn (q := (82, [(18, 400), (0, x1), (0, x2), (0, x3), (0, x4), (0, x5), (0, x6), (0, x7)], [(0, w32 ((m 417 x7) + 0)), (0, x7), (420, 417)], m1)) 2 rfl ?_
        obtain ⟨hc, h⟩ := h
        refine Ev_iast (n := 40) rfl (by decide) (by decide) hc ?_
        generalize e2 : up m1 417 x7 (w32 ((m 417 x7) + 0)) = m2
        replace h := h m2 e2.symm
        refine Ev_rn (q := (56, [(18, 400), (0, x1), (0, x2), (0, x3), (0, x4), (0, x5), (0, x6), (0, w32 (x7 + 1))], [], m2)) 2 rfl ?_
        exact h
      · replace h := h.2 hc
        refine Ev_rn (q := (82, [(18, 400), (0, x1), (0, x2), (0, x3), (0, x4), (0, x5), (0, x6), (0, x7)], [(0, w32 ((m 417 x7) + 1)), (0, x7), (420, 417)], m1)) 3 rfl ?_
        obtain ⟨hc, h⟩ := h
        refine Ev_iast (n := 40) rfl (by decide) (by decide) hc ?_
        generalize e3 : up m1 417 x7 (w32 ((m 417 x7) + 1)) = m3
        replace h := h m3 e3.symm
        refine Ev_rn (q := (56, [(18, 400), (0, x1), (0, x2), (0, x3), (0, x4), (0, x5), (0, x6), (0, w32 (x7 + 1))], [], m3)) 2 rfl ?_
        exact h
    · replace h := h.2 hc
      refine Ev_rn (q := (69, [(18, 400), (0, x1), (0, x2), (0, x3), (0, x4), (0, x5), (0, x6), (0, x7)], [(0, x7), (0, x5), (0, m 417 x7), (0, x7), (420, 417)], m)) 2 rfl ?_
      obtain ⟨v4, m4, hc, h⟩ := h
      refine Ev_call (rest := [(0, m 417 x7), (0, x7), (420, 417)]) rfl rfl (Nat.le_of_ble_eq_true rfl) hc ?_
      refine Ev_if rfl (fun hc => ?_) (fun hc => ?_)
      · replace h := h.1 hc
        refine Ev_rn (q := (82, [(18, 400), (0, x1), (0, x2), (0, x3), (0, x4), (0, x5), (0, x6), (0, x7)], [(0, w32 ((m 417 x7) + 0)), (0, x7), (420, 417)], m4)) 2 rfl ?_
        obtain ⟨hc, h⟩ := h
        refine Ev_iast (n := 40) rfl (by decide) (by decide) hc ?_
        generalize e5 : up m4 417 x7 (w32 ((m 417 x7) + 0)) = m5
        replace h := h m5 e5.symm
        refine Ev_rn (q := (56, [(18, 400), (0, x1), (0, x2), (0, x3), (0, x4), (0, x5), (0, x6), (0, w32 (x7 + 1))], [], m5)) 2 rfl ?_
        exact h
      · replace h := h.2 hc
        refine Ev_rn (q := (82, [(18, 400), (0, x1), (0, x2), (0, x3), (0, x4), (0, x5), (0, x6), (0, x7)], [(0, w32 ((m 417 x7) + 1)), (0, x7), (420, 417)], m4)) 4 rfl ?_
        obtain ⟨hc, h⟩ := h
        refine Ev_iast (n := 40) rfl (by decide) (by decide) hc ?_
        generalize e6 : up m4 417 x7 (w32 ((m 417 x7) + 1)) = m6
        replace h := h m6 e6.symm
        refine Ev_rn (q := (56, [(18, 400), (0, x1), (0, x2), (0, x3), (0, x4), (0, x5), (0, x6), (0, w32 (x7 + 1))], [], m6)) 2 rfl ?_
        exact h
theorem b_Mo_look_95 {d : Nat} {r : Option Vv × Mm} {m : Mm} {x1 x2 x3 x4 x5 : Int} {u6 u7 : Vv} (h : (40 ≤ x5 → r = (some (0, x3), m)) ∧ (¬ (40 ≤ x5) → (x2 ≤ 1 → r = (some (0, x3), m)) ∧ (¬ (x2 ≤ 1) → (0 ≤ x5 ∧ x5 < 40) ∧ ((0 ≤ x5 ∧ x5 < 40) ∧ ((m 417 x5 ≤ w32 (x2 - (m 417 x5)) → (0 ≤ x5 ∧ x5 < 40) ∧ ((w32 (x2 - (m 417 x5)) < x4 → Ev (d + 1) K_Mo_look 0 95 [(18, 400), (0, x1), (0, x2), (0, x5), (0, w32 (x2 - (m 417 x5))), (0, w32 (x5 + 1)), (0, w32 (x2 - (m 417 x5))), u7] [] m r) ∧ (¬ (w32 (x2 - (m 417 x5)) < x4) → Ev (d + 1) K_Mo_look 0 95 [(18, 400), (0, x1), (0, x2), (0, x3), (0, x4), (0, w32 (x5 + 1)), (0, w32 (x2 - (m 417 x5))), u7] [] m r))) ∧ (¬ (m 417 x5 ≤ w32 (x2 - (m 417 x5))) → (0 ≤ x5 ∧ x5 < 40) ∧ ((m 417 x5 < x4 → Ev (d + 1) K_Mo_look 0 95 [(18, 400), (0, x1), (0, x2), (0, x5), (0, m 417 x5), (0, w32 (x5 + 1)), (0, m 417 x5), u7] [] m r) ∧ (¬ (m 417 x5 < x4) → Ev (d + 1) K_Mo_look 0 95 [(18, 400), (0, x1), (0, x2), (0, x3), (0, x4), (0, w32 (x5 + 1)), (0, m 417 x5), u7] [] m r)))))))) : Ev (d + 1) K_Mo_look 0 95 [(18, 400), (0, x1), (0, x2), (0, x3), (0, x4), (0, x5), u6, u7] [] m r := by
  refine Ev_rn (q := (97, [(18, 400), (0, x1), (0, x2), (0, x3), (0, x4), (0, x5), u6, u7], [(0, 40), (0, x5)], m)) 2 rfl ?_
  refine Ev_icmp rfl (fun hc => ?_) (fun hc => ?_)
  · replace h := h.1 hc
    refine Ev_rn (q := (135, [(18, 400), (0, x1), (0, x2), (0, x3), (0, x4), (0, x5), u6, u7], [(0, x3)], m)) 1 rfl ?_
    exact Ev_ret rfl rfl h
  · replace h := h.2 hc
    refine Ev_rn (q := (100, [(18, 400), (0, x1), (0, x2), (0, x3), (0, x4), (0, x5), u6, u7], [(0, 1), (0, x2)], m)) 2 rfl ?_
    refine Ev_icmp rfl (fun hc => ?_) (fun hc => ?_)
    · replace h := h.1 hc
      refine Ev_rn (q := (135, [(18, 400), (0, x1), (0, x2), (0, x3), (0, x4), (0, x5), u6, u7], [(0, x3)], m)) 1 rfl ?_
      exact Ev_ret rfl rfl h
    · replace h := h.2 hc
      refine Ev_rn (q := (104, [(18, 400), (0, x1), (0, x2), (0, x3), (0, x4), (0, x5), u6, u7], [(0, x5), (420, 417)], m)) 3 rfl ?_
      obtain ⟨hc, h⟩ := h
      refine Ev_iald (n := 40) rfl (by decide) (by decide) hc ?_
      refine Ev_rn (q := (109, [(18, 400), (0, x1), (0, x2), (0, x3), (0, x4), (0, x5), u6, u7], [(0, x5), (420, 417), (0, x2), (0, m 417 x5)], m)) 4 rfl ?_
      obtain ⟨hc, h⟩ := h
      refine Ev_iald (n := 40) rfl (by decide) (by decide) hc ?_
      refine Ev_rn (q := (111, [(18, 400), (0, x1), (0, x2), (0, x3), (0, x4), (0, x5), u6, u7], [(0, w32 (x2 - (m 417 x5))), (0, m 417 x5)], m)) 1 rfl ?_
      refine Ev_icmp rfl (fun hc => ?_) (fun hc => ?_)
      · replace h := h.1 hc
        refine Ev_rn (q := (121, [(18, 400), (0, x1), (0, x2), (0, x3), (0, x4), (0, x5), u6, u7], [(0, x5), (420, 417), (0, x2)], m)) 4 rfl ?_
        obtain ⟨hc, h⟩ := h
        refine Ev_iald (n := 40) rfl (by decide) (by decide) hc ?_
        refine Ev_rn (q := (126, [(18, 400), (0, x1), (0, x2), (0, x3), (0, x4), (0, x5), (0, w32 (x2 - (m 417 x5))), u7], [(0, x4), (0, w32 (x2 - (m 417 x5)))], m)) 4 rfl ?_
        refine Ev_icmp rfl (fun hc => ?_) (fun hc => ?_)
        · replace h := h.1 hc
          refine Ev_rn (q := (95, [(18, 400), (0, x1), (0, x2), (0, x5), (0, w32 (x2 - (m 417 x5))), (0, w32 (x5 + 1)), (0, w32 (x2 - (m 417 x5))), u7], [], m)) 6 rfl ?_
          exact h
        · replace h := h.2 hc
          refine Ev_rn (q := (95, [(18, 400), (0, x1), (0, x2), (0, x3), (0, x4), (0, w32 (x5 + 1)), (0, w32 (x2 - (m 417 x5))), u7], [], m)) 3 rfl ?_
          exact h
      · replace h := h.2 hc
        refine Ev_rn (q := (115, [(18, 400), (0, x1), (0, x2), (0, x3), (0, x4), (0, x5), u6, u7], [(0, x5), (420, 417)], m)) 3 rfl ?_
        obtain ⟨hc, h⟩ := h
        refine Ev_iald (n := 40) rfl (by decide) (by decide) hc ?_
        refine Ev_rn (q := (126, [(18, 400), (0, x1), (0, x2), (0, x3), (0, x4), (0, x5), (0, m 417 x5), u7], [(0, x4), (0, m 417 x5)], m)) 4 rfl ?_
        refine Ev_icmp rfl (fun hc => ?_) (fun hc => ?_)
        · replace h := h.1 hc
          refine Ev_rn (q := (95, [(18, 400), (0, x1), (0, x2), (0, x5), (0, m 417 x5), (0, w32 (x5 + 1)), (0, m 417 x5), u7], [], m)) 6 rfl ?_
          exact h
        · replace h := h.2 hc
          refine Ev_rn (q := (95, [(18, 400), (0, x1), (0, x2), (0, x3), (0, x4), (0, w32 (x5 + 1)), (0, m 417 x5), u7], [], m)) 3 rfl ?_
          exact h
theorem b_Mo_said {d : Nat} {r : Option Vv × Mm} {m : Mm} {x1 x2 : Int} (h : (¬ x1 = (-1) → ∃ (v1 : Int) (m1 : Mm), Cl d k_Mo_isHedge [(0, x1)] m (some (0, v1), m1) ∧ ((v1 = 0 → r = (some (0, (-2)), m1)) ∧ (¬ (v1 = 0) → ∃ (v2 : Int) (m2 : Mm), Cl d k_Mo_isIn [(0, x2), (0, 0), (0, 10)] m1 (some (0, v2), m2) ∧ ((v2 = 0 → r = (some (0, (-2)), m2)) ∧ (¬ (v2 = 0) → (¬ m2 401 5 = 8 → (0 ≤ w32 (40 + (w32 (2 * (m2 401 5)))) ∧ w32 (40 + (w32 (2 * (m2 401 5)))) < 1466) ∧ (∀ m3 : Mm, m3 = up m2 401 (w32 (40 + (w32 (2 * (m2 401 5))))) x1 → ((0 ≤ w32 ((w32 (40 + (w32 (2 * (m3 401 5))))) + 1) ∧ w32 ((w32 (40 + (w32 (2 * (m3 401 5))))) + 1) < 1466) ∧ (∀ m4 : Mm, m4 = up m3 401 (w32 ((w32 (40 + (w32 (2 * (m3 401 5))))) + 1)) x2 → (∀ m5 : Mm, m5 = up m4 401 5 (w32 ((m4 401 5) + 1)) → (r = (some (0, m5 401 5), m5))))))) ∧ (¬ (¬ m2 401 5 = 8) → r = (some (0, (-2)), m2))))))) ∧ (¬ (¬ x1 = (-1)) → ∀ m6 : Mm, m6 = up m 401 5 0 → (r = (some (0, 0), m6)))) : Ev (d + 1) K_Mo_said 0 0 [(18, 400), (0, x1), (0, x2)] [] m r := by
  refine Ev_rn (q := (2, [(18, 400), (0, x1), (0, x2)], [(0, (-1)), (0, x1)], m)) 2 rfl ?_
  refine Ev_icmp rfl (fun hc => ?_) (fun hc => ?_)
  · replace h := h.1 hc
    refine Ev_rn (q := (11, [(18, 400), (0, x1), (0, x2)], [(0, x1)], m)) 1 rfl ?_
    obtain ⟨v1, m1, hc, h⟩ := h
    refine Ev_call (rest := []) rfl rfl (Nat.le_of_ble_eq_true rfl) hc ?_
    refine Ev_if rfl (fun hc => ?_) (fun hc => ?_)
    · replace h := h.1 hc
      refine Ev_rn (q := (25, [(18, 400), (0, x1), (0, x2)], [(0, (-2))], m1)) 1 rfl ?_
      exact Ev_ret rfl rfl h
    · replace h := h.2 hc
      refine Ev_rn (q := (16, [(18, 400), (0, x1), (0, x2)], [(0, 10), (0, 0), (0, x2)], m1)) 3 rfl ?_
      obtain ⟨v2, m2, hc, h⟩ := h
      refine Ev_call (rest := []) rfl rfl (Nat.le_of_ble_eq_true rfl) hc ?_
      refine Ev_if rfl (fun hc => ?_) (fun hc => ?_)
      · replace h := h.1 hc
        refine Ev_rn (q := (25, [(18, 400), (0, x1), (0, x2)], [(0, (-2))], m2)) 1 rfl ?_
        exact Ev_ret rfl rfl h
      · replace h := h.2 hc
        refine Ev_rn (q := (21, [(18, 400), (0, x1), (0, x2)], [(0, 5), (11828, 401)], m2)) 3 rfl ?_
        refine Ev_iald (n := 1466) rfl (by decide) (by decide) ⟨by decide, by decide⟩ ?_
        refine Ev_rn (q := (23, [(18, 400), (0, x1), (0, x2)], [(0, 8), (0, m2 401 5)], m2)) 1 rfl ?_
        refine Ev_icmp rfl (fun hc => ?_) (fun hc => ?_)
        · replace h := h.1 hc
          refine Ev_rn (q := (33, [(18, 400), (0, x1), (0, x2)], [(0, 5), (11828, 401), (0, 2), (0, 40), (11828, 401)], m2)) 7 rfl ?_
          refine Ev_iald (n := 1466) rfl (by decide) (by decide) ⟨by decide, by decide⟩ ?_
          refine Ev_rn (q := (37, [(18, 400), (0, x1), (0, x2)], [(0, x1), (0, w32 (40 + (w32 (2 * (m2 401 5))))), (11828, 401)], m2)) 3 rfl ?_
          obtain ⟨hc, h⟩ := h
          refine Ev_iast (n := 1466) rfl (by decide) (by decide) hc ?_
          generalize e3 : up m2 401 (w32 (40 + (w32 (2 * (m2 401 5))))) x1 = m3
          replace h := h m3 e3.symm
          refine Ev_rn (q := (45, [(18, 400), (0, x1), (0, x2)], [(0, 5), (11828, 401), (0, 2), (0, 40), (11828, 401)], m3)) 7 rfl ?_
          refine Ev_iald (n := 1466) rfl (by decide) (by decide) ⟨by decide, by decide⟩ ?_
          refine Ev_rn (q := (51, [(18, 400), (0, x1), (0, x2)], [(0, x2), (0, w32 ((w32 (40 + (w32 (2 * (m3 401 5))))) + 1)), (11828, 401)], m3)) 5 rfl ?_
          obtain ⟨hc, h⟩ := h
          refine Ev_iast (n := 1466) rfl (by decide) (by decide) hc ?_
          generalize e4 : up m3 401 (w32 ((w32 (40 + (w32 (2 * (m3 401 5))))) + 1)) x2 = m4
          replace h := h m4 e4.symm
          refine Ev_rn (q := (56, [(18, 400), (0, x1), (0, x2)], [(0, 5), (11828, 401), (0, 5), (11828, 401)], m4)) 4 rfl ?_
          refine Ev_iald (n := 1466) rfl (by decide) (by decide) ⟨by decide, by decide⟩ ?_
          refine Ev_rn (q := (59, [(18, 400), (0, x1), (0, x2)], [(0, w32 ((m4 401 5) + 1)), (0, 5), (11828, 401)], m4)) 2 rfl ?_
          refine Ev_iast (n := 1466) rfl (by decide) (by decide) ⟨by decide, by decide⟩ ?_
          generalize e5 : up m4 401 5 (w32 ((m4 401 5) + 1)) = m5
          replace h := h m5 e5.symm
          refine Ev_rn (q := (63, [(18, 400), (0, x1), (0, x2)], [(0, 5), (11828, 401)], m5)) 3 rfl ?_
          refine Ev_iald (n := 1466) rfl (by decide) (by decide) ⟨by decide, by decide⟩ ?_
          exact Ev_ret rfl rfl h
        · replace h := h.2 hc
          refine Ev_rn (q := (25, [(18, 400), (0, x1), (0, x2)], [(0, (-2))], m2)) 1 rfl ?_
          exact Ev_ret rfl rfl h
  · replace h := h.2 hc
    refine Ev_rn (q := (7, [(18, 400), (0, x1), (0, x2)], [(0, 0), (0, 5), (11828, 401)], m)) 4 rfl ?_
    refine Ev_iast (n := 1466) rfl (by decide) (by decide) ⟨by decide, by decide⟩ ?_
    generalize e6 : up m 401 5 0 = m6
    replace h := h m6 e6.symm
    refine Ev_rn (q := (9, [(18, 400), (0, x1), (0, x2)], [(0, 0)], m6)) 1 rfl ?_
    exact Ev_ret rfl rfl h
theorem b_Mo_whose {d : Nat} {r : Option Vv × Mm} {m : Mm} (h : Ev (d + 1) K_Mo_whose 0 4 [(18, 400), (0, 0), (0, 0), (9, 0), (9, 0)] [] m r) : Ev (d + 1) K_Mo_whose 0 0 [(18, 400), (9, 0), (9, 0), (9, 0), (9, 0)] [] m r := by
  refine Ev_rn (q := (4, [(18, 400), (0, 0), (0, 0), (9, 0), (9, 0)], [], m)) 4 rfl ?_
  exact h
theorem b_Mo_whose_4 {d : Nat} {r : Option Vv × Mm} {m : Mm} {x1 x2 : Int} {u3 u4 : Vv} (h : (m 401 2 ≤ x2 → r = (some (0, x1), m)) ∧ (¬ (m 401 2 ≤ x2) → Ev (d + 1) K_Mo_whose 0 14 [(18, 400), (0, x1), (0, x2), (0, 1), (0, 40)] [] m r)) : Ev (d + 1) K_Mo_whose 0 4 [(18, 400), (0, x1), (0, x2), u3, u4] [] m r := by
  refine Ev_rn (q := (8, [(18, 400), (0, x1), (0, x2), u3, u4], [(0, 2), (11828, 401), (0, x2)], m)) 4 rfl ?_
  refine Ev_iald (n := 1466) rfl (by decide) (by decide) ⟨by decide, by decide⟩ ?_
  refine Ev_icmp rfl (fun hc => ?_) (fun hc => ?_)
  · replace h := h.1 hc
    refine Ev_rn (q := (59, [(18, 400), (0, x1), (0, x2), u3, u4], [(0, x1)], m)) 1 rfl ?_
    exact Ev_ret rfl rfl h
  · replace h := h.2 hc
    refine Ev_rn (q := (14, [(18, 400), (0, x1), (0, x2), (0, 1), (0, 40)], [], m)) 4 rfl ?_
    exact h
theorem b_Mo_whose_14 {d : Nat} {r : Option Vv × Mm} {m : Mm} {x1 x2 x3 x4 : Int} (h : (w32 (40 + (w32 (2 * (m 401 5)))) ≤ x4 → (x3 = 0 → Ev (d + 1) K_Mo_whose 0 4 [(18, 400), (0, iro x1 0), (0, w32 (x2 + 1)), (0, x3), (0, x4)] [] m r) ∧ (¬ (x3 = 0) → Ev (d + 1) K_Mo_whose 0 4 [(18, 400), (0, iro x1 (isl 1 x2)), (0, w32 (x2 + 1)), (0, x3), (0, x4)] [] m r)) ∧ (¬ (w32 (40 + (w32 (2 * (m 401 5)))) ≤ x4) → (x3 = 0 → Ev (d + 1) K_Mo_whose 0 14 [(18, 400), (0, x1), (0, x2), (0, 0), (0, w32 (x4 + 2))] [] m r) ∧ (¬ (x3 = 0) → (0 ≤ x4 ∧ x4 < 1466) ∧ (∃ (v1 : Int) (m1 : Mm), Cl d k_Mo_frostsOf [(18, 400), (0, x2), (0, m 401 x4)] m (some (0, v1), m1) ∧ ((0 ≤ w32 (x4 + 1) ∧ w32 (x4 + 1) < 1466) ∧ ((¬ v1 = m1 401 (w32 (x4 + 1)) → Ev (d + 1) K_Mo_whose 0 14 [(18, 400), (0, x1), (0, x2), (0, 0), (0, w32 (x4 + 2))] [] m1 r) ∧ (¬ (¬ v1 = m1 401 (w32 (x4 + 1))) → Ev (d + 1) K_Mo_whose 0 14 [(18, 400), (0, x1), (0, x2), (0, 1), (0, w32 (x4 + 2))] [] m1 r))))))) : Ev (d + 1) K_Mo_whose 0 14 [(18, 400), (0, x1), (0, x2), (0, x3), (0, x4)] [] m r := by
  refine Ev_rn (q := (20, [(18, 400), (0, x1), (0, x2), (0, x3), (0, x4)], [(0, 5), (11828, 401), (0, 2), (0, 40), (0, x4)], m)) 6 rfl ?_
  refine Ev_iald (n := 1466) rfl (by decide) (by decide) ⟨by decide, by decide⟩ ?_
  refine Ev_rn (q := (23, [(18, 400), (0, x1), (0, x2), (0, x3), (0, x4)], [(0, w32 (40 + (w32 (2 * (m 401 5))))), (0, x4)], m)) 2 rfl ?_
  refine Ev_icmp rfl (fun hc => ?_) (fun hc => ?_)
  · replace h := h.1 hc
    refine Ev_rn (q := (48, [(18, 400), (0, x1), (0, x2), (0, x3), (0, x4)], [(0, x3), (0, x1)], m)) 2 rfl ?_
    refine Ev_if rfl (fun hc => ?_) (fun hc => ?_)
    · replace h := h.1 hc
      refine Ev_rn (q := (4, [(18, 400), (0, iro x1 0), (0, w32 (x2 + 1)), (0, x3), (0, x4)], [], m)) 5 rfl ?_
      exact h
    · replace h := h.2 hc
      refine Ev_rn (q := (4, [(18, 400), (0, iro x1 (isl 1 x2)), (0, w32 (x2 + 1)), (0, x3), (0, x4)], [], m)) 8 rfl ?_
      exact h
  · replace h := h.2 hc
    refine Ev_rn (q := (25, [(18, 400), (0, x1), (0, x2), (0, x3), (0, x4)], [(0, x3)], m)) 1 rfl ?_
    refine Ev_if rfl (fun hc => ?_) (fun hc => ?_)
    · replace h := h.1 hc
      refine Ev_rn (q := (14, [(18, 400), (0, x1), (0, x2), (0, 0), (0, w32 (x4 + 2))], [], m)) 4 rfl ?_
      exact h
    · replace h := h.2 hc
      refine Ev_rn (q := (31, [(18, 400), (0, x1), (0, x2), (0, x3), (0, x4)], [(0, x4), (11828, 401), (0, x2), (18, 400)], m)) 5 rfl ?_
      obtain ⟨hc, h⟩ := h
      refine Ev_iald (n := 1466) rfl (by decide) (by decide) hc ?_
      obtain ⟨v1, m1, hc, h⟩ := h
      refine Ev_call (rest := []) rfl rfl (Nat.le_of_ble_eq_true rfl) hc ?_
      refine Ev_rn (q := (38, [(18, 400), (0, x1), (0, x2), (0, x3), (0, x4)], [(0, w32 (x4 + 1)), (11828, 401), (0, v1)], m1)) 5 rfl ?_
      obtain ⟨hc, h⟩ := h
      refine Ev_iald (n := 1466) rfl (by decide) (by decide) hc ?_
      refine Ev_icmp rfl (fun hc => ?_) (fun hc => ?_)
      · replace h := h.1 hc
        refine Ev_rn (q := (14, [(18, 400), (0, x1), (0, x2), (0, 0), (0, w32 (x4 + 2))], [], m1)) 4 rfl ?_
        exact h
      · replace h := h.2 hc
        refine Ev_rn (q := (14, [(18, 400), (0, x1), (0, x2), (0, 1), (0, w32 (x4 + 2))], [], m1)) 5 rfl ?_
        exact h
theorem b_Mo_image {d : Nat} {r : Option Vv × Mm} {m : Mm} (h : ∃ (m1 : Mm), Cl d k_Mo_copy [(11828, 401), (11828, 402)] m (none, m1) ∧ (r = (some (0, m1 401 6), m1))) : Ev (d + 1) K_Mo_image 0 0 [(18, 400)] [] m r := by
  refine Ev_rn (q := (4, [(18, 400)], [(11828, 402), (11828, 401)], m)) 4 rfl ?_
  obtain ⟨m1, hc, h⟩ := h
  refine Ev_call (rest := []) rfl rfl (Nat.le_of_ble_eq_true rfl) hc ?_
  refine Ev_rn (q := (8, [(18, 400)], [(0, 6), (11828, 401)], m1)) 3 rfl ?_
  refine Ev_iald (n := 1466) rfl (by decide) (by decide) ⟨by decide, by decide⟩ ?_
  exact Ev_ret rfl rfl h
theorem b_Mo_back {d : Nat} {r : Option Vv × Mm} {m : Mm} (h : ∃ (m1 : Mm), Cl d k_Mo_copy [(11828, 402), (11828, 401)] m (none, m1) ∧ (r = (some (0, m1 401 6), m1))) : Ev (d + 1) K_Mo_back 0 0 [(18, 400)] [] m r := by
  refine Ev_rn (q := (4, [(18, 400)], [(11828, 401), (11828, 402)], m)) 4 rfl ?_
  obtain ⟨m1, hc, h⟩ := h
  refine Ev_call (rest := []) rfl rfl (Nat.le_of_ble_eq_true rfl) hc ?_
  refine Ev_rn (q := (8, [(18, 400)], [(0, 6), (11828, 401)], m1)) 3 rfl ?_
  refine Ev_iald (n := 1466) rfl (by decide) (by decide) ⟨by decide, by decide⟩ ?_
  exact Ev_ret rfl rfl h
theorem b_Mo_about {d : Nat} {r : Option Vv × Mm} {m : Mm} {x1 : Int} (h : ∃ (v1 : Int) (m1 : Mm), Cl d k_Mo_isIn [(0, x1), (0, 0), (0, 5)] m (some (0, v1), m1) ∧ ((v1 = 0 → (¬ x1 = 6 → (¬ x1 = 7 → r = (some (0, (-2)), m1)) ∧ (¬ (¬ x1 = 7) → r = (some (0, m1 401 31), m1))) ∧ (¬ (¬ x1 = 6) → r = (some (0, m1 400 5), m1))) ∧ (¬ (v1 = 0) → (0 ≤ x1 ∧ x1 < 1466) ∧ (r = (some (0, m1 401 x1), m1))))) : Ev (d + 1) K_Mo_about 0 0 [(18, 400), (0, x1)] [] m r := by
  refine Ev_rn (q := (3, [(18, 400), (0, x1)], [(0, 5), (0, 0), (0, x1)], m)) 3 rfl ?_
  obtain ⟨v1, m1, hc, h⟩ := h
  refine Ev_call (rest := []) rfl rfl (Nat.le_of_ble_eq_true rfl) hc ?_
  refine Ev_if rfl (fun hc => ?_) (fun hc => ?_)
  · replace h := h.1 hc
    refine Ev_rn (q := (12, [(18, 400), (0, x1)], [(0, 6), (0, x1)], m1)) 2 rfl ?_
    refine Ev_icmp rfl (fun hc => ?_) (fun hc => ?_)
    · replace h := h.1 hc
      refine Ev_rn (q := (18, [(18, 400), (0, x1)], [(0, 7), (0, x1)], m1)) 2 rfl ?_
      refine Ev_icmp rfl (fun hc => ?_) (fun hc => ?_)
      · replace h := h.1 hc
        refine Ev_rn (q := (25, [(18, 400), (0, x1)], [(0, (-2))], m1)) 1 rfl ?_
        exact Ev_ret rfl rfl h
      · replace h := h.2 hc
        refine Ev_rn (q := (22, [(18, 400), (0, x1)], [(0, 31), (11828, 401)], m1)) 3 rfl ?_
        refine Ev_iald (n := 1466) rfl (by decide) (by decide) ⟨by decide, by decide⟩ ?_
        refine Ev_rn (q := (25, [(18, 400), (0, x1)], [(0, m1 401 31)], m1)) 1 rfl ?_
        exact Ev_ret rfl rfl h
    · replace h := h.2 hc
      refine Ev_rn (q := (25, [(18, 400), (0, x1)], [(0, m1 400 5)], m1)) 3 rfl ?_
      exact Ev_ret rfl rfl h
  · replace h := h.2 hc
    refine Ev_rn (q := (8, [(18, 400), (0, x1)], [(0, x1), (11828, 401)], m1)) 3 rfl ?_
    obtain ⟨hc, h⟩ := h
    refine Ev_iald (n := 1466) rfl (by decide) (by decide) hc ?_
    refine Ev_rn (q := (25, [(18, 400), (0, x1)], [(0, m1 401 x1)], m1)) 1 rfl ?_
    exact Ev_ret rfl rfl h
theorem b_In_bitCount {d : Nat} {r : Option Vv × Mm} {m : Mm} {x0 : Int} (h : r = (some (0, ian (w32 ((w32 ((ian (w32 ((w32 ((ian (w32 (x0 - (ian (ius x0 1) 1431655765))) 858993459) + (ian (ius (w32 (x0 - (ian (ius x0 1) 1431655765))) 2) 858993459))) + (ius (w32 ((ian (w32 (x0 - (ian (ius x0 1) 1431655765))) 858993459) + (ian (ius (w32 (x0 - (ian (ius x0 1) 1431655765))) 2) 858993459))) 4))) 252645135) + (ius (ian (w32 ((w32 ((ian (w32 (x0 - (ian (ius x0 1) 1431655765))) 858993459) + (ian (ius (w32 (x0 - (ian (ius x0 1) 1431655765))) 2) 858993459))) + (ius (w32 ((ian (w32 (x0 - (ian (ius x0 1) 1431655765))) 858993459) + (ian (ius (w32 (x0 - (ian (ius x0 1) 1431655765))) 2) 858993459))) 4))) 252645135) 8))) + (ius (w32 ((ian (w32 ((w32 ((ian (w32 (x0 - (ian (ius x0 1) 1431655765))) 858993459) + (ian (ius (w32 (x0 - (ian (ius x0 1) 1431655765))) 2) 858993459))) + (ius (w32 ((ian (w32 (x0 - (ian (ius x0 1) 1431655765))) 858993459) + (ian (ius (w32 (x0 - (ian (ius x0 1) 1431655765))) 2) 858993459))) 4))) 252645135) + (ius (ian (w32 ((w32 ((ian (w32 (x0 - (ian (ius x0 1) 1431655765))) 858993459) + (ian (ius (w32 (x0 - (ian (ius x0 1) 1431655765))) 2) 858993459))) + (ius (w32 ((ian (w32 (x0 - (ian (ius x0 1) 1431655765))) 858993459) + (ian (ius (w32 (x0 - (ian (ius x0 1) 1431655765))) 2) 858993459))) 4))) 252645135) 8))) 16))) 63), m)) : Ev d K_In_bitCount 0 0 [(0, x0)] [] m r := by
  refine Ev_rn (q := (41, [(0, w32 ((w32 ((ian (w32 ((w32 ((ian (w32 (x0 - (ian (ius x0 1) 1431655765))) 858993459) + (ian (ius (w32 (x0 - (ian (ius x0 1) 1431655765))) 2) 858993459))) + (ius (w32 ((ian (w32 (x0 - (ian (ius x0 1) 1431655765))) 858993459) + (ian (ius (w32 (x0 - (ian (ius x0 1) 1431655765))) 2) 858993459))) 4))) 252645135) + (ius (ian (w32 ((w32 ((ian (w32 (x0 - (ian (ius x0 1) 1431655765))) 858993459) + (ian (ius (w32 (x0 - (ian (ius x0 1) 1431655765))) 2) 858993459))) + (ius (w32 ((ian (w32 (x0 - (ian (ius x0 1) 1431655765))) 858993459) + (ian (ius (w32 (x0 - (ian (ius x0 1) 1431655765))) 2) 858993459))) 4))) 252645135) 8))) + (ius (w32 ((ian (w32 ((w32 ((ian (w32 (x0 - (ian (ius x0 1) 1431655765))) 858993459) + (ian (ius (w32 (x0 - (ian (ius x0 1) 1431655765))) 2) 858993459))) + (ius (w32 ((ian (w32 (x0 - (ian (ius x0 1) 1431655765))) 858993459) + (ian (ius (w32 (x0 - (ian (ius x0 1) 1431655765))) 2) 858993459))) 4))) 252645135) + (ius (ian (w32 ((w32 ((ian (w32 (x0 - (ian (ius x0 1) 1431655765))) 858993459) + (ian (ius (w32 (x0 - (ian (ius x0 1) 1431655765))) 2) 858993459))) + (ius (w32 ((ian (w32 (x0 - (ian (ius x0 1) 1431655765))) 858993459) + (ian (ius (w32 (x0 - (ian (ius x0 1) 1431655765))) 2) 858993459))) 4))) 252645135) 8))) 16)))], [(0, ian (w32 ((w32 ((ian (w32 ((w32 ((ian (w32 (x0 - (ian (ius x0 1) 1431655765))) 858993459) + (ian (ius (w32 (x0 - (ian (ius x0 1) 1431655765))) 2) 858993459))) + (ius (w32 ((ian (w32 (x0 - (ian (ius x0 1) 1431655765))) 858993459) + (ian (ius (w32 (x0 - (ian (ius x0 1) 1431655765))) 2) 858993459))) 4))) 252645135) + (ius (ian (w32 ((w32 ((ian (w32 (x0 - (ian (ius x0 1) 1431655765))) 858993459) + (ian (ius (w32 (x0 - (ian (ius x0 1) 1431655765))) 2) 858993459))) + (ius (w32 ((ian (w32 (x0 - (ian (ius x0 1) 1431655765))) 858993459) + (ian (ius (w32 (x0 - (ian (ius x0 1) 1431655765))) 2) 858993459))) 4))) 252645135) 8))) + (ius (w32 ((ian (w32 ((w32 ((ian (w32 (x0 - (ian (ius x0 1) 1431655765))) 858993459) + (ian (ius (w32 (x0 - (ian (ius x0 1) 1431655765))) 2) 858993459))) + (ius (w32 ((ian (w32 (x0 - (ian (ius x0 1) 1431655765))) 858993459) + (ian (ius (w32 (x0 - (ian (ius x0 1) 1431655765))) 2) 858993459))) 4))) 252645135) + (ius (ian (w32 ((w32 ((ian (w32 (x0 - (ian (ius x0 1) 1431655765))) 858993459) + (ian (ius (w32 (x0 - (ian (ius x0 1) 1431655765))) 2) 858993459))) + (ius (w32 ((ian (w32 (x0 - (ian (ius x0 1) 1431655765))) 858993459) + (ian (ius (w32 (x0 - (ian (ius x0 1) 1431655765))) 2) 858993459))) 4))) 252645135) 8))) 16))) 63)], m)) 41 rfl ?_
  exact Ev_ret rfl rfl h
theorem b_Lo_bitCount {d : Nat} {r : Option Vv × Mm} {m : Mm} {x0 : Int} (h : r = (some (0, ian (w32 (w64 ((w64 ((w64 ((lan (w64 ((w64 ((lan (w64 (x0 - (lan (lus x0 1) 6148914691236517205))) 3689348814741910323) + (lan (lus (w64 (x0 - (lan (lus x0 1) 6148914691236517205))) 2) 3689348814741910323))) + (lus (w64 ((lan (w64 (x0 - (lan (lus x0 1) 6148914691236517205))) 3689348814741910323) + (lan (lus (w64 (x0 - (lan (lus x0 1) 6148914691236517205))) 2) 3689348814741910323))) 4))) 1085102592571150095) + (lus (lan (w64 ((w64 ((lan (w64 (x0 - (lan (lus x0 1) 6148914691236517205))) 3689348814741910323) + (lan (lus (w64 (x0 - (lan (lus x0 1) 6148914691236517205))) 2) 3689348814741910323))) + (lus (w64 ((lan (w64 (x0 - (lan (lus x0 1) 6148914691236517205))) 3689348814741910323) + (lan (lus (w64 (x0 - (lan (lus x0 1) 6148914691236517205))) 2) 3689348814741910323))) 4))) 1085102592571150095) 8))) + (lus (w64 ((lan (w64 ((w64 ((lan (w64 (x0 - (lan (lus x0 1) 6148914691236517205))) 3689348814741910323) + (lan (lus (w64 (x0 - (lan (lus x0 1) 6148914691236517205))) 2) 3689348814741910323))) + (lus (w64 ((lan (w64 (x0 - (lan (lus x0 1) 6148914691236517205))) 3689348814741910323) + (lan (lus (w64 (x0 - (lan (lus x0 1) 6148914691236517205))) 2) 3689348814741910323))) 4))) 1085102592571150095) + (lus (lan (w64 ((w64 ((lan (w64 (x0 - (lan (lus x0 1) 6148914691236517205))) 3689348814741910323) + (lan (lus (w64 (x0 - (lan (lus x0 1) 6148914691236517205))) 2) 3689348814741910323))) + (lus (w64 ((lan (w64 (x0 - (lan (lus x0 1) 6148914691236517205))) 3689348814741910323) + (lan (lus (w64 (x0 - (lan (lus x0 1) 6148914691236517205))) 2) 3689348814741910323))) 4))) 1085102592571150095) 8))) 16))) + (lus (w64 ((w64 ((lan (w64 ((w64 ((lan (w64 (x0 - (lan (lus x0 1) 6148914691236517205))) 3689348814741910323) + (lan (lus (w64 (x0 - (lan (lus x0 1) 6148914691236517205))) 2) 3689348814741910323))) + (lus (w64 ((lan (w64 (x0 - (lan (lus x0 1) 6148914691236517205))) 3689348814741910323) + (lan (lus (w64 (x0 - (lan (lus x0 1) 6148914691236517205))) 2) 3689348814741910323))) 4))) 1085102592571150095) + (lus (lan (w64 ((w64 ((lan (w64 (x0 - (lan (lus x0 1) 6148914691236517205))) 3689348814741910323) + (lan (lus (w64 (x0 - (lan (lus x0 1) 6148914691236517205))) 2) 3689348814741910323))) + (lus (w64 ((lan (w64 (x0 - (lan (lus x0 1) 6148914691236517205))) 3689348814741910323) + (lan (lus (w64 (x0 - (lan (lus x0 1) 6148914691236517205))) 2) 3689348814741910323))) 4))) 1085102592571150095) 8))) + (lus (w64 ((lan (w64 ((w64 ((lan (w64 (x0 - (lan (lus x0 1) 6148914691236517205))) 3689348814741910323) + (lan (lus (w64 (x0 - (lan (lus x0 1) 6148914691236517205))) 2) 3689348814741910323))) + (lus (w64 ((lan (w64 (x0 - (lan (lus x0 1) 6148914691236517205))) 3689348814741910323) + (lan (lus (w64 (x0 - (lan (lus x0 1) 6148914691236517205))) 2) 3689348814741910323))) 4))) 1085102592571150095) + (lus (lan (w64 ((w64 ((lan (w64 (x0 - (lan (lus x0 1) 6148914691236517205))) 3689348814741910323) + (lan (lus (w64 (x0 - (lan (lus x0 1) 6148914691236517205))) 2) 3689348814741910323))) + (lus (w64 ((lan (w64 (x0 - (lan (lus x0 1) 6148914691236517205))) 3689348814741910323) + (lan (lus (w64 (x0 - (lan (lus x0 1) 6148914691236517205))) 2) 3689348814741910323))) 4))) 1085102592571150095) 8))) 16))) 32)))) 127), m)) : Ev d K_Lo_bitCount 0 0 [(1, x0), (9, 0)] [] m r := by
  refine Ev_rn (q := (48, [(1, w64 ((w64 ((w64 ((lan (w64 ((w64 ((lan (w64 (x0 - (lan (lus x0 1) 6148914691236517205))) 3689348814741910323) + (lan (lus (w64 (x0 - (lan (lus x0 1) 6148914691236517205))) 2) 3689348814741910323))) + (lus (w64 ((lan (w64 (x0 - (lan (lus x0 1) 6148914691236517205))) 3689348814741910323) + (lan (lus (w64 (x0 - (lan (lus x0 1) 6148914691236517205))) 2) 3689348814741910323))) 4))) 1085102592571150095) + (lus (lan (w64 ((w64 ((lan (w64 (x0 - (lan (lus x0 1) 6148914691236517205))) 3689348814741910323) + (lan (lus (w64 (x0 - (lan (lus x0 1) 6148914691236517205))) 2) 3689348814741910323))) + (lus (w64 ((lan (w64 (x0 - (lan (lus x0 1) 6148914691236517205))) 3689348814741910323) + (lan (lus (w64 (x0 - (lan (lus x0 1) 6148914691236517205))) 2) 3689348814741910323))) 4))) 1085102592571150095) 8))) + (lus (w64 ((lan (w64 ((w64 ((lan (w64 (x0 - (lan (lus x0 1) 6148914691236517205))) 3689348814741910323) + (lan (lus (w64 (x0 - (lan (lus x0 1) 6148914691236517205))) 2) 3689348814741910323))) + (lus (w64 ((lan (w64 (x0 - (lan (lus x0 1) 6148914691236517205))) 3689348814741910323) + (lan (lus (w64 (x0 - (lan (lus x0 1) 6148914691236517205))) 2) 3689348814741910323))) 4))) 1085102592571150095) + (lus (lan (w64 ((w64 ((lan (w64 (x0 - (lan (lus x0 1) 6148914691236517205))) 3689348814741910323) + (lan (lus (w64 (x0 - (lan (lus x0 1) 6148914691236517205))) 2) 3689348814741910323))) + (lus (w64 ((lan (w64 (x0 - (lan (lus x0 1) 6148914691236517205))) 3689348814741910323) + (lan (lus (w64 (x0 - (lan (lus x0 1) 6148914691236517205))) 2) 3689348814741910323))) 4))) 1085102592571150095) 8))) 16))) + (lus (w64 ((w64 ((lan (w64 ((w64 ((lan (w64 (x0 - (lan (lus x0 1) 6148914691236517205))) 3689348814741910323) + (lan (lus (w64 (x0 - (lan (lus x0 1) 6148914691236517205))) 2) 3689348814741910323))) + (lus (w64 ((lan (w64 (x0 - (lan (lus x0 1) 6148914691236517205))) 3689348814741910323) + (lan (lus (w64 (x0 - (lan (lus x0 1) 6148914691236517205))) 2) 3689348814741910323))) 4))) 1085102592571150095) + (lus (lan (w64 ((w64 ((lan (w64 (x0 - (lan (lus x0 1) 6148914691236517205))) 3689348814741910323) + (lan (lus (w64 (x0 - (lan (lus x0 1) 6148914691236517205))) 2) 3689348814741910323))) + (lus (w64 ((lan (w64 (x0 - (lan (lus x0 1) 6148914691236517205))) 3689348814741910323) + (lan (lus (w64 (x0 - (lan (lus x0 1) 6148914691236517205))) 2) 3689348814741910323))) 4))) 1085102592571150095) 8))) + (lus (w64 ((lan (w64 ((w64 ((lan (w64 (x0 - (lan (lus x0 1) 6148914691236517205))) 3689348814741910323) + (lan (lus (w64 (x0 - (lan (lus x0 1) 6148914691236517205))) 2) 3689348814741910323))) + (lus (w64 ((lan (w64 (x0 - (lan (lus x0 1) 6148914691236517205))) 3689348814741910323) + (lan (lus (w64 (x0 - (lan (lus x0 1) 6148914691236517205))) 2) 3689348814741910323))) 4))) 1085102592571150095) + (lus (lan (w64 ((w64 ((lan (w64 (x0 - (lan (lus x0 1) 6148914691236517205))) 3689348814741910323) + (lan (lus (w64 (x0 - (lan (lus x0 1) 6148914691236517205))) 2) 3689348814741910323))) + (lus (w64 ((lan (w64 (x0 - (lan (lus x0 1) 6148914691236517205))) 3689348814741910323) + (lan (lus (w64 (x0 - (lan (lus x0 1) 6148914691236517205))) 2) 3689348814741910323))) 4))) 1085102592571150095) 8))) 16))) 32))), (9, 0)], [(0, ian (w32 (w64 ((w64 ((w64 ((lan (w64 ((w64 ((lan (w64 (x0 - (lan (lus x0 1) 6148914691236517205))) 3689348814741910323) + (lan (lus (w64 (x0 - (lan (lus x0 1) 6148914691236517205))) 2) 3689348814741910323))) + (lus (w64 ((lan (w64 (x0 - (lan (lus x0 1) 6148914691236517205))) 3689348814741910323) + (lan (lus (w64 (x0 - (lan (lus x0 1) 6148914691236517205))) 2) 3689348814741910323))) 4))) 1085102592571150095) + (lus (lan (w64 ((w64 ((lan (w64 (x0 - (lan (lus x0 1) 6148914691236517205))) 3689348814741910323) + (lan (lus (w64 (x0 - (lan (lus x0 1) 6148914691236517205))) 2) 3689348814741910323))) + (lus (w64 ((lan (w64 (x0 - (lan (lus x0 1) 6148914691236517205))) 3689348814741910323) + (lan (lus (w64 (x0 - (lan (lus x0 1) 6148914691236517205))) 2) 3689348814741910323))) 4))) 1085102592571150095) 8))) + (lus (w64 ((lan (w64 ((w64 ((lan (w64 (x0 - (lan (lus x0 1) 6148914691236517205))) 3689348814741910323) + (lan (lus (w64 (x0 - (lan (lus x0 1) 6148914691236517205))) 2) 3689348814741910323))) + (lus (w64 ((lan (w64 (x0 - (lan (lus x0 1) 6148914691236517205))) 3689348814741910323) + (lan (lus (w64 (x0 - (lan (lus x0 1) 6148914691236517205))) 2) 3689348814741910323))) 4))) 1085102592571150095) + (lus (lan (w64 ((w64 ((lan (w64 (x0 - (lan (lus x0 1) 6148914691236517205))) 3689348814741910323) + (lan (lus (w64 (x0 - (lan (lus x0 1) 6148914691236517205))) 2) 3689348814741910323))) + (lus (w64 ((lan (w64 (x0 - (lan (lus x0 1) 6148914691236517205))) 3689348814741910323) + (lan (lus (w64 (x0 - (lan (lus x0 1) 6148914691236517205))) 2) 3689348814741910323))) 4))) 1085102592571150095) 8))) 16))) + (lus (w64 ((w64 ((lan (w64 ((w64 ((lan (w64 (x0 - (lan (lus x0 1) 6148914691236517205))) 3689348814741910323) + (lan (lus (w64 (x0 - (lan (lus x0 1) 6148914691236517205))) 2) 3689348814741910323))) + (lus (w64 ((lan (w64 (x0 - (lan (lus x0 1) 6148914691236517205))) 3689348814741910323) + (lan (lus (w64 (x0 - (lan (lus x0 1) 6148914691236517205))) 2) 3689348814741910323))) 4))) 1085102592571150095) + (lus (lan (w64 ((w64 ((lan (w64 (x0 - (lan (lus x0 1) 6148914691236517205))) 3689348814741910323) + (lan (lus (w64 (x0 - (lan (lus x0 1) 6148914691236517205))) 2) 3689348814741910323))) + (lus (w64 ((lan (w64 (x0 - (lan (lus x0 1) 6148914691236517205))) 3689348814741910323) + (lan (lus (w64 (x0 - (lan (lus x0 1) 6148914691236517205))) 2) 3689348814741910323))) 4))) 1085102592571150095) 8))) + (lus (w64 ((lan (w64 ((w64 ((lan (w64 (x0 - (lan (lus x0 1) 6148914691236517205))) 3689348814741910323) + (lan (lus (w64 (x0 - (lan (lus x0 1) 6148914691236517205))) 2) 3689348814741910323))) + (lus (w64 ((lan (w64 (x0 - (lan (lus x0 1) 6148914691236517205))) 3689348814741910323) + (lan (lus (w64 (x0 - (lan (lus x0 1) 6148914691236517205))) 2) 3689348814741910323))) 4))) 1085102592571150095) + (lus (lan (w64 ((w64 ((lan (w64 (x0 - (lan (lus x0 1) 6148914691236517205))) 3689348814741910323) + (lan (lus (w64 (x0 - (lan (lus x0 1) 6148914691236517205))) 2) 3689348814741910323))) + (lus (w64 ((lan (w64 (x0 - (lan (lus x0 1) 6148914691236517205))) 3689348814741910323) + (lan (lus (w64 (x0 - (lan (lus x0 1) 6148914691236517205))) 2) 3689348814741910323))) 4))) 1085102592571150095) 8))) 16))) 32)))) 127)], m)) 48 rfl ?_
  exact Ev_ret rfl rfl h
