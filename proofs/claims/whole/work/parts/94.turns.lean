/-! THE MODEL'S TABLE OF TURNS, as it is laid -/
def ctl : Nat → Int → Int → Int
  | 0, r, k => 5 * r + k
  | n + 1, r, k => ctl n k (4 - r)
def ct_ (c : Int) (t : Nat) : Int := ctl (t % 4) (c / 5) (if t < 4 then c % 5 else 4 - c % 5)
theorem c_Mo_cellTurned {d t : Nat} {m : Mm} {c : Int} (hc : 0 ≤ c ∧ c < 25) (ht : t < 8) : Cl d k_Mo_cellTurned [(0, c), (0, (t : Nat))] m (some (0, ct_ c t), m) := by
  have e4 : irm (t : Nat) 4 = ((t % 4 : Nat) : Int) := by rw [irm_n (by omega) (by omega) (by omega) (by omega)]; omega
  have lp : ∀ (n : Nat) (x4 r k : Int) (u : Vv), x4 + n = ((t % 4 : Nat) : Int) → 0 ≤ x4 → 0 ≤ r ∧ r ≤ 4 → 0 ≤ k ∧ k ≤ 4 → Ev d K_Mo_cellTurned 0 19 [(0, c), (0, (t : Nat)), (0, r), (0, k), (0, x4), u] [] m (some (0, ctl n r k), m) := by
    intro n
    induction n with
    | zero =>
      intro x4 r k u hx x0 hr hk
      refine b_Mo_cellTurned_19 ⟨fun _ => ?_, fun z => ?_⟩
      · rw [w32n (x := 5 * r) (by omega) (by omega), w32n (by omega) (by omega)]
        rfl
      · exact absurd (by rw [e4]; omega) z
    | succ n ih =>
      intro x4 r k u hx x0 hr hk
      refine b_Mo_cellTurned_19 ⟨fun z => ?_, fun _ => ?_⟩
      · rw [e4] at z; omega
      · rw [w32n (x := 4 - r) (by omega) (by omega), w32n (x := x4 + 1) (by omega) (by omega)]
        exact ih (x4 + 1) k (4 - r) _ (by omega) (by omega) hk (by omega)
  have e5 : idv c 5 = c / 5 := idv_n (by omega) (by omega) (by omega) (by omega)
  have e6 : irm c 5 = c % 5 := irm_n (by omega) (by omega) (by omega) (by omega)
  unfold ct_
  refine cl_Mo_cellTurned (b_Mo_cellTurned ⟨fun z => ?_, fun z => ?_⟩)
  · rw [e5, e6, w32n (by omega) (by omega), if_neg (by omega)]
    exact lp (t % 4) 0 _ _ _ (by omega) (by omega) (by omega) (by omega)
  · rw [e5, e6, if_pos (by omega)]
    exact lp (t % 4) 0 _ _ _ (by omega) (by omega) (by omega) (by omega)
def hof (a b : Int) : Int := if b ≤ a then (if a - b = 1 then 4 * (b / 5) + b % 5 else 20 + b) else (if b - a = 1 then 4 * (a / 5) + a % 5 else 20 + a)
theorem c_Mo_hedgeOf2 {d : Nat} {m : Mm} {a b : Int} (ha : 0 ≤ a ∧ a < 25) (hb : 0 ≤ b ∧ b < 25) : Cl (d + 1) k_Mo_hedgeOf [(0, a), (0, b)] m (some (0, hof a b), m) := by
  have ew : w32 (a - b) = a - b := w32n (by omega) (by omega)
  have i1 : idv a 5 = a / 5 := idv_n (by omega) (by omega) (by omega) (by omega)
  have i2 : irm a 5 = a % 5 := irm_n (by omega) (by omega) (by omega) (by omega)
  have j1 : idv b 5 = b / 5 := idv_n (by omega) (by omega) (by omega) (by omega)
  have j2 : irm b 5 = b % 5 := irm_n (by omega) (by omega) (by omega) (by omega)
  unfold hof
  refine cl_Mo_hedgeOf (b_Mo_hedgeOf ⟨fun z => ?_, fun z => ?_⟩)
  · rw [if_pos z, ew]
    refine ⟨_, _, c_Mo_size (by omega) (by omega), fun y => ?_, fun y => ?_⟩
    · rw [if_pos (by omega)] at y
      rw [if_neg y, w32n (by omega) (by omega)]
    · rw [Classical.not_not, if_pos (by omega)] at y
      rw [if_pos y, j1, j2, w32n (x := 4 * (b / 5)) (by omega) (by omega), w32n (by omega) (by omega)]
  · rw [if_neg z, ew]
    refine ⟨_, _, c_Mo_size (by omega) (by omega), fun y => ?_, fun y => ?_⟩
    · rw [if_neg (by omega)] at y
      rw [if_neg (by omega), w32n (by omega) (by omega)]
    · rw [Classical.not_not, if_neg (by omega)] at y
      rw [if_pos (by omega), i1, i2, w32n (x := 4 * (a / 5)) (by omega) (by omega), w32n (by omega) (by omega)]
theorem turn_all : ∀ t, t < 8 → ∀ h, h < 40 → (0 ≤ ct_ (fcell ((h : Nat) : Int)) t ∧ ct_ (fcell ((h : Nat) : Int)) t < 25) ∧ (0 ≤ ct_ (scell ((h : Nat) : Int)) t ∧ ct_ (scell ((h : Nat) : Int)) t < 25) ∧ hof (ct_ (fcell ((h : Nat) : Int)) t) (ct_ (scell ((h : Nat) : Int)) t) = trn t ((h : Nat) : Int) ∧ (0 ≤ fcell ((h : Nat) : Int) ∧ fcell ((h : Nat) : Int) < 25) ∧ (0 ≤ scell ((h : Nat) : Int) ∧ scell ((h : Nat) : Int) < 25) ∧ (0 ≤ trn t ((h : Nat) : Int) ∧ trn t ((h : Nat) : Int) < 40) := by decide +kernel
theorem c_Mo_layTurns {d : Nat} {m : Mm} : ∃ m', Cl (d + 3) k_Mo_layTurns [(18, 400)] m (none, m') ∧ TU m' ∧ (∀ a b, a ≠ 404 → m' a b = m a b) ∧ (∀ t h : Nat, t < 8 → h < 40 → ∃ k : Nat, k < 40 ∧ m' 404 (40 * t + h) = (k : Nat)) := by
  have in_lp : ∀ (n h t : Nat) (M : Mm), h + n = 40 → t < 8 → (∀ j : Nat, j < h → M 404 (40 * t + trn t (j : Nat)) = (j : Nat)) → ∃ M' : Mm, (∀ j : Nat, j < 40 → M' 404 (40 * t + trn t (j : Nat)) = (j : Nat)) ∧ (∀ a b, ¬ (a = 404 ∧ 40 * (t : Int) ≤ b ∧ b < 40 * (t : Int) + 40) → M' a b = M a b) ∧ ∀ r, Ev (d + 3) K_Mo_layTurns 3 2 [(18, 400), (0, ((t + 1 : Nat) : Int)), (0, ((40 : Nat) : Int))] [] M' r → Ev (d + 3) K_Mo_layTurns 3 7 [(18, 400), (0, (t : Nat)), (0, (h : Nat))] [] M r := by
    intro n
    induction n with
    | zero =>
      intro h t M hn ht hM
      refine ⟨M, fun j hj => hM j (by omega), fun _ _ _ => rfl, fun r hr => b_Mo_layTurns_7 ⟨fun _ => ?_, fun z => by omega⟩⟩
      obtain rfl : h = 40 := by omega
      rw [w32s (by omega)]
      exact hr
    | succ n ih =>
      intro h t M hn ht hM
      obtain ⟨q1, q2, q3, q4, q5, q6⟩ := turn_all t ht h (by omega)
      have hI : hedI ((h : Nat) : Int) := by unfold hedI; omega
      obtain ⟨M', g1, g2, g3⟩ := ih (h + 1) t (up M 404 (40 * t + trn t (h : Nat)) (h : Nat)) (by omega) ht (fun j hj => by
        by_cases hjh : j = h
        · subst hjh
          rw [up_eq]
        · have : trn t ((j : Nat) : Int) ≠ trn t ((h : Nat) : Int) := fun z => hjh (trn_inj t ht j (by omega) h (by omega) z)
          rw [up_nk (by omega)]
          exact hM j (by omega))
      refine ⟨M', g1, fun a b z => ?_, fun r hr => b_Mo_layTurns_7 ⟨fun z => by omega, fun _ => ⟨_, _, c_Mo_westOf hI, _, _, c_Mo_cellTurned q4 ht, _, _, c_Mo_eastOf hI, _, _, c_Mo_cellTurned q5 ht, _, _, c_Mo_hedgeOf2 q1 q2, ?_⟩⟩⟩
      · rw [g2 a b z]
        unfold up
        rw [if_neg (by omega)]
      · rw [q3, w32n (x := 40 * (t : Int)) (by omega) (by omega), w32n (x := 40 * (t : Int) + trn t (h : Nat)) (by omega) (by omega)]
        refine ⟨by omega, ?_⟩
        rintro m6 rfl
        rw [w32s (by omega)]
        exact g3 r hr
  have out_lp : ∀ (n t : Nat) (M : Mm) (u : Vv), t + n = 8 → (∀ t' j : Nat, t' < t → j < 40 → M 404 (40 * t' + trn t' (j : Nat)) = (j : Nat)) → ∃ M' : Mm, Ev (d + 3) K_Mo_layTurns 3 2 [(18, 400), (0, (t : Nat)), u] [] M (none, M') ∧ (∀ t' j : Nat, t' < 8 → j < 40 → M' 404 (40 * t' + trn t' (j : Nat)) = (j : Nat)) ∧ (∀ a b, a ≠ 404 → M' a b = M a b) := by
    intro n
    induction n with
    | zero =>
      intro t M u hn hM
      exact ⟨M, b_Mo_layTurns_2 ⟨fun _ => rfl, fun z => by omega⟩, fun t' j h1 h2 => hM t' j (by omega) h2, fun _ _ _ => rfl⟩
    | succ n ih =>
      intro t M u hn hM
      obtain ⟨M1, g1, g2, g3⟩ := in_lp 40 0 t M (by omega) (by omega) (fun j hj => by omega)
      obtain ⟨M', i1, i2, i3⟩ := ih (t + 1) M1 (0, ((40 : Nat) : Int)) (by omega) (fun t' j h1 h2 => by
        by_cases htt : t' = t
        · subst htt
          exact g1 j h2
        · have := (turn_all t' (by omega) j h2).2.2.2.2.2
          rw [g2 _ _ (by omega)]
          exact hM t' j (by omega) h2)
      exact ⟨M', b_Mo_layTurns_2 ⟨fun z => by omega, fun _ => g3 _ i1⟩, i2, fun a b z => by rw [i3 a b z, g2 a b (by omega)]⟩
  obtain ⟨M', h1, h2, h3⟩ := out_lp 8 0 m (9, 0) (by omega) (fun t' j z => by omega)
  have hTU : ∀ t k : Nat, t < 8 → k < 40 → ∃ h : Nat, h < 40 ∧ M' 404 (40 * t + k) = (h : Nat) ∧ trn t (h : Nat) = (k : Nat) := by
    intro t k ht hk
    have := trn_sur t ht k hk
    rw [List.any_eq_true] at this
    obtain ⟨h, hh, he⟩ := this
    rw [List.mem_range] at hh
    rw [decide_eq_true_eq] at he
    refine ⟨h, hh, ?_, he⟩
    rw [← he]
    exact h2 t h ht hh
  exact ⟨M', cl_Mo_layTurns (b_Mo_layTurns h1), hTU, h3, fun t h ht hh => by
    obtain ⟨k, k1, k2, _⟩ := hTU t h ht hh
    exact ⟨k, k1, k2⟩⟩
