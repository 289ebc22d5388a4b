/-! CALLS THAT ASK OF HANDS -/
theorem ite_z1 {p : Prop} [Decidable p] : ¬ (if p then (1 : Int) else 0) = 0 ↔ p := by
  by_cases hp : p
  · simp [hp]
  · simp [hp]
theorem R_hand {m : Mm} (h : R m) : ∃ (n : Nat) (f : Nat → Nat), m 401 0 = (n : Nat) ∧ n ≤ 4 ∧ HNC m n f ∧ HNM m 401 n f ∧ (∀ h, h < n → f h < 2 ^ 40) ∧ m 128 5 = (n : Nat) ∧ TU m := by
  obtain ⟨_, o2, _⟩ := R_o h
  obtain ⟨n, hn⟩ := Int.eq_ofNat_of_zero_le o2.2.1
  have h3 := h.2.2.1
  have hm : HNM m 401 n (fun h => cmb (m 401 (32 + 2 * h)) (m 401 (33 + 2 * h))) := fun j hj => by
    obtain ⟨q1, q2, _⟩ := h3 j (by rw [hn]; omega)
    exact ⟨q1, q2, rfl⟩
  refine ⟨n, fun h => cmb (m 401 (32 + 2 * h)) (m 401 (33 + 2 * h)), hn, by omega, fun j t hj ht => ?_, hm, HNM_lt hm, by rw [o2.1]; exact hn, h.2.2.2.2.2.2.2.1.2.1⟩
  exact (h3 j (by rw [hn]; omega)).2.2 t ht
theorem c_Ha_isTurn {d : Nat} {m : Mm} {x : Int} : Cl d k_Ha_isTurn [(0, x)] m (some (0, if 0 ≤ x ∧ x < 8 then 1 else 0), m) := by
  refine cl_Ha_isTurn (b_Ha_isTurn ⟨fun h => ?_, fun h => ⟨fun h2 => ?_, fun h2 => ?_⟩⟩)
  · rw [if_neg (by omega)]
  · rw [if_neg (by omega)]
  · rw [if_pos (by omega)]
theorem c_Mo_isHandN {d n : Nat} {m : Mm} {x : Int} (hn : m 401 0 = (n : Nat)) (h4 : n ≤ 4) : Cl (d + 1) k_Mo_isHand [(18, 400), (0, x)] m (some (0, if 0 ≤ x ∧ x < n then 1 else 0), m) := by
  have := c_Mo_isHand (d := d) (m := m) (x := x) (by omega)
  rw [hn] at this
  exact this
theorem c_Th_isHandN {d n : Nat} {m : Mm} {x : Int} (hn : m 128 5 = (n : Nat)) : Cl d k_Th_isHand [(17, 0), (0, x)] m (some (0, if 0 ≤ x ∧ x < n then 1 else 0), m) := by
  have := c_Th_isHand (d := d) (m := m) (x := x)
  rw [hn] at this
  exact this
theorem op_turned {m : Mm} {x y z : Int} (h : R m) : OP k_Th_turned k_Mo_turned 0 [(0, x), (0, y), (0, z)] m := by
  obtain ⟨n, f, e1, e2, hc, hm, hl, e3, hT⟩ := R_hand h
  by_cases hx : 0 ≤ x ∧ x < n
  · by_cases hy : 0 ≤ y ∧ y < 8
    · obtain ⟨a, rfl⟩ := Int.eq_ofNat_of_zero_le hx.1
      obtain ⟨t, rfl⟩ := Int.eq_ofNat_of_zero_le hy.1
      have hp := pat_lt (f a) t
      refine OP_e h (v := ((if z = 0 then pat (f a) t % 2 ^ 20 else pat (f a) t / 2 ^ 20 : Nat) : Int)) (cl_Th_turned (b_Th_turned ⟨_, _, c_Th_isHandN e3, fun q => ?_, fun _ => ⟨_, _, c_Ha_isTurn, fun _ => ⟨_, _, c_Ha_pattern hc e2 (by omega) (by omega), fun q => ⟨_, _, c_Ha_eastOf hp, ?_⟩, fun q => ⟨_, _, c_Ha_southOf hp, ?_⟩⟩, fun q => ?_⟩⟩)) (cl_Mo_turned (b_Mo_turned ⟨_, _, c_Mo_isHandN e1 e2, fun q => ?_, fun _ => ⟨_, _, c_Mo_isIn, fun q => ?_, fun _ => ⟨_, _, c_Mo_ofHand hT hm e2 (by omega) (by omega), rfl⟩⟩⟩))
      · rw [ite_z] at q; exact absurd hx q
      · rw [if_pos q]
      · rw [if_neg q]
      · rw [ite_z1] at q; exact absurd hy q
      · rw [ite_z] at q; exact absurd hx q
      · rw [ite_z] at q; omega
    · refine OP_e h (v := -1) (cl_Th_turned (b_Th_turned ⟨_, _, c_Th_isHandN e3, fun _ => rfl, fun _ => ⟨_, _, c_Ha_isTurn, fun q => ?_, fun q => rfl⟩⟩)) (cl_Mo_turned (b_Mo_turned ⟨_, _, c_Mo_isHandN e1 e2, fun q => rfl, fun _ => ⟨_, _, c_Mo_isIn, fun q => rfl, fun q => ?_⟩⟩))
      · rw [ite_z1] at q; exact absurd q hy
      · rw [ite_z1] at q; omega
  · refine OP_e h (v := -1) (cl_Th_turned (b_Th_turned ⟨_, _, c_Th_isHandN e3, fun _ => rfl, fun q => ?_⟩)) (cl_Mo_turned (b_Mo_turned ⟨_, _, c_Mo_isHandN e1 e2, fun q => rfl, fun q => ?_⟩))
    · rw [ite_z1] at q; exact absurd q hx
    · rw [ite_z1] at q; exact absurd q hx
theorem c_Mo_unlike {d : Nat} {m : Mm} {n h : Nat} {f : Nat → Nat} {b : Int} (hn1 : m 401 0 = (n : Nat)) (hT : TU m) (hm : HNM m 401 n f) (hn : n ≤ 4) (hh : h < n) (h8 : hv20 (m 401 8)) (h9 : hv20 (m 401 9)) : Cl (d + 5) k_Mo_unlike [(18, 400), (0, (h : Nat)), (0, b)] m (some (0, if b = 0 then (unl (LX m 401) (f h) (bsT (LX m 401) (f h) 7) : Nat) else (bsT (LX m 401) (f h) 7 : Nat)), m) := by
  have hb := bsT_le (LX m 401) (f h) 7
  refine cl_Mo_unlike (b_Mo_unlike ⟨_, _, c_Mo_isHandN hn1 hn, fun _ => ⟨fun z => ⟨_, _, c_Mo_bestTurn hT hm hn hh h8 h9, _, _, c_Mo_unlikeBy hT hm hn hh (by omega) h8 h9, ?_⟩, fun z => ⟨_, _, c_Mo_bestTurn hT hm hn hh h8 h9, ?_⟩⟩, fun q => ?_⟩)
  · rw [if_pos z]
  · rw [if_neg z]
  · rw [ite_z1] at q; exact absurd ⟨by omega, by omega⟩ q
theorem op_unlike {m : Mm} {x y : Int} (h : R m) : OP k_Th_unlike k_Mo_unlike 0 [(0, x), (0, y)] m := by
  obtain ⟨n, f, e1, e2, hc, hm, hl, e3, hT⟩ := R_hand h
  obtain ⟨v40, v8, v9, hX, hXl, _⟩ := R_h h
  by_cases hx : 0 ≤ x ∧ x < n
  · obtain ⟨a, rfl⟩ := Int.eq_ofNat_of_zero_le hx.1
    have hb := bsT_le (LX m 401) (f a) 7
    refine OP_e h (v := if y = 0 then (unl (LX m 401) (f a) (bsT (LX m 401) (f a) 7) : Nat) else (bsT (LX m 401) (f a) 7 : Nat)) (cl_Th_unlike (b_Th_unlike ⟨_, _, c_Th_isHandN e3, fun _ => ?_, fun q => ?_⟩)) (c_Mo_unlike e1 hT hm e2 (by omega) v8 v9)
    · rw [hX]
      refine ⟨_, _, c_Ha_likestTurn hc e2 (by omega) hXl, fun z => ?_, fun z => ?_⟩
      · rw [hX]
        refine ⟨_, _, c_Ha_unlikeness hc e2 (by omega) (by omega) hXl, ?_⟩
        rw [if_pos z]
      · rw [if_neg z]
    · rw [ite_z1] at q; exact absurd hx q
  · refine OP_e h (v := -1) (cl_Th_unlike (b_Th_unlike ⟨_, _, c_Th_isHandN e3, fun q => ?_, fun _ => rfl⟩)) (cl_Mo_unlike (b_Mo_unlike ⟨_, _, c_Mo_isHandN e1 e2, fun q => ?_, fun q => rfl⟩))
    · rw [ite_z1] at q; exact absurd q hx
    · rw [ite_z1] at q; exact absurd q hx
/-- the owner: from hand k on, the best so far, how unlike it is at least -/
def own (u : Nat → Nat) : Nat → Nat → Int → Int → Int
  | 0, _, b, _ => b
  | t + 1, k, b, l => if (u k : Int) < l then own u t (k + 1) k (u k) else own u t (k + 1) b l
theorem op_owner {m : Mm} {x : Int} (h : R m) : OP k_Th_owner k_Mo_owner 0 [(0, x)] m := by
  obtain ⟨n, f, e1, e2, hc, hm, hl, e3, hT⟩ := R_hand h
  obtain ⟨v40, v8, v9, hX, hXl, _⟩ := R_h h
  obtain ⟨u, hu⟩ : ∃ u : Nat → Nat, u = fun j => unl (LX m 401) (f j) (bsT (LX m 401) (f j) 7) := ⟨_, rfl⟩
  have fc : ∀ (t k : Nat) (b l : Int) (w : Vv), k + t = n → Ev (119 + 1) K_Th_owner 0 15 [(17, 0), (0, x), (0, b), (0, l), (0, (k : Nat)), w] [] m (some (0, own u t k b l), m) := by
    intro t
    induction t with
    | zero =>
      intro k b l w hk
      exact b_Th_owner_15 ⟨fun _ => rfl, fun z => absurd (by rw [e3]; omega) z⟩
    | succ t ih =>
      intro k b l w hk
      have hb := bsT_le (LX m 401) (f k) 7
      refine b_Th_owner_15 ⟨fun z => by rw [e3] at z; omega, fun _ => ?_⟩
      rw [hX]
      refine ⟨_, _, c_Ha_likestTurn hc e2 (by omega) hXl, ?_⟩
      rw [hX]
      refine ⟨_, _, c_Ha_unlikeness hc e2 (by omega) (by omega) hXl, ?_⟩
      have hk' : unl (LX m 401) (f k) (bsT (LX m 401) (f k) 7) = u k := by rw [hu]
      rw [hk', w32s (by omega)]
      refine ⟨fun z => ?_, fun z => ?_⟩
      · rw [own, if_neg (by omega)]
        exact ih (k + 1) b l _ (by omega)
      · rw [own, if_pos (by omega)]
        exact ih (k + 1) k (u k) _ (by omega)
  have fm : ∀ (t k : Nat) (b l : Int) (w : Vv), k + t = n → Ev (119 + 1) K_Mo_owner 0 15 [(18, 400), (0, x), (0, b), (0, l), (0, (k : Nat)), w] [] m (some (0, own u t k b l), m) := by
    intro t
    induction t with
    | zero =>
      intro k b l w hk
      exact b_Mo_owner_15 ⟨fun _ => rfl, fun z => absurd (by rw [e1]; omega) z⟩
    | succ t ih =>
      intro k b l w hk
      refine b_Mo_owner_15 ⟨fun z => by rw [e1] at z; omega, fun _ => ⟨_, _, c_Mo_unlike e1 hT hm e2 (by omega) v8 v9, ?_⟩⟩
      have hk' : unl (LX m 401) (f k) (bsT (LX m 401) (f k) 7) = u k := by rw [hu]
      rw [if_pos rfl, hk', w32s (by omega)]
      refine ⟨fun z => ?_, fun z => ?_⟩
      · rw [own, if_pos z]
        exact ih (k + 1) k (u k) _ (by omega)
      · rw [own, if_neg z]
        exact ih (k + 1) b l _ (by omega)
  by_cases hx : 0 ≤ x ∧ x ≤ 40
  · refine OP_e h (v := own u n 0 (-1) (w32 (x + 1))) (cl_Th_owner (b_Th_owner ⟨fun z => by omega, fun _ => ⟨fun _ => fc n 0 _ _ _ (by omega), fun z => by omega⟩⟩)) (cl_Mo_owner (b_Mo_owner ⟨_, _, c_Mo_isIn, fun _ => fm n 0 _ _ _ (by omega), fun q => ?_⟩))
    rw [ite_z1] at q; exact absurd hx q
  · refine OP_e h (v := -1) (cl_Th_owner (b_Th_owner ⟨fun z => rfl, fun _ => ⟨fun z => by omega, fun z => rfl⟩⟩)) (cl_Mo_owner (b_Mo_owner ⟨_, _, c_Mo_isIn, fun q => ?_, fun q => rfl⟩))
    rw [ite_z1] at q; exact absurd q hx
theorem mod_div_eq {a b : Nat} : a = b ↔ a % 2 ^ 20 = b % 2 ^ 20 ∧ a / 2 ^ 20 = b / 2 ^ 20 := by
  constructor
  · rintro rfl; exact ⟨rfl, rfl⟩
  · rintro ⟨h1, h2⟩
    omega
theorem c_Mo_twinBy {d : Nat} {m : Mm} {n h g : Nat} {f : Nat → Nat} (hT : TU m) (hm : HNM m 401 n f) (hn : n ≤ 4) (hh : h < n) (hg : g < n) : Cl (d + 3) k_Mo_twinBy [(18, 400), (0, (h : Nat)), (0, (g : Nat))] m (some (0, tin (f h) (f g) 8 0), m) := by
  refine cl_Mo_twinBy (b_Mo_twinBy ?_)
  have hf := HNM_lt hm
  have e0 : pat (f g) 0 = f g := mov_id (hf g hg)
  have key : ∀ (t k : Nat), k + t = 8 → Ev (d + 2 + 1) K_Mo_twinBy 0 2 [(18, 400), (0, (h : Nat)), (0, (g : Nat)), (0, (k : Nat))] [] m (some (0, tin (f h) (f g) t k), m) := by
    intro t
    induction t with
    | zero =>
      intro k hk
      exact b_Mo_twinBy_2 ⟨fun _ => rfl, fun z => absurd (by omega) z⟩
    | succ t ih =>
      intro k hk
      have hg' := ih (k + 1) (by omega)
      have h0 := c_Mo_ofHand (d := d) (t := 0) (b := 0) hT hm hn hg (by omega)
      have h1 := c_Mo_ofHand (d := d) (t := 0) (b := 1) hT hm hn hg (by omega)
      rw [e0] at h0 h1
      refine b_Mo_twinBy_2 ⟨fun z => by omega, fun _ => ⟨_, _, c_Mo_ofHand hT hm hn hh (by omega), _, _, h0, fun z => ?_, fun z => ⟨_, _, c_Mo_ofHand hT hm hn hh (by omega), _, _, h1, fun z2 => ?_, fun z2 => ?_⟩⟩⟩
      · rw [if_pos rfl, if_pos rfl] at z
        rw [w32s (by omega), tin, if_neg (fun y => z (by rw [y]))]
        exact hg'
      · rw [if_neg (by omega), if_neg (by omega)] at z2
        rw [w32s (by omega), tin, if_neg (fun y => z2 (by rw [y]))]
        exact hg'
      · rw [if_pos rfl, if_pos rfl, Classical.not_not] at z
        rw [if_neg (by omega), if_neg (by omega), Classical.not_not] at z2
        rw [tin, if_pos (mod_div_eq.mpr ⟨by omega, by omega⟩)]
  exact key 8 0 rfl
theorem op_twins {m : Mm} {x y : Int} (h : R m) : OP k_Th_twins k_Mo_twins 0 [(0, x), (0, y)] m := by
  obtain ⟨n, f, e1, e2, hc, hm, hl, e3, hT⟩ := R_hand h
  by_cases hx : 0 ≤ x ∧ x < n
  · by_cases hy : 0 ≤ y ∧ y < n
    · obtain ⟨a, rfl⟩ := Int.eq_ofNat_of_zero_le hx.1
      obtain ⟨b, rfl⟩ := Int.eq_ofNat_of_zero_le hy.1
      by_cases hab : (a : Int) = b
      · refine OP_e h (v := -1) (cl_Th_twins (b_Th_twins ⟨_, _, c_Th_isHandN e3, fun _ => rfl, fun _ => ⟨_, _, c_Th_isHandN e3, fun _ => rfl, fun _ => ⟨fun z => absurd hab z, fun _ => rfl⟩⟩⟩)) (cl_Mo_twins (b_Mo_twins ⟨_, _, c_Mo_isHandN e1 e2, fun q => rfl, fun _ => ⟨_, _, c_Mo_isHandN e1 e2, fun q => rfl, fun _ => ⟨fun _ => rfl, fun z => absurd hab z⟩⟩⟩))
      · refine OP_e h (v := tin (f a) (f b) 8 0) (cl_Th_twins (b_Th_twins ⟨_, _, c_Th_isHandN e3, fun q => ?_, fun _ => ⟨_, _, c_Th_isHandN e3, fun q => ?_, fun _ => ⟨fun z => ⟨_, _, c_Ha_turnInto hc hl e2 (by omega) (by omega), rfl⟩, fun z => absurd hab z⟩⟩⟩)) (cl_Mo_twins (b_Mo_twins ⟨_, _, c_Mo_isHandN e1 e2, fun q => ?_, fun _ => ⟨_, _, c_Mo_isHandN e1 e2, fun q => ?_, fun _ => ⟨fun z => absurd z hab, fun z => ⟨_, _, c_Mo_twinBy hT hm e2 (by omega) (by omega), rfl⟩⟩⟩⟩))
        · rw [ite_z] at q; exact absurd hx q
        · rw [ite_z] at q; exact absurd hy q
        · rw [ite_z] at q; exact absurd hx q
        · rw [ite_z] at q; exact absurd hy q
    · refine OP_e h (v := -1) (cl_Th_twins (b_Th_twins ⟨_, _, c_Th_isHandN e3, fun _ => rfl, fun _ => ⟨_, _, c_Th_isHandN e3, fun _ => rfl, fun q => ?_⟩⟩)) (cl_Mo_twins (b_Mo_twins ⟨_, _, c_Mo_isHandN e1 e2, fun q => rfl, fun _ => ⟨_, _, c_Mo_isHandN e1 e2, fun q => rfl, fun q => ?_⟩⟩))
      · rw [ite_z1] at q; exact absurd q hy
      · rw [ite_z1] at q; exact absurd q hy
  · refine OP_e h (v := -1) (cl_Th_twins (b_Th_twins ⟨_, _, c_Th_isHandN e3, fun _ => rfl, fun q => ?_⟩)) (cl_Mo_twins (b_Mo_twins ⟨_, _, c_Mo_isHandN e1 e2, fun q => rfl, fun q => ?_⟩))
    · rw [ite_z1] at q; exact absurd q hx
    · rw [ite_z1] at q; exact absurd q hx
/-- how many of the first k hands have no elder twin -/
def knd (f : Nat → Nat) : Nat → Nat
  | 0 => 0
  | k + 1 => knd f k + (if eld f k k 0 = true then 0 else 1)
theorem knd_le (f : Nat → Nat) : ∀ k, knd f k ≤ k := by
  intro k
  induction k with
  | zero => exact Nat.le_refl _
  | succ k ih => unfold knd; split <;> omega
theorem op_kinds {m : Mm} (h : R m) : OP k_Th_kinds k_Mo_kinds 0 [] m := by
  obtain ⟨n, f, e1, e2, hc, hm, hl, e3, hT⟩ := R_hand h
  have fc : ∀ (t k : Nat), k + t = n → Ev (119 + 1) K_Th_kinds 0 4 [(17, 0), (0, (knd f k : Nat)), (0, (k : Nat))] [] m (some (0, (knd f n : Nat)), m) := by
    intro t
    induction t with
    | zero =>
      intro k hk
      obtain rfl : k = n := by omega
      exact b_Th_kinds_4 ⟨fun _ => rfl, fun z => absurd (by rw [e3]; omega) z⟩
    | succ t ih =>
      intro k hk
      have hg := ih (k + 1) (by omega)
      have hkl := knd_le f k
      refine b_Th_kinds_4 ⟨fun z => by rw [e3] at z; omega, fun _ => ⟨_, _, c_Ha_hasElderTwin hc hl e2 (by omega), fun z => ?_, fun z => ?_⟩⟩
      · rw [ite_z1] at z
        rw [knd, if_pos z] at hg
        rw [w32s (by omega)]
        exact hg
      · rw [ite_z1] at z
        rw [knd, if_neg z] at hg
        rw [w32s (by omega), w32s (by omega)]
        exact hg
  have fi : ∀ (t k j : Nat) (b : Bool), j + t = k → k < n → (∀ b2 : Bool, b2 = (b && !eld f k t j) → Ev (119 + 1) K_Mo_kinds 0 14 [(18, 400), (0, (knd f k : Nat)), (0, (k : Nat)), (0, if b2 then 1 else 0), (0, (k : Nat))] [] m (some (0, (knd f n : Nat)), m)) → Ev (119 + 1) K_Mo_kinds 0 14 [(18, 400), (0, (knd f k : Nat)), (0, (k : Nat)), (0, if b then 1 else 0), (0, (j : Nat))] [] m (some (0, (knd f n : Nat)), m) := by
    intro t
    induction t with
    | zero =>
      intro k j b hj hk hh
      obtain rfl : j = k := by omega
      exact hh b (by simp [eld])
    | succ t ih =>
      intro k j b hj hk hh
      refine b_Mo_kinds_14 ⟨fun z => by omega, fun _ => ⟨_, _, c_Mo_twinBy hT hm e2 (by omega) hk, fun z => ?_, fun z => ?_⟩⟩
      · rw [w32s (by omega)]
        have h0 : ian (if b then 1 else 0) 0 = if false then 1 else 0 := by cases b <;> decide
        rw [h0]
        refine ih k (j + 1) false (by omega) hk (fun b2 hb2 => hh b2 ?_)
        rw [hb2, eld, if_neg z]
        simp
      · rw [Classical.not_not] at z
        rw [w32s (by omega)]
        have h0 : ian (if b then 1 else 0) 1 = if b then 1 else 0 := by cases b <;> decide
        rw [h0]
        refine ih k (j + 1) b (by omega) hk (fun b2 hb2 => hh b2 ?_)
        rw [hb2, eld, if_pos z]
  have fm : ∀ (t k : Nat) (u1 u2 : Vv), k + t = n → Ev (119 + 1) K_Mo_kinds 0 4 [(18, 400), (0, (knd f k : Nat)), (0, (k : Nat)), u1, u2] [] m (some (0, (knd f n : Nat)), m) := by
    intro t
    induction t with
    | zero =>
      intro k u1 u2 hk
      obtain rfl : k = n := by omega
      exact b_Mo_kinds_4 ⟨fun _ => rfl, fun z => absurd (by rw [e1]; omega) z⟩
    | succ t ih =>
      intro k u1 u2 hk
      have hg := fun u1 u2 => ih (k + 1) u1 u2 (by omega)
      have hkl := knd_le f k
      refine b_Mo_kinds_4 ⟨fun z => by rw [e1] at z; omega, fun _ => fi k k 0 true (by omega) (by omega) (fun b2 hb2 => ?_)⟩
      rw [Bool.true_and] at hb2
      refine b_Mo_kinds_14 ⟨fun _ => ⟨fun z => ?_, fun z => ?_⟩, fun z => by omega⟩
      · have hb : b2 = false := by cases b2 <;> simp_all
        rw [hb] at hb2
        have he : eld f k k 0 = true := by
          cases hq : eld f k k 0 with
          | true => rfl
          | false => rw [hq] at hb2; exact absurd hb2 (by decide)
        rw [w32n (by omega) (by omega), w32s (by omega), Int.add_zero]
        have := hg (0, if b2 then 1 else 0) (0, (k : Nat))
        rw [knd, if_pos he] at this
        exact this
      · have hb : b2 = true := by cases b2 <;> simp_all
        rw [hb] at hb2
        have he : ¬ eld f k k 0 = true := by
          intro hq
          rw [hq] at hb2
          exact absurd hb2 (by decide)
        rw [w32s (by omega), w32s (by omega)]
        have := hg (0, if b2 then 1 else 0) (0, (k : Nat))
        rw [knd, if_neg he] at this
        exact this
  exact OP_e h (v := (knd f n : Nat)) (cl_Th_kinds (b_Th_kinds (fc n 0 (by omega)))) (cl_Mo_kinds (b_Mo_kinds (fm n 0 _ _ (by omega))))
theorem op_selves {m : Mm} {x : Int} (h : R m) : OP k_Th_selves k_Mo_selves 0 [(0, x)] m := by
  obtain ⟨n, f, e1, e2, hc, hm, hl, e3, hT⟩ := R_hand h
  by_cases hx : 0 ≤ x ∧ x < n
  · obtain ⟨a, rfl⟩ := Int.eq_ofNat_of_zero_le hx.1
    have e0 : pat (f a) 0 = f a := mov_id (hl a (by omega))
    have h0 := c_Mo_ofHand (d := 117) (t := 0) (b := 0) hT hm e2 (show a < n by omega) (by omega)
    have h1 := c_Mo_ofHand (d := 117) (t := 0) (b := 1) hT hm e2 (show a < n by omega) (by omega)
    rw [e0] at h0 h1
    have fm : ∀ (t k : Nat), k + t = 8 → Ev (119 + 1) K_Mo_selves 0 10 [(18, 400), (0, (a : Nat)), (0, (slf (f a) k : Nat)), (0, (k : Nat))] [] m (some (0, (slf (f a) 8 : Nat)), m) := by
      intro t
      induction t with
      | zero =>
        intro k hk
        obtain rfl : k = 8 := by omega
        exact b_Mo_selves_10 ⟨fun _ => rfl, fun z => absurd (by omega) z⟩
      | succ t ih =>
        intro k hk
        have hs := slf_le (f a) k
        have hg := ih (k + 1) (by omega)
        refine b_Mo_selves_10 ⟨fun z => by omega, fun _ => ⟨_, _, c_Mo_ofHand hT hm e2 (by omega) (by omega), _, _, h0, fun z => ?_, fun z => ⟨_, _, c_Mo_ofHand hT hm e2 (by omega) (by omega), _, _, h1, fun z2 => ?_, fun z2 => ?_⟩⟩⟩
        · rw [if_pos rfl, if_pos rfl] at z
          rw [slf, if_neg (fun y => z (by rw [y]))] at hg
          rw [w32n (by omega) (by omega), w32s (by omega), Int.add_zero]
          exact hg
        · rw [if_neg (by omega), if_neg (by omega)] at z2
          rw [slf, if_neg (fun y => z2 (by rw [y]))] at hg
          rw [w32n (by omega) (by omega), w32s (by omega), Int.add_zero]
          exact hg
        · rw [if_pos rfl, if_pos rfl, Classical.not_not] at z
          rw [if_neg (by omega), if_neg (by omega), Classical.not_not] at z2
          rw [slf, if_pos (mod_div_eq.mpr ⟨by omega, by omega⟩)] at hg
          rw [w32s (by omega), w32s (by omega)]
          exact hg
    refine OP_e h (v := (slf (f a) 8 : Nat)) (cl_Th_selves (b_Th_selves ⟨_, _, c_Th_isHandN e3, fun _ => ⟨_, _, c_Ha_selfTurns hc hl e2 (by omega), rfl⟩, fun q => ?_⟩)) (cl_Mo_selves (b_Mo_selves ⟨_, _, c_Mo_isHandN e1 e2, fun _ => fm 8 0 rfl, fun q => ?_⟩))
    · rw [ite_z1] at q; exact absurd hx q
    · rw [ite_z1] at q; exact absurd hx q
  · refine OP_e h (v := -1) (cl_Th_selves (b_Th_selves ⟨_, _, c_Th_isHandN e3, fun q => ?_, fun _ => rfl⟩)) (cl_Mo_selves (b_Mo_selves ⟨_, _, c_Mo_isHandN e1 e2, fun q => ?_, fun _ => rfl⟩))
    · rw [ite_z1] at q; exact absurd q hx
    · rw [ite_z1] at q; exact absurd q hx
