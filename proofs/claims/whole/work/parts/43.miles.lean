/-! MILES, THE FARTHEST, WHO CAN BE HOME -/
theorem R_mz {m : Mm} (h : R m) : ∀ i : Nat, i < 40 → HM m 401 ((i : Nat) : Int) = (LX m 401).testBit i := by
  obtain ⟨_, _, _, hX, _, hb⟩ := R_h h
  intro i hi
  rw [← hb _ ⟨by omega, by omega⟩, hX]
  rfl
theorem c_Th_mazeNow {d : Nat} {m : Mm} (h : R m) : ∃ m', Cl (d + 2) k_Th_mazeNow [(17, 0)] m (some (14, 13), m') ∧ MZ m' (HM m 401) ∧ (∀ a b, a ≠ 13 → m' a b = m a b) := by
  obtain ⟨_, _, _, hX, hl, hb⟩ := R_h h
  obtain ⟨m', q1, q2, q3⟩ := c_Mz_layOut (d := d) (m := m) (H := HM m 401) hl (R_mz h)
  refine ⟨m', cl_Th_mazeNow (b_Th_mazeNow ⟨m', ?_, rfl⟩), q2, q3⟩
  rw [hX]
  exact q1
theorem SM_13 {m m' : Mm} (h : ∀ a b, a ≠ 13 → m' a b = m a b) : SM m m' := fun a b hab => by
  by_cases ha : a = 13
  · exact absurd (by unfold scr; omega) hab
  · exact h a b ha
theorem SM_411 {m m' : Mm} (h : ∀ a b, a ≠ 411 → m' a b = m a b) : SM m m' := fun a b hab => by
  by_cases ha : a = 411
  · exact absurd (by unfold scr; omega) hab
  · exact h a b ha
theorem and_pow {s b : Nat} : s &&& 2 ^ b = 0 ↔ ¬ s.testBit b = true := by
  constructor
  · intro h z
    have : (s &&& 2 ^ b).testBit b = true := and_mem.mpr ⟨z, pow_mem.mpr rfl⟩
    rw [h, Nat.zero_testBit] at this
    cases this
  · intro h
    refine sub_eq (fun i hi => ?_) (fun i hi => by rw [Nat.zero_testBit] at hi; cases hi)
    obtain ⟨q1, q2⟩ := and_mem.mp hi
    rw [pow_mem] at q2
    rw [q2] at q1
    exact absurd q1 h
def mil (H : Int → Bool) (a b : Nat) : Nat → Nat → Int
  | 0, _ => -1
  | t + 1, k => if (wth H AL (2 ^ a) k).testBit b = true then (k : Nat) else mil H a b t (k + 1)
theorem mil_v {H : Int → Bool} {a b : Nat} : ∀ t k, (mil H a b t k = -1 ∧ ∀ j, k ≤ j → j < k + t → ¬ (wth H AL (2 ^ a) j).testBit b = true) ∨ ∃ v : Nat, mil H a b t k = (v : Nat) ∧ k ≤ v ∧ v < k + t ∧ (wth H AL (2 ^ a) v).testBit b = true ∧ ∀ j, k ≤ j → j < v → ¬ (wth H AL (2 ^ a) j).testBit b = true := by
  intro t
  induction t with
  | zero => exact fun k => Or.inl ⟨rfl, fun j h1 h2 => by omega⟩
  | succ t ih =>
    intro k
    unfold mil
    by_cases hb : (wth H AL (2 ^ a) k).testBit b = true
    · rw [if_pos hb]
      exact Or.inr ⟨k, rfl, by omega, by omega, hb, fun j h1 h2 => by omega⟩
    · rw [if_neg hb]
      rcases ih (k + 1) with ⟨q1, q2⟩ | ⟨v, q1, q2, q3, q4, q5⟩
      · refine Or.inl ⟨q1, fun j h1 h2 => ?_⟩
        by_cases hj : j = k
        · subst hj; exact hb
        · exact q2 j (by omega) (by omega)
      · refine Or.inr ⟨v, q1, by omega, by omega, q4, fun j h1 h2 => ?_⟩
        by_cases hj : j = k
        · subst hj; exact hb
        · exact q5 j (by omega) h2
abbrev mls (H : Int → Bool) (a b : Nat) : Int := mil H a b 25 0
theorem mls_v {H : Int → Bool} {a b : Nat} (ha : a < 25) : (mls H a b = -1 ∧ ∀ j, ¬ (wth H AL (2 ^ a) j).testBit b = true) ∨ ∃ v : Nat, mls H a b = (v : Nat) ∧ v < 25 ∧ (wth H AL (2 ^ a) v).testBit b = true ∧ ∀ j, j < v → ¬ (wth H AL (2 ^ a) j).testBit b = true := by
  rcases mil_v (H := H) (a := a) (b := b) 25 0 with ⟨q1, q2⟩ | ⟨v, q1, q2, q3, q4, q5⟩
  · refine Or.inl ⟨q1, fun j => ?_⟩
    by_cases hj : j < 25
    · exact q2 j (by omega) (by omega)
    · obtain ⟨p1, p2, p3⟩ := p25 ha
      have e := wth_ge (H := H) p1 p2 p3 (j - 24)
      rw [show 24 + (j - 24) = j by omega] at e
      rw [e]
      exact q2 24 (by omega) (by omega)
  · exact Or.inr ⟨v, q1, by omega, q4, fun j hj => q5 j (by omega) hj⟩
theorem c_Mz_milesTo {d : Nat} {m : Mm} {H : Int → Bool} {a b : Nat} (hM : MZ m H) (ha : a < 25) (hb : b < 25) : Cl (d + 1) k_Mz_milesTo [(14, 13), (0, (a : Nat)), (0, ((2 ^ b : Nat) : Int))] m (some (0, mls H a b), m) := by
  obtain ⟨p1, p2, p3⟩ := p25 ha
  have pb := (p25 hb).1
  refine cl_Mz_milesTo (b_Mz_milesTo ?_)
  rw [isl1 (by omega)]
  have key : ∀ (t k : Nat), k + t = 25 → Ev (d + 1) K_Mz_milesTo 0 6 [(14, 13), (0, (a : Nat)), (0, ((2 ^ b : Nat) : Int)), (0, (wth H AL (2 ^ a) k : Nat)), (0, (k : Nat))] [] m (some (0, mil H a b t k), m) := by
    intro t
    induction t with
    | zero =>
      intro k hk
      obtain rfl : k = 25 := by omega
      exact b_Mz_milesTo_6 ⟨fun _ => rfl, fun z => absurd (by omega) z⟩
    | succ t ih =>
      intro k hk
      have hl := wth_lt (H := H) (A := AL) p1 k
      refine b_Mz_milesTo_6 ⟨fun z => by omega, fun _ => ?_⟩
      rw [ian_nat (by omega) (by omega)]
      have hz : (((wth H AL (2 ^ a) k &&& 2 ^ b : Nat) : Int) = 0) ↔ ¬ (wth H AL (2 ^ a) k).testBit b = true := by
        rw [← and_pow]
        omega
      rw [hz]
      unfold mil
      refine ⟨fun z => ⟨_, _, c_Mz_grown hM hl, ?_⟩, fun z => ?_⟩
      · rw [if_neg z, w32s (by omega), ← wth_AL]
        exact ih (k + 1) (by omega)
      · rw [Classical.not_not] at z
        rw [if_pos z]
  exact key 25 0 rfl
theorem FAR_far {m' : Mm} {P : Nat → Nat → Prop} (h : FAR_ m' P) {c : Nat} (hc : c < 25) (hn : ∀ k, ¬ P k c) : m' 411 c = 1000000 := by
  obtain ⟨h1, h2⟩ := h c hc
  apply Classical.byContradiction
  intro z
  exact hn _ ((h2 (m' 411 c).toNat (by omega)).mp (by omega))
theorem FAR_at {m' : Mm} {P : Nat → Nat → Prop} (h : FAR_ m' P) {c v : Nat} (hc : c < 25) (hv : v < 1000000) (hP : P v c) (hn : ∀ k, k < v → ¬ P k c) : m' 411 c = (v : Nat) := by
  obtain ⟨h1, h2⟩ := h c hc
  have q1 := (h2 v hv).mpr hP
  apply Classical.byContradiction
  intro z
  exact hn (m' 411 c).toNat (by omega) ((h2 (m' 411 c).toNat (by omega)).mp (by omega))
/-- how far a cell is in the row that is laid from s -/
theorem FAR_mls {m' : Mm} {H : Int → Bool} {s c : Nat} (hs : s < 25) (hc : c < 25) (h : FAR_ m' (fun k c => (wth H AL (2 ^ s) k).testBit c = true)) : m' 411 c = if mls H c s = -1 then 1000000 else mls H c s := by
  rcases mls_v (H := H) (b := s) hc with ⟨q1, q2⟩ | ⟨v, q1, q2, q3, q4⟩
  · rw [if_pos q1]
    exact FAR_far h hc (fun k z => q2 k ((wth_sym hs hc).mp z))
  · rw [q1, if_neg (by omega)]
    exact FAR_at h hc (by omega) ((wth_sym hc hs).mp q3) (fun k hk z => q4 k hk ((wth_sym hs hc).mp z))
theorem c_Mo_areCells {d : Nat} {m : Mm} {a b : Int} : Cl (d + 2) k_Mo_areCells [(0, a), (0, b)] m (some (0, if (0 ≤ a ∧ a < 25) ∧ 0 ≤ b ∧ b < 25 then 1 else 0), m) := by
  refine cl_Mo_areCells (b_Mo_areCells ⟨_, _, c_Mo_isCell, fun z => ?_, fun z => ⟨_, _, c_Mo_isCell, fun z2 => ?_, fun z2 => ?_⟩⟩)
  · rw [ite_z] at z
    rw [if_neg (fun q => z q.1)]
  · rw [ite_z] at z2
    rw [if_neg (fun q => z2 q.2)]
  · rw [ite_z1] at z z2
    rw [if_pos ⟨z, z2⟩]
theorem c_Mo_miles {d : Nat} {m : Mm} {a b : Nat} (h8 : hv20 (m 401 8)) (h9 : hv20 (m 401 9)) (ha : a < 25) (hb : b < 25) : ∃ m', Cl (d + 4) k_Mo_miles [(18, 400), (0, (a : Nat)), (0, (b : Nat))] m (some (0, mls (HM m 401) a b), m') ∧ FAR_ m' (fun k c => (wth (HM m 401) AL (2 ^ b) k).testBit c = true) ∧ ∀ a b, a ≠ 411 → m' a b = m a b := by
  obtain ⟨m', q1, q2, q3⟩ := c_Mo_layFar (d := d) (m := m) (x := 0) h8 h9 (Or.inl rfl) (FARS_0 hb) hb
  have e := FAR_mls hb ha q2
  refine ⟨m', cl_Mo_miles (b_Mo_miles ⟨_, _, c_Mo_areCells, fun _ => ⟨_, q1, by omega, fun z => ⟨by omega, ?_⟩, fun z => ?_⟩, fun z => ?_⟩), q2, q3⟩
  · rcases mls_v (H := HM m 401) (b := b) ha with ⟨p1, p2⟩ | ⟨v, p1, p2, p3, p4⟩
    · rw [if_pos p1] at e
      exact absurd e z
    · rw [e, p1, if_neg (by omega)]
  · rw [Classical.not_not] at z
    rcases mls_v (H := HM m 401) (b := b) ha with ⟨p1, p2⟩ | ⟨v, p1, p2, p3, p4⟩
    · rw [p1]
    · rw [z, p1, if_neg (by omega)] at e
      omega
  · rw [ite_z1] at z
    exact absurd ⟨by omega, by omega⟩ z
theorem HM_row {m m' : Mm} (h : m' 401 = m 401) : HM m' 401 = HM m 401 := by unfold HM; rw [h]
theorem op_miles {m : Mm} {x y : Int} (h : R m) : OP k_Th_miles k_Mo_miles 0 [(0, x), (0, y)] m := by
  obtain ⟨_, v8, v9, _⟩ := R_h h
  by_cases hx : 0 ≤ x ∧ x < 25
  · by_cases hy : 0 ≤ y ∧ y < 25
    · obtain ⟨a, rfl⟩ := Int.eq_ofNat_of_zero_le hx.1
      obtain ⟨b, rfl⟩ := Int.eq_ofNat_of_zero_le hy.1
      obtain ⟨m1, q1, q2, q3⟩ := c_Th_mazeNow (d := 117) h
      have e401 : m1 401 = m 401 := by funext b; exact q3 _ _ (by omega)
      obtain ⟨m2, p1, p2, p3⟩ := c_Mo_miles (d := 116) (m := m1) (a := a) (b := b) (by rw [e401]; exact v8) (by rw [e401]; exact v9) (by omega) (by omega)
      rw [HM_row e401] at p1
      refine OP_q h (cl_Th_miles (b_Th_miles ⟨_, _, c_Pl_isCell, fun z => ?_, fun _ => ⟨_, _, c_Pl_isCell, fun _ => ⟨_, q1, ?_⟩, fun z => ?_⟩⟩)) p1 (SM_13 q3) (SM_411 p3)
      · rw [ite_z] at z; exact absurd hx z
      · rw [isl1 (by omega)]
        exact ⟨_, _, c_Mz_milesTo q2 (by omega) (by omega), rfl⟩
      · rw [ite_z1] at z; exact absurd hy z
    · refine OP_e h (v := -1) (cl_Th_miles (b_Th_miles ⟨_, _, c_Pl_isCell, fun z => rfl, fun _ => ⟨_, _, c_Pl_isCell, fun z => ?_, fun z => rfl⟩⟩)) (cl_Mo_miles (b_Mo_miles ⟨_, _, c_Mo_areCells, fun z => ?_, fun z => rfl⟩))
      · rw [ite_z1] at z; exact absurd z hy
      · rw [ite_z1] at z; exact absurd z.2 hy
  · refine OP_e h (v := -1) (cl_Th_miles (b_Th_miles ⟨_, _, c_Pl_isCell, fun z => rfl, fun z => ?_⟩)) (cl_Mo_miles (b_Mo_miles ⟨_, _, c_Mo_areCells, fun z => ?_, fun z => rfl⟩))
    · rw [ite_z1] at z; exact absurd z hx
    · rw [ite_z1] at z; exact absurd z.1 hx
/-! the farthest -/
def eccF (H : Int → Bool) (a : Nat) : Nat → Nat → Nat
  | 0, k => k
  | t + 1, k => if wth H AL (2 ^ a) (k + 1) = wth H AL (2 ^ a) k then k else eccF H a t (k + 1)
theorem eccF_v {H : Int → Bool} {a : Nat} : ∀ t k, (∃ j, k ≤ j ∧ j < k + t ∧ wth H AL (2 ^ a) (j + 1) = wth H AL (2 ^ a) j) → wth H AL (2 ^ a) (eccF H a t k + 1) = wth H AL (2 ^ a) (eccF H a t k) ∧ k ≤ eccF H a t k ∧ eccF H a t k < k + t ∧ ∀ j, k ≤ j → j < eccF H a t k → wth H AL (2 ^ a) (j + 1) ≠ wth H AL (2 ^ a) j := by
  intro t
  induction t with
  | zero => rintro k ⟨j, h1, h2, _⟩; omega
  | succ t ih =>
    rintro k ⟨j, h1, h2, h3⟩
    unfold eccF
    by_cases hb : wth H AL (2 ^ a) (k + 1) = wth H AL (2 ^ a) k
    · rw [if_pos hb]
      exact ⟨hb, by omega, by omega, fun i q1 q2 => by omega⟩
    · rw [if_neg hb]
      have hjk : j ≠ k := fun z => hb (by rw [← z]; exact h3)
      obtain ⟨q1, q2, q3, q4⟩ := ih (k + 1) ⟨j, by omega, by omega, h3⟩
      refine ⟨q1, by omega, by omega, fun i z1 z2 => ?_⟩
      by_cases hik : i = k
      · subst hik; exact hb
      · exact q4 i (by omega) z2
abbrev ecc (H : Int → Bool) (a : Nat) : Nat := eccF H a 25 0
theorem ecc_v {H : Int → Bool} {a : Nat} (ha : a < 25) : (∀ j, sub_ (wth H AL (2 ^ a) j) (wth H AL (2 ^ a) (ecc H a))) ∧ ecc H a < 25 ∧ ∀ j, j < ecc H a → wth H AL (2 ^ a) (j + 1) ≠ wth H AL (2 ^ a) j := by
  obtain ⟨p1, p2, p3⟩ := p25 ha
  obtain ⟨q1, q2, q3, q4⟩ := eccF_v (H := H) (a := a) 25 0 ⟨24, by omega, by omega, wth_stab p1 p2 p3⟩
  refine ⟨fun j => ?_, by omega, fun j hj => q4 j (by omega) hj⟩
  rcases Nat.lt_or_ge j (ecc H a) with z | z
  · have := wth_up (H := H) p1 p2 (ecc H a - j) j
    rw [show j + (ecc H a - j) = ecc H a by omega] at this
    exact this
  · have := wth_fix q1 (j - ecc H a)
    rw [show ecc H a + (j - ecc H a) = j by omega] at this
    rw [this]
    exact fun i hi => hi
/-- those that are k miles off and no less -/
def lst (H : Int → Bool) (a : Nat) : Nat → Nat
  | 0 => 2 ^ a
  | k + 1 => ndf (wth H AL (2 ^ a) (k + 1)) (wth H AL (2 ^ a) k)
theorem lst_lt {H : Int → Bool} {a : Nat} (ha : a < 25) : ∀ k, lst H a k < 2 ^ 25 := by
  intro k
  cases k with
  | zero => exact (p25 ha).1
  | succ k => exact ndf_lt (wth_lt (p25 ha).1 _)
theorem lst_mem {H : Int → Bool} {a k i : Nat} : (lst H a k).testBit i = true ↔ (wth H AL (2 ^ a) k).testBit i = true ∧ ∀ j, j + 1 = k → ¬ (wth H AL (2 ^ a) j).testBit i = true := by
  cases k with
  | zero => exact ⟨fun h => ⟨h, fun j hj => by omega⟩, fun h => h.1⟩
  | succ k =>
    show (ndf _ _).testBit i = true ↔ _
    rw [ndf_mem]
    exact ⟨fun h => ⟨h.1, fun j hj => by obtain rfl : j = k := by omega
                                         exact h.2⟩, fun h => ⟨h.1, h.2 k rfl⟩⟩
theorem lst_ne {H : Int → Bool} {a : Nat} (ha : a < 25) : lst H a (ecc H a) ≠ 0 := by
  obtain ⟨p1, p2, p3⟩ := p25 ha
  obtain ⟨q1, q2, q3⟩ := ecc_v (H := H) ha
  generalize ecc H a = K at *
  cases K with
  | zero => exact p3
  | succ k =>
    intro z
    refine q3 k (by omega) (sub_eq (fun i hi => ?_) (wth_up1 p1 p2 k))
    apply Classical.byContradiction
    intro z2
    have : (lst H a (k + 1)).testBit i = true := ndf_mem.mpr ⟨hi, z2⟩
    rw [z, Nat.zero_testBit] at this
    cases this
abbrev frt (H : Int → Bool) (a : Nat) : Nat := low (lst H a (ecc H a))
theorem frt_v {H : Int → Bool} {a : Nat} (ha : a < 25) : frt H a < 25 ∧ mls H a (frt H a) = (ecc H a : Nat) ∧ ∀ i, i < frt H a → mls H a i < (ecc H a : Nat) := by
  obtain ⟨q1, q2, q3⟩ := low_v (lst_lt (H := H) ha (ecc H a)) (lst_ne ha)
  obtain ⟨e1, e2, e3⟩ := ecc_v (H := H) ha
  obtain ⟨p1, p2, p3⟩ := p25 ha
  obtain ⟨l1, l2⟩ := lst_mem.mp q1
  refine ⟨q2, ?_, fun i hi => ?_⟩
  · rcases mls_v (H := H) (b := frt H a) ha with ⟨z1, z2⟩ | ⟨v, z1, z2, z3, z4⟩
    · exact absurd l1 (z2 _)
    · rw [z1]
      congr 1
      apply Classical.byContradiction
      intro z
      rcases Nat.lt_or_ge (ecc H a) v with y | y
      · exact z4 _ y l1
      · have := wth_up (H := H) p1 p2 (ecc H a - 1 - v) v _ z3
        rw [show v + (ecc H a - 1 - v) = ecc H a - 1 by omega] at this
        exact l2 (ecc H a - 1) (by omega) this
  · rcases mls_v (H := H) (b := i) ha with ⟨z1, z2⟩ | ⟨v, z1, z2, z3, z4⟩
    · rw [z1]; omega
    · rw [z1]
      have z5 := e1 v i z3
      have z6 : ¬ (lst H a (ecc H a)).testBit i = true := q3 i hi
      apply Classical.byContradiction
      intro z
      apply z6
      refine lst_mem.mpr ⟨z5, fun j hj z7 => z4 j (by omega) z7⟩
theorem mls_le {H : Int → Bool} {a i : Nat} (ha : a < 25) : mls H a i ≤ (ecc H a : Nat) := by
  obtain ⟨e1, e2, e3⟩ := ecc_v (H := H) ha
  rcases mls_v (H := H) (b := i) ha with ⟨z1, z2⟩ | ⟨v, z1, z2, z3, z4⟩
  · rw [z1]; omega
  · rw [z1]
    apply Classical.byContradiction
    intro z
    exact z4 (ecc H a) (by omega) (e1 v i z3)
theorem c_Mz_farthestFrom {d : Nat} {m : Mm} {H : Int → Bool} {a : Nat} (hM : MZ m H) (ha : a < 25) : Cl (d + 2) k_Mz_farthestFrom [(14, 13), (0, (a : Nat))] m (some (0, (frt H a : Nat)), m) := by
  obtain ⟨p1, p2, p3⟩ := p25 ha
  obtain ⟨e1, e2, e3⟩ := ecc_v (H := H) ha
  have stab : wth H AL (2 ^ a) (ecc H a + 1) = wth H AL (2 ^ a) (ecc H a) := sub_eq (e1 _) (wth_up1 p1 p2 _)
  refine cl_Mz_farthestFrom (b_Mz_farthestFrom ?_)
  rw [isl1 (by omega)]
  have key : ∀ (t k : Nat) (u : Vv), k + t = ecc H a → Ev (d + 2) K_Mz_farthestFrom 0 8 [(14, 13), (0, (a : Nat)), (0, (wth H AL (2 ^ a) k : Nat)), (0, (lst H a k : Nat)), (0, (k : Nat)), u] [] m (some (0, (frt H a : Nat)), m) := by
    intro t
    induction t with
    | zero =>
      intro k u hk
      obtain rfl : k = ecc H a := by omega
      refine b_Mz_farthestFrom_8 ⟨fun z => by omega, fun _ => ⟨_, _, c_Mz_grown hM (wth_lt p1 _), fun z => ?_, fun _ => ⟨_, _, c_Mz_lowest (lst_lt ha _) (lst_ne ha), rfl⟩⟩⟩
      rw [← wth_AL, stab] at z
      exact absurd rfl z
    | succ t ih =>
      intro k u hk
      have hl := wth_lt (H := H) (A := AL) p1 k
      have hg := grw_lt (H := H) (s := wth H AL (2 ^ a) k)
      refine b_Mz_farthestFrom_8 ⟨fun z => by omega, fun _ => ⟨_, _, c_Mz_grown hM (wth_lt p1 _), fun z => ?_, fun z => ?_⟩⟩
      · rw [ian_not (by omega) (by omega), w32s (by omega), ← wth_AL]
        exact ih (k + 1) _ (by omega)
      · rw [Classical.not_not, ← wth_AL] at z
        exact absurd (by omega) (e3 k (by omega))
  exact key (ecc H a) 0 _ (by omega)
/-- the model's: the lowest of the farthest in its row -/
theorem c_Mo_farthestNow {d : Nat} {m : Mm} {H : Int → Bool} {a : Nat} (ha : a < 25) (h : FAR_ m (fun k c => (wth H AL (2 ^ a) k).testBit c = true)) : Cl d k_Mo_farthestNow [(18, 400)] m (some (0, (frt H a : Nat)), m) ∧ m 411 (frt H a : Nat) = (ecc H a : Nat) := by
  obtain ⟨f1, f2, f3⟩ := frt_v (H := H) ha
  have sy : ∀ c : Nat, c < 25 → mls H c a = mls H a c := fun c hc => by
    rcases mls_v (H := H) (b := a) hc with ⟨z1, z2⟩ | ⟨v, z1, z2, z3, z4⟩
    · rcases mls_v (H := H) (b := c) ha with ⟨y1, y2⟩ | ⟨w, y1, y2, y3, y4⟩
      · rw [z1, y1]
      · exact absurd ((wth_sym ha hc).mp y3) (z2 w)
    · rcases mls_v (H := H) (b := c) ha with ⟨y1, y2⟩ | ⟨w, y1, y2, y3, y4⟩
      · exact absurd ((wth_sym hc ha).mp z3) (y2 v)
      · rw [z1, y1]
        congr 1
        apply Classical.byContradiction
        intro z
        rcases Nat.lt_or_ge v w with y | y
        · exact y4 v y ((wth_sym hc ha).mp z3)
        · exact z4 w (by omega) ((wth_sym ha hc).mp y3)
  have fr : ∀ c : Nat, c < 25 → m 411 c = if mls H a c = -1 then 1000000 else mls H a c := fun c hc => by
    have := FAR_mls ha hc h
    rw [sy c hc] at this
    exact this
  have fm : m 411 (frt H a : Nat) = (ecc H a : Nat) := by
    rw [fr _ f1, f2, if_neg (by omega)]
  refine ⟨cl_Mo_farthestNow (b_Mo_farthestNow ?_), fm⟩
  have key : ∀ (t k : Nat) (x : Int), k + t = 25 → ((x = -1 ∧ k ≤ frt H a) ∨ ∃ j : Nat, x = (j : Nat) ∧ j < 25 ∧ mls H a j ≠ -1 ∧ (if k ≤ frt H a then mls H a j < (ecc H a : Nat) else j = frt H a)) → Ev d K_Mo_farthestNow 0 4 [(18, 400), (0, x), (0, (k : Nat))] [] m (some (0, (frt H a : Nat)), m) := by
    intro t
    induction t with
    | zero =>
      intro k x hk hx
      obtain rfl : k = 25 := by omega
      refine b_Mo_farthestNow_4 ⟨fun _ => ?_, fun z => absurd (by omega) z⟩
      rcases hx with q | ⟨j, q1, q2, q3, q4⟩
      · omega
      · rw [if_neg (by omega)] at q4
        rw [q1, q4]
    | succ t ih =>
      intro k x hk hx
      have hfk := fr k (by omega)
      have hle := mls_le (H := H) (i := k) ha
      by_cases hun : mls H a k = -1
      · rw [if_pos hun] at hfk
        have hkf : k ≠ frt H a := fun z => by rw [z, f2] at hun; omega
        refine b_Mo_farthestNow_4 ⟨fun z => by omega, fun _ => ⟨by omega, fun _ => ?_, fun z => absurd hfk z⟩⟩
        rw [w32s (by omega)]
        refine ih (k + 1) x (by omega) ?_
        rcases hx with q | ⟨j, q1, q2, q3, q4⟩
        · exact Or.inl ⟨q.1, by omega⟩
        · refine Or.inr ⟨j, q1, q2, q3, ?_⟩
          by_cases hkk : k ≤ frt H a
          · rw [if_pos hkk] at q4
            rw [if_pos (by omega)]
            exact q4
          · rw [if_neg hkk] at q4
            rw [if_neg (by omega)]
            exact q4
      · rw [if_neg hun] at hfk
        have hnm : ¬ m 411 (k : Nat) = 1000000 := by
          obtain ⟨e1, e2, e3⟩ := ecc_v (H := H) ha
          omega
        have take : Ev d K_Mo_farthestNow 0 4 [(18, 400), (0, (k : Nat)), (0, ((k + 1 : Nat) : Int))] [] m (some (0, (frt H a : Nat)), m) ∨ frt H a < k := by
          by_cases hkk : k ≤ frt H a
          · refine Or.inl (ih (k + 1) (k : Nat) (by omega) (Or.inr ⟨k, rfl, by omega, hun, ?_⟩))
            by_cases hkf : k = frt H a
            · rw [if_neg (by omega)]; exact hkf
            · rw [if_pos (by omega)]
              exact f3 k (by omega)
          · exact Or.inr (by omega)
        rcases hx with q | ⟨j, q1, q2, q3, q4⟩
        · refine b_Mo_farthestNow_4 ⟨fun z => by omega, fun _ => ⟨by omega, fun z => absurd z hnm, fun _ => ⟨fun _ => ?_, fun z => absurd q.1 z⟩⟩⟩
          rw [w32s (by omega)]
          rcases take with y | y
          · exact y
          · omega
        · have hfj := fr j q2
          rw [if_neg q3] at hfj
          refine b_Mo_farthestNow_4 ⟨fun z => by omega, fun _ => ⟨by omega, fun z => absurd z hnm, fun _ => ⟨fun z => by omega, fun _ => ⟨by omega, by omega, fun z => ?_, fun z => ?_⟩⟩⟩⟩
          · rw [w32s (by omega)]
            refine ih (k + 1) x (by omega) (Or.inr ⟨j, q1, q2, q3, ?_⟩)
            rw [q1, hfk, hfj] at z
            by_cases hkk : k ≤ frt H a
            · rw [if_pos hkk] at q4
              have hkf : k ≠ frt H a := fun y => by rw [y, f2] at z; omega
              rw [if_pos (by omega)]
              exact q4
            · rw [if_neg hkk] at q4
              rw [if_neg (by omega)]
              exact q4
          · rw [w32s (by omega)]
            rw [q1, hfk, hfj] at z
            rcases take with y | y
            · exact y
            · rw [if_neg (by omega)] at q4
              rw [q4, f2] at z
              exact absurd hle z
  exact key 25 0 (-1) rfl (Or.inl ⟨rfl, by omega⟩)
theorem op_farthest {m : Mm} {x : Int} (h : R m) : OP k_Th_farthest k_Mo_farthest 0 [(0, x)] m := by
  obtain ⟨_, v8, v9, _⟩ := R_h h
  by_cases hx : 0 ≤ x ∧ x < 25
  · obtain ⟨a, rfl⟩ := Int.eq_ofNat_of_zero_le hx.1
    obtain ⟨m1, q1, q2, q3⟩ := c_Th_mazeNow (d := 117) h
    have e401 : m1 401 = m 401 := by funext b; exact q3 _ _ (by omega)
    obtain ⟨m2, p1, p2, p3⟩ := c_Mo_layFar (d := 116) (m := m1) (x := 0) (s := a) (by rw [e401]; exact v8) (by rw [e401]; exact v9) (Or.inl rfl) (FARS_0 (by omega)) (by omega)
    rw [HM_row e401] at p2
    refine OP_q h (cl_Th_farthest (b_Th_farthest ⟨_, _, c_Pl_isCell, fun _ => ⟨_, q1, _, _, c_Mz_farthestFrom q2 (by omega), rfl⟩, fun z => ?_⟩)) (cl_Mo_farthest (b_Mo_farthest ⟨_, _, c_Mo_isCell, fun _ => ⟨_, p1, _, _, (c_Mo_farthestNow (by omega) p2).1, rfl⟩, fun z => ?_⟩)) (SM_13 q3) (SM_411 p3)
    · rw [ite_z1] at z; exact absurd hx z
    · rw [ite_z1] at z; exact absurd hx z
  · refine OP_e h (v := -1) (cl_Th_farthest (b_Th_farthest ⟨_, _, c_Pl_isCell, fun z => ?_, fun z => rfl⟩)) (cl_Mo_farthest (b_Mo_farthest ⟨_, _, c_Mo_isCell, fun z => ?_, fun z => rfl⟩))
    · rw [ite_z1] at z; exact absurd z hx
    · rw [ite_z1] at z; exact absurd z hx
def wdf (H : Int → Bool) : Nat → Int
  | 0 => 0
  | k + 1 => max (wdf H k) (ecc H k : Nat)
theorem op_wide {m : Mm} (h : R m) : OP k_Th_wide k_Mo_wide 0 [] m := by
  obtain ⟨_, v8, v9, _⟩ := R_h h
  obtain ⟨m1, q1, q2, q3⟩ := c_Th_mazeNow (d := 117) h
  have e401 : m1 401 = m 401 := by funext b; exact q3 _ _ (by omega)
  have fc : ∀ (t k : Nat), k + t = 25 → Ev 120 K_Th_wide 0 7 [(17, 0), (0, wdf (HM m 401) k), (0, (k : Nat))] [] m1 (some (0, wdf (HM m 401) 25), m1) := by
    intro t
    induction t with
    | zero =>
      intro k hk
      obtain rfl : k = 25 := by omega
      exact b_Th_wide_7 ⟨fun _ => rfl, fun z => absurd (by omega) z⟩
    | succ t ih =>
      intro k hk
      obtain ⟨f1, f2, f3⟩ := frt_v (H := HM m 401) (a := k) (by omega)
      refine b_Th_wide_7 ⟨fun z => by omega, fun _ => ⟨_, _, c_Mz_farthestFrom q2 (by omega), ?_⟩⟩
      rw [isl1 (by omega)]
      refine ⟨_, _, c_Mz_milesTo q2 (by omega) f1, ?_⟩
      rw [f2, w32s (by omega)]
      exact ih (k + 1) (by omega)
  have fm : ∀ (t k : Nat) (M : Mm), k + t = 25 → (∀ a b, a ≠ 411 → M a b = m1 a b) → ∃ m2, Ev 120 K_Mo_wide 0 4 [(18, 400), (0, wdf (HM m 401) k), (0, (k : Nat))] [] M (some (0, wdf (HM m 401) 25), m2) ∧ ∀ a b, a ≠ 411 → m2 a b = m1 a b := by
    intro t
    induction t with
    | zero =>
      intro k M hk hM
      obtain rfl : k = 25 := by omega
      exact ⟨M, b_Mo_wide_4 ⟨fun _ => rfl, fun z => absurd (by omega) z⟩, hM⟩
    | succ t ih =>
      intro k M hk hM
      have e4 : M 401 = m 401 := by funext b; rw [hM _ _ (by omega), e401]
      obtain ⟨f1, f2, f3⟩ := frt_v (H := HM m 401) (a := k) (by omega)
      obtain ⟨M2, p1, p2, p3⟩ := c_Mo_layFar (d := 116) (m := M) (x := 0) (s := k) (by rw [e4]; exact v8) (by rw [e4]; exact v9) (Or.inl rfl) (FARS_0 (by omega)) (by omega)
      rw [HM_row e4] at p2
      have hfn := c_Mo_farthestNow (d := 119) (by omega) p2
      obtain ⟨m2, g1, g2⟩ := ih (k + 1) M2 (by omega) (fun a b hab => by rw [p3 a b hab, hM a b hab])
      refine ⟨m2, b_Mo_wide_4 ⟨fun z => by omega, fun _ => ⟨_, p1, _, _, hfn.1, by omega, fun z => ?_, fun z => ⟨_, _, hfn.1, by omega, ?_⟩⟩⟩, g2⟩
      · rw [hfn.2] at z
        rw [w32s (by omega)]
        rw [wdf, show max (wdf (HM m 401) k) ((ecc (HM m 401) k : Nat) : Int) = wdf (HM m 401) k by omega] at g1
        exact g1
      · rw [hfn.2] at z
        rw [hfn.2, w32s (by omega)]
        rw [wdf, show max (wdf (HM m 401) k) ((ecc (HM m 401) k : Nat) : Int) = (ecc (HM m 401) k : Nat) by omega] at g1
        exact g1
  obtain ⟨m2, g1, g2⟩ := fm 25 0 m1 rfl (fun _ _ _ => rfl)
  exact OP_q h (cl_Th_wide (b_Th_wide ⟨_, q1, fc 25 0 rfl⟩)) (cl_Mo_wide (b_Mo_wide g1)) (SM_13 q3) (SM_411 g2)
