/-! SETS OF CELLS, GROWN BY OPEN WAYS -/
abbrev AL : Nat := 33554431
theorem AL_bit {i : Nat} : AL.testBit i = decide (i < 25) := by
  show (2 ^ 25 - 1).testBit i = _
  exact Nat.testBit_two_pow_sub_one 25 i
theorem bit_lt {s i k : Nat} (h : s < 2 ^ k) (hb : s.testBit i = true) : i < k := by
  have h1 := Nat.ge_two_pow_of_testBit hb
  rcases Nat.lt_or_ge i k with q | q
  · exact q
  · have := p2le q
    omega
theorem lt_bits {s k : Nat} (h : ∀ i, s.testBit i = true → i < k) : s < 2 ^ k := by
  refine Nat.lt_pow_two_of_testBit s fun i hi => ?_
  cases hb : s.testBit i with
  | false => rfl
  | true => have := h i hb; omega
/-- two cells beside one another with no hedge between -/
def nbr (H : Int → Bool) (c d : Nat) : Prop := (d = c + 1 ∧ opn H c 1 = true) ∨ (c = d + 1 ∧ opn H d 1 = true) ∨ (d = c + 5 ∧ opn H c 2 = true) ∨ (c = d + 5 ∧ opn H d 2 = true)
theorem nbr_sym {H : Int → Bool} {c d : Nat} (h : nbr H c d) : nbr H d c := by
  rcases h with q | q | q | q
  · exact Or.inr (Or.inl q)
  · exact Or.inl q
  · exact Or.inr (Or.inr (Or.inr q))
  · exact Or.inr (Or.inr (Or.inl q))
theorem opn_1 {H : Int → Bool} {c : Nat} (h : opn H (c : Nat) 1 = true) : c % 5 < 4 := by
  have := opn_bey h
  unfold bey at this
  rw [if_neg (by omega), if_pos rfl] at this
  split at this
  · omega
  · omega
theorem opn_2 {H : Int → Bool} {c : Nat} (h : opn H (c : Nat) 2 = true) : c < 20 := by
  have := opn_bey h
  unfold bey at this
  rw [if_neg (by omega), if_neg (by omega), if_pos rfl] at this
  split at this
  · omega
  · omega
theorem nbr_lt {H : Int → Bool} {c d : Nat} (h : nbr H c d) (hc : c < 25) : d < 25 := by
  rcases h with q | q | q | q
  · have := opn_1 q.2; omega
  · omega
  · have := opn_2 q.2; omega
  · omega
theorem bey_d3 : ∀ c : Nat, c < 25 → bey ((c : Nat) : Int) 3 ≠ -1 → bey ((c : Nat) : Int) 3 = ((c - 1 : Nat) : Int) ∧ 0 < c ∧ bey ((c - 1 : Nat) : Int) 1 ≠ -1 ∧ hby ((c : Nat) : Int) 3 = hby ((c - 1 : Nat) : Int) 1 := by decide +kernel
theorem bey_d0 : ∀ c : Nat, c < 25 → bey ((c : Nat) : Int) 0 ≠ -1 → bey ((c : Nat) : Int) 0 = ((c - 5 : Nat) : Int) ∧ 5 ≤ c ∧ bey ((c - 5 : Nat) : Int) 2 ≠ -1 ∧ hby ((c : Nat) : Int) 0 = hby ((c - 5 : Nat) : Int) 2 := by decide +kernel
theorem bey_d1 : ∀ c : Nat, c < 25 → bey ((c : Nat) : Int) 1 ≠ -1 → bey ((c : Nat) : Int) 1 = ((c + 1 : Nat) : Int) ∧ bey ((c + 1 : Nat) : Int) 3 ≠ -1 ∧ hby ((c + 1 : Nat) : Int) 3 = hby ((c : Nat) : Int) 1 := by decide +kernel
theorem bey_d2 : ∀ c : Nat, c < 25 → bey ((c : Nat) : Int) 2 ≠ -1 → bey ((c : Nat) : Int) 2 = ((c + 5 : Nat) : Int) ∧ bey ((c + 5 : Nat) : Int) 0 ≠ -1 ∧ hby ((c + 5 : Nat) : Int) 0 = hby ((c : Nat) : Int) 2 := by decide +kernel
theorem opn_iff {H : Int → Bool} {c w : Int} : opn H c w = true ↔ bey c w ≠ -1 ∧ ¬ H (hby c w) = true := by
  unfold opn
  rw [Bool.and_eq_true, decide_eq_true_eq, Bool.not_eq_true', Bool.not_eq_true]
theorem opn_nbr {H : Int → Bool} {c w : Nat} (hc : c < 25) (hw : w < 4) (h : opn H (c : Nat) (w : Nat) = true) : ∃ d : Nat, bey (c : Nat) (w : Nat) = (d : Nat) ∧ d < 25 ∧ nbr H c d := by
  have h3 := bey_d3 c hc
  have h0 := bey_d0 c hc
  have h1 := bey_d1 c hc
  have h2 := bey_d2 c hc
  have hw4 : w = 0 ∨ w = 1 ∨ w = 2 ∨ w = 3 := by omega
  have ho := opn_iff.mp h
  have hlt := ((bey_hby (c := (c : Int)) (w := (w : Int)) ⟨by omega, by omega⟩).2 ho.1).2
  unfold cellI at hlt
  rcases hw4 with rfl | rfl | rfl | rfl
  · obtain ⟨q1, q2, q3, q4⟩ := h0 ho.1
    refine ⟨c - 5, q1, by omega, Or.inr (Or.inr (Or.inr ⟨by omega, opn_iff.mpr ⟨q3, ?_⟩⟩))⟩
    rw [← q4]; exact ho.2
  · obtain ⟨q1, q2, q3⟩ := h1 ho.1
    have q1' : bey (c : Int) ((1 : Nat) : Int) = ((c + 1 : Nat) : Int) := q1
    exact ⟨c + 1, q1, by omega, Or.inl ⟨rfl, h⟩⟩
  · obtain ⟨q1, q2, q3⟩ := h2 ho.1
    have q1' : bey (c : Int) ((2 : Nat) : Int) = ((c + 5 : Nat) : Int) := q1
    exact ⟨c + 5, q1, by omega, Or.inr (Or.inr (Or.inl ⟨rfl, h⟩))⟩
  · obtain ⟨q1, q2, q3, q4⟩ := h3 ho.1
    refine ⟨c - 1, q1, by omega, Or.inr (Or.inl ⟨by omega, opn_iff.mpr ⟨q3, ?_⟩⟩)⟩
    rw [← q4]; exact ho.2
theorem nbr_opn {H : Int → Bool} {c d : Nat} (hc : c < 25) (h : nbr H c d) : ∃ w : Nat, w < 4 ∧ opn H (c : Nat) (w : Nat) = true ∧ bey (c : Nat) (w : Nat) = (d : Nat) := by
  have hd := nbr_lt h hc
  rcases h with q | q | q | q
  · obtain ⟨rfl, q2⟩ := q
    have h1 := bey_d1 c hc
    exact ⟨1, by omega, q2, (h1 (opn_bey q2)).1⟩
  · obtain ⟨rfl, q2⟩ := q
    have h1 := bey_d1 d hd
    obtain ⟨a1, a2, a3⟩ := h1 (opn_bey q2)
    have h3 := bey_d3 (d + 1) hc
    refine ⟨3, by omega, opn_iff.mpr ⟨a2, ?_⟩, (h3 a2).1⟩
    show ¬ H (hby ((d + 1 : Nat) : Int) 3) = true
    rw [a3]
    exact (opn_iff.mp q2).2
  · obtain ⟨rfl, q2⟩ := q
    have h2 := bey_d2 c hc
    exact ⟨2, by omega, q2, (h2 (opn_bey q2)).1⟩
  · obtain ⟨rfl, q2⟩ := q
    have h2 := bey_d2 d hd
    obtain ⟨a1, a2, a3⟩ := h2 (opn_bey q2)
    have h0 := bey_d0 (d + 5) hc
    refine ⟨0, by omega, opn_iff.mpr ⟨a2, ?_⟩, (h0 a2).1⟩
    show ¬ H (hby ((d + 5 : Nat) : Int) 0) = true
    rw [a3]
    exact (opn_iff.mp q2).2
/-- the set, and all that is one step from it -/
def grw (H : Int → Bool) (s : Nat) : Nat := bs_ (fun i => s.testBit i || (decide (1 ≤ i) && s.testBit (i - 1) && opn H ((i - 1 : Nat) : Int) 1) || (s.testBit (i + 1) && opn H ((i : Nat) : Int) 1) || (decide (5 ≤ i) && s.testBit (i - 5) && opn H ((i - 5 : Nat) : Int) 2) || (s.testBit (i + 5) && opn H ((i : Nat) : Int) 2)) 25
theorem grw_mem {H : Int → Bool} {s d : Nat} : (grw H s).testBit d = true ↔ d < 25 ∧ (s.testBit d = true ∨ ∃ c, s.testBit c = true ∧ nbr H c d) := by
  unfold grw
  rw [bst_bit]
  simp only [Bool.and_eq_true, Bool.or_eq_true, decide_eq_true_eq]
  constructor
  · rintro ⟨h0, ((((q | q) | q) | q) | q)⟩
    · exact ⟨h0, Or.inl q⟩
    · exact ⟨h0, Or.inr ⟨d - 1, q.1.2, Or.inl ⟨by omega, q.2⟩⟩⟩
    · exact ⟨h0, Or.inr ⟨d + 1, q.1, Or.inr (Or.inl ⟨rfl, q.2⟩)⟩⟩
    · exact ⟨h0, Or.inr ⟨d - 5, q.1.2, Or.inr (Or.inr (Or.inl ⟨by omega, q.2⟩))⟩⟩
    · exact ⟨h0, Or.inr ⟨d + 5, q.1, Or.inr (Or.inr (Or.inr ⟨rfl, q.2⟩))⟩⟩
  · rintro ⟨h0, q | ⟨c, h1, h2⟩⟩
    · exact ⟨h0, Or.inl (Or.inl (Or.inl (Or.inl q)))⟩
    · refine ⟨h0, ?_⟩
      rcases h2 with q | q | q | q
      · obtain ⟨rfl, q2⟩ := q
        exact Or.inl (Or.inl (Or.inl (Or.inr ⟨⟨by omega, h1⟩, q2⟩)))
      · obtain ⟨rfl, q2⟩ := q
        exact Or.inl (Or.inl (Or.inr ⟨h1, q2⟩))
      · obtain ⟨rfl, q2⟩ := q
        exact Or.inl (Or.inr ⟨⟨by omega, h1⟩, q2⟩)
      · obtain ⟨rfl, q2⟩ := q
        exact Or.inr ⟨h1, q2⟩
theorem grw_lt {H : Int → Bool} {s : Nat} : grw H s < 2 ^ 25 := bst_lt _ 25
def sub_ (s t : Nat) : Prop := ∀ i, s.testBit i = true → t.testBit i = true
theorem sub_eq {s t : Nat} (h1 : sub_ s t) (h2 : sub_ t s) : s = t := bits_eq fun i => by
  cases hs : s.testBit i with
  | true => rw [h1 i hs]
  | false =>
    cases ht : t.testBit i with
    | false => rfl
    | true => rw [h2 i ht] at hs; cases hs
theorem and_mem {s t i : Nat} : (s &&& t).testBit i = true ↔ s.testBit i = true ∧ t.testBit i = true := by rw [Nat.testBit_and, Bool.and_eq_true]
theorem or_mem {s t i : Nat} : (s ||| t).testBit i = true ↔ s.testBit i = true ∨ t.testBit i = true := by rw [Nat.testBit_or, Bool.or_eq_true]
theorem ndf_mem {s t i : Nat} : (ndf s t).testBit i = true ↔ s.testBit i = true ∧ ¬ t.testBit i = true := by
  rw [ndf_bit, Bool.and_eq_true, Bool.not_eq_true', Bool.not_eq_true]
theorem pow_mem {k i : Nat} : (2 ^ k).testBit i = true ↔ i = k := by
  rw [Nat.testBit_two_pow, decide_eq_true_eq]
  exact eq_comm
/-- the set grown k times within what is allowed -/
def wth (H : Int → Bool) (A s : Nat) : Nat → Nat
  | 0 => s
  | k + 1 => grw H (wth H A s k) &&& A
theorem wth_s {H : Int → Bool} {A s k : Nat} : wth H A s (k + 1) = grw H (wth H A s k) &&& A := rfl
theorem and_AL {s : Nat} (h : s < 2 ^ 25) : s &&& AL = s := by
  refine sub_eq (fun i hi => (and_mem.mp hi).1) (fun i hi => and_mem.mpr ⟨hi, ?_⟩)
  rw [AL_bit, decide_eq_true_eq]
  exact bit_lt h hi
theorem wth_AL {H : Int → Bool} {s k : Nat} : wth H AL s (k + 1) = grw H (wth H AL s k) := by
  rw [wth_s, and_AL grw_lt]
theorem wth_lt {H : Int → Bool} {A s : Nat} (h : s < 2 ^ 25) : ∀ k, wth H A s k < 2 ^ 25 := by
  intro k
  cases k with
  | zero => exact h
  | succ k => exact Nat.lt_of_le_of_lt Nat.and_le_left grw_lt
theorem wth_in {H : Int → Bool} {A s : Nat} (h : sub_ s A) : ∀ k, sub_ (wth H A s k) A := by
  intro k
  cases k with
  | zero => exact h
  | succ k => exact fun i hi => (and_mem.mp hi).2
theorem wth_up1 {H : Int → Bool} {A s : Nat} (hs : s < 2 ^ 25) (h : sub_ s A) (k : Nat) : sub_ (wth H A s k) (wth H A s (k + 1)) := fun i hi => and_mem.mpr ⟨grw_mem.mpr ⟨bit_lt (wth_lt hs k) hi, Or.inl hi⟩, wth_in h k i hi⟩
theorem wth_up {H : Int → Bool} {A s : Nat} (hs : s < 2 ^ 25) (h : sub_ s A) : ∀ j k, sub_ (wth H A s k) (wth H A s (k + j)) := by
  intro j
  induction j with
  | zero => exact fun k i hi => hi
  | succ j ih => exact fun k i hi => wth_up1 hs h (k + j) i (ih k i hi)
theorem wth_base {H : Int → Bool} {A s : Nat} (hs : s < 2 ^ 25) (h : sub_ s A) (k : Nat) : sub_ s (wth H A s k) := by
  have := wth_up (H := H) hs h k 0
  rw [Nat.zero_add] at this
  exact this
/-- how many -/
def crd (s : Nat) : Nat := cntL (fun i => s.testBit i) 25
theorem cntL_lt {p q : Nat → Bool} (h : ∀ i, p i = true → q i = true) : ∀ k j, j < k → q j = true → ¬ p j = true → cntL p k < cntL q k := by
  intro k
  induction k with
  | zero => intro j hj; omega
  | succ k ih =>
    intro j hj h1 h2
    unfold cntL
    have hm := cntL_mono h k
    by_cases hjk : j = k
    · subst hjk
      rw [if_neg h2, if_pos h1]
      omega
    · have := ih j (by omega) h1 h2
      by_cases hp : p k = true
      · rw [if_pos hp, if_pos (h k hp)]
        omega
      · rw [if_neg hp]
        split <;> omega
theorem crd_lt {s t : Nat} (ht : t < 2 ^ 25) (h : sub_ s t) (hne : s ≠ t) : crd s < crd t := by
  have : ∃ j, t.testBit j = true ∧ ¬ s.testBit j = true := by
    apply Classical.byContradiction
    intro z
    refine hne (sub_eq h fun i hi => ?_)
    apply Classical.byContradiction
    intro z2
    exact z ⟨i, hi, z2⟩
  obtain ⟨j, h1, h2⟩ := this
  exact cntL_lt h 25 j (bit_lt ht h1) h1 h2
theorem wth_stab {H : Int → Bool} {A s : Nat} (hs : s < 2 ^ 25) (h : sub_ s A) (h0 : s ≠ 0) : wth H A s 25 = wth H A s 24 := by
  have fix : ∀ k, wth H A s (k + 1) = wth H A s k → ∀ j, wth H A s (k + j) = wth H A s k := by
    intro k hk j
    induction j with
    | zero => rfl
    | succ j ih =>
      rw [← Nat.add_assoc, wth_s, ih, ← wth_s, hk]
  have grow : ∀ k, (∀ j, j < k → wth H A s (j + 1) ≠ wth H A s j) → k + 1 ≤ crd (wth H A s k) := by
    intro k
    induction k with
    | zero =>
      intro _
      have : ∃ i, s.testBit i = true := Nat.exists_testBit_of_ne_zero h0
      obtain ⟨i, hi⟩ := this
      have := cntL_lt (p := fun _ => false) (q := fun i => s.testBit i) (fun i hi => by cases hi) 25 i (bit_lt hs hi) hi (by simp)
      show 0 + 1 ≤ crd s
      unfold crd
      omega
    | succ k ih =>
      intro hj
      have q1 := ih (fun j hjk => hj j (by omega))
      have q2 := crd_lt (wth_lt (H := H) (A := A) hs (k + 1)) (wth_up1 hs h k) (fun z => hj k (by omega) z.symm)
      omega
  have : ∃ j, j < 25 ∧ wth H A s (j + 1) = wth H A s j := by
    apply Classical.byContradiction
    intro z
    have q1 := grow 25 (fun j hj z2 => z ⟨j, hj, z2⟩)
    have q2 := cntL_le (fun i => (wth H A s 25).testBit i) 25
    unfold crd at q1
    omega
  obtain ⟨j, h1, h2⟩ := this
  have e1 := fix j h2 (25 - j)
  have e2 := fix j h2 (24 - j)
  rw [show j + (25 - j) = 25 by omega] at e1
  rw [show j + (24 - j) = 24 by omega] at e2
  rw [e1, e2]
theorem wth_ge {H : Int → Bool} {A s : Nat} (hs : s < 2 ^ 25) (h : sub_ s A) (h0 : s ≠ 0) : ∀ k, wth H A s (24 + k) = wth H A s 24 := by
  intro k
  induction k with
  | zero => rfl
  | succ k ih =>
    rw [← Nat.add_assoc, wth_s, ih, ← wth_s]
    exact wth_stab hs h h0
/-- all that can be come to within what is allowed -/
abbrev cls (H : Int → Bool) (A s : Nat) : Nat := wth H A s 25
theorem cls_closed {H : Int → Bool} {A s : Nat} (hs : s < 2 ^ 25) (h : sub_ s A) (h0 : s ≠ 0) {c d : Nat} (hc : (cls H A s).testBit c = true) (hn : nbr H c d) (hd : A.testBit d = true) : (cls H A s).testBit d = true := by
  have e : wth H A s 26 = wth H A s 25 := by
    have e1 := wth_ge (H := H) hs h h0 2
    have e2 := wth_ge (H := H) hs h h0 1
    rw [e1, e2]
  show (wth H A s 25).testBit d = true
  rw [← e, wth_s]
  exact and_mem.mpr ⟨grw_mem.mpr ⟨nbr_lt hn (bit_lt (wth_lt hs 25) hc), Or.inr ⟨c, hc, hn⟩⟩, hd⟩
theorem wth_min {H : Int → Bool} {A s T : Nat} (h1 : sub_ s T) (h2 : ∀ c d, T.testBit c = true → nbr H c d → A.testBit d = true → T.testBit d = true) : ∀ k, sub_ (wth H A s k) T := by
  intro k
  induction k with
  | zero => exact h1
  | succ k ih =>
    intro i hi
    obtain ⟨q1, q2⟩ := and_mem.mp hi
    rcases (grw_mem.mp q1).2 with q | ⟨c, q3, q4⟩
    · exact ih i q
    · exact h2 c i (ih c q3) q4 q2
/-- walks of at most k steps -/
def Wk (H : Int → Bool) : Nat → Nat → Nat → Prop
  | 0, a, d => a = d
  | k + 1, a, d => Wk H k a d ∨ ∃ c, Wk H k a c ∧ nbr H c d
theorem Wk_l {H : Int → Bool} : ∀ k a d, Wk H (k + 1) a d ↔ Wk H k a d ∨ ∃ c, nbr H a c ∧ Wk H k c d := by
  intro k
  induction k with
  | zero =>
    intro a d
    show (a = d ∨ ∃ c, a = c ∧ nbr H c d) ↔ (a = d ∨ ∃ c, nbr H a c ∧ c = d)
    constructor
    · rintro (q | ⟨c, rfl, q⟩)
      · exact Or.inl q
      · exact Or.inr ⟨d, q, rfl⟩
    · rintro (q | ⟨c, q, rfl⟩)
      · exact Or.inl q
      · exact Or.inr ⟨a, rfl, q⟩
  | succ k ih =>
    intro a d
    show (Wk H (k + 1) a d ∨ ∃ c, Wk H (k + 1) a c ∧ nbr H c d) ↔ (Wk H (k + 1) a d ∨ ∃ c, nbr H a c ∧ Wk H (k + 1) c d)
    constructor
    · rintro (q | ⟨c, q1, q2⟩)
      · exact Or.inl q
      · rcases (ih a c).mp q1 with q | ⟨e, q3, q4⟩
        · exact Or.inl (Or.inr ⟨c, q, q2⟩)
        · exact Or.inr ⟨e, q3, Or.inr ⟨c, q4, q2⟩⟩
    · rintro (q | ⟨c, q1, q2⟩)
      · exact Or.inl q
      · rcases q2 with q | ⟨e, q3, q4⟩
        · exact Or.inl ((ih a d).mpr (Or.inr ⟨c, q1, q⟩))
        · exact Or.inr ⟨e, (ih a e).mpr (Or.inr ⟨c, q1, q3⟩), q4⟩
theorem Wk_sym {H : Int → Bool} : ∀ k a d, Wk H k a d → Wk H k d a := by
  intro k
  induction k with
  | zero => exact fun a d h => Eq.symm h
  | succ k ih =>
    intro a d h
    rcases h with q | ⟨c, q1, q2⟩
    · exact Or.inl (ih a d q)
    · exact (Wk_l k d a).mpr (Or.inr ⟨c, nbr_sym q2, ih a c q1⟩)
theorem wth_walk {H : Int → Bool} {s : Nat} (hs : s < 2 ^ 25) : ∀ k d, (wth H AL s k).testBit d = true ↔ ∃ a, s.testBit a = true ∧ Wk H k a d := by
  intro k
  induction k with
  | zero =>
    intro d
    exact ⟨fun h => ⟨d, h, rfl⟩, fun ⟨a, h1, h2⟩ => by rw [← (show a = d from h2)]; exact h1⟩
  | succ k ih =>
    intro d
    rw [wth_AL, grw_mem]
    constructor
    · rintro ⟨h0, q | ⟨c, q1, q2⟩⟩
      · obtain ⟨a, h1, h2⟩ := (ih d).mp q
        exact ⟨a, h1, Or.inl h2⟩
      · obtain ⟨a, h1, h2⟩ := (ih c).mp q1
        exact ⟨a, h1, Or.inr ⟨c, h2, q2⟩⟩
    · rintro ⟨a, h1, q | ⟨c, q1, q2⟩⟩
      · have := (ih d).mpr ⟨a, h1, q⟩
        exact ⟨bit_lt (wth_lt hs k) this, Or.inl this⟩
      · have := (ih c).mpr ⟨a, h1, q1⟩
        exact ⟨nbr_lt q2 (bit_lt (wth_lt hs k) this), Or.inr ⟨c, this, q2⟩⟩
theorem p25 {a : Nat} (h : a < 25) : 2 ^ a < 2 ^ 25 ∧ sub_ (2 ^ a) AL ∧ 2 ^ a ≠ 0 := by
  have h1 := p2le (k := a) (n := 24) (by omega)
  have h2 := Nat.two_pow_pos a
  refine ⟨by omega, fun i hi => ?_, by omega⟩
  rw [pow_mem] at hi
  rw [AL_bit, decide_eq_true_eq]
  omega
theorem wth_one {H : Int → Bool} {a k d : Nat} (ha : a < 25) : (wth H AL (2 ^ a) k).testBit d = true ↔ Wk H k a d := by
  rw [wth_walk (p25 ha).1]
  constructor
  · rintro ⟨b, h1, h2⟩
    rw [pow_mem] at h1
    rw [← h1]; exact h2
  · exact fun h => ⟨a, pow_mem.mpr rfl, h⟩
theorem wth_sym {H : Int → Bool} {a b k : Nat} (ha : a < 25) (hb : b < 25) : (wth H AL (2 ^ a) k).testBit b = true ↔ (wth H AL (2 ^ b) k).testBit a = true := by
  rw [wth_one ha, wth_one hb]
  exact ⟨Wk_sym k a b, Wk_sym k b a⟩
