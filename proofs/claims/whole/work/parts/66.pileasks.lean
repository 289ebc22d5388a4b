/-! THE MODEL'S PILE AND WORDS, asked -/
def opA : List Int → Int
  | [] => -1
  | x :: r => if 40 ≤ x then (r.length : Nat) else opA r
def opW : List Int → Int
  | [] => -1
  | x :: r => if 40 ≤ x then x else opW r
def cmpd : List Int → Bool
  | [] => false
  | x :: r => if rk x ≤ 4 then decide (rk x = 4) else cmpd r
def askA : List Int → Bool
  | [] => false
  | x :: r => decide (opW (x :: r) = 42) && decide (40 ≤ x ∨ (1 ≤ rk x ∧ rk x ≤ 3))
theorem opA_v : ∀ π : List Int, -1 ≤ opA π ∧ opA π < (π.length : Nat) ∧ (opA π < 0 ↔ opW π = -1) ∧ ((∀ x ∈ π, 0 ≤ x) → (opW π < 0 ↔ opW π = -1)) := by
  intro π
  induction π with
  | nil => exact ⟨by decide, by decide, by decide, fun _ => by decide⟩
  | cons x r ih =>
    obtain ⟨i1, i2, i3, i4⟩ := ih
    unfold opA opW
    rw [List.length_cons]
    by_cases h : 40 ≤ x
    · rw [if_pos h, if_pos h]
      exact ⟨by omega, by omega, by omega, fun _ => by omega⟩
    · rw [if_neg h, if_neg h]
      exact ⟨i1, by omega, i3, fun z => i4 (fun y hy => z y (List.mem_cons_of_mem _ hy))⟩
theorem opA_p {N : Mm} : ∀ π : List Int, pil N π → 0 ≤ opA π → N 406 (opA π) = opW π := by
  intro π
  induction π with
  | nil => intro _ h; exact absurd h (by decide)
  | cons x r ih =>
    intro hp h
    unfold opA at h
    unfold opA opW
    by_cases h4 : 40 ≤ x
    · rw [if_pos h4, if_pos h4]; exact hp.1
    · rw [if_neg h4] at h
      rw [if_neg h4, if_neg h4]; exact ih hp.2 h
theorem c_Mo_openAt {d : Nat} {m : Mm} {π : List Int} (h : PIL m π) (hl : π.length ≤ 160) : Cl d k_Mo_openAt [(18, 400)] m (some (0, opA π), m) := by
  have lp : ∀ π : List Int, π.length ≤ 160 → pil m π → Ev d K_Mo_openAt 0 5 [(18, 400), (0, (π.length : Nat) - 1)] [] m (some (0, opA π), m) := by
    intro π
    induction π with
    | nil => intro _ _; exact b_Mo_openAt_5 ⟨fun _ => rfl, fun z => absurd (by decide) z⟩
    | cons x r ih =>
      intro hl hp
      rw [List.length_cons] at hl ⊢
      rw [show (((r.length + 1 : Nat) : Int) - 1) = (r.length : Nat) by omega]
      unfold opA
      refine b_Mo_openAt_5 ⟨fun z => by omega, fun _ => ⟨by omega, ?_⟩⟩
      rw [hp.1]
      refine ⟨fun z => by rw [if_pos z], fun z => ?_⟩
      rw [if_neg z, w32n (by omega) (by omega)]
      exact ih (by omega) hp.2
  refine cl_Mo_openAt (b_Mo_openAt ?_)
  rw [h.1, w32n (by omega) (by omega)]
  exact lp π hl h.2
theorem c_Mo_openNow {d : Nat} {m : Mm} {π : List Int} (h : PIL m π) (hl : π.length ≤ 160) : Cl (d + 1) k_Mo_openNow [(18, 400)] m (some (0, opW π), m) := by
  obtain ⟨v1, v2, v3, _⟩ := opA_v π
  refine cl_Mo_openNow (b_Mo_openNow ⟨_, _, c_Mo_openAt h hl, fun z => ⟨_, _, c_Mo_openAt h hl, by omega, ?_⟩, fun z => ?_⟩)
  · rw [opA_p π h.2 z]
  · rw [v3.mp (by omega)]
theorem c_Mo_isCompared {d : Nat} {m : Mm} {π : List Int} (h : PIL m π) (hl : π.length ≤ 160) : Cl (d + 1) k_Mo_isCompared [(18, 400)] m (some (0, if cmpd π = true then 1 else 0), m) := by
  have lp : ∀ π : List Int, π.length ≤ 160 → pil m π → Ev (d + 1) K_Mo_isCompared 2 5 [(18, 400), (0, (π.length : Nat) - 1)] [] m (some (0, if cmpd π = true then 1 else 0), m) := by
    intro π
    induction π with
    | nil => intro _ _; exact b_Mo_isCompared_5 ⟨fun _ => b_Mo_isCompared_16 ⟨fun _ => rfl, fun z => absurd (by decide) z⟩, fun z => absurd (by decide) z⟩
    | cons x r ih =>
      intro hl hp
      rw [List.length_cons] at hl ⊢
      rw [show (((r.length + 1 : Nat) : Int) - 1) = (r.length : Nat) by omega]
      unfold cmpd
      refine b_Mo_isCompared_5 ⟨fun z => by omega, fun _ => ⟨by omega, ?_⟩⟩
      rw [hp.1]
      refine ⟨_, _, c_Mo_rank, fun z => ?_, fun z => ?_⟩
      · rw [if_pos z]
        refine b_Mo_isCompared_16 ⟨fun z2 => by omega, fun _ => ⟨by omega, ?_⟩⟩
        rw [hp.1]
        refine ⟨_, _, c_Mo_rank, fun z2 => ?_, fun z2 => ?_⟩
        · rw [if_neg (by rw [decide_eq_true_eq]; exact z2)]
        · rw [if_pos (by rw [decide_eq_true_eq]; exact Classical.not_not.mp z2)]
      · rw [if_neg z, w32n (by omega) (by omega)]
        exact ih (by omega) hp.2
  refine cl_Mo_isCompared (b_Mo_isCompared ?_)
  rw [h.1, w32n (by omega) (by omega)]
  exact lp π hl h.2
theorem c_Mo_isAskAhead {d : Nat} {m : Mm} {π : List Int} (h : PIL m π) (hl : π.length ≤ 160) : Cl (d + 2) k_Mo_isAskAhead [(18, 400)] m (some (0, if askA π = true then 1 else 0), m) := by
  refine cl_Mo_isAskAhead (b_Mo_isAskAhead ⟨_, _, c_Mo_openNow h hl, fun z => ?_, fun z => ?_⟩)
  · cases π with
    | nil => rfl
    | cons x r =>
      have ea : askA (x :: r) = (decide (opW (x :: r) = 42) && decide (40 ≤ x ∨ (1 ≤ rk x ∧ rk x ≤ 3))) := rfl
      rw [ea, if_neg (by rw [decide_eq_false z, Bool.false_and]; decide)]
  · rw [Classical.not_not] at z
    cases π with
    | nil => exact absurd z (by decide)
    | cons x r =>
      obtain ⟨p1, p2, p3⟩ := h
      rw [List.length_cons] at p1 hl
      have e1 : w32 (m 400 17 - 1) = (r.length : Nat) := by rw [p1, w32n (by omega) (by omega)]; omega
      have ea : askA (x :: r) = (decide (opW (x :: r) = 42) && decide (40 ≤ x ∨ (1 ≤ rk x ∧ rk x ≤ 3))) := rfl
      rw [ea, e1, p2, decide_eq_true z, Bool.true_and]
      refine ⟨by omega, fun z2 => ?_, fun z2 => ⟨by omega, _, _, c_Mo_rank, _, _, c_Mo_isIn, fun z3 => ?_, fun z3 => ?_⟩⟩
      · rw [if_pos (by rw [decide_eq_true_eq]; exact Or.inl z2)]
      · rw [ite_z] at z3
        rw [if_neg (by rw [decide_eq_true_eq]; rintro (y | y); exact z2 y; exact z3 y)]
      · rw [ite_z1] at z3
        rw [if_pos (by rw [decide_eq_true_eq]; exact Or.inr z3)]
/-! words of letters -/
theorem pkw_snoc {l : List Int} {b : Int} : pkw (l ++ [b]) = pk1 b (pkw l) := by
  unfold pkw
  rw [List.reverse_append]
  rfl
theorem pkw_lt {l : List Int} (h : ∀ b ∈ l, 0 ≤ b ∧ b < 256) (hl : l.length ≤ 5) : pkw l < 2 ^ 40 := by
  have := pkr_lt l.reverse (fun b hb => h b (List.mem_reverse.mp hb)) (by rw [List.length_reverse]; omega)
  rw [List.length_reverse] at this
  have h2 : 256 ^ l.length ≤ 256 ^ 5 := Nat.pow_le_pow_right (by omega) hl
  have h3 : (256 : Nat) ^ 5 = 2 ^ 40 := by decide
  unfold pkw
  omega
theorem pkw_on {l : List Int} {b : Int} (h : ∀ b ∈ l, 0 ≤ b ∧ b < 256) (hl : l.length ≤ 5) (hb : 0 ≤ b ∧ b < 256) : lro (lsl (pkw l : Nat) 8) b = (pkw (l ++ [b]) : Nat) := by
  have h1 := pkw_lt h hl
  have h40 : (2 : Nat) ^ 40 = 1099511627776 := rfl
  have h48 : (2 : Nat) ^ 48 = 281474976710656 := rfl
  have h60 : (2 : Nat) ^ 60 = 1152921504606846976 := rfl
  rw [pkw_snoc]
  exact (pk1_n hb (w := pkw l) (by omega)).2.2 (by apply Nat.div_eq_of_lt; omega)
abbrev byt (l : List Int) : Prop := ∀ b ∈ l, 0 ≤ b ∧ b < 256
theorem c_Mo_w2 {d : Nat} {m : Mm} {a b : Int} (h : byt [a, b]) : Cl d k_Mo_w2 [(0, a), (0, b)] m (some (1, (pkw [a, b] : Nat)), m) := by
  have ha := h a (by simp)
  have hb := h b (by simp)
  have e := pkw_on (l := [a]) (b := b) (fun c hc => h c (by simp at hc; simp [hc])) (by simp) hb
  have e1 : ((pkw [a] : Nat) : Int) = a := by
    show ((pk1 a 0 : Nat) : Int) = a
    unfold pk1
    rw [if_neg (by decide)]
    omega
  rw [e1] at e
  refine cl_Mo_w2 (b_Mo_w2 ?_)
  rw [e]
  rfl
theorem c_Mo_w3 {d : Nat} {m : Mm} {a b c : Int} (h : byt [a, b, c]) : Cl (d + 1) k_Mo_w3 [(0, a), (0, b), (0, c)] m (some (1, (pkw [a, b, c] : Nat)), m) := by
  refine cl_Mo_w3 (b_Mo_w3 ⟨_, _, c_Mo_w2 (fun x hx => h x (by simp at hx; rcases hx with rfl | rfl <;> simp)), ?_⟩)
  rw [pkw_on (l := [a, b]) (fun x hx => h x (by simp at hx; rcases hx with rfl | rfl <;> simp)) (by simp) (h c (by simp))]
  rfl
theorem c_Mo_w4 {d : Nat} {m : Mm} {a b c e : Int} (h : byt [a, b, c, e]) : Cl (d + 2) k_Mo_w4 [(0, a), (0, b), (0, c), (0, e)] m (some (1, (pkw [a, b, c, e] : Nat)), m) := by
  refine cl_Mo_w4 (b_Mo_w4 ⟨_, _, c_Mo_w3 (fun x hx => h x (by simp at hx; rcases hx with rfl | rfl | rfl <;> simp)), ?_⟩)
  rw [pkw_on (l := [a, b, c]) (fun x hx => h x (by simp at hx; rcases hx with rfl | rfl | rfl <;> simp)) (by simp) (h e (by simp))]
  rfl
theorem c_Mo_w5 {d : Nat} {m : Mm} {a b c e f : Int} (h : byt [a, b, c, e, f]) : Cl (d + 3) k_Mo_w5 [(0, a), (0, b), (0, c), (0, e), (0, f)] m (some (1, (pkw [a, b, c, e, f] : Nat)), m) := by
  refine cl_Mo_w5 (b_Mo_w5 ⟨_, _, c_Mo_w4 (fun x hx => h x (by simp at hx; rcases hx with rfl | rfl | rfl | rfl <;> simp)), ?_⟩)
  rw [pkw_on (l := [a, b, c, e]) (fun x hx => h x (by simp at hx; rcases hx with rfl | rfl | rfl | rfl <;> simp)) (by simp) (h f (by simp))]
  rfl
theorem c_Mo_w6 {d : Nat} {m : Mm} {a b c e f g : Int} (h : byt [a, b, c, e, f, g]) : Cl (d + 4) k_Mo_w6 [(0, a), (0, b), (0, c), (0, e), (0, f), (0, g)] m (some (1, (pkw [a, b, c, e, f, g] : Nat)), m) := by
  refine cl_Mo_w6 (b_Mo_w6 ⟨_, _, c_Mo_w5 (fun x hx => h x (by simp at hx; rcases hx with rfl | rfl | rfl | rfl | rfl <;> simp)), ?_⟩)
  rw [pkw_on (l := [a, b, c, e, f]) (fun x hx => h x (by simp at hx; rcases hx with rfl | rfl | rfl | rfl | rfl <;> simp)) (by simp) (h g (by simp))]
  rfl
/-- the name at hand -/
theorem c_Mo_nameOf {d L q : Nat} {B : Int → Int} {m : Mm} (hT : TPE B L) (h : MTk B L m q) : Cl (d + 5) k_Mo_nameOf [(18, 400)] m (some (0, if 24 ≤ tkT B L q ∧ tkT B L q ≤ 30 then tkT B L q - 24 else -1), m) := by
  obtain ⟨a1, a2, a3, a4, a5, a6, a7, a8⟩ := h
  by_cases h2 : tkM B L q = 2
  · have e : ∀ (i : Nat) (w : List Int), i < 27 → WDS[i]? = some w → (lcm (m 400 12) (pkw w : Nat) = 0 ↔ tkT B L q = 16 + (i : Int)) := by
      intro i w hi hw
      rw [lcm_0, a8 h2, tk_w (q := q) hT.2 hi hw]
      constructor
      · intro z; exact ⟨h2, by omega⟩
      · intro z; rw [z.2]
    have e8 := e 8 _ (by decide) rfl
    have e9 := e 9 _ (by decide) rfl
    have e10 := e 10 _ (by decide) rfl
    have e11 := e 11 _ (by decide) rfl
    have e12 := e 12 _ (by decide) rfl
    have e13 := e 13 _ (by decide) rfl
    have e14 := e 14 _ (by decide) rfl
    refine cl_Mo_nameOf (b_Mo_nameOf ⟨fun _ => ⟨_, _, c_Mo_w4 (by decide), fun z1 => ⟨_, _, c_Mo_w4 (by decide), fun z2 => ⟨_, _, c_Mo_w6 (by decide), fun z3 => ⟨_, _, c_Mo_w3 (by decide), fun z4 => ⟨_, _, c_Mo_w6 (by decide), fun z5 => ⟨_, _, c_Mo_w3 (by decide), fun z6 => ⟨_, _, c_Mo_w3 (by decide), fun z7 => ?_, fun z7 => ?_⟩, fun z6 => ?_⟩, fun z5 => ?_⟩, fun z4 => ?_⟩, fun z3 => ?_⟩, fun z2 => ?_⟩, fun z1 => ?_⟩, fun z => absurd (by rw [a4]; exact h2) z⟩)
    · rw [e8] at z1
      rw [e9] at z2
      rw [e10] at z3
      rw [e11] at z4
      rw [e12] at z5
      rw [e13] at z6
      rw [e14] at z7
      rw [if_neg (by omega)]
    · rw [e14, Classical.not_not] at z7
      rw [if_pos (by omega), z7]; rfl
    · rw [e13, Classical.not_not] at z6
      rw [if_pos (by omega), z6]; rfl
    · rw [e12, Classical.not_not] at z5
      rw [if_pos (by omega), z5]; rfl
    · rw [e11, Classical.not_not] at z4
      rw [if_pos (by omega), z4]; rfl
    · rw [e10, Classical.not_not] at z3
      rw [if_pos (by omega), z3]; rfl
    · rw [e9, Classical.not_not] at z2
      rw [if_pos (by omega), z2]; rfl
    · rw [e8, Classical.not_not] at z1
      rw [if_pos (by omega), z1]; rfl
  · have hn : ¬ (24 ≤ tkT B L q ∧ tkT B L q ≤ 30) := by
      rcases tk_cases (q := q) hT.2 with ⟨h, a, b⟩ | ⟨h, h1, a, b⟩ | ⟨h, h1, a, b⟩ | ⟨h, h1, h2, a, b⟩
      · omega
      · exact absurd b h2
      · omega
      · have := (sg_rng (L := L) (hT.2 q h)).1
        omega
    rw [if_neg hn]
    exact cl_Mo_nameOf (b_Mo_nameOf ⟨fun z => absurd (by rw [← a4]; exact z) h2, fun _ => rfl⟩)
