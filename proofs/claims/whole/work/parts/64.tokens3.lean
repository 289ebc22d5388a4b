/-! TOKENS: the class's and the model's are one -/
def sgP : List (Int × Int) := [(3, 60), (4, 62), (5, 61), (6, 35), (7, 43), (8, 45), (9, 42), (10, 47), (11, 40), (12, 41), (13, 59), (14, 4), (15, 5)]
theorem sgP_dec : ∀ b : Fin 256, ∀ x ∈ sgP, ((if 0 ≤ idxOf SIGNSL (b.val : Int) 0 then 3 + idxOf SIGNSL (b.val : Int) 0 else 1) = x.1 ↔ (if isg (b.val : Int) = true then (b.val : Int) else 3) = x.2) := by decide +kernel
theorem sgP_in : ∀ x ∈ sgP, 3 ≤ x.1 ∧ x.1 ≤ 15 ∧ 4 ≤ x.2 ∧ (x.1 = 14 ↔ x.2 = 4) ∧ (x.1 = 15 ↔ x.2 = 5) := by decide +kernel
theorem tk_cases {B : Int → Int} {L q : Nat} (hb : ∀ i : Nat, i < L → 0 ≤ B (i : Nat) ∧ B (i : Nat) < 256) : (L ≤ q ∧ tkT B L q = 0 ∧ tkM B L q = 0) ∨ (q < L ∧ ltB (B (q : Nat)) = true ∧ tkT B L q = tkw (rdL B (L - q) q) ∧ tkM B L q = 2) ∨ (q < L ∧ dgB (B (q : Nat)) = true ∧ tkT B L q = 2 ∧ tkM B L q = 1) ∨ (q < L ∧ ¬ ltB (B (q : Nat)) = true ∧ ¬ dgB (B (q : Nat)) = true ∧ tkT B L q = sgT B L q ∧ tkM B L q = sgM B L q) := by
  unfold tkT tkM
  by_cases h : L ≤ q
  · rw [if_pos h, if_pos h]
    exact Or.inl ⟨h, rfl, rfl⟩
  · rw [if_neg h, if_neg h]
    by_cases h1 : ltB (B (q : Nat)) = true
    · have h2 : ¬ dgB (B (q : Nat)) = true := fun y => by rw [lt_iff] at h1; rw [dg_iff] at y; omega
      rw [if_pos h1, if_neg h2, if_pos h1]
      exact Or.inr (Or.inl ⟨by omega, h1, rfl, rfl⟩)
    · rw [if_neg h1, if_neg h1]
      by_cases h2 : dgB (B (q : Nat)) = true
      · rw [if_pos h2, if_pos h2]
        exact Or.inr (Or.inr (Or.inl ⟨by omega, h2, rfl, rfl⟩))
      · rw [if_neg h2, if_neg h2]
        exact Or.inr (Or.inr (Or.inr ⟨by omega, h1, h2, rfl, rfl⟩))
theorem sg_pair {B : Int → Int} {L q : Nat} (hb : 0 ≤ B (q : Nat) ∧ B (q : Nat) < 256) {x : Int × Int} (hx : x ∈ sgP) : sgT B L q = x.1 ↔ sgM B L q = x.2 := by
  obtain ⟨i1, i2, i3, i4, i5⟩ := sgP_in x hx
  unfold sgT sgM
  by_cases hs : sgB B L q = true
  · rw [if_pos hs, if_pos hs]
    by_cases h6 : B (q : Nat) = 60
    · rw [if_pos h6, if_pos h6]; omega
    · rw [if_neg h6, if_neg h6]; omega
  · rw [if_neg hs, if_neg hs]
    obtain ⟨n, hn⟩ := Int.eq_ofNat_of_zero_le hb.1
    rw [hn]
    have : n < 256 := by omega
    exact sgP_dec ⟨n, this⟩ x hx
theorem sg_rng {B : Int → Int} {L q : Nat} (hb : 0 ≤ B (q : Nat) ∧ B (q : Nat) < 256) : (sgT B L q = 1 ∨ (3 ≤ sgT B L q ∧ sgT B L q ≤ 15)) ∧ 3 ≤ sgM B L q := by
  obtain ⟨q1, q2, q3, q4, q5⟩ := sg_v hb
  unfold sgT sgM
  by_cases hs : sgB B L q = true
  · rw [if_pos hs, if_pos hs]
    split <;> omega
  · rw [if_neg hs, if_neg hs]
    refine ⟨?_, ?_⟩
    · split <;> omega
    · split
      · rename_i z
        unfold isg at z
        rw [decide_eq_true_eq] at z
        omega
      · omega
theorem tk_0 {B : Int → Int} {L q : Nat} (hb : ∀ i : Nat, i < L → 0 ≤ B (i : Nat) ∧ B (i : Nat) < 256) : tkT B L q = 0 ↔ tkM B L q = 0 := by
  rcases tk_cases (q := q) hb with ⟨h, a, b⟩ | ⟨h, h1, a, b⟩ | ⟨h, h1, a, b⟩ | ⟨h, h1, h2, a, b⟩
  · rw [a, b]
  · rw [a, b]
    rcases tkw_v (l := rdL B (L - q) q) with z | ⟨i, z1, z2⟩ <;> omega
  · rw [a, b]; omega
  · obtain ⟨r1, r2⟩ := sg_rng (L := L) (hb q h)
    rw [a, b]; omega
theorem tk_2 {B : Int → Int} {L q : Nat} (hb : ∀ i : Nat, i < L → 0 ≤ B (i : Nat) ∧ B (i : Nat) < 256) : tkT B L q = 2 ↔ tkM B L q = 1 := by
  rcases tk_cases (q := q) hb with ⟨h, a, b⟩ | ⟨h, h1, a, b⟩ | ⟨h, h1, a, b⟩ | ⟨h, h1, h2, a, b⟩
  · rw [a, b]; omega
  · rw [a, b]
    rcases tkw_v (l := rdL B (L - q) q) with z | ⟨i, z1, z2⟩ <;> omega
  · rw [a, b]; omega
  · obtain ⟨r1, r2⟩ := sg_rng (L := L) (hb q h)
    rw [a, b]; omega
theorem tk_s {B : Int → Int} {L q : Nat} (hb : ∀ i : Nat, i < L → 0 ≤ B (i : Nat) ∧ B (i : Nat) < 256) {x : Int × Int} (hx : x ∈ sgP) : tkT B L q = x.1 ↔ tkM B L q = x.2 := by
  obtain ⟨i1, i2, i3, i4, i5⟩ := sgP_in x hx
  rcases tk_cases (q := q) hb with ⟨h, a, b⟩ | ⟨h, h1, a, b⟩ | ⟨h, h1, a, b⟩ | ⟨h, h1, h2, a, b⟩
  · rw [a, b]; omega
  · rw [a, b]
    rcases tkw_v (l := rdL B (L - q) q) with z | ⟨i, z1, z2⟩ <;> omega
  · rw [a, b]; omega
  · rw [a, b]
    exact sg_pair (hb q h) hx
theorem tk_w {B : Int → Int} {L q i : Nat} (hb : ∀ i : Nat, i < L → 0 ≤ B (i : Nat) ∧ B (i : Nat) < 256) {w : List Int} (hi : i < 27) (hw : WDS[i]? = some w) : tkT B L q = 16 + (i : Int) ↔ (tkM B L q = 2 ∧ pkw (rdL B (L - q) q) = pkw w) := by
  rcases tk_cases (q := q) hb with ⟨h, a, b⟩ | ⟨h, h1, a, b⟩ | ⟨h, h1, a, b⟩ | ⟨h, h1, h2, a, b⟩
  · rw [a, b]; omega
  · rw [a, b, tkw_iff hi, hw, pkw_iff (rdL_v (B := B) (L - q) q).2.2 (List.mem_of_getElem? hw)]
    constructor
    · intro z
      exact ⟨rfl, (Option.some.inj z).symm⟩
    · intro z
      rw [z.2]
  · rw [a, b]; omega
  · obtain ⟨r1, r2⟩ := sg_rng (L := L) (hb q h)
    rw [a, b]; omega
theorem tk_v {B : Int → Int} {L q : Nat} : tkV B L q = min (dgM B (L - q) q 0) 10000 ∧ 0 ≤ dgM B (L - q) q 0 := by
  have := dg_eq (B := B) (L - q) q 0 (by omega)
  rw [show min (0 : Int) 10000 = 0 from rfl] at this
  exact this
theorem tk_e {B : Int → Int} {L q : Nat} (hq : q ≤ L) : tkE B L q ≤ L ∧ q ≤ tkE B L q ∧ (tkT B L q ≠ 0 → q < tkE B L q) := by
  unfold tkE tkT
  by_cases h : L ≤ q
  · rw [if_pos h, if_pos h]
    exact ⟨hq, Nat.le_refl _, fun z => absurd rfl z⟩
  · rw [if_neg h, if_neg h]
    obtain ⟨f, hf⟩ : ∃ f, L - q = f + 1 := ⟨L - q - 1, by omega⟩
    by_cases h1 : ltB (B (q : Nat)) = true
    · rw [if_pos h1, hf]
      unfold skW
      rw [if_pos h1]
      obtain ⟨s1, s2, _⟩ := skW_v (P := ltB) (B := B) f (q + 1)
      exact ⟨by omega, by omega, fun _ => by omega⟩
    · rw [if_neg h1, if_neg h1]
      by_cases h2 : dgB (B (q : Nat)) = true
      · rw [if_pos h2, hf]
        unfold skW
        rw [if_pos h2]
        obtain ⟨s1, s2, _⟩ := skW_v (P := dgB) (B := B) f (q + 1)
        exact ⟨by omega, by omega, fun _ => by omega⟩
      · rw [if_neg h2]
        unfold sgE
        split
        · rename_i hs
          unfold sgB at hs
          rw [decide_eq_true_eq] at hs
          exact ⟨by omega, by omega, fun _ => by omega⟩
        · exact ⟨by omega, by omega, fun _ => by omega⟩
/-- the next one's place -/
def nxQ (B : Int → Int) (L q : Nat) : Nat := tkQ B L (tkE B L q)
theorem nxQ_v {B : Int → Int} {L q : Nat} (hq : q ≤ L) : nxQ B L q ≤ L ∧ q ≤ nxQ B L q ∧ (tkT B L q ≠ 0 → q < nxQ B L q) := by
  obtain ⟨e1, e2, e3⟩ := tk_e (B := B) hq
  obtain ⟨s1, s2, _⟩ := skW_v (P := blB) (B := B) (L - tkE B L q) (tkE B L q)
  unfold nxQ tkQ
  exact ⟨by omega, by omega, fun z => by have := e3 z; omega⟩
/-- the class stands at the token of place q; so does the model -/
def TPE (B : Int → Int) (L : Nat) : Prop := L ≤ 300 ∧ ∀ i : Nat, i < L → 0 ≤ B (i : Nat) ∧ B (i : Nat) < 256
def CTk (B : Int → Int) (L : Nat) (m : Mm) (q : Nat) : Prop := m 80 1 = (L : Nat) ∧ (∀ i : Nat, i < L → m 81 (i : Nat) = B (i : Nat)) ∧ q ≤ L ∧ m 80 6 = tkT B L q ∧ m 80 7 = (q : Nat) ∧ m 80 9 = (tkE B L q : Nat) ∧ (tkT B L q = 2 → m 80 8 = tkV B L q)
def MTk (B : Int → Int) (L : Nat) (m : Mm) (q : Nat) : Prop := m 400 5 = (L : Nat) ∧ (∀ i : Nat, i < L → m 405 (i : Nat) = B (i : Nat)) ∧ q ≤ L ∧ m 400 10 = tkM B L q ∧ m 400 9 = (q : Nat) ∧ m 400 8 = (tkE B L q : Nat) ∧ (tkM B L q = 1 → m 400 11 = dgM B (L - q) q 0) ∧ (tkM B L q = 2 → m 400 12 = (pkw (rdL B (L - q) q) : Nat))
theorem CTk_con {B : Int → Int} {L q : Nat} {m m' : Mm} (h : CTk B L m q) (h0 : ∀ b, b = 1 ∨ (6 ≤ b ∧ b ≤ 9) → m' 80 b = m 80 b) (h1 : ∀ b, m' 81 b = m 81 b) : CTk B L m' q := by
  obtain ⟨a1, a2, a3, a4, a5, a6, a7⟩ := h
  exact ⟨by rw [h0 _ (by omega)]; exact a1, fun i hi => by rw [h1]; exact a2 i hi, a3, by rw [h0 _ (by omega)]; exact a4, by rw [h0 _ (by omega)]; exact a5, by rw [h0 _ (by omega)]; exact a6, fun z => by rw [h0 _ (by omega)]; exact a7 z⟩
theorem MTk_con {B : Int → Int} {L q : Nat} {m m' : Mm} (h : MTk B L m q) (h0 : ∀ b, b = 5 ∨ (8 ≤ b ∧ b ≤ 12) → m' 400 b = m 400 b) (h1 : ∀ b, m' 405 b = m 405 b) : MTk B L m' q := by
  obtain ⟨a1, a2, a3, a4, a5, a6, a7, a8⟩ := h
  exact ⟨by rw [h0 _ (by omega)]; exact a1, fun i hi => by rw [h1]; exact a2 i hi, a3, by rw [h0 _ (by omega)]; exact a4, by rw [h0 _ (by omega)]; exact a5, by rw [h0 _ (by omega)]; exact a6, fun z => by rw [h0 _ (by omega)]; exact a7 z, fun z => by rw [h0 _ (by omega)]; exact a8 z⟩
theorem adv_c {d L q : Nat} {B : Int → Int} {m : Mm} (hT : TPE B L) (h : CTk B L m q) : ∃ m', Cl (d + 2) k_Rd_advance [(15, 80)] m (none, m') ∧ CTk B L m' (nxQ B L q) ∧ (∀ a b, ¬ (a = 80 ∧ 6 ≤ b ∧ b ≤ 9) → m' a b = m a b) := by
  obtain ⟨a1, a2, a3, a4, a5, a6, a7⟩ := h
  obtain ⟨e1, e2, e3⟩ := tk_e (B := B) a3
  obtain ⟨m', c1, c2, c3, c4, c5, c6⟩ := c_Rd_advance (d := d) hT.1 e1 a1 a6 a2 hT.2
  exact ⟨m', c1, ⟨by rw [c6 _ _ (by omega)]; exact a1, fun i hi => by rw [c6 _ _ (by omega)]; exact a2 i hi, (nxQ_v a3).1, c2, c3, c4, c5⟩, c6⟩
theorem adv_m {d L q : Nat} {B : Int → Int} {m : Mm} (hT : TPE B L) (h : MTk B L m q) : ∃ m', Cl (d + 1) k_Mo_nextToken [(18, 400)] m (none, m') ∧ MTk B L m' (nxQ B L q) ∧ (∀ a b, ¬ (a = 400 ∧ 8 ≤ b ∧ b ≤ 12) → m' a b = m a b) := by
  obtain ⟨a1, a2, a3, a4, a5, a6, a7, a8⟩ := h
  obtain ⟨e1, e2, e3⟩ := tk_e (B := B) a3
  obtain ⟨m', c1, c2, c3, c4, c5, c6, c7⟩ := c_Mo_nextToken (d := d) hT.1 e1 a1 a6 a2 hT.2
  exact ⟨m', c1, ⟨by rw [c7 _ _ (by omega)]; exact a1, fun i hi => by rw [c7 _ _ (by omega)]; exact a2 i hi, (nxQ_v a3).1, c2, c3, c4, c5, c6⟩, c7⟩
/-- is it the word: by the model -/
theorem isW_m {d L q i : Nat} {B : Int → Int} {m : Mm} {w : List Int} (hT : TPE B L) (h : MTk B L m q) (hi : i < 27) (hw : WDS[i]? = some w) : Cl d k_Mo_isWord [(18, 400), (1, (pkw w : Nat))] m (some (0, if tkT B L q = 16 + (i : Int) then 1 else 0), m) := by
  obtain ⟨a1, a2, a3, a4, a5, a6, a7, a8⟩ := h
  have e := tk_w (q := q) hT.2 hi hw
  refine cl_Mo_isWord (b_Mo_isWord ⟨fun z => ?_, fun z => ⟨fun z2 => ?_, fun z2 => ?_⟩⟩)
  · rw [if_neg (fun y => z (by rw [a4]; exact (e.mp y).1))]
  · rw [if_neg (fun y => z2 (by
      obtain ⟨y1, y2⟩ := e.mp y
      rw [a8 y1, lcm_0, y2]))]
  · rw [Classical.not_not] at z z2
    rw [a4] at z
    rw [a8 z, lcm_0] at z2
    rw [if_pos (e.mpr ⟨z, by omega⟩)]
