/-! TOKENS, both sides -/
theorem up_dup {m : Mm} {o k a b : Int} : up (up m o k a) o k b = up m o k b := by
  funext x y
  unfold up
  split <;> rfl
theorem up_own {m : Mm} {o k v : Int} (h : m o k = v) : up m o k v = m := by
  funext x y
  unfold up
  split
  · rename_i q
    obtain ⟨rfl, rfl⟩ := q
    exact h.symm
  · rfl
theorem c_Rd_isBlank {d : Nat} {m : Mm} {x : Int} : Cl d k_Rd_isBlank [(0, x)] m (some (0, if blB x = true then 1 else 0), m) := by
  have e : blB x = true ↔ (x = 32 ∨ x = 10) := decide_eq_true_iff
  refine cl_Rd_isBlank (b_Rd_isBlank ⟨fun z => ?_, fun z => ⟨fun z2 => ?_, fun z2 => ?_⟩⟩)
  · rw [if_pos (e.mpr (Or.inl z))]
  · rw [if_neg (fun q => by rcases e.mp q with q | q <;> omega)]
  · rw [if_pos (e.mpr (Or.inr (by omega)))]
theorem lt_iff {x : Int} : ltB x = true ↔ ((97 ≤ x ∧ x ≤ 122) ∨ (65 ≤ x ∧ x ≤ 90)) := decide_eq_true_iff
theorem dg_iff {x : Int} : dgB x = true ↔ (48 ≤ x ∧ x ≤ 57) := decide_eq_true_iff
theorem c_Rd_isLetter {d : Nat} {m : Mm} {x : Int} : Cl d k_Rd_isLetter [(0, x)] m (some (0, if ltB x = true then 1 else 0), m) := by
  refine cl_Rd_isLetter (b_Rd_isLetter ⟨fun z => ⟨fun z2 => ?_, fun z2 => ⟨fun z3 => ?_, fun z3 => ?_⟩⟩, fun z => ⟨fun z2 => ?_, fun z2 => ⟨fun z3 => ?_, fun z3 => ⟨fun z4 => ?_, fun z4 => ?_⟩⟩⟩⟩)
  · rw [if_neg (fun q => by rw [lt_iff] at q; omega)]
  · rw [if_neg (fun q => by rw [lt_iff] at q; omega)]
  · rw [if_pos (by rw [lt_iff]; omega)]
  · rw [if_pos (by rw [lt_iff]; omega)]
  · omega
  · rw [if_neg (fun q => by rw [lt_iff] at q; omega)]
  · omega
theorem c_Rd_isDigit {d : Nat} {m : Mm} {x : Int} : Cl d k_Rd_isDigit [(0, x)] m (some (0, if dgB x = true then 1 else 0), m) := by
  refine cl_Rd_isDigit (b_Rd_isDigit ⟨fun z => ?_, fun z => ⟨fun z3 => ?_, fun z3 => ?_⟩⟩)
  · rw [if_neg (fun q => by rw [dg_iff] at q; omega)]
  · rw [if_neg (fun q => by rw [dg_iff] at q; omega)]
  · rw [if_pos (by rw [dg_iff]; omega)]
theorem c_Mo_isLetterByte {d : Nat} {m : Mm} {x : Int} : Cl d k_Mo_isLetterByte [(0, x)] m (some (0, if ltB x = true then 1 else 0), m) := by
  refine cl_Mo_isLetterByte (b_Mo_isLetterByte ⟨fun z => ⟨fun z2 => ?_, fun z2 => ⟨fun z3 => ?_, fun z3 => ?_⟩⟩, fun z => ⟨fun z2 => ?_, fun z2 => ⟨fun z3 => ?_, fun z3 => ⟨fun z4 => ?_, fun z4 => ?_⟩⟩⟩⟩)
  · rw [if_neg (fun q => by rw [lt_iff] at q; omega)]
  · rw [if_neg (fun q => by rw [lt_iff] at q; omega)]
  · rw [if_pos (by rw [lt_iff]; omega)]
  · rw [if_pos (by rw [lt_iff]; omega)]
  · omega
  · rw [if_neg (fun q => by rw [lt_iff] at q; omega)]
  · omega
theorem c_Mo_isFigure {d : Nat} {m : Mm} {x : Int} : Cl d k_Mo_isFigure [(0, x)] m (some (0, if dgB x = true then 1 else 0), m) := by
  refine cl_Mo_isFigure (b_Mo_isFigure ⟨fun z => ?_, fun z => ⟨fun z3 => ?_, fun z3 => ?_⟩⟩)
  · rw [if_neg (fun q => by rw [dg_iff] at q; omega)]
  · rw [if_neg (fun q => by rw [dg_iff] at q; omega)]
  · rw [if_pos (by rw [dg_iff]; omega)]
theorem c_Mo_byteAt {d : Nat} {m : Mm} {L p : Nat} (hL : m 400 5 = (L : Nat)) (h3 : L ≤ 300) : Cl d k_Mo_byteAt [(18, 400), (0, (p : Nat))] m (some (0, if p < L then m 405 (p : Nat) else -1), m) := by
  refine cl_Mo_byteAt (b_Mo_byteAt ⟨fun z => ?_, fun z => ⟨by omega, ?_⟩⟩)
  · rw [if_neg (by omega)]
  · rw [if_pos (by omega)]
/-- the class's loops -/
theorem rd_bl {d L : Nat} {B : Int → Int} {r : Option Vv × Mm} (h3 : L ≤ 300) : ∀ (f p : Nat) (m : Mm), p + f = L → m 80 1 = (L : Nat) → m 80 9 = (p : Nat) → (∀ i : Nat, i < L → m 81 (i : Nat) = B (i : Nat)) → Ev (d + 1) K_Rd_advance 3 19 [(15, 80)] [] (up m 80 9 (skW blB B f p : Nat)) r → Ev (d + 1) K_Rd_advance 3 0 [(15, 80)] [] m r := by
  intro f
  induction f with
  | zero =>
    intro p m hp h1 h9 hB h
    have e : up m 80 9 (skW blB B 0 p : Nat) = m := up_own h9
    rw [e] at h
    exact b_Rd_advance ⟨fun _ => h, fun z => absurd (by omega) z⟩
  | succ f ih =>
    intro p m hp h1 h9 hB h
    unfold skW at h
    have hc := c_Rd_isBlank (d := d) (m := m) (x := m 81 (m 80 9))
    rw [h9, hB p (by omega)] at hc
    refine b_Rd_advance ⟨fun z => by omega, fun _ => ⟨by omega, ?_⟩⟩
    rw [h9, hB p (by omega)]
    refine ⟨_, _, hc, fun z => ?_, fun z => ?_⟩
    · rw [ite_z] at z
      rw [if_neg z, up_own h9] at h
      exact h
    · rw [ite_z1] at z
      rw [if_pos z] at h
      rintro m2 rfl
      rw [h9, w32s (by omega)]
      exact ih (p + 1) _ (by omega) (by rw [up_nk (by omega)]; exact h1) up_eq (fun i hi => by rw [up_ne (by omega)]; exact hB i hi) (by rw [up_dup]; exact h)
theorem rd_wd {d L : Nat} {B : Int → Int} {r : Option Vv × Mm} {q : Nat} (h3 : L ≤ 300) : ∀ (f p : Nat) (m : Mm), p + f = L → m 80 1 = (L : Nat) → m 80 9 = (p : Nat) → m 80 7 = (q : Nat) → q ≤ p → (∀ i : Nat, i < L → m 81 (i : Nat) = B (i : Nat)) → Ev (d + 1) K_Rd_wordRead 0 31 [(15, 80), (0, ((skW ltB B f p : Nat) : Int) - q), (0, 16), (0, 0), (0, 0), (9, 0)] [] (up m 80 9 (skW ltB B f p : Nat)) r → Ev (d + 1) K_Rd_wordRead 0 0 [(15, 80), (9, 0), (9, 0), (9, 0), (9, 0), (9, 0)] [] m r := by
  intro f
  induction f with
  | zero =>
    intro p m hp h1 h9 h7 hq hB h
    have e : up m 80 9 (skW ltB B 0 p : Nat) = m := up_own h9
    have e2 : skW ltB B 0 p = p := rfl
    rw [e, e2] at h
    refine b_Rd_wordRead ⟨fun _ => ?_, fun z => absurd (by omega) z⟩
    rw [h9, h7, w32n (by omega) (by omega)]
    exact h
  | succ f ih =>
    intro p m hp h1 h9 h7 hq hB h
    unfold skW at h
    have hc := c_Rd_isLetter (d := d) (m := m) (x := m 81 (m 80 9))
    rw [h9, hB p (by omega)] at hc
    refine b_Rd_wordRead ⟨fun z => by omega, fun _ => ⟨by omega, ?_⟩⟩
    rw [h9, hB p (by omega)]
    refine ⟨_, _, hc, fun z => ?_, fun z => ?_⟩
    · rw [ite_z] at z
      rw [if_neg z, up_own h9] at h
      rw [h9, h7, w32n (by omega) (by omega)]
      exact h
    · rw [ite_z1] at z
      rw [if_pos z] at h
      rintro m2 rfl
      rw [h9, w32s (by omega)]
      exact ih (p + 1) _ (by omega) (by rw [up_nk (by omega)]; exact h1) up_eq (by rw [up_nk (by omega)]; exact h7) (by omega) (fun i hi => by rw [up_ne (by omega)]; exact hB i hi) (by rw [up_dup]; exact h)
theorem rd_wl {d L q : Nat} {m : Mm} {l : List Int} (h7 : m 80 7 = (q : Nat)) (h3 : q + l.length ≤ 300) (hl : ∀ j : Nat, j < l.length → m 81 ((q + j : Nat) : Int) = l.getD j 0) : ∀ (cs : List Int) (i : Nat), WORDSL.drop i = cs → i + cs.length = 125 → ∀ (k j : Int) (u : Vv), -1 ≤ j → j ≤ l.length → 0 ≤ k → k ≤ 16 + i → Ev (d + 1) K_Rd_wordRead 0 31 [(15, 80), (0, (l.length : Nat)), (0, k), (0, j), (0, (i : Nat)), u] [] m (some (0, wdl l cs k j), m) := by
  intro cs
  induction cs with
  | nil =>
    intro i hi hc k j u j1 j2 k1 k2
    rw [List.length_nil] at hc
    exact b_Rd_wordRead_31 ⟨fun _ => rfl, fun z => absurd (by omega) z⟩
  | cons c cs ih =>
    intro i hi hc k j u j1 j2 k1 k2
    rw [List.length_cons] at hc
    have ht : WORDSL.drop (i + 1) = cs := by rw [← List.tail_drop, hi]; rfl
    have hw : wchar (i : Nat) = c := by
      unfold wchar
      rw [Int.toNat_natCast, List.getD_eq_getElem?_getD]
      have : WORDSL[i]? = some c := by rw [← List.head?_drop, hi]; rfl
      rw [this]
      rfl
    have go := ih (i + 1) ht (by omega)
    have ei : w32 ((i : Nat) + 1) = ((i + 1 : Nat) : Int) := w32s (by omega)
    refine b_Rd_wordRead_31 ⟨fun z => by omega, fun _ => ⟨by omega, ?_⟩⟩
    rw [hw, ei]
    unfold wdl
    refine ⟨fun z => ?_, fun z => ?_⟩
    · rw [if_neg z]
      refine ⟨fun z2 => ?_, fun z2 => ⟨fun z3 => ?_, fun z3 => ?_⟩⟩
      · rw [if_pos z2]
        exact go k j _ j1 j2 k1 (by omega)
      · rw [if_neg z2, if_pos z3]
        exact go k (-1) _ (by omega) (by omega) k1 (by omega)
      · rw [if_neg z2, if_neg z3, h7]
        obtain ⟨a, rfl⟩ := Int.eq_ofNat_of_zero_le (show 0 ≤ j by omega)
        have ea : w32 ((q : Nat) + (a : Nat)) = ((q + a : Nat) : Int) := by rw [w32n (by omega) (by omega)]; omega
        rw [ea, hl a (by omega), Int.toNat_natCast]
        refine ⟨by omega, fun z4 => ?_, fun z4 => ?_⟩
        · rw [if_neg z4]
          exact go k (-1) _ (by omega) (by omega) k1 (by omega)
        · rw [Classical.not_not] at z4
          rw [if_pos z4, w32n (by omega) (by omega)]
          exact go k _ _ (by omega) (by omega) k1 (by omega)
    · rw [Classical.not_not] at z
      rw [if_pos z]
      refine ⟨fun z2 => ?_, fun z2 => ?_⟩
      · rw [if_neg z2, w32n (by omega) (by omega)]
        exact go _ 0 _ (by omega) (by omega) (by omega) (by omega)
      · rw [Classical.not_not] at z2
        rw [if_pos z2]
theorem c_Rd_wordRead {d L q : Nat} {B : Int → Int} {m : Mm} (h3 : L ≤ 300) (hq : q ≤ L) (h1 : m 80 1 = (L : Nat)) (h9 : m 80 9 = (q : Nat)) (h7 : m 80 7 = (q : Nat)) (hB : ∀ i : Nat, i < L → m 81 (i : Nat) = B (i : Nat)) : Cl (d + 1) k_Rd_wordRead [(15, 80)] m (some (0, tkw (rdL B (L - q) q)), up m 80 9 (skW ltB B (L - q) q : Nat)) := by
  obtain ⟨l1, l2, l3⟩ := rdL_v (B := B) (L - q) q
  obtain ⟨s1, s2, s3, s4⟩ := skW_v (P := ltB) (B := B) (L - q) q
  refine cl_Rd_wordRead (rd_wd h3 (L - q) q m (by omega) h1 h9 h7 (Nat.le_refl _) hB ?_)
  have := rd_wl (d := d) (L := L) (q := q) (m := up m 80 9 (skW ltB B (L - q) q : Nat)) (l := rdL B (L - q) q) (by rw [up_nk (by omega)]; exact h7) (by omega) (fun j hj => by rw [up_ne (by omega), hB _ (by omega), l2 j hj]) WORDSL 0 List.drop_zero (by decide +kernel) 16 0 (9, 0) (by omega) (by omega) (by omega) (by omega)
  rw [← wFl_WDS, wdl_fd WDS 16 (by decide +kernel)] at this
  rw [show ((skW ltB B (L - q) q : Nat) : Int) - q = ((rdL B (L - q) q).length : Nat) by omega]
  exact this
theorem rd_dg {d L : Nat} {B : Int → Int} (h3 : L ≤ 300) : ∀ (f p : Nat) (m : Mm) (v : Int), p + f = L → m 80 1 = (L : Nat) → m 80 9 = (p : Nat) → m 80 8 = v → 0 ≤ v → v ≤ 10000 → (∀ i : Nat, i < L → m 81 (i : Nat) = B (i : Nat)) → Ev (d + 1) K_Rd_digitsRead 0 3 [(15, 80)] [] m (some (0, 2), up (up m 80 8 (dgC B f p v)) 80 9 (skW dgB B f p : Nat)) := by
  intro f
  induction f with
  | zero =>
    intro p m v hp h1 h9 h8 v0 v1 hB
    have e : up (up m 80 8 (dgC B 0 p v)) 80 9 (skW dgB B 0 p : Nat) = m := by
      have e1 : up m 80 8 (dgC B 0 p v) = m := up_own h8
      rw [e1]
      exact up_own h9
    rw [e]
    exact b_Rd_digitsRead_3 ⟨fun _ => rfl, fun z => absurd (by omega) z⟩
  | succ f ih =>
    intro p m v hp h1 h9 h8 v0 v1 hB
    unfold skW dgC
    have hc := c_Rd_isDigit (d := d) (m := m) (x := m 81 (m 80 9))
    rw [h9, hB p (by omega)] at hc
    refine b_Rd_digitsRead_3 ⟨fun z => by omega, fun _ => ⟨by omega, ?_⟩⟩
    rw [h9, hB p (by omega)]
    refine ⟨_, _, hc, fun z => ?_, fun z => ⟨by omega, ?_⟩⟩
    · rw [ite_z] at z
      rw [if_neg z, if_neg z, up_own h8, up_own h9]
    · rw [ite_z1] at z
      have hd := dg_iff.mp z
      rw [if_pos z, if_pos z]
      rintro m2 rfl
      rintro m3 rfl
      have e1 : min (w32 (w32 (w32 (m 80 8 * 10) + m 81 (m 80 9)) - 48)) 10000 = min (v * 10 + B (p : Nat) - 48) 10000 := by
        rw [h8, h9, hB p (by omega), w32n (x := v * 10) (by omega) (by omega), w32n (x := v * 10 + B (p : Nat)) (by omega) (by omega), w32n (by omega) (by omega)]
      rw [e1, up_nk (by omega), h9, w32s (by omega)]
      have := ih (p + 1) (up (up m 80 8 (min (v * 10 + B (p : Nat) - 48) 10000)) 80 9 ((p + 1 : Nat) : Int)) (min (v * 10 + B (p : Nat) - 48) 10000) (by omega) (by rw [up_nk (by omega), up_nk (by omega)]; exact h1) up_eq (by rw [up_nk (by omega), up_eq]) (by omega) (by omega) (fun i hi => by rw [up_ne (by omega), up_ne (by omega)]; exact hB i hi)
      have e2 : ∀ (a b c e : Int), up (up (up (up m 80 8 a) 80 9 b) 80 8 c) 80 9 e = up (up m 80 8 c) 80 9 e := by
        intro a b c e
        funext x y
        unfold up
        by_cases hx : x = 80 ∧ y = 9
        · simp only [if_pos hx]
        · by_cases hy : x = 80 ∧ y = 8
          · simp only [if_neg hx, if_pos hy]
          · simp only [if_neg hx, if_neg hy]
      rw [e2] at this
      exact this
/-! signs -/
def sgB (B : Int → Int) (L q : Nat) : Bool := decide ((B (q : Nat) = 60 ∨ B (q : Nat) = 62) ∧ q + 1 < L ∧ B ((q + 1 : Nat) : Int) = 61)
def sgT (B : Int → Int) (L q : Nat) : Int := if sgB B L q = true then (if B (q : Nat) = 60 then 14 else 15) else if 0 ≤ idxOf SIGNSL (B (q : Nat)) 0 then 3 + idxOf SIGNSL (B (q : Nat)) 0 else 1
def sgE (B : Int → Int) (L q : Nat) : Nat := if sgB B L q = true then q + 2 else q + 1
theorem sg_dec : ∀ b : Fin 256, i2c (b.val : Int) = b.val ∧ -1 ≤ idxOf SIGNSL (b.val : Int) 0 ∧ idxOf SIGNSL (b.val : Int) 0 ≤ 10 ∧ (idxOf SIGNSL (b.val : Int) 0 = 0 ↔ b.val = 60) ∧ (idxOf SIGNSL (b.val : Int) 0 = 1 ↔ b.val = 62) := by decide +kernel
theorem sg_v {x : Int} (h : 0 ≤ x ∧ x < 256) : i2c x = x ∧ -1 ≤ idxOf SIGNSL x 0 ∧ idxOf SIGNSL x 0 ≤ 10 ∧ (idxOf SIGNSL x 0 = 0 ↔ x = 60) ∧ (idxOf SIGNSL x 0 = 1 ↔ x = 62) := by
  obtain ⟨n, rfl⟩ := Int.eq_ofNat_of_zero_le h.1
  obtain ⟨q1, q2, q3, q4, q5⟩ := sg_dec ⟨n, by omega⟩
  have q4' : idxOf SIGNSL (n : Int) 0 = 0 ↔ n = 60 := q4
  have q5' : idxOf SIGNSL (n : Int) 0 = 1 ↔ n = 62 := q5
  exact ⟨q1, q2, q3, q4'.trans (by omega), q5'.trans (by omega)⟩
theorem c_Rd_signRead {d L q : Nat} {B : Int → Int} {m : Mm} (h3 : L ≤ 300) (hq : q < L) (h1 : m 80 1 = (L : Nat)) (h9 : m 80 9 = (q : Nat)) (hB : ∀ i : Nat, i < L → m 81 (i : Nat) = B (i : Nat)) (hb : ∀ i : Nat, i < L → 0 ≤ B (i : Nat) ∧ B (i : Nat) < 256) : Cl d k_Rd_signRead [(15, 80)] m (some (0, sgT B L q), up m 80 9 (sgE B L q : Nat)) := by
  obtain ⟨q1, q2, q3, q4, q5⟩ := sg_v (hb q hq)
  have eq1 : w32 ((q : Nat) + 1) = ((q + 1 : Nat) : Int) := w32s (by omega)
  have ew : 0 ≤ idxOf SIGNSL (B (q : Nat)) 0 → w32 (3 + idxOf SIGNSL (B (q : Nat)) 0) = 3 + idxOf SIGNSL (B (q : Nat)) 0 := fun _ => by rw [w32n (by omega) (by omega)]
  -- may an = follow
  have two : (B (q : Nat) = 60 ∨ B (q : Nat) = 62) → ∀ u : Vv, Ev d K_Rd_signRead 0 29 [(15, 80), (0, idxOf SIGNSL (B (q : Nat)) 0), (0, 3 + idxOf SIGNSL (B (q : Nat)) 0), u] [] (up m 80 9 ((q + 1 : Nat) : Int)) (some (0, sgT B L q), up m 80 9 (sgE B L q : Nat)) := by
    intro hs u
    have hi : 0 ≤ idxOf SIGNSL (B (q : Nat)) 0 := by rcases hs with z | z; rw [q4.mpr z]; omega; rw [q5.mpr z]; omega
    refine b_Rd_signRead_29 ⟨fun z => ?_, fun z => ?_⟩
    · rw [up_eq, up_nk (by omega), h1] at z
      have hn : ¬ sgB B L q = true := fun y => by unfold sgB at y; rw [decide_eq_true_eq] at y; omega
      unfold sgT sgE
      rw [if_neg hn, if_neg hn, if_pos hi]
    · rw [up_eq, up_nk (by omega), h1] at z
      rw [up_eq, up_ne (by omega), hB (q + 1) (by omega)]
      refine ⟨by omega, fun z2 => ?_, fun z2 => ?_⟩
      · rintro m1 rfl
        have hn : sgB B L q = true := by unfold sgB; rw [decide_eq_true_eq]; exact ⟨hs, by omega, z2⟩
        unfold sgT sgE
        rw [if_pos hn, if_pos hn, up_dup, w32s (by omega)]
        refine ⟨fun z4 => ?_, fun z4 => ?_⟩
        · rw [if_neg (fun y => z4 (by rw [q4.mpr y]; rfl))]
        · rw [if_pos (q4.mp (by omega))]
      · have hn : ¬ sgB B L q = true := fun y => by unfold sgB at y; rw [decide_eq_true_eq] at y; exact z2 y.2.2
        unfold sgT sgE
        rw [if_neg hn, if_neg hn, if_pos hi]
  refine cl_Rd_signRead (b_Rd_signRead ?_)
  rw [h9, hB q hq, q1, eq1]
  refine ⟨by omega, by have := hb q hq; omega, ?_⟩
  rintro m1 rfl
  refine ⟨fun z => ?_, fun z => ?_⟩
  · rw [ew z]
    refine ⟨fun z2 => two (Or.inl (q4.mp (by omega))) _, fun z2 => ⟨fun z3 => ?_, fun z3 => two (Or.inr (q5.mp (by omega))) _⟩⟩
    have hn : ¬ sgB B L q = true := fun y => by
      unfold sgB at y
      rw [decide_eq_true_eq] at y
      rcases y.1 with y | y
      · rw [q4.mpr y] at z2; omega
      · rw [q5.mpr y] at z3; omega
    unfold sgT sgE
    rw [if_neg hn, if_neg hn, if_pos z]
  · have hn : ¬ sgB B L q = true := fun y => by
      unfold sgB at y
      rw [decide_eq_true_eq] at y
      rcases y.1 with y | y
      · rw [q4.mpr y] at z; omega
      · rw [q5.mpr y] at z; omega
    unfold sgT sgE
    rw [if_neg hn, if_neg hn, if_neg z]
/-! the class's token -/
def tkQ (B : Int → Int) (L p : Nat) : Nat := skW blB B (L - p) p
def tkT (B : Int → Int) (L q : Nat) : Int := if L ≤ q then 0 else if ltB (B (q : Nat)) = true then tkw (rdL B (L - q) q) else if dgB (B (q : Nat)) = true then 2 else sgT B L q
def tkE (B : Int → Int) (L q : Nat) : Nat := if L ≤ q then q else if ltB (B (q : Nat)) = true then skW ltB B (L - q) q else if dgB (B (q : Nat)) = true then skW dgB B (L - q) q else sgE B L q
def tkV (B : Int → Int) (L q : Nat) : Int := dgC B (L - q) q 0
theorem tkT_2 {B : Int → Int} {L q : Nat} (hb : ∀ i : Nat, i < L → 0 ≤ B (i : Nat) ∧ B (i : Nat) < 256) (h : tkT B L q = 2) : ¬ L ≤ q ∧ ¬ ltB (B (q : Nat)) = true ∧ dgB (B (q : Nat)) = true := by
  unfold tkT at h
  by_cases h1 : L ≤ q
  · rw [if_pos h1] at h; omega
  · rw [if_neg h1] at h
    by_cases h2 : ltB (B (q : Nat)) = true
    · rw [if_pos h2] at h
      rcases tkw_v (l := rdL B (L - q) q) with z | ⟨i, z1, z2⟩ <;> omega
    · rw [if_neg h2] at h
      by_cases h4 : dgB (B (q : Nat)) = true
      · exact ⟨h1, h2, h4⟩
      · rw [if_neg h4] at h
        obtain ⟨q1, q2, q3, q4, q5⟩ := sg_v (hb q (by omega))
        unfold sgT at h
        split at h
        · split at h <;> omega
        · split at h <;> omega
theorem c_Rd_advance {d L p : Nat} {B : Int → Int} {m : Mm} (h3 : L ≤ 300) (hp : p ≤ L) (h1 : m 80 1 = (L : Nat)) (h9 : m 80 9 = (p : Nat)) (hB : ∀ i : Nat, i < L → m 81 (i : Nat) = B (i : Nat)) (hb : ∀ i : Nat, i < L → 0 ≤ B (i : Nat) ∧ B (i : Nat) < 256) : ∃ m', Cl (d + 2) k_Rd_advance [(15, 80)] m (none, m') ∧ m' 80 6 = tkT B L (tkQ B L p) ∧ m' 80 7 = (tkQ B L p : Nat) ∧ m' 80 9 = (tkE B L (tkQ B L p) : Nat) ∧ (tkT B L (tkQ B L p) = 2 → m' 80 8 = tkV B L (tkQ B L p)) ∧ (∀ a b, ¬ (a = 80 ∧ 6 ≤ b ∧ b ≤ 9) → m' a b = m a b) := by
  obtain ⟨s1, s2, s3, s4⟩ := skW_v (P := blB) (B := B) (L - p) p
  have hQ : tkQ B L p = skW blB B (L - p) p := rfl
  generalize hq : tkQ B L p = q at *
  obtain ⟨M, hM⟩ : ∃ M, M = up (up m 80 9 (q : Nat)) 80 7 (q : Nat) := ⟨_, rfl⟩
  have M1 : M 80 1 = (L : Nat) := by rw [hM, up_nk (by omega), up_nk (by omega)]; exact h1
  have M9 : M 80 9 = (q : Nat) := by rw [hM, up_nk (by omega), up_eq]
  have M7 : M 80 7 = (q : Nat) := by rw [hM, up_eq]
  have MB : ∀ i : Nat, i < L → M 81 (i : Nat) = B (i : Nat) := fun i hi => by rw [hM, up_ne (by omega), up_ne (by omega)]; exact hB i hi
  have MF : ∀ a b, ¬ (a = 80 ∧ 6 ≤ b ∧ b ≤ 9) → M a b = m a b := fun a b z => by
    rw [hM]
    unfold up
    rw [if_neg (by omega), if_neg (by omega)]
  -- from the place on
  suffices hs : ∃ m', Ev (d + 2) K_Rd_advance 3 19 [(15, 80)] [] (up m 80 9 (q : Nat)) (none, m') ∧ m' 80 6 = tkT B L q ∧ m' 80 7 = (q : Nat) ∧ m' 80 9 = (tkE B L q : Nat) ∧ (tkT B L q = 2 → m' 80 8 = tkV B L q) ∧ (∀ a b, ¬ (a = 80 ∧ 6 ≤ b ∧ b ≤ 9) → m' a b = m a b) by
    obtain ⟨m', g1, g2⟩ := hs
    exact ⟨m', cl_Rd_advance (rd_bl h3 (L - p) p m (by omega) h1 h9 hB (by rw [← hQ]; exact g1)), g2⟩
  have e0 : up m 80 9 (q : Nat) 80 9 = (q : Nat) := up_eq
  by_cases hl : q < L
  · have hlet := c_Rd_isLetter (d := d + 1) (m := M) (x := M 81 (M 80 9))
    have hdig := c_Rd_isDigit (d := d + 1) (m := M) (x := M 81 (M 80 9))
    rw [M9, MB q hl] at hlet hdig
    by_cases c1 : ltB (B (q : Nat)) = true
    · have eT : tkT B L q = tkw (rdL B (L - q) q) := by unfold tkT; rw [if_neg (by omega), if_pos c1]
      have eE : tkE B L q = skW ltB B (L - q) q := by unfold tkE; rw [if_neg (by omega), if_pos c1]
      have hw := c_Rd_wordRead (d := d) (L := L) (q := q) (B := B) (m := M) h3 (by omega) M1 M9 M7 MB
      refine ⟨up (up M 80 9 (skW ltB B (L - q) q : Nat)) 80 6 (tkw (rdL B (L - q) q)), b_Rd_advance_19 ?_, by rw [up_eq, eT], by rw [up_nk (by omega), up_nk (by omega)]; exact M7, by rw [up_nk (by omega), up_eq, eE], fun z => absurd c1 (tkT_2 hb z).2.1, fun a b z => ?_⟩
      · rintro m1 rfl
        rw [e0, ← hM, M9, M1, MB q hl]
        refine ⟨fun _ => ⟨by omega, _, _, hlet, fun z => ?_, fun _ => ⟨_, _, hw, ?_⟩⟩, fun z => absurd (by omega) z⟩
        · rw [ite_z] at z; exact absurd c1 z
        · rintro m9 rfl
          rfl
      · rw [← MF a b z]
        unfold up
        rw [if_neg (by omega), if_neg (by omega)]
    · by_cases c2 : dgB (B (q : Nat)) = true
      · have eT : tkT B L q = 2 := by unfold tkT; rw [if_neg (by omega), if_neg c1, if_pos c2]
        have eE : tkE B L q = skW dgB B (L - q) q := by unfold tkE; rw [if_neg (by omega), if_neg c1, if_pos c2]
        have hw : Cl (d + 1) k_Rd_digitsRead [(15, 80)] M (some (0, 2), up (up (up M 80 8 0) 80 8 (tkV B L q)) 80 9 (skW dgB B (L - q) q : Nat)) := by
          refine cl_Rd_digitsRead (b_Rd_digitsRead ?_)
          rintro m1 rfl
          exact rd_dg h3 (L - q) q (up M 80 8 0) 0 (by omega) (by rw [up_nk (by omega)]; exact M1) (by rw [up_nk (by omega)]; exact M9) up_eq (by omega) (by omega) (fun i hi => by rw [up_ne (by omega)]; exact MB i hi)
        rw [up_dup] at hw
        refine ⟨up (up (up M 80 8 (tkV B L q)) 80 9 (skW dgB B (L - q) q : Nat)) 80 6 2, b_Rd_advance_19 ?_, by rw [up_eq, eT], by rw [up_nk (by omega), up_nk (by omega), up_nk (by omega)]; exact M7, by rw [up_nk (by omega), up_eq, eE], fun _ => by rw [up_nk (by omega), up_nk (by omega), up_eq], fun a b z => ?_⟩
        · rintro m1 rfl
          rw [e0, ← hM, M9, M1, MB q hl]
          refine ⟨fun _ => ⟨by omega, _, _, hlet, fun _ => ⟨by omega, ?_⟩, fun z => ?_⟩, fun z => absurd (by omega) z⟩
          · rw [M9, MB q hl]
            refine ⟨_, _, hdig, fun z => ?_, fun _ => ⟨_, _, hw, ?_⟩⟩
            · rw [ite_z] at z; exact absurd c2 z
            · rintro m9 rfl
              rfl
          · rw [ite_z1] at z; exact absurd z c1
        · rw [← MF a b z]
          unfold up
          rw [if_neg (by omega), if_neg (by omega), if_neg (by omega)]
      · have eT : tkT B L q = sgT B L q := by unfold tkT; rw [if_neg (by omega), if_neg c1, if_neg c2]
        have eE : tkE B L q = sgE B L q := by unfold tkE; rw [if_neg (by omega), if_neg c1, if_neg c2]
        have hw := c_Rd_signRead (d := d + 1) (L := L) (q := q) (B := B) (m := M) h3 hl M1 M9 MB hb
        refine ⟨up (up M 80 9 (sgE B L q : Nat)) 80 6 (sgT B L q), b_Rd_advance_19 ?_, by rw [up_eq, eT], by rw [up_nk (by omega), up_nk (by omega)]; exact M7, by rw [up_nk (by omega), up_eq, eE], fun z => absurd (tkT_2 hb z).2.2 c2, fun a b z => ?_⟩
        · rintro m1 rfl
          rw [e0, ← hM, M9, M1, MB q hl]
          refine ⟨fun _ => ⟨by omega, _, _, hlet, fun _ => ⟨by omega, ?_⟩, fun z => ?_⟩, fun z => absurd (by omega) z⟩
          · rw [M9, MB q hl]
            refine ⟨_, _, hdig, fun _ => ⟨_, _, hw, ?_⟩, fun z => ?_⟩
            · rintro m9 rfl
              rfl
            · rw [ite_z1] at z; exact absurd z c2
          · rw [ite_z1] at z; exact absurd z c1
        · rw [← MF a b z]
          unfold up
          rw [if_neg (by omega), if_neg (by omega)]
  · have eT : tkT B L q = 0 := by unfold tkT; rw [if_pos (by omega)]
    have eE : tkE B L q = q := by unfold tkE; rw [if_pos (by omega)]
    refine ⟨up M 80 6 0, b_Rd_advance_19 ?_, by rw [up_eq, eT], by rw [up_nk (by omega)]; exact M7, by rw [up_nk (by omega), eE]; exact M9, fun z => by rw [eT] at z; omega, fun a b z => ?_⟩
    · rintro m1 rfl
      rw [e0, ← hM, M9, M1]
      refine ⟨fun z => absurd z (by omega), fun _ => ?_⟩
      rintro m10 rfl
      rfl
    · rw [← MF a b z]
      unfold up
      rw [if_neg (by omega)]
