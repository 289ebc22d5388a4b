/-! TOKENS, the model's -/
def isg (x : Int) : Bool := decide (x = 60 ∨ x = 62 ∨ x = 61 ∨ x = 35 ∨ x = 43 ∨ x = 45 ∨ x = 42 ∨ x = 47 ∨ x = 40 ∨ x = 41 ∨ x = 58 ∨ x = 59)
theorem c_Mo_isSign {d : Nat} {m : Mm} {x : Int} : Cl d k_Mo_isSign [(0, x)] m (some (0, if isg x = true then 1 else 0), m) := by
  refine cl_Mo_isSign (b_Mo_isSign ?_)
  iterate 28 (refine ⟨fun z => by subst z; rfl, ?_⟩; intro _)
  rw [if_neg (by unfold isg; rw [decide_eq_true_eq]; omega)]
def sgM (B : Int → Int) (L q : Nat) : Int := if sgB B L q = true then (if B (q : Nat) = 60 then 4 else 5) else if isg (B (q : Nat)) = true then B (q : Nat) else 3
def tkM (B : Int → Int) (L q : Nat) : Int := if L ≤ q then 0 else if dgB (B (q : Nat)) = true then 1 else if ltB (B (q : Nat)) = true then 2 else sgM B L q
theorem mo_bl {d L : Nat} {B : Int → Int} {r : Option Vv × Mm} (h3 : L ≤ 300) : ∀ (f p : Nat) (m : Mm), p + f = L → m 400 5 = (L : Nat) → m 400 8 = (p : Nat) → (∀ i : Nat, i < L → m 405 (i : Nat) = B (i : Nat)) → Ev (d + 1) K_Mo_nextToken 3 0 [(18, 400), (9, 0)] [] (up m 400 8 (skW blB B f p : Nat)) r → Ev (d + 1) K_Mo_nextToken 3 0 [(18, 400), (9, 0)] [] m r := by
  intro f
  induction f with
  | zero =>
    intro p m hp h1 h8 hB h
    have e : up m 400 8 (skW blB B 0 p : Nat) = m := up_own h8
    rw [e] at h
    exact h
  | succ f ih =>
    intro p m hp h1 h8 hB h
    unfold skW at h
    by_cases hb : blB (B (p : Nat)) = true
    · rw [if_pos hb] at h
      have hby := c_Mo_byteAt (d := d) (m := m) (L := L) (p := p) h1 h3
      rw [if_pos (by omega), hB p (by omega)] at hby
      have hbb : B (p : Nat) = 32 ∨ B (p : Nat) = 10 := decide_eq_true_iff.mp hb
      have go := ih (p + 1) (up m 400 8 ((p + 1 : Nat) : Int)) (by omega) (by rw [up_nk (by omega)]; exact h1) up_eq (fun i hi => by rw [up_ne (by omega)]; exact hB i hi) (by rw [up_dup]; exact h)
      refine b_Mo_nextToken ?_
      rw [h8]
      refine ⟨_, _, hby, fun z => ?_, fun z => ?_⟩
      · rintro m2 rfl
        rw [h8, w32s (by omega)]
        exact go
      · rw [h8]
        refine ⟨_, _, hby, fun z2 => by omega, fun z2 => ?_⟩
        rintro m2 rfl
        rw [h8, w32s (by omega)]
        exact go
    · rw [if_neg hb, up_own h8] at h
      exact h
theorem mo_dg {d L : Nat} {B : Int → Int} {x : Int} (h3 : L ≤ 300) : ∀ (f p : Nat) (m : Mm) (v : Int), p + f = L → m 400 5 = (L : Nat) → m 400 8 = (p : Nat) → m 400 11 = v → 0 ≤ v → v ≤ 1000000 → (∀ i : Nat, i < L → m 405 (i : Nat) = B (i : Nat)) → Ev (d + 1) K_Mo_nextToken 3 43 [(18, 400), (0, x)] [] m (none, up (up m 400 11 (dgM B f p v)) 400 8 (skW dgB B f p : Nat)) := by
  intro f
  induction f with
  | zero =>
    intro p m v hp h1 h8 h11 v0 v1 hB
    have e : up (up m 400 11 (dgM B 0 p v)) 400 8 (skW dgB B 0 p : Nat) = m := by
      have e1 : up m 400 11 (dgM B 0 p v) = m := up_own h11
      rw [e1]
      exact up_own h8
    rw [e]
    have hby := c_Mo_byteAt (d := d) (m := m) (L := L) (p := p) h1 h3
    rw [if_neg (by omega)] at hby
    have hf := c_Mo_isFigure (d := d) (m := m) (x := -1)
    rw [if_neg (by decide)] at hf
    refine b_Mo_nextToken_43 ?_
    rw [h8]
    exact ⟨_, _, hby, _, _, hf, fun _ => rfl, fun z => absurd rfl z⟩
  | succ f ih =>
    intro p m v hp h1 h8 h11 v0 v1 hB
    have hby := c_Mo_byteAt (d := d) (m := m) (L := L) (p := p) h1 h3
    rw [if_pos (by omega), hB p (by omega)] at hby
    have hf := c_Mo_isFigure (d := d) (m := m) (x := B (p : Nat))
    unfold skW dgM
    refine b_Mo_nextToken_43 ?_
    rw [h8]
    refine ⟨_, _, hby, _, _, hf, fun z => ?_, fun z => ?_⟩
    · rw [ite_z] at z
      rw [if_neg z, if_neg z, up_own h11, up_own h8]
    · rw [ite_z1] at z
      have hd := dg_iff.mp z
      rw [if_pos z, if_pos z, h11]
      have e2 : ∀ (a b c e : Int), up (up (up (up m 400 11 a) 400 8 b) 400 11 c) 400 8 e = up (up m 400 11 c) 400 8 e := by
        intro a b c e
        funext x y
        unfold up
        by_cases hx : x = 400 ∧ y = 8
        · simp only [if_pos hx]
        · by_cases hy : x = 400 ∧ y = 11
          · simp only [if_neg hx, if_pos hy]
          · simp only [if_neg hx, if_neg hy]
      refine ⟨fun z2 => ?_, fun z2 => ?_⟩
      · rw [if_pos z2, h8]
        refine ⟨_, _, hby, ?_⟩
        rintro m4 rfl
        rintro m5 rfl
        rw [up_nk (by omega), h8, w32s (by omega), w32n (x := 10 * v) (by omega) (by omega), w32n (x := 10 * v + B (p : Nat)) (by omega) (by omega), w32n (by omega) (by omega)]
        have := ih (p + 1) (up (up m 400 11 (10 * v + B (p : Nat) - 48)) 400 8 ((p + 1 : Nat) : Int)) (10 * v + B (p : Nat) - 48) (by omega) (by rw [up_nk (by omega), up_nk (by omega)]; exact h1) up_eq (by rw [up_nk (by omega), up_eq]) (by omega) (by omega) (fun i hi => by rw [up_ne (by omega), up_ne (by omega)]; exact hB i hi)
        rw [e2] at this
        exact this
      · rw [if_neg z2]
        rintro m6 rfl
        rintro m7 rfl
        rw [up_nk (by omega), h8, w32s (by omega)]
        have := ih (p + 1) (up (up m 400 11 v) 400 8 ((p + 1 : Nat) : Int)) v (by omega) (by rw [up_nk (by omega), up_nk (by omega)]; exact h1) up_eq (by rw [up_nk (by omega), up_eq]) (by omega) (by omega) (fun i hi => by rw [up_ne (by omega), up_ne (by omega)]; exact hB i hi)
        rw [e2] at this
        exact this
theorem pk1_n {b : Int} {w : Nat} (hb : 0 ≤ b ∧ b < 256) (hw : w ≤ 2 ^ 60) : pk1 b w ≤ 2 ^ 60 ∧ (lcm (lsr (w : Nat) 48) 0 = 0 ↔ w / 2 ^ 48 = 0) ∧ (w / 2 ^ 48 = 0 → lro (lsl (w : Nat) 8) b = (pk1 b w : Nat)) := by
  have h48 : (2 : Nat) ^ 48 = 281474976710656 := rfl
  have h60 : (2 : Nat) ^ 60 = 1152921504606846976 := rfl
  have h8 : (2 : Nat) ^ 8 = 256 := rfl
  refine ⟨?_, ?_, fun h => ?_⟩
  · unfold pk1
    split
    · exact Nat.le_refl _
    · rename_i h
      rw [Classical.not_not] at h
      have : w < 2 ^ 48 := by rw [h48] at h ⊢; omega
      omega
  · have e := lsr_nat (a := w) (k := 48) (by omega) (by omega)
    rw [show ((48 : Nat) : Int) = 48 from rfl] at e
    rw [e, lcm_0]
    omega
  · have hlt : w < 2 ^ 48 := by rw [h48] at h ⊢; omega
    obtain ⟨n, rfl⟩ := Int.eq_ofNat_of_zero_le hb.1
    have e := lsl_nat (a := w) (k := 8) (by omega) (by omega)
    rw [show ((8 : Nat) : Int) = 8 from rfl] at e
    rw [e, lro_nat (by omega) (by omega)]
    have e2 := Nat.two_pow_add_eq_or_of_lt (i := 8) (b := n) (by omega) w
    rw [Nat.mul_comm] at e2
    unfold pk1
    rw [if_neg (by rw [Classical.not_not]; exact h), Int.toNat_natCast, ← e2, h8]
theorem mo_wd {d L : Nat} {B : Int → Int} {x : Int} (h3 : L ≤ 300) (hb : ∀ i : Nat, i < L → 0 ≤ B (i : Nat) ∧ B (i : Nat) < 256) : ∀ (f p : Nat) (m : Mm) (w : Nat), p + f = L → m 400 5 = (L : Nat) → m 400 8 = (p : Nat) → m 400 12 = (w : Nat) → w ≤ 2 ^ 60 → (∀ i : Nat, i < L → m 405 (i : Nat) = B (i : Nat)) → Ev (d + 1) K_Mo_nextToken 3 85 [(18, 400), (0, x)] [] m (none, up (up m 400 12 (wdM B f p w : Nat)) 400 8 (skW ltB B f p : Nat)) := by
  intro f
  induction f with
  | zero =>
    intro p m w hp h1 h8 h12 hw hB
    have e : up (up m 400 12 (wdM B 0 p w : Nat)) 400 8 (skW ltB B 0 p : Nat) = m := by
      have e1 : up m 400 12 (wdM B 0 p w : Nat) = m := up_own h12
      rw [e1]
      exact up_own h8
    rw [e]
    have hby := c_Mo_byteAt (d := d) (m := m) (L := L) (p := p) h1 h3
    rw [if_neg (by omega)] at hby
    have hf := c_Mo_isLetterByte (d := d) (m := m) (x := -1)
    rw [if_neg (by decide)] at hf
    refine b_Mo_nextToken_85 ?_
    rw [h8]
    exact ⟨_, _, hby, _, _, hf, fun _ => rfl, fun z => absurd rfl z⟩
  | succ f ih =>
    intro p m w hp h1 h8 h12 hw hB
    have hby := c_Mo_byteAt (d := d) (m := m) (L := L) (p := p) h1 h3
    rw [if_pos (by omega), hB p (by omega)] at hby
    have hf := c_Mo_isLetterByte (d := d) (m := m) (x := B (p : Nat))
    unfold skW wdM
    refine b_Mo_nextToken_85 ?_
    rw [h8]
    refine ⟨_, _, hby, _, _, hf, fun z => ?_, fun z => ?_⟩
    · rw [ite_z] at z
      rw [if_neg z, if_neg z, up_own h12, up_own h8]
    · rw [ite_z1] at z
      obtain ⟨k1, k2, k3⟩ := pk1_n (hb p (by omega)) hw
      rw [if_pos z, if_pos z, h12, h8]
      have e2 : ∀ (a b c e : Int), up (up (up (up m 400 12 a) 400 8 b) 400 12 c) 400 8 e = up (up m 400 12 c) 400 8 e := by
        intro a b c e
        funext x y
        unfold up
        by_cases hx : x = 400 ∧ y = 8
        · simp only [if_pos hx]
        · by_cases hy : x = 400 ∧ y = 12
          · simp only [if_neg hx, if_pos hy]
          · simp only [if_neg hx, if_neg hy]
      have go := ih (p + 1) (up (up m 400 12 (pk1 (B (p : Nat)) w : Nat)) 400 8 ((p + 1 : Nat) : Int)) (pk1 (B (p : Nat)) w) (by omega) (by rw [up_nk (by omega), up_nk (by omega)]; exact h1) up_eq (by rw [up_nk (by omega), up_eq]) k1 (fun i hi => by rw [up_ne (by omega), up_ne (by omega)]; exact hB i hi)
      rw [e2] at go
      refine ⟨fun z2 => ?_, fun z2 => ?_⟩
      · refine ⟨_, _, hby, ?_⟩
        rintro m4 rfl
        rintro m5 rfl
        rw [up_nk (by omega), h8, w32s (by omega), k3 (k2.mp z2)]
        exact go
      · have hz : w / 2 ^ 48 ≠ 0 := fun y => z2 (k2.mpr y)
        have e3 : ((pk1 (B (p : Nat)) w : Nat) : Int) = 1152921504606846976 := by
          unfold pk1
          rw [if_pos hz]
          rfl
        rw [e3] at go
        rintro m6 rfl
        rintro m7 rfl
        rw [up_nk (by omega), h8, w32s (by omega)]
        exact go
theorem c_Mo_nextToken {d L p : Nat} {B : Int → Int} {m : Mm} (h3 : L ≤ 300) (hp : p ≤ L) (h1 : m 400 5 = (L : Nat)) (h8 : m 400 8 = (p : Nat)) (hB : ∀ i : Nat, i < L → m 405 (i : Nat) = B (i : Nat)) (hb : ∀ i : Nat, i < L → 0 ≤ B (i : Nat) ∧ B (i : Nat) < 256) : ∃ m', Cl (d + 1) k_Mo_nextToken [(18, 400)] m (none, m') ∧ m' 400 10 = tkM B L (tkQ B L p) ∧ m' 400 9 = (tkQ B L p : Nat) ∧ m' 400 8 = (tkE B L (tkQ B L p) : Nat) ∧ (tkM B L (tkQ B L p) = 1 → m' 400 11 = dgM B (L - tkQ B L p) (tkQ B L p) 0) ∧ (tkM B L (tkQ B L p) = 2 → m' 400 12 = (pkw (rdL B (L - tkQ B L p) (tkQ B L p)) : Nat)) ∧ (∀ a b, ¬ (a = 400 ∧ 8 ≤ b ∧ b ≤ 12) → m' a b = m a b) := by
  obtain ⟨s1, s2, s3, s4⟩ := skW_v (P := blB) (B := B) (L - p) p
  have hQ : tkQ B L p = skW blB B (L - p) p := rfl
  have hnb : tkQ B L p < L → ¬ blB (B (tkQ B L p : Nat)) = true := fun z => s4 (by omega)
  generalize hq : tkQ B L p = q at *
  obtain ⟨N, hN⟩ : ∃ N, N = up m 400 8 (q : Nat) := ⟨_, rfl⟩
  obtain ⟨M, hM⟩ : ∃ M, M = up N 400 9 (q : Nat) := ⟨_, rfl⟩
  have N5 : N 400 5 = (L : Nat) := by rw [hN, up_nk (by omega)]; exact h1
  have N8 : N 400 8 = (q : Nat) := by rw [hN, up_eq]
  have NB : ∀ i : Nat, i < L → N 405 (i : Nat) = B (i : Nat) := fun i hi => by rw [hN, up_ne (by omega)]; exact hB i hi
  have M5 : M 400 5 = (L : Nat) := by rw [hM, up_nk (by omega)]; exact N5
  have M8 : M 400 8 = (q : Nat) := by rw [hM, up_nk (by omega)]; exact N8
  have M9 : M 400 9 = (q : Nat) := by rw [hM, up_eq]
  have MB : ∀ i : Nat, i < L → M 405 (i : Nat) = B (i : Nat) := fun i hi => by rw [hM, up_ne (by omega)]; exact NB i hi
  have MF : ∀ a b, ¬ (a = 400 ∧ 8 ≤ b ∧ b ≤ 12) → M a b = m a b := fun a b z => by
    rw [hM, hN]
    unfold up
    rw [if_neg (by omega), if_neg (by omega)]
  suffices hs : ∃ m', Ev (d + 1) K_Mo_nextToken 3 0 [(18, 400), (9, 0)] [] N (none, m') ∧ m' 400 10 = tkM B L q ∧ m' 400 9 = (q : Nat) ∧ m' 400 8 = (tkE B L q : Nat) ∧ (tkM B L q = 1 → m' 400 11 = dgM B (L - q) q 0) ∧ (tkM B L q = 2 → m' 400 12 = (pkw (rdL B (L - q) q) : Nat)) ∧ (∀ a b, ¬ (a = 400 ∧ 8 ≤ b ∧ b ≤ 12) → m' a b = m a b) by
    obtain ⟨m', g1, g2⟩ := hs
    exact ⟨m', cl_Mo_nextToken (mo_bl h3 (L - p) p m (by omega) h1 h8 hB (by rw [← hQ, ← hN]; exact g1)), g2⟩
  have byN := c_Mo_byteAt (d := d) (m := N) (L := L) (p := q) N5 h3
  have byM := c_Mo_byteAt (d := d) (m := M) (L := L) (p := q) M5 h3
  by_cases hl : q < L
  · rw [if_pos hl, NB q hl] at byN
    rw [if_pos hl, MB q hl] at byM
    have hbq := hb q hl
    have nb := hnb hl
    have n32 : ¬ B (q : Nat) = 32 := fun z => nb (decide_eq_true_iff.mpr (Or.inl z))
    have n10 : ¬ B (q : Nat) = 10 := fun z => nb (decide_eq_true_iff.mpr (Or.inr z))
    have hdig := c_Mo_isFigure (d := d) (m := M) (x := B (q : Nat))
    have hlet := c_Mo_isLetterByte (d := d) (m := M) (x := B (q : Nat))
    have hsig := c_Mo_isSign (d := d) (m := M) (x := B (q : Nat))
    -- to what comes behind the blanks
    have start : ∀ m', (∃ (v6 : Int) (m6 : Mm), Cl d k_Mo_isFigure [(0, B (q : Nat))] M (some (0, v6), m6) ∧ ((v6 = 0 → ∃ (v7 : Int) (m7 : Mm), Cl d k_Mo_isLetterByte [(0, B (q : Nat))] m6 (some (0, v7), m7) ∧ ((v7 = 0 → ∃ (v8 : Int) (m8 : Mm), Cl d k_Mo_isSign [(0, B (q : Nat))] m7 (some (0, v8), m8) ∧ ((v8 = 0 → ∀ m9 : Mm, m9 = up m8 400 10 3 → (∀ m10 : Mm, m10 = up m9 400 8 (w32 ((m9 400 8) + 1)) → ((B (q : Nat) = 60 → Ev (d + 1) K_Mo_nextToken 3 139 [(18, 400), (0, B (q : Nat))] [] m10 (none, m')) ∧ (¬ (B (q : Nat) = 60) → (¬ B (q : Nat) = 62 → ((none, m') : Option Vv × Mm) = (none, m10)) ∧ (¬ (¬ B (q : Nat) = 62) → Ev (d + 1) K_Mo_nextToken 3 139 [(18, 400), (0, B (q : Nat))] [] m10 (none, m')))))) ∧ (¬ (v8 = 0) → ∀ m11 : Mm, m11 = up m8 400 10 (B (q : Nat)) → (∀ m12 : Mm, m12 = up m11 400 8 (w32 ((m11 400 8) + 1)) → ((B (q : Nat) = 60 → Ev (d + 1) K_Mo_nextToken 3 139 [(18, 400), (0, B (q : Nat))] [] m12 (none, m')) ∧ (¬ (B (q : Nat) = 60) → (¬ B (q : Nat) = 62 → ((none, m') : Option Vv × Mm) = (none, m12)) ∧ (¬ (¬ B (q : Nat) = 62) → Ev (d + 1) K_Mo_nextToken 3 139 [(18, 400), (0, B (q : Nat))] [] m12 (none, m')))))))) ∧ (¬ (v7 = 0) → ∀ m13 : Mm, m13 = up m7 400 10 2 → (∀ m14 : Mm, m14 = up m13 400 12 0 → (Ev (d + 1) K_Mo_nextToken 3 85 [(18, 400), (0, B (q : Nat))] [] m14 (none, m')))))) ∧ (¬ (v6 = 0) → ∀ m15 : Mm, m15 = up m6 400 10 1 → (∀ m16 : Mm, m16 = up m15 400 11 0 → (Ev (d + 1) K_Mo_nextToken 3 43 [(18, 400), (0, B (q : Nat))] [] m16 (none, m')))))) → Ev (d + 1) K_Mo_nextToken 3 0 [(18, 400), (9, 0)] [] N (none, m') := by
      intro m' hst
      refine b_Mo_nextToken ?_
      rw [N8]
      refine ⟨_, _, byN, fun z => absurd z n32, fun _ => ?_⟩
      rw [N8]
      refine ⟨_, _, byN, fun _ => ?_, fun z => absurd n10 z⟩
      rintro m4 rfl
      rw [N8, ← hM, M8]
      exact ⟨_, _, byM, fun _ => hst, fun z => absurd hbq.1 z⟩
    by_cases c2 : dgB (B (q : Nat)) = true
    · have c1 : ¬ ltB (B (q : Nat)) = true := fun y => by rw [lt_iff] at y; rw [dg_iff] at c2; omega
      have eT : tkM B L q = 1 := by unfold tkM; rw [if_neg (by omega), if_pos c2]
      have eE : tkE B L q = skW dgB B (L - q) q := by unfold tkE; rw [if_neg (by omega), if_neg c1, if_pos c2]
      have go := mo_dg (d := d) (L := L) (B := B) (x := B (q : Nat)) h3 (L - q) q (up (up M 400 10 1) 400 11 0) 0 (by omega) (by rw [up_nk (by omega), up_nk (by omega)]; exact M5) (by rw [up_nk (by omega), up_nk (by omega)]; exact M8) up_eq (by omega) (by omega) (fun i hi => by rw [up_ne (by omega), up_ne (by omega)]; exact MB i hi)
      obtain ⟨M', hM'⟩ : ∃ M', M' = up (up (up (up M 400 10 1) 400 11 0) 400 11 (dgM B (L - q) q 0)) 400 8 (skW dgB B (L - q) q : Nat) := ⟨_, rfl⟩
      rw [← hM'] at go
      refine ⟨M', start _ ⟨_, _, hdig, fun z => ?_, fun _ => ?_⟩, ?_, ?_, ?_, fun _ => ?_, fun z => by rw [eT] at z; omega, fun a b z => ?_⟩
      · rw [ite_z] at z; exact absurd c2 z
      · rintro m15 rfl
        rintro m16 rfl
        exact go
      · rw [hM', up_nk (by omega), up_nk (by omega), up_nk (by omega), up_eq, eT]
      · rw [hM', up_nk (by omega), up_nk (by omega), up_nk (by omega), up_nk (by omega)]; exact M9
      · rw [hM', up_eq, eE]
      · rw [hM', up_nk (by omega), up_eq]
      · rw [← MF a b z, hM']
        unfold up
        rw [if_neg (by omega), if_neg (by omega), if_neg (by omega), if_neg (by omega)]
    · by_cases c1 : ltB (B (q : Nat)) = true
      · have eT : tkM B L q = 2 := by unfold tkM; rw [if_neg (by omega), if_neg c2, if_pos c1]
        have eE : tkE B L q = skW ltB B (L - q) q := by unfold tkE; rw [if_neg (by omega), if_pos c1]
        have go := mo_wd (d := d) (L := L) (B := B) (x := B (q : Nat)) h3 hb (L - q) q (up (up M 400 10 2) 400 12 0) 0 (by omega) (by rw [up_nk (by omega), up_nk (by omega)]; exact M5) (by rw [up_nk (by omega), up_nk (by omega)]; exact M8) up_eq (by omega) (fun i hi => by rw [up_ne (by omega), up_ne (by omega)]; exact MB i hi)
        have ew : wdM B (L - q) q 0 = pkw (rdL B (L - q) q) := by
          have := wdM_eq (B := B) (L - q) q []
          rw [List.append_nil] at this
          exact this
        rw [ew] at go
        obtain ⟨M', hM'⟩ : ∃ M', M' = up (up (up (up M 400 10 2) 400 12 0) 400 12 (pkw (rdL B (L - q) q) : Nat)) 400 8 (skW ltB B (L - q) q : Nat) := ⟨_, rfl⟩
        rw [← hM'] at go
        refine ⟨M', start _ ⟨_, _, hdig, fun _ => ⟨_, _, hlet, fun z => ?_, fun _ => ?_⟩, fun z => ?_⟩, ?_, ?_, ?_, fun z => by rw [eT] at z; omega, fun _ => ?_, fun a b z => ?_⟩
        · rw [ite_z] at z; exact absurd c1 z
        · rintro m15 rfl
          rintro m16 rfl
          exact go
        · rw [ite_z1] at z; exact absurd z c2
        · rw [hM', up_nk (by omega), up_nk (by omega), up_nk (by omega), up_eq, eT]
        · rw [hM', up_nk (by omega), up_nk (by omega), up_nk (by omega), up_nk (by omega)]; exact M9
        · rw [hM', up_eq, eE]
        · rw [hM', up_nk (by omega), up_eq]
        · rw [← MF a b z, hM']
          unfold up
          rw [if_neg (by omega), if_neg (by omega), if_neg (by omega), if_neg (by omega)]
      · have eT : tkM B L q = sgM B L q := by unfold tkM; rw [if_neg (by omega), if_neg c2, if_neg c1]
        have eE : tkE B L q = sgE B L q := by unfold tkE; rw [if_neg (by omega), if_neg c1, if_neg c2]
        have n1 : tkM B L q ≠ 1 ∧ tkM B L q ≠ 2 := by
          rw [eT]
          unfold sgM
          split
          · split <;> omega
          · split
            · rename_i hs
              unfold isg at hs
              rw [decide_eq_true_eq] at hs
              omega
            · omega
        -- the sign alone, and what may follow it
        have one : ∀ t : Int, t = (if isg (B (q : Nat)) = true then B (q : Nat) else 3) → ∃ m', ((B (q : Nat) = 60 → Ev (d + 1) K_Mo_nextToken 3 139 [(18, 400), (0, B (q : Nat))] [] (up (up M 400 10 t) 400 8 ((q + 1 : Nat) : Int)) (none, m')) ∧ (¬ (B (q : Nat) = 60) → (¬ B (q : Nat) = 62 → ((none, m') : Option Vv × Mm) = (none, up (up M 400 10 t) 400 8 ((q + 1 : Nat) : Int))) ∧ (¬ (¬ B (q : Nat) = 62) → Ev (d + 1) K_Mo_nextToken 3 139 [(18, 400), (0, B (q : Nat))] [] (up (up M 400 10 t) 400 8 ((q + 1 : Nat) : Int)) (none, m')))) ∧ m' 400 10 = sgM B L q ∧ m' 400 9 = (q : Nat) ∧ m' 400 8 = (sgE B L q : Nat) ∧ (∀ a b, ¬ (a = 400 ∧ 8 ≤ b ∧ b ≤ 12) → m' a b = m a b) := by
          intro t ht
          have by1 := c_Mo_byteAt (d := d) (m := up (up M 400 10 t) 400 8 ((q + 1 : Nat) : Int)) (L := L) (p := q + 1) (by rw [up_nk (by omega), up_nk (by omega)]; exact M5) h3
          rw [up_ne (by omega), up_ne (by omega)] at by1
          by_cases hs : sgB B L q = true
          · have hs' := hs
            unfold sgB at hs'
            rw [decide_eq_true_eq] at hs'
            obtain ⟨k1, k2, k3⟩ := hs'
            rw [if_pos k2, MB _ k2, k3] at by1
            have e1 : sgM B L q = (if B (q : Nat) = 60 then 4 else 5) := by unfold sgM; rw [if_pos hs]
            have e2 : sgE B L q = q + 2 := by unfold sgE; rw [if_pos hs]
            rw [e1, e2]
            obtain ⟨M', hM'⟩ : ∃ M', M' = up (up (up (up M 400 10 t) 400 8 ((q + 1 : Nat) : Int)) 400 10 (if B (q : Nat) = 60 then 4 else 5)) 400 8 ((q + 2 : Nat) : Int) := ⟨_, rfl⟩
            have ev : Ev (d + 1) K_Mo_nextToken 3 139 [(18, 400), (0, B (q : Nat))] [] (up (up M 400 10 t) 400 8 ((q + 1 : Nat) : Int)) (none, M') := by
              refine b_Mo_nextToken_139 ?_
              rw [up_eq]
              refine ⟨_, _, by1, fun z => absurd rfl z, fun _ => ⟨fun z => ?_, fun z => ?_⟩⟩
              · rintro m2 rfl
                rintro m3 rfl
                rw [hM', if_neg z, up_nk (k := 10) (by omega), up_eq, w32s (by omega)]
              · rintro m2 rfl
                rintro m3 rfl
                rw [Classical.not_not] at z
                rw [hM', if_pos z, up_nk (k := 10) (by omega), up_eq, w32s (by omega)]
            refine ⟨M', ⟨fun _ => ev, fun _ => ⟨fun z => ?_, fun _ => ev⟩⟩, ?_, ?_, ?_, fun a b z => ?_⟩
            · omega
            · rw [hM', up_nk (by omega), up_eq]
            · rw [hM', up_nk (by omega), up_nk (by omega), up_nk (by omega), up_nk (by omega)]; exact M9
            · rw [hM', up_eq]
            · rw [← MF a b z, hM']
              unfold up
              rw [if_neg (by omega), if_neg (by omega), if_neg (by omega), if_neg (by omega)]
          · have e1 : sgM B L q = t := by unfold sgM; rw [if_neg hs, ht]
            have e2 : sgE B L q = q + 1 := by unfold sgE; rw [if_neg hs]
            rw [e1, e2]
            have ev : (B (q : Nat) = 60 ∨ B (q : Nat) = 62) → Ev (d + 1) K_Mo_nextToken 3 139 [(18, 400), (0, B (q : Nat))] [] (up (up M 400 10 t) 400 8 ((q + 1 : Nat) : Int)) (none, up (up M 400 10 t) 400 8 ((q + 1 : Nat) : Int)) := by
              intro hs2
              refine b_Mo_nextToken_139 ?_
              rw [up_eq]
              refine ⟨_, _, by1, fun _ => rfl, fun z => ?_⟩
              rw [Classical.not_not] at z
              exfalso
              apply hs
              unfold sgB
              rw [decide_eq_true_eq]
              by_cases hl1 : q + 1 < L
              · rw [if_pos hl1, MB _ hl1] at z
                exact ⟨hs2, hl1, z⟩
              · rw [if_neg hl1] at z
                omega
            refine ⟨up (up M 400 10 t) 400 8 ((q + 1 : Nat) : Int), ⟨fun z => ev (Or.inl z), fun _ => ⟨fun _ => rfl, fun z => ev (Or.inr (by rw [Classical.not_not] at z; exact z))⟩⟩, ?_, ?_, ?_, fun a b z => ?_⟩
            · rw [up_nk (by omega), up_eq]
            · rw [up_nk (by omega), up_nk (by omega)]; exact M9
            · rw [up_eq]
            · rw [← MF a b z]
              unfold up
              rw [if_neg (by omega), if_neg (by omega)]
        obtain ⟨m', o1, o2, o3, o4, o5⟩ := one _ rfl
        refine ⟨m', start _ ⟨_, _, hdig, fun _ => ⟨_, _, hlet, fun _ => ⟨_, _, hsig, fun z => ?_, fun z => ?_⟩, fun z => ?_⟩, fun z => ?_⟩, by rw [eT]; exact o2, o3, by rw [eE]; exact o4, fun z => absurd z n1.1, fun z => absurd z n1.2, o5⟩
        · rw [ite_z] at z
          rw [if_neg z] at o1
          rintro m9 rfl
          rintro m10 rfl
          rw [up_nk (by omega), M8, w32s (by omega)]
          exact o1
        · rw [ite_z1] at z
          rw [if_pos z] at o1
          rintro m9 rfl
          rintro m10 rfl
          rw [up_nk (by omega), M8, w32s (by omega)]
          exact o1
        · rw [ite_z1] at z; exact absurd z c1
        · rw [ite_z1] at z; exact absurd z c2
  · rw [if_neg hl] at byN byM
    have eT : tkM B L q = 0 := by unfold tkM; rw [if_pos (by omega)]
    have eE : tkE B L q = q := by unfold tkE; rw [if_pos (by omega)]
    refine ⟨up M 400 10 0, b_Mo_nextToken ?_, by rw [up_eq, eT], by rw [up_nk (by omega)]; exact M9, by rw [up_nk (by omega), eE]; exact M8, fun z => by rw [eT] at z; omega, fun z => by rw [eT] at z; omega, fun a b z => ?_⟩
    · rw [N8]
      refine ⟨_, _, byN, fun z => by omega, fun _ => ?_⟩
      rw [N8]
      refine ⟨_, _, byN, fun _ => ?_, fun z => by omega⟩
      rintro m4 rfl
      rw [N8, ← hM, M8]
      refine ⟨_, _, byM, fun z => by omega, fun _ => ?_⟩
      rintro m17 rfl
      rfl
    · rw [← MF a b z]
      unfold up
      rw [if_neg (by omega)]
