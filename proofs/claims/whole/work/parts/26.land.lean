/-! THE LAND: what the class's land and the model's row have in common -/
/-- the bits of one set that are not in the other -/
def ndf (a b : Nat) : Nat := a ^^^ (a &&& b)
theorem ndf_bit (a b i : Nat) : (ndf a b).testBit i = (a.testBit i && !b.testBit i) := by
  unfold ndf
  rw [Nat.testBit_xor, Nat.testBit_and]
  cases a.testBit i <;> cases b.testBit i <;> rfl
theorem ndf_lt {a b k : Nat} (h : a < 2 ^ k) : ndf a b < 2 ^ k := Nat.xor_lt_two_pow h (Nat.lt_of_le_of_lt Nat.and_le_left h)
theorem ian_not {a b : Nat} (ha : a < 2147483648) (hb : b < 2147483648) : ian (a : Int) (ixo (b : Int) (-1)) = (ndf a b : Nat) := by
  unfold ian ixo
  rw [Int32.ofInt_toInt]
  refine ti32 (n := ndf a b) ?_ (ndf_lt (k := 31) ha)
  apply BitVec.eq_of_toNat_eq
  show ((BitVec.ofNat 32 a) &&& ((BitVec.ofNat 32 b) ^^^ (BitVec.allOnes 32))).toNat = _
  rw [BitVec.toNat_and, BitVec.toNat_xor, BitVec.toNat_ofNat, BitVec.toNat_ofNat, BitVec.toNat_ofNat, BitVec.toNat_allOnes, Nat.mod_eq_of_lt (a := a) (by omega), Nat.mod_eq_of_lt (a := b) (by omega), Nat.mod_eq_of_lt (a := ndf a b) (Nat.lt_trans (ndf_lt (k := 31) ha) (by decide))]
  apply Nat.eq_of_testBit_eq
  intro i
  rw [ndf_bit, Nat.testBit_and, Nat.testBit_xor, Nat.testBit_two_pow_sub_one]
  by_cases hi : i < 32
  · simp [hi]
  · rw [Nat.testBit_lt_two_pow (x := a) (i := i) (Nat.lt_of_lt_of_le ha (Nat.pow_le_pow_right (n := 2) (i := 31) (by omega) (by omega)))]
    simp
theorem lan_not {a b : Nat} (ha : a < 9223372036854775808) (hb : b < 9223372036854775808) : lan (a : Int) (lxo (b : Int) (-1)) = (ndf a b : Nat) := by
  unfold lan lxo
  rw [Int64.ofInt_toInt]
  refine ti64 (n := ndf a b) ?_ (ndf_lt (k := 63) ha)
  apply BitVec.eq_of_toNat_eq
  show ((BitVec.ofNat 64 a) &&& ((BitVec.ofNat 64 b) ^^^ (BitVec.allOnes 64))).toNat = _
  rw [BitVec.toNat_and, BitVec.toNat_xor, BitVec.toNat_ofNat, BitVec.toNat_ofNat, BitVec.toNat_ofNat, BitVec.toNat_allOnes, Nat.mod_eq_of_lt (a := a) (by omega), Nat.mod_eq_of_lt (a := b) (by omega), Nat.mod_eq_of_lt (a := ndf a b) (Nat.lt_trans (ndf_lt (k := 63) ha) (by decide))]
  apply Nat.eq_of_testBit_eq
  intro i
  rw [ndf_bit, Nat.testBit_and, Nat.testBit_xor, Nat.testBit_two_pow_sub_one]
  by_cases hi : i < 64
  · simp [hi]
  · rw [Nat.testBit_lt_two_pow (x := a) (i := i) (Nat.lt_of_lt_of_le ha (Nat.pow_le_pow_right (n := 2) (i := 63) (by omega) (by omega)))]
    simp
/-- a line of the book: the class's number and the model's -/
def LN (u v : Int) : Prop := ∃ h w k : Int, 0 ≤ h ∧ h ≤ 9999 ∧ 0 ≤ w ∧ w ≤ 1 ∧ 0 ≤ k ∧ k < 40 ∧ u = 100 * h + 50 * w + k ∧ v = 80 * h + 40 * w + k
/-- the land but for its book -/
def LC (m : Mm) (o T : Int) (g : Int → Int) : Prop :=
  (hv20 (g 2) ∧ hv20 (g 3) ∧ m o 0 = (cmb (g 2) (g 3) : Nat)) ∧ (0 ≤ T ∧ T ≤ 5 ∧ m o 1 = T) ∧ (0 ≤ g 0 ∧ g 0 ≤ 9999 ∧ m o 5 = g 0) ∧ (0 ≤ g 1 ∧ g 1 < 30817 ∧ m o 6 = g 1) ∧ (0 ≤ m o 4 ∧ m o 4 < ((2 ^ T.toNat : Nat) : Int)) ∧ (∀ c : Nat, (c : Int) < T → cellI (m (o + 1) c) ∧ wayI (m (o + 2) c) ∧ g (5 + 2 * c) = (if bt_ (m o 4) c = true then -1 else m (o + 1) c) ∧ g (6 + 2 * c) = m (o + 2) c)
/-- its book -/
def LB (m : Mm) (o : Int) (g bk : Int → Int) : Prop := (0 ≤ g 4 ∧ g 4 ≤ 30 ∧ m o 7 = g 4) ∧ (∀ i : Nat, (i : Int) < g 4 → LN (m (o + 3) i) (bk i))
theorem LC_con {m m' : Mm} {o T : Int} {g g' : Int → Int} (h : LC m o T g) (hm : ∀ a b, o ≤ a → a ≤ o + 2 → m' a b = m a b) (hg : ∀ k, 0 ≤ k → k < 15 → g' k = g k) : LC m' o T g' := by
  obtain ⟨h1, h2, h3, h4, h5, h6⟩ := h
  refine ⟨?_, ?_, ?_, ?_, ?_, ?_⟩
  · rw [hg 2 (by omega) (by omega), hg 3 (by omega) (by omega), hm o 0 (by omega) (by omega)]; exact h1
  · rw [hm o 1 (by omega) (by omega)]; exact h2
  · rw [hg 0 (by omega) (by omega), hm o 5 (by omega) (by omega)]; exact h3
  · rw [hg 1 (by omega) (by omega), hm o 6 (by omega) (by omega)]; exact h4
  · rw [hm o 4 (by omega) (by omega)]; exact h5
  · intro c hc
    rw [hm (o + 1) c (by omega) (by omega), hm (o + 2) c (by omega) (by omega), hm o 4 (by omega) (by omega), hg (5 + 2 * c) (by omega) (by omega), hg (6 + 2 * c) (by omega) (by omega)]
    exact h6 c hc
theorem LB_con {m m' : Mm} {o : Int} {g g' bk bk' : Int → Int} (h : LB m o g bk) (hm : ∀ b, m' o b = m o b) (hm3 : ∀ b, m' (o + 3) b = m (o + 3) b) (hg : g' 4 = g 4) (hb : ∀ i, 0 ≤ i → i < 30 → bk' i = bk i) : LB m' o g' bk' := by
  obtain ⟨h1, h2⟩ := h
  refine ⟨?_, ?_⟩
  · rw [hg, hm]; exact h1
  · intro i hi
    rw [hg] at hi
    rw [hm3, hb i (by omega) (by omega)]
    exact h2 i hi
theorem c_La_takeBackTo {d : Nat} {m : Mm} {o0 o1 : Int} (hne : o0 + 3 < o1 ∨ o1 + 3 < o0) (hT : 0 ≤ m o1 1 ∧ m o1 1 ≤ 5) : ∃ m', Cl d k_La_takeBackTo [(13, o0), (13, o1)] m (none, m') ∧ (m' o0 0 = m o1 0 ∧ m' o0 1 = m o0 1 ∧ m' o0 4 = iro (ian (m o0 4) (ixo (w32 (isl 1 (m o1 1) - 1)) (-1))) (m o1 4) ∧ m' o0 5 = m o1 5 ∧ m' o0 6 = m o1 6 ∧ m' o0 7 = m o1 7) ∧ (∀ i, 0 ≤ i → i < 30 → m' (o0 + 3) i = m (o1 + 3) i) ∧ (∀ c, 0 ≤ c → m' (o0 + 1) c = (if c < m o1 1 then m (o1 + 1) c else m (o0 + 1) c) ∧ m' (o0 + 2) c = (if c < m o1 1 then m (o1 + 2) c else m (o0 + 2) c)) ∧ (∀ a b, a < o0 ∨ o0 + 3 < a → m' a b = m a b) := by
  have key : ∀ (f k : Nat) (M : Mm) (x : Int), (k : Int) + f = M o1 1 → M o1 1 ≤ 5 → ∃ m', Ev d K_La_takeBackTo 3 44 [(13, o0), (13, o1), (0, x), (0, (k : Nat))] [] M (none, m') ∧ (∀ c, 0 ≤ c → m' (o0 + 1) c = (if k ≤ c ∧ c < M o1 1 then M (o1 + 1) c else M (o0 + 1) c) ∧ m' (o0 + 2) c = (if k ≤ c ∧ c < M o1 1 then M (o1 + 2) c else M (o0 + 2) c)) ∧ (∀ a b, a ≠ o0 + 1 → a ≠ o0 + 2 → m' a b = M a b) := by
    intro f
    induction f with
    | zero =>
      intro k M x hk h5
      refine ⟨M, b_La_takeBackTo_44 ⟨fun _ => rfl, fun z => absurd (by omega) z⟩, fun c hc => ?_, fun a b _ _ => rfl⟩
      rw [if_neg (by omega), if_neg (by omega)]
      exact ⟨rfl, rfl⟩
    | succ f ih =>
      intro k M x hk h5
      have e1 : w32 ((k : Int) + 1) = ((k + 1 : Nat) : Int) := by rw [w32n (by omega) (by omega)]; rfl
      obtain ⟨m', h1, h2, h3⟩ := ih (k + 1) (up (up M (o0 + 1) k (M (o1 + 1) k)) (o0 + 2) k (M (o1 + 2) k)) x (by rw [up_ne (by omega), up_ne (by omega)]; omega) (by rw [up_ne (by omega), up_ne (by omega)]; omega)
      rw [up_ne (by omega), up_ne (by omega)] at h2
      refine ⟨m', b_La_takeBackTo_44 ⟨fun z => by omega, fun _ => ⟨by omega, by omega, ?_⟩⟩, fun c hc => ?_, fun a b ha hb => ?_⟩
      · rintro m1 rfl
        refine ⟨by omega, by omega, ?_⟩
        rintro m2 rfl
        rw [e1, up_ne (by omega)]
        exact h1
      · obtain ⟨q1, q2⟩ := h2 c hc
        rw [q1, q2]
        by_cases hck : c = k
        · subst hck
          have c1 : ¬ (((k + 1 : Nat) : Int) ≤ (k : Int) ∧ (k : Int) < M o1 1) := by omega
          have c2 : (k : Int) ≤ (k : Int) ∧ (k : Int) < M o1 1 := by omega
          rw [if_neg c1, if_neg c1, if_pos c2, if_pos c2, up_ne (by omega), up_eq, up_eq]
          exact ⟨rfl, rfl⟩
        · have hcc : (((k + 1 : Nat) : Int) ≤ c ∧ c < M o1 1) ↔ ((k : Int) ≤ c ∧ c < M o1 1) := by omega
          rw [up_ne (a := o1 + 1) (by omega), up_ne (a := o1 + 1) (by omega), up_ne (a := o1 + 2) (by omega), up_ne (a := o1 + 2) (by omega), up_nk hck, up_nk hck, up_nk hck, up_nk hck]
          by_cases hd : (k : Int) ≤ c ∧ c < M o1 1
          · rw [if_pos (hcc.mpr hd), if_pos (hcc.mpr hd), if_pos hd, if_pos hd]
            exact ⟨rfl, rfl⟩
          · rw [if_neg (fun z => hd (hcc.mp z)), if_neg (fun z => hd (hcc.mp z)), if_neg hd, if_neg hd]
            exact ⟨rfl, rfl⟩
      · rw [h3 a b ha hb, up_ne hb, up_ne ha]
  have hM : ∀ (M : Mm), M = up (cpy (up (up (up (up m o0 0 (m o1 0)) o0 5 (m o1 5)) o0 6 (m o1 6)) o0 7 (m o1 7)) (o1 + 3) 0 (o0 + 3) 0 30) o0 4 (iro (ian (m o0 4) (ixo (w32 (isl 1 (m o1 1) - 1)) (-1))) (m o1 4)) → (M o0 0 = m o1 0 ∧ M o0 1 = m o0 1 ∧ M o0 4 = iro (ian (m o0 4) (ixo (w32 (isl 1 (m o1 1) - 1)) (-1))) (m o1 4) ∧ M o0 5 = m o1 5 ∧ M o0 6 = m o1 6 ∧ M o0 7 = m o1 7) ∧ (∀ i, 0 ≤ i → i < 30 → M (o0 + 3) i = m (o1 + 3) i) ∧ (∀ a b, a ≠ o0 → a ≠ o0 + 3 → M a b = m a b) := by
    rintro M rfl
    refine ⟨⟨?_, ?_, ?_, ?_, ?_, ?_⟩, fun i h0 h3 => ?_, fun a b ha hb => ?_⟩
    · rw [up_nk (by omega), cpy_fil, fil_ne (by omega), up_nk (by omega), up_nk (by omega), up_nk (by omega), up_eq]
    · rw [up_nk (by omega), cpy_fil, fil_ne (by omega), up_nk (by omega), up_nk (by omega), up_nk (by omega), up_nk (by omega)]
    · rw [up_eq]
    · rw [up_nk (by omega), cpy_fil, fil_ne (by omega), up_nk (by omega), up_nk (by omega), up_eq]
    · rw [up_nk (by omega), cpy_fil, fil_ne (by omega), up_nk (by omega), up_eq]
    · rw [up_nk (by omega), cpy_fil, fil_ne (by omega), up_eq]
    · rw [up_ne (by omega), cpy_fil, fil_in (by omega), up_ne (by omega), up_ne (by omega), up_ne (by omega), up_ne (by omega), show (0 : Int) + (i - 0) = i by omega]
    · rw [up_ne ha, cpy_fil, fil_ne hb, up_ne ha, up_ne ha, up_ne ha, up_ne ha]
  obtain ⟨M, hMe⟩ : ∃ M : Mm, M = up (cpy (up (up (up (up m o0 0 (m o1 0)) o0 5 (m o1 5)) o0 6 (m o1 6)) o0 7 (m o1 7)) (o1 + 3) 0 (o0 + 3) 0 30) o0 4 (iro (ian (m o0 4) (ixo (w32 (isl 1 (m o1 1) - 1)) (-1))) (m o1 4)) := ⟨_, rfl⟩
  obtain ⟨q1, q2, q3⟩ := hM M hMe
  have t1 : M o1 1 = m o1 1 := q3 _ _ (by omega) (by omega)
  obtain ⟨m', h1, h2, h3⟩ := key (m o1 1).toNat 0 M (w32 (isl 1 (m o1 1) - 1)) (by omega) (by omega)
  rw [t1] at h2
  refine ⟨m', cl_La_takeBackTo (b_La_takeBackTo ?_), ⟨?_, ?_, ?_, ?_, ?_, ?_⟩, fun i h0 h30 => ?_, fun c hc => ?_, fun a b hab => ?_⟩
  · rintro m1 rfl m2 rfl m3 rfl m4 rfl m5 rfl m6 rfl
    have s1 : ∀ k, cpy (up (up (up (up m o0 0 (m o1 0)) o0 5 (up m o0 0 (m o1 0) o1 5)) o0 6 (up (up m o0 0 (m o1 0)) o0 5 (up m o0 0 (m o1 0) o1 5) o1 6)) o0 7 (up (up (up m o0 0 (m o1 0)) o0 5 (up m o0 0 (m o1 0) o1 5)) o0 6 (up (up m o0 0 (m o1 0)) o0 5 (up m o0 0 (m o1 0) o1 5) o1 6) o1 7)) (o1 + 3) 0 (o0 + 3) 0 30 o1 k = m o1 k := by
      intro k
      rw [cpy_fil, fil_ne (by omega), up_ne (by omega), up_ne (by omega), up_ne (by omega), up_ne (by omega)]
    have s2 : cpy (up (up (up (up m o0 0 (m o1 0)) o0 5 (up m o0 0 (m o1 0) o1 5)) o0 6 (up (up m o0 0 (m o1 0)) o0 5 (up m o0 0 (m o1 0) o1 5) o1 6)) o0 7 (up (up (up m o0 0 (m o1 0)) o0 5 (up m o0 0 (m o1 0) o1 5)) o0 6 (up (up m o0 0 (m o1 0)) o0 5 (up m o0 0 (m o1 0) o1 5) o1 6) o1 7)) (o1 + 3) 0 (o0 + 3) 0 30 o0 4 = m o0 4 := by
      rw [cpy_fil, fil_ne (by omega), up_nk (by omega), up_nk (by omega), up_nk (by omega), up_nk (by omega)]
    rw [s1, s1, s2]
    have e5 : up m o0 0 (m o1 0) o1 5 = m o1 5 := up_ne (by omega)
    have e6 : up (up m o0 0 (m o1 0)) o0 5 (m o1 5) o1 6 = m o1 6 := by rw [up_ne (by omega), up_ne (by omega)]
    have e7 : up (up (up m o0 0 (m o1 0)) o0 5 (m o1 5)) o0 6 (m o1 6) o1 7 = m o1 7 := by rw [up_ne (by omega), up_ne (by omega), up_ne (by omega)]
    rw [e5, e6, e7, ← hMe]
    exact h1
  · rw [h3 _ _ (by omega) (by omega)]; exact q1.1
  · rw [h3 _ _ (by omega) (by omega)]; exact q1.2.1
  · rw [h3 _ _ (by omega) (by omega)]; exact q1.2.2.1
  · rw [h3 _ _ (by omega) (by omega)]; exact q1.2.2.2.1
  · rw [h3 _ _ (by omega) (by omega)]; exact q1.2.2.2.2.1
  · rw [h3 _ _ (by omega) (by omega)]; exact q1.2.2.2.2.2
  · rw [h3 _ _ (by omega) (by omega)]; exact q2 i h0 h30
  · obtain ⟨w1, w2⟩ := h2 c hc
    rw [w1, w2, q3 _ _ (by omega) (by omega), q3 _ _ (by omega) (by omega), q3 _ _ (by omega) (by omega), q3 _ _ (by omega) (by omega)]
    have : (((0 : Nat) : Int) ≤ c ∧ c < m o1 1) ↔ c < m o1 1 := by omega
    simp only [this]
    exact ⟨trivial, trivial⟩
  · rw [h3 _ _ (by omega) (by omega), q3 _ _ (by omega) (by omega)]
