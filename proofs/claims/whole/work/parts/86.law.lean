/-! CLAUSES: a law, what has been read -/
theorem c_Tx_beginLaw {d n s : Nat} {m : Mm} {so f : Int} (h : m 82 0 = (n : Nat)) (hn : n < 24) (h5 : m 82 5 = (s : Nat)) (hf : (so = 0 ∧ f = 6) ∨ (so = 1 ∧ f = 9)) : ∃ m', Cl (d + 1) k_Tx_beginLaw [(16, 82), (0, 16 + so)] m (none, m') ∧ m' 82 0 = ((n + 1 : Nat) : Int) ∧ m' 83 (n : Nat) = 16 + so ∧ m' 82 f = 1 ∧ m' 82 (f + 1) = (s : Nat) ∧ ∀ a b, ¬ (a = 82 ∧ (b = 0 ∨ b = f ∨ b = f + 1)) → ¬ (83 ≤ a ∧ a ≤ 85 ∧ b = (n : Int)) → m' a b = m a b := by
  obtain ⟨m1, hm1⟩ : ∃ m1, m1 = up (up (up (up m 83 (n : Nat) (16 + so)) 84 (n : Nat) 0) 85 (n : Nat) 0) 82 0 ((n + 1 : Nat) : Int) := ⟨_, rfl⟩
  have hac := c_Tx_addClause (d := d) (k := 16 + so) (v := 0) (v2 := 0) h hn
  rw [← hm1] at hac
  have e5 : m1 82 5 = (s : Nat) := by rw [hm1, up_nk (by omega), up_ne (by omega), up_ne (by omega), up_ne (by omega)]; exact h5
  refine ⟨up (up m1 82 f 1) 82 (f + 1) (s : Nat), cl_Tx_beginLaw (b_Tx_beginLaw ⟨m1, hac, fun z => ?_, fun z => ?_⟩), ?_, ?_, ?_, ?_, fun a b z1 z2 => ?_⟩
  · obtain ⟨rfl, rfl⟩ : so = 1 ∧ f = 9 := by omega
    rintro m2 rfl
    rintro m3 rfl
    rw [up_nk (by omega), e5]
    rfl
  · obtain ⟨rfl, rfl⟩ : so = 0 ∧ f = 6 := by omega
    rintro m2 rfl
    rintro m3 rfl
    rw [up_nk (by omega), e5]
    rfl
  · rw [up_nk (by omega), up_nk (by omega), hm1, up_eq]
  · rw [up_ne (by omega), up_ne (by omega), hm1, up_ne (by omega), up_ne (by omega), up_ne (by omega), up_eq]
  · rw [up_nk (by omega), up_eq]
  · rw [up_eq]
  · have : up (up m1 82 f 1) 82 (f + 1) (s : Nat) a b = m1 a b := by
      unfold up
      rw [if_neg (by omega), if_neg (by omega)]
    rw [this, hm1]
    unfold up
    rw [if_neg (by omega), if_neg (by omega), if_neg (by omega), if_neg (by omega)]
theorem c_Tx_endLaw {d : Nat} {m : Mm} {so f : Int} (hf : (so = 0 ∧ f = 6) ∨ (so = 1 ∧ f = 9)) : Cl d k_Tx_endLaw [(16, 82), (0, 16 + so)] m (none, up m 82 (f + 2) (m 82 5)) := by
  refine cl_Tx_endLaw (b_Tx_endLaw ⟨fun z => ?_, fun z => ?_⟩)
  · obtain ⟨rfl, rfl⟩ : so = 1 ∧ f = 9 := by omega
    rintro m1 rfl
    rfl
  · obtain ⟨rfl, rfl⟩ : so = 0 ∧ f = 6 := by omega
    rintro m1 rfl
    rfl
/-- a whole sum, by both -/
theorem law_sum {B : Int → Int} {L : Nat} {t so : Int} (hT : TPE B L) (h0 : 0 ≤ t ∧ t ≤ 2043) (hs : so = 0 ∨ so = 1) {q s w : Nat} {m N : Mm} (hC : CSt B L (16 + so) m q s ((0 : Nat) : Int)) (hM : MTk B L N q) (h13 : N 400 13 = t) (h14 : N 400 14 = (w : Nat)) (h15 : N 400 15 = so) (hsq : s ≤ q) (hwq : w ≤ q) :
    (∃ q' s' w' m' N', Cl 80 k_Rd_sum [(15, 80)] m (some (0, 1), m') ∧ Cl 7 k_Mo_summed [(18, 400)] N (some (0, 0), N') ∧ CSt B L (16 + so) m' q' s' ((0 : Nat) : Int) ∧ FCl s m m' ∧ MTk B L N' q' ∧ N' 400 14 = (w' : Nat) ∧ FMo t w N N' ∧ N' 400 13 = t ∧ (q < q' ∧ q' ≤ L ∧ s' ≤ q' ∧ w' ≤ q' ∧ s ≤ s' ∧ w ≤ w') ∧ WX (cC m') (cO t N') (cV t N') so false s s' w w')
    ∨ (∃ f p m' N', 0 < f ∧ Cl 80 k_Rd_sum [(15, 80)] m (some (0, 0), m') ∧ flt_ m' f p ∧ FCf s m m' ∧ Cl 7 k_Mo_summed [(18, 400)] N (some (0, f), N') ∧ N' 400 9 = (p : Nat) ∧ FMo t w N N') := by
  have hL := hT.1
  have hqL := hM.2.2.1
  obtain ⟨N3, hN3⟩ : ∃ N3, N3 = up (up (up N 400 17 0) 400 18 0) 400 19 0 := ⟨_, rfl⟩
  have e4 : ∀ b, b < 17 → N3 400 b = N 400 b := fun b hb => by rw [hN3, up_nk (by omega), up_nk (by omega), up_nk (by omega)]
  have eO : ∀ a b, a ≠ 400 → N3 a b = N a b := fun a b ha => by rw [hN3, up_ne ha, up_ne ha, up_ne ha]
  have hF3 : FMo t w N N3 := fun a b x y z => by
    rw [hN3]
    unfold up
    rw [if_neg (by omega), if_neg (by omega), if_neg (by omega)]
  have hS3 : MSt B L t so N3 q w [] ((0 : Nat) : Int) 0 := ⟨MTk_con hM (fun b hb => e4 b (by omega)) (fun b => eO _ _ (by omega)), ⟨by rw [hN3, up_nk (by omega), up_nk (by omega), up_eq]; rfl, trivial⟩, by rw [e4 _ (by omega)]; exact h13, by rw [e4 _ (by omega)]; exact h14, by rw [e4 _ (by omega)]; exact h15, by rw [hN3, up_nk (by omega), up_eq]; rfl, by rw [hN3, up_eq]⟩
  have smd : ∀ r, lp_ N3 (9, 0) r → Cl 7 k_Mo_summed [(18, 400)] N r := fun r hr => by
    refine cl_Mo_summed (b_Mo_summed ?_)
    rintro m1 rfl
    rintro m2 rfl
    rintro m3 rfl
    rw [← hN3]
    exact hr
  rcases (all_sums hT h0 hs (L - q + 1)).2.1 q s w 0 [] m N3 (by omega) ⟨hC, hS3, hsq, hqL, hwq, by omega, by decide⟩ (fun x r e => absurd e (by simp)) (fun _ => rfl) with ⟨q', s', w', pd, m', N1, g1, g2, g3, g4⟩ | ⟨f, p, f0, ⟨m', y1, y2, y3⟩, N', z1, z2, z3⟩
  · obtain ⟨a1, a2, a3, a4, ⟨a5, a6, a7, a8, a9, a10⟩, a11, a12, a13, a14⟩ := g2
    obtain ⟨e1, e2⟩ := st_app (l := 1) pd [] (fun y hy => by have := a12 y hy; omega) (fun y r e => absurd e (by simp))
    obtain ⟨b1, b2⟩ := shN_b pd
    have hoW : opW (pd ++ []) = -1 := by
      rw [opW_app pd (fun y hy => by have := a12 y hy; omega)]
      rfl
    have hl : (pd ++ []).length = pd.length := by rw [List.append_nil]
    have := (bo_end (d := 0) hT a3 h0 (by omega) (by rw [e1]; omega) (by omega) (by rw [btw_o g4.1 g4.2.1 g4.2.2.1 g4.2.2.2, hoW, if_neg (by decide)]; decide) (by rw [hoW]; unfold prt_; rw [if_neg (by decide), if_neg (by decide), if_neg (by decide), if_neg (by decide)]; decide)).1 (by rw [hoW]; decide)
    rw [e1, e2] at this
    obtain ⟨N2, c1, c2, c3, c4⟩ := this
    refine Or.inl ⟨q', s', w' + pd.length, m', N2, g1, smd _ (a14 _ _ (c4 _)), a1, a2, c1.1, c1.2.2.2.1, (hF3.tr a4 (Nat.le_refl _)).tr c3 a10, c1.2.2.1, ⟨a5, a6, by omega, by omega, a9, by omega⟩, ?_⟩
    exact pnd_w a11 (fun _ _ _ => rfl) c3 c2
  · exact Or.inr ⟨f, p, m', N', f0, y1, y2, y3, smd _ (z3 _), z2, hF3.tr z1 (Nat.le_refl _)⟩
/-- a clause that has been read -/
def ent_ (t : Int) (m N : Mm) (i : Nat) : Prop := 0 ≤ N 403 (t + 1 + 3 * i) ∧ N 403 (t + 1 + 3 * i) ≤ 8 ∧ m 83 (i : Nat) = 16 + N 403 (t + 1 + 3 * i) ∧ (2 ≤ N 403 (t + 1 + 3 * i) → m 84 (i : Nat) = N 403 (t + 2 + 3 * i) ∧ 0 ≤ N 403 (t + 2 + 3 * i) ∧ N 403 (t + 2 + 3 * i) ≤ 60) ∧ (N 403 (t + 1 + 3 * i) = 2 ∨ N 403 (t + 1 + 3 * i) = 6 ∨ N 403 (t + 1 + 3 * i) = 7 → m 85 (i : Nat) = N 403 (t + 3 + 3 * i))
/-- a law that has been read, or not -/
def lw_ (t : Int) (m N : Mm) (n s w : Nat) (f so : Int) : Prop := (m 82 f = 0 ∧ ∀ i : Nat, i < n → N 403 (t + 1 + 3 * i) ≠ so) ∨ (m 82 f = 1 ∧ ∃ i p p' a a' : Nat, i < n ∧ N 403 (t + 1 + 3 * i) = so ∧ (∀ j : Nat, j < i → N 403 (t + 1 + 3 * j) ≠ so) ∧ m 82 (f + 1) = (p : Nat) ∧ m 82 (f + 2) = (p' : Nat) ∧ N 403 (t + 2 + 3 * i) = (a : Nat) ∧ N 403 (t + 3 + 3 * i) = (a' : Nat) ∧ p' ≤ s ∧ a' ≤ w ∧ WX (cC m) (cO t N) (cV t N) so false p p' a a')
def TE_ (t : Int) (m N : Mm) (n s w : Nat) : Prop := m 82 0 = (n : Nat) ∧ n ≤ 24 ∧ (∀ i : Nat, i < n → ent_ t m N i) ∧ lw_ t m N n s w 6 0 ∧ lw_ t m N n s w 9 1 ∧ N 400 20 = m 82 6 + 2 * m 82 9
theorem ent_con {t : Int} {m N m' N' : Mm} {i : Nat} (h : ent_ t m N i) (h1 : ∀ a, 83 ≤ a → a ≤ 85 → m' a (i : Nat) = m a (i : Nat)) (h2 : ∀ b, t + 1 + 3 * (i : Int) ≤ b → b ≤ t + 3 + 3 * (i : Int) → N' 403 b = N 403 b) : ent_ t m' N' i := by
  unfold ent_ at *
  rw [h1 83 (by omega) (by omega), h1 84 (by omega) (by omega), h1 85 (by omega) (by omega), h2 (t + 1 + 3 * (i : Int)) (by omega) (by omega), h2 (t + 2 + 3 * (i : Int)) (by omega) (by omega), h2 (t + 3 + 3 * (i : Int)) (by omega) (by omega)]
  exact h
theorem lw_con {t f so : Int} {m N m' N' : Mm} {n n' s s' w w' : Nat} (h : lw_ t m N n s w f so) (hm : ∀ b, f ≤ b → b ≤ f + 2 → m' 82 b = m 82 b) (hc : ∀ j : Nat, j < s → m' 86 (j : Nat) = m 86 (j : Nat)) (hN : ∀ b, t + 1 ≤ b → b < t + 1 + 3 * (n : Int) → N' 403 b = N 403 b) (hw : ∀ b, t + 73 ≤ b → b < t + 73 + 2 * (w : Int) → N' 403 b = N 403 b) (hs : s ≤ s') (hww : w ≤ w') (hn : n ≤ n') (hx : ∀ i : Nat, n ≤ i → i < n' → N' 403 (t + 1 + 3 * i) ≠ so) : lw_ t m' N' n' s' w' f so := by
  rcases h with ⟨a1, a2⟩ | ⟨a1, i, p, p', a, a', b1, b2, b3, b4, b5, b6, b7, b8, b9, b10⟩
  · refine Or.inl ⟨by rw [hm _ (by omega) (by omega)]; exact a1, fun i hi => ?_⟩
    by_cases h : i < n
    · rw [hN _ (by omega) (by omega)]; exact a2 i h
    · exact hx i (by omega) hi
  · refine Or.inr ⟨by rw [hm _ (by omega) (by omega)]; exact a1, i, p, p', a, a', by omega, by rw [hN _ (by omega) (by omega)]; exact b2, fun j hj => by rw [hN _ (by omega) (by omega)]; exact b3 j hj, by rw [hm _ (by omega) (by omega)]; exact b4, by rw [hm _ (by omega) (by omega)]; exact b5, by rw [hN _ (by omega) (by omega)]; exact b6, by rw [hN _ (by omega) (by omega)]; exact b7, by omega, by omega, WX_ext b10 (fun j _ j2 => hc j (by omega)) (fun j _ j2 => ⟨hw _ (by omega) (by omega), hw _ (by omega) (by omega)⟩)⟩
