/-! CLAUSES: their figures -/
theorem c_Tx_addClause {d n : Nat} {m : Mm} {k v v2 : Int} (h : m 82 0 = (n : Nat)) (hn : n < 24) : Cl d k_Tx_addClause [(16, 82), (0, k), (0, v), (0, v2)] m (none, up (up (up (up m 83 (n : Nat) k) 84 (n : Nat) v) 85 (n : Nat) v2) 82 0 ((n + 1 : Nat) : Int)) := by
  refine cl_Tx_addClause (b_Tx_addClause ⟨fun z => by omega, fun _ => ⟨by omega, ?_⟩⟩)
  rintro m1 rfl
  rw [show (82 : Int) + 1 = 83 from rfl, show (82 : Int) + 2 = 84 from rfl, show (82 : Int) + 3 = 85 from rfl, h, up_ne (by omega), h]
  refine ⟨by omega, ?_⟩
  rintro m2 rfl
  rw [up_ne (by omega), up_ne (by omega), h]
  refine ⟨by omega, ?_⟩
  rintro m3 rfl
  rintro m4 rfl
  rw [up_ne (by omega), up_ne (by omega), up_ne (by omega), h, w32s (by omega)]
/-- what reading leaves as it was: the class's -/
def FRk (k : Int) (m m' : Mm) : Prop := ∀ a b, ¬ (a = 80 ∧ k ≤ b) → ¬ (82 ≤ a ∧ a ≤ 86) → m' a b = m a b
abbrev FRd (m m' : Mm) : Prop := FRk 4 m m'
abbrev FRs (m m' : Mm) : Prop := FRk 6 m m'
theorem FRk.tr {k k2 : Int} {m m1 m2 : Mm} (h : FRk k m m1) (h2 : FRk k2 m1 m2) (hk : k2 ≤ k := by decide) : FRk k2 m m2 := fun a b x y => by rw [h2 a b x y, h a b (by omega) y]
theorem FRd_Cl {k : Int} {s : Nat} {m m' : Mm} (h : FCk k s m m') : FRk k m m' := fun a b x y => h a b x (by omega) (by omega)
/-- what a deed's figures leave as it was: the class's -/
def FDc (n : Nat) (m m' : Mm) : Prop := ∀ a b, ¬ (a = 80 ∧ 6 ≤ b) → ¬ (a = 82 ∧ b = 0) → ¬ (83 ≤ a ∧ a ≤ 85 ∧ b = (n : Int)) → m' a b = m a b
/-- the model's -/
def FDm (x : Int) (N N' : Mm) : Prop := ∀ a b, ¬ (a = 400 ∧ 8 ≤ b ∧ b ≤ 12) → ¬ (a = 403 ∧ x + 1 ≤ b ∧ b ≤ x + 2) → N' a b = N a b
theorem FRd_D {n : Nat} {m m' : Mm} (h : FDc n m m') : FRs m m' := fun a b x y => h a b x (by omega) (by omega)
theorem figure_m {d L q : Nat} {B : Int → Int} {N : Mm} {x lo hi : Int} (hT : TPE B L) (h : MTk B L N q) (hx : 0 ≤ x ∧ x < 2724) (hr : 0 ≤ lo ∧ hi ≤ 9999) : (tkT B L q ≠ 2 → Cl (d + 2) k_Mo_figure [(18, 400), (0, x), (0, lo), (0, hi)] N (some (0, 1), N)) ∧ (tkT B L q = 2 → ¬ (lo ≤ tkV B L q ∧ tkV B L q ≤ hi) → Cl (d + 2) k_Mo_figure [(18, 400), (0, x), (0, lo), (0, hi)] N (some (0, 2), N)) ∧ (tkT B L q = 2 → lo ≤ tkV B L q ∧ tkV B L q ≤ hi → ∃ N', Cl (d + 2) k_Mo_figure [(18, 400), (0, x), (0, lo), (0, hi)] N (some (0, 0), N') ∧ MTk B L N' (nxQ B L q) ∧ N' 403 x = tkV B L q ∧ ∀ a b, ¬ (a = 400 ∧ 8 ≤ b ∧ b ≤ 12) → ¬ (a = 403 ∧ b = x) → N' a b = N a b) := by
  have h' := h
  obtain ⟨a1, a2, a3, a4, a5, a6, a7, a8⟩ := h
  have e2 := tk_2 (q := q) hT.2
  obtain ⟨ev, ev0⟩ := tk_v (B := B) (L := L) (q := q)
  refine ⟨fun z => ?_, fun z z2 => ?_, fun z z2 => ?_⟩
  · exact cl_Mo_figure (b_Mo_figure ⟨fun y => absurd (e2.mpr (by rw [← a4]; exact y)) z, fun _ => rfl⟩)
  · have e11 := a7 (e2.mp z)
    refine cl_Mo_figure (b_Mo_figure ⟨fun _ => ⟨_, _, c_Mo_isIn, fun y => ?_, fun _ => rfl⟩, fun y => absurd (by rw [a4]; exact e2.mp z) y⟩)
    rw [ite_z1] at y
    exact absurd ⟨by omega, by omega⟩ z2
  · have e11 := a7 (e2.mp z)
    have eq1 : dgM B (L - q) q 0 = tkV B L q := by omega
    have hM1 : MTk B L (up N 403 x (tkV B L q)) q := MTk_con h' (fun b _ => up_ne (by omega)) (fun b => up_ne (by omega))
    obtain ⟨N', n1, n2, n3⟩ := adv_m (d := d) hT hM1
    refine ⟨N', cl_Mo_figure (b_Mo_figure ⟨fun _ => ⟨_, _, c_Mo_isIn, fun _ => ⟨hx, ?_⟩, fun y => ?_⟩, fun y => absurd (by rw [a4]; exact e2.mp z) y⟩), n2, by rw [n3 _ _ (by omega), up_eq], fun a b y1 y2 => ?_⟩
    · rintro m2 rfl
      rw [e11, eq1]
      exact ⟨_, n1, rfl⟩
    · rw [Classical.not_not, ite_z] at y
      exact absurd ⟨by omega, by omega⟩ y
    · rw [n3 a b y1]
      unfold up
      rw [if_neg y2]
/-- one figure, by both -/
theorem dd_one {A L q n s : Nat} {B : Int → Int} {m N : Mm} {k lo hi x lw o : Int} (hT : TPE B L) (hC : CSt B L lw m q s o) (hM : MTk B L N q) (hn : m 82 0 = (n : Nat)) (hn2 : n < 24) (hx : 0 ≤ x ∧ x + 1 < 2724) (hr : 0 ≤ lo ∧ hi ≤ 9999) (hA : 3 ≤ A) :
    (∃ m' N', Cl A k_Rd_oneNumber [(15, 80), (0, k), (0, lo), (0, hi)] m (some (0, 1), m') ∧ Cl A k_Mo_figure [(18, 400), (0, x + 1), (0, lo), (0, hi)] N (some (0, 0), N') ∧ CSt B L lw m' (nxQ B L q) s o ∧ MTk B L N' (nxQ B L q) ∧ (m' 82 0 = ((n + 1 : Nat) : Int) ∧ m' 83 (n : Nat) = k ∧ m' 84 (n : Nat) = N' 403 (x + 1) ∧ lo ≤ N' 403 (x + 1) ∧ N' 403 (x + 1) ≤ hi) ∧ FDc n m m' ∧ (∀ a b, ¬ (a = 400 ∧ 8 ≤ b ∧ b ≤ 12) → ¬ (a = 403 ∧ b = x + 1) → N' a b = N a b) ∧ q < nxQ B L q ∧ nxQ B L q ≤ L)
    ∨ (∃ f m', 0 < f ∧ Cl A k_Rd_oneNumber [(15, 80), (0, k), (0, lo), (0, hi)] m (some (0, 0), m') ∧ flt_ m' f q ∧ FRd m m' ∧ Cl A k_Mo_figure [(18, 400), (0, x + 1), (0, lo), (0, hi)] N (some (0, f), N)) := by
  obtain ⟨d, rfl⟩ : ∃ d, A = d + 3 := ⟨A - 3, by omega⟩
  obtain ⟨c1, c2, c3⟩ := isNumber_c (d := d + 1) (lo := lo) (hi := hi) hC
  obtain ⟨g1, g2, g3⟩ := figure_m (d := d + 1) (x := x + 1) (lo := lo) (hi := hi) hT hM (by omega) hr
  have hq := hC.1.2.2.1
  by_cases h2 : tkT B L q = 2
  · by_cases hv : lo ≤ tkV B L q ∧ tkV B L q ≤ hi
    · obtain ⟨nx1, nx2, nx3⟩ := nxQ_v (B := B) hq
      have nx4 := nx3 (by omega)
      obtain ⟨N', y1, y2, y3, y4⟩ := g3 h2 hv
      have e8 : m 80 8 = tkV B L q := hC.1.2.2.2.2.2.2 h2
      obtain ⟨m1, hm1⟩ : ∃ m1, m1 = up (up (up (up m 83 (n : Nat) k) 84 (n : Nat) (tkV B L q)) 85 (n : Nat) 0) 82 0 ((n + 1 : Nat) : Int) := ⟨_, rfl⟩
      have hac := c_Tx_addClause (d := d + 2) (k := k) (v := tkV B L q) (v2 := 0) hn hn2
      rw [← hm1] at hac
      have e80 : ∀ b, m1 80 b = m 80 b := fun b => by rw [hm1, up_ne (by omega), up_ne (by omega), up_ne (by omega), up_ne (by omega)]
      have hC1 : CTk B L m1 q := CTk_con hC.1 (fun b _ => e80 b) (fun b => by rw [hm1, up_ne (by omega), up_ne (by omega), up_ne (by omega), up_ne (by omega)])
      obtain ⟨m', k1, k2, k3⟩ := adv_c (d := d) hT hC1
      refine Or.inl ⟨m', N', cl_Rd_oneNumber (b_Rd_oneNumber ⟨1, m, c1 h2 hv, fun _ => ⟨m1, by rw [e8]; exact hac, m', k1, rfl⟩, fun z => absurd (by decide) z⟩), y1, ⟨k2, ?_, ?_, ?_⟩, y2, ⟨?_, ?_, ?_, by rw [y3]; exact hv.1, by rw [y3]; exact hv.2⟩, fun a b z1 z2 z3 => ?_, y4, nx4, nx1⟩
      · rw [k3 _ _ (by omega), hm1, up_nk (by omega), up_ne (by omega), up_ne (by omega), up_ne (by omega)]; exact hC.2.1
      · rw [k3 _ _ (by omega), e80]; exact hC.2.2.1
      · rw [k3 _ _ (by omega), e80]; exact hC.2.2.2
      · rw [k3 _ _ (by omega), hm1, up_eq]
      · rw [k3 _ _ (by omega), hm1, up_ne (by omega), up_ne (by omega), up_ne (by omega), up_eq]
      · rw [k3 _ _ (by omega), hm1, up_ne (by omega), up_ne (by omega), up_eq, y3]
      · rw [k3 a b (by omega), hm1]
        unfold up
        rw [if_neg (by omega), if_neg (by omega), if_neg (by omega), if_neg (by omega)]
    · obtain ⟨m', k1, k2, k3⟩ := c2 h2 hv
      exact Or.inr ⟨2, m', by decide, cl_Rd_oneNumber (b_Rd_oneNumber ⟨0, m', k1, fun z => absurd rfl z, fun _ => rfl⟩), k2, FRd_Cl k3, g2 h2 hv⟩
  · obtain ⟨m', k1, k2, k3⟩ := c3 h2
    exact Or.inr ⟨1, m', by decide, cl_Rd_oneNumber (b_Rd_oneNumber ⟨0, m', k1, fun z => absurd rfl z, fun _ => rfl⟩), k2, FRd_Cl k3, g1 h2⟩
/-- two figures and a word between, by both -/
theorem dd_two {A L q n s i : Nat} {B : Int → Int} {m N : Mm} {k hi hi2 x lw o W : Int} {wd : List Int} (hT : TPE B L) (hC : CSt B L lw m q s o) (hM : MTk B L N q) (hn : m 82 0 = (n : Nat)) (hn2 : n < 24) (hx : 0 ≤ x ∧ x + 2 < 2724) (hr : hi ≤ 9999 ∧ hi2 ≤ 9999) (hA : 4 ≤ A) (hi27 : i < 27) (hwd : WDS[i]? = some wd) (hW : W = 16 + (i : Int)) :
    (∃ q' m1 m' N', Cl A k_Rd_oneNumber [(15, 80), (0, k), (0, 0), (0, hi)] m (some (0, 1), m1) ∧ Cl A k_Rd_secondNumber [(15, 80), (0, W), (0, hi2)] m1 (some (0, 1), m') ∧ Cl (A + 1) k_Mo_pair [(18, 400), (0, x), (0, hi), (1, (pkw wd : Nat)), (0, hi2)] N (some (0, 0), N') ∧ CSt B L lw m' q' s o ∧ MTk B L N' q' ∧ (m' 82 0 = ((n + 1 : Nat) : Int) ∧ m' 83 (n : Nat) = k ∧ m' 84 (n : Nat) = N' 403 (x + 1) ∧ 0 ≤ N' 403 (x + 1) ∧ N' 403 (x + 1) ≤ hi ∧ m' 85 (n : Nat) = N' 403 (x + 2)) ∧ FDc n m m' ∧ FDm x N N' ∧ q < q' ∧ q' ≤ L)
    ∨ (∃ f p m' N', 0 < f ∧ (Cl A k_Rd_oneNumber [(15, 80), (0, k), (0, 0), (0, hi)] m (some (0, 0), m') ∨ ∃ m1, Cl A k_Rd_oneNumber [(15, 80), (0, k), (0, 0), (0, hi)] m (some (0, 1), m1) ∧ Cl A k_Rd_secondNumber [(15, 80), (0, W), (0, hi2)] m1 (some (0, 0), m')) ∧ flt_ m' f p ∧ FRd m m' ∧ Cl (A + 1) k_Mo_pair [(18, 400), (0, x), (0, hi), (1, (pkw wd : Nat)), (0, hi2)] N (some (0, f), N') ∧ N' 400 9 = (p : Nat) ∧ FDm x N N') := by
  have ex1 : w32 (x + 1) = x + 1 := w32n (by omega) (by omega)
  have ex2 : w32 (x + 2) = x + 2 := w32n (by omega) (by omega)
  rcases dd_one (A := A) (k := k) (lo := 0) (hi := hi) (x := x) hT hC hM hn hn2 (by omega) (by omega) (by omega) with ⟨m1, N1, a1, a2, a3, a4, ⟨a5, a6, a7, a8, a9⟩, a10, a11, a12, a13⟩ | ⟨f, m', f0, a1, a2, a3, a4⟩
  rotate_left
  · refine Or.inr ⟨f, q, m', N, f0, Or.inl a1, a2, a3, cl_Mo_pair (b_Mo_pair ?_), hM.2.2.2.2.1, fun _ _ _ _ => rfl⟩
    rw [ex1]
    exact ⟨f, N, a4, fun z => by omega, fun _ => rfl⟩
  have hF1 : FDm x N N1 := fun a b y1 y2 => a11 a b y1 (by omega)
  generalize hq1 : nxQ B L q = q1 at *
  have e6 : m1 80 6 = tkT B L q1 := a3.1.2.2.2.1
  have hw := isW_m (d := A) (i := i) hT a4 hi27 hwd
  rw [← hW] at hw
  have pr : ∀ r, (∃ (v2 : Int) (m2 : Mm), Cl A k_Mo_isWord [(18, 400), (1, (pkw wd : Nat))] N1 (some (0, v2), m2) ∧ ((¬ v2 = 0 → ∃ (m3 : Mm), Cl A k_Mo_nextToken [(18, 400)] m2 (none, m3) ∧ (∃ (v4 : Int) (m4 : Mm), Cl A k_Mo_figure [(18, 400), (0, x + 2), (0, 0), (0, hi2)] m3 (some (0, v4), m4) ∧ (r = (some (0, v4), m4)))) ∧ (¬ (¬ v2 = 0) → r = (some (0, 1), m2)))) → Cl (A + 1) k_Mo_pair [(18, 400), (0, x), (0, hi), (1, (pkw wd : Nat)), (0, hi2)] N r := fun r hr => by
    refine cl_Mo_pair (b_Mo_pair ?_)
    rw [ex1, ex2]
    exact ⟨0, N1, a2, fun _ => hr, fun z => absurd rfl z⟩
  obtain ⟨d, rfl⟩ : ∃ d, A = d + 4 := ⟨A - 4, by omega⟩
  by_cases hW1 : tkT B L q1 = W
  rotate_left
  · rw [if_neg hW1] at hw
    obtain ⟨m', k1, k2, k3⟩ := refuse_c (d := d + 3) (f := 1) a3
    exact Or.inr ⟨1, q1, m', N1, by decide, Or.inr ⟨m1, a1, cl_Rd_secondNumber (b_Rd_secondNumber ⟨fun z => absurd (by rw [← e6]; exact z) hW1, fun _ => ⟨0, m', k1, Or.inl rfl, rfl⟩⟩)⟩, k2, (FRd_D a10).tr (FRd_Cl k3), pr _ ⟨_, _, hw, fun z => absurd rfl z, fun _ => rfl⟩, a4.2.2.2.2.1, hF1⟩
  rw [if_pos hW1] at hw
  obtain ⟨nx1, nx2, nx3⟩ := nxQ_v (B := B) a13
  have nx4 := nx3 (by omega)
  obtain ⟨m2, c1, c2, c3⟩ := adv_c (d := d + 1) hT a3.1
  have hC2 : CSt B L lw m2 (nxQ B L q1) s o := ⟨c2, by rw [c3 _ _ (by omega)]; exact a3.2.1, by rw [c3 _ _ (by omega)]; exact a3.2.2.1, by rw [c3 _ _ (by omega)]; exact a3.2.2.2⟩
  obtain ⟨N2, n1, n2, n3⟩ := adv_m (d := d + 3) hT a4
  generalize hq2 : nxQ B L q1 = q2 at *
  obtain ⟨i1, i2, i3⟩ := isNumber_c (d := d + 2) (lo := 0) (hi := hi2) hC2
  obtain ⟨g1, g2, g3⟩ := figure_m (d := d + 2) (x := x + 2) (lo := 0) (hi := hi2) hT n2 (by omega) (by omega)
  have hF2 : FDm x N N2 := fun a b y1 y2 => by rw [n3 a b y1]; exact hF1 a b y1 y2
  have hFd2 : FRs m m2 := (FRd_D a10).tr (fun a b y1 y2 => c3 a b (by omega))
  have e0 : m2 82 0 = ((n + 1 : Nat) : Int) := by rw [c3 _ _ (by omega)]; exact a5
  have sec : ∀ r, (∃ (v2 : Int) (m3 : Mm), Cl (d + 3) k_Rd_isNumber [(15, 80), (0, 0), (0, hi2)] m2 (some (0, v2), m3) ∧ ((¬ v2 = 0 → (m3 82 0 ≤ 0 → ∃ (m5 : Mm), Cl (d + 3) k_Rd_advance [(15, 80)] m3 (none, m5) ∧ (r = (some (0, 1), m5))) ∧ (¬ (m3 82 0 ≤ 0) → (0 ≤ w32 ((m3 82 0) - 1) ∧ w32 ((m3 82 0) - 1) < 24) ∧ (∀ m4 : Mm, m4 = up m3 85 (w32 ((m3 82 0) - 1)) (m3 80 8) → (∃ (m5 : Mm), Cl (d + 3) k_Rd_advance [(15, 80)] m4 (none, m5) ∧ (r = (some (0, 1), m5)))))) ∧ (¬ (¬ v2 = 0) → r = (some (0, 0), m3)))) → Cl (d + 4) k_Rd_secondNumber [(15, 80), (0, W), (0, hi2)] m1 r := fun r hr => cl_Rd_secondNumber (b_Rd_secondNumber ⟨fun _ => ⟨m2, c1, hr⟩, fun z => absurd (by rw [e6]; exact hW1) z⟩)
  by_cases h2 : tkT B L q2 = 2
  rotate_left
  · obtain ⟨m', k1, k2, k3⟩ := i3 h2
    exact Or.inr ⟨1, q2, m', N2, by decide, Or.inr ⟨m1, a1, sec _ ⟨0, m', k1, fun z => absurd rfl z, fun _ => rfl⟩⟩, k2, hFd2.tr (FRd_Cl k3), pr _ ⟨_, _, hw, fun _ => ⟨N2, n1, 1, N2, g1 h2, rfl⟩, fun z => absurd (by decide) z⟩, n2.2.2.2.2.1, hF2⟩
  by_cases hv : 0 ≤ tkV B L q2 ∧ tkV B L q2 ≤ hi2
  rotate_left
  · obtain ⟨m', k1, k2, k3⟩ := i2 h2 hv
    exact Or.inr ⟨2, q2, m', N2, by decide, Or.inr ⟨m1, a1, sec _ ⟨0, m', k1, fun z => absurd rfl z, fun _ => rfl⟩⟩, k2, hFd2.tr (FRd_Cl k3), pr _ ⟨_, _, hw, fun _ => ⟨N2, n1, 2, N2, g2 h2 hv, rfl⟩, fun z => absurd (by decide) z⟩, n2.2.2.2.2.1, hF2⟩
  obtain ⟨N', y1, y2, y3, y4⟩ := g3 h2 hv
  have e8 : m2 80 8 = tkV B L q2 := hC2.1.2.2.2.2.2.2 h2
  have hC3 : CTk B L (up m2 85 (n : Nat) (tkV B L q2)) q2 := CTk_con hC2.1 (fun b _ => up_ne (by omega)) (fun b => up_ne (by omega))
  obtain ⟨m', k1, k2, k3⟩ := adv_c (d := d + 1) hT hC3
  obtain ⟨ox1, ox2, ox3⟩ := nxQ_v (B := B) nx1
  have en : w32 (((n + 1 : Nat) : Int) - 1) = (n : Nat) := by rw [w32n (by omega) (by omega)]; omega
  have G : ∀ a b, ¬ (a = 80 ∧ 6 ≤ b ∧ b ≤ 9) → ¬ (a = 85 ∧ b = (n : Int)) → m' a b = m1 a b := fun a b z1 z2 => by
    rw [k3 a b z1]
    unfold up
    rw [if_neg z2, c3 a b z1]
  refine Or.inl ⟨nxQ B L q2, m1, m', N', a1, sec _ ⟨1, m2, i1 h2 hv, fun _ => ⟨fun z => by omega, fun _ => ?_⟩, fun z => absurd (by decide) z⟩, pr _ ⟨_, _, hw, fun _ => ⟨N2, n1, 0, N', y1, rfl⟩, fun z => absurd (by decide) z⟩, ⟨k2, ?_, ?_, ?_⟩, y2, ⟨?_, ?_, ?_, ?_, ?_, ?_⟩, fun a b z1 z2 z3 => ?_, fun a b z1 z2 => ?_, by omega, ox1⟩
  · rw [e0, en, e8]
    refine ⟨by omega, ?_⟩
    rintro m4 rfl
    exact ⟨m', k1, rfl⟩
  · rw [G _ _ (by omega) (by omega)]; exact a3.2.1
  · rw [G _ _ (by omega) (by omega)]; exact a3.2.2.1
  · rw [G _ _ (by omega) (by omega)]; exact a3.2.2.2
  · rw [G _ _ (by omega) (by omega)]; exact a5
  · rw [G _ _ (by omega) (by omega)]; exact a6
  · rw [G _ _ (by omega) (by omega), a7, y4 _ _ (by omega) (by omega), n3 _ _ (by omega)]
  · rw [y4 _ _ (by omega) (by omega), n3 _ _ (by omega)]; exact a8
  · rw [y4 _ _ (by omega) (by omega), n3 _ _ (by omega)]; exact a9
  · rw [k3 _ _ (by omega), up_eq, y3]
  · rw [G a b (by omega) (by omega)]
    exact a10 a b z1 z2 z3
  · rw [y4 a b z1 (by omega)]
    exact hF2 a b z1 z2
