/-! THE MODEL'S LOOP: behind a whole one -/
def ENDG (d : Nat) (m1 : Mm) (r : Option Vv × Mm) : Prop := ∀ m2 : Mm, m2 = up m1 400 19 1 → ((m2 400 17 = 0 → r = (some (0, 0), m2)) ∧ (¬ (m2 400 17 = 0) → (0 ≤ w32 ((m2 400 17) - 1) ∧ w32 ((m2 400 17) - 1) < 160) ∧ ((m2 406 (w32 ((m2 400 17) - 1)) = 41 → ∃ (v3 : Int) (m3 : Mm), Cl d k_Mo_w2 [(0, 111), (0, 102)] m2 (some (1, v3), m3) ∧ (∃ (v4 : Int) (m4 : Mm), Cl d k_Mo_isWord [(18, 400), (1, v3)] m3 (some (0, v4), m4) ∧ ((¬ v4 = 0 → ∃ (m5 : Mm), Cl d k_Mo_nextToken [(18, 400)] m4 (none, m5) ∧ ((0 ≤ w32 ((m5 400 17) - 1) ∧ w32 ((m5 400 17) - 1) < 160) ∧ (∀ m6 : Mm, m6 = up m5 406 (w32 ((m5 400 17) - 1)) 4 → (∀ m7 : Mm, m7 = up m6 400 19 0 → (r = (some (0, 0), m7)))))) ∧ (¬ (¬ v4 = 0) → r = (some (0, 1), m4))))) ∧ (¬ (m2 406 (w32 ((m2 400 17) - 1)) = 41) → r = (some (0, 0), m2)))))
def RE2 (d : Nat) (N : Mm) (r : Option Vv × Mm) : Prop := ∃ m1, Cl d k_Mo_settle [(18, 400), (0, 7)] N (none, m1) ∧ ∃ v N1, ENDG d m1 (some (0, v), N1) ∧ 0 ≤ v ∧ (0 < v → r = (some (0, v), N1)) ∧ (v = 0 → Ev (d + 3) K_Mo_summed 0 9 [(18, 400), (0, 0)] [] N1 r)
theorem RE2_RE {d : Nat} {N : Mm} {r : Option Vv × Mm} (h : RE2 d N r) : RE (d + 1) N r := by
  obtain ⟨m1, h1, v, N1, h2, h3, h4, h5⟩ := h
  exact ⟨v, N1, cl_Mo_endOne (b_Mo_endOne ⟨m1, h1, h2⟩), h3, h4, h5⟩
theorem settle_stop {d : Nat} {l : Int} {N : Mm} {π : List Int} (hP : PIL N π) (hl : π.length ≤ 160) (hr : ∀ x r, π = x :: r → rk x < l) : Cl (d + 1) k_Mo_settle [(18, 400), (0, l)] N (none, N) := by
  cases π with
  | nil =>
    have e : N 400 17 = 0 := hP.1
    exact cl_Mo_settle (b_Mo_settle ⟨fun _ => rfl, fun z => absurd (by omega) z⟩)
  | cons x r =>
    obtain ⟨p1, p2, p3⟩ := hP
    rw [List.length_cons] at p1 hl
    have e1 : w32 (N 400 17 - 1) = (r.length : Nat) := by rw [p1, w32n (by omega) (by omega)]; omega
    refine cl_Mo_settle (b_Mo_settle ⟨fun z => by omega, fun _ => ?_⟩)
    rw [e1, p2]
    exact ⟨by omega, _, _, c_Mo_rank, fun _ => rfl, fun z => absurd (hr x r rfl) z⟩
/-- one that binds as closely is done, and settling goes on -/
theorem settle_step {d L q w : Nat} {B : Int → Int} {l t so o wh x : Int} {N : Mm} {π : List Int} (h : MSt B L t so N q w (x :: π) o wh) (h0 : 0 ≤ t ∧ t ≤ 2043) (hw : w < 304) (hl : π.length < 160) (ho : -100 ≤ o ∧ o ≤ 100) (hr : ¬ rk x < l) : ∃ N', MSt B L t so N' q (w + 1) π (o - shu x) wh ∧ N' 403 (t + 73 + 2 * w) = x ∧ N' 403 (t + 74 + 2 * w) = 0 ∧ FMo t w N N' ∧ ∀ R : Option Vv × Mm, Cl (d + 1) k_Mo_settle [(18, 400), (0, l)] N' R → Cl (d + 1) k_Mo_settle [(18, 400), (0, l)] N R := by
  obtain ⟨hM, ⟨p1, p2, p3⟩, g13, g14, g15, g18, g19⟩ := h
  rw [List.length_cons] at p1
  have e1 : w32 (N 400 17 - 1) = (π.length : Nat) := by rw [p1, w32n (by omega) (by omega)]; omega
  obtain ⟨M2, hM2⟩ : ∃ M2, M2 = up N 400 17 (π.length : Nat) := ⟨_, rfl⟩
  have a13 : M2 400 13 = t := by rw [hM2, up_nk (by omega)]; exact g13
  have a14 : M2 400 14 = (w : Nat) := by rw [hM2, up_nk (by omega)]; exact g14
  have a17 : M2 400 17 = (π.length : Nat) := by rw [hM2, up_eq]
  have a6 : ∀ b, M2 406 b = N 406 b := fun b => by rw [hM2, up_ne (by omega)]
  have hem := c_Mo_emit (d := d) (x := x) (y := 0) a13 h0 a14 hw
  obtain ⟨M3, hM3⟩ : ∃ M3, M3 = up (up (up M2 403 (t + 73 + 2 * w) x) 403 (t + 74 + 2 * w) 0) 400 14 ((w + 1 : Nat) : Int) := ⟨_, rfl⟩
  rw [← hM3] at hem
  have b14 : M3 400 14 = ((w + 1 : Nat) : Int) := by rw [hM3, up_eq]
  have b17 : M3 400 17 = (π.length : Nat) := by rw [hM3, up_nk (by omega), up_ne (by omega), up_ne (by omega)]; exact a17
  have b4 : ∀ b, b ≠ 14 → b ≠ 17 → M3 400 b = N 400 b := fun b x1 x2 => by rw [hM3, up_nk x1, up_ne (by omega), up_ne (by omega), hM2, up_nk x2]
  have b18 : M3 400 18 = o := by rw [b4 _ (by omega) (by omega)]; exact g18
  have b6 : ∀ b, M3 406 b = N 406 b := fun b => by rw [hM3, up_ne (by omega), up_ne (by omega), up_ne (by omega)]; exact a6 b
  have bF : ∀ a b, a ≠ 400 → ¬ (a = 403 ∧ t + 73 + 2 * w ≤ b) → M3 a b = N a b := fun a b z1 z2 => by
    rw [hM3, hM2]
    unfold up
    rw [if_neg (by omega), if_neg (by omega), if_neg (by omega), if_neg (by omega)]
  have hsh : shu x = 1 ∨ shu x = 0 := by unfold shu; split <;> omega
  obtain ⟨M, hMd⟩ : ∃ M, M = (if shu x = 1 then up M3 400 18 (o - 1) else M3) := ⟨_, rfl⟩
  have g : ∀ a b, ¬ (a = 400 ∧ b = 18) → M a b = M3 a b := fun a b z => by
    rw [hMd]
    split
    · unfold up
      rw [if_neg z]
    · rfl
  have gg : M 400 18 = o - shu x := by
    rw [hMd]
    rcases hsh with q | q
    · rw [if_pos q, up_eq, q]
    · rw [if_neg (by omega), b18, q]; omega
  refine ⟨M, ⟨MTk_con hM (fun b hb => by rw [g _ _ (by omega), b4 _ (by omega) (by omega)]) (fun b => by rw [g _ _ (by omega), bF _ _ (by omega) (by omega)]), ⟨by rw [g _ _ (by omega)]; exact b17, pil_con π p3 (fun b _ _ => by rw [g _ _ (by omega), b6])⟩, by rw [g _ _ (by omega), b4 _ (by omega) (by omega)]; exact g13, by rw [g _ _ (by omega)]; exact b14, by rw [g _ _ (by omega), b4 _ (by omega) (by omega)]; exact g15, gg, by rw [g _ _ (by omega), b4 _ (by omega) (by omega)]; exact g19⟩, ?_, ?_, fun a b x1 x2 x3 => ?_, fun R hR => ?_⟩
  · rw [g _ _ (by omega), hM3, up_ne (by omega), up_nk (by omega), up_eq]
  · rw [g _ _ (by omega), hM3, up_ne (by omega), up_eq]
  · rw [g _ _ (by omega)]
    by_cases ha : a = 400
    · rw [ha, b4 b (by omega) (by omega)]
    · exact bF a b ha x2
  · obtain ⟨K, hK1, hK2, hK3⟩ := hR
    obtain rfl := Option.some.inj hK1.symm
    have hK3' : Ev (d + 1) K_Mo_settle 3 0 [(18, 400), (0, l)] [] M R := hK3
    refine cl_Mo_settle (b_Mo_settle ⟨fun z => by omega, fun _ => ?_⟩)
    rw [e1, p2]
    refine ⟨by omega, _, _, c_Mo_rank, fun z => absurd z hr, fun _ => ?_⟩
    rintro m2 hm2
    rw [e1, ← hM2] at hm2
    subst hm2
    rw [a17, a6, p2]
    refine ⟨by omega, _, hem, by rw [b17]; omega, ?_⟩
    rw [b17, b6, p2]
    refine ⟨_, _, c_Mo_rank, fun z => ?_, fun z => ⟨by rw [b17]; omega, fun z2 => ?_, fun z2 => ?_⟩⟩
    · rintro m5 rfl
      rw [b18, w32n (by omega) (by omega)]
      rw [hMd, if_pos (by unfold shu; rw [if_pos (Or.inl z)])] at hK3'
      exact hK3'
    · rw [b17, b6, p2] at z2
      rw [hMd, if_neg (by unfold shu; rw [if_neg (by rintro (y | y); exact z y; exact z2 y)]; omega)] at hK3'
      exact hK3'
    · rw [b17, b6, p2, Classical.not_not] at z2
      rintro m6 rfl
      rw [b18, w32n (by omega) (by omega)]
      rw [hMd, if_pos (by unfold shu; rw [if_pos (Or.inr z2)])] at hK3'
      exact hK3'
/-- a unary one is done -/
theorem RE2_pop {d L q w : Nat} {B : Int → Int} {t so o wh x : Int} {N : Mm} {π : List Int} (h : MSt B L t so N q w (x :: π) o wh) (h0 : 0 ≤ t ∧ t ≤ 2043) (hw : w < 304) (hl : π.length < 160) (ho : -100 ≤ o ∧ o ≤ 100) (hr : rk x = 7) : ∃ N', MSt B L t so N' q (w + 1) π (o - 1) wh ∧ N' 403 (t + 73 + 2 * w) = x ∧ FMo t w N N' ∧ ∀ r : Option Vv × Mm, RE2 (d + 1) N' r → RE2 (d + 1) N r := by
  obtain ⟨N', c1, c2, c3, c4, c5⟩ := settle_step (d := d) (l := 7) h h0 hw hl ho (by omega)
  have e : shu x = 1 := by unfold shu; rw [if_pos (Or.inl hr)]
  rw [e] at c1
  exact ⟨N', c1, c2, c4, fun r ⟨m1, k1, k2⟩ => ⟨m1, c5 _ k1, k2⟩⟩
/-- nothing waits for it: it is whole -/
theorem RE2_stop {d L q w : Nat} {B : Int → Int} {t so o wh : Int} {N : Mm} {π : List Int} (h : MSt B L t so N q w π o wh) (hl : π.length ≤ 160) (hr : ∀ x r, π = x :: r → rk x < 7 ∧ x ≠ 41) : MSt B L t so (up N 400 19 1) q w π o 1 ∧ FMo t w N (up N 400 19 1) ∧ ∀ r : Option Vv × Mm, Ev (d + 4) K_Mo_summed 0 9 [(18, 400), (0, 0)] [] (up N 400 19 1) r → RE2 (d + 1) N r := by
  obtain ⟨hM, hP, g13, g14, g15, g18, g19⟩ := h
  refine ⟨⟨MTk_con hM (fun b hb => up_nk (by omega)) (fun b => up_ne (by omega)), PIL_con hP (up_nk (by omega)) (fun b => up_ne (by omega)), by rw [up_nk (by omega)]; exact g13, by rw [up_nk (by omega)]; exact g14, by rw [up_nk (by omega)]; exact g15, by rw [up_nk (by omega)]; exact g18, up_eq⟩, fun a b x y z => ?_, fun r hr2 => ⟨N, settle_stop hP hl (fun x r e => (hr x r e).1), 0, up N 400 19 1, ?_, by omega, fun z => by omega, fun _ => hr2⟩⟩
  · unfold up
    rw [if_neg (by omega)]
  · rintro m2 rfl
    refine ⟨fun _ => rfl, fun z => ?_⟩
    rw [up_nk (by omega)] at z
    cases π with
    | nil => exact absurd hP.1 z
    | cons x r =>
      obtain ⟨p1, p2, p3⟩ := hP
      rw [List.length_cons] at p1 hl
      have e1 : w32 (N 400 17 - 1) = (r.length : Nat) := by rw [p1, w32n (by omega) (by omega)]; omega
      rw [up_nk (by omega), e1, up_ne (by omega), p2]
      exact ⟨by omega, fun y => absurd y (hr x r rfl).2, fun _ => rfl⟩
/-- behind the first of far its of comes -/
theorem RE2_far {d L q w : Nat} {B : Int → Int} {t so o wh : Int} {N : Mm} {π : List Int} (hT : TPE B L) (h : MSt B L t so N q w (41 :: π) o wh) (hl : π.length < 160) : (tkT B L q = 34 → ∃ N2, MSt B L t so N2 (nxQ B L q) w (4 :: π) o 0 ∧ FMo t w N N2 ∧ ∀ r : Option Vv × Mm, Ev (d + 4) K_Mo_summed 0 9 [(18, 400), (0, 0)] [] N2 r → RE2 (d + 1) N r) ∧ (tkT B L q ≠ 34 → RE2 (d + 1) N (some (0, 1), up N 400 19 1)) := by
  obtain ⟨hM, hP, g13, g14, g15, g18, g19⟩ := h
  have hst := settle_stop (d := d) (l := 7) hP (by rw [List.length_cons]; omega) (fun x r e => by obtain ⟨rfl, _⟩ := List.cons.inj e; decide)
  obtain ⟨p1, p2, p3⟩ := hP
  rw [List.length_cons] at p1
  have e1 : w32 (N 400 17 - 1) = (π.length : Nat) := by rw [p1, w32n (by omega) (by omega)]; omega
  have hM1 : MTk B L (up N 400 19 1) q := MTk_con hM (fun b hb => up_nk (by omega)) (fun b => up_ne (by omega))
  have w34 := isW_m (d := d + 1) (i := 18) hT hM1 (by decide) rfl
  rw [show (16 : Int) + ((18 : Nat) : Int) = 34 from rfl] at w34
  refine ⟨fun hq => ?_, fun hq => ?_⟩
  · obtain ⟨M5, n1, n2, n3⟩ := adv_m (d := d) hT hM1
    rw [if_pos hq] at w34
    have f17 : M5 400 17 = ((π.length + 1 : Nat) : Int) := by rw [n3 _ _ (by omega), up_nk (by omega)]; exact p1
    have e5 : w32 (M5 400 17 - 1) = (π.length : Nat) := by rw [f17, w32n (by omega) (by omega)]; omega
    have k4 : ∀ b, b ≠ 19 → ¬ (8 ≤ b ∧ b ≤ 12) → M5 400 b = N 400 b := fun b x1 x2 => by rw [n3 _ _ (by omega), up_nk x1]
    refine ⟨up (up M5 406 (π.length : Nat) 4) 400 19 0, ⟨MTk_con n2 (fun b hb => by rw [up_nk (by omega), up_ne (by omega)]) (fun b => by rw [up_ne (by omega), up_ne (by omega)]), ⟨?_, ?_, ?_⟩, by rw [up_nk (by omega), up_ne (by omega), k4 _ (by omega) (by omega)]; exact g13, by rw [up_nk (by omega), up_ne (by omega), k4 _ (by omega) (by omega)]; exact g14, by rw [up_nk (by omega), up_ne (by omega), k4 _ (by omega) (by omega)]; exact g15, by rw [up_nk (by omega), up_ne (by omega), k4 _ (by omega) (by omega)]; exact g18, up_eq⟩, fun a b x y z => ?_, fun r hr => ⟨N, hst, 0, up (up M5 406 (π.length : Nat) 4) 400 19 0, ?_, by omega, fun z => by omega, fun _ => hr⟩⟩
    · rw [up_nk (by omega), up_ne (by omega), f17, List.length_cons]
    · rw [up_ne (by omega), up_eq]
    · exact pil_con π p3 (fun b b0 b1 => by rw [up_ne (by omega), up_nk (by omega), n3 _ _ (by omega), up_ne (by omega)])
    · have : up (up M5 406 (π.length : Nat) 4) 400 19 0 a b = M5 a b := by
        unfold up
        rw [if_neg (by omega), if_neg (by omega)]
      rw [this, n3 a b (by omega)]
      unfold up
      rw [if_neg (by omega)]
    · rintro m2 rfl
      refine ⟨fun z => ?_, fun _ => ?_⟩
      · rw [up_nk (by omega), p1] at z; omega
      · rw [up_nk (by omega), e1, up_ne (by omega), p2]
        refine ⟨by omega, fun _ => ⟨_, _, c_Mo_w2 (by decide), _, _, w34, fun _ => ⟨_, n1, ?_⟩, fun z => absurd (by decide) z⟩, fun z => absurd rfl z⟩
        rw [e5]
        refine ⟨by omega, ?_⟩
        rintro m6 rfl
        rintro m7 rfl
        rfl
  · rw [if_neg hq] at w34
    refine ⟨N, hst, 1, up N 400 19 1, ?_, by omega, fun _ => rfl, fun z => by omega⟩
    rintro m2 rfl
    refine ⟨fun z => ?_, fun _ => ?_⟩
    · rw [up_nk (by omega), p1] at z; omega
    · rw [up_nk (by omega), e1, up_ne (by omega), p2]
      exact ⟨by omega, fun _ => ⟨_, _, c_Mo_w2 (by decide), _, _, w34, fun z => absurd rfl z, fun _ => rfl⟩, fun z => absurd rfl z⟩
