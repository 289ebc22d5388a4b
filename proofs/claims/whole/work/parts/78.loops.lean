/-! THE TWO PARSERS: products, sums, what is asked together -/
/-- product: its loop -/
theorem product_loop {B : Int → Int} {L : Nat} {t so : Int} (hT : TPE B L) (h0 : 0 ≤ t ∧ t ≤ 2043) {D q s w o : Nat} {π : List Int} {m N : Mm} (hD : 2 ≤ D) (hin : ∀ (q2 s2 w2 : Nat) (v : Int) (m2 N2 : Mm), q < q2 → pre_ B L t so q2 s2 w2 o (v :: π) m2 N2 0 → (v = 8 ∨ v = 9) → sv_ B L t so k_Rd_one D false 7 0 (fun T => T = T) q2 s2 w2 o (v :: π) m2 N2) (hs : s ≤ q) (hw : w + π.length ≤ q) (ho : o ≤ 8) (hl : π.length + 1 ≤ 6 * o + 2) (hπ : ∀ x r, π = x :: r → rk x < 6) : ∀ (n : Nat) (x1 : Int) (q1 s1 w1 : Nat) (pd : List Int) (m1 N1 : Mm) (u2 : Vv), L - q1 < n → st_ B L t so false 6 q s w o π m N q1 s1 w1 pd m1 N1 → pd.length ≤ 1 → (fun T => T = T) (tkT B L q1) → 0 ≤ x1 → x1 ≤ (q1 : Nat) → (∃ q' s' w' pd' m' N', Ev (D + 1) K_Rd_product 2 7 [(15, 80), (0, x1), u2] [] m1 (some (0, 1), m') ∧ st_ B L t so false 6 q s w o π m N q' s' w' pd' m' N' ∧ pd'.length ≤ 1 ∧ (fun T => T ≠ 9 ∧ T ≠ 10) (tkT B L q')) ∨ (∃ f p, 0 < f ∧ (∃ m', Ev (D + 1) K_Rd_product 2 7 [(15, 80), (0, x1), u2] [] m1 (some (0, 0), m') ∧ flt_ m' f p ∧ FCf s m m') ∧ mf_ t w N f p) := by
  intro n
  induction n with
  | zero => intro x1 q1 s1 w1 pd m1 N1 u2 hn; omega
  | succ n ih =>
    intro x1 q1 s1 w1 pd m1 N1 u2 hn h hpd htk hx0 hx
    have h' := h
    obtain ⟨a1, a2, a3, a4, ⟨a5, a6, a7, a8, a9, a10⟩, a11, a12, a13, a14⟩ := h
    have e6 : m1 80 6 = tkT B L q1 := a1.1.2.2.2.1
    have hL := hT.1
    by_cases hop : tkT B L q1 = 9 ∨ tkT B L q1 = 10
    · obtain ⟨nx1, nx2, nx3⟩ := nxQ_v (B := B) a6
      have nx4 := nx3 (by omega)
      obtain ⟨m2, c1, c2, c3⟩ := adv_c (d := 0) hT a1.1
      have hC2 : CSt B L (16 + so) m2 (nxQ B L q1) s1 (o : Nat) := ⟨c2, by rw [c3 _ _ (by omega)]; exact a1.2.1, by rw [c3 _ _ (by omega)]; exact a1.2.2.1, by rw [c3 _ _ (by omega)]; exact a1.2.2.2⟩
      obtain ⟨v, hv, hvv⟩ : ∃ v, btw_ (tkT B L q1) (pd ++ π) = v ∧ ((tkT B L q1 = 9 ∧ v = 8) ∨ (tkT B L q1 = 10 ∧ v = 9)) := by
        rcases hop with z | z
        · exact ⟨8, by rw [z]; rfl, Or.inl ⟨z, rfl⟩⟩
        · exact ⟨9, by rw [z]; rfl, Or.inr ⟨z, rfl⟩⟩
      have hR : rk v = 6 ∧ lst_ v = 6 ∧ shu v = 0 ∧ 0 ≤ v := by rcases hvv with ⟨_, rfl⟩ | ⟨_, rfl⟩ <;> decide
      have hcm : (tkT B L q1, v) ∈ ops false false := by rcases hvv with ⟨z, rfl⟩ | ⟨z, rfl⟩ <;> rw [z] <;> decide
      have hvi : v = 8 ∨ v = 9 := by omega
      obtain ⟨N2, d1, d2, d3, d4⟩ := st_op hT h0 h' hw ho (by omega) (by omega) hv hR.2.2.2 (by omega) (fun x r e => by have := hπ x r e; omega)
      have hpre : pre_ B L t so (nxQ B L q1) s1 (w1 + pd.length) o (v :: π) m2 N2 0 := ⟨hC2, d1, by omega, nx1, by rw [List.length_cons]; omega, ho, by rw [List.length_cons]; omega⟩
      rcases hin (nxQ B L q1) s1 (w1 + pd.length) v m2 N2 (by omega) hpre hvi with ⟨q3, s3, w3, pd2, m3, N3, g1, g2, g3, g4⟩ | ⟨f, p, f0, ⟨m3, y1, y2, y3⟩, g2⟩
      · have g2' := g2
        obtain ⟨i1, _, _, _, ⟨i5, i6, i7, i8, i9, i10⟩, _⟩ := g2
        obtain ⟨m4, k1, k2, k3, k4⟩ := emit_c (d := D) (x := tkT B L q1) (y := 0) i1 (by omega) (by omega) (by omega)
        have hj := st_join (b := false) (ρ := 6) h' d2 d3 d4 (FCl_adv c3) g2' nx4 hcm (by decide) (by omega) hR.2.2.1 (fun z => absurd z (by decide)) (fun _ => rfl) k2 (by rw [k3]; omega) k4
        have h18 : ∀ r, Ev (D + 1) K_Rd_product 2 7 [(15, 80), (0, x1 + 1), (0, m1 80 6)] [] m4 r → Ev (D + 1) K_Rd_product 2 7 [(15, 80), (0, x1), u2] [] m1 r := fun r hr => by
          have h2 : Ev (D + 1) K_Rd_product 2 18 [(15, 80), (0, x1), u2] [] m1 r := b_Rd_product_18 ⟨m2, c1.up hD, 1, m3, g1, fun _ => ⟨1, m4, by rw [e6]; exact k1, by rw [w32n (by omega) (by omega)]; exact hr⟩, fun z => absurd (by decide) z⟩
          exact b_Rd_product_7 ⟨fun z => by omega, fun _ => ⟨fun _ => h2, fun z => ⟨fun z2 => by omega, fun _ => h2⟩⟩⟩
        rcases ih (x1 + 1) q3 (s3 + 1) w3 (pd2 ++ [v]) m4 N3 (0, m1 80 6) (by omega) hj (by rw [List.length_append, List.length_singleton]; omega) g4 (by omega) (by omega) with ⟨q', s', w', pd', m', N', l1, l2, l3, l4⟩ | ⟨f, p, f0, ⟨m', l1, l2, l3⟩, l4⟩
        · exact Or.inl ⟨q', s', w', pd', m', N', h18 _ l1, l2, l3, l4⟩
        · exact Or.inr ⟨f, p, f0, ⟨m', h18 _ l1, l2, l3⟩, l4⟩
      · refine Or.inr ⟨f, p, f0, ⟨m3, ?_, y2, (a2.tr (FCl_adv c3) a9).tr y3 a9⟩, mf_pre (a4.tr d3 a10) (by omega) (a14.tr d4) g2⟩
        have h2 : Ev (D + 1) K_Rd_product 2 18 [(15, 80), (0, x1), u2] [] m1 (some (0, 0), m3) := b_Rd_product_18 ⟨m2, c1.up hD, 0, m3, y1, fun z => absurd rfl z, fun _ => rfl⟩
        exact b_Rd_product_7 ⟨fun z => by omega, fun _ => ⟨fun _ => h2, fun z => ⟨fun z2 => by omega, fun _ => h2⟩⟩⟩
    · refine Or.inl ⟨q1, s1, w1, pd, m1, N1, ?_, h', hpd, ?_⟩
      · exact b_Rd_product_7 ⟨fun _ => rfl, fun _ => ⟨fun z => by omega, fun z => ⟨fun _ => rfl, fun z2 => by omega⟩⟩⟩
      · simp only at htk ⊢
        omega
/-- product, by its first part and its loop -/
theorem product_of {B : Int → Int} {L : Nat} {t so : Int} (hT : TPE B L) (h0 : 0 ≤ t ∧ t ≤ 2043) {D q s w o : Nat} {π : List Int} {m N : Mm} (hD : 2 ≤ D) (hin : ∀ (q2 s2 w2 : Nat) (v : Int) (m2 N2 : Mm), q < q2 → pre_ B L t so q2 s2 w2 o (v :: π) m2 N2 0 → (v = 8 ∨ v = 9) → sv_ B L t so k_Rd_one D false 7 0 (fun T => T = T) q2 s2 w2 o (v :: π) m2 N2) (hp : pre_ B L t so q s w o π m N 1) (hπ : ∀ x r, π = x :: r → rk x < 6) (hf : sv_ B L t so k_Rd_one D false 7 0 (fun T => T = T) q s w o π m N) : sv_ B L t so k_Rd_product (D + 1) false 6 1 (fun T => T ≠ 9 ∧ T ≠ 10) q s w o π m N := by
  obtain ⟨p1, p2, p3, p4, p5, p6, p7⟩ := hp
  rcases hf with ⟨q1, s1, w1, pd, m1, N1, g1, g2, g3, g4⟩ | ⟨f, p, f0, ⟨m3, y1, y2, y3⟩, g2⟩
  · have g2' : st_ B L t so false 6 q s w o π m N q1 s1 w1 pd m1 N1 := by
      obtain ⟨a1, a2, a3, a4, a5, a11, a12, a13, a14⟩ := g2
      exact ⟨a1, a2, a3, a4, a5, a11, fun x hx => by have := a12 x hx; omega, a13, a14⟩
    rcases product_loop hT h0 hD hin p3 p5 p6 p7 hπ (L - q1 + 1) 0 q1 s1 w1 pd m1 N1 (9, 0) (by omega) g2' (by omega) g4 (by omega) (by omega) with ⟨q', s', w', pd', m', N', l1, l2, l3, l4⟩ | ⟨f, p, f0, ⟨m', l1, l2, l3⟩, l4⟩
    · exact Or.inl ⟨q', s', w', pd', m', N', cl_Rd_product (b_Rd_product ⟨1, m1, g1, fun _ => l1, fun z => absurd (by decide) z⟩), l2, l3, l4⟩
    · exact Or.inr ⟨f, p, f0, ⟨m', cl_Rd_product (b_Rd_product ⟨1, m1, g1, fun _ => l1, fun z => absurd (by decide) z⟩), l2, l3⟩, l4⟩
  · exact Or.inr ⟨f, p, f0, ⟨m3, cl_Rd_product (b_Rd_product ⟨0, m3, y1, fun z => absurd rfl z, fun _ => rfl⟩), y2, y3⟩, g2⟩
/-- sum: its loop -/
theorem sum_loop {B : Int → Int} {L : Nat} {t so : Int} (hT : TPE B L) (h0 : 0 ≤ t ∧ t ≤ 2043) {D q s w o : Nat} {π : List Int} {m N : Mm} (hD : 2 ≤ D) (hin : ∀ (q2 s2 w2 : Nat) (v : Int) (m2 N2 : Mm), q < q2 → pre_ B L t so q2 s2 w2 o (v :: π) m2 N2 1 → (v = 6 ∨ v = 7) → sv_ B L t so k_Rd_product D false 6 1 (fun T => T ≠ 9 ∧ T ≠ 10) q2 s2 w2 o (v :: π) m2 N2) (hs : s ≤ q) (hw : w + π.length ≤ q) (ho : o ≤ 8) (hl : π.length + 2 ≤ 6 * o + 2) (hπ : ∀ x r, π = x :: r → rk x < 5) : ∀ (n : Nat) (x1 : Int) (q1 s1 w1 : Nat) (pd : List Int) (m1 N1 : Mm) (u2 : Vv), L - q1 < n → st_ B L t so false 5 q s w o π m N q1 s1 w1 pd m1 N1 → pd.length ≤ 2 → (fun T => T ≠ 9 ∧ T ≠ 10) (tkT B L q1) → 0 ≤ x1 → x1 ≤ (q1 : Nat) → (∃ q' s' w' pd' m' N', Ev (D + 1) K_Rd_sum 2 7 [(15, 80), (0, x1), u2] [] m1 (some (0, 1), m') ∧ st_ B L t so false 5 q s w o π m N q' s' w' pd' m' N' ∧ pd'.length ≤ 2 ∧ (fun T => T ≠ 7 ∧ T ≠ 8 ∧ T ≠ 9 ∧ T ≠ 10) (tkT B L q')) ∨ (∃ f p, 0 < f ∧ (∃ m', Ev (D + 1) K_Rd_sum 2 7 [(15, 80), (0, x1), u2] [] m1 (some (0, 0), m') ∧ flt_ m' f p ∧ FCf s m m') ∧ mf_ t w N f p) := by
  intro n
  induction n with
  | zero => intro x1 q1 s1 w1 pd m1 N1 u2 hn; omega
  | succ n ih =>
    intro x1 q1 s1 w1 pd m1 N1 u2 hn h hpd htk hx0 hx
    have h' := h
    obtain ⟨a1, a2, a3, a4, ⟨a5, a6, a7, a8, a9, a10⟩, a11, a12, a13, a14⟩ := h
    have e6 : m1 80 6 = tkT B L q1 := a1.1.2.2.2.1
    have hL := hT.1
    by_cases hop : tkT B L q1 = 7 ∨ tkT B L q1 = 8
    · obtain ⟨nx1, nx2, nx3⟩ := nxQ_v (B := B) a6
      have nx4 := nx3 (by omega)
      obtain ⟨m2, c1, c2, c3⟩ := adv_c (d := 0) hT a1.1
      have hC2 : CSt B L (16 + so) m2 (nxQ B L q1) s1 (o : Nat) := ⟨c2, by rw [c3 _ _ (by omega)]; exact a1.2.1, by rw [c3 _ _ (by omega)]; exact a1.2.2.1, by rw [c3 _ _ (by omega)]; exact a1.2.2.2⟩
      obtain ⟨v, hv, hvv⟩ : ∃ v, btw_ (tkT B L q1) (pd ++ π) = v ∧ ((tkT B L q1 = 7 ∧ v = 6) ∨ (tkT B L q1 = 8 ∧ v = 7)) := by
        rcases hop with z | z
        · exact ⟨6, by rw [z]; rfl, Or.inl ⟨z, rfl⟩⟩
        · exact ⟨7, by rw [z]; rfl, Or.inr ⟨z, rfl⟩⟩
      have hR : rk v = 5 ∧ lst_ v = 5 ∧ shu v = 0 ∧ 0 ≤ v := by rcases hvv with ⟨_, rfl⟩ | ⟨_, rfl⟩ <;> decide
      have hcm : (tkT B L q1, v) ∈ ops false false := by rcases hvv with ⟨z, rfl⟩ | ⟨z, rfl⟩ <;> rw [z] <;> decide
      have hvi : v = 6 ∨ v = 7 := by omega
      obtain ⟨N2, d1, d2, d3, d4⟩ := st_op hT h0 h' hw ho (by omega) (by omega) hv hR.2.2.2 (by omega) (fun x r e => by have := hπ x r e; omega)
      have hpre : pre_ B L t so (nxQ B L q1) s1 (w1 + pd.length) o (v :: π) m2 N2 1 := ⟨hC2, d1, by omega, nx1, by rw [List.length_cons]; omega, ho, by rw [List.length_cons]; omega⟩
      rcases hin (nxQ B L q1) s1 (w1 + pd.length) v m2 N2 (by omega) hpre hvi with ⟨q3, s3, w3, pd2, m3, N3, g1, g2, g3, g4⟩ | ⟨f, p, f0, ⟨m3, y1, y2, y3⟩, g2⟩
      · have g2' := g2
        obtain ⟨i1, _, _, _, ⟨i5, i6, i7, i8, i9, i10⟩, _⟩ := g2
        obtain ⟨m4, k1, k2, k3, k4⟩ := emit_c (d := D) (x := tkT B L q1) (y := 0) i1 (by omega) (by omega) (by omega)
        have hj := st_join (b := false) (ρ := 5) h' d2 d3 d4 (FCl_adv c3) g2' nx4 hcm (by decide) (by omega) hR.2.2.1 (fun z => absurd z (by decide)) (fun _ => rfl) k2 (by rw [k3]; omega) k4
        have h18 : ∀ r, Ev (D + 1) K_Rd_sum 2 7 [(15, 80), (0, x1 + 1), (0, m1 80 6)] [] m4 r → Ev (D + 1) K_Rd_sum 2 7 [(15, 80), (0, x1), u2] [] m1 r := fun r hr => by
          have h2 : Ev (D + 1) K_Rd_sum 2 18 [(15, 80), (0, x1), u2] [] m1 r := b_Rd_sum_18 ⟨m2, c1.up hD, 1, m3, g1, fun _ => ⟨1, m4, by rw [e6]; exact k1, by rw [w32n (by omega) (by omega)]; exact hr⟩, fun z => absurd (by decide) z⟩
          exact b_Rd_sum_7 ⟨fun z => by omega, fun _ => ⟨fun _ => h2, fun z => ⟨fun z2 => by omega, fun _ => h2⟩⟩⟩
        rcases ih (x1 + 1) q3 (s3 + 1) w3 (pd2 ++ [v]) m4 N3 (0, m1 80 6) (by omega) hj (by rw [List.length_append, List.length_singleton]; omega) g4 (by omega) (by omega) with ⟨q', s', w', pd', m', N', l1, l2, l3, l4⟩ | ⟨f, p, f0, ⟨m', l1, l2, l3⟩, l4⟩
        · exact Or.inl ⟨q', s', w', pd', m', N', h18 _ l1, l2, l3, l4⟩
        · exact Or.inr ⟨f, p, f0, ⟨m', h18 _ l1, l2, l3⟩, l4⟩
      · refine Or.inr ⟨f, p, f0, ⟨m3, ?_, y2, (a2.tr (FCl_adv c3) a9).tr y3 a9⟩, mf_pre (a4.tr d3 a10) (by omega) (a14.tr d4) g2⟩
        have h2 : Ev (D + 1) K_Rd_sum 2 18 [(15, 80), (0, x1), u2] [] m1 (some (0, 0), m3) := b_Rd_sum_18 ⟨m2, c1.up hD, 0, m3, y1, fun z => absurd rfl z, fun _ => rfl⟩
        exact b_Rd_sum_7 ⟨fun z => by omega, fun _ => ⟨fun _ => h2, fun z => ⟨fun z2 => by omega, fun _ => h2⟩⟩⟩
    · refine Or.inl ⟨q1, s1, w1, pd, m1, N1, ?_, h', hpd, ?_⟩
      · exact b_Rd_sum_7 ⟨fun _ => rfl, fun _ => ⟨fun z => by omega, fun z => ⟨fun _ => rfl, fun z2 => by omega⟩⟩⟩
      · simp only at htk ⊢
        omega
/-- sum, by its first part and its loop -/
theorem sum_of {B : Int → Int} {L : Nat} {t so : Int} (hT : TPE B L) (h0 : 0 ≤ t ∧ t ≤ 2043) {D q s w o : Nat} {π : List Int} {m N : Mm} (hD : 2 ≤ D) (hin : ∀ (q2 s2 w2 : Nat) (v : Int) (m2 N2 : Mm), q < q2 → pre_ B L t so q2 s2 w2 o (v :: π) m2 N2 1 → (v = 6 ∨ v = 7) → sv_ B L t so k_Rd_product D false 6 1 (fun T => T ≠ 9 ∧ T ≠ 10) q2 s2 w2 o (v :: π) m2 N2) (hp : pre_ B L t so q s w o π m N 2) (hπ : ∀ x r, π = x :: r → rk x < 5) (hf : sv_ B L t so k_Rd_product D false 6 1 (fun T => T ≠ 9 ∧ T ≠ 10) q s w o π m N) : sv_ B L t so k_Rd_sum (D + 1) false 5 2 (fun T => T ≠ 7 ∧ T ≠ 8 ∧ T ≠ 9 ∧ T ≠ 10) q s w o π m N := by
  obtain ⟨p1, p2, p3, p4, p5, p6, p7⟩ := hp
  rcases hf with ⟨q1, s1, w1, pd, m1, N1, g1, g2, g3, g4⟩ | ⟨f, p, f0, ⟨m3, y1, y2, y3⟩, g2⟩
  · have g2' : st_ B L t so false 5 q s w o π m N q1 s1 w1 pd m1 N1 := by
      obtain ⟨a1, a2, a3, a4, a5, a11, a12, a13, a14⟩ := g2
      exact ⟨a1, a2, a3, a4, a5, a11, fun x hx => by have := a12 x hx; omega, a13, a14⟩
    rcases sum_loop hT h0 hD hin p3 p5 p6 p7 hπ (L - q1 + 1) 0 q1 s1 w1 pd m1 N1 (9, 0) (by omega) g2' (by omega) g4 (by omega) (by omega) with ⟨q', s', w', pd', m', N', l1, l2, l3, l4⟩ | ⟨f, p, f0, ⟨m', l1, l2, l3⟩, l4⟩
    · exact Or.inl ⟨q', s', w', pd', m', N', cl_Rd_sum (b_Rd_sum ⟨1, m1, g1, fun _ => l1, fun z => absurd (by decide) z⟩), l2, l3, l4⟩
    · exact Or.inr ⟨f, p, f0, ⟨m', cl_Rd_sum (b_Rd_sum ⟨1, m1, g1, fun _ => l1, fun z => absurd (by decide) z⟩), l2, l3⟩, l4⟩
  · exact Or.inr ⟨f, p, f0, ⟨m3, cl_Rd_sum (b_Rd_sum ⟨0, m3, y1, fun z => absurd rfl z, fun _ => rfl⟩), y2, y3⟩, g2⟩
/-- both: its loop -/
theorem both_loop {B : Int → Int} {L : Nat} {t so : Int} (hT : TPE B L) (h0 : 0 ≤ t ∧ t ≤ 2043) {D q s w o : Nat} {π : List Int} {m N : Mm} (hD : 2 ≤ D) (hin : ∀ (q2 s2 w2 : Nat) (v : Int) (m2 N2 : Mm), q < q2 → pre_ B L t so q2 s2 w2 o (v :: π) m2 N2 3 → (v = 21) → sv_ B L t so k_Rd_ask D true 3 (11 - o) (fun T => T ≠ 7 ∧ T ≠ 8 ∧ T ≠ 9 ∧ T ≠ 10) q2 s2 w2 o (v :: π) m2 N2) (hs : s ≤ q) (hw : w + π.length ≤ q) (ho : o ≤ 8) (hl : π.length + 4 ≤ 6 * o + 2) (hπ : ∀ x r, π = x :: r → rk x < 2) (hW42 : opW π = 42) : ∀ (n : Nat) (x1 : Int) (q1 s1 w1 : Nat) (pd : List Int) (m1 N1 : Mm), L - q1 < n → st_ B L t so true 2 q s w o π m N q1 s1 w1 pd m1 N1 → pd.length ≤ (12 - o) → (fun T => T ≠ 7 ∧ T ≠ 8 ∧ T ≠ 9 ∧ T ≠ 10) (tkT B L q1) → 0 ≤ x1 → x1 ≤ (q1 : Nat) → (∃ q' s' w' pd' m' N', Ev (D + 1) K_Rd_both 2 7 [(15, 80), (0, x1)] [] m1 (some (0, 1), m') ∧ st_ B L t so true 2 q s w o π m N q' s' w' pd' m' N' ∧ pd'.length ≤ (12 - o) ∧ (fun T => T ≠ 41 ∧ T ≠ 7 ∧ T ≠ 8 ∧ T ≠ 9 ∧ T ≠ 10) (tkT B L q')) ∨ (∃ f p, 0 < f ∧ (∃ m', Ev (D + 1) K_Rd_both 2 7 [(15, 80), (0, x1)] [] m1 (some (0, 0), m') ∧ flt_ m' f p ∧ FCf s m m') ∧ mf_ t w N f p) := by
  intro n
  induction n with
  | zero => intro x1 q1 s1 w1 pd m1 N1 hn; omega
  | succ n ih =>
    intro x1 q1 s1 w1 pd m1 N1 hn h hpd htk hx0 hx
    have h' := h
    obtain ⟨a1, a2, a3, a4, ⟨a5, a6, a7, a8, a9, a10⟩, a11, a12, a13, a14⟩ := h
    have e6 : m1 80 6 = tkT B L q1 := a1.1.2.2.2.1
    have hL := hT.1
    by_cases hop : tkT B L q1 = 41
    · obtain ⟨nx1, nx2, nx3⟩ := nxQ_v (B := B) a6
      have nx4 := nx3 (by omega)
      obtain ⟨m2, c1, c2, c3⟩ := adv_c (d := 0) hT a1.1
      have hC2 : CSt B L (16 + so) m2 (nxQ B L q1) s1 (o : Nat) := ⟨c2, by rw [c3 _ _ (by omega)]; exact a1.2.1, by rw [c3 _ _ (by omega)]; exact a1.2.2.1, by rw [c3 _ _ (by omega)]; exact a1.2.2.2⟩
      obtain ⟨v, hv, hvv⟩ : ∃ v, btw_ (tkT B L q1) (pd ++ π) = v ∧ ((tkT B L q1 = 41 ∧ v = 21)) := by
        refine ⟨21, ?_, hop, rfl⟩
        unfold btw_
        rw [hop, if_neg (by decide), if_neg (by decide), if_neg (by decide), if_neg (by decide), opW_app pd (fun x hx => by have := a12 x hx; omega), if_pos hW42, if_pos (a13 rfl π)]
        rfl
      have hR : rk v = 2 ∧ lst_ v = 2 ∧ shu v = 0 ∧ 0 ≤ v := by rcases hvv with ⟨_, rfl⟩; decide
      have hcm : (tkT B L q1, v) ∈ ops true true := by rcases hvv with ⟨z, rfl⟩; rw [z]; decide
      have hvi : v = 21 := by omega
      obtain ⟨N2, d1, d2, d3, d4⟩ := st_op hT h0 h' hw ho (by omega) (by omega) hv hR.2.2.2 (by omega) (fun x r e => by have := hπ x r e; omega)
      have hpre : pre_ B L t so (nxQ B L q1) s1 (w1 + pd.length) o (v :: π) m2 N2 3 := ⟨hC2, d1, by omega, nx1, by rw [List.length_cons]; omega, ho, by rw [List.length_cons]; omega⟩
      rcases hin (nxQ B L q1) s1 (w1 + pd.length) v m2 N2 (by omega) hpre hvi with ⟨q3, s3, w3, pd2, m3, N3, g1, g2, g3, g4⟩ | ⟨f, p, f0, ⟨m3, y1, y2, y3⟩, g2⟩
      · have g2' := g2
        obtain ⟨i1, _, _, _, ⟨i5, i6, i7, i8, i9, i10⟩, _⟩ := g2
        obtain ⟨m4, k1, k2, k3, k4⟩ := emit_c (d := D) (x := tkT B L q1) (y := 0) i1 (by omega) (by omega) (by omega)
        have hj := st_join (b := true) (ρ := 2) h' d2 d3 d4 (FCl_adv c3) g2' nx4 hcm (by decide) (by omega) hR.2.2.1 (fun _ z => absurd z (by decide)) (fun z => absurd z (by decide)) k2 (by rw [k3]; omega) k4
        have h18 : ∀ r, Ev (D + 1) K_Rd_both 2 7 [(15, 80), (0, x1 + 1)] [] m4 r → Ev (D + 1) K_Rd_both 2 7 [(15, 80), (0, x1)] [] m1 r := fun r hr =>
          b_Rd_both_7 ⟨fun z => by omega, fun _ => ⟨fun z => absurd (by rw [e6]; exact hop) z, fun _ => ⟨m2, c1.up hD, 1, m3, g1, fun _ => ⟨1, m4, by rw [hop] at k1; exact k1, by rw [w32n (by omega) (by omega)]; exact hr⟩, fun z => absurd (by decide) z⟩⟩⟩
        rcases ih (x1 + 1) q3 (s3 + 1) w3 (pd2 ++ [v]) m4 N3 (by omega) hj (by rw [List.length_append, List.length_singleton]; omega) g4 (by omega) (by omega) with ⟨q', s', w', pd', m', N', l1, l2, l3, l4⟩ | ⟨f, p, f0, ⟨m', l1, l2, l3⟩, l4⟩
        · exact Or.inl ⟨q', s', w', pd', m', N', h18 _ l1, l2, l3, l4⟩
        · exact Or.inr ⟨f, p, f0, ⟨m', h18 _ l1, l2, l3⟩, l4⟩
      · refine Or.inr ⟨f, p, f0, ⟨m3, ?_, y2, (a2.tr (FCl_adv c3) a9).tr y3 a9⟩, mf_pre (a4.tr d3 a10) (by omega) (a14.tr d4) g2⟩
        exact b_Rd_both_7 ⟨fun z => by omega, fun _ => ⟨fun z => absurd (by rw [e6]; exact hop) z, fun _ => ⟨m2, c1.up hD, 0, m3, y1, fun z => absurd rfl z, fun _ => rfl⟩⟩⟩
    · refine Or.inl ⟨q1, s1, w1, pd, m1, N1, ?_, h', hpd, ?_⟩
      · exact b_Rd_both_7 ⟨fun _ => rfl, fun _ => ⟨fun _ => rfl, fun z => absurd (by rw [e6] at z; exact Classical.not_not.mp z) hop⟩⟩
      · simp only at htk ⊢
        omega
/-- both, by its first part and its loop -/
theorem both_of {B : Int → Int} {L : Nat} {t so : Int} (hT : TPE B L) (h0 : 0 ≤ t ∧ t ≤ 2043) {D q s w o : Nat} {π : List Int} {m N : Mm} (hD : 2 ≤ D) (hin : ∀ (q2 s2 w2 : Nat) (v : Int) (m2 N2 : Mm), q < q2 → pre_ B L t so q2 s2 w2 o (v :: π) m2 N2 3 → (v = 21) → sv_ B L t so k_Rd_ask D true 3 (11 - o) (fun T => T ≠ 7 ∧ T ≠ 8 ∧ T ≠ 9 ∧ T ≠ 10) q2 s2 w2 o (v :: π) m2 N2) (hp : pre_ B L t so q s w o π m N 4) (hπ : ∀ x r, π = x :: r → rk x < 2) (hW42 : opW π = 42) (hf : sv_ B L t so k_Rd_ask D true 3 (11 - o) (fun T => T ≠ 7 ∧ T ≠ 8 ∧ T ≠ 9 ∧ T ≠ 10) q s w o π m N) : sv_ B L t so k_Rd_both (D + 1) true 2 (12 - o) (fun T => T ≠ 41 ∧ T ≠ 7 ∧ T ≠ 8 ∧ T ≠ 9 ∧ T ≠ 10) q s w o π m N := by
  obtain ⟨p1, p2, p3, p4, p5, p6, p7⟩ := hp
  rcases hf with ⟨q1, s1, w1, pd, m1, N1, g1, g2, g3, g4⟩ | ⟨f, p, f0, ⟨m3, y1, y2, y3⟩, g2⟩
  · have g2' : st_ B L t so true 2 q s w o π m N q1 s1 w1 pd m1 N1 := by
      obtain ⟨a1, a2, a3, a4, a5, a11, a12, a13, a14⟩ := g2
      exact ⟨a1, a2, a3, a4, a5, a11, fun x hx => by have := a12 x hx; omega, a13, a14⟩
    rcases both_loop hT h0 hD hin p3 p5 p6 p7 hπ hW42 (L - q1 + 1) 0 q1 s1 w1 pd m1 N1 (by omega) g2' (by omega) g4 (by omega) (by omega) with ⟨q', s', w', pd', m', N', l1, l2, l3, l4⟩ | ⟨f, p, f0, ⟨m', l1, l2, l3⟩, l4⟩
    · exact Or.inl ⟨q', s', w', pd', m', N', cl_Rd_both (b_Rd_both ⟨1, m1, g1, fun _ => l1, fun z => absurd (by decide) z⟩), l2, l3, l4⟩
    · exact Or.inr ⟨f, p, f0, ⟨m', cl_Rd_both (b_Rd_both ⟨1, m1, g1, fun _ => l1, fun z => absurd (by decide) z⟩), l2, l3⟩, l4⟩
  · exact Or.inr ⟨f, p, f0, ⟨m3, cl_Rd_both (b_Rd_both ⟨0, m3, y1, fun z => absurd rfl z, fun _ => rfl⟩), y2, y3⟩, g2⟩
/-- either: its loop -/
theorem either_loop {B : Int → Int} {L : Nat} {t so : Int} (hT : TPE B L) (h0 : 0 ≤ t ∧ t ≤ 2043) {D q s w o : Nat} {π : List Int} {m N : Mm} (hD : 2 ≤ D) (hin : ∀ (q2 s2 w2 : Nat) (v : Int) (m2 N2 : Mm), q < q2 → pre_ B L t so q2 s2 w2 o (v :: π) m2 N2 4 → (v = 22) → sv_ B L t so k_Rd_both D true 2 (12 - o) (fun T => T ≠ 41 ∧ T ≠ 7 ∧ T ≠ 8 ∧ T ≠ 9 ∧ T ≠ 10) q2 s2 w2 o (v :: π) m2 N2) (hs : s ≤ q) (hw : w + π.length ≤ q) (ho : o ≤ 8) (hl : π.length + 5 ≤ 6 * o + 2) (hπ : ∀ x r, π = x :: r → rk x < 1) (hW42 : opW π = 42) : ∀ (n : Nat) (x1 : Int) (q1 s1 w1 : Nat) (pd : List Int) (m1 N1 : Mm), L - q1 < n → st_ B L t so true 1 q s w o π m N q1 s1 w1 pd m1 N1 → pd.length ≤ (13 - o) → (fun T => T ≠ 41 ∧ T ≠ 7 ∧ T ≠ 8 ∧ T ≠ 9 ∧ T ≠ 10) (tkT B L q1) → 0 ≤ x1 → x1 ≤ (q1 : Nat) → (∃ q' s' w' pd' m' N', Ev (D + 1) K_Rd_either 2 7 [(15, 80), (0, x1)] [] m1 (some (0, 1), m') ∧ st_ B L t so true 1 q s w o π m N q' s' w' pd' m' N' ∧ pd'.length ≤ (13 - o) ∧ (fun T => T ≠ 40 ∧ T ≠ 41 ∧ T ≠ 7 ∧ T ≠ 8 ∧ T ≠ 9 ∧ T ≠ 10) (tkT B L q')) ∨ (∃ f p, 0 < f ∧ (∃ m', Ev (D + 1) K_Rd_either 2 7 [(15, 80), (0, x1)] [] m1 (some (0, 0), m') ∧ flt_ m' f p ∧ FCf s m m') ∧ mf_ t w N f p) := by
  intro n
  induction n with
  | zero => intro x1 q1 s1 w1 pd m1 N1 hn; omega
  | succ n ih =>
    intro x1 q1 s1 w1 pd m1 N1 hn h hpd htk hx0 hx
    have h' := h
    obtain ⟨a1, a2, a3, a4, ⟨a5, a6, a7, a8, a9, a10⟩, a11, a12, a13, a14⟩ := h
    have e6 : m1 80 6 = tkT B L q1 := a1.1.2.2.2.1
    have hL := hT.1
    by_cases hop : tkT B L q1 = 40
    · obtain ⟨nx1, nx2, nx3⟩ := nxQ_v (B := B) a6
      have nx4 := nx3 (by omega)
      obtain ⟨m2, c1, c2, c3⟩ := adv_c (d := 0) hT a1.1
      have hC2 : CSt B L (16 + so) m2 (nxQ B L q1) s1 (o : Nat) := ⟨c2, by rw [c3 _ _ (by omega)]; exact a1.2.1, by rw [c3 _ _ (by omega)]; exact a1.2.2.1, by rw [c3 _ _ (by omega)]; exact a1.2.2.2⟩
      obtain ⟨v, hv, hvv⟩ : ∃ v, btw_ (tkT B L q1) (pd ++ π) = v ∧ ((tkT B L q1 = 40 ∧ v = 22)) := by
        refine ⟨22, ?_, hop, rfl⟩
        unfold btw_
        rw [hop, if_neg (by decide), if_neg (by decide), if_neg (by decide), if_neg (by decide), opW_app pd (fun x hx => by have := a12 x hx; omega), if_pos hW42, if_pos (a13 rfl π)]
        rfl
      have hR : rk v = 1 ∧ lst_ v = 1 ∧ shu v = 0 ∧ 0 ≤ v := by rcases hvv with ⟨_, rfl⟩; decide
      have hcm : (tkT B L q1, v) ∈ ops true true := by rcases hvv with ⟨z, rfl⟩; rw [z]; decide
      have hvi : v = 22 := by omega
      obtain ⟨N2, d1, d2, d3, d4⟩ := st_op hT h0 h' hw ho (by omega) (by omega) hv hR.2.2.2 (by omega) (fun x r e => by have := hπ x r e; omega)
      have hpre : pre_ B L t so (nxQ B L q1) s1 (w1 + pd.length) o (v :: π) m2 N2 4 := ⟨hC2, d1, by omega, nx1, by rw [List.length_cons]; omega, ho, by rw [List.length_cons]; omega⟩
      rcases hin (nxQ B L q1) s1 (w1 + pd.length) v m2 N2 (by omega) hpre hvi with ⟨q3, s3, w3, pd2, m3, N3, g1, g2, g3, g4⟩ | ⟨f, p, f0, ⟨m3, y1, y2, y3⟩, g2⟩
      · have g2' := g2
        obtain ⟨i1, _, _, _, ⟨i5, i6, i7, i8, i9, i10⟩, _⟩ := g2
        obtain ⟨m4, k1, k2, k3, k4⟩ := emit_c (d := D) (x := tkT B L q1) (y := 0) i1 (by omega) (by omega) (by omega)
        have hj := st_join (b := true) (ρ := 1) h' d2 d3 d4 (FCl_adv c3) g2' nx4 hcm (by decide) (by omega) hR.2.2.1 (fun _ z => absurd z (by decide)) (fun z => absurd z (by decide)) k2 (by rw [k3]; omega) k4
        have h18 : ∀ r, Ev (D + 1) K_Rd_either 2 7 [(15, 80), (0, x1 + 1)] [] m4 r → Ev (D + 1) K_Rd_either 2 7 [(15, 80), (0, x1)] [] m1 r := fun r hr =>
          b_Rd_either_7 ⟨fun z => by omega, fun _ => ⟨fun z => absurd (by rw [e6]; exact hop) z, fun _ => ⟨m2, c1.up hD, 1, m3, g1, fun _ => ⟨1, m4, by rw [hop] at k1; exact k1, by rw [w32n (by omega) (by omega)]; exact hr⟩, fun z => absurd (by decide) z⟩⟩⟩
        rcases ih (x1 + 1) q3 (s3 + 1) w3 (pd2 ++ [v]) m4 N3 (by omega) hj (by rw [List.length_append, List.length_singleton]; omega) g4 (by omega) (by omega) with ⟨q', s', w', pd', m', N', l1, l2, l3, l4⟩ | ⟨f, p, f0, ⟨m', l1, l2, l3⟩, l4⟩
        · exact Or.inl ⟨q', s', w', pd', m', N', h18 _ l1, l2, l3, l4⟩
        · exact Or.inr ⟨f, p, f0, ⟨m', h18 _ l1, l2, l3⟩, l4⟩
      · refine Or.inr ⟨f, p, f0, ⟨m3, ?_, y2, (a2.tr (FCl_adv c3) a9).tr y3 a9⟩, mf_pre (a4.tr d3 a10) (by omega) (a14.tr d4) g2⟩
        exact b_Rd_either_7 ⟨fun z => by omega, fun _ => ⟨fun z => absurd (by rw [e6]; exact hop) z, fun _ => ⟨m2, c1.up hD, 0, m3, y1, fun z => absurd rfl z, fun _ => rfl⟩⟩⟩
    · refine Or.inl ⟨q1, s1, w1, pd, m1, N1, ?_, h', hpd, ?_⟩
      · exact b_Rd_either_7 ⟨fun _ => rfl, fun _ => ⟨fun _ => rfl, fun z => absurd (by rw [e6] at z; exact Classical.not_not.mp z) hop⟩⟩
      · simp only at htk ⊢
        omega
/-- either, by its first part and its loop -/
theorem either_of {B : Int → Int} {L : Nat} {t so : Int} (hT : TPE B L) (h0 : 0 ≤ t ∧ t ≤ 2043) {D q s w o : Nat} {π : List Int} {m N : Mm} (hD : 2 ≤ D) (hin : ∀ (q2 s2 w2 : Nat) (v : Int) (m2 N2 : Mm), q < q2 → pre_ B L t so q2 s2 w2 o (v :: π) m2 N2 4 → (v = 22) → sv_ B L t so k_Rd_both D true 2 (12 - o) (fun T => T ≠ 41 ∧ T ≠ 7 ∧ T ≠ 8 ∧ T ≠ 9 ∧ T ≠ 10) q2 s2 w2 o (v :: π) m2 N2) (hp : pre_ B L t so q s w o π m N 5) (hπ : ∀ x r, π = x :: r → rk x < 1) (hW42 : opW π = 42) (hf : sv_ B L t so k_Rd_both D true 2 (12 - o) (fun T => T ≠ 41 ∧ T ≠ 7 ∧ T ≠ 8 ∧ T ≠ 9 ∧ T ≠ 10) q s w o π m N) : sv_ B L t so k_Rd_either (D + 1) true 1 (13 - o) (fun T => T ≠ 40 ∧ T ≠ 41 ∧ T ≠ 7 ∧ T ≠ 8 ∧ T ≠ 9 ∧ T ≠ 10) q s w o π m N := by
  obtain ⟨p1, p2, p3, p4, p5, p6, p7⟩ := hp
  rcases hf with ⟨q1, s1, w1, pd, m1, N1, g1, g2, g3, g4⟩ | ⟨f, p, f0, ⟨m3, y1, y2, y3⟩, g2⟩
  · have g2' : st_ B L t so true 1 q s w o π m N q1 s1 w1 pd m1 N1 := by
      obtain ⟨a1, a2, a3, a4, a5, a11, a12, a13, a14⟩ := g2
      exact ⟨a1, a2, a3, a4, a5, a11, fun x hx => by have := a12 x hx; omega, a13, a14⟩
    rcases either_loop hT h0 hD hin p3 p5 p6 p7 hπ hW42 (L - q1 + 1) 0 q1 s1 w1 pd m1 N1 (by omega) g2' (by omega) g4 (by omega) (by omega) with ⟨q', s', w', pd', m', N', l1, l2, l3, l4⟩ | ⟨f, p, f0, ⟨m', l1, l2, l3⟩, l4⟩
    · exact Or.inl ⟨q', s', w', pd', m', N', cl_Rd_either (b_Rd_either ⟨1, m1, g1, fun _ => l1, fun z => absurd (by decide) z⟩), l2, l3, l4⟩
    · exact Or.inr ⟨f, p, f0, ⟨m', cl_Rd_either (b_Rd_either ⟨1, m1, g1, fun _ => l1, fun z => absurd (by decide) z⟩), l2, l3⟩, l4⟩
  · exact Or.inr ⟨f, p, f0, ⟨m3, cl_Rd_either (b_Rd_either ⟨0, m3, y1, fun z => absurd rfl z, fun _ => rfl⟩), y2, y3⟩, g2⟩
