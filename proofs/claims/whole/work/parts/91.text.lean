/-! TEXT: the call -/
theorem Ev_det {d : Nat} {C : List Instr} {rt pc : Nat} {L st : List Vv} {m : Mm} {r r2 : Option Vv × Mm} (h : Ev d C rt pc L st m r) (h2 : Ev d C rt pc L st m r2) : r = r2 := by
  obtain ⟨n1, h1⟩ := h
  obtain ⟨n2, h2⟩ := h2
  have a := ex_mono MT n1 d C rt pc L st m r h1 (max n1 n2) d (Nat.le_max_left _ _) (Nat.le_refl _)
  have b := ex_mono MT n2 d C rt pc L st m r2 h2 (max n1 n2) d (Nat.le_max_right _ _) (Nat.le_refl _)
  rw [a] at b
  exact Option.some.inj b
theorem Cl_det {d k : Nat} {a : List Vv} {m : Mm} {r r2 : Option Vv × Mm} (h : Cl d k a m r) (h2 : Cl d k a m r2) : r = r2 := by
  obtain ⟨M, h1, _, h3⟩ := h
  obtain ⟨M2, g1, _, g3⟩ := h2
  rw [h1] at g1
  obtain rfl := Option.some.inj g1
  exact Ev_det h3 g3
theorem cpy_in {m : Mm} {s sp d dp n b : Int} (h : dp ≤ b ∧ b < dp + n) : cpy m s sp d dp n d b = m s (sp + (b - dp)) := if_pos ⟨rfl, h⟩
theorem cpy_ne {m : Mm} {s sp d dp n a b : Int} (h : a ≠ d) : cpy m s sp d dp n a b = m a b := if_neg (fun z => h z.1)
theorem c_Tx_copyFrom {d : Nat} {o : Int} {m : Mm} (ho : 16 ≤ o ∧ o ≤ 40) (h6 : m 82 6 = 0 ∨ m 82 6 = 1) (h9 : m 82 9 = 0 ∨ m 82 9 = 1) : ∃ m', Cl d k_Tx_copyFrom [(16, o), (16, 82)] m (none, m') ∧ m' o 0 = m 82 0 ∧ (∀ b, 0 ≤ b → b < 24 → m' (o + 1) b = m 83 b) ∧ (∀ b, 0 ≤ b → b < 24 → m' (o + 2) b = m 84 b) ∧ (∀ b, 0 ≤ b → b < 24 → m' (o + 3) b = m 85 b) ∧ (∀ b, 0 ≤ b → b < 300 → m' (o + 4) b = m 86 b) ∧ (∀ k, 6 ≤ k → k ≤ 11 → m' o k = m 82 k) ∧ (∀ a b, a < o ∨ o + 4 < a → m' a b = m a b) := by
  obtain ⟨m1, e1⟩ : ∃ m1, m1 = up m o 0 (m 82 0) := ⟨_, rfl⟩
  obtain ⟨m2, e2⟩ : ∃ m2, m2 = cpy m1 (82 + 1) 0 (o + 1) 0 24 := ⟨_, rfl⟩
  obtain ⟨m3, e3⟩ : ∃ m3, m3 = cpy m2 (82 + 2) 0 (o + 2) 0 24 := ⟨_, rfl⟩
  obtain ⟨m4, e4⟩ : ∃ m4, m4 = cpy m3 (82 + 3) 0 (o + 3) 0 24 := ⟨_, rfl⟩
  obtain ⟨m5, e5⟩ : ∃ m5, m5 = up m4 o 5 (m4 82 5) := ⟨_, rfl⟩
  obtain ⟨m6, e6⟩ : ∃ m6, m6 = cpy m5 (82 + 4) 0 (o + 4) 0 300 := ⟨_, rfl⟩
  obtain ⟨m7, e7⟩ : ∃ m7, m7 = up m6 o 6 (m6 82 6) := ⟨_, rfl⟩
  obtain ⟨m8, e8⟩ : ∃ m8, m8 = up m7 o 7 (m7 82 7) := ⟨_, rfl⟩
  obtain ⟨m9, e9⟩ : ∃ m9, m9 = up m8 o 8 (m8 82 8) := ⟨_, rfl⟩
  obtain ⟨m10, e10⟩ : ∃ m10, m10 = up m9 o 9 (m9 82 9) := ⟨_, rfl⟩
  obtain ⟨m11, e11⟩ : ∃ m11, m11 = up m10 o 10 (m10 82 10) := ⟨_, rfl⟩
  obtain ⟨m12, e12⟩ : ∃ m12, m12 = up m11 o 11 (m11 82 11) := ⟨_, rfl⟩
  have p1 : ∀ a b, a < o ∨ o + 4 < a → m1 a b = m a b := fun a b z => by rw [e1, up_ne (by omega)]
  have p2 : ∀ a b, a < o ∨ o + 4 < a → m2 a b = m a b := fun a b z => by rw [e2, cpy_ne (by omega)]; exact p1 a b z
  have p3 : ∀ a b, a < o ∨ o + 4 < a → m3 a b = m a b := fun a b z => by rw [e3, cpy_ne (by omega)]; exact p2 a b z
  have p4 : ∀ a b, a < o ∨ o + 4 < a → m4 a b = m a b := fun a b z => by rw [e4, cpy_ne (by omega)]; exact p3 a b z
  have p5 : ∀ a b, a < o ∨ o + 4 < a → m5 a b = m a b := fun a b z => by rw [e5, up_ne (by omega)]; exact p4 a b z
  have p6 : ∀ a b, a < o ∨ o + 4 < a → m6 a b = m a b := fun a b z => by rw [e6, cpy_ne (by omega)]; exact p5 a b z
  have p7 : ∀ a b, a < o ∨ o + 4 < a → m7 a b = m a b := fun a b z => by rw [e7, up_ne (by omega)]; exact p6 a b z
  have p8 : ∀ a b, a < o ∨ o + 4 < a → m8 a b = m a b := fun a b z => by rw [e8, up_ne (by omega)]; exact p7 a b z
  have p9 : ∀ a b, a < o ∨ o + 4 < a → m9 a b = m a b := fun a b z => by rw [e9, up_ne (by omega)]; exact p8 a b z
  have p10 : ∀ a b, a < o ∨ o + 4 < a → m10 a b = m a b := fun a b z => by rw [e10, up_ne (by omega)]; exact p9 a b z
  have p11 : ∀ a b, a < o ∨ o + 4 < a → m11 a b = m a b := fun a b z => by rw [e11, up_ne (by omega)]; exact p10 a b z
  have p12 : ∀ a b, a < o ∨ o + 4 < a → m12 a b = m a b := fun a b z => by rw [e12, up_ne (by omega)]; exact p11 a b z
  -- other rows stay once written
  have t6 : ∀ a b, a ≠ o → m12 a b = m6 a b := fun a b z => by rw [e12, up_ne z, e11, up_ne z, e10, up_ne z, e9, up_ne z, e8, up_ne z, e7, up_ne z]
  refine ⟨m12, cl_Tx_copyFrom (b_Tx_copyFrom ?_), ?_, fun b b0 b1 => ?_, fun b b0 b1 => ?_, fun b b0 b1 => ?_, fun b b0 b1 => ?_, fun k k0 k1 => ?_, p12⟩
  · rintro x1 rfl
    rw [← e1]
    rintro x2 rfl
    rw [← e2]
    rintro x3 rfl
    rw [← e3]
    rintro x4 rfl
    rw [← e4]
    rintro x5 rfl
    rw [← e5]
    rintro x6 rfl
    rw [← e6]
    refine ⟨by rw [p6 _ _ (by omega)]; exact h6, ?_⟩
    rintro x7 rfl
    rw [← e7]
    rintro x8 rfl
    rw [← e8]
    rintro x9 rfl
    rw [← e9]
    refine ⟨by rw [p9 _ _ (by omega)]; exact h9, ?_⟩
    rintro x10 rfl
    rw [← e10]
    rintro x11 rfl
    rw [← e11]
    rintro x12 rfl
    rw [← e12]
  · rw [e12, up_nk (by omega), e11, up_nk (by omega), e10, up_nk (by omega), e9, up_nk (by omega), e8, up_nk (by omega), e7, up_nk (by omega), e6, cpy_ne (by omega), e5, up_nk (by omega), e4, cpy_ne (by omega), e3, cpy_ne (by omega), e2, cpy_ne (by omega), e1, up_eq]
  · rw [t6 _ _ (by omega), e6, cpy_ne (by omega), e5, up_ne (by omega), e4, cpy_ne (by omega), e3, cpy_ne (by omega), e2, cpy_in (by omega), p1 _ _ (by omega)]
    congr 1
    omega
  · rw [t6 _ _ (by omega), e6, cpy_ne (by omega), e5, up_ne (by omega), e4, cpy_ne (by omega), e3, cpy_in (by omega), p2 _ _ (by omega)]
    congr 1
    omega
  · rw [t6 _ _ (by omega), e6, cpy_ne (by omega), e5, up_ne (by omega), e4, cpy_in (by omega), p3 _ _ (by omega)]
    congr 1
    omega
  · rw [t6 _ _ (by omega), e6, cpy_in (by omega), p5 _ _ (by omega)]
    congr 1
    omega
  · have hk : k = 6 ∨ k = 7 ∨ k = 8 ∨ k = 9 ∨ k = 10 ∨ k = 11 := by omega
    rcases hk with rfl | rfl | rfl | rfl | rfl | rfl
    · rw [e12, up_nk (by omega), e11, up_nk (by omega), e10, up_nk (by omega), e9, up_nk (by omega), e8, up_nk (by omega), e7, up_eq, p6 _ _ (by omega)]
    · rw [e12, up_nk (by omega), e11, up_nk (by omega), e10, up_nk (by omega), e9, up_nk (by omega), e8, up_eq, p7 _ _ (by omega)]
    · rw [e12, up_nk (by omega), e11, up_nk (by omega), e10, up_nk (by omega), e9, up_eq, p8 _ _ (by omega)]
    · rw [e12, up_nk (by omega), e11, up_nk (by omega), e10, up_eq, p9 _ _ (by omega)]
    · rw [e12, up_nk (by omega), e11, up_eq, p10 _ _ (by omega)]
    · rw [e12, up_eq, p11 _ _ (by omega)]
/-! texts that were there -/
theorem LAW_con2 {m m' : Mm} {o s w : Int} {t : Nat} (h : LAW m o t s w) (h0 : m o 0 ≤ 24) (h1 : ∀ b, m' o b = m o b) (h2 : ∀ b, m' (o + 4) b = m (o + 4) b) (h3 : ∀ b, 681 * (t : Int) ≤ b → b < 681 * (t : Int) + 681 → m' 403 b = m 403 b) : LAW m' o t s w := by
  rcases h with ⟨a1, a2⟩ | ⟨a1, i, p, p', q, q', n, F, b1, b2, b3, b4, b5, b6, b7, b8, b9, b10⟩
  · refine Or.inl ⟨by rw [h1]; exact a1, fun i hi => ?_⟩
    rw [h1] at hi
    rw [h3 _ (by omega) (by omega)]
    exact a2 i hi
  · refine Or.inr ⟨by rw [h1]; exact a1, i, p, p', q, q', n, F, by rw [h1]; exact b1, by rw [h3 _ (by omega) (by omega)]; exact b2, fun j hj => by rw [h3 _ (by omega) (by omega)]; exact b3 j hj, by rw [h1]; exact b4, by rw [h1]; exact b5, by rw [h3 _ (by omega) (by omega)]; exact b6, by rw [h3 _ (by omega) (by omega)]; exact b7, b8, b9, WE_ext _ _ _ _ _ _ _ b10 (fun j _ _ => h2 _) (fun j _ j2 => ⟨h3 _ (by omega) (by omega), h3 _ (by omega) (by omega)⟩)⟩
theorem TXT_con2 {m m' : Mm} {t : Nat} (h : TXT m t) (h1 : ∀ a b, 16 + 8 * (t : Int) ≤ a → a ≤ 20 + 8 * (t : Int) → m' a b = m a b) (h3 : ∀ b, 681 * (t : Int) ≤ b → b < 681 * (t : Int) + 681 → m' 403 b = m 403 b) : TXT m' t := by
  obtain ⟨q1, q2, q3, q4⟩ := h
  have e0 : ∀ b, m' (16 + 8 * (t : Int)) b = m (16 + 8 * t) b := fun b => h1 _ _ (by omega) (by omega)
  refine ⟨?_, ?_, LAW_con2 q3 q1.2.1 e0 (fun b => h1 _ _ (by omega) (by omega)) h3, LAW_con2 q4 q1.2.1 e0 (fun b => h1 _ _ (by omega) (by omega)) h3⟩
  · rw [e0, h3 _ (by omega) (by omega)]; exact q1
  · intro i hi
    rw [e0] at hi
    have := q2 i hi
    rw [h3 (681 * (t : Int) + 1 + 3 * i) (by omega) (by omega), h3 (681 * (t : Int) + 2 + 3 * i) (by omega) (by omega), h3 (681 * (t : Int) + 3 + 3 * i) (by omega) (by omega), h1 (16 + 8 * (t : Int) + 1) _ (by omega) (by omega), h1 (16 + 8 * (t : Int) + 2) _ (by omega) (by omega), h1 (16 + 8 * (t : Int) + 3) _ (by omega) (by omega)]
    exact this
theorem lw_LAW {m N M : Mm} {T n s w : Nat} {f so : Int} (h : lw_ (681 * (T : Int)) m N n s w f so) (hf : 6 ≤ f ∧ f ≤ 9) (hs : s ≤ 300) (hw : w ≤ 300) (h0 : M (16 + 8 * (T : Int)) 0 = (n : Nat)) (hn : n ≤ 24) (h1 : ∀ k, 6 ≤ k → k ≤ 11 → M (16 + 8 * (T : Int)) k = m 82 k) (h4 : ∀ b, 0 ≤ b → b < 300 → M (16 + 8 * (T : Int) + 4) b = m 86 b) (h3 : ∀ b, 681 * (T : Int) ≤ b → M 403 b = N 403 b) : LAW M (16 + 8 * (T : Int)) T f so := by
  rcases h with ⟨a1, a2⟩ | ⟨a1, i, p, p', a, a', b1, b2, b3, b4, b5, b6, b7, b8, b9, k, F, b10⟩
  · refine Or.inl ⟨by rw [h1 _ (by omega) (by omega)]; exact a1, fun i hi => ?_⟩
    rw [h0] at hi
    rw [h3 _ (by omega)]
    exact a2 i (by omega)
  · refine Or.inr ⟨by rw [h1 _ (by omega) (by omega)]; exact a1, i, p, p', a, a', k, F, by rw [h0]; omega, by rw [h3 _ (by omega)]; exact b2, fun j hj => by rw [h3 _ (by omega)]; exact b3 j hj, by rw [h1 _ (by omega) (by omega)]; exact b4, by rw [h1 _ (by omega) (by omega)]; exact b5, by rw [h3 _ (by omega)]; exact b6, by rw [h3 _ (by omega)]; exact b7, by omega, by omega, WE_ext _ _ _ _ _ _ _ b10 (fun j _ j2 => h4 _ (by omega) (by omega)) (fun j _ _ => ⟨h3 _ (by omega), h3 _ (by omega)⟩)⟩
/-- the relation, a text later or as before -/
theorem R_text {m M : Mm} {T T' : Nat} (h : R m) (hT : m 401 2 = (T : Nat)) (hT' : T' = T ∨ T' = T + 1) (hT4 : T' ≤ 4) (h401 : M 401 2 = (T' : Nat)) (h128 : M 128 6 = (T' : Nat)) (hfr : ∀ a b, ¬ (a = 80 ∧ (b = 1 ∨ 3 ≤ b)) → ¬ (82 ≤ a ∧ a ≤ 86) → ¬ (16 + 8 * (T : Int) ≤ a ∧ a ≤ 20 + 8 * (T : Int)) → ¬ (a = 128 ∧ b = 6) → ¬ (a = 400 ∧ 5 ≤ b ∧ b ≤ 20) → ¬ (a = 403 ∧ 681 * (T : Int) ≤ b) → a ≠ 406 → ¬ (a = 401 ∧ b = 2) → M a b = m a b) (hRF : RF M) (hnew : T' = T + 1 → TXT M T) (hTT : T < 4) : R M ∧ M 500 = m 500 := by
  obtain ⟨h1, h2, h3, h4, h5, h6, h7, h8, h9⟩ := h
  obtain ⟨o1, o2, o3, o4, o5, o6⟩ := h1.2.2.2
  have S : ∀ k, k ≠ 2 → M 401 k = m 401 k := fun k hk => hfr _ _ (by omega) (by omega) (by omega) (by omega) (by omega) (by omega) (by omega) (by omega)
  have f402 : M 402 = m 402 := by
    funext b
    exact hfr _ _ (by omega) (by omega) (by omega) (by omega) (by omega) (by omega) (by omega) (by omega)
  have fa : ∀ a b, 128 ≤ a → a ≤ 383 → ¬ (a = 128 ∧ b = 6) → M a b = m a b := fun a b x y z => hfr _ _ (by omega) (by omega) (by omega) z (by omega) (by omega) (by omega) (by omega)
  refine ⟨⟨?_, ?_, ?_, ?_, ?_, ?_, hRF, ⟨?_, ?_, ?_⟩, ?_⟩, ?_⟩
  · refine FC_o h1 (fun a b _ _ => fa a b (by omega) (by omega) (by omega)) (fa _ _ (by omega) (by omega) (by omega)) (fa _ _ (by omega) (by omega) (by omega)) (fun k hk => S k (by omega)) ⟨?_, ?_, ?_, ?_, ?_, fun i hi => ?_⟩
    · rw [fa _ _ (by omega) (by omega) (by omega), S _ (by omega)]; exact o1
    · rw [fa _ _ (by omega) (by omega) (by omega), S _ (by omega)]; exact o2
    · rw [h128, h401]; omega
    · rw [fa _ _ (by omega) (by omega) (by omega), S _ (by omega), h401]; omega
    · rw [fa _ _ (by omega) (by omega) (by omega), S _ (by omega)]; exact o5
    · rw [S _ (by omega)] at hi
      rw [fa (128 + 126) _ (by omega) (by omega) (by omega), fa (128 + 127) _ (by omega) (by omega) (by omega), S _ (by omega), S _ (by omega)]
      exact o6 i hi
  · rw [f402]
    exact FC_con h2 (fun a b _ _ => fa _ _ (by omega) (by omega) (by omega))
  · exact RH_con h3 o2.2 (fun b _ => hfr _ _ (by omega) (by omega) (by omega) (by omega) (by omega) (by omega) (by omega) (by omega)) (S _ (by omega)) (fun k _ _ => S k (by omega))
  · rw [f402]
    exact RH_con h4 h2.2.2.2.2.1.2 (fun b _ => hfr _ _ (by omega) (by omega) (by omega) (by omega) (by omega) (by omega) (by omega) (by omega)) rfl (fun _ _ _ => rfl)
  · rw [f402, S _ (by omega), h401]; omega
  · intro t ht
    rw [h401] at ht
    by_cases htT : t = T
    · subst htT
      exact hnew (by omega)
    · exact TXT_con2 (h6 t (by omega)) (fun a b _ _ => hfr _ _ (by omega) (by omega) (by omega) (by omega) (by omega) (by omega) (by omega) (by omega)) (fun b _ _ => hfr _ _ (by omega) (by omega) (by omega) (by omega) (by omega) (by omega) (by omega) (by omega))
  · unfold TRI
    rw [hfr 501 _ (by omega) (by omega) (by omega) (by omega) (by omega) (by omega) (by omega) (by omega), hfr 501 _ (by omega) (by omega) (by omega) (by omega) (by omega) (by omega) (by omega) (by omega), hfr 501 _ (by omega) (by omega) (by omega) (by omega) (by omega) (by omega) (by omega) (by omega), hfr 501 _ (by omega) (by omega) (by omega) (by omega) (by omega) (by omega) (by omega) (by omega)]
    exact h8.1
  · intro t k ht hk
    rw [hfr 404 _ (by omega) (by omega) (by omega) (by omega) (by omega) (by omega) (by omega) (by omega)]
    exact h8.2.1 t k ht hk
  · rw [hfr 400 24 (by omega) (by omega) (by omega) (by omega) (by omega) (by omega) (by omega) (by omega)]; exact h8.2.2
  · rw [hfr 48 _ (by omega) (by omega) (by omega) (by omega) (by omega) (by omega) (by omega) (by omega), hfr 48 _ (by omega) (by omega) (by omega) (by omega) (by omega) (by omega) (by omega) (by omega)]; exact h9
  · funext b
    exact hfr 500 b (by omega) (by omega) (by omega) (by omega) (by omega) (by omega) (by omega) (by omega)
