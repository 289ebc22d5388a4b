/-! TEXT: both answer alike -/
theorem op_text {m : Mm} (h : R m) : OP k_Th_text k_Mo_text 0 [] m := by
  have h0 := h
  obtain ⟨h1, h2, h3, h4, h5, h6, h7, h8, h9⟩ := h
  obtain ⟨o1, o2, o3, o4, o5, o6⟩ := h1.2.2.2
  obtain ⟨T, hTe⟩ := Int.eq_ofNat_of_zero_le o3.2.1
  have hT : m 401 2 = (T : Nat) := hTe
  have h128 : m 128 6 = (T : Nat) := by rw [o3.1]; exact hT
  by_cases hT4 : T < 4
  rotate_left
  · have e4 : m 401 2 = 4 := by omega
    exact OP_e (v := -1) h0 (cl_Th_text (b_Th_text ⟨fun z => by omega, fun _ => rfl⟩)) (cl_Mo_text (b_Mo_text ⟨fun z => absurd e4 z, fun _ => rfl⟩))
  obtain ⟨⟨f1, f2, f3⟩, f4, _, _⟩ := h7
  obtain ⟨L, hL⟩ := Int.eq_ofNat_of_zero_le f1
  have hL' : m 400 5 = (L : Nat) := hL
  have hTP : TPE (fun i => m 405 i) L := ⟨by omega, fun i hi => (f4 i (by omega)).2⟩
  have b81 : ∀ i : Nat, i < L → m 81 (i : Nat) = (fun i => m 405 i) (i : Nat) := fun i hi => (f4 i (by omega)).1
  have e80 : m 80 1 = (L : Nat) := by rw [f3]; exact hL'
  -- the model after any class's end that leaves its rows
  have second : ∀ c1 : Mm, (∀ a b, 399 < a → c1 a b = m a b) → (∃ m' N' q s w n, Cl 86 k_Rd_reads [(15, 80)] m (some (0, 1), m') ∧ Cl 17 k_Mo_readText [(18, 400)] c1 (some (0, 0), N') ∧ KS_ (fun i => m 405 i) L (681 * (T : Int)) m' N' q s w n ∧ m' 80 3 = 1 ∧ m' 80 4 = 0 ∧ m' 80 5 = -1 ∧ FRr m m' ∧ FRe (681 * (T : Int)) c1 N')
    ∨ (∃ f p m' N', 0 < f ∧ Cl 86 k_Rd_reads [(15, 80)] m (some (0, 0), m') ∧ flt_ m' f p ∧ m' 80 3 = 1 ∧ FRr m m' ∧ Cl 17 k_Mo_readText [(18, 400)] c1 (some (0, f), N') ∧ N' 400 9 = (p : Nat) ∧ FRe (681 * (T : Int)) c1 N') := fun c1 hc => read_s hTP hT4 e80 b81 (by rw [hc _ _ (by omega)]; exact hL') (fun i hi => hc _ _ (by omega)) (by rw [hc _ _ (by omega)]; exact hT)
  rcases second m (fun _ _ _ => rfl) with ⟨m', _, q, s, w, n, a1, _, aK, a3, a4, a5, a6, _⟩ | ⟨f, p, m', _, f0, a1, a2, a3, a4, _, _, _⟩
  · -- it is read
    obtain ⟨_, _, _, t1, t2, t3, t4, t5, t6⟩ := aK
    have e128 : m' 128 6 = (T : Nat) := by rw [a6 _ _ (by omega) (by omega)]; exact h128
    obtain ⟨m3, c1, c2, c3, c4, c5, c6, c7, c8⟩ := c_Tx_copyFrom (d := 119) (o := 16 + 8 * (T : Int)) (m := up m' 80 1 0) (by omega) (by rw [up_ne (by omega)]; exact lw_01 t4) (by rw [up_ne (by omega)]; exact lw_01 t5)
    obtain ⟨C, hC⟩ : ∃ C, C = up m3 128 6 ((T + 1 : Nat) : Int) := ⟨_, rfl⟩
    have e3128 : m3 128 6 = (T : Nat) := by rw [c8 _ _ (by omega), up_ne (by omega)]; exact e128
    have hcl : Cl 120 k_Th_text [(17, 0)] m (some (0, (T : Nat)), C) := by
      refine cl_Th_text (b_Th_text ⟨fun _ => ⟨1, m', a1.up (by decide), ?_⟩, fun z => by omega⟩)
      rintro x2 rfl
      rw [up_ne (by omega), e128, show (3 : Int) + 13 + 8 * (T : Nat) = 16 + 8 * (T : Int) by omega]
      refine ⟨fun _ => ⟨by omega, m3, c1, ?_⟩, fun z => absurd (by decide) z⟩
      rintro x4 rfl
      rw [e3128, w32s (by omega), ← hC, hC, up_eq, w32n (by omega) (by omega)]
      rw [show ((T + 1 : Nat) : Int) - 1 = (T : Nat) by omega]
    have fC : ∀ a b, ¬ (a = 80 ∧ (b = 1 ∨ 3 ≤ b)) → ¬ (82 ≤ a ∧ a ≤ 86) → ¬ (16 + 8 * (T : Int) ≤ a ∧ a ≤ 20 + 8 * (T : Int)) → ¬ (a = 128 ∧ b = 6) → C a b = m a b := fun a b x y z v => by
      rw [hC]
      unfold up
      rw [if_neg v, c8 a b (by omega)]
      unfold up
      rw [if_neg (by omega), a6 a b (by omega) y]
    rcases second C (fun a b hab => fC a b (by omega) (by omega) (by omega) (by omega)) with ⟨m2, N, q2, s2, w2, n2, g1, g2, gK, g3, g4, g5, g6, g7⟩ | ⟨f, p, m2, N, f0, g1, _⟩
    rotate_left
    · have := Cl_det a1 g1
      simp at this
    have em : m2 = m' := by
      have := Cl_det a1 g1
      simp at this
      exact this.symm
    subst em
    obtain ⟨_, k2, k3, t1, t2, t3, t4, t5, t6⟩ := gK
    obtain ⟨M, hM⟩ : ∃ M, M = up (up (up (up N 400 6 0) 400 7 (-1)) 400 5 0) 401 2 ((T + 1 : Nat) : Int) := ⟨_, rfl⟩
    have eN2 : N 401 2 = (T : Nat) := by rw [g7 _ _ (by omega) (by omega) (by omega), fC _ _ (by omega) (by omega) (by omega) (by omega)]; exact hT
    have hml : Cl 120 k_Mo_text [(18, 400)] C (some (0, (T : Nat)), M) := by
      refine cl_Mo_text (b_Mo_text ⟨fun _ => ⟨0, N, g2.up (by decide), ?_⟩, fun z => ?_⟩)
      · rintro x2 rfl
        rw [up_eq]
        refine ⟨fun z => absurd rfl z, fun _ => ?_⟩
        rintro x6 rfl x7 rfl
        rw [up_nk (by omega), up_nk (by omega), up_eq]
        refine ⟨fun _ => ?_, fun z => absurd rfl z⟩
        rintro x8 rfl
        have v1 : up (up (up N 400 6 0) 400 7 (-1)) 400 5 0 401 2 = (T : Nat) := by rw [up_ne (by omega), up_ne (by omega), up_ne (by omega)]; exact eN2
        have vM : M 401 2 = ((T + 1 : Nat) : Int) := by rw [hM, up_eq]
        rw [v1, w32s (by omega), ← hM, vM, w32n (by omega) (by omega), show ((T + 1 : Nat) : Int) - 1 = (T : Nat) by omega]
      · rw [Classical.not_not, fC _ _ (by omega) (by omega) (by omega) (by omega)] at z
        omega
    have fM : ∀ a b, ¬ (a = 400 ∧ 5 ≤ b ∧ b ≤ 20) → ¬ (a = 403 ∧ 681 * (T : Int) ≤ b) → a ≠ 406 → ¬ (a = 401 ∧ b = 2) → M a b = C a b := fun a b x y z v => by
      rw [hM]
      unfold up
      rw [if_neg v, if_neg (by omega), if_neg (by omega), if_neg (by omega), g7 a b (by omega) y z]
    have eo : ∀ a b, a < 128 → M a b = m3 a b := fun a b x => by rw [fM a b (by omega) (by omega) (by omega) (by omega), hC, up_ne (by omega)]
    have e403 : ∀ b, M 403 b = N 403 b := fun b => by rw [hM, up_ne (by omega), up_ne (by omega), up_ne (by omega), up_ne (by omega)]
    have r0 : M (16 + 8 * (T : Int)) 0 = (n2 : Nat) := by rw [eo _ _ (by omega), c2, up_ne (by omega)]; exact t1
    have r1 : ∀ b, 0 ≤ b → b < 24 → M (16 + 8 * (T : Int) + 1) b = m2 83 b := fun b x y => by rw [eo _ _ (by omega), c3 b x y, up_ne (by omega)]
    have r2 : ∀ b, 0 ≤ b → b < 24 → M (16 + 8 * (T : Int) + 2) b = m2 84 b := fun b x y => by rw [eo _ _ (by omega), c4 b x y, up_ne (by omega)]
    have r3 : ∀ b, 0 ≤ b → b < 24 → M (16 + 8 * (T : Int) + 3) b = m2 85 b := fun b x y => by rw [eo _ _ (by omega), c5 b x y, up_ne (by omega)]
    have r4 : ∀ b, 0 ≤ b → b < 300 → M (16 + 8 * (T : Int) + 4) b = m2 86 b := fun b x y => by rw [eo _ _ (by omega), c6 b x y, up_ne (by omega)]
    have r6 : ∀ k, 6 ≤ k → k ≤ 11 → M (16 + 8 * (T : Int)) k = m2 82 k := fun k x y => by rw [eo _ _ (by omega), c7 k x y, up_ne (by omega)]
    have hnew : TXT M T := by
      refine ⟨⟨by omega, by omega, by rw [r0, e403]; exact k2.2.2.2⟩, fun i hi => ?_, lw_LAW t4 (by decide) (by omega) (by omega) r0 t2 r6 r4 (fun b _ => e403 b), lw_LAW t5 (by decide) (by omega) (by omega) r0 t2 r6 r4 (fun b _ => e403 b)⟩
      rw [r0] at hi
      have := t3 i (by omega)
      unfold ent_ at this
      rw [e403, e403, e403, r1 _ (by omega) (by omega), r2 _ (by omega) (by omega), r3 _ (by omega) (by omega)]
      exact this
    have hRF : RF M := by
      have x1 : M 80 1 = 0 := by rw [eo _ _ (by omega), c8 _ _ (by omega), up_eq]
      have x3 : M 80 3 = 1 := by rw [eo _ _ (by omega), c8 _ _ (by omega), up_nk (by omega)]; exact g3
      have x4 : M 80 4 = 0 := by rw [eo _ _ (by omega), c8 _ _ (by omega), up_nk (by omega)]; exact g4
      have x5 : M 80 5 = -1 := by rw [eo _ _ (by omega), c8 _ _ (by omega), up_nk (by omega)]; exact g5
      have y5 : M 400 5 = 0 := by rw [hM, up_ne (by omega), up_eq]
      have y6 : M 400 6 = 0 := by rw [hM, up_ne (by omega), up_nk (by omega), up_nk (by omega), up_eq]
      have y7 : M 400 7 = -1 := by rw [hM, up_ne (by omega), up_nk (by omega), up_eq]
      refine ⟨⟨by omega, by omega, by omega⟩, fun i hi => by omega, fun z => by omega, fun _ => ⟨by omega, by omega⟩⟩
    obtain ⟨z1, z2⟩ := R_text (M := M) (T' := T + 1) h0 hT (Or.inr rfl) (by omega) (by rw [hM, up_eq]) (by rw [fM _ _ (by omega) (by omega) (by omega) (by omega), hC, up_eq]) (fun a b x1 x2 x3 x4 x5 x6 x7 x8 => by rw [fM a b x5 x6 x7 x8, fC a b x1 x2 x3 x4]) hRF (fun _ => hnew) hT4
    exact ⟨_, C, M, hcl, hml, z1, z2⟩
  · -- a fault
    obtain ⟨C, hC⟩ : ∃ C, C = up m' 80 1 0 := ⟨_, rfl⟩
    have hcl : Cl 120 k_Th_text [(17, 0)] m (some (0, -1), C) := by
      refine cl_Th_text (b_Th_text ⟨fun _ => ⟨0, m', a1.up (by decide), ?_⟩, fun z => by omega⟩)
      rintro x2 rfl
      rw [hC]
      exact ⟨fun z => absurd rfl z, fun _ => rfl⟩
    have fC : ∀ a b, ¬ (a = 80 ∧ (b = 1 ∨ 3 ≤ b)) → ¬ (82 ≤ a ∧ a ≤ 86) → C a b = m a b := fun a b x y => by
      rw [hC]
      unfold up
      rw [if_neg (by omega), a4 a b (by omega) y]
    rcases second C (fun a b hab => fC a b (by omega) (by omega)) with ⟨m2, N, q2, s2, w2, n2, g1, _⟩ | ⟨f2, p2, m2, N, f20, g1, g2, g3, g4, g5, g6, g7⟩
    · have := Cl_det a1 g1
      simp at this
    have em : m2 = m' := by
      have := Cl_det a1 g1
      simp at this
      exact this.symm
    subst em
    obtain ⟨M, hM⟩ : ∃ M, M = up (up (up N 400 6 f2) 400 7 (p2 : Nat)) 400 5 0 := ⟨_, rfl⟩
    have hml : Cl 120 k_Mo_text [(18, 400)] C (some (0, -1), M) := by
      refine cl_Mo_text (b_Mo_text ⟨fun _ => ⟨f2, N, g5.up (by decide), ?_⟩, fun z => ?_⟩)
      · rintro x2 rfl
        rw [up_eq]
        refine ⟨fun _ => ?_, fun z => by omega⟩
        rintro x3 rfl x4 rfl
        have v9 : up N 400 6 f2 400 9 = (p2 : Nat) := by rw [up_nk (by omega)]; exact g6
        have vM : M 400 6 = f2 := by rw [hM, up_nk (by omega), up_nk (by omega), up_eq]
        rw [v9, ← hM, vM]
        exact ⟨fun z => by omega, fun _ => rfl⟩
      · rw [Classical.not_not, fC _ _ (by omega) (by omega)] at z
        omega
    have fM : ∀ a b, ¬ (a = 400 ∧ 5 ≤ b ∧ b ≤ 20) → ¬ (a = 403 ∧ 681 * (T : Int) ≤ b) → a ≠ 406 → M a b = C a b := fun a b x y z => by
      rw [hM]
      unfold up
      rw [if_neg (by omega), if_neg (by omega), if_neg (by omega), g7 a b (by omega) y z]
    have hRF : RF M := by
      have x1 : M 80 1 = 0 := by rw [fM _ _ (by omega) (by omega) (by omega), hC, up_eq]
      have x3 : M 80 3 = 1 := by rw [fM _ _ (by omega) (by omega) (by omega), hC, up_nk (by omega)]; exact g3
      have x4 : M 80 4 = f2 := by rw [fM _ _ (by omega) (by omega) (by omega), hC, up_nk (by omega)]; exact g2.1
      have x5 : M 80 5 = (p2 : Nat) := by rw [fM _ _ (by omega) (by omega) (by omega), hC, up_nk (by omega)]; exact g2.2
      have y5 : M 400 5 = 0 := by rw [hM, up_eq]
      have y6 : M 400 6 = f2 := by rw [hM, up_nk (by omega), up_nk (by omega), up_eq]
      have y7 : M 400 7 = (p2 : Nat) := by rw [hM, up_nk (by omega), up_eq]
      refine ⟨⟨by omega, by omega, by omega⟩, fun i hi => by omega, fun z => by omega, fun _ => ⟨by omega, by omega⟩⟩
    obtain ⟨z1, z2⟩ := R_text (M := M) (T' := T) h0 hT (Or.inl rfl) (by omega) (by rw [fM _ _ (by omega) (by omega) (by omega), fC _ _ (by omega) (by omega)]; exact hT) (by rw [fM _ _ (by omega) (by omega) (by omega), fC _ _ (by omega) (by omega)]; exact h128) (fun a b x1 x2 x3 x4 x5 x6 x7 x8 => by rw [fM a b x5 x6 x7, fC a b x1 x2]) hRF (fun z => by omega) hT4
    exact ⟨_, C, M, hcl, hml, z1, z2⟩
