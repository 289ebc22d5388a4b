/-! THE MODEL'S UNDO, AND IMAGES -/
theorem undo_81 {d : Nat} {m : Mm} {S : Int → Int} {x : Int} (hx : 56 ≤ x ∧ x + 46 ≤ 1436) : Ev (d + 1) K_Mo_undo 0 81 [(18, 400), (0, x), (0, 0)] [] (sr m 401 S) (some (0, S 4), sr m 401 (fls S 1436 30 (fun j => S (x + 16 + j)))) := by
  have key : ∀ (f k : Nat), k + f = 30 → Ev (d + 1) K_Mo_undo 0 81 [(18, 400), (0, x), (0, (k : Nat))] [] (sr m 401 (fls S 1436 k (fun j => S (x + 16 + j)))) (some (0, S 4), sr m 401 (fls S 1436 30 (fun j => S (x + 16 + j)))) := by
    intro f
    induction f with
    | zero =>
      intro k hk
      obtain rfl : k = 30 := by omega
      refine b_Mo_undo_81 ⟨fun _ => ?_, fun z => absurd (by omega) z⟩
      rw [sr_eq, fls_out (b := 4) (by omega)]
      rfl
    | succ f ih =>
      intro k hk
      have e1 : w32 (1436 + (k : Int)) = 1436 + k := w32n (by omega) (by omega)
      have e2 : w32 (w32 (x + 16) + (k : Int)) = x + 16 + k := by rw [w32n (x := x + 16) (by omega) (by omega), w32n (by omega) (by omega)]
      refine b_Mo_undo_81 ⟨fun z => by omega, fun _ => ?_⟩
      rw [e1, e2]
      refine ⟨by omega, by omega, ?_⟩
      rintro m2 rfl
      rw [sr_up2, sr_eq, fls_out (b := x + 16 + (k : Int)) (by omega), fls_up (k := k) rfl rfl, w32s (by omega)]
      exact ih (k + 1) (by omega)
  have := key 30 0 rfl
  rw [show ((0 : Nat) : Int) = 0 from rfl, fls_0] at this
  exact this
theorem fls_up2 {S f : Int → Int} {p q v w : Int} {k : Nat} (hq : q = p + 2 * k) (hv : v = f (2 * k)) (hw : w = f (2 * k + 1)) : ups (ups (fls S p (2 * k) f) q v) (q + 1) w = fls S p (2 * ((k + 1 : Nat) : Int)) f := by
  have h1 : ups (fls S p ((2 * k : Nat) : Int) f) q v = fls S p ((2 * k + 1 : Nat) : Int) f := fls_up (by omega) (by rw [hv]; congr 1)
  have h2 : ups (fls S p ((2 * k + 1 : Nat) : Int) f) (q + 1) w = fls S p ((2 * k + 1 + 1 : Nat) : Int) f := fls_up (by omega) (by rw [hw]; congr 1)
  rw [← h1] at h2
  rw [show (2 * (k : Int)) = ((2 * k : Nat) : Int) by omega, h2]
  congr 1
theorem undo_50 {d : Nat} {m : Mm} {S : Int → Int} {x T : Int} (hx : 56 ≤ x ∧ x + 46 ≤ 1436) (hT : 0 ≤ T ∧ T ≤ S 1 ∧ S 1 ≤ 5) : Ev (d + 1) K_Mo_undo 0 50 [(18, 400), (0, x), (0, T)] [] (sr m 401 S) (some (0, S 4), sr m 401 (fls (fls S (11 + 2 * T) (2 * (S 1 - T)) (fun j => S (21 + 2 * T + j))) 1436 30 (fun j => S (x + 16 + j)))) := by
  have key : ∀ (f k : Nat), T + k + f = S 1 → Ev (d + 1) K_Mo_undo 0 50 [(18, 400), (0, x), (0, T + k)] [] (sr m 401 (fls S (11 + 2 * T) (2 * k) (fun j => S (21 + 2 * T + j)))) (some (0, S 4), sr m 401 (fls (fls S (11 + 2 * T) (2 * (S 1 - T)) (fun j => S (21 + 2 * T + j))) 1436 30 (fun j => S (x + 16 + j)))) := by
    intro f
    induction f with
    | zero =>
      intro k hk
      have e1 : fls S (11 + 2 * T) (2 * k) (fun j => S (21 + 2 * T + j)) 1 = S 1 := fls_out (by omega)
      refine b_Mo_undo_50 ⟨fun _ => ?_, fun z => absurd (by rw [sr_eq, e1]; omega) z⟩
      have := undo_81 (d := d) (m := m) (S := fls S (11 + 2 * T) (2 * k) (fun j => S (21 + 2 * T + j))) hx
      rw [fls_out (b := 4) (by omega), fls_con (f := fun j => fls S (11 + 2 * T) (2 * k) (fun j => S (21 + 2 * T + j)) (x + 16 + j)) (g := fun j => S (x + 16 + j)) (fun j h0 h1 => fls_out (by omega))] at this
      rw [show S 1 - T = k by omega]
      exact this
    | succ f ih =>
      intro k hk
      have e1 : fls S (11 + 2 * T) (2 * k) (fun j => S (21 + 2 * T + j)) 1 = S 1 := fls_out (by omega)
      obtain ⟨z1, z2, z3, z4⟩ := ce (x := T + k) (by omega)
      refine b_Mo_undo_50 ⟨fun z => by rw [sr_eq, e1] at z; omega, fun _ => ?_⟩
      rw [z3, z4]
      refine ⟨by omega, by omega, _, c_Mo_put (by omega), ?_⟩
      rw [sr_up2, sr_up2, sr_eq, fls_out (b := 21 + 2 * (T + k)) (by omega), fls_out (b := 22 + 2 * (T + k)) (by omega)]
      have := fls_up2 (S := S) (f := fun j => S (21 + 2 * T + j)) (p := 11 + 2 * T) (q := 11 + 2 * (T + k)) (v := S (21 + 2 * (T + k))) (w := S (22 + 2 * (T + k))) (k := k) (by omega) (by congr 1; omega) (by congr 1; omega)
      rw [show 11 + 2 * (T + (k : Int)) + 1 = 12 + 2 * (T + k) by omega] at this
      rw [this, w32n (by omega) (by omega), show T + (k : Int) + 1 = T + ((k + 1 : Nat) : Int) by omega]
      exact ih (k + 1) (by omega)
  have := key (S 1 - T).toNat 0 (by omega)
  rw [show 2 * ((0 : Nat) : Int) = 0 from rfl, fls_0, show T + ((0 : Nat) : Int) = T by omega] at this
  exact this
theorem c_Mo_undo {d : Nat} {m : Mm} (h4 : 0 < m 401 4 ∧ m 401 4 ≤ 30) (hT : 0 ≤ m 401 (56 + 46 * (m 401 4 - 1)) ∧ m 401 (56 + 46 * (m 401 4 - 1)) ≤ m 401 1 ∧ m 401 1 ≤ 5) : Cl (d + 1) k_Mo_undo [(18, 400)] m (some (0, m 401 4 - 1), sr m 401 (unS (m 401))) := by
  refine cl_Mo_undo (b_Mo_undo ⟨fun _ => ?_, fun z => absurd (by omega) z⟩)
  rintro m1 rfl
  obtain ⟨S, hS⟩ : ∃ S, S = m 401 := ⟨_, rfl⟩
  rw [← hS] at h4 hT ⊢
  rw [sr_up, ← hS, sr_eq, ups_eq, w32n (x := S 4 - 1) (by omega) (by omega)]
  obtain ⟨n, hn⟩ : ∃ n, n = S 4 - 1 := ⟨_, rfl⟩
  unfold unS
  rw [← hn] at hT ⊢
  have e1 : w32 (56 + w32 (46 * n)) = 56 + 46 * n := by rw [w32n (x := 46 * n) (by omega) (by omega), w32n (by omega) (by omega)]
  rw [e1]
  have key : ∀ (f k : Nat), k + f = 15 → Ev (d + 1) K_Mo_undo 0 26 [(18, 400), (0, 56 + 46 * n), (0, (k : Nat))] [] (sr m 401 (fls (ups S 4 n) 6 k (fun j => S (57 + 46 * n + j)))) (some (0, n), sr m 401 (fls (fls (fls (ups S 4 n) 6 15 (fun j => S (57 + 46 * n + j))) (11 + 2 * S (56 + 46 * n)) (2 * (S 1 - S (56 + 46 * n))) (fun j => S (21 + 2 * S (56 + 46 * n) + j))) 1436 30 (fun j => S (72 + 46 * n + j)))) := by
    intro f
    induction f with
    | zero =>
      intro k hk
      obtain rfl : k = 15 := by omega
      have q : ∀ b, b ≠ 4 → ¬ (6 ≤ b ∧ b < 21) → fls (ups S 4 n) 6 ((15 : Nat) : Int) (fun j => S (57 + 46 * n + j)) b = S b := fun b h h' => by rw [fls_out (by omega), ups_ne h]
      have q4 : fls (ups S 4 n) 6 ((15 : Nat) : Int) (fun j => S (57 + 46 * n + j)) 4 = n := by rw [fls_out (by omega), ups_eq]
      refine b_Mo_undo_26 ⟨fun _ => ⟨by omega, ?_⟩, fun z => absurd (by omega) z⟩
      rw [sr_eq, q _ (by omega) (by omega)]
      have := undo_50 (d := d) (m := m) (S := fls (ups S 4 n) 6 ((15 : Nat) : Int) (fun j => S (57 + 46 * n + j))) (x := 56 + 46 * n) (T := S (56 + 46 * n)) (by omega) (by rw [q 1 (by omega) (by omega)]; exact hT)
      rw [q4, q 1 (by omega) (by omega), fls_con (f := fun j => fls (ups S 4 n) 6 ((15 : Nat) : Int) (fun j => S (57 + 46 * n + j)) (21 + 2 * S (56 + 46 * n) + j)) (g := fun j => S (21 + 2 * S (56 + 46 * n) + j)) (fun j h0 h1 => q _ (by omega) (by omega)), fls_con (f := fun j => fls (ups S 4 n) 6 ((15 : Nat) : Int) (fun j => S (57 + 46 * n + j)) (56 + 46 * n + 16 + j)) (g := fun j => S (72 + 46 * n + j)) (fun j h0 h1 => by rw [q _ (by omega) (by omega)]; congr 1; omega)] at this
      exact this
    | succ f ih =>
      intro k hk
      have e1 : w32 (6 + (k : Int)) = 6 + k := w32n (by omega) (by omega)
      have e2 : w32 (w32 (56 + 46 * n + 1) + (k : Int)) = 57 + 46 * n + k := by rw [w32n (x := 56 + 46 * n + 1) (by omega) (by omega), w32n (by omega) (by omega)]; omega
      refine b_Mo_undo_26 ⟨fun z => by omega, fun _ => ?_⟩
      rw [e1, e2]
      refine ⟨by omega, by omega, ?_⟩
      rintro m2 rfl
      rw [sr_up2, sr_eq, fls_out (b := 57 + 46 * n + (k : Int)) (by omega), ups_ne (b := 57 + 46 * n + (k : Int)) (by omega), fls_up (k := k) rfl rfl, w32s (by omega)]
      exact ih (k + 1) (by omega)
  have := key 15 0 rfl
  rw [show ((0 : Nat) : Int) = 0 from rfl, fls_0] at this
  exact this
theorem c_Mo_copy {d : Nat} {m : Mm} {a0 a1 : Int} (h : a0 ≠ a1) : Cl d k_Mo_copy [(11828, a0), (11828, a1)] m (none, sr m a1 (fls (m a1) 0 1466 (m a0))) := by
  refine cl_Mo_copy (b_Mo_copy ?_)
  have key : ∀ (f k : Nat), k + f = 1466 → Ev d K_Mo_copy 3 2 [(11828, a0), (11828, a1), (0, (k : Nat))] [] (sr m a1 (fls (m a1) 0 k (m a0))) (none, sr m a1 (fls (m a1) 0 1466 (m a0))) := by
    intro f
    induction f with
    | zero =>
      intro k hk
      obtain rfl : k = 1466 := by omega
      exact b_Mo_copy_2 ⟨fun _ => rfl, fun z => absurd (by omega) z⟩
    | succ f ih =>
      intro k hk
      refine b_Mo_copy_2 ⟨fun z => by omega, fun _ => ⟨by omega, by omega, ?_⟩⟩
      rintro m2 rfl
      rw [sr_up2, sr_ne h, fls_up (k := k) (by omega) rfl, w32s (by omega)]
      exact ih (k + 1) (by omega)
  have := key 1466 0 rfl
  rw [show ((0 : Nat) : Int) = 0 from rfl, fls_0, sr_self] at this
  exact this
/-- what a farm stands for is the row's first 1466 numbers -/
theorem FC_S {m : Mm} {f : Int} {S S' : Int → Int} (h : FC m f S) (hS : ∀ k, 0 ≤ k → k < 1466 → S' k = S k) : FC m f S' := by
  obtain ⟨⟨h1, h2⟩, ⟨h3, h4⟩, ⟨h5, h5b⟩, h6⟩ := h
  have s1 := hS 1 (by omega) (by omega)
  have s4 := hS 4 (by omega) (by omega)
  have hT := h1.2.1
  refine ⟨⟨?_, ?_⟩, ⟨?_, ?_⟩, ⟨?_, ?_⟩, ?_⟩
  · rw [s1]
    exact LC_con h1 (fun _ _ _ _ => rfl) (fun k h0 hk => hS _ (by omega) (by omega))
  · exact LB_con h2 (fun _ => rfl) (fun _ => rfl) (hS _ (by omega) (by omega)) (fun i h0 hi => hS _ (by omega) (by omega))
  · rw [s4]; exact h3
  · intro i hi
    rw [s4] at hi
    obtain ⟨q1, q2⟩ := h4 i hi
    rw [hS (56 + 46 * i) (by omega) (by omega)]
    exact ⟨LC_con q1 (fun _ _ _ _ => rfl) (fun k h0 hk => hS _ (by omega) (by omega)), LB_con q2 (fun _ => rfl) (fun _ => rfl) (hS _ (by omega) (by omega)) (fun i h0 hi => hS _ (by omega) (by omega))⟩
  · intro c hc
    rw [s1] at hc
    rw [hS _ (by omega) (by omega), hS _ (by omega) (by omega)]
    exact h5 c hc
  · intro i hi
    rw [s4] at hi
    obtain ⟨q1, q2⟩ := h5b i hi
    have e2 : nT S' i = nT S i := by
      unfold nT
      rw [s4, s1]
      split
      · exact hS _ (by omega) (by omega)
      · rfl
    have e3 : ∀ k, 0 ≤ k → k < 15 → nR S' i k = nR S i k := by
      intro k h0 hk
      unfold nR
      rw [s4]
      split
      · exact hS _ (by omega) (by omega)
      · exact hS _ (by omega) (by omega)
    rw [hS (56 + 46 * i) (by omega) (by omega), e2]
    refine ⟨q1, fun c hc1 hc2 => ?_⟩
    rw [e3 _ (by omega) (by omega), e3 _ (by omega) (by omega), hS (21 + 2 * c) (by omega) (by omega), hS (22 + 2 * c) (by omega) (by omega)]
    exact q2 c hc1 hc2
  · exact FO_con h6 (fun _ _ => rfl) (fun _ => rfl) (fun _ => rfl) (fun k h0 hk _ _ _ => hS k h0 (by omega))
theorem c_Fa_copyFrom {d : Nat} {m : Mm} {f0 f1 : Int} {S : Int → Int} (hne : f0 + 127 < f1 ∨ f1 + 127 < f0) (h : FC m f1 S) : ∃ m', Cl (d + 2) k_Fa_copyFrom [(10, f0), (10, f1)] m (none, m') ∧ FC m' f0 S ∧ (∀ a b, a < f0 ∨ f0 + 127 < a → m' a b = m a b) := by
  have h' := h
  obtain ⟨⟨h1, h2⟩, ⟨⟨h3a, h3b, h3c, h3d, h3e⟩, h4⟩, h5, h6⟩ := h
  obtain ⟨m1, k1, k2, k3, k4⟩ := LC_copy (d := d) (m := m) (o0 := f0 + 1) (o1 := f1 + 1) (by omega) h1 h2
  have key : ∀ (t k : Nat) (M : Mm) (u : Vv), (k : Int) + t = S 4 → LC M (f0 + 1) (S 1) (fun k => S (6 + k)) → LB M (f0 + 1) (fun k => S (6 + k)) (fun i => S (1436 + i)) → M f0 2 = m f1 2 → M f0 3 = S 4 → (∀ i : Nat, i < k → LC M (f0 + 6 + 4 * ((m f1 2 + i) % 30)) (S (56 + 46 * i)) (fun k => S (57 + 46 * i + k)) ∧ LB M (f0 + 6 + 4 * ((m f1 2 + i) % 30)) (fun k => S (57 + 46 * i + k)) (fun j => S (72 + 46 * i + j))) → (∀ a b, a < f0 ∨ f0 + 127 < a → M a b = m a b) → ∃ m', Ev (d + 2) K_Fa_copyFrom 3 15 [(10, f0), (10, f1), (0, (k : Nat)), u] [] M (none, m') ∧ FC m' f0 S ∧ (∀ a b, a < f0 ∨ f0 + 127 < a → m' a b = m a b) := by
    intro t
    induction t with
    | zero =>
      intro k M u hk a1 a2 a3 a4 a5 a6
      have e : ∀ b, M f1 b = m f1 b := fun b => a6 f1 b (by omega)
      obtain ⟨m', hm'⟩ : ∃ m', m' = cpy (cpy (up (up (up (up (up M f0 4 (m f1 4)) f0 5 (m f1 5)) f0 6 (m f1 6)) f0 7 (m f1 7)) f0 8 (m f1 8)) (f1 + 126) 0 (f0 + 126) 0 8) (f1 + 127) 0 (f0 + 127) 0 8 := ⟨_, rfl⟩
      have n1 : ∀ a b, a ≠ f0 → a ≠ f0 + 126 → a ≠ f0 + 127 → m' a b = M a b := by
        intro a b x1 x2 x3
        rw [hm', cpy_fil, fil_ne x3, cpy_fil, fil_ne x2, up_ne x1, up_ne x1, up_ne x1, up_ne x1, up_ne x1]
      have n2 : ∀ b, b < 4 → m' f0 b = M f0 b := by
        intro b hb
        rw [hm', cpy_fil, fil_ne (by omega), cpy_fil, fil_ne (by omega), up_nk (by omega), up_nk (by omega), up_nk (by omega), up_nk (by omega), up_nk (by omega)]
      have n3 : m' f0 4 = m f1 4 ∧ m' f0 5 = m f1 5 ∧ m' f0 6 = m f1 6 ∧ m' f0 7 = m f1 7 ∧ m' f0 8 = m f1 8 := by
        rw [hm']
        refine ⟨?_, ?_, ?_, ?_, ?_⟩ <;> rw [cpy_fil, fil_ne (by omega), cpy_fil, fil_ne (by omega)]
        · rw [up_nk (by omega), up_nk (by omega), up_nk (by omega), up_nk (by omega), up_eq]
        · rw [up_nk (by omega), up_nk (by omega), up_nk (by omega), up_eq]
        · rw [up_nk (by omega), up_nk (by omega), up_eq]
        · rw [up_nk (by omega), up_eq]
        · rw [up_eq]
      have n4 : ∀ i, 0 ≤ i → i < 8 → m' (f0 + 126) i = m (f1 + 126) i ∧ m' (f0 + 127) i = m (f1 + 127) i := by
        intro i i0 i8
        rw [hm']
        constructor
        · rw [cpy_fil, fil_ne (by omega), cpy_fil, fil_in (by omega), up_ne (by omega), up_ne (by omega), up_ne (by omega), up_ne (by omega), up_ne (by omega), a6 _ _ (by omega), show (0 : Int) + (i - 0) = i by omega]
        · rw [cpy_fil, fil_in (by omega), cpy_fil, fil_ne (by omega), up_ne (by omega), up_ne (by omega), up_ne (by omega), up_ne (by omega), up_ne (by omega), a6 _ _ (by omega), show (0 : Int) + (i - 0) = i by omega]
      refine ⟨m', b_Fa_copyFrom_15 ⟨fun _ => ?_, fun z => absurd (by rw [a4]; omega) z⟩, ⟨⟨?_, ?_⟩, ⟨⟨h3a, h3b, ?_, ?_, ?_⟩, ?_⟩, h5, ?_, ?_, ?_, ?_, ?_, ?_⟩, fun a b hab => ?_⟩
      · rintro m1 rfl m2 rfl m3 rfl m4 rfl m5 rfl m6 rfl m7 rfl
        rw [hm']
        have g : ∀ (M' : Mm) (v w : Int), up M' f0 v w f1 = M' f1 := fun M' v w => up_row_ne (by omega)
        simp only [g, e]
      · exact LC_con a1 (fun a b _ _ => n1 a b (by omega) (by omega) (by omega)) (fun _ _ _ => rfl)
      · exact LB_con a2 (fun b => n1 _ b (by omega) (by omega) (by omega)) (fun b => n1 _ b (by omega) (by omega) (by omega)) rfl (fun _ _ _ => rfl)
      · rw [n2 3 (by omega)]; exact a4
      · rw [n2 2 (by omega), a3]; exact h3d
      · rw [n2 2 (by omega), a3]; exact h3e
      · intro i hi
        rw [n2 2 (by omega), a3]
        obtain ⟨q1, q2⟩ := a5 i (by omega)
        exact ⟨LC_con q1 (fun a b _ _ => n1 a b (by omega) (by omega) (by omega)) (fun _ _ _ => rfl), LB_con q2 (fun b => n1 _ b (by omega) (by omega) (by omega)) (fun b => n1 _ b (by omega) (by omega) (by omega)) rfl (fun _ _ _ => rfl)⟩
      · rw [n3.1]; exact h6.1
      · rw [n3.2.1]; exact h6.2.1
      · rw [n3.2.2.1]; exact h6.2.2.1
      · rw [n3.2.2.2.1]; exact h6.2.2.2.1
      · rw [n3.2.2.2.2]; exact h6.2.2.2.2.1
      · intro i hi
        have := h6.2.2.2.2.1
        rw [(n4 i (by omega) (by omega)).1, (n4 i (by omega) (by omega)).2]
        exact h6.2.2.2.2.2 i hi
      · rw [n1 a b (by omega) (by omega) (by omega), a6 a b hab]
    | succ t ih =>
      intro k M u hk a1 a2 a3 a4 a5 a6
      obtain ⟨q1, q2⟩ := h4 k (by omega)
      have e0 : irm (w32 (M f0 2 + (k : Int))) 30 = (m f1 2 + k) % 30 := by rw [a3]; exact irm30 (by omega)
      obtain ⟨M', r1, r2, r3, r4⟩ := LC_copy (d := d) (m := M) (o0 := f0 + 6 + 4 * ((m f1 2 + k) % 30)) (o1 := f1 + 6 + 4 * ((m f1 2 + k) % 30)) (by omega) (LC_con q1 (fun a b _ _ => a6 a b (by omega)) (fun _ _ _ => rfl)) (LB_con q2 (fun b => a6 _ b (by omega)) (fun b => a6 _ b (by omega)) rfl (fun _ _ _ => rfl))
      obtain ⟨m', s1, s2, s3⟩ := ih (k + 1) M' (0, (m f1 2 + k) % 30) (by omega) (LC_con a1 (fun a b _ _ => r4 a b (by omega)) (fun _ _ _ => rfl)) (LB_con a2 (fun b => r4 _ b (by omega)) (fun b => r4 _ b (by omega)) rfl (fun _ _ _ => rfl)) (by rw [r4 _ _ (by omega)]; exact a3) (by rw [r4 _ _ (by omega)]; exact a4) (fun i hi => by
        by_cases hik : i = k
        · subst hik
          exact ⟨r2, r3⟩
        · obtain ⟨q1, q2⟩ := a5 i (by omega)
          exact ⟨LC_con q1 (fun a b _ _ => r4 a b (by omega)) (fun _ _ _ => rfl), LB_con q2 (fun b => r4 _ b (by omega)) (fun b => r4 _ b (by omega)) rfl (fun _ _ _ => rfl)⟩) (fun a b hab => by rw [r4 a b (by omega), a6 a b hab])
      refine ⟨m', b_Fa_copyFrom_15 ⟨fun z => by rw [a4] at z; omega, fun _ => ?_⟩, s2, s3⟩
      rw [e0, w32s (by omega), show f0 + 5 + 1 + 4 * ((m f1 2 + k) % 30) = f0 + 6 + 4 * ((m f1 2 + k) % 30) by omega, show f1 + 5 + 1 + 4 * ((m f1 2 + k) % 30) = f1 + 6 + 4 * ((m f1 2 + k) % 30) by omega]
      exact ⟨by omega, by omega, M', r1, s1⟩
  have g1 : ∀ b, m1 f1 b = m f1 b := fun b => k4 f1 b (by omega)
  obtain ⟨m', s1, s2, s3⟩ := key (S 4).toNat 0 (up (up m1 f0 2 (m f1 2)) f0 3 (m f1 3)) (9, 0) (by omega) (LC_con k2 (fun a b _ _ => by rw [up_ne (by omega), up_ne (by omega)]) (fun _ _ _ => rfl)) (LB_con k3 (fun b => by rw [up_ne (by omega), up_ne (by omega)]) (fun b => by rw [up_ne (by omega), up_ne (by omega)]) rfl (fun _ _ _ => rfl)) (by rw [up_nk (by omega), up_eq]) (by rw [up_eq]; exact h3c) (fun i hi => by omega) (fun a b hab => by rw [up_ne (by omega), up_ne (by omega), k4 a b (by omega)])
  refine ⟨m', cl_Fa_copyFrom (b_Fa_copyFrom ⟨m1, k1, ?_⟩), s2, s3⟩
  rintro m2 rfl m3 rfl
  rw [g1, up_ne (a := f1) (by omega), g1]
  exact s1
