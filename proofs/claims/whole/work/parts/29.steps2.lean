/-! STEPS: the model's keep, undo and copy; the class's taking back and copying of farms -/
def sr (m : Mm) (o : Int) (S : Int → Int) : Mm := fun a => if a = o then S else m a
theorem sr_eq {m : Mm} {o : Int} {S : Int → Int} : sr m o S o = S := if_pos rfl
theorem sr_ne {m : Mm} {o a : Int} {S : Int → Int} (h : a ≠ o) : sr m o S a = m a := if_neg h
theorem sr_sr {m : Mm} {o : Int} {S S' : Int → Int} : sr (sr m o S) o S' = sr m o S' := by
  funext a
  unfold sr
  split <;> rfl
theorem sr_up {m : Mm} {o k v : Int} : up m o k v = sr m o (ups (m o) k v) := by
  funext a b
  unfold up sr ups
  by_cases h : a = o
  · subst h
    simp
  · simp [h]
theorem sr_fil {m : Mm} {o p n : Int} {f : Int → Int} : fil m o p n f = sr m o (fls (m o) p n f) := by
  funext a b
  unfold fil sr fls
  by_cases h : a = o
  · subst h
    simp
  · simp [h]
theorem sr_up2 {m : Mm} {o k v : Int} {S : Int → Int} : up (sr m o S) o k v = sr m o (ups S k v) := by rw [sr_up, sr_sr, sr_eq]
theorem sr_self {m : Mm} {o : Int} : sr m o (m o) = m := by
  funext a
  unfold sr
  split
  · rename_i h; rw [h]
  · rfl
theorem fls_0 {S f : Int → Int} {p : Int} : fls S p 0 f = S := by
  funext b
  exact fls_out (by omega)
theorem fls_up {S f : Int → Int} {p q v : Int} {k : Nat} (hq : q = p + k) (hv : v = f k) : ups (fls S p k f) q v = fls S p ((k + 1 : Nat) : Int) f := by
  subst hq hv
  funext b
  unfold ups fls
  by_cases h : b = p + k
  · subst h
    rw [if_pos rfl, if_pos (by omega), show p + (k : Int) - p = k by omega]
  · rw [if_neg h]
    by_cases h2 : p ≤ b ∧ b < p + k
    · rw [if_pos h2, if_pos (by omega)]
    · rw [if_neg h2, if_neg (by omega)]
theorem w32s {k : Nat} (h : k < 100000) : w32 ((k : Int) + 1) = ((k + 1 : Nat) : Int) := by rw [w32n (by omega) (by omega)]; rfl
theorem keep_73 {d : Nat} {m : Mm} {S : Int → Int} {x : Int} (hx : 0 ≤ x ∧ x + 46 ≤ 1436) (h4 : 0 ≤ S 4 ∧ S 4 < 30) (hx4 : 4 < x) : Ev d K_Mo_keep 3 73 [(18, 400), (0, x), (0, 0)] [] (sr m 401 S) (none, sr m 401 (ups (fls S (x + 16) 30 (fun j => S (1436 + j))) 4 (S 4 + 1))) := by
  have key : ∀ (f k : Nat), k + f = 30 → Ev d K_Mo_keep 3 73 [(18, 400), (0, x), (0, (k : Nat))] [] (sr m 401 (fls S (x + 16) k (fun j => S (1436 + j)))) (none, sr m 401 (ups (fls S (x + 16) 30 (fun j => S (1436 + j))) 4 (S 4 + 1))) := by
    intro f
    induction f with
    | zero =>
      intro k hk
      obtain rfl : k = 30 := by omega
      refine b_Mo_keep_73 ⟨fun _ => ?_, fun z => absurd (by omega) z⟩
      rintro m1 rfl
      rw [sr_up2, sr_eq, fls_out (by omega), w32n (by omega) (by omega)]
      rfl
    | succ f ih =>
      intro k hk
      have e1 : w32 (1436 + (k : Int)) = 1436 + k := w32n (by omega) (by omega)
      have e2 : w32 (w32 (x + 16) + (k : Int)) = x + 16 + k := by rw [w32n (x := x + 16) (by omega) (by omega), w32n (by omega) (by omega)]
      refine b_Mo_keep_73 ⟨fun z => by omega, fun _ => ?_⟩
      rw [e1, e2]
      refine ⟨by omega, by omega, ?_⟩
      rintro m2 rfl
      rw [sr_up2, sr_eq, fls_out (b := 1436 + (k : Int)) (by omega), fls_up (k := k) rfl rfl, w32s (by omega)]
      exact ih (k + 1) (by omega)
  have := key 30 0 rfl
  rw [show ((0 : Nat) : Int) = 0 from rfl, fls_0] at this
  exact this
theorem keep_52 {d : Nat} {m : Mm} {S : Int → Int} {x : Int} (hx : 56 ≤ x ∧ x + 46 ≤ 1436) (h4 : 0 ≤ S 4 ∧ S 4 < 30) : Ev d K_Mo_keep 3 52 [(18, 400), (0, x), (0, 0)] [] (sr m 401 S) (none, sr m 401 (ups (fls (fls S (x + 1) 15 (fun j => S (6 + j))) (x + 16) 30 (fun j => S (1436 + j))) 4 (S 4 + 1))) := by
  have key : ∀ (f k : Nat), k + f = 15 → Ev d K_Mo_keep 3 52 [(18, 400), (0, x), (0, (k : Nat))] [] (sr m 401 (fls S (x + 1) k (fun j => S (6 + j)))) (none, sr m 401 (ups (fls (fls S (x + 1) 15 (fun j => S (6 + j))) (x + 16) 30 (fun j => S (1436 + j))) 4 (S 4 + 1))) := by
    intro f
    induction f with
    | zero =>
      intro k hk
      obtain rfl : k = 15 := by omega
      refine b_Mo_keep_52 ⟨fun _ => ?_, fun z => absurd (by omega) z⟩
      have e4 : fls S (x + 1) ((15 : Nat) : Int) (fun j => S (6 + j)) 4 = S 4 := fls_out (by omega)
      have := keep_73 (d := d) (m := m) (S := fls S (x + 1) ((15 : Nat) : Int) (fun j => S (6 + j))) (x := x) (by omega) (by rw [e4]; exact h4) (by omega)
      rw [e4, fls_con (f := fun j => fls S (x + 1) ((15 : Nat) : Int) (fun j => S (6 + j)) (1436 + j)) (g := fun j => S (1436 + j)) (fun j h0 h1 => fls_out (by omega))] at this
      exact this
    | succ f ih =>
      intro k hk
      have e1 : w32 (6 + (k : Int)) = 6 + k := w32n (by omega) (by omega)
      have e2 : w32 (w32 (x + 1) + (k : Int)) = x + 1 + k := by rw [w32n (x := x + 1) (by omega) (by omega), w32n (by omega) (by omega)]
      refine b_Mo_keep_52 ⟨fun z => by omega, fun _ => ?_⟩
      rw [e1, e2]
      refine ⟨by omega, by omega, ?_⟩
      rintro m2 rfl
      rw [sr_up2, sr_eq, fls_out (b := 6 + (k : Int)) (by omega), fls_up (k := k) rfl rfl, w32s (by omega)]
      exact ih (k + 1) (by omega)
  have := key 15 0 rfl
  rw [show ((0 : Nat) : Int) = 0 from rfl, fls_0] at this
  exact this
theorem keep_33 {d : Nat} {m : Mm} {S : Int → Int} {u1 u2 : Vv} (h4 : 0 ≤ S 4 ∧ S 4 < 30) : Ev d K_Mo_keep 3 33 [(18, 400), u1, u2] [] (sr m 401 S) (none, sr m 401 (kp1 S)) := by
  have e1 : w32 (56 + w32 (46 * S 4)) = 56 + 46 * S 4 := by rw [w32n (x := 46 * S 4) (by omega) (by omega), w32n (by omega) (by omega)]
  refine b_Mo_keep_33 ?_
  rw [sr_eq, e1]
  refine ⟨by omega, ?_⟩
  rintro m1 rfl
  rw [sr_up2]
  have e4 : ups S (56 + 46 * S 4) (S 1) 4 = S 4 := ups_ne (by omega)
  have := keep_52 (d := d) (m := m) (S := ups S (56 + 46 * S 4) (S 1)) (x := 56 + 46 * S 4) (by omega) (by rw [e4]; exact h4)
  rw [e4, fls_con (f := fun j => ups S (56 + 46 * S 4) (S 1) (6 + j)) (g := fun j => S (6 + j)) (fun j h0 h1 => ups_ne (by omega)), fls_con (f := fun j => ups S (56 + 46 * S 4) (S 1) (1436 + j)) (g := fun j => S (1436 + j)) (fun j h0 h1 => ups_ne (by omega)), show 56 + 46 * S 4 + 1 = 57 + 46 * S 4 by omega, show 56 + 46 * S 4 + 16 = 72 + 46 * S 4 by omega] at this
  exact this
theorem c_Mo_keep {d : Nat} {m : Mm} (h4 : 0 ≤ m 401 4 ∧ m 401 4 ≤ 30) : Cl d k_Mo_keep [(18, 400)] m (none, sr m 401 (kpS (m 401))) := by
  refine cl_Mo_keep (b_Mo_keep ⟨fun h => ?_, fun h => ?_⟩)
  · have := keep_33 (d := d) (m := m) (S := m 401) (u1 := (9, 0)) (u2 := (9, 0)) (by omega)
    rw [sr_self] at this
    unfold kpS
    rw [(shS_v h4).2.2.2 h]
    exact this
  · have key : ∀ (f k : Nat), k + f = 1334 → Ev d K_Mo_keep 3 8 [(18, 400), (0, (k : Nat)), (9, 0)] [] (sr m 401 (fls (m 401) 56 k (fun j => m 401 (102 + j)))) (none, sr m 401 (kpS (m 401))) := by
      intro f
      induction f with
      | zero =>
        intro k hk
        obtain rfl : k = 1334 := by omega
        refine b_Mo_keep_8 ⟨fun _ => ?_, fun z => absurd (by omega) z⟩
        rintro m1 rfl
        have e4 : fls (m 401) 56 ((1334 : Nat) : Int) (fun j => m 401 (102 + j)) 4 = 30 := by rw [fls_out (by omega)]; omega
        rw [sr_up2, sr_eq, e4, show w32 (30 - 1) = 29 from rfl]
        have e5 : shS (m 401) = ups (fls (m 401) 56 ((1334 : Nat) : Int) (fun j => m 401 (102 + j))) 4 29 := by unfold shS; rw [if_pos (by omega)]; rfl
        unfold kpS
        rw [← e5]
        exact keep_33 (shS_v h4).1
      | succ f ih =>
        intro k hk
        have e1 : w32 (102 + (k : Int)) = 102 + k := w32n (by omega) (by omega)
        have e2 : w32 (56 + (k : Int)) = 56 + k := w32n (by omega) (by omega)
        refine b_Mo_keep_8 ⟨fun z => by omega, fun _ => ?_⟩
        rw [e1, e2]
        refine ⟨by omega, by omega, ?_⟩
        rintro m2 rfl
        rw [sr_up2, sr_eq, fls_out (b := 102 + (k : Int)) (by omega), fls_up (k := k) rfl rfl, w32s (by omega)]
        exact ih (k + 1) (by omega)
    have := key 1334 0 rfl
    rw [show ((0 : Nat) : Int) = 0 from rfl, fls_0, sr_self] at this
    exact this
/-- a step is taken back: the row then -/
def unS (S : Int → Int) : Int → Int := fls (fls (fls (ups S 4 (S 4 - 1)) 6 15 (fun j => S (57 + 46 * (S 4 - 1) + j))) (11 + 2 * S (56 + 46 * (S 4 - 1))) (2 * (S 1 - S (56 + 46 * (S 4 - 1)))) (fun j => S (21 + 2 * S (56 + 46 * (S 4 - 1)) + j))) 1436 30 (fun j => S (72 + 46 * (S 4 - 1) + j))
theorem unS_v {S : Int → Int} {n T : Int} (hn : S 4 = n + 1) (hn0 : 0 ≤ n ∧ n < 30) (hT : S (56 + 46 * n) = T) (hT0 : 0 ≤ T ∧ T ≤ S 1 ∧ S 1 ≤ 5) : unS S 4 = n ∧ (∀ k, 0 ≤ k → k < 15 → k < 5 + 2 * T → unS S (6 + k) = S (57 + 46 * n + k)) ∧ (∀ k, 5 + 2 * T ≤ k → k < 5 + 2 * S 1 → unS S (6 + k) = S (16 + k)) ∧ (∀ i, 0 ≤ i → i < 30 → unS S (1436 + i) = S (72 + 46 * n + i)) ∧ (∀ k, 0 ≤ k → k < 1436 → k ≠ 4 → ¬ (6 ≤ k ∧ k < 21) → unS S k = S k) := by
  unfold unS
  rw [show S 4 - 1 = n by omega, hT]
  refine ⟨?_, fun k h0 h1 h2 => ?_, fun k h0 h1 => ?_, fun i h0 h1 => ?_, fun k h0 h1 h2 h3 => ?_⟩
  · rw [fls_out (by omega), fls_out (by omega), fls_out (by omega), ups_eq]
  · rw [fls_out (by omega), fls_out (by omega), fls_in (by omega)]
    congr 1
    omega
  · rw [fls_out (by omega), fls_in (by omega)]
    congr 1
    omega
  · rw [fls_in (by omega)]
    congr 1
    omega
  · rw [fls_out (by omega), fls_out (by omega), fls_out (by omega), ups_ne h2]
theorem unS_CH {S : Int → Int} (h4 : 0 < S 4 ∧ S 4 ≤ 30) (hT : 0 ≤ S 1 ∧ S 1 ≤ 5) (h : CH S) : CH (unS S) := by
  obtain ⟨n, hn⟩ : ∃ n : Nat, S 4 = n + 1 := ⟨(S 4 - 1).toNat, by omega⟩
  obtain ⟨⟨c1, c2, c3⟩, c4⟩ := h.2 n (by omega)
  have c5 : nT S n = S 1 := by unfold nT; rw [if_neg (by omega)]
  rw [c5] at c2 c3 c4
  obtain ⟨v1, v2, v3, v4, v5⟩ := unS_v (n := n) (T := S (56 + 46 * n)) hn (by omega) rfl (by omega)
  refine ⟨?_, ?_⟩
  · intro c hc
    rw [v5 1 (by omega) (by omega) (by omega) (by omega)] at hc
    rw [v5 _ (by omega) (by omega) (by omega) (by omega), v5 _ (by omega) (by omega) (by omega) (by omega)]
    exact h.1 c hc
  · intro i hi
    rw [v1] at hi
    obtain ⟨⟨d1, d2, d3⟩, d4⟩ := h.2 i (by omega)
    have d5 : nT S i = S (56 + 46 * (i + 1)) := by unfold nT; rw [if_pos (by omega)]
    have d6 : ∀ k, nR S i k = S (57 + 46 * (i + 1) + k) := fun k => by unfold nR; rw [if_pos (by omega)]
    rw [d5] at d2 d3 d4
    simp only [d6] at d4
    have e1 : unS S (56 + 46 * i) = S (56 + 46 * i) := v5 _ (by omega) (by omega) (by omega) (by omega)
    by_cases hl : (i : Int) + 1 < n
    · have e2 : nT (unS S) i = S (56 + 46 * (i + 1)) := by unfold nT; rw [v1, if_pos hl, v5 _ (by omega) (by omega) (by omega) (by omega)]
      have e3 : ∀ k, 0 ≤ k → k < 15 → nR (unS S) i k = S (57 + 46 * (i + 1) + k) := fun k h0 hk => by unfold nR; rw [v1, if_pos hl, v5 _ (by omega) (by omega) (by omega) (by omega)]
      rw [e1, e2]
      refine ⟨⟨d1, d2, d3⟩, fun c hc1 hc2 => ?_⟩
      rw [e3 _ (by omega) (by omega), e3 _ (by omega) (by omega), v5 (21 + 2 * c) (by omega) (by omega) (by omega) (by omega), v5 (22 + 2 * c) (by omega) (by omega) (by omega) (by omega)]
      exact d4 c hc1 hc2
    · have hin : (i : Int) + 1 = n := by omega
      rw [hin] at d2 d3 d4
      have e2 : nT (unS S) i = S 1 := by unfold nT; rw [v1, if_neg hl, v5 _ (by omega) (by omega) (by omega) (by omega)]
      have e3 : ∀ k, nR (unS S) i k = unS S (6 + k) := fun k => by unfold nR; rw [v1, if_neg hl]
      rw [e1, e2]
      refine ⟨⟨d1, by omega, by omega⟩, fun c hc1 hc2 => ?_⟩
      rw [e3, e3, v5 (21 + 2 * c) (by omega) (by omega) (by omega) (by omega), v5 (22 + 2 * c) (by omega) (by omega) (by omega) (by omega)]
      by_cases hcT : (c : Int) < S (56 + 46 * n)
      · rw [v2 _ (by omega) (by omega) (by omega), v2 _ (by omega) (by omega) (by omega)]
        exact d4 c hc1 hcT
      · rw [v3 _ (by omega) (by omega), v3 _ (by omega) (by omega)]
        constructor <;> congr 1 <;> omega
theorem c_Fa_takeBack {d : Nat} {m : Mm} {f : Int} {S : Int → Int} (h : FC m f S) (h0 : S 4 ≠ 0) : ∃ m', Cl (d + 1) k_Fa_takeBack [(10, f)] m (some (0, 1), m') ∧ FC m' f (unS S) ∧ (∀ a b, a < f ∨ f + 127 < a → m' a b = m a b) := by
  obtain ⟨⟨h1, h2⟩, ⟨⟨h3a, h3b, h3c, h3d, h3e⟩, h4⟩, h5, h6⟩ := h
  obtain ⟨n, hn⟩ : ∃ n : Nat, S 4 = n + 1 := ⟨(S 4 - 1).toNat, by omega⟩
  obtain ⟨⟨c1, c2, c3⟩, c4⟩ := h5.2 n (by omega)
  have c5 : nT S n = S 1 := by unfold nT; rw [if_neg (by omega)]
  have c6 : ∀ k, nR S n k = S (6 + k) := fun k => by unfold nR; rw [if_neg (by omega)]
  rw [c5] at c2 c3 c4
  simp only [c6] at c4
  obtain ⟨v1, v2, v3, v4, v5⟩ := unS_v (n := n) (T := S (56 + 46 * n)) hn (by omega) rfl (by omega)
  obtain ⟨q1, q2⟩ := h4 n (by omega)
  have e1 : w32 (m f 3 - 1) = n := by rw [h3c, hn, w32n (by omega) (by omega)]; omega
  have kn : ∀ a b, a ≠ f → up m f 3 n a b = m a b := fun a b hb => up_ne hb
  have e2 : irm (w32 (up m f 3 n f 2 + up m f 3 n f 3)) 30 = (m f 2 + n) % 30 := by rw [up_eq, up_nk (by omega)]; exact irm30 (by omega)
  have hT := h1.2.1
  obtain ⟨m1, k1, k2, k3, k4⟩ := LC_back (d := d) (m := up m f 3 n) (o0 := f + 1) (o1 := f + 6 + 4 * ((m f 2 + n) % 30)) (T := S 1) (g' := fun k => unS S (6 + k)) (by omega) (LC_con h1 (fun a b _ _ => kn _ _ (by omega)) (fun _ _ _ => rfl)) (LC_con q1 (fun a b _ _ => kn _ _ (by omega)) (fun _ _ _ => rfl)) (LB_con q2 (fun b => kn _ b (by omega)) (fun b => kn _ b (by omega)) rfl (fun _ _ _ => rfl)) c2 (fun k hk0 hk => v2 k hk0 (by omega) hk) (fun k hk0 hk => by
    rw [v3 k hk0 hk]
    obtain ⟨c, hc⟩ : ∃ c : Nat, k = 5 + 2 * c ∨ k = 6 + 2 * c := ⟨((k - 5) / 2).toNat, by omega⟩
    obtain ⟨c7, c8⟩ := c4 c (by omega) (by omega)
    rcases hc with rfl | rfl
    · rw [c7]; congr 1; omega
    · rw [c8]; congr 1; omega)
  have kf : ∀ b, b ≠ 3 → m1 f b = m f b := fun b hb => by rw [k4 _ _ (by omega), up_nk hb]
  refine ⟨m1, cl_Fa_takeBack (b_Fa_takeBack ⟨fun _ => ?_, fun z => absurd (by omega) z⟩), ⟨⟨?_, ?_⟩, ⟨⟨?_, ?_, ?_, ?_, ?_⟩, ?_⟩, ?_, ?_⟩, fun a b hab => ?_⟩
  · rw [e1]
    rintro m2 rfl
    rw [e2, show f + 5 + 1 + 4 * ((m f 2 + n) % 30) = f + 6 + 4 * ((m f 2 + n) % 30) by omega]
    exact ⟨by omega, m1, k1, rfl⟩
  · rw [v5 1 (by omega) (by omega) (by omega) (by omega)]
    exact k2
  · exact LB_con k3 (fun _ => rfl) (fun _ => rfl) rfl (fun i hi0 hi => v4 i hi0 hi)
  · omega
  · omega
  · rw [k4 _ _ (by omega), up_eq, v1]
  · rw [kf 2 (by omega)]; exact h3d
  · rw [kf 2 (by omega)]; exact h3e
  · intro i hi
    rw [v1] at hi
    rw [kf 2 (by omega), v5 (56 + 46 * i) (by omega) (by omega) (by omega) (by omega)]
    obtain ⟨q1, q2⟩ := h4 i (by omega)
    have kk : ∀ a b, f + 4 < a → m1 a b = m a b := fun a b hab => by rw [k4 _ _ (by omega), up_ne (by omega)]
    exact ⟨LC_con q1 (fun a b _ _ => kk a b (by omega)) (fun k h0 hk => v5 _ (by omega) (by omega) (by omega) (by omega)), LB_con q2 (fun b => kk _ b (by omega)) (fun b => kk _ b (by omega)) (v5 _ (by omega) (by omega) (by omega) (by omega)) (fun i h0 hk => v5 _ (by omega) (by omega) (by omega) (by omega))⟩
  · exact unS_CH (by omega) ⟨hT.1, hT.2.1⟩ h5
  · exact FO_con h6 (fun b hb => kf b (by omega)) (fun b => by rw [k4 _ _ (by omega), up_ne (by omega)]) (fun b => by rw [k4 _ _ (by omega), up_ne (by omega)]) (fun k h0 hk h1 h4 h6 => v5 _ (by omega) (by omega) h4 (by omega))
  · rw [k4 _ _ (by omega), up_ne (by omega)]
