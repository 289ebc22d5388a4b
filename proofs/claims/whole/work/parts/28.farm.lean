/-! THE FARM: the class's farm at f stands for a row S of the model -/
def ups (S : Int → Int) (k v : Int) : Int → Int := fun b => if b = k then v else S b
def fls (S : Int → Int) (p n : Int) (f : Int → Int) : Int → Int := fun b => if p ≤ b ∧ b < p + n then f (b - p) else S b
theorem ups_ne {S : Int → Int} {k v b : Int} (h : b ≠ k) : ups S k v b = S b := if_neg h
theorem ups_eq {S : Int → Int} {k v : Int} : ups S k v k = v := if_pos rfl
theorem fls_out {S f : Int → Int} {p n b : Int} (h : b < p ∨ p + n ≤ b) : fls S p n f b = S b := if_neg (by omega)
theorem fls_in {S f : Int → Int} {p n b : Int} (h : p ≤ b ∧ b < p + n) : fls S p n f b = f (b - p) := if_pos h
theorem up_row {m : Mm} {o k v : Int} : up m o k v o = ups (m o) k v := by
  funext b
  simp [up, ups]
theorem up_row_ne {m : Mm} {o k v a : Int} (h : a ≠ o) : up m o k v a = m a := by
  funext b
  exact up_ne h
theorem fil_row {m : Mm} {o p n : Int} {f : Int → Int} : fil m o p n f o = fls (m o) p n f := by
  funext b
  simp [fil, fls]
theorem fil_row_ne {m : Mm} {o p n a : Int} {f : Int → Int} (h : a ≠ o) : fil m o p n f a = m a := by
  funext b
  exact fil_ne h
theorem fil_con {m : Mm} {o p n : Int} {f g : Int → Int} (h : ∀ j, 0 ≤ j → j < n → f j = g j) : fil m o p n f = fil m o p n g := by
  funext a b
  unfold fil
  split
  · exact h _ (by omega) (by omega)
  · rfl
theorem fls_con {S : Int → Int} {p n : Int} {f g : Int → Int} (h : ∀ j, 0 ≤ j → j < n → f j = g j) : fls S p n f = fls S p n g := by
  funext b
  unfold fls
  split
  · exact h _ (by omega) (by omega)
  · rfl
def nT (S : Int → Int) (i : Nat) : Int := if (i : Int) + 1 < S 4 then S (56 + 46 * (i + 1)) else S 1
def nR (S : Int → Int) (i : Nat) (k : Int) : Int := if (i : Int) + 1 < S 4 then S (57 + 46 * (i + 1) + k) else S (6 + k)
def CH (S : Int → Int) : Prop := (∀ c : Nat, (c : Int) < S 1 → cellI (S (21 + 2 * c)) ∧ wayI (S (22 + 2 * c))) ∧ (∀ i : Nat, (i : Int) < S 4 → (0 ≤ S (56 + 46 * i) ∧ S (56 + 46 * i) ≤ nT S i ∧ nT S i ≤ 5) ∧ ∀ c : Nat, S (56 + 46 * i) ≤ c → (c : Int) < nT S i → nR S i (5 + 2 * c) = S (21 + 2 * c) ∧ nR S i (6 + 2 * c) = S (22 + 2 * c))
def FL (m : Mm) (f : Int) (S : Int → Int) : Prop := LC m (f + 1) (S 1) (fun k => S (6 + k)) ∧ LB m (f + 1) (fun k => S (6 + k)) (fun i => S (1436 + i))
def FB (m : Mm) (f : Int) (S : Int → Int) : Prop := (0 ≤ S 4 ∧ S 4 ≤ 30 ∧ m f 3 = S 4 ∧ 0 ≤ m f 2 ∧ m f 2 < 30) ∧ (∀ i : Nat, (i : Int) < S 4 → LC m (f + 6 + 4 * ((m f 2 + i) % 30)) (S (56 + 46 * i)) (fun k => S (57 + 46 * i + k)) ∧ LB m (f + 6 + 4 * ((m f 2 + i) % 30)) (fun k => S (57 + 46 * i + k)) (fun j => S (72 + 46 * i + j)))
def FO (m : Mm) (f : Int) (S : Int → Int) : Prop := (m f 4 = S 31 ∧ 0 ≤ S 31 ∧ S 31 < 33554432) ∧ (m f 5 = S 0 ∧ 0 ≤ S 0 ∧ S 0 ≤ 4) ∧ (m f 6 = S 2 ∧ 0 ≤ S 2 ∧ S 2 ≤ 4) ∧ (m f 7 = S 3 ∧ -1 ≤ S 3 ∧ S 3 < S 2) ∧ (m f 8 = S 5 ∧ 0 ≤ S 5 ∧ S 5 ≤ 8) ∧ (∀ i : Nat, (i : Int) < S 5 → m (f + 126) i = S (40 + 2 * i) ∧ m (f + 127) i = S (41 + 2 * i) ∧ hedI (S (40 + 2 * i)) ∧ 0 ≤ S (41 + 2 * i) ∧ S (41 + 2 * i) ≤ 10)
def FC (m : Mm) (f : Int) (S : Int → Int) : Prop := FL m f S ∧ FB m f S ∧ CH S ∧ FO m f S
theorem FC_con {m m' : Mm} {f : Int} {S : Int → Int} (h : FC m f S) (hm : ∀ a b, f ≤ a → a ≤ f + 127 → m' a b = m a b) : FC m' f S := by
  obtain ⟨⟨h1, h2⟩, ⟨h3, h4⟩, h5, h6, h7, h8, h9, h10, h11⟩ := h
  refine ⟨⟨LC_con h1 (fun a b _ _ => hm a b (by omega) (by omega)) (fun _ _ _ => rfl), LB_con h2 (fun b => hm _ b (by omega) (by omega)) (fun b => hm _ b (by omega) (by omega)) rfl (fun _ _ _ => rfl)⟩, ⟨?_, ?_⟩, h5, ?_, ?_, ?_, ?_, ?_, ?_⟩
  · rw [hm f 3 (by omega) (by omega), hm f 2 (by omega) (by omega)]; exact h3
  · intro i hi
    rw [hm f 2 (by omega) (by omega)]
    obtain ⟨q1, q2⟩ := h4 i hi
    exact ⟨LC_con q1 (fun a b _ _ => hm a b (by omega) (by omega)) (fun _ _ _ => rfl), LB_con q2 (fun b => hm _ b (by omega) (by omega)) (fun b => hm _ b (by omega) (by omega)) rfl (fun _ _ _ => rfl)⟩
  · rw [hm f 4 (by omega) (by omega)]; exact h6
  · rw [hm f 5 (by omega) (by omega)]; exact h7
  · rw [hm f 6 (by omega) (by omega)]; exact h8
  · rw [hm f 7 (by omega) (by omega)]; exact h9
  · rw [hm f 8 (by omega) (by omega)]; exact h10
  · intro i hi
    rw [hm (f + 126) i (by omega) (by omega), hm (f + 127) i (by omega) (by omega)]
    exact h11 i hi
/-- a step is marked: the row then -/
def shS (S : Int → Int) : Int → Int := if S 4 = 30 then ups (fls S 56 1334 (fun j => S (102 + j))) 4 29 else S
def kp1 (S : Int → Int) : Int → Int := ups (fls (fls (ups S (56 + 46 * S 4) (S 1)) (57 + 46 * S 4) 15 (fun j => S (6 + j))) (72 + 46 * S 4) 30 (fun j => S (1436 + j))) 4 (S 4 + 1)
def kpS (S : Int → Int) : Int → Int := kp1 (shS S)
theorem FO_con {m m' : Mm} {f : Int} {S S' : Int → Int} (h : FO m f S) (hm : ∀ b, 4 ≤ b → m' f b = m f b) (hm1 : ∀ b, m' (f + 126) b = m (f + 126) b) (hm2 : ∀ b, m' (f + 127) b = m (f + 127) b) (hS : ∀ k, 0 ≤ k → k < 56 → k ≠ 1 → k ≠ 4 → ¬ (6 ≤ k ∧ k < 31) → S' k = S k) : FO m' f S' := by
  obtain ⟨h6, h7, h8, h9, h10, h11⟩ := h
  have s0 := hS 0 (by omega) (by omega) (by omega) (by omega) (by omega)
  have s2 := hS 2 (by omega) (by omega) (by omega) (by omega) (by omega)
  have s3 := hS 3 (by omega) (by omega) (by omega) (by omega) (by omega)
  have s5 := hS 5 (by omega) (by omega) (by omega) (by omega) (by omega)
  have s31 := hS 31 (by omega) (by omega) (by omega) (by omega) (by omega)
  refine ⟨?_, ?_, ?_, ?_, ?_, ?_⟩
  · rw [hm 4 (by omega), s31]; exact h6
  · rw [hm 5 (by omega), s0]; exact h7
  · rw [hm 6 (by omega), s2]; exact h8
  · rw [hm 7 (by omega), s3, s2]; exact h9
  · rw [hm 8 (by omega), s5]; exact h10
  · intro i hi
    rw [s5] at hi
    rw [hm1, hm2, hS (40 + 2 * i) (by omega) (by omega) (by omega) (by omega) (by omega), hS (41 + 2 * i) (by omega) (by omega) (by omega) (by omega) (by omega)]
    exact h11 i hi
/-- the first half: the eldest step goes if there are 30 -/
theorem shS_v {S : Int → Int} (h4 : 0 ≤ S 4 ∧ S 4 ≤ 30) : (0 ≤ shS S 4 ∧ shS S 4 < 30) ∧ (∀ k, k < 56 ∨ 1390 ≤ k → k ≠ 4 → shS S k = S k) ∧ (S 4 = 30 → shS S 4 = 29 ∧ ∀ k, 56 ≤ k → k < 1390 → shS S k = S (46 + k)) ∧ (S 4 ≠ 30 → shS S = S) := by
  unfold shS
  by_cases h : S 4 = 30
  · rw [if_pos h]
    refine ⟨by rw [ups_eq]; omega, fun k hk h4 => ?_, fun _ => ⟨ups_eq, fun k h1 h2 => ?_⟩, fun z => absurd h z⟩
    · rw [ups_ne h4, fls_out (by omega)]
    · rw [ups_ne (by omega), fls_in (by omega)]
      congr 1
      omega
  · rw [if_neg h]
    exact ⟨by omega, fun _ _ _ => rfl, fun z => absurd z h, fun _ => rfl⟩
theorem shS_CH {S : Int → Int} (h4 : 0 ≤ S 4 ∧ S 4 ≤ 30) (h : CH S) (hT : S 1 ≤ 5) : CH (shS S) := by
  obtain ⟨v1, v2, v3, v4⟩ := shS_v h4
  by_cases h30 : S 4 = 30
  · obtain ⟨w1, w2⟩ := v3 h30
    refine ⟨?_, ?_⟩
    · intro c hc
      rw [v2 1 (by omega) (by omega)] at hc
      rw [v2 _ (by omega) (by omega), v2 _ (by omega) (by omega)]
      exact h.1 c hc
    · intro i hi
      rw [w1] at hi
      have h2 := h.2 (i + 1) (by omega)
      have e1 : shS S (56 + 46 * i) = S (56 + 46 * ((i + 1 : Nat) : Int)) := by rw [w2 _ (by omega) (by omega)]; congr 1; omega
      have e2 : nT (shS S) i = nT S (i + 1) := by
        unfold nT
        rw [w1, v2 1 (by omega) (by omega)]
        by_cases hc : (i : Int) + 1 < 29
        · rw [if_pos hc, if_pos (by omega), w2 _ (by omega) (by omega)]
          congr 1
          omega
        · rw [if_neg hc, if_neg (by omega)]
      have e3 : ∀ k, 0 ≤ k → k < 15 → nR (shS S) i k = nR S (i + 1) k := by
        intro k hk0 hk
        unfold nR
        rw [w1]
        by_cases hc : (i : Int) + 1 < 29
        · rw [if_pos hc, if_pos (by omega), w2 _ (by omega) (by omega)]
          congr 1
          omega
        · rw [if_neg hc, if_neg (by omega), v2 _ (by omega) (by omega)]
      rw [e1, e2]
      refine ⟨h2.1, fun c hc1 hc2 => ?_⟩
      have hc5 : c < 5 := by omega
      rw [e3 _ (by omega) (by omega), e3 _ (by omega) (by omega), v2 _ (by omega) (by omega), v2 _ (by omega) (by omega)]
      exact h2.2 c hc1 hc2
  · rw [v4 h30]
    exact h
theorem kp1_v {S : Int → Int} (h4 : 0 ≤ S 4 ∧ S 4 < 30) : kp1 S 4 = S 4 + 1 ∧ (∀ k, k < 56 + 46 * S 4 ∨ 1436 ≤ k → k ≠ 4 → kp1 S k = S k) ∧ kp1 S (56 + 46 * S 4) = S 1 ∧ (∀ j, 0 ≤ j → j < 15 → kp1 S (57 + 46 * S 4 + j) = S (6 + j)) ∧ (∀ j, 0 ≤ j → j < 30 → kp1 S (72 + 46 * S 4 + j) = S (1436 + j)) := by
  unfold kp1
  refine ⟨ups_eq, fun k hk h => ?_, ?_, fun j h0 h1 => ?_, fun j h0 h1 => ?_⟩
  · rw [ups_ne h, fls_out (by omega), fls_out (by omega), ups_ne (by omega)]
  · rw [ups_ne (by omega), fls_out (by omega), fls_out (by omega), ups_eq]
  · rw [ups_ne (by omega), fls_out (by omega), fls_in (by omega)]
    congr 1
    omega
  · rw [ups_ne (by omega), fls_in (by omega)]
    congr 1
    omega
theorem kp1_CH {S : Int → Int} (h4 : 0 ≤ S 4 ∧ S 4 < 30) (hT : 0 ≤ S 1 ∧ S 1 ≤ 5) (h : CH S) : CH (kp1 S) := by
  obtain ⟨v1, v2, v3, v4, v5⟩ := kp1_v h4
  refine ⟨?_, ?_⟩
  · intro c hc
    rw [v2 1 (by omega) (by omega)] at hc
    rw [v2 _ (by omega) (by omega), v2 _ (by omega) (by omega)]
    exact h.1 c hc
  · intro i hi
    rw [v1] at hi
    by_cases hin : (i : Int) = S 4
    · have e1 : kp1 S (56 + 46 * i) = S 1 := by rw [hin]; exact v3
      have e2 : nT (kp1 S) i = S 1 := by
        unfold nT
        rw [v1, if_neg (by omega), v2 1 (by omega) (by omega)]
      rw [e1, e2]
      exact ⟨by omega, fun c h1 h2 => by omega⟩
    · obtain ⟨h2, h3⟩ := h.2 i (by omega)
      have e1 : kp1 S (56 + 46 * i) = S (56 + 46 * i) := v2 _ (by omega) (by omega)
      have e2 : nT (kp1 S) i = nT S i := by
        unfold nT
        rw [v1, if_pos (by omega)]
        by_cases hc : (i : Int) + 1 < S 4
        · rw [if_pos hc, v2 _ (by omega) (by omega)]
        · rw [if_neg hc, show (i : Int) + 1 = S 4 by omega, v3]
      have e3 : ∀ k, 0 ≤ k → k < 15 → nR (kp1 S) i k = nR S i k := by
        intro k h0 hk
        unfold nR
        rw [v1, if_pos (by omega)]
        by_cases hc : (i : Int) + 1 < S 4
        · rw [if_pos hc, v2 _ (by omega) (by omega)]
        · rw [if_neg hc, show (i : Int) + 1 = S 4 by omega, v4 k h0 hk]
      rw [e1, e2]
      refine ⟨h2, fun c hc1 hc2 => ?_⟩
      rw [e3 _ (by omega) (by omega), e3 _ (by omega) (by omega), v2 _ (by omega) (by omega), v2 _ (by omega) (by omega)]
      exact h3 c hc1 hc2
theorem irm30 {x : Int} (h : 0 ≤ x ∧ x < 100) : irm (w32 x) 30 = x % 30 := by
  rw [w32n (by omega) (by omega)]
  exact irm_n (by omega) (by omega) (by omega) (by omega)
/-- the step is marked, where there is room -/
theorem mark1 {d : Nat} {m : Mm} {f : Int} {S : Int → Int} (h : FC m f S) (h30 : S 4 < 30) : ∃ m', Ev (d + 2) K_Fa_markStep 3 18 [(10, f)] [] m (none, m') ∧ FC m' f (kp1 S) ∧ (∀ a b, a < f ∨ f + 127 < a → m' a b = m a b) := by
  obtain ⟨⟨h1, h2⟩, ⟨⟨h3a, h3b, h3c, h3d, h3e⟩, h4⟩, h5, h6⟩ := h
  obtain ⟨v1, v2, v3, v4, v5⟩ := kp1_v (S := S) ⟨h3a, h30⟩
  have hT := h1.2.1
  have e0 : irm (w32 (m f 2 + m f 3)) 30 = (m f 2 + S 4) % 30 := by rw [h3c]; exact irm30 (by omega)
  have eo : f + 5 + 1 + 4 * ((m f 2 + S 4) % 30) = f + 6 + 4 * ((m f 2 + S 4) % 30) := by omega
  obtain ⟨m1, k1, k2, k3, k4⟩ := LC_copy (d := d) (m := m) (o0 := f + 6 + 4 * ((m f 2 + S 4) % 30)) (o1 := f + 1) (by omega) h1 h2
  have f3 : m1 f 3 = S 4 := by rw [k4 _ _ (by omega)]; exact h3c
  have e3 : w32 (m1 f 3 + 1) = S 4 + 1 := by rw [f3, w32n (by omega) (by omega)]
  have k4' : ∀ a b, a < f + 6 + 4 * ((m f 2 + S 4) % 30) ∨ f + 6 + 4 * ((m f 2 + S 4) % 30) + 3 < a → a ≠ f → up m1 f 3 (S 4 + 1) a b = m a b := fun a b h h' => by rw [up_ne h', k4 a b h]
  have kf : ∀ b, b ≠ 3 → up m1 f 3 (S 4 + 1) f b = m f b := fun b h => by rw [up_nk h, k4 f b (by omega)]
  refine ⟨up m1 f 3 (S 4 + 1), b_Fa_markStep_18 ?_, ⟨⟨?_, ?_⟩, ⟨⟨?_, ?_, ?_, ?_, ?_⟩, ?_⟩, ?_, ?_⟩, fun a b hab => ?_⟩
  · rw [e0, eo]
    refine ⟨by omega, m1, k1, ?_⟩
    rintro m2 rfl
    rw [e3]
  · rw [v2 1 (by omega) (by omega)]
    exact LC_con h1 (fun a b _ _ => k4' a b (by omega) (by omega)) (fun k h0 hk => v2 _ (by omega) (by omega))
  · exact LB_con h2 (fun b => k4' _ b (by omega) (by omega)) (fun b => k4' _ b (by omega) (by omega)) (v2 _ (by omega) (by omega)) (fun i h0 hk => v2 _ (by omega) (by omega))
  · omega
  · omega
  · rw [up_eq, v1]
  · rw [kf _ (by omega)]; exact h3d
  · rw [kf _ (by omega)]; exact h3e
  · intro i hi
    rw [v1] at hi
    rw [kf _ (by omega)]
    by_cases hin : (i : Int) = S 4
    · rw [hin, v3]
      refine ⟨LC_con k2 (fun a b _ _ => up_ne (by omega)) (fun k h0 hk => v4 k h0 hk), LB_con k3 (fun b => up_ne (by omega)) (fun b => up_ne (by omega)) (v4 4 (by omega) (by omega)) (fun j h0 hj => v5 j h0 hj)⟩
    · obtain ⟨q1, q2⟩ := h4 i (by omega)
      rw [v2 (56 + 46 * i) (by omega) (by omega)]
      exact ⟨LC_con q1 (fun a b _ _ => k4' a b (by omega) (by omega)) (fun k h0 hk => v2 _ (by omega) (by omega)), LB_con q2 (fun b => k4' _ b (by omega) (by omega)) (fun b => k4' _ b (by omega) (by omega)) (v2 _ (by omega) (by omega)) (fun i h0 hk => v2 _ (by omega) (by omega))⟩
  · exact kp1_CH ⟨h3a, h30⟩ ⟨hT.1, hT.2.1⟩ h5
  · exact FO_con h6 (fun b hb => kf b (by omega)) (fun b => k4' _ b (by omega) (by omega)) (fun b => k4' _ b (by omega) (by omega)) (fun k h0 hk _ h4 _ => v2 _ (by omega) h4)
  · rw [up_ne (by omega), k4 a b (by omega)]
theorem c_Fa_markStep {d : Nat} {m : Mm} {f : Int} {S : Int → Int} (h : FC m f S) : ∃ m', Cl (d + 2) k_Fa_markStep [(10, f)] m (none, m') ∧ FC m' f (kpS S) ∧ (∀ a b, a < f ∨ f + 127 < a → m' a b = m a b) := by
  obtain ⟨⟨h1, h2⟩, ⟨⟨h3a, h3b, h3c, h3d, h3e⟩, h4⟩, h5, h6⟩ := h
  obtain ⟨v1, v2, v3, v4⟩ := shS_v (S := S) ⟨h3a, h3b⟩
  have hT := h1.2.1
  by_cases h30 : S 4 = 30
  · obtain ⟨w1, w2⟩ := v3 h30
    have e1 : irm (w32 (m f 2 + 1)) 30 = (m f 2 + 1) % 30 := irm30 (by omega)
    have e2 : w32 (up m f 2 ((m f 2 + 1) % 30) f 3 - 1) = 29 := by rw [up_nk (by omega), h3c, h30]; exact w32n (by omega) (by omega)
    have kf : ∀ b, 4 ≤ b → up (up m f 2 ((m f 2 + 1) % 30)) f 3 29 f b = m f b := fun b hb => by rw [up_nk (by omega), up_nk (by omega)]
    have kn : ∀ a b, a ≠ f → up (up m f 2 ((m f 2 + 1) % 30)) f 3 29 a b = m a b := fun a b hb => by rw [up_ne hb, up_ne hb]
    have hFC : FC (up (up m f 2 ((m f 2 + 1) % 30)) f 3 29) f (shS S) := by
      refine ⟨⟨?_, ?_⟩, ⟨⟨by omega, by omega, ?_, ?_, ?_⟩, ?_⟩, shS_CH ⟨h3a, h3b⟩ h5 hT.2.1, ?_⟩
      · rw [v2 1 (by omega) (by omega)]
        exact LC_con h1 (fun a b _ _ => kn _ _ (by omega)) (fun k h0 hk => v2 _ (by omega) (by omega))
      · exact LB_con h2 (fun b => kn _ b (by omega)) (fun b => kn _ b (by omega)) (v2 _ (by omega) (by omega)) (fun i h0 hk => v2 _ (by omega) (by omega))
      · rw [up_eq, w1]
      · rw [up_nk (by omega), up_eq]; omega
      · rw [up_nk (by omega), up_eq]; omega
      · intro i hi
        rw [w1] at hi
        obtain ⟨q1, q2⟩ := h4 (i + 1) (by omega)
        have e5 : up (up m f 2 ((m f 2 + 1) % 30)) f 3 29 f 2 = (m f 2 + 1) % 30 := by rw [up_nk (by omega), up_eq]
        have e4 : ((m f 2 + 1) % 30 + (i : Int)) % 30 = (m f 2 + ((i + 1 : Nat) : Int)) % 30 := by omega
        rw [e5, e4, w2 _ (by omega) (by omega), show 46 + (56 + 46 * (i : Int)) = 56 + 46 * ((i + 1 : Nat) : Int) by omega]
        refine ⟨LC_con q1 (fun a b _ _ => kn _ _ (by omega)) (fun k h0 hk => ?_), LB_con q2 (fun b => kn _ b (by omega)) (fun b => kn _ b (by omega)) ?_ (fun j h0 hj => ?_)⟩
        · rw [w2 _ (by omega) (by omega)]
          congr 1
          omega
        · rw [w2 _ (by omega) (by omega)]
          congr 1
          omega
        · rw [w2 _ (by omega) (by omega)]
          congr 1
          omega
      · exact FO_con h6 (fun b hb => kf b (by omega)) (fun b => kn _ b (by omega)) (fun b => kn _ b (by omega)) (fun k h0 hk _ h4 _ => v2 _ (by omega) h4)
    obtain ⟨m', q1, q2, q3⟩ := mark1 (d := d) hFC v1.2
    refine ⟨m', cl_Fa_markStep (b_Fa_markStep ⟨fun z => absurd (by rw [h3c]; exact h30) z, fun _ => ?_⟩), q2, fun a b hab => ?_⟩
    · rintro m1 rfl m2 rfl
      rw [e1, e2]
      exact q1
    · rw [q3 a b hab, kn _ _ (by omega)]
  · obtain ⟨m', q1, q2, q3⟩ := mark1 (d := d) ⟨⟨h1, h2⟩, ⟨⟨h3a, h3b, h3c, h3d, h3e⟩, h4⟩, h5, h6⟩ (by omega)
    refine ⟨m', cl_Fa_markStep (b_Fa_markStep ⟨fun _ => q1, fun z => absurd (by rw [h3c]; exact h30) z⟩), ?_, q3⟩
    unfold kpS
    rw [v4 h30]
    exact q2
