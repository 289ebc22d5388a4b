/-! WHAT IS DONE: rows of the model changed, the class's farm with them -/
theorem CH_con {S S' : Int → Int} (h : CH S) (h4 : S 4 ≤ 30) (h1 : S 1 ≤ 5) (hS : ∀ k, (k = 1 ∨ k = 4 ∨ (6 ≤ k ∧ k < 31) ∨ (56 ≤ k ∧ k < 1466)) → S' k = S k) : CH S' := by
  obtain ⟨h5, h5b⟩ := h
  have s1 := hS 1 (by omega)
  have s4 := hS 4 (by omega)
  refine ⟨?_, ?_⟩
  · intro c hc
    rw [s1] at hc
    rw [hS _ (by omega), hS _ (by omega)]
    exact h5 c hc
  · intro i hi
    rw [s4] at hi
    obtain ⟨q1, q2⟩ := h5b i hi
    have e2 : nT S' i = nT S i := by
      unfold nT
      rw [s4, s1]
      split
      · exact hS _ (by omega)
      · rfl
    have e3 : ∀ k, 0 ≤ k → k < 15 → nR S' i k = nR S i k := by
      intro k h0 hk
      unfold nR
      rw [s4]
      split
      · exact hS _ (by omega)
      · exact hS _ (by omega)
    rw [hS (56 + 46 * i) (by omega), e2]
    refine ⟨q1, fun c hc1 hc2 => ?_⟩
    rw [e3 _ (by omega) (by omega), e3 _ (by omega) (by omega), hS (21 + 2 * c) (by omega), hS (22 + 2 * c) (by omega)]
    exact q2 c hc1 hc2
theorem FC_o {m m' : Mm} {f : Int} {S S' : Int → Int} (h : FC m f S) (hm : ∀ a b, f + 1 ≤ a → a ≤ f + 125 → m' a b = m a b) (h2 : m' f 2 = m f 2) (h3 : m' f 3 = m f 3) (hS : ∀ k, (k = 1 ∨ k = 4 ∨ (6 ≤ k ∧ k < 31) ∨ (56 ≤ k ∧ k < 1466)) → S' k = S k) (ho : FO m' f S') : FC m' f S' := by
  obtain ⟨⟨a1, a2⟩, ⟨a3, a4⟩, a5, a6⟩ := h
  have s1 := hS 1 (by omega)
  have s4 := hS 4 (by omega)
  have hT := a1.2.1
  refine ⟨⟨?_, ?_⟩, ⟨?_, ?_⟩, CH_con a5 (by omega) (by omega) hS, ho⟩
  · rw [s1]
    exact LC_con a1 (fun a b _ _ => hm a b (by omega) (by omega)) (fun k h0 hk => hS _ (by omega))
  · exact LB_con a2 (fun b => hm _ b (by omega) (by omega)) (fun b => hm _ b (by omega) (by omega)) (hS _ (by omega)) (fun i h0 hi => hS _ (by omega))
  · rw [s4, h2, h3]; exact a3
  · intro i hi
    rw [s4] at hi
    obtain ⟨q1, q2⟩ := a4 i hi
    rw [h2, hS (56 + 46 * i) (by omega)]
    exact ⟨LC_con q1 (fun a b _ _ => hm a b (by omega) (by omega)) (fun k h0 hk => hS _ (by omega)), LB_con q2 (fun b => hm _ b (by omega) (by omega)) (fun b => hm _ b (by omega) (by omega)) (hS _ (by omega)) (fun i h0 hi => hS _ (by omega))⟩
/-- the last step knows all cows that there are -/
def FR (S : Int → Int) : Prop := 0 < S 4 ∧ S (56 + 46 * (S 4 - 1)) = S 1
theorem FC_land {m m' : Mm} {f : Int} {S S' : Int → Int} (h : FC m f S) (hf : FR S) (hm : ∀ a b, f ≤ a → a ≤ f + 127 → ¬ (f + 1 ≤ a ∧ a ≤ f + 4) → m' a b = m a b) (hS : ∀ k, 0 ≤ k → k < 1436 → ¬ (6 ≤ k ∧ k < 21) → S' k = S k) (hC : LC m' (f + 1) (S 1) (fun k => S' (6 + k))) (hB : LB m' (f + 1) (fun k => S' (6 + k)) (fun i => S' (1436 + i))) : FC m' f S' := by
  obtain ⟨⟨a1, a2⟩, ⟨a3, a4⟩, ⟨a5, a5b⟩, a6⟩ := h
  have s1 := hS 1 (by omega) (by omega) (by omega)
  have s4 := hS 4 (by omega) (by omega) (by omega)
  have hT := a1.2.1
  refine ⟨⟨?_, hB⟩, ⟨?_, ?_⟩, ⟨?_, ?_⟩, ?_⟩
  · rw [s1]; exact hC
  · rw [s4, hm f 2 (by omega) (by omega) (by omega), hm f 3 (by omega) (by omega) (by omega)]; exact a3
  · intro i hi
    rw [s4] at hi
    obtain ⟨q1, q2⟩ := a4 i hi
    rw [hm f 2 (by omega) (by omega) (by omega), hS (56 + 46 * i) (by omega) (by omega) (by omega)]
    exact ⟨LC_con q1 (fun a b _ _ => hm a b (by omega) (by omega) (by omega)) (fun k h0 hk => hS _ (by omega) (by omega) (by omega)), LB_con q2 (fun b => hm _ b (by omega) (by omega) (by omega)) (fun b => hm _ b (by omega) (by omega) (by omega)) (hS _ (by omega) (by omega) (by omega)) (fun i h0 hi => hS _ (by omega) (by omega) (by omega))⟩
  · intro c hc
    rw [s1] at hc
    rw [hS _ (by omega) (by omega) (by omega), hS _ (by omega) (by omega) (by omega)]
    exact a5 c hc
  · intro i hi
    rw [s4] at hi
    obtain ⟨q1, q2⟩ := a5b i hi
    have e2 : nT S' i = nT S i := by
      unfold nT
      rw [s4, s1]
      split
      · exact hS _ (by omega) (by omega) (by omega)
      · rfl
    rw [hS (56 + 46 * i) (by omega) (by omega) (by omega), e2]
    refine ⟨q1, fun c hc1 hc2 => ?_⟩
    by_cases hl : (i : Int) + 1 < S 4
    · have e3 : ∀ k, 0 ≤ k → k < 15 → nR S' i k = nR S i k := by
        intro k h0 hk
        unfold nR
        rw [s4, if_pos hl, if_pos hl]
        exact hS _ (by omega) (by omega) (by omega)
      rw [e3 _ (by omega) (by omega), e3 _ (by omega) (by omega), hS (21 + 2 * c) (by omega) (by omega) (by omega), hS (22 + 2 * c) (by omega) (by omega) (by omega)]
      exact q2 c hc1 hc2
    · have e4 : nT S i = S 1 := by
        unfold nT
        rw [if_neg hl]
      obtain ⟨f1, f2⟩ := hf
      rw [show S 4 - 1 = (i : Int) by omega] at f2
      omega
  · exact FO_con a6 (fun b hb => hm _ b (by omega) (by omega) (by omega)) (fun b => hm _ b (by omega) (by omega) (by omega)) (fun b => hm _ b (by omega) (by omega) (by omega)) (fun k h0 hk _ _ _ => hS k h0 (by omega) (by omega))
theorem kpS_v {S : Int → Int} (h4 : 0 ≤ S 4 ∧ S 4 ≤ 30) : (0 < kpS S 4 ∧ kpS S 4 ≤ 30) ∧ (∀ k, k < 56 → k ≠ 4 → kpS S k = S k) ∧ (∀ k, 1436 ≤ k → kpS S k = S k) ∧ FR (kpS S) := by
  obtain ⟨v1, v2, _, _⟩ := shS_v h4
  obtain ⟨w1, w2, w3, _, _⟩ := kp1_v v1
  unfold kpS
  refine ⟨by omega, fun k hk h4' => ?_, fun k hk => ?_, ⟨by omega, ?_⟩⟩
  · rw [w2 k (by omega) h4', v2 k (by omega) h4']
  · rw [w2 k (by omega) (by omega), v2 k (by omega) (by omega)]
  · rw [show kp1 (shS S) 4 - 1 = shS S 4 by omega, w3, w2 1 (by omega) (by omega)]
/-! frames: what the class's calls and what the model's leave as it was -/
def FRC (m m' : Mm) : Prop := ∀ a b, (a < 128 ∨ 255 < a) → ¬ (10 ≤ a ∧ a ≤ 14) → ¬ (64 ≤ a ∧ a ≤ 67) → m' a b = m a b
def FRM (m m' : Mm) : Prop := ∀ a b, a ≠ 401 → ¬ (406 ≤ a ∧ a ≤ 417) → ¬ (a = 400 ∧ 8 ≤ b ∧ b ≠ 24) → m' a b = m a b
theorem FRC_refl {m : Mm} : FRC m m := fun _ _ _ _ _ => rfl
theorem FRM_refl {m : Mm} : FRM m m := fun _ _ _ _ _ => rfl
theorem FRC.tr {m m1 m2 : Mm} (h : FRC m m1) (h2 : FRC m1 m2) : FRC m m2 := fun a b x y z => by rw [h2 a b x y z, h a b x y z]
theorem FRM.tr {m m1 m2 : Mm} (h : FRM m m1) (h2 : FRM m1 m2) : FRM m m2 := fun a b x y z => by rw [h2 a b x y z, h a b x y z]
theorem FRC.row {m m' : Mm} (h : FRC m m') {a : Int} (h1 : a < 128 ∨ 255 < a) (h2 : ¬ (10 ≤ a ∧ a ≤ 14)) (h3 : ¬ (64 ≤ a ∧ a ≤ 67)) : m' a = m a := by
  funext b
  exact h a b h1 h2 h3
theorem FRM.row {m m' : Mm} (h : FRM m m') {a : Int} (h1 : a ≠ 401) (h2 : ¬ (406 ≤ a ∧ a ≤ 417)) (h3 : a ≠ 400) : m' a = m a := by
  funext b
  exact h a b h1 h2 (fun z => h3 z.1)
theorem FRC_far {m m' : Mm} (h : ∀ a b, a < 128 ∨ 128 + 127 < a → m' a b = m a b) : FRC m m' := fun a b x _ _ => h a b (by omega)
theorem FRM_sr {m : Mm} {S : Int → Int} : FRM m (sr m 401 S) := fun a b x _ _ => by rw [sr_ne x]
/-- both sides do the same to the farm -/
theorem OP_s {kc km t : Nat} {args : List Vv} {m m1 m2 : Mm} {v : Int} {S' : Int → Int} (h : R m) (hc : Cl 120 kc ((17, 0) :: args) m (some (t, v), m1)) (hF : FC m1 128 S') (f1 : FRC m m1) (hm : Cl 120 km ((18, 400) :: args) m1 (some (t, v), m2)) (e : m2 401 = S') (f2 : FRM m1 m2) (hS : S' 0 = m 401 0 ∧ S' 2 = m 401 2 ∧ ∀ k, 32 ≤ k → k < 40 → S' k = m 401 k) : OP kc km t args m := by
  have hR := R_now (m2 := m2) h (by
    rw [e]
    exact FC_con hF (fun a b ha hb => f2 a b (by omega) (by omega) (by omega))) ⟨by rw [e]; exact hS.1, by rw [e]; exact hS.2.1, fun k h1 h2 => by rw [e]; exact hS.2.2 k h1 h2⟩ (fun a b hab h1 h2 => by
    unfold scr at hab
    rw [f2 a b h1 (by omega) (by omega), f1 a b h2 (by omega) (by omega)])
  exact ⟨v, m1, m2, hc, hm, hR.1, hR.2⟩
/-! hedges planted and cut -/
def HS (S : Int → Int) (h : Int) : Bool := if h < 20 then bt_ (S 8) h else bt_ (S 9) (h - 20)
def chS (S : Int → Int) (h : Int) : Int → Int := if 20 ≤ h then ups S 9 (ixo (S 9) (isl 1 (h - 20))) else ups S 8 (ixo (S 8) (isl 1 h))
theorem ixo_pow {x k : Int} (hx : hv20 x) (hk : 0 ≤ k ∧ k < 20) : ∃ n : Nat, ixo x (isl 1 k) = (n : Nat) ∧ n < 2 ^ 20 ∧ ∀ i, n.testBit i = (x.toNat.testBit i ^^ decide (k.toNat = i)) := by
  unfold hv20 at hx
  obtain ⟨a, rfl⟩ := Int.eq_ofNat_of_zero_le hx.1
  obtain ⟨j, rfl⟩ := Int.eq_ofNat_of_zero_le hk.1
  have h2 : 2 ^ j ≤ 2 ^ 19 := p2le (by omega)
  refine ⟨a ^^^ 2 ^ j, ?_, Nat.xor_lt_two_pow (by omega) (by omega), fun i => ?_⟩
  · rw [isl1 (by omega), ixo_nat (by omega) (by omega)]
  · rw [Nat.testBit_xor, Nat.testBit_two_pow]
    rfl
theorem chS_v {S : Int → Int} {h : Int} (h8 : hv20 (S 8)) (h9 : hv20 (S 9)) (hh : hedI h) : hv20 (chS S h 8) ∧ hv20 (chS S h 9) ∧ (∀ k, k ≠ 8 → k ≠ 9 → chS S h k = S k) ∧ ∀ i : Nat, (cmb (chS S h 8) (chS S h 9)).testBit i = ((cmb (S 8) (S 9)).testBit i ^^ decide (h.toNat = i)) := by
  unfold hedI at hh
  unfold chS
  by_cases hc : 20 ≤ h
  · obtain ⟨n, q1, q2, q3⟩ := ixo_pow (x := S 9) (k := h - 20) h9 (by omega)
    rw [if_pos hc, q1]
    refine ⟨by rw [ups_ne (by omega)]; exact h8, by rw [ups_eq]; unfold hv20; omega, fun k _ h9 => ups_ne h9, fun i => ?_⟩
    rw [ups_eq, ups_ne (by omega), cmb_bit h8, cmb_bit h8]
    by_cases hi : i < 20
    · rw [if_pos hi, if_pos hi, decide_eq_false (by omega), Bool.xor_false]
    · rw [if_neg hi, if_neg hi]
      show n.testBit ((i : Int) - 20).toNat = _
      rw [q3]
      congr 1
      rw [decide_eq_decide]
      omega
  · obtain ⟨n, q1, q2, q3⟩ := ixo_pow (x := S 8) (k := h) h8 (by omega)
    rw [if_neg hc, q1]
    have hn : hv20 ((n : Nat) : Int) := by unfold hv20; omega
    refine ⟨by rw [ups_eq]; exact hn, by rw [ups_ne (by omega)]; exact h9, fun k h8 _ => ups_ne h8, fun i => ?_⟩
    rw [ups_eq, ups_ne (by omega), cmb_bit hn, cmb_bit h8]
    by_cases hi : i < 20
    · rw [if_pos hi, if_pos hi]
      show n.testBit i = _
      rw [q3]
      rfl
    · rw [if_neg hi, if_neg hi, decide_eq_false (by omega), Bool.xor_false]
theorem HS_bit {S : Int → Int} (h8 : hv20 (S 8)) {h : Int} (hh : 0 ≤ h) : HS S h = (cmb (S 8) (S 9)).testBit h.toNat := by
  obtain ⟨j, rfl⟩ := Int.eq_ofNat_of_zero_le hh
  rw [cmb_bit h8]
  unfold HS
  by_cases hj : j < 20
  · rw [if_pos (by omega), if_pos (by omega)]
    rfl
  · rw [if_neg (by omega), if_neg (by omega)]
    rfl
def adS (S : Int → Int) (h : Int) : Int → Int := if HS S h = true then S else chS S h
def rmS (S : Int → Int) (h : Int) : Int → Int := if HS S h = true then chS S h else S
theorem adS_v {S : Int → Int} {h : Int} (h8 : hv20 (S 8)) (h9 : hv20 (S 9)) (hh : hedI h) : hv20 (adS S h 8) ∧ hv20 (adS S h 9) ∧ (∀ k, k ≠ 8 → k ≠ 9 → adS S h k = S k) ∧ cmb (adS S h 8) (adS S h 9) = cmb (S 8) (S 9) ||| 2 ^ h.toNat := by
  obtain ⟨q1, q2, q3, q4⟩ := chS_v h8 h9 hh
  unfold hedI at hh
  have hb := HS_bit (h := h) h8 hh.1
  unfold adS
  by_cases hc : HS S h = true
  · rw [if_pos hc]
    refine ⟨h8, h9, fun _ _ _ => rfl, bits_eq fun i => ?_⟩
    rw [Nat.testBit_or, Nat.testBit_two_pow]
    by_cases hi : h.toNat = i
    · rw [hc, hi] at hb
      rw [← hb]
      simp
    · simp [hi]
  · rw [if_neg hc]
    refine ⟨q1, q2, q3, bits_eq fun i => ?_⟩
    rw [q4, Nat.testBit_or, Nat.testBit_two_pow]
    by_cases hi : h.toNat = i
    · rw [hi] at hb
      rw [← hb]
      simp [hi, hc]
    · simp [hi]
theorem rmS_v {S : Int → Int} {h : Int} (h8 : hv20 (S 8)) (h9 : hv20 (S 9)) (hh : hedI h) : hv20 (rmS S h 8) ∧ hv20 (rmS S h 9) ∧ (∀ k, k ≠ 8 → k ≠ 9 → rmS S h k = S k) ∧ cmb (rmS S h 8) (rmS S h 9) = ndf (cmb (S 8) (S 9)) (2 ^ h.toNat) := by
  obtain ⟨q1, q2, q3, q4⟩ := chS_v h8 h9 hh
  unfold hedI at hh
  have hb := HS_bit (h := h) h8 hh.1
  unfold rmS
  by_cases hc : HS S h = true
  · rw [if_pos hc]
    refine ⟨q1, q2, q3, bits_eq fun i => ?_⟩
    rw [q4, ndf_bit, Nat.testBit_two_pow]
    by_cases hi : h.toNat = i
    · rw [hc, hi] at hb
      rw [← hb]
      simp [hi]
    · simp [hi]
  · rw [if_neg hc]
    refine ⟨h8, h9, fun _ _ _ => rfl, bits_eq fun i => ?_⟩
    rw [ndf_bit, Nat.testBit_two_pow]
    by_cases hi : h.toNat = i
    · rw [hi] at hb
      rw [← hb]
      simp [hi, hc]
    · simp [hi]
theorem LC_hed {m : Mm} {o T v : Int} {g g' : Int → Int} (h : LC m o T g) (h2 : hv20 (g' 2)) (h3 : hv20 (g' 3)) (hv : v = (cmb (g' 2) (g' 3) : Nat)) (hg : ∀ k, k ≠ 2 → k ≠ 3 → g' k = g k) : LC (up m o 0 v) o T g' := by
  obtain ⟨_, a2, a3, a4, a5, a6⟩ := h
  refine ⟨⟨h2, h3, by rw [up_eq]; exact hv⟩, ?_, ?_, ?_, ?_, ?_⟩
  · rw [up_nk (by omega)]; exact a2
  · rw [up_nk (by omega), hg 0 (by omega) (by omega)]; exact a3
  · rw [up_nk (by omega), hg 1 (by omega) (by omega)]; exact a4
  · rw [up_nk (by omega)]; exact a5
  · intro c hc
    rw [up_ne (by omega), up_ne (by omega), up_nk (by omega), hg _ (by omega) (by omega), hg _ (by omega) (by omega)]
    exact a6 c hc
/-- a land that stands for a row -/
abbrev LSd (m : Mm) (o : Int) (S : Int → Int) : Prop := LC m o (S 1) (fun k => S (6 + k))
abbrev LSk (m : Mm) (o : Int) (S : Int → Int) : Prop := LB m o (fun k => S (6 + k)) (fun i => S (1436 + i))
theorem LSd_h {m : Mm} {o : Int} {S : Int → Int} (h : LSd m o S) : hv20 (S 8) ∧ hv20 (S 9) ∧ m o 0 = (cmb (S 8) (S 9) : Nat) ∧ cmb (S 8) (S 9) < 2 ^ 40 ∧ hv40 (m o 0) ∧ ∀ x, hedI x → bt_ (m o 0) x = HS S x := by
  obtain ⟨⟨h8, h9, h0⟩, _⟩ := h
  have h8 : hv20 (S 8) := h8
  have h9 : hv20 (S 9) := h9
  have h0 : m o 0 = (cmb (S 8) (S 9) : Nat) := h0
  have hl := cmb_lt h8 h9
  refine ⟨h8, h9, h0, hl, by rw [h0]; unfold hv40; omega, fun x hx => ?_⟩
  rw [h0, HS_bit h8 hx.1]
  rfl
theorem c_La_addHedge {d : Nat} {m : Mm} {o h : Int} {S : Int → Int} (hc : LSd m o S) (hh : hedI h) : ∃ v, Cl d k_La_addHedge [(13, o), (0, h)] m (none, up m o 0 v) ∧ LSd (up m o 0 v) o (adS S h) := by
  obtain ⟨h8, h9, h0, hl, _, _⟩ := LSd_h hc
  obtain ⟨q1, q2, q3, q4⟩ := adS_v h8 h9 hh
  unfold hedI at hh
  obtain ⟨j, rfl⟩ := Int.eq_ofNat_of_zero_le hh.1
  refine ⟨lro (m o 0) (lsl 1 (j : Nat)), cl_La_addHedge (b_La_addHedge ?_), ?_⟩
  · rintro m1 rfl
    rfl
  · unfold LSd
    rw [q3 1 (by omega) (by omega)]
    refine LC_hed hc q1 q2 ?_ (fun k h2 h3 => q3 _ (by omega) (by omega))
    show _ = ((cmb (adS S j 8) (adS S j 9) : Nat) : Int)
    rw [q4, h0, Int.toNat_natCast]
    exact lro_pow hl (by omega)
theorem c_La_removeHedge {d : Nat} {m : Mm} {o h : Int} {S : Int → Int} (hc : LSd m o S) (hh : hedI h) : ∃ v, Cl d k_La_removeHedge [(13, o), (0, h)] m (none, up m o 0 v) ∧ LSd (up m o 0 v) o (rmS S h) := by
  obtain ⟨h8, h9, h0, hl, _, _⟩ := LSd_h hc
  obtain ⟨q1, q2, q3, q4⟩ := rmS_v h8 h9 hh
  unfold hedI at hh
  obtain ⟨j, rfl⟩ := Int.eq_ofNat_of_zero_le hh.1
  refine ⟨lan (m o 0) (lxo (lsl 1 (j : Nat)) (-1)), cl_La_removeHedge (b_La_removeHedge ?_), ?_⟩
  · rintro m1 rfl
    rfl
  · unfold LSd
    rw [q3 1 (by omega) (by omega)]
    refine LC_hed hc q1 q2 ?_ (fun k h2 h3 => q3 _ (by omega) (by omega))
    show _ = ((cmb (rmS S j 8) (rmS S j 9) : Nat) : Int)
    have h2 : 2 ^ j ≤ 2 ^ 39 := p2le (by omega)
    have e3 := lsl_nat (a := 1) (k := j) (by omega) (by omega)
    rw [show ((1 : Nat) : Int) = 1 from rfl, Nat.one_mul] at e3
    rw [q4, h0, Int.toNat_natCast, e3]
    exact lan_not (by omega) (by omega)
theorem c_Mo_change {d : Nat} {m : Mm} {h : Int} (hh : hedI h) : Cl d k_Mo_change [(18, 400), (0, h)] m (none, sr m 401 (chS (m 401) h)) := by
  unfold hedI at hh
  refine cl_Mo_change (b_Mo_change ⟨fun z => ?_, fun z => ?_⟩)
  · rintro m1 rfl
    rw [w32n (by omega) (by omega), sr_up]
    unfold chS
    rw [if_pos z]
  · rintro m1 rfl
    rw [sr_up]
    unfold chS
    rw [if_neg z]
theorem c_La_has {d : Nat} {m : Mm} {o h : Int} {S : Int → Int} (hc : LSd m o S) : Cl d k_La_hasHedge [(13, o), (0, h)] m (some (0, if (0 ≤ h ∧ h < 40) ∧ HS S h = true then 1 else 0), m) := by
  obtain ⟨_, _, _, _, hv, hb⟩ := LSd_h hc
  have := c_La_hasHedge (d := d) (m := m) (o := o) (h := h) hv
  have e : ((0 ≤ h ∧ h < 40) ∧ bt_ (m o 0) h = true) ↔ ((0 ≤ h ∧ h < 40) ∧ HS S h = true) := by
    constructor
    · intro z
      rw [hb h z.1] at z
      exact z
    · intro z
      rw [hb h z.1]
      exact z
  rw [ite_iff e] at this
  exact this
theorem LSk_up0 {m : Mm} {o v : Int} {S S' : Int → Int} (h : LSk m o S) (hS : S' 10 = S 10 ∧ ∀ k, 1436 ≤ k → S' k = S k) : LSk (up m o 0 v) o S' := by
  obtain ⟨h1, h2⟩ := h
  refine ⟨?_, ?_⟩
  · have e : (fun k => S' (6 + k)) 4 = (fun k => S (6 + k)) 4 := hS.1
    rw [e, up_nk (by omega)]; exact h1
  · intro i hi
    have e : (fun k => S' (6 + k)) 4 = (fun k => S (6 + k)) 4 := hS.1
    rw [e] at hi
    show LN (up m o 0 v (o + 3) i) (S' (1436 + (i : Int)))
    rw [up_ne (by omega), hS.2 _ (by omega)]
    exact h2 i hi
/-- planting: whether it can be, the row then -/
def plA (S : Int → Int) (h : Int) : Prop := (0 ≤ h ∧ h < 40) ∧ ¬ HS S h = true
def cuA (S : Int → Int) (h : Int) : Prop := (0 ≤ h ∧ h < 40) ∧ HS S h = true
theorem HS_kp {S : Int → Int} (h4 : 0 ≤ S 4 ∧ S 4 ≤ 30) (h : Int) : HS (kpS S) h = HS S h := by
  have v := (kpS_v h4).2.1
  unfold HS
  rw [v 8 (by omega) (by omega), v 9 (by omega) (by omega)]
theorem c_Th_plant {d : Nat} {m : Mm} {S : Int → Int} {x : Int} (h : FC m 128 S) : ∃ v m', Cl (d + 3) k_Th_plant [(17, 0), (0, x)] m (some (0, v), m') ∧ FRC m m' ∧ (plA S x → v = 1 ∧ FC m' 128 (chS (kpS S) x)) ∧ (¬ plA S x → v = 0 ∧ m' = m) := by
  have h4 := h.2.1.1
  by_cases hp : plA S x
  · obtain ⟨m1, k1, k2, k3⟩ := c_Fa_markStep (d := d) h
    obtain ⟨u1, u2, u3, u4⟩ := kpS_v (S := S) (by omega)
    have hL : LSd m1 129 (kpS S) := k2.1.1
    obtain ⟨v, a1, a2⟩ := c_La_addHedge (d := d + 2) (h := x) hL hp.1
    have hna : ¬ HS (kpS S) x = true := by rw [HS_kp (by omega)]; exact hp.2
    have had : adS (kpS S) x = chS (kpS S) x := by unfold adS; rw [if_neg hna]
    obtain ⟨l8, l9, _⟩ := LSd_h hL
    obtain ⟨c1, c2, c3, c4⟩ := chS_v l8 l9 hp.1
    rw [had] at a2
    refine ⟨1, _, cl_Th_plant (b_Th_plant ⟨_, _, c_Pl_isHedge, fun z => ?_, fun _ => ⟨_, _, c_La_has h.1.1, fun _ => ⟨_, k1, _, a1, rfl⟩, fun z => ?_⟩⟩), ?_, fun _ => ⟨rfl, ?_⟩, fun z => absurd hp z⟩
    · rw [ite_z] at z; exact absurd hp.1 z
    · rw [ite_z1] at z; exact absurd z.2 hp.2
    · intro a b q _ _
      rw [up_ne (by omega), k3 a b (by omega)]
    · refine FC_land k2 u4 (fun a b _ _ q => up_ne (by omega)) (fun k h0 h1 q => c3 k (by omega) (by omega)) ?_ ?_
      · unfold LSd at a2
        rw [c3 1 (by omega) (by omega)] at a2
        exact a2
      · exact LSk_up0 k2.1.2 ⟨c3 _ (by omega) (by omega), fun k hk => c3 _ (by omega) (by omega)⟩
  · refine ⟨0, m, cl_Th_plant (b_Th_plant ⟨_, _, c_Pl_isHedge, fun z => rfl, fun z => ⟨_, _, c_La_has h.1.1, fun z2 => ?_, fun z2 => rfl⟩⟩), FRC_refl, fun z => absurd z hp, fun _ => ⟨rfl, rfl⟩⟩
    rw [ite_z1] at z
    rw [ite_z] at z2
    exact absurd ⟨z, fun q => z2 ⟨z, q⟩⟩ hp
theorem c_Th_cut {d : Nat} {m : Mm} {S : Int → Int} {x : Int} (h : FC m 128 S) : ∃ v m', Cl (d + 3) k_Th_cut [(17, 0), (0, x)] m (some (0, v), m') ∧ FRC m m' ∧ (cuA S x → v = 1 ∧ FC m' 128 (chS (kpS S) x)) ∧ (¬ cuA S x → v = 0 ∧ m' = m) := by
  have h4 := h.2.1.1
  by_cases hp : cuA S x
  · obtain ⟨m1, k1, k2, k3⟩ := c_Fa_markStep (d := d) h
    obtain ⟨u1, u2, u3, u4⟩ := kpS_v (S := S) (by omega)
    have hL : LSd m1 129 (kpS S) := k2.1.1
    obtain ⟨v, a1, a2⟩ := c_La_removeHedge (d := d + 2) (h := x) hL hp.1
    have hna : HS (kpS S) x = true := by rw [HS_kp (by omega)]; exact hp.2
    have had : rmS (kpS S) x = chS (kpS S) x := by unfold rmS; rw [if_pos hna]
    obtain ⟨l8, l9, _⟩ := LSd_h hL
    obtain ⟨c1, c2, c3, c4⟩ := chS_v l8 l9 hp.1
    rw [had] at a2
    refine ⟨1, _, cl_Th_cut (b_Th_cut ⟨_, _, c_La_has h.1.1, fun _ => ⟨_, k1, _, a1, rfl⟩, fun z => ?_⟩), ?_, fun _ => ⟨rfl, ?_⟩, fun z => absurd hp z⟩
    · rw [ite_z1] at z; exact absurd hp z
    · intro a b q _ _
      rw [up_ne (by omega), k3 a b (by omega)]
    · refine FC_land k2 u4 (fun a b _ _ q => up_ne (by omega)) (fun k h0 h1 q => c3 k (by omega) (by omega)) ?_ ?_
      · unfold LSd at a2
        rw [c3 1 (by omega) (by omega)] at a2
        exact a2
      · exact LSk_up0 k2.1.2 ⟨c3 _ (by omega) (by omega), fun k hk => c3 _ (by omega) (by omega)⟩
  · refine ⟨0, m, cl_Th_cut (b_Th_cut ⟨_, _, c_La_has h.1.1, fun z2 => ?_, fun z2 => rfl⟩), FRC_refl, fun z => absurd z hp, fun _ => ⟨rfl, rfl⟩⟩
    rw [ite_z1] at z2
    exact absurd z2 hp
/-- what the model needs of its own row -/
def RM (S : Int → Int) : Prop := hv20 (S 8) ∧ hv20 (S 9) ∧ (0 ≤ S 4 ∧ S 4 ≤ 30) ∧ (0 ≤ S 1 ∧ S 1 ≤ 5)
theorem FC_RM {m : Mm} {f : Int} {S : Int → Int} (h : FC m f S) : RM S := by
  obtain ⟨h8, h9, _⟩ := LSd_h h.1.1
  have h1 := h.1.1.2.1
  have h4 := h.2.1.1
  exact ⟨h8, h9, by omega, by omega⟩
theorem c_Mo_plant {d : Nat} {m : Mm} {x : Int} (h : RM (m 401)) : ∃ v m', Cl (d + 2) k_Mo_plant [(18, 400), (0, x)] m (some (0, v), m') ∧ FRM m m' ∧ (plA (m 401) x → v = 1 ∧ m' 401 = chS (kpS (m 401)) x) ∧ (¬ plA (m 401) x → v = 0 ∧ m' 401 = m 401) := by
  obtain ⟨h8, h9, h4, _⟩ := h
  by_cases hp : plA (m 401) x
  · have hch := c_Mo_change (d := d + 1) (m := sr m 401 (kpS (m 401))) (h := x) hp.1
    rw [sr_eq, sr_sr] at hch
    refine ⟨1, _, cl_Mo_plant (b_Mo_plant ⟨_, _, c_Mo_isHedge, fun z => ?_, fun _ => ⟨_, _, c_Mo_isThere h8 h9 hp.1, fun _ => ⟨_, c_Mo_keep h4, _, hch, rfl⟩, fun z => ?_⟩⟩), FRM_sr, fun _ => ⟨rfl, sr_eq⟩, fun z => absurd hp z⟩
    · rw [ite_z] at z; exact absurd hp.1 z
    · rw [ite_z1] at z; exact absurd z hp.2
  · by_cases hx : 0 ≤ x ∧ x < 40
    · refine ⟨0, m, cl_Mo_plant (b_Mo_plant ⟨_, _, c_Mo_isHedge, fun z => rfl, fun z => ⟨_, _, c_Mo_isThere h8 h9 hx, fun z2 => ?_, fun z2 => rfl⟩⟩), FRM_refl, fun z => absurd z hp, fun _ => ⟨rfl, rfl⟩⟩
      rw [ite_z] at z2
      exact absurd ⟨hx, z2⟩ hp
    · refine ⟨0, m, cl_Mo_plant (b_Mo_plant ⟨_, _, c_Mo_isHedge, fun z => rfl, fun z => ?_⟩), FRM_refl, fun z => absurd z hp, fun _ => ⟨rfl, rfl⟩⟩
      rw [ite_z1] at z
      exact absurd z hx
theorem c_Mo_cut {d : Nat} {m : Mm} {x : Int} (h : RM (m 401)) : ∃ v m', Cl (d + 2) k_Mo_cut [(18, 400), (0, x)] m (some (0, v), m') ∧ FRM m m' ∧ (cuA (m 401) x → v = 1 ∧ m' 401 = chS (kpS (m 401)) x) ∧ (¬ cuA (m 401) x → v = 0 ∧ m' 401 = m 401) := by
  obtain ⟨h8, h9, h4, _⟩ := h
  by_cases hp : cuA (m 401) x
  · have hch := c_Mo_change (d := d + 1) (m := sr m 401 (kpS (m 401))) (h := x) hp.1
    rw [sr_eq, sr_sr] at hch
    refine ⟨1, _, cl_Mo_cut (b_Mo_cut ⟨_, _, c_Mo_isHedge, fun z => ?_, fun _ => ⟨_, _, c_Mo_isThere h8 h9 hp.1, fun _ => ⟨_, c_Mo_keep h4, _, hch, rfl⟩, fun z => ?_⟩⟩), FRM_sr, fun _ => ⟨rfl, sr_eq⟩, fun z => absurd hp z⟩
    · rw [ite_z] at z; exact absurd hp.1 z
    · rw [ite_z1] at z; exact absurd hp.2 z
  · by_cases hx : 0 ≤ x ∧ x < 40
    · refine ⟨0, m, cl_Mo_cut (b_Mo_cut ⟨_, _, c_Mo_isHedge, fun z => rfl, fun z => ⟨_, _, c_Mo_isThere h8 h9 hx, fun z2 => ?_, fun z2 => rfl⟩⟩), FRM_refl, fun z => absurd z hp, fun _ => ⟨rfl, rfl⟩⟩
      rw [ite_z1] at z2
      exact absurd ⟨hx, z2⟩ hp
    · refine ⟨0, m, cl_Mo_cut (b_Mo_cut ⟨_, _, c_Mo_isHedge, fun z => rfl, fun z => ?_⟩), FRM_refl, fun z => absurd z hp, fun _ => ⟨rfl, rfl⟩⟩
      rw [ite_z1] at z
      exact absurd z hx
/-- both sides do the same, if at all -/
theorem OP_d {kc km t : Nat} {args : List Vv} {m : Mm} {A : (Int → Int) → Prop} {N : (Int → Int) → Int → Int} {a b : Int} (h : R m) (hc : ∃ v m', Cl 120 kc ((17, 0) :: args) m (some (t, v), m') ∧ FRC m m' ∧ (A (m 401) → v = a ∧ FC m' 128 (N (m 401))) ∧ (¬ A (m 401) → v = b ∧ m' = m)) (hm : ∀ m1 : Mm, m1 401 = m 401 → FRC m m1 → ∃ v m', Cl 120 km ((18, 400) :: args) m1 (some (t, v), m') ∧ FRM m1 m' ∧ (A (m 401) → v = a ∧ m' 401 = N (m 401)) ∧ (¬ A (m 401) → v = b ∧ m' 401 = m 401)) (hS : A (m 401) → N (m 401) 0 = m 401 0 ∧ N (m 401) 2 = m 401 2 ∧ ∀ k, 32 ≤ k → k < 40 → N (m 401) k = m 401 k) : OP kc km t args m := by
  obtain ⟨v, m1, c1, c2, c3, c4⟩ := hc
  obtain ⟨w, m2, d1, d2, d3, d4⟩ := hm m1 (c2.row (by omega) (by omega) (by omega)) c2
  by_cases hA : A (m 401)
  · obtain ⟨rfl, x2⟩ := c3 hA
    obtain ⟨rfl, y2⟩ := d3 hA
    exact OP_s h c1 x2 c2 d1 y2 d2 (hS hA)
  · obtain ⟨rfl, rfl⟩ := c4 hA
    obtain ⟨rfl, y2⟩ := d4 hA
    exact OP_s h c1 h.1 c2 d1 y2 d2 ⟨rfl, rfl, fun _ _ _ => rfl⟩
theorem op_plant {m : Mm} {x : Int} (h : R m) : OP k_Th_plant k_Mo_plant 0 [(0, x)] m := by
  have hM := FC_RM h.1
  refine OP_d (A := fun S => plA S x) (N := fun S => chS (kpS S) x) h (c_Th_plant h.1) (fun m1 e _ => ?_) (fun hA => ?_)
  · have := c_Mo_plant (d := 118) (m := m1) (x := x) (by rw [e]; exact hM)
    rw [e] at this
    exact this
  · obtain ⟨h8, h9, h4, _⟩ := hM
    obtain ⟨u1, u2, u3, u4⟩ := kpS_v (S := m 401) h4
    obtain ⟨c1, c2, c3, c4⟩ := chS_v (S := kpS (m 401)) (h := x) (by rw [u2 _ (by omega) (by omega)]; exact h8) (by rw [u2 _ (by omega) (by omega)]; exact h9) hA.1
    exact ⟨by rw [c3 _ (by omega) (by omega), u2 _ (by omega) (by omega)], by rw [c3 _ (by omega) (by omega), u2 _ (by omega) (by omega)], fun k h1 h2 => by rw [c3 _ (by omega) (by omega), u2 _ (by omega) (by omega)]⟩
theorem op_cut {m : Mm} {x : Int} (h : R m) : OP k_Th_cut k_Mo_cut 0 [(0, x)] m := by
  have hM := FC_RM h.1
  refine OP_d (A := fun S => cuA S x) (N := fun S => chS (kpS S) x) h (c_Th_cut h.1) (fun m1 e _ => ?_) (fun hA => ?_)
  · have := c_Mo_cut (d := 118) (m := m1) (x := x) (by rw [e]; exact hM)
    rw [e] at this
    exact this
  · obtain ⟨h8, h9, h4, _⟩ := hM
    obtain ⟨u1, u2, u3, u4⟩ := kpS_v (S := m 401) h4
    obtain ⟨c1, c2, c3, c4⟩ := chS_v (S := kpS (m 401)) (h := x) (by rw [u2 _ (by omega) (by omega)]; exact h8) (by rw [u2 _ (by omega) (by omega)]; exact h9) hA.1
    exact ⟨by rw [c3 _ (by omega) (by omega), u2 _ (by omega) (by omega)], by rw [c3 _ (by omega) (by omega), u2 _ (by omega) (by omega)], fun k h1 h2 => by rw [c3 _ (by omega) (by omega), u2 _ (by omega) (by omega)]⟩
