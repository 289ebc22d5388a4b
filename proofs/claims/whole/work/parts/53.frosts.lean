/-! FROSTS, AND WHETHER A COW GOES -/
def LAWV (m : Mm) (o t s w : Int) (Lv : Option Ef) : Prop := match Lv with
  | none => m o s = 0 ∧ ∀ i : Nat, (i : Int) < m o 0 → m 403 (681 * t + 1 + 3 * i) ≠ w
  | some F => m o s = 1 ∧ ∃ (i p p' q q' n : Nat), (i : Int) < m o 0 ∧ m 403 (681 * t + 1 + 3 * i) = w ∧ (∀ j : Nat, j < i → m 403 (681 * t + 1 + 3 * j) ≠ w) ∧ m o (s + 1) = p ∧ m o (s + 2) = p' ∧ m 403 (681 * t + 2 + 3 * i) = q ∧ m 403 (681 * t + 3 + 3 * i) = q' ∧ p' ≤ 300 ∧ q' ≤ 304 ∧ WE (fun j => m (o + 4) j) (fun j => m 403 (681 * t + 73 + 2 * j)) (fun j => m 403 (681 * t + 74 + 2 * j)) w n false p p' q q' F
theorem LAW_V {m : Mm} {o t s w : Int} (h : LAW m o t s w) : ∃ Lv, LAWV m o t s w Lv := by
  rcases h with h | ⟨h1, i, p, p', q, q', n, F, h2⟩
  · exact ⟨none, h⟩
  · exact ⟨some F, h1, i, p, p', q, q', n, h2⟩
theorem LAWV_con {m m' : Mm} {o t s w : Int} {Lv : Option Ef} (h : LAWV m o t s w Lv) (h1 : ∀ b, m' o b = m o b) (h2 : ∀ b, m' (o + 4) b = m (o + 4) b) (h3 : ∀ b, m' 403 b = m 403 b) : LAWV m' o t s w Lv := by
  cases Lv with
  | none =>
    unfold LAWV at *
    simp only [h1, h3]
    exact h
  | some F =>
    unfold LAWV at *
    simp only [h1, h2, h3]
    exact h
/-- the laws that a text has: none without a text -/
def TXL (m : Mm) (tx : Int) (Lf Lg : Option Ef) : Prop := (tx = -1 ∧ Lf = none ∧ Lg = none ∧ m 48 6 = 0 ∧ m 48 9 = 0) ∨ ∃ t : Nat, tx = (t : Nat) ∧ t < 4 ∧ (0 ≤ m (16 + 8 * t) 0 ∧ m (16 + 8 * t) 0 ≤ 24 ∧ m 403 (681 * t) = m (16 + 8 * t) 0) ∧ LAWV m (16 + 8 * t) t 6 0 Lf ∧ LAWV m (16 + 8 * t) t 9 1 Lg
def obj (tx : Int) : Int := if tx = -1 then 48 else 16 + 8 * tx
theorem TXL_con {m m' : Mm} {tx : Int} {Lf Lg : Option Ef} (h : TXL m tx Lf Lg) (hm : ∀ a b, (16 ≤ a ∧ a ≤ 52) ∨ a = 403 → m' a b = m a b) : TXL m' tx Lf Lg := by
  rcases h with ⟨h1, h2, h3, h4, h5⟩ | ⟨t, h1, h2, h3, h4, h5⟩
  · exact Or.inl ⟨h1, h2, h3, by rw [hm _ _ (by omega)]; exact h4, by rw [hm _ _ (by omega)]; exact h5⟩
  · refine Or.inr ⟨t, h1, h2, ?_, LAWV_con h4 (fun b => hm _ b (by omega)) (fun b => hm _ b (by omega)) (fun b => hm _ b (by omega)), LAWV_con h5 (fun b => hm _ b (by omega)) (fun b => hm _ b (by omega)) (fun b => hm _ b (by omega))⟩
    rw [hm _ _ (by omega), hm _ _ (by omega)]
    exact h3
theorem R_TXL {m : Mm} (h : R m) {tx : Int} (h1 : -1 ≤ tx) (h2 : tx < m 401 2) : ∃ Lf Lg, TXL m tx Lf Lg := by
  have ho := (h.1.2.2.2).2.2.1
  obtain ⟨_, _, _, _, _, h6, _, _, h9⟩ := h
  by_cases htx : tx = -1
  · exact ⟨none, none, Or.inl ⟨htx, rfl, rfl, h9.1, h9.2⟩⟩
  · obtain ⟨t, rfl⟩ := Int.eq_ofNat_of_zero_le (show 0 ≤ tx by omega)
    obtain ⟨q1, _, q3, q4⟩ := h6 t h2
    obtain ⟨Lf, hf⟩ := LAW_V q3
    obtain ⟨Lg, hg⟩ := LAW_V q4
    exact ⟨Lf, Lg, Or.inr ⟨t, rfl, by omega, q1, hf, hg⟩⟩
/-- what each name is: by a row, a cell, a hedge or a cow and its way -/
def nmS (S : Int → Int) (c h : Int) : Int → Int := fun k => if k = 0 then S 6 else if k = 1 then c else if k = 2 then arn (HS S) c 4 else if k = 3 then (pc_ 64 (cmb (S 8) (S 9)) : Nat) else if k = 4 then h else if k = 5 then h else S (12 + 2 * h)
def frv (Lf : Option Ef) (S : Int → Int) (h : Int) : Int := match Lf with
  | none => 3
  | some F => max 0 (min 10 (F (nmS S (fcell h) h) (HS S)))
def gov (Lg : Option Ef) (S : Int → Int) (c : Int) : Int := match Lg with
  | none => 1
  | some F => max (-99) (min 99 (F (nmS S (S (11 + 2 * c)) c) (HS S)))
theorem c_Ju_nameCommon {d : Nat} {m : Mm} {L c : Int} {S : Int → Int} (hL : LSd m L S) (hLn : 20 ≤ L) (hc : cellI c) : ∃ m', Cl (d + 2) k_Ju_nameCommon [(12, 10), (13, L), (0, c)] m (none, m') ∧ m' 11 0 = S 6 ∧ m' 11 1 = c ∧ m' 11 2 = arn (HS S) c 4 ∧ m' 11 3 = (pc_ 64 (cmb (S 8) (S 9)) : Nat) ∧ ∀ a b, a ≠ 11 → m' a b = m a b := by
  obtain ⟨_, _, h0, hl, hv, hb⟩ := LSd_h hL
  obtain ⟨_, _, _, t4, _⟩ := LSd_t hL
  have harn : arn (bt_ (m L 0)) c 4 = arn (HS S) c 4 := arn_con hb hc 4
  obtain ⟨m1, hm1⟩ : ∃ m1, m1 = up (up m 11 0 (S 6)) 11 1 c := ⟨_, rfl⟩
  have e1 : ∀ a b, a ≠ 11 → m1 a b = m a b := fun a b hab => by rw [hm1, up_ne hab, up_ne hab]
  obtain ⟨m2, hm2⟩ : ∃ m2, m2 = up m1 11 2 (arn (HS S) c 4) := ⟨_, rfl⟩
  have e2 : ∀ a b, a ≠ 11 → m2 a b = m a b := fun a b hab => by rw [hm2, up_ne hab, e1 a b hab]
  refine ⟨up m2 11 3 (pc_ 64 (cmb (S 8) (S 9)) : Nat), cl_Ju_nameCommon (b_Ju_nameCommon ?_), ?_, ?_, ?_, ?_, ?_⟩
  · intro n1 hn1 n2 hn2
    rw [t4.2.2] at hn1
    have hn : n2 = m1 := by rw [hn2, hn1, hm1]
    rw [hn]
    have har := c_La_around (d := d) (m := m1) (o := L) (c := c) (by rw [e1 _ _ (by omega)]; exact hv) hc
    rw [e1 L 0 (by omega), harn] at har
    refine ⟨_, _, har, ?_⟩
    intro n4 hn4
    rw [← hm2] at hn4
    rw [hn4, e2 L 0 (by omega), h0]
    refine ⟨_, _, c_Lo_bitCount (by omega), ?_⟩
    intro n6 hn6
    rw [hn6, Int.toNat_natCast]
  · rw [up_nk (by omega), hm2, up_nk (by omega), hm1, up_nk (by omega), up_eq]
  · rw [up_nk (by omega), hm2, up_nk (by omega), hm1, up_eq]
  · rw [up_nk (by omega), hm2, up_eq]
  · rw [up_eq]
  · intro a b hab
    rw [up_ne hab, e2 a b hab]
/-- what the judge leaves as it was -/
def JG (m M : Mm) : Prop := ∀ a b, a ≠ 11 → a ≠ 12 → ¬ (a = 10 ∧ b = 2) → M a b = m a b
theorem nm_rg {S : Int → Int} {c h : Int} (h6 : 0 ≤ S 6 ∧ S 6 ≤ 9999) (hc : cellI c) (hh : 0 ≤ h ∧ h < 40) (hw : 0 ≤ S (12 + 2 * h) ∧ S (12 + 2 * h) < 4 ∨ True) {w k : Int} (hk : nmo w k) (hk6 : k ≠ 6 ∨ wayI (S (12 + 2 * h))) : -1000000 ≤ nmS S c h k ∧ nmS S c h k ≤ 1000000 := by
  unfold cellI at hc
  unfold nmo at hk
  have ha := arn_le (HS S) c 4
  have hp := pc_le 64 (cmb (S 8) (S 9))
  unfold nmS
  split
  · omega
  · split
    · omega
    · split
      · omega
      · split
        · omega
        · split
          · omega
          · split
            · omega
            · rcases hk6 with q | q
              · omega
              · unfold wayI at q; omega
theorem c_Ju_frostsOf {d : Nat} {m : Mm} {L h tx : Int} {S : Int → Int} {Lf Lg : Option Ef} (hL : LSd m L S) (hLn : 20 ≤ L) (hL2 : 53 ≤ L) (hX : TXL m tx Lf Lg) (hh : hedI h) : ∃ m', Cl (d + 4) k_Ju_frostsOf [(12, 10), (16, obj tx), (13, L), (0, h)] m (some (0, frv Lf S h), m') ∧ JG m m' := by
  obtain ⟨f1, f2, f3⟩ := fcell_in hh
  have hfc : cellI (fcell h) := ⟨by omega, by omega⟩
  have hh' := hh
  unfold hedI at hh'
  rcases hX with ⟨h1, h2, h3, h4, h5⟩ | ⟨t, h1, h2, h3, h4, h5⟩
  · subst h2
    have ho : obj tx = 48 := by unfold obj; rw [if_pos h1]
    rw [ho]
    exact ⟨m, cl_Ju_frostsOf (b_Ju_frostsOf ⟨fun z => absurd h4 z, fun _ => rfl⟩), fun _ _ _ _ _ => rfl⟩
  · have ho : obj tx = 16 + 8 * t := by unfold obj; rw [if_neg (by omega), h1]
    rw [ho]
    cases Lf with
    | none => exact ⟨m, cl_Ju_frostsOf (b_Ju_frostsOf ⟨fun z => absurd h4.1 z, fun _ => rfl⟩), fun _ _ _ _ _ => rfl⟩
    | some F =>
      obtain ⟨g1, i, p, p', q, q', n, g2, g3, g4, g5, g6, g7, g8, g9, g10, g11⟩ := h4
      obtain ⟨m1, k1, k2, k3, k4, k5, k6⟩ := c_Ju_nameCommon (d := d + 1) hL hLn hfc
      obtain ⟨m2, hm2⟩ : ∃ m2, m2 = up m1 11 4 h := ⟨_, rfl⟩
      have e2 : ∀ a b, a ≠ 11 → m2 a b = m a b := fun a b hab => by rw [hm2, up_ne hab, k6 a b hab]
      have hnm : ∀ k, nmo 0 k → m2 11 k = nmS S (fcell h) h k := by
        intro k hk
        unfold nmo at hk
        unfold nmS
        by_cases q0 : k = 0
        · rw [if_pos q0, q0, hm2, up_nk (by omega), k2]
        · rw [if_neg q0]
          by_cases q1 : k = 1
          · rw [if_pos q1, q1, hm2, up_nk (by omega), k3]
          · rw [if_neg q1]
            by_cases q2 : k = 2
            · rw [if_pos q2, q2, hm2, up_nk (by omega), k4]
            · rw [if_neg q2]
              by_cases q3 : k = 3
              · rw [if_pos q3, q3, hm2, up_nk (by omega), k5]
              · rw [if_neg q3]
                by_cases q4 : k = 4
                · rw [if_pos q4, q4, hm2, up_eq]
                · omega
      obtain ⟨_, _, _, t4, _⟩ := LSd_t hL
      have hr : ∀ k, nmo 0 k → -1000000 ≤ m2 11 k ∧ m2 11 k ≤ 1000000 := fun k hk => by
        rw [hnm k hk]
        exact nm_rg (by omega) hfc hh' (Or.inr trivial) hk (Or.inl (by unfold nmo at hk; omega))
      have hL3 : LSd m2 L S := LC_con hL (fun a b _ _ => e2 a b (by omega)) (fun _ _ _ => rfl)
      obtain ⟨m3, v1, v2⟩ := c_Ju_valueOf (d := d) (A := 16 + 8 * (t : Int) + 4) (L := L) (m := m2) g9 hL3 hLn (by omega) (fun j => e2 _ _ (by omega)) hr g11
      have hF := WE_con (N := fun k => m2 11 k) (N' := nmS S (fcell h) h) (H := HS S) (H' := HS S) (fun k hk => hnm k hk) (fun _ _ => rfl) _ _ _ _ _ _ _ g11
      refine ⟨m3, cl_Ju_frostsOf (b_Ju_frostsOf ⟨fun _ => ⟨_, _, c_Pl_firstCell hh, _, k1, ?_⟩, fun z => absurd (by omega) z⟩), fun a b z1 z2 z3 => ?_⟩
      · intro n3 hn3
        rw [← hm2] at hn3
        rw [hn3, e2 _ 7 (by omega), e2 _ 8 (by omega)]
        have g5' : m (16 + 8 * (t : Int)) 7 = (p : Nat) := g5
        have g6' : m (16 + 8 * (t : Int)) 8 = (p' : Nat) := g6
        rw [g5', g6']
        refine ⟨_, _, v1, ?_⟩
        show _ = _
        rw [hF]
        rfl
      · rw [v2 a b z2 z3, e2 a b z1]
theorem c_Ju_goesOf {d : Nat} {m : Mm} {L c tx : Int} {S : Int → Int} {Lf Lg : Option Ef} (hL : LSd m L S) (hLn : 20 ≤ L) (hL2 : 53 ≤ L) (hX : TXL m tx Lf Lg) (hc : 0 ≤ c ∧ c < S 1) (hh : S (11 + 2 * c) ≠ -1) : ∃ m', Cl (d + 4) k_Ju_goesOf [(12, 10), (16, obj tx), (13, L), (0, c)] m (some (0, gov Lg S c), m') ∧ JG m m' := by
  obtain ⟨p1, p2⟩ := LSd_hm hL hc
  obtain ⟨q1, q2⟩ := p2 hh
  obtain ⟨_, s2, _, s4⟩ := LSd_c hL hc
  obtain ⟨⟨t1, t2, t3⟩, _, _, t4, _⟩ := LSd_t hL
  have hw : wayI (S (12 + 2 * c)) := by rw [s4]; exact s2
  rcases hX with ⟨h1, h2, h3, h4, h5⟩ | ⟨t, h1, h2, h3, h4, h5⟩
  · subst h3
    have ho : obj tx = 48 := by unfold obj; rw [if_pos h1]
    rw [ho]
    exact ⟨m, cl_Ju_goesOf (b_Ju_goesOf ⟨fun z => absurd h5 z, fun _ => rfl⟩), fun _ _ _ _ _ => rfl⟩
  · have ho : obj tx = 16 + 8 * t := by unfold obj; rw [if_neg (by omega), h1]
    rw [ho]
    cases Lg with
    | none => exact ⟨m, cl_Ju_goesOf (b_Ju_goesOf ⟨fun z => absurd h5.1 z, fun _ => rfl⟩), fun _ _ _ _ _ => rfl⟩
    | some F =>
      obtain ⟨g1, i, p, p', q, q', n, g2, g3, g4, g5, g6, g7, g8, g9, g10, g11⟩ := h5
      obtain ⟨m1, k1, k2, k3, k4, k5, k6⟩ := c_Ju_nameCommon (d := d + 1) hL hLn q2
      obtain ⟨m2, hm2⟩ : ∃ m2, m2 = up (up m1 11 5 c) 11 6 (S (12 + 2 * c)) := ⟨_, rfl⟩
      have e2 : ∀ a b, a ≠ 11 → m2 a b = m a b := fun a b hab => by rw [hm2, up_ne hab, up_ne hab, k6 a b hab]
      have hnm : ∀ k, nmo 1 k → m2 11 k = nmS S (S (11 + 2 * c)) c k := by
        intro k hk
        unfold nmo at hk
        unfold nmS
        by_cases q0 : k = 0
        · rw [if_pos q0, q0, hm2, up_nk (by omega), up_nk (by omega), k2]
        · rw [if_neg q0]
          by_cases q1 : k = 1
          · rw [if_pos q1, q1, hm2, up_nk (by omega), up_nk (by omega), k3]
          · rw [if_neg q1]
            by_cases q2 : k = 2
            · rw [if_pos q2, q2, hm2, up_nk (by omega), up_nk (by omega), k4]
            · rw [if_neg q2]
              by_cases q3 : k = 3
              · rw [if_pos q3, q3, hm2, up_nk (by omega), up_nk (by omega), k5]
              · rw [if_neg q3, if_neg (by omega)]
                by_cases q5 : k = 5
                · rw [if_pos q5, q5, hm2, up_nk (by omega), up_eq]
                · rw [if_neg q5, show k = 6 by omega, hm2, up_eq]
      have hr : ∀ k, nmo 1 k → -1000000 ≤ m2 11 k ∧ m2 11 k ≤ 1000000 := fun k hk => by
        rw [hnm k hk]
        exact nm_rg (by omega) q2 (by omega) (Or.inr trivial) hk (Or.inr hw)
      have hL3 : LSd m2 L S := LC_con hL (fun a b _ _ => e2 a b (by omega)) (fun _ _ _ => rfl)
      obtain ⟨m3, v1, v2⟩ := c_Ju_valueOf (d := d) (A := 16 + 8 * (t : Int) + 4) (L := L) (m := m2) g9 hL3 hLn (by omega) (fun j => e2 _ _ (by omega)) hr g11
      have hF := WE_con (N := fun k => m2 11 k) (N' := nmS S (S (11 + 2 * c)) c) (H := HS S) (H' := HS S) (fun k hk => hnm k hk) (fun _ _ => rfl) _ _ _ _ _ _ _ g11
      refine ⟨m3, cl_Ju_goesOf (b_Ju_goesOf ⟨fun _ => ⟨by omega, ?_⟩, fun z => absurd (by omega) z⟩), fun a b z1 z2 z3 => ?_⟩
      · rw [← q1]
        refine ⟨_, k1, ?_⟩
        intro n2 hn2
        refine ⟨by omega, ?_⟩
        intro n3 hn3
        rw [hn2, up_ne (by omega), k6 _ _ (by omega), ← s4, ← hm2] at hn3
        rw [hn3, e2 _ 10 (by omega), e2 _ 11 (by omega)]
        have g5' : m (16 + 8 * (t : Int)) 10 = (p : Nat) := g5
        have g6' : m (16 + 8 * (t : Int)) 11 = (p' : Nat) := g6
        rw [g5', g6']
        refine ⟨_, _, v1, ?_⟩
        rw [hF]
        rfl
      · rw [v2 a b z2 z3, e2 a b z1]
/-! the model's -/
theorem c_Mo_name {d : Nat} {m : Mm} {c : Int} (h8 : hv20 (m 401 8)) (h9 : hv20 (m 401 9)) (hc : cellI c) : ∃ m', Cl (d + 4) k_Mo_name [(18, 400), (0, c)] m (none, m') ∧ m' 407 0 = m 401 6 ∧ m' 407 1 = c ∧ m' 407 2 = arn (HM m 401) c 4 ∧ m' 407 3 = (pc_ 64 (LX m 401) : Nat) ∧ ∀ a b, a ≠ 407 → m' a b = m a b := by
  obtain ⟨m1, hm1⟩ : ∃ m1, m1 = up (up m 407 0 (m 401 6)) 407 1 c := ⟨_, rfl⟩
  have e1 : ∀ a b, a ≠ 407 → m1 a b = m a b := fun a b hab => by rw [hm1, up_ne hab, up_ne hab]
  obtain ⟨m2, hm2⟩ : ∃ m2, m2 = up m1 407 2 (arn (HM m 401) c 4) := ⟨_, rfl⟩
  have e2 : ∀ a b, a ≠ 407 → m2 a b = m a b := fun a b hab => by rw [hm2, up_ne hab, e1 a b hab]
  have r1 : m1 401 = m 401 := by funext b; exact e1 _ _ (by omega)
  have r2 : m2 401 = m 401 := by funext b; exact e2 _ _ (by omega)
  have ha := c_Mo_aroundOf (d := d) (m := m1) (c := c) (by rw [r1]; exact h8) (by rw [r1]; exact h9) hc
  rw [HM_row r1] at ha
  have hn := c_Mo_allNow (d := d + 2) (m := m2) (by rw [r2]; exact h8) (by rw [r2]; exact h9)
  have eL : LX m2 401 = LX m 401 := by unfold LX; rw [r2]
  rw [eL] at hn
  refine ⟨up m2 407 3 (pc_ 64 (LX m 401) : Nat), cl_Mo_name (b_Mo_name ?_), ?_, ?_, ?_, ?_, ?_⟩
  · intro n1 hn1 n2 hn2
    have hn' : n2 = m1 := by rw [hn2, hn1, hm1]
    rw [hn']
    refine ⟨_, _, ha, ?_⟩
    intro n4 hn4
    rw [← hm2] at hn4
    rw [hn4]
    refine ⟨_, _, hn, ?_⟩
    intro n6 hn6
    rw [hn6]
  · rw [up_nk (by omega), hm2, up_nk (by omega), hm1, up_nk (by omega), up_eq]
  · rw [up_nk (by omega), hm2, up_nk (by omega), hm1, up_eq]
  · rw [up_nk (by omega), hm2, up_eq]
  · rw [up_eq]
  · intro a b hab
    rw [up_ne hab, e2 a b hab]
theorem c_Mo_held {d : Nat} {m : Mm} {x lo hi : Int} (hx : -1000000 ≤ x ∧ x ≤ 1000000) (hl : lo ≤ hi) : Cl d k_Mo_held [(1, x), (0, lo), (0, hi)] m (some (0, max lo (min hi x)), m) := by
  refine cl_Mo_held (b_Mo_held ?_)
  rw [lcm_n.2.2.1, lcm_n.2.1]
  refine ⟨fun z => ⟨fun z2 => ?_, fun z2 => ?_⟩, fun z => ?_⟩
  · rw [w32n (by omega) (by omega), show max lo (min hi x) = x by omega]
  · rw [show max lo (min hi x) = hi by omega]
  · rw [show max lo (min hi x) = lo by omega]
def MG (m M : Mm) : Prop := ∀ a b, a ≠ 407 → a ≠ 408 → a ≠ 409 → M a b = m a b
/-- the law of a sort of a text, asked -/
theorem c_Mo_says {d : Nat} {m : Mm} {tx s w df lo hi : Int} {Lf Lg Lv : Option Ef} {N : Int → Int} (h8 : hv20 (m 401 8)) (h9 : hv20 (m 401 9)) (hX : TXL m tx Lf Lg) (hs : (w = 0 ∧ s = 6 ∧ Lv = Lf) ∨ (w = 1 ∧ s = 9 ∧ Lv = Lg)) (hl : lo ≤ hi) (hN : ∀ k, nmo w k → m 407 k = N k) (hr : ∀ k, nmo w k → -1000000 ≤ N k ∧ N k ≤ 1000000) : ∃ m', Cl (d + 4) k_Mo_says [(18, 400), (0, tx), (0, w), (0, df), (0, lo), (0, hi)] m (some (0, match Lv with | none => df | some F => max lo (min hi (F N (HM m 401)))), m') ∧ MG m m' := by
  rcases hX with ⟨h1, h2, h3, h4, h5⟩ | ⟨t, h1, h2, h3, h4, h5⟩
  · have hv : Lv = none := by
      rcases hs with q | q
      · rw [q.2.2, h2]
      · rw [q.2.2, h3]
    subst hv
    exact ⟨m, cl_Mo_says (b_Mo_says (b_Mo_says_2 ⟨fun _ => rfl, fun z => absurd (by omega) z⟩)), fun _ _ _ _ _ => rfl⟩
  · have hV : LAWV m (16 + 8 * t) t s w Lv := by
      rcases hs with ⟨q1, q2, q3⟩ | ⟨q1, q2, q3⟩
      · rw [q1, q2, q3]; exact h4
      · rw [q1, q2, q3]; exact h5
    have hw : w = 0 ∨ w = 1 := by
      rcases hs with q | q
      · exact Or.inl q.1
      · exact Or.inr q.1
    have i1 : w32 (681 * (t : Int)) = 681 * t := w32n (by omega) (by omega)
    have i2 : ∀ k : Nat, k < 25 → w32 (w32 (681 * (t : Int) + 1) + w32 (3 * (k : Int))) = 681 * t + 1 + 3 * k := fun k hk => by
      rw [w32n (x := 681 * (t : Int) + 1) (by omega) (by omega), w32n (x := 3 * (k : Int)) (by omega) (by omega), w32n (by omega) (by omega)]
    obtain ⟨n, hn⟩ := Int.eq_ofNat_of_zero_le h3.1
    have hn403 : m 403 (681 * (t : Int)) = (n : Nat) := by rw [h3.2.2, hn]
    cases Lv with
    | none =>
      obtain ⟨v1, v2⟩ := hV
      have lp : ∀ (s' k : Nat), k + s' = n → Ev (d + 4) K_Mo_says 0 2 [(18, 400), (0, tx), (0, w), (0, df), (0, lo), (0, hi), (0, (k : Nat))] [] m (some (0, df), m) := by
        intro s'
        induction s' with
        | zero =>
          intro k hk
          refine b_Mo_says_2 ⟨fun z => by omega, fun _ => ?_⟩
          rw [h1, i1, hn403]
          exact ⟨by omega, fun _ => rfl, fun z => absurd (by omega) z⟩
        | succ s' ih =>
          intro k hk
          refine b_Mo_says_2 ⟨fun z => by omega, fun _ => ?_⟩
          rw [h1, i1, hn403, i2 k (by omega)]
          refine ⟨by omega, fun z => by omega, fun _ => ⟨by omega, fun _ => ?_, fun z => ?_⟩⟩
          · rw [w32s (by omega)]
            have := ih (k + 1) (by omega)
            rw [h1] at this
            exact this
          · rw [Classical.not_not] at z
            exact absurd z (v2 k (by rw [hn]; omega))
      exact ⟨m, cl_Mo_says (b_Mo_says (lp n 0 (by omega))), fun _ _ _ _ _ => rfl⟩
    | some F =>
      obtain ⟨g1, i, p, p', q, q', n', g2, g3, g4, g5, g6, g7, g8, g9, g10, g11⟩ := hV
      rw [hn] at g2
      have hr' : ∀ k, nmo w k → -1000000 ≤ m 407 k ∧ m 407 k ≤ 1000000 := fun k hk => by rw [hN k hk]; exact hr k hk
      obtain ⟨m1, s1, s2⟩ := c_Mo_summedUp (d := d) (T := t) (I := i) (m := m) h2 (by omega) h8 h9 g7 g8 g10 (fun j => rfl) (fun j => rfl) hr' g11
      have hF := WE_con (N := fun k => m 407 k) (N' := N) (H := HM m 401) (H' := HM m 401) (fun k hk => hN k hk) (fun _ _ => rfl) _ _ _ _ _ _ _ g11
      have hFr := WE_rg (N := N) (H := HM m 401) hr _ _ _ _ _ _ _ g11
      rw [rg_f] at hFr
      rw [hF] at s1
      have lp : ∀ (s' k : Nat), k + s' = i → Ev (d + 4) K_Mo_says 0 2 [(18, 400), (0, tx), (0, w), (0, df), (0, lo), (0, hi), (0, (k : Nat))] [] m (some (0, max lo (min hi (F N (HM m 401)))), m1) := by
        intro s'
        induction s' with
        | zero =>
          intro k hk
          obtain rfl : k = i := by omega
          refine b_Mo_says_2 ⟨fun z => by omega, fun _ => ?_⟩
          rw [h1, i1, hn403, i2 k (by omega)]
          refine ⟨by omega, fun z => by omega, fun _ => ⟨by omega, fun z => absurd g3 z, fun _ => ⟨_, _, s1, _, _, c_Mo_held hFr hl, rfl⟩⟩⟩
        | succ s' ih =>
          intro k hk
          refine b_Mo_says_2 ⟨fun z => by omega, fun _ => ?_⟩
          rw [h1, i1, hn403, i2 k (by omega)]
          refine ⟨by omega, fun z => by omega, fun _ => ⟨by omega, fun _ => ?_, fun z => ?_⟩⟩
          · rw [w32s (by omega)]
            have := ih (k + 1) (by omega)
            rw [h1] at this
            exact this
          · rw [Classical.not_not] at z
            exact absurd z (g4 k (by omega))
      exact ⟨m1, cl_Mo_says (b_Mo_says (lp i 0 (by omega))), fun a b z1 z2 z3 => s2 a b z2 z3⟩
theorem c_Mo_frostsOf {d : Nat} {m : Mm} {h tx : Int} {Lf Lg : Option Ef} (h8 : hv20 (m 401 8)) (h9 : hv20 (m 401 9)) (h6 : 0 ≤ m 401 6 ∧ m 401 6 ≤ 9999) (hX : TXL m tx Lf Lg) (hh : hedI h) : ∃ m', Cl (d + 5) k_Mo_frostsOf [(18, 400), (0, tx), (0, h)] m (some (0, frv Lf (m 401) h), m') ∧ MG m m' := by
  obtain ⟨f1, f2, f3⟩ := fcell_in hh
  have hfc : cellI (fcell h) := ⟨by omega, by omega⟩
  have hh' := hh
  unfold hedI at hh'
  obtain ⟨m1, k1, k2, k3, k4, k5, k6⟩ := c_Mo_name (d := d) h8 h9 hfc
  obtain ⟨m2, hm2⟩ : ∃ m2, m2 = up m1 407 4 h := ⟨_, rfl⟩
  have e2 : ∀ a b, a ≠ 407 → m2 a b = m a b := fun a b hab => by rw [hm2, up_ne hab, k6 a b hab]
  have r2 : m2 401 = m 401 := by funext b; exact e2 _ _ (by omega)
  have hnm : ∀ k, nmo 0 k → m2 407 k = nmS (m 401) (fcell h) h k := by
    intro k hk
    unfold nmo at hk
    unfold nmS
    by_cases q0 : k = 0
    · rw [if_pos q0, q0, hm2, up_nk (by omega), k2]
    · rw [if_neg q0]
      by_cases q1 : k = 1
      · rw [if_pos q1, q1, hm2, up_nk (by omega), k3]
      · rw [if_neg q1]
        by_cases q2 : k = 2
        · rw [if_pos q2, q2, hm2, up_nk (by omega), k4]
          rfl
        · rw [if_neg q2]
          by_cases q3 : k = 3
          · rw [if_pos q3, q3, hm2, up_nk (by omega), k5]
            rfl
          · rw [if_neg q3]
            by_cases q4 : k = 4
            · rw [if_pos q4, q4, hm2, up_eq]
            · omega
  have hX2 : TXL m2 tx Lf Lg := TXL_con hX (fun a b hab => e2 a b (by omega))
  obtain ⟨m3, s1, s2⟩ := c_Mo_says (d := d) (m := m2) (tx := tx) (s := 6) (w := 0) (df := 3) (lo := 0) (hi := 10) (Lv := Lf) (N := nmS (m 401) (fcell h) h) (by rw [r2]; exact h8) (by rw [r2]; exact h9) hX2 (Or.inl ⟨rfl, rfl, rfl⟩) (by omega) hnm (fun k hk => nm_rg h6 hfc hh' (Or.inr trivial) hk (Or.inl (by unfold nmo at hk; omega)))
  refine ⟨m3, cl_Mo_frostsOf (b_Mo_frostsOf ⟨_, _, c_Mo_westOf hh, _, k1, ?_⟩), fun a b z1 z2 z3 => by rw [s2 a b z1 z2 z3, e2 a b z1]⟩
  intro n3 hn3
  rw [← hm2] at hn3
  rw [hn3]
  refine ⟨_, _, s1, ?_⟩
  rw [HM_row r2]
  cases Lf with
  | none => rfl
  | some F => rfl
theorem c_Mo_goesOf {d : Nat} {m : Mm} {c : Int} {Lf Lg : Option Ef} (h8 : hv20 (m 401 8)) (h9 : hv20 (m 401 9)) (h6 : 0 ≤ m 401 6 ∧ m 401 6 ≤ 9999) (hX : TXL m (m 401 3) Lf Lg) (hc : 0 ≤ c ∧ c < 5) (hcell : cellI (m 401 (11 + 2 * c))) (hw : wayI (m 401 (12 + 2 * c))) : ∃ m', Cl (d + 5) k_Mo_goesOf [(18, 400), (0, c)] m (some (0, gov Lg (m 401) c), m') ∧ MG m m' := by
  obtain ⟨m1, k1, k2, k3, k4, k5, k6⟩ := c_Mo_name (d := d) h8 h9 hcell
  obtain ⟨m2, hm2⟩ : ∃ m2, m2 = up (up m1 407 5 c) 407 6 (m 401 (12 + 2 * c)) := ⟨_, rfl⟩
  have e2 : ∀ a b, a ≠ 407 → m2 a b = m a b := fun a b hab => by rw [hm2, up_ne hab, up_ne hab, k6 a b hab]
  have r2 : m2 401 = m 401 := by funext b; exact e2 _ _ (by omega)
  have hnm : ∀ k, nmo 1 k → m2 407 k = nmS (m 401) (m 401 (11 + 2 * c)) c k := by
    intro k hk
    unfold nmo at hk
    unfold nmS
    by_cases q0 : k = 0
    · rw [if_pos q0, q0, hm2, up_nk (by omega), up_nk (by omega), k2]
    · rw [if_neg q0]
      by_cases q1 : k = 1
      · rw [if_pos q1, q1, hm2, up_nk (by omega), up_nk (by omega), k3]
      · rw [if_neg q1]
        by_cases q2 : k = 2
        · rw [if_pos q2, q2, hm2, up_nk (by omega), up_nk (by omega), k4]
          rfl
        · rw [if_neg q2]
          by_cases q3 : k = 3
          · rw [if_pos q3, q3, hm2, up_nk (by omega), up_nk (by omega), k5]
            rfl
          · rw [if_neg q3, if_neg (by omega)]
            by_cases q5 : k = 5
            · rw [if_pos q5, q5, hm2, up_nk (by omega), up_eq]
            · rw [if_neg q5, show k = 6 by omega, hm2, up_eq]
  have hX2 : TXL m2 (m2 401 3) Lf Lg := by
    rw [r2]
    exact TXL_con hX (fun a b hab => e2 a b (by omega))
  obtain ⟨m3, s1, s2⟩ := c_Mo_says (d := d) (m := m2) (tx := m2 401 3) (s := 9) (w := 1) (df := 1) (lo := -99) (hi := 99) (Lv := Lg) (N := nmS (m 401) (m 401 (11 + 2 * c)) c) (by rw [r2]; exact h8) (by rw [r2]; exact h9) hX2 (Or.inr ⟨rfl, rfl, rfl⟩) (by omega) hnm (fun k hk => nm_rg h6 hcell (by omega) (Or.inr trivial) hk (Or.inr hw))
  refine ⟨m3, cl_Mo_goesOf (b_Mo_goesOf ⟨_, _, c_Mo_cellOf (by omega), _, k1, ?_⟩), fun a b z1 z2 z3 => by rw [s2 a b z1 z2 z3, e2 a b z1]⟩
  intro n3 hn3
  have hwo := c_Mo_wayOf (d := d + 4) (m := n3) (x := c) (by omega)
  rw [hn3, up_ne (by omega), k6 _ _ (by omega)] at hwo
  rw [hn3]
  refine ⟨_, _, hwo, ?_⟩
  intro n5 hn5
  rw [← hm2] at hn5
  rw [hn5]
  refine ⟨_, _, s1, ?_⟩
  rw [HM_row r2]
  cases Lg with
  | none => rfl
  | some F => rfl
