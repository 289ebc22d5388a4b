/-! THE TWO PARSERS: ask -/
def cmpS (T : Int) : Prop := (3 ≤ T ∧ T ≤ 6) ∨ T = 14 ∨ T = 15
theorem cmpT_v {T : Int} : (cmpS T → (T, cmpT T) ∈ ops false true ∧ rk (cmpT T) = 4 ∧ lst_ (cmpT T) = 5 ∧ shu (cmpT T) = 0 ∧ 0 ≤ cmpT T ∧ cmpT T < 40) ∧ (¬ cmpS T → cmpT T = -1) := by
  constructor
  · intro h
    have : T = 3 ∨ T = 4 ∨ T = 5 ∨ T = 6 ∨ T = 14 ∨ T = 15 := by unfold cmpS at h; omega
    rcases this with rfl | rfl | rfl | rfl | rfl | rfl <;> decide
  · intro h
    unfold cmpS at h
    unfold cmpT
    rw [if_neg (by omega), if_neg (by omega), if_neg (by omega), if_neg (by omega), if_neg (by omega), if_neg (by omega)]
theorem btw_o {T : Int} {π : List Int} (h7 : T ≠ 7) (h8 : T ≠ 8) (h9 : T ≠ 9) (h10 : T ≠ 10) : btw_ T π = (if opW π = 42 then (if cmpd π = true then (if T = 41 then 21 else if T = 40 then 22 else -1) else cmpT T) else -1) := by
  unfold btw_
  rw [if_neg h7, if_neg h8, if_neg h9, if_neg h10]
/-- the model's fault where nothing can go on -/
theorem mo_stuck {B : Int → Int} {L : Nat} {t so o : Int} {N : Mm} {q w : Nat} {π : List Int} (hT : TPE B L) (h : MSt B L t so N q w π o 1) (h0 : 0 ≤ t ∧ t ≤ 2043) (hl : π.length < 160) (hw : w + π.length ≤ 304) (ho : 0 ≤ o ∧ o ≤ 100) (hv : btw_ (tkT B L q) π < 0) (hp : prt_ (tkT B L q) (opW π) (cmpd π) < 0) (hW : ¬ opW π < 0) : ∀ u : Vv, lp_ N u (some (0, 1), N) := by
  have hE : ∀ (l : Int) (x : List Int), (stE l x).length ≤ x.length := by
    intro l x
    induction x with
    | nil => exact Nat.le_refl _
    | cons y r ih =>
      unfold stE
      split
      · exact Nat.zero_le _
      · rw [List.length_cons, List.length_cons]; omega
  have := hE 1 π
  exact (bo_end (d := 0) hT h h0 hl (by omega) ho hv hp).2 hW
theorem ask_not {B : Int → Int} {L : Nat} {t so : Int} {n : Nat} (hT : TPE B L) (hs : so = 0 ∨ so = 1) (hK : sK_ B L t so n) {q s w o : Nat} {π : List Int} {m N : Mm} (hn : L - q < n + 1) (hp : pre_ B L t so q s w o π m N 3) (hA : askA π = true) (h42 : tkT B L q = 42) : sv_ B L t so k_Rd_ask (dpA o + 3) true 3 (11 - o) (fun T => T ≠ 7 ∧ T ≠ 8 ∧ T ≠ 9 ∧ T ≠ 10) q s w o π m N := by
  obtain ⟨p1, p2, p3, p4, p5, p6, p7⟩ := hp
  have e6 : m 80 6 = tkT B L q := p1.1.2.2.2.1
  have hL := hT.1
  obtain ⟨x, r, x1, x2, x3⟩ := askA_t hA
  have hop : opk (tkT B L q) (askA π) = 20 := by rw [h42, hA]; rfl
  have ask : ∀ (v : Int) (m' : Mm), (v = 0 ∨ v = 1) → Cl (dpA o + 2) k_Rd_nested [(15, 80)] m (some (0, v), m') → Cl (dpA o + 3) k_Rd_ask [(15, 80)] m (some (0, v), m') := fun v m' hv h => cl_Rd_ask (b_Rd_ask ⟨fun z => absurd (by rw [e6]; exact h42) z, fun _ => ⟨v, m', h, hv, rfl⟩⟩)
  by_cases h8 : o = 8
  · subst h8
    obtain ⟨m', c1, c2, c3⟩ := nested_8 (d := dpA 8 + 1) p1
    exact Or.inr ⟨3, q, by decide, ⟨m', ask 0 m' (Or.inl rfl) c1, c2, c3⟩, N, FMo_refl, mo_place p2, fun u => mo_open8 (d := 0) hT p2 hs (by omega) (by omega) (by omega) (by rw [hop]; decide) u⟩
  · have ho : o < 8 := by omega
    obtain ⟨nx1, nx2, nx3⟩ := nxQ_v (B := B) p4
    have nx4 := nx3 (by omega)
    obtain ⟨d, hd⟩ : ∃ d, dpA o = d + 1 ∧ dpA (o + 1) + 2 ≤ d := ⟨dpA o - 1, by unfold dpA; omega, by unfold dpA; omega⟩
    obtain ⟨m2, c1, c2, c3⟩ := nested_c (d := d) hT p1 ho
    obtain ⟨N2, n1, n2, n3⟩ := mo_open (d := 0) hT p2 hs (by omega) (by omega) (by omega) (by omega) (by rw [hop]; decide)
    rw [hop] at n1
    have hpre : pre_ B L t so (nxQ B L q) s w (o + 1) (20 :: π) m2 N2 3 := ⟨c1, n1, by omega, nx1, by rw [List.length_cons]; omega, by omega, by rw [List.length_cons]; omega⟩
    rw [h42] at c3
    rcases hK _ s w (o + 1) (20 :: π) m2 N2 (by omega) hpre (askA_c x2 (by decide) (by decide)) with ⟨q3, s3, w3, pd, m3, N3, g1, g2, g3, g4⟩ | ⟨f, p, f0, ⟨m3, y1, y2, y3⟩, g2⟩
    · obtain ⟨a1, a2, a3, a4, ⟨a5, a6, a7, a8, a9, a10⟩, a11, a12, a13, a14⟩ := g2
      obtain ⟨m4, k1, k2, k3, k4⟩ := emit_c (d := d + 1) (x := 42) (y := 0) a1 (by omega) (by decide) (by decide)
      have hin : Cl (d + 2) k_Rd_inside [(15, 80), (0, 42)] m2 (some (0, 1), m4) := cl_Rd_inside (b_Rd_inside ⟨fun z => by omega, fun _ => ⟨fun z => by omega, fun _ => ⟨fun z => by omega, fun _ => ⟨fun z => by omega, fun _ => ⟨fun _ => ⟨1, m3, g1.up (by omega), fun z => by omega, fun _ => ⟨1, m4, k1, fun z => by omega, fun _ => rfl⟩⟩, fun z => absurd rfl z⟩⟩⟩⟩⟩)
      have hcl := ask 1 _ (Or.inr rfl) (by rw [hd.1]; exact c3 1 m4 (Or.inr rfl) hin)
      have el : (pd ++ [20]).length = pd.length + 1 := by rw [List.length_append]; rfl
      refine Or.inl ⟨q3, s3 + 1, w3, pd ++ [20], _, N3, hcl, ⟨nest_ok k2 ho, nest_F ((c2.tr a2 (Nat.le_refl _)).tr k4 a9), ?_, n2.tr a4 (Nat.le_refl _), ⟨by omega, a6, by omega, by rw [el]; omega, by omega, by omega⟩, ?_, ?_, ?_, fun r u hr => n3 r u (a14 r _ hr)⟩, by rw [el]; omega, g4⟩
      · rw [List.append_assoc, List.singleton_append, shN_app, show (o : Int) + (shN pd + shN [20]) = ((o + 1 : Nat) : Int) + shN pd by rw [show shN [20] = 1 from rfl]; omega]
        exact a3
      · intro Mo Mv z1 z2
        have p := a11 Mo Mv z1 (fun i x hi => by
          have hlt : i < pd.length := (List.getElem?_eq_some_iff.mp hi).1
          exact z2 i x (by rw [List.getElem?_append_left hlt]; exact hi))
        have p' : WX (cC (up m4 80 11 (w32 (m4 80 11 - 1)))) Mo Mv so true s s3 w (w3 + pd.length) := WX_ext p (fun j _ j2 => by
          show up m4 80 11 _ 86 _ = m3 86 _
          rw [up_ne (by omega), k4 _ _ (by omega) (by omega) (by omega)]) (fun _ _ _ => ⟨rfl, rfl⟩)
        have := WX_not p' (by show up m4 80 11 _ 86 _ = 42; rw [up_ne (by omega), k3]; rfl) (z2 pd.length 20 (by simp))
        rw [el, ← Nat.add_assoc]
        exact this
      · intro x hx
        rcases List.mem_append.mp hx with y | y
        · exact a12 x y
        · rw [List.mem_singleton] at y
          rw [y]; decide
      · intro _ l
        rw [List.append_assoc]
        exact a13 rfl _
    · have hin : cf_ (d + 2) k_Rd_inside [(15, 80), (0, tkT B L q)] m2 s f p := by
        rw [h42]
        exact ⟨m3, cl_Rd_inside (b_Rd_inside ⟨fun z => by omega, fun _ => ⟨fun z => by omega, fun _ => ⟨fun z => by omega, fun _ => ⟨fun z => by omega, fun _ => ⟨fun _ => ⟨0, m3, y1.up (by omega), fun _ => rfl, fun z => absurd rfl z⟩, fun z => absurd rfl z⟩⟩⟩⟩⟩), y2, y3⟩
      rw [← h42] at c3
      obtain ⟨m', z1, z2, z3⟩ := nested_f c2 c3 (Nat.le_refl _) hin
      exact Or.inr ⟨f, p, f0, ⟨m', ask 0 m' (Or.inl rfl) (by rw [hd.1]; exact z1), z2, z3⟩, mf_pre n2 (Nat.le_refl _) n3 g2⟩
theorem ask_cmp {B : Int → Int} {L : Nat} {t so : Int} {n : Nat} (hT : TPE B L) (h0 : 0 ≤ t ∧ t ≤ 2043) (hS : sS_ B L t so n) {q s w o : Nat} {π : List Int} {m N : Mm} (hn : L - q < n) (hp : pre_ B L t so q s w o π m N 3) (hA : askA π = true) (h42 : tkT B L q ≠ 42) : sv_ B L t so k_Rd_ask (dpA o + 3) true 3 (11 - o) (fun T => T ≠ 7 ∧ T ≠ 8 ∧ T ≠ 9 ∧ T ≠ 10) q s w o π m N := by
  have hp0 := hp
  obtain ⟨p1, p2, p3, p4, p5, p6, p7⟩ := hp
  have e6 : m 80 6 = tkT B L q := p1.1.2.2.2.1
  have hL := hT.1
  obtain ⟨x, r, x1, x2, x3⟩ := askA_t hA
  have hπ : ∀ y r', π = y :: r' → rk y < 5 ∧ y ≠ 41 := by
    intro y r' e
    rw [x1] at e
    obtain ⟨rfl, _⟩ := List.cons.inj e
    rcases x3 with rfl | z
    · decide
    · exact ⟨by omega, by omega⟩
  rcases hS q s w o π m N hn (pre_le hp0 (by omega)) hπ (fun z => absurd z h42) with ⟨q1, s1, w1, pd, m1, N1, g1, g2, g3, g4⟩ | ⟨f, p, f0, ⟨m3, y1, y2, y3⟩, g2⟩
  · have g2' := g2
    obtain ⟨a1, a2, a3, a4, ⟨a5, a6, a7, a8, a9, a10⟩, a11, a12, a13, a14⟩ := g2
    have e61 : m1 80 6 = tkT B L q1 := a1.1.2.2.2.1
    have hoW : opW (pd ++ π) = 42 := by rw [opW_app pd (fun x hx => by have := a12 x hx; omega)]; exact x2
    have hcm : cmpd (pd ++ π) = false := by rw [cmpd_app pd a12]; exact askA_cm hA
    have hb : btw_ (tkT B L q1) (pd ++ π) = cmpT (tkT B L q1) := by
      rw [btw_o g4.1 g4.2.1 g4.2.2.1 g4.2.2.2, if_pos hoW, hcm, if_neg (by decide)]
    have first : ∀ r, (¬ (3 ≤ tkT B L q1 ∧ tkT B L q1 ≤ 6) → ∀ u2 : Vv, Ev (dpA o + 3) K_Rd_ask 2 21 [(15, 80), (0, m1 80 6), u2] [] m1 r) → (3 ≤ tkT B L q1 ∧ tkT B L q1 ≤ 6 → ∀ u2 : Vv, Ev (dpA o + 3) K_Rd_ask 2 27 [(15, 80), (0, m1 80 6), u2] [] m1 r) → Cl (dpA o + 3) k_Rd_ask [(15, 80)] m r := fun r h21 h27 =>
      cl_Rd_ask (b_Rd_ask ⟨fun _ => ⟨1, m1, g1, fun _ => ⟨fun z => h21 (by omega) _, fun z => ⟨fun z2 => h27 (by omega) _, fun z2 => h21 (by omega) _⟩⟩, fun z => absurd (by decide) z⟩, fun z => absurd (by rw [← e6]; exact Classical.not_not.mp z) h42⟩)
    obtain ⟨b1, b2⟩ := shN_b pd
    by_cases hc : cmpS (tkT B L q1)
    · obtain ⟨v1, v2, v3, v4, v5, v6⟩ := (cmpT_v (T := tkT B L q1)).1 hc
      obtain ⟨nx1, nx2, nx3⟩ := nxQ_v (B := B) a6
      have nx4 := nx3 (by unfold cmpS at hc; omega)
      obtain ⟨m2, c1, c2, c3⟩ := adv_c (d := 0) hT a1.1
      have hC2 : CSt B L (16 + so) m2 (nxQ B L q1) s1 (o : Nat) := ⟨c2, by rw [c3 _ _ (by omega)]; exact a1.2.1, by rw [c3 _ _ (by omega)]; exact a1.2.2.1, by rw [c3 _ _ (by omega)]; exact a1.2.2.2⟩
      obtain ⟨N2, d1, d2, d3, d4⟩ := st_op hT h0 g2' p5 p6 (by omega) (by omega) hb v5 (by omega) (fun x r e => by have := (hπ x r e).1; omega)
      generalize hv : cmpT (tkT B L q1) = v at *
      have hpre : pre_ B L t so (nxQ B L q1) s1 (w1 + pd.length) o (v :: π) m2 N2 2 := ⟨hC2, d1, by omega, nx1, by rw [List.length_cons]; omega, p6, by rw [List.length_cons]; omega⟩
      have h1415 : ¬ (3 ≤ tkT B L q1 ∧ tkT B L q1 ≤ 6) → tkT B L q1 = 14 ∨ tkT B L q1 = 15 := by unfold cmpS at hc; omega
      have go27 : ∀ r, (∃ (v2 : Int) (m5 : Mm), Cl (dpA o + 2) k_Rd_sum [(15, 80)] m2 (some (0, v2), m5) ∧ ((v2 = 0 → r = (some (0, 0), m5)) ∧ (¬ (v2 = 0) → ∃ (v3 : Int) (m3 : Mm), Cl (dpA o + 2) k_Tx_emit [(16, 82), (0, tkT B L q1), (0, 0)] m5 (some (0, v3), m3) ∧ ((v3 = 0 → r = (some (0, 0), m3)) ∧ (¬ (v3 = 0) → r = (some (0, 1), m3)))))) → Cl (dpA o + 3) k_Rd_ask [(15, 80)] m r := fun r hr => by
        have h27 : ∀ u2 : Vv, Ev (dpA o + 3) K_Rd_ask 2 27 [(15, 80), (0, m1 80 6), u2] [] m1 r := fun u2 => b_Rd_ask_27 ⟨m2, c1.up (by unfold dpA; omega), by rw [e61]; exact hr⟩
        exact first r (fun z0 u2 => b_Rd_ask_21 ⟨fun _ => h27 u2, fun z => ⟨fun z2 => ((h1415 z0).elim (fun y => absurd (by rw [e61]; exact y) z) (fun y => absurd (by rw [e61]; exact y) z2)), fun _ => h27 u2⟩⟩) (fun _ u2 => h27 u2)
      rcases hS (nxQ B L q1) s1 (w1 + pd.length) o (v :: π) m2 N2 (by omega) hpre (fun y r' e => by obtain ⟨rfl, _⟩ := List.cons.inj e; exact ⟨by omega, by omega⟩) (fun _ => askA_f (by omega) (by omega)) with ⟨q3, s3, w3, pd2, m3, N3, k1, k2, k3, k4⟩ | ⟨f, p, f0, ⟨m3, y1, y2, y3⟩, k2⟩
      · have k2' := k2
        obtain ⟨i1, _, _, _, ⟨i5, i6, i7, i8, i9, i10⟩, _⟩ := k2
        obtain ⟨m4, j1, j2, j3, j4⟩ := emit_c (d := dpA o + 2) (x := tkT B L q1) (y := 0) i1 (by omega) (by unfold cmpS at hc; omega) (by decide)
        have hj := st_join (b := true) (ρ := 3) g2' d2 d3 d4 (FCl_adv c3) k2' nx4 v1 (by decide) (by omega) v4 (fun _ _ => ⟨by decide, v2⟩) (fun z => absurd z (by decide)) j2 (by rw [j3]; omega) j4
        exact Or.inl ⟨q3, s3 + 1, w3, pd2 ++ [v], m4, N3, go27 _ ⟨1, m3, k1, fun z => absurd z (by decide), fun _ => ⟨1, m4, j1, fun z => absurd z (by decide), fun _ => rfl⟩⟩, hj, by rw [List.length_append, List.length_singleton]; omega, k4⟩
      · exact Or.inr ⟨f, p, f0, ⟨m3, go27 _ ⟨0, m3, y1, fun _ => rfl, fun z => absurd rfl z⟩, y2, (a2.tr (FCl_adv c3) a9).tr y3 a9⟩, mf_pre (a4.tr d3 a10) (by omega) (a14.tr d4) k2⟩
    · have h21 : ∃ m', Cl (dpA o + 3) k_Rd_ask [(15, 80)] m (some (0, 0), m') ∧ flt_ m' 1 q1 ∧ FCf s1 m1 m' := by
        obtain ⟨m', k1, k2, k3⟩ := refuse_c (d := dpA o + 2) (f := 1) a1
        exact ⟨m', first _ (fun _ u2 => b_Rd_ask_21 ⟨fun z => absurd (by unfold cmpS; omega) hc, fun _ => ⟨fun _ => ⟨0, m', k1, Or.inl rfl, rfl⟩, fun z => absurd (by unfold cmpS; omega) hc⟩⟩) (fun z => absurd (Or.inl z) hc), k2, k3⟩
      obtain ⟨m', k1, k2, k3⟩ := h21
      refine Or.inr ⟨1, q1, by decide, ⟨m', k1, k2, a2.tr k3 a9⟩, N1, a4, mo_place a3, fun u => a14 _ u (mo_stuck hT a3 h0 (by rw [List.length_append]; omega) (by rw [List.length_append]; omega) (by omega) (by rw [hb, cmpT_v.2 hc]; decide) ?_ (by rw [hoW]; decide) _)⟩
      rw [hoW, hcm]
      unfold prt_
      rw [if_neg (by decide), if_pos rfl, if_neg (fun y => absurd y.2 (by decide))]
      decide
  · exact Or.inr ⟨f, p, f0, ⟨m3, cl_Rd_ask (b_Rd_ask ⟨fun _ => ⟨0, m3, y1, fun z => absurd rfl z, fun _ => rfl⟩, fun z => absurd (by rw [← e6]; exact Classical.not_not.mp z) h42⟩), y2, y3⟩, g2⟩
theorem sK_of {B : Int → Int} {L : Nat} {t so : Int} {n : Nat} (hT : TPE B L) (h0 : 0 ≤ t ∧ t ≤ 2043) (hs : so = 0 ∨ so = 1) (hS : sS_ B L t so (n + 1)) (hK : sK_ B L t so n) : sK_ B L t so (n + 1) := by
  intro q s w o π m N hn hp hA
  by_cases h42 : tkT B L q = 42
  · exact ask_not hT hs hK hn hp hA h42
  · exact ask_cmp hT h0 hS hn hp hA h42
