/-! THE TWO PARSERS: far, what is in parentheses -/
theorem cst_take {d L q s o : Nat} {B : Int → Int} {lw x : Int} {m : Mm} (hT : TPE B L) (h : CSt B L lw m q s (o : Nat)) (hx : tkT B L q = x) (hd : 3 ≤ d) : ∃ m', Cl d k_Rd_take [(15, 80), (0, x)] m (some (0, 1), m') ∧ CSt B L lw m' (nxQ B L q) s (o : Nat) ∧ FCl s m m' := by
  obtain ⟨m', c1, c2, c3⟩ := (take_c (d := 0) (x := x) hT h).1 hx
  exact ⟨m', c1.up hd, c2, FCl_adv c3⟩
theorem cst_notake {d L q s o : Nat} {B : Int → Int} {lw x : Int} {m : Mm} (hT : TPE B L) (h : CSt B L lw m q s (o : Nat)) (hx : tkT B L q ≠ x) (hd : 3 ≤ d) : ∃ m', Cl d k_Rd_take [(15, 80), (0, x)] m (some (0, 0), m') ∧ flt_ m' 1 q ∧ FCf s m m' := by
  obtain ⟨m', c1, c2, c3⟩ := (take_c (d := 0) (x := x) hT h).2 hx
  exact ⟨m', c1.up hd, c2, c3⟩
theorem in_far {B : Int → Int} {L : Nat} {t so : Int} {n : Nat} (hT : TPE B L) (h0 : 0 ≤ t ∧ t ≤ 2043) (hO : sO_ B L t so n) {q s w o : Nat} {π : List Int} {m N : Mm} (hn : L - q < n) (ho : o < 8) (hp : pre_ B L t so q s w (o + 1) (41 :: π) m N 5) : rI_ B L t so 33 q s w o π m N := by
  have hL := hT.1
  have hp' := hp.2.2
  rw [List.length_cons] at hp'
  have ins : ∀ r, (∃ (v5 : Int) (m5 : Mm), Cl (dpA (o + 1) + 6) k_Rd_one [(15, 80)] m (some (0, v5), m5) ∧ ((v5 = 0 → r = (some (0, 0), m5)) ∧ (¬ (v5 = 0) → ∃ (v6 : Int) (m6 : Mm), Cl (dpA (o + 1) + 6) k_Rd_take [(15, 80), (0, 34)] m5 (some (0, v6), m6) ∧ ((v6 = 0 → r = (some (0, 0), m6)) ∧ (¬ (v6 = 0) → ∃ (v7 : Int) (m7 : Mm), Cl (dpA (o + 1) + 6) k_Rd_one [(15, 80)] m6 (some (0, v7), m7) ∧ ((v7 = 0 → r = (some (0, 0), m7)) ∧ (¬ (v7 = 0) → ∃ (v8 : Int) (m8 : Mm), Cl (dpA (o + 1) + 6) k_Tx_emit [(16, 82), (0, 33), (0, 0)] m7 (some (0, v8), m8) ∧ ((v8 = 0 → r = (some (0, 0), m8)) ∧ (¬ (v8 = 0) → r = (some (0, 1), m8)))))))))) → Cl (dpA (o + 1) + 7) k_Rd_inside [(15, 80), (0, 33)] m r := fun r h => cl_Rd_inside (b_Rd_inside ⟨fun z => by omega, fun _ => ⟨fun z => by omega, fun _ => ⟨fun _ => h, fun z => absurd rfl z⟩⟩⟩)
  rcases hO q s w (o + 1) (41 :: π) m N hn (pre_le hp (by omega)) (fun _ => askA_f (by decide) (by decide)) with ⟨q1, s1, w1, wh, m1, N1, g1, a1, a2, a3, a4, ⟨a5, a6, a7, a8, a9, a10⟩, a11, a12⟩ | ⟨f, p, f0, ⟨m1, y1, y2, y3⟩, g2⟩
  · obtain ⟨r1, r2⟩ := RE2_far (d := 3) hT a3 (by omega)
    by_cases h34 : tkT B L q1 = 34
    · obtain ⟨nx1, nx2, nx3⟩ := nxQ_v (B := B) a6
      have nx4 := nx3 (by omega)
      obtain ⟨N2, n1, n2, n3⟩ := r1 h34
      obtain ⟨m2, c1, c2, c3⟩ := cst_take (d := dpA (o + 1) + 6) (x := 34) hT a1 h34 (by omega)
      have hg : ∀ (r : Option Vv × Mm) (u : Vv), lp_ N2 (0, 0) r → lp_ N u r := fun r u hr => a12 r u (n3 r hr)
      have hpre : pre_ B L t so (nxQ B L q1) s1 w1 (o + 1) (4 :: π) m2 N2 0 := ⟨c2, n1, by omega, nx1, by rw [List.length_cons]; omega, by omega, by rw [List.length_cons]; omega⟩
      rcases hO (nxQ B L q1) s1 w1 (o + 1) (4 :: π) m2 N2 (by omega) hpre (fun _ => askA_f (by decide) (by decide)) with ⟨q3, s3, w3, wh3, m3, N3, i1, b1, b2, b3, b4, ⟨b5, b6, b7, b8, b9, b10⟩, b11, b12⟩ | ⟨f, p, f0, ⟨m3, y1, y2, y3⟩, i2⟩
      · obtain ⟨m4, k1, k2, k3, k4⟩ := emit_c (d := dpA (o + 1) + 6) (x := 33) (y := 0) b1 (by omega) (by decide) (by decide)
        obtain ⟨N', j1, j2, j3, j4⟩ := RE2_pop (d := 3) b3 h0 (by omega) (by omega) (by omega) (by decide)
        rw [show ((o + 1 : Nat) : Int) - 1 = (o : Nat) by omega] at j1
        refine Or.inl ⟨q3, s3 + 1, w3 + 1, wh3, m4, N', ins _ ⟨1, m1, g1.up (by omega), fun z => absurd z (by decide), fun _ => ⟨1, m2, c1, fun z => absurd z (by decide), fun _ => ⟨1, m3, i1.up (by omega), fun z => absurd z (by decide), fun _ => ⟨1, m4, k1, fun z => absurd z (by decide), fun _ => rfl⟩⟩⟩⟩, k2, ((a2.tr c3 a9).tr b2 a9).tr k4 (by omega), j1, ((a4.tr n2 a10).tr b4 a10).tr j3 (by omega), ⟨by omega, by omega, by omega, by omega, by omega, by omega⟩, ?_, fun r u hr => hg r u (b12 r _ (j4 r hr))⟩
        refine WX_two (cm := (33, 4)) (a := false) (by decide) (WX_ext a11 (fun j _ j2 => ?_) (fun j _ j2 => ⟨?_, ?_⟩)) (WX_ext b11 (fun j _ j2 => ?_) (fun j _ j2 => ⟨?_, ?_⟩)) (by show m4 86 _ = 33; rw [k3]; rfl) j2
        · show m4 86 _ = m1 86 _
          rw [k4 _ _ (by omega) (by omega) (by omega), b2 _ _ (by omega) (by omega) (by omega), c3 _ _ (by omega) (by omega) (by omega)]
        · show N' 403 _ = N1 403 _
          rw [j3 _ _ (by omega) (by omega) (by omega), b4 _ _ (by omega) (by omega) (by omega), n2 _ _ (by omega) (by omega) (by omega)]
        · show N' 403 _ = N1 403 _
          rw [j3 _ _ (by omega) (by omega) (by omega), b4 _ _ (by omega) (by omega) (by omega), n2 _ _ (by omega) (by omega) (by omega)]
        · show m4 86 _ = m3 86 _
          rw [k4 _ _ (by omega) (by omega) (by omega)]
        · exact j3 _ _ (by omega) (by omega) (by omega)
        · exact j3 _ _ (by omega) (by omega) (by omega)
      · exact Or.inr ⟨f, p, f0, ⟨m3, ins _ ⟨1, m1, g1.up (by omega), fun z => absurd z (by decide), fun _ => ⟨1, m2, c1, fun z => absurd z (by decide), fun _ => ⟨0, m3, y1.up (by omega), fun _ => rfl, fun z => absurd rfl z⟩⟩⟩, y2, (a2.tr c3 a9).tr y3 a9⟩, mf_pre (a4.tr n2 a10) a10 hg i2⟩
    · obtain ⟨m2, c1, c2, c3⟩ := cst_notake (d := dpA (o + 1) + 6) (x := 34) hT a1 h34 (by omega)
      refine Or.inr ⟨1, q1, by decide, ⟨m2, ins _ ⟨1, m1, g1.up (by omega), fun z => absurd z (by decide), fun _ => ⟨0, m2, c1, fun _ => rfl, fun z => absurd rfl z⟩⟩, c2, a2.tr c3 a9⟩, up N1 400 19 1, a4.tr (w2 := w1) (fun a b x y z => ?_) a10, ?_, fun u => a12 _ u (r2 h34)⟩
      · unfold up
        rw [if_neg (by omega)]
      · rw [up_nk (by omega)]
        exact mo_place a3
  · exact Or.inr ⟨f, p, f0, ⟨m1, ins _ ⟨0, m1, y1.up (by omega), fun _ => rfl, fun z => absurd rfl z⟩, y2, y3⟩, g2⟩
/-- what is open is shut, behind a sum -/
theorem st_shut {B : Int → Int} {L : Nat} {t so x : Int} {q s w o q1 s1 w1 : Nat} {π pd : List Int} {m N m1 N1 : Mm} (hT : TPE B L) (h0 : 0 ≤ t ∧ t ≤ 2043) (h : st_ B L t so false 5 q s w (o + 1) (x :: π) m N q1 s1 w1 pd m1 N1) (hw : w + π.length + 1 ≤ q) (ho : o < 8) (hl : π.length ≤ 60) (hpd : pd.length ≤ 2) (hT4 : tkT B L q1 ≠ 7 ∧ tkT B L q1 ≠ 8 ∧ tkT B L q1 ≠ 9 ∧ tkT B L q1 ≠ 10) (hx : 40 ≤ x ∧ x ≠ 42) (hp : prt_ (tkT B L q1) x false = 0) : ∃ N2, MSt B L t so N2 (nxQ B L q1) (w1 + pd.length + (if x = 44 then 1 else 0)) π (o : Nat) 1 ∧ WRT N2 t w1 pd ∧ (x = 44 → N2 403 (t + 73 + 2 * (w1 + pd.length : Nat)) = 3) ∧ FMo t w1 N1 N2 ∧ ∀ (r : Option Vv × Mm) (u : Vv), RE2 4 N2 r → lp_ N1 u r := by
  obtain ⟨a1, a2, a3, a4, ⟨a5, a6, a7, a8, a9, a10⟩, a11, a12, a13, a14⟩ := h
  have hL := hT.1
  have rx : rk x = 0 := if_neg (by omega)
  obtain ⟨e1, e2⟩ := st_app (l := 1) pd (x :: π) (fun y hy => by have := a12 y hy; omega) (fun y r e => by obtain ⟨rfl, _⟩ := List.cons.inj e; omega)
  obtain ⟨b1, b2⟩ := shN_b pd
  have hoW : opW (pd ++ x :: π) = x := by
    rw [opW_app pd (fun y hy => by have := a12 y hy; omega)]
    exact if_pos hx.1
  have hcm : cmpd (pd ++ x :: π) = false := by
    rw [cmpd_app pd a12]
    show (if rk x ≤ 4 then decide (rk x = 4) else cmpd π) = false
    rw [if_pos (by omega), rx]
    rfl
  have hl1 : (pd ++ x :: π).length = pd.length + π.length + 1 := by rw [List.length_append, List.length_cons]; omega
  have := bo_shut (d := 0) (x := x) (base := π) hT a3 h0 (by omega) (by rw [e1]; omega) (by omega) (by rw [e1]; omega) (by rw [e1]; omega) (by rw [btw_o hT4.1 hT4.2.1 hT4.2.2.1 hT4.2.2.2, hoW, if_neg hx.2]; decide) hoW e2 (by omega) (by rw [hcm]; exact hp)
  rw [e1, show ((o + 1 : Nat) : Int) + shN pd - shN pd - 1 = (o : Nat) by omega] at this
  obtain ⟨N2, c1, c2, c3, c4, c5⟩ := this
  exact ⟨N2, c1, c2, c3, c4, fun r u hr => c5 r u (RE2_RE hr)⟩
/-- nothing goes on behind a sum -/
theorem st_stuck {B : Int → Int} {L : Nat} {t so x : Int} {q s w o q1 s1 w1 : Nat} {π pd : List Int} {m N m1 N1 : Mm} (hT : TPE B L) (h0 : 0 ≤ t ∧ t ≤ 2043) (h : st_ B L t so false 5 q s w (o + 1) (x :: π) m N q1 s1 w1 pd m1 N1) (hw : w + π.length + 1 ≤ q) (ho : o < 8) (hl : π.length ≤ 60) (hpd : pd.length ≤ 2) (hT4 : tkT B L q1 ≠ 7 ∧ tkT B L q1 ≠ 8 ∧ tkT B L q1 ≠ 9 ∧ tkT B L q1 ≠ 10) (hx : 40 ≤ x ∧ x ≠ 42) (hp : prt_ (tkT B L q1) x false < 0) : mf_ t w N 1 q1 := by
  obtain ⟨a1, a2, a3, a4, ⟨a5, a6, a7, a8, a9, a10⟩, a11, a12, a13, a14⟩ := h
  have hL := hT.1
  have rx : rk x = 0 := if_neg (by omega)
  obtain ⟨b1, b2⟩ := shN_b pd
  have hoW : opW (pd ++ x :: π) = x := by
    rw [opW_app pd (fun y hy => by have := a12 y hy; omega)]
    exact if_pos hx.1
  have hcm : cmpd (pd ++ x :: π) = false := by
    rw [cmpd_app pd a12]
    show (if rk x ≤ 4 then decide (rk x = 4) else cmpd π) = false
    rw [if_pos (by omega), rx]
    rfl
  have hl1 : (pd ++ x :: π).length = pd.length + π.length + 1 := by rw [List.length_append, List.length_cons]; omega
  exact ⟨N1, a4, mo_place a3, fun u => a14 _ u (mo_stuck hT a3 h0 (by omega) (by omega) (by omega) (by rw [btw_o hT4.1 hT4.2.1 hT4.2.2.1 hT4.2.2.2, hoW, if_neg hx.2]; decide) (by rw [hoW, hcm]; exact hp) (by rw [hoW]; omega) _)⟩
theorem prt_1 {T : Int} {k : Bool} : (T = 12 → prt_ T 40 k = 0) ∧ (T ≠ 12 → prt_ T 40 k < 0) := by
  unfold prt_
  rw [if_pos rfl]
  exact ⟨fun z => by rw [if_pos z], fun z => by rw [if_neg z]; decide⟩
theorem prt_3 {T : Int} {k : Bool} : (T = 38 → prt_ T 43 k = 44) ∧ (T ≠ 38 → prt_ T 43 k < 0) := by
  unfold prt_
  rw [if_neg (by decide), if_neg (by decide), if_pos rfl]
  exact ⟨fun z => by rw [if_pos z], fun z => by rw [if_neg z]; decide⟩
theorem prt_4 {T : Int} {k : Bool} : (T = 39 → prt_ T 44 k = 0) ∧ (T ≠ 39 → prt_ T 44 k < 0) := by
  unfold prt_
  rw [if_neg (by decide), if_neg (by decide), if_neg (by decide), if_pos rfl]
  exact ⟨fun z => by rw [if_pos z], fun z => by rw [if_neg z]; decide⟩
theorem prt_2 {T : Int} : (T = 37 → prt_ T 42 true = 43) ∧ (T ≠ 37 → prt_ T 42 true < 0) := by
  unfold prt_
  rw [if_neg (by decide), if_pos rfl]
  exact ⟨fun z => by rw [if_pos ⟨z, rfl⟩], fun z => by rw [if_neg (fun y => z y.1)]; decide⟩
theorem in_par {B : Int → Int} {L : Nat} {t so : Int} {n : Nat} (hT : TPE B L) (h0 : 0 ≤ t ∧ t ≤ 2043) (hS : sS_ B L t so n) {q s w o : Nat} {π : List Int} {m N : Mm} (hn : L - q < n) (ho : o < 8) (hp : pre_ B L t so q s w (o + 1) (40 :: π) m N 5) : rI_ B L t so 11 q s w o π m N := by
  have hL := hT.1
  have hp' := hp.2.2
  rw [List.length_cons] at hp'
  have ins : ∀ r, (∃ (v3 : Int) (m3 : Mm), Cl (dpA (o + 1) + 6) k_Rd_sum [(15, 80)] m (some (0, v3), m3) ∧ ((v3 = 0 → r = (some (0, 0), m3)) ∧ (¬ (v3 = 0) → ∃ (v4 : Int) (m4 : Mm), Cl (dpA (o + 1) + 6) k_Rd_take [(15, 80), (0, 12)] m3 (some (0, v4), m4) ∧ ((v4 = 0 → r = (some (0, 0), m4)) ∧ (¬ (v4 = 0) → r = (some (0, 1), m4)))))) → Cl (dpA (o + 1) + 7) k_Rd_inside [(15, 80), (0, 11)] m r := fun r h => cl_Rd_inside (b_Rd_inside ⟨fun z => by omega, fun _ => ⟨fun _ => h, fun z => absurd rfl z⟩⟩)
  rcases hS q s w (o + 1) (40 :: π) m N hn (pre_le hp (by omega)) (fun x r e => by obtain ⟨rfl, _⟩ := List.cons.inj e; decide) (fun _ => askA_f (by decide) (by decide)) with ⟨q1, s1, w1, pd, m1, N1, g1, g2, g3, g4⟩ | ⟨f, p, f0, ⟨m1, y1, y2, y3⟩, g2⟩
  · have g2' := g2
    obtain ⟨a1, a2, a3, a4, ⟨a5, a6, a7, a8, a9, a10⟩, a11, a12, a13, a14⟩ := g2
    by_cases h12 : tkT B L q1 = 12
    · obtain ⟨nx1, nx2, nx3⟩ := nxQ_v (B := B) a6
      have nx4 := nx3 (by omega)
      obtain ⟨m2, c1, c2, c3⟩ := cst_take (d := dpA (o + 1) + 6) (x := 12) hT a1 h12 (by omega)
      obtain ⟨N2, n1, n2, n3, n4, n5⟩ := st_shut hT h0 g2' (by omega) ho (by omega) g3 g4 (by decide) (prt_1.1 h12)
      rw [if_neg (by decide), Nat.add_zero] at n1
      refine Or.inl ⟨nxQ B L q1, s1, w1 + pd.length, 1, m2, N2, ins _ ⟨1, m1, g1.up (by omega), fun z => absurd z (by decide), fun _ => ⟨1, m2, c1, fun z => absurd z (by decide), fun _ => rfl⟩⟩, c2, a2.tr c3 a9, n1, a4.tr n4 a10, ⟨by omega, nx1, by omega, by omega, a9, by omega⟩, ?_, fun r u hr => a14 r u (n5 r _ hr)⟩
      exact pnd_w a11 (fun j _ hj => c3 _ _ (by omega) (by omega) (by omega)) n4 n2
    · obtain ⟨m2, c1, c2, c3⟩ := cst_notake (d := dpA (o + 1) + 6) (x := 12) hT a1 h12 (by omega)
      exact Or.inr ⟨1, q1, by decide, ⟨m2, ins _ ⟨1, m1, g1.up (by omega), fun z => absurd z (by decide), fun _ => ⟨0, m2, c1, fun _ => rfl, fun z => absurd rfl z⟩⟩, c2, a2.tr c3 a9⟩, st_stuck hT h0 g2' (by omega) ho (by omega) g3 g4 (by decide) (prt_1.2 h12)⟩
  · exact Or.inr ⟨f, p, f0, ⟨m1, ins _ ⟨0, m1, y1.up (by omega), fun _ => rfl, fun z => absurd rfl z⟩, y2, y3⟩, g2⟩
