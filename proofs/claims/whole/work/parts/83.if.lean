/-! THE TWO PARSERS: if -/
theorem st_part {B : Int → Int} {L : Nat} {t so x y ρ : Int} {b : Bool} {q s w o q1 s1 w1 : Nat} {π pd : List Int} {m N m1 N1 : Mm} (hT : TPE B L) (h0 : 0 ≤ t ∧ t ≤ 2043) (h : st_ B L t so b ρ q s w (o + 1) (x :: π) m N q1 s1 w1 pd m1 N1) (hρ : 1 ≤ ρ) (hw : w + π.length + 1 ≤ q) (ho : o < 8) (hl : π.length ≤ 60) (hpd : pd.length ≤ 20) (hx : 40 ≤ x) (hb : btw_ (tkT B L q1) (pd ++ x :: π) < 0) (hp : prt_ (tkT B L q1) x (cmpd (pd ++ x :: π)) = y) (hy : 0 < y) : ∃ N2, MSt B L t so N2 (nxQ B L q1) (w1 + pd.length) (y :: π) ((o + 1 : Nat) : Int) 0 ∧ WRT N2 t w1 pd ∧ FMo t w1 N1 N2 ∧ go_ N1 N2 := by
  obtain ⟨a1, a2, a3, a4, ⟨a5, a6, a7, a8, a9, a10⟩, a11, a12, a13, a14⟩ := h
  have hL := hT.1
  have rx : rk x = 0 := if_neg (by omega)
  obtain ⟨e1, e2⟩ := st_app (l := 1) pd (x :: π) (fun y hy => by have := a12 y hy; omega) (fun y r e => by obtain ⟨rfl, _⟩ := List.cons.inj e; omega)
  obtain ⟨b1, b2⟩ := shN_b pd
  have hoW : opW (pd ++ x :: π) = x := by
    rw [opW_app pd (fun y hy => by have := a12 y hy; omega)]
    exact if_pos hx
  have hl1 : (pd ++ x :: π).length = pd.length + π.length + 1 := by rw [List.length_append, List.length_cons]; omega
  have := bo_part (d := 0) (x := x) (y := y) (base := π) hT a3 h0 (by omega) (by rw [e1]; omega) (by omega) hb hoW hx e2 (by omega) hp hy
  rw [e1, show ((o + 1 : Nat) : Int) + shN pd - shN pd = ((o + 1 : Nat) : Int) by omega] at this
  obtain ⟨N2, c1, c2, c3, c4⟩ := this
  exact ⟨N2, c1, c2, c3, c4⟩
theorem up_F {c : Int} {s k : Nat} {m m6 : Mm} {v : Int} (h : FCk c s m m6) (hk : s ≤ k) : FCk c s m (up m6 86 (k : Nat) v) := fun a b x y z => by
  rw [← h a b x y z]
  unfold up
  rw [if_neg (by omega)]
theorem CSt_up {L q s : Nat} {B : Int → Int} {lw o k v : Int} {m : Mm} (h : CSt B L lw m q s o) : CSt B L lw (up m 86 k v) q s o := ⟨CTk_con h.1 (fun b _ => up_ne (by omega)) (fun b => up_ne (by omega)), by rw [up_ne (by omega)]; exact h.2.1, by rw [up_ne (by omega)]; exact h.2.2.1, by rw [up_ne (by omega)]; exact h.2.2.2⟩
theorem land_f {d x s : Nat} {m m1 : Mm} {f : Int} {p : Nat} (hx : x < 300) (hs : s ≤ x) (h : flt_ m1 f p) (hF : FCf s m m1) : ∃ m', Cl d k_Tx_landHere [(16, 82), (0, (x : Nat))] m1 (none, m') ∧ flt_ m' f p ∧ FCf s m m' := by
  obtain ⟨m', c1, c2⟩ := landHere_a (d := d) (m := m1) hx
  exact ⟨m', c1, ⟨by rw [c2 _ _ (by omega)]; exact h.1, by rw [c2 _ _ (by omega)]; exact h.2⟩, fun a b y1 y2 y3 => by rw [c2 a b (by omega)]; exact hF a b y1 y2 y3⟩
theorem in_if {B : Int → Int} {L : Nat} {t so : Int} {n : Nat} (hT : TPE B L) (h0 : 0 ≤ t ∧ t ≤ 2043) (hS : sS_ B L t so n) (hE : sE_ B L t so n) {q s w o : Nat} {π : List Int} {m N : Mm} (hn : L - q < n) (ho : o < 8) (hp : pre_ B L t so q s w (o + 1) (42 :: π) m N 5) : rI_ B L t so 36 q s w o π m N := by
  have hL := hT.1
  have hp' := hp.2.2
  rw [List.length_cons] at hp'
  have ins : ∀ (v : Int) (m' : Mm), (v = 0 ∨ v = 1) → Cl (dpA (o + 1) + 6) k_Rd_choice [(15, 80)] m (some (0, v), m') → Cl (dpA (o + 1) + 7) k_Rd_inside [(15, 80), (0, 36)] m (some (0, v), m') := fun v m' hv h => cl_Rd_inside (b_Rd_inside ⟨fun z => by omega, fun _ => ⟨fun z => by omega, fun _ => ⟨fun z => by omega, fun _ => ⟨fun z => by omega, fun _ => ⟨fun z => by omega, fun _ => ⟨v, m', h, hv, rfl⟩⟩⟩⟩⟩⟩)
  rcases hE q s w (o + 1) π m N hn hp with ⟨q1, s1, w1, pd1, m1, N1, g1, g2, g3, g4⟩ | ⟨f, p, f0, ⟨m1, y1, y2, y3⟩, g2⟩
  rotate_left
  · exact Or.inr ⟨f, p, f0, ⟨m1, ins 0 m1 (Or.inl rfl) (cl_Rd_choice (b_Rd_choice ⟨0, m1, y1, fun _ => rfl, fun z => absurd rfl z⟩)), y2, y3⟩, g2⟩
  have g2' := g2
  obtain ⟨a1, a2, a3, a4, ⟨a5, a6, a7, a8, a9, a10⟩, a11, a12, a13, a14⟩ := g2
  have hcm := a13 rfl (42 :: π)
  have hoW : opW (pd1 ++ 42 :: π) = 42 := by
    rw [opW_app pd1 a12]
    rfl
  have hb1 : btw_ (tkT B L q1) (pd1 ++ 42 :: π) < 0 := by
    rw [btw_o g4.2.2.1 g4.2.2.2.1 g4.2.2.2.2.1 g4.2.2.2.2.2, if_pos hoW, if_pos hcm, if_neg g4.2.1, if_neg g4.1]
    decide
  obtain ⟨sh1, sh2⟩ := shN_b pd1
  have hl1 : (pd1 ++ 42 :: π).length = pd1.length + π.length + 1 := by rw [List.length_append, List.length_cons]; omega
  by_cases h37 : tkT B L q1 = 37
  rotate_left
  · obtain ⟨m2, c1, c2, c3⟩ := cst_notake (d := dpA (o + 1) + 5) (x := 37) hT a1 h37 (by omega)
    exact Or.inr ⟨1, q1, by decide, ⟨m2, ins 0 m2 (Or.inl rfl) (cl_Rd_choice (b_Rd_choice ⟨1, m1, g1, fun z => absurd z (by decide), fun _ => ⟨0, m2, c1, fun z => absurd rfl z, fun _ => rfl⟩⟩)), c2, a2.tr c3 a9⟩, N1, a4, mo_place a3, fun u => a14 _ u (mo_stuck hT a3 h0 (by omega) (by omega) (by omega) hb1 (by rw [hoW, hcm]; exact prt_2.2 h37) (by rw [hoW]; decide) _)⟩
  obtain ⟨nx1, nx2, nx3⟩ := nxQ_v (B := B) a6
  have nx4 := nx3 (by omega)
  obtain ⟨m2, c1, c2, c3⟩ := cst_take (d := dpA (o + 1) + 5) (x := 37) hT a1 h37 (by omega)
  obtain ⟨N2, n1, n2, n3, n4⟩ := st_part (y := 43) hT h0 g2' (by decide) (by omega) ho (by omega) (by omega) (by decide) hb1 (by rw [hcm]; exact prt_2.1 h37) (by decide)
  obtain ⟨m3, c4, c5, c6, c7⟩ := emit_c (d := dpA (o + 1) + 5) (x := 45) (y := 0) c2 (by omega) (by decide) (by decide)
  have e25 : m2 82 5 = (s1 : Nat) := c2.2.1
  generalize hq2 : nxQ B L q1 = q2 at *
  have hg2 : go_ N N2 := a14.tr n4
  have hF2 : FMo t w N N2 := a4.tr n3 a10
  have hC3 : FCl s m m3 := (a2.tr c3 a9).tr c7 a9
  rcases hS q2 (s1 + 1) (w1 + pd1.length) (o + 1) (43 :: π) m3 N2 (by omega) ⟨c5, n1, by omega, nx1, by rw [List.length_cons]; omega, by omega, by rw [List.length_cons]; omega⟩ (fun x r e => by obtain ⟨rfl, _⟩ := List.cons.inj e; decide) (fun _ => askA_f (by decide) (by decide)) with ⟨q3, s3, w3, pd3, m4, N3, i1, i2, i3, i4⟩ | ⟨f, p, f0, ⟨m4, y1, y2, y3⟩, i2⟩
  rotate_left
  · exact Or.inr ⟨f, p, f0, ⟨m4, ins 0 m4 (Or.inl rfl) (cl_Rd_choice (b_Rd_choice ⟨1, m1, g1, fun z => absurd z (by decide), fun _ => ⟨1, m2, c1, fun _ => ⟨1, m3, c4, 0, m4, y1.up (by omega), fun _ => rfl, fun z => absurd rfl z⟩, fun z => absurd (by decide) z⟩⟩)), y2, hC3.tr y3 (by omega)⟩, mf_pre hF2 (by omega) hg2 i2⟩
  have i2' := i2
  obtain ⟨b1, b2, b3, b4, ⟨b5, b6, b7, b8, b9, b10⟩, b11, b12, b13, b14⟩ := i2
  by_cases h38 : tkT B L q3 = 38
  rotate_left
  · obtain ⟨m5, d1, d2, d3⟩ := cst_notake (d := dpA (o + 1) + 5) (x := 38) hT b1 h38 (by omega)
    exact Or.inr ⟨1, q3, by decide, ⟨m5, ins 0 m5 (Or.inl rfl) (cl_Rd_choice (b_Rd_choice ⟨1, m1, g1, fun z => absurd z (by decide), fun _ => ⟨1, m2, c1, fun _ => ⟨1, m3, c4, 1, m4, i1.up (by omega), fun z => absurd z (by decide), fun _ => ⟨0, m5, d1, fun z => absurd rfl z, fun _ => rfl⟩⟩, fun z => absurd (by decide) z⟩⟩)), d2, (hC3.tr b2 (by omega)).tr d3 (by omega)⟩, mf_pre hF2 (by omega) hg2 (st_stuck hT h0 i2' (by omega) ho (by omega) i3 i4 (by decide) (prt_3.2 h38))⟩
  have hoW3 : opW (pd3 ++ 43 :: π) = 43 := by
    rw [opW_app pd3 (fun y hy => by have := b12 y hy; omega)]
    rfl
  obtain ⟨ox1, ox2, ox3⟩ := nxQ_v (B := B) b6
  have ox4 := ox3 (by omega)
  obtain ⟨m5, d1, d2, d3⟩ := cst_take (d := dpA (o + 1) + 5) (x := 38) hT b1 h38 (by omega)
  obtain ⟨N4, l1, l2, l3, l4⟩ := st_part (y := 44) hT h0 i2' (by decide) (by omega) ho (by omega) (by omega) (by decide) (by rw [btw_o i4.1 i4.2.1 i4.2.2.1 i4.2.2.2, hoW3, if_neg (by decide)]; decide) (prt_3.1 h38) (by decide)
  obtain ⟨m6, d4, d5, d6, d7⟩ := emit_c (d := dpA (o + 1) + 5) (x := 46) (y := 0) d2 (by omega) (by decide) (by decide)
  have e55 : m5 82 5 = (s3 : Nat) := d2.2.1
  generalize hq4 : nxQ B L q3 = q4 at *
  have k61 : m6 86 (s1 : Nat) = 45 := by
    rw [d7 _ _ (by omega) (by omega) (by omega), d3 _ _ (by omega) (by omega) (by omega), b2 _ _ (by omega) (by omega) (by omega), c6]
    rfl
  have hla := landHere_c (d := dpA (o + 1) + 5) (x := s1) (S := s3 + 1) d5.2.1 (by omega) (by omega) k61 (by decide)
  obtain ⟨m7, hm7⟩ : ∃ m7, m7 = up m6 86 (s1 : Nat) (45 + ((s3 + 1 : Nat) : Int) * 64) := ⟨_, rfl⟩
  rw [← hm7] at hla
  have hC7 : CSt B L (16 + so) m7 q4 (s3 + 1) ((o + 1 : Nat) : Int) := by rw [hm7]; exact CSt_up d5
  have hFm7 : FCl s m m7 := by rw [hm7]; exact up_F (((hC3.tr b2 (by omega)).tr d3 (by omega)).tr d7 (by omega)) a9
  have hg4 : go_ N N4 := (hg2.tr b14).tr l4
  have hF4 : FMo t w N N4 := (hF2.tr b4 (by omega)).tr l3 (by omega)
  rcases hS q4 (s3 + 1) (w3 + pd3.length) (o + 1) (44 :: π) m7 N4 (by omega) ⟨hC7, l1, by omega, ox1, by rw [List.length_cons]; omega, by omega, by rw [List.length_cons]; omega⟩ (fun x r e => by obtain ⟨rfl, _⟩ := List.cons.inj e; decide) (fun _ => askA_f (by decide) (by decide)) with ⟨q5, s5, w5, pd5, m8, N5, j1, j2, j3, j4⟩ | ⟨f, p, f0, ⟨m8, y1, y2, y3⟩, j2⟩
  rotate_left
  · obtain ⟨m9, z1, z2, z3⟩ := land_f (d := dpA (o + 1) + 5) (x := s3) (s := s) (by omega) (by omega) y2 (hFm7.tr y3 (by omega))
    exact Or.inr ⟨f, p, f0, ⟨m9, ins 0 m9 (Or.inl rfl) (cl_Rd_choice (b_Rd_choice ⟨1, m1, g1, fun z => absurd z (by decide), fun _ => ⟨1, m2, c1, fun _ => ⟨1, m3, c4, 1, m4, i1.up (by omega), fun z => absurd z (by decide), fun _ => ⟨1, m5, d1, fun _ => ⟨1, m6, d4, m7, by rw [e25]; exact hla, 0, m8, y1.up (by omega), fun _ => ⟨m9, by rw [e55]; exact z1, rfl⟩, fun z => absurd rfl z⟩, fun z => absurd (by decide) z⟩⟩, fun z => absurd (by decide) z⟩⟩)), z2, z3⟩, mf_pre hF4 (by omega) hg4 j2⟩
  have j2' := j2
  obtain ⟨f1, f2, f3, f4, ⟨f5, f6, f7, f8, f9, f10⟩, f11, f12, f13, f14⟩ := j2
  by_cases h39 : tkT B L q5 = 39
  rotate_left
  · obtain ⟨m10, u1, u2, u3⟩ := cst_notake (d := dpA (o + 1) + 5) (x := 39) hT f1 h39 (by omega)
    obtain ⟨m9, z1, z2, z3⟩ := land_f (d := dpA (o + 1) + 5) (x := s3) (s := s) (by omega) (by omega) u2 ((hFm7.tr f2 (by omega)).tr u3 (by omega))
    exact Or.inr ⟨1, q5, by decide, ⟨m9, ins 0 m9 (Or.inl rfl) (cl_Rd_choice (b_Rd_choice ⟨1, m1, g1, fun z => absurd z (by decide), fun _ => ⟨1, m2, c1, fun _ => ⟨1, m3, c4, 1, m4, i1.up (by omega), fun z => absurd z (by decide), fun _ => ⟨1, m5, d1, fun _ => ⟨1, m6, d4, m7, by rw [e25]; exact hla, 1, m8, j1.up (by omega), fun z => absurd z (by decide), fun _ => ⟨0, m10, u1, fun _ => ⟨m9, by rw [e55]; exact z1, rfl⟩, fun z => absurd rfl z⟩⟩, fun z => absurd (by decide) z⟩⟩, fun z => absurd (by decide) z⟩⟩)), z2, z3⟩, mf_pre hF4 (by omega) hg4 (st_stuck hT h0 j2' (by omega) ho (by omega) j3 j4 (by decide) (prt_4.2 h39))⟩
  obtain ⟨px1, px2, px3⟩ := nxQ_v (B := B) f6
  have px4 := px3 (by omega)
  obtain ⟨m10, u1, u2, u3⟩ := cst_take (d := dpA (o + 1) + 5) (x := 39) hT f1 h39 (by omega)
  obtain ⟨N6, v1, v2, v3, v4, v5⟩ := st_shut hT h0 j2' (by omega) ho (by omega) j3 j4 (by decide) (prt_4.1 h39)
  rw [if_pos rfl] at v1
  have k10 : m10 86 (s3 : Nat) = 46 := by
    rw [u3 _ _ (by omega) (by omega) (by omega), f2 _ _ (by omega) (by omega) (by omega), hm7, up_nk (by omega), d6]
    rfl
  have hlb := landHere_c (d := dpA (o + 1) + 5) (x := s3) (S := s5) u2.2.1 (by omega) (by omega) k10 (by decide)
  obtain ⟨m12, hm12⟩ : ∃ m12, m12 = up m10 86 (s3 : Nat) (46 + (s5 : Int) * 64) := ⟨_, rfl⟩
  rw [← hm12] at hlb
  refine Or.inl ⟨nxQ B L q5, s5, w5 + pd5.length + 1, 1, m12, N6, ins 1 m12 (Or.inr rfl) (cl_Rd_choice (b_Rd_choice ⟨1, m1, g1, fun z => absurd z (by decide), fun _ => ⟨1, m2, c1, fun _ => ⟨1, m3, c4, 1, m4, i1.up (by omega), fun z => absurd z (by decide), fun _ => ⟨1, m5, d1, fun _ => ⟨1, m6, d4, m7, by rw [e25]; exact hla, 1, m8, j1.up (by omega), fun z => absurd z (by decide), fun _ => ⟨1, m10, u1, fun z => absurd z (by decide), fun _ => ⟨m12, by rw [e55]; exact hlb, rfl⟩⟩⟩, fun z => absurd (by decide) z⟩⟩, fun z => absurd (by decide) z⟩⟩)), by rw [hm12]; exact CSt_up u2, by rw [hm12]; exact up_F ((hFm7.tr f2 (by omega)).tr u3 (by omega)) (by omega), v1, (hF4.tr f4 (by omega)).tr v4 (by omega), ⟨by omega, px1, by omega, by omega, by omega, by omega⟩, ?_, fun r u hr => hg4 r u (f14 r _ (v5 r _ hr))⟩
  -- the code
  have x1 := pnd_w (m' := m12) a11 (fun j _ j2 => by rw [hm12, up_nk (by omega), u3 _ _ (by omega) (by omega) (by omega), f2 _ _ (by omega) (by omega) (by omega), hm7, up_nk (by omega), d7 _ _ (by omega) (by omega) (by omega), d3 _ _ (by omega) (by omega) (by omega), b2 _ _ (by omega) (by omega) (by omega), c7 _ _ (by omega) (by omega) (by omega), c3 _ _ (by omega) (by omega) (by omega)]) n3 n2
  have x2 := pnd_w (m' := m12) b11 (fun j j1 j2 => by rw [hm12, up_nk (by omega), u3 _ _ (by omega) (by omega) (by omega), f2 _ _ (by omega) (by omega) (by omega), hm7, up_nk (by omega), d7 _ _ (by omega) (by omega) (by omega), d3 _ _ (by omega) (by omega) (by omega)]) l3 l2
  have x3 := pnd_w (m' := m12) f11 (fun j j1 j2 => by rw [hm12, up_nk (by omega), u3 _ _ (by omega) (by omega) (by omega)]) v4 v2
  have N46 : ∀ b, b < t + 73 + 2 * (w3 + pd3.length : Nat) → N6 403 b = N4 403 b := fun b hb => by rw [v4 _ _ (by omega) (by omega) (by omega), f4 _ _ (by omega) (by omega) (by omega)]
  have N26 : ∀ b, b < t + 73 + 2 * (w1 + pd1.length : Nat) → N6 403 b = N2 403 b := fun b hb => by rw [N46 b (by omega), l3 _ _ (by omega) (by omega) (by omega), b4 _ _ (by omega) (by omega) (by omega)]
  refine WX_if (WX_ext x1 (fun _ _ _ => rfl) (fun j _ j2 => ⟨N26 _ (by omega), N26 _ (by omega)⟩)) ?_ (WX_ext x2 (fun _ _ _ => rfl) (fun j _ j2 => ⟨N46 _ (by omega), N46 _ (by omega)⟩)) ?_ x3 (v3 rfl)
  · show m12 86 _ = _
    rw [hm12, up_nk (by omega), u3 _ _ (by omega) (by omega) (by omega), f2 _ _ (by omega) (by omega) (by omega), hm7, up_eq]
    omega
  · show m12 86 _ = _
    rw [hm12, up_eq]
