/-! THE TWO PARSERS: every sum -/
theorem sO_step {B : Int → Int} {L : Nat} {t so : Int} {n : Nat} (hT : TPE B L) (h0 : 0 ≤ t ∧ t ≤ 2043) (hs : so = 0 ∨ so = 1) (hO : sO_ B L t so n) (hS : sS_ B L t so n) (hE : sE_ B L t so n) : sO_ B L t so (n + 1) := by
  intro q s w o π m N hn hp h42
  have hp0 := hp
  obtain ⟨p1, p2, p3, p4, p5, p6, p7⟩ := hp
  have hL := hT.1
  have e6 : m 80 6 = tkT B L q := p1.1.2.2.2.1
  obtain ⟨nx1, nx2, nx3⟩ := nxQ_v (B := B) p4
  have hd : ∃ d, dpA o = d + 4 := ⟨dpA o - 4, by unfold dpA; omega⟩
  by_cases h2 : tkT B L q = 2
  · have nx4 := nx3 (by omega)
    obtain ⟨n1, n2, n3⟩ := isNumber_c (d := 0) (lo := 0) (hi := 9999) p1
    obtain ⟨v1, v2⟩ := tk_v (B := B) (L := L) (q := q)
    have v0 : 0 ≤ tkV B L q := by omega
    obtain ⟨d, hd⟩ := hd
    have e8 : m 80 8 = tkV B L q := p1.1.2.2.2.2.2.2 h2
    by_cases hv : tkV B L q ≤ 9999
    · obtain ⟨m', k1, k2, k3, k4⟩ := emitAdv_c (d := d) (x := 2) (y := tkV B L q) hT p1 (by omega) (by decide) ⟨v0, hv⟩
      obtain ⟨N2, g1, g2, g3, g4, g5⟩ := mo_leaf (d := 0) hT p2 h0 (by omega) hs (Or.inl ⟨h2, hv⟩)
      rw [if_pos h2] at g2 g3
      refine Or.inl ⟨nxQ B L q, s + 1, w + 1, 0, m', N2, ?_, k2, k4, g1, g4, ⟨nx4, nx1, by omega, by omega, by omega, by omega⟩, WX_num ⟨v0, hv⟩ k3 g2 g3, fun r u hr => g5 r u (RE2_RE hr)⟩
      rw [hd]
      refine cl_Rd_one (b_Rd_one ⟨fun z => absurd (by rw [e6]; exact h2) z, fun _ => ⟨1, m, (n1 h2 ⟨v0, hv⟩).up (by omega), fun z => absurd z (by decide), fun _ => ⟨1, m', ?_, fun z => absurd z (by decide), fun _ => rfl⟩⟩⟩)
      rw [e8]
      exact k1
    · obtain ⟨m', k1, k2, k3⟩ := n2 h2 (by omega)
      refine Or.inr ⟨2, q, by decide, ⟨m', ?_, k2, k3⟩, N, FMo_refl, mo_place p2, fun u => mo_numbad (d := 0) hT p2 h2 hv u⟩
      rw [hd]
      exact cl_Rd_one (b_Rd_one ⟨fun z => absurd (by rw [e6]; exact h2) z, fun _ => ⟨0, m', k1.up (by omega), fun _ => rfl, fun z => absurd rfl z⟩⟩)
  by_cases hnm : 24 ≤ tkT B L q ∧ tkT B L q ≤ 30
  · have nx4 := nx3 (by omega)
    obtain ⟨n1, n2⟩ := isNameHere_c (d := 0) p1 rfl hs hnm
    obtain ⟨d, hd⟩ := hd
    by_cases hk : nmok so (tkT B L q - 24)
    · obtain ⟨m', k1, k2, k3, k4⟩ := emitAdv_c (d := d) (x := 43) (y := tkT B L q - 24) hT p1 (by omega) (by decide) (by omega)
      obtain ⟨N2, g1, g2, g3, g4, g5⟩ := mo_leaf (d := 0) hT p2 h0 (by omega) hs (Or.inr ⟨hnm, hk⟩)
      rw [if_neg h2] at g2 g3
      refine Or.inl ⟨nxQ B L q, s + 1, w + 1, 0, m', N2, ?_, k2, k4, g1, g4, ⟨nx4, nx1, by omega, by omega, by omega, by omega⟩, WX_name ⟨by omega, by omega, hk⟩ k3 g2 g3, fun r u hr => g5 r u (RE2_RE hr)⟩
      rw [hd]
      refine cl_Rd_one (b_Rd_one ⟨fun _ => ⟨fun z => by omega, fun _ => ⟨fun z => by omega, fun _ => ⟨1, m, (n1 hk).up (by omega), fun z => absurd z (by decide), fun _ => ⟨1, m', ?_, fun z => absurd z (by decide), fun _ => rfl⟩⟩⟩⟩, fun z => absurd (by rw [← e6]; exact Classical.not_not.mp z) h2⟩)
      rw [e6, w32n (by omega) (by omega)]
      exact k1
    · obtain ⟨m', k1, k2, k3⟩ := n2 hk
      refine Or.inr ⟨5, q, by decide, ⟨m', ?_, k2, k3⟩, N, FMo_refl, mo_place p2, fun u => mo_namebad (d := 0) hT p2 hs hnm hk u⟩
      rw [hd]
      exact cl_Rd_one (b_Rd_one ⟨fun _ => ⟨fun z => by omega, fun _ => ⟨fun z => by omega, fun _ => ⟨0, m', k1.up (by omega), fun _ => rfl, fun z => absurd rfl z⟩⟩⟩, fun z => absurd (by rw [← e6]; exact Classical.not_not.mp z) h2⟩)
  by_cases h11 : tkT B L q = 11
  · have nx4 := nx3 (by omega)
    refine one_nest (x := 40) hT hs hp0 (by omega) (by rw [h11]; rfl) (by decide) (fun ho m2 N2 hp2 => ?_)
    rw [h11]
    exact in_par hT h0 hS (by omega) ho hp2
  by_cases h8 : tkT B L q = 8
  · have nx4 := nx3 (by omega)
    refine one_nest (x := 5) hT hs hp0 (by omega) (by rw [h8]; rfl) (by decide) (fun ho m2 N2 hp2 => ?_)
    rw [h8]
    exact in_un (x := 5) (c := 44) hT h0 hO (by omega) (by omega) ho hp2 (by decide) (by decide) (fun _ _ _ _ _ _ _ h c o => WX_neg h c o) (fun m1 m3 k1 k2 => cl_Rd_inside (b_Rd_inside ⟨fun _ => ⟨1, m1, k1, fun z => absurd z (by decide), fun _ => ⟨1, m3, k2, fun z => absurd z (by decide), fun _ => rfl⟩⟩, fun z => absurd rfl z⟩)) (fun m1 k1 => cl_Rd_inside (b_Rd_inside ⟨fun _ => ⟨0, m1, k1, fun _ => rfl, fun z => absurd rfl z⟩, fun z => absurd rfl z⟩))
  by_cases h33 : tkT B L q = 33
  · have nx4 := nx3 (by omega)
    refine one_nest (x := 41) hT hs hp0 (by omega) (by rw [h33]; rfl) (by decide) (fun ho m2 N2 hp2 => ?_)
    rw [h33]
    exact in_far hT h0 hO (by omega) ho hp2
  by_cases h35 : tkT B L q = 35
  · have nx4 := nx3 (by omega)
    refine one_nest (x := 2) hT hs hp0 (by omega) (by rw [h35]; rfl) (by decide) (fun ho m2 N2 hp2 => ?_)
    rw [h35]
    exact in_un (x := 2) (c := 35) hT h0 hO (by omega) (by omega) ho hp2 (by decide) (by decide) (fun _ _ _ _ _ _ _ h c o => WX_hed h c o) (fun m1 m3 k1 k2 => cl_Rd_inside (b_Rd_inside ⟨fun z => by omega, fun _ => ⟨fun z => by omega, fun _ => ⟨fun z => by omega, fun _ => ⟨fun _ => ⟨1, m1, k1, fun z => absurd z (by decide), fun _ => ⟨1, m3, k2, fun z => absurd z (by decide), fun _ => rfl⟩⟩, fun z => absurd rfl z⟩⟩⟩⟩)) (fun m1 k1 => cl_Rd_inside (b_Rd_inside ⟨fun z => by omega, fun _ => ⟨fun z => by omega, fun _ => ⟨fun z => by omega, fun _ => ⟨fun _ => ⟨0, m1, k1, fun _ => rfl, fun z => absurd rfl z⟩, fun z => absurd rfl z⟩⟩⟩⟩))
  by_cases h36 : tkT B L q = 36
  · have nx4 := nx3 (by omega)
    refine one_nest (x := 42) hT hs hp0 (by omega) (by rw [h36]; rfl) (by decide) (fun ho m2 N2 hp2 => ?_)
    rw [h36]
    exact in_if hT h0 hS hE (by omega) ho hp2
  · have hop : opk (tkT B L q) (askA π) = -1 := by
      unfold opk
      rw [if_neg h11, if_neg h8, if_neg h33, if_neg h35, if_neg h36, if_neg (fun y => by have := h42 y.1; rw [this] at y; exact absurd y.2 (by decide))]
    obtain ⟨d, hd⟩ := hd
    obtain ⟨m', k1, k2, k3⟩ := refuse_c (d := d + 3) (f := 1) p1
    have hc : Ev (d + 4) K_Rd_one 2 42 [(15, 80), (9, 0)] [] m (some (0, 0), m') := by
      refine b_Rd_one_42 ⟨fun z => by omega, fun _ => ⟨fun z => by omega, fun _ => ⟨fun z => by omega, fun _ => ⟨fun z => by omega, fun _ => ⟨fun _ => ⟨0, m', k1, Or.inl rfl, rfl⟩, fun z => by omega⟩⟩⟩⟩⟩
    refine Or.inr ⟨1, q, by decide, ⟨m', ?_, k2, k3⟩, N, FMo_refl, mo_place p2, fun u => mo_bad (d := 0) hT p2 hs (by omega) h2 hnm hop u⟩
    rw [hd]
    exact cl_Rd_one (b_Rd_one ⟨fun _ => ⟨fun _ => hc, fun z => ⟨fun _ => hc, fun z2 => by omega⟩⟩, fun z => absurd (by rw [← e6]; exact Classical.not_not.mp z) h2⟩)
theorem all_sums {B : Int → Int} {L : Nat} {t so : Int} (hT : TPE B L) (h0 : 0 ≤ t ∧ t ≤ 2043) (hs : so = 0 ∨ so = 1) : ∀ n, sO_ B L t so n ∧ sS_ B L t so n ∧ sK_ B L t so n ∧ sE_ B L t so n := by
  intro n
  induction n with
  | zero => exact ⟨fun q s w o π m N hn => by omega, fun q s w o π m N hn => by omega, fun q s w o π m N hn => by omega, fun q s w o π m N hn => by omega⟩
  | succ n ih =>
    obtain ⟨i1, i2, i3, i4⟩ := ih
    have j1 := sO_step hT h0 hs i1 i2 i4
    have j2 := sS_of hT h0 j1
    have j3 := sK_of hT h0 hs j2 i3
    exact ⟨j1, j2, j3, sE_of hT h0 j3⟩
