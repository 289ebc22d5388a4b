/-! THE MODEL'S LOOP: what is open is shut, or goes to its next part -/
theorem bo_shut {d L q w : Nat} {B : Int → Int} {t so o x : Int} {N : Mm} {π base : List Int} (hT : TPE B L) (h : MSt B L t so N q w π o 1) (h0 : 0 ≤ t ∧ t ≤ 2043) (hl : π.length < 160) (hw : w + (stE 1 π).length < 304) (ho : 0 ≤ o ∧ o ≤ 100) (hn : -100 ≤ o - shN (stE 1 π)) (hn2 : o - shN (stE 1 π) ≤ 100) (hv : btw_ (tkT B L q) π < 0) (hx : opW π = x) (hR : stR 1 π = x :: base) (hb1 : base.length < 160) (hp : prt_ (tkT B L q) x (cmpd π) = 0) : ∃ N2, MSt B L t so N2 (nxQ B L q) (w + (stE 1 π).length + (if x = 44 then 1 else 0)) base (o - shN (stE 1 π) - 1) 1 ∧ WRT N2 t w (stE 1 π) ∧ (x = 44 → N2 403 (t + 73 + 2 * (w + (stE 1 π).length : Nat)) = 3) ∧ FMo t w N N2 ∧ ∀ (r : Option Vv × Mm) (u : Vv), RE (d + 5) N2 r → Ev (d + 7) K_Mo_summed 0 9 [(18, 400), u] [] N r := by
  obtain ⟨hM, hP, g13, g14, g15, g18, g19⟩ := h
  have hbt := c_Mo_betweenOf (d := d + 3) hT hM hP (by omega)
  have hon := c_Mo_openNow (d := d + 4) hP (by omega)
  rw [hx] at hon
  have hpt := c_Mo_partOf (d := d + 2) (x := x) hT hM hP (by omega)
  rw [hp] at hpt
  obtain ⟨m1, s1, s2, s3, s4, s5, s6⟩ := c_Mo_settle (d := d + 4) (l := 1) h0 π N w o hP (by omega) g13 g14 (by omega) g18 (by omega) (by omega)
  rw [hR] at s2
  generalize hE' : stE 1 π = E at *
  obtain ⟨p1, p2, p3⟩ := s2
  rw [List.length_cons] at p1
  have hM1 : MTk B L m1 q := MTk_con hM (fun b hb => s6 _ _ (by omega) (by omega)) (fun b => s6 _ _ (by omega) (by omega))
  obtain ⟨m5, n1, n2, n3⟩ := adv_m (d := d + 4) hT hM1
  have f17 : m5 400 17 = ((base.length + 1 : Nat) : Int) := by rw [n3 _ _ (by omega)]; exact p1
  have f18 : m5 400 18 = o - shN E := by rw [n3 _ _ (by omega)]; exact s4
  obtain ⟨M, hMe⟩ : ∃ M, M = up (up m5 400 18 (o - shN E - 1)) 400 17 (base.length : Nat) := ⟨_, rfl⟩
  have F4 : ∀ b, b ≠ 17 → b ≠ 18 → M 400 b = m5 400 b := fun b x1 x2 => by rw [hMe, up_nk x1, up_nk x2]
  have FO : ∀ a b, a ≠ 400 → M a b = m5 a b := fun a b y => by rw [hMe, up_ne y, up_ne y]
  have M14 : M 400 14 = ((w + E.length : Nat) : Int) := by rw [F4 _ (by omega) (by omega), n3 _ _ (by omega)]; exact s3
  have M13 : M 400 13 = t := by rw [F4 _ (by omega) (by omega), n3 _ _ (by omega), s6 _ _ (by omega) (by omega)]; exact g13
  have hst : MSt B L t so M (nxQ B L q) (w + E.length) base (o - shN E - 1) 1 := by
    refine ⟨MTk_con n2 (fun b hb => F4 b (by omega) (by omega)) (fun b => FO _ _ (by omega)), ⟨by rw [hMe, up_eq], pil_con base p3 (fun b _ _ => by rw [FO _ _ (by omega), n3 _ _ (by omega)])⟩, M13, M14, ?_, by rw [hMe, up_nk (by omega), up_eq], ?_⟩
    · rw [F4 _ (by omega) (by omega), n3 _ _ (by omega), s6 _ _ (by omega) (by omega)]; exact g15
    · rw [F4 _ (by omega) (by omega), n3 _ _ (by omega), s6 _ _ (by omega) (by omega)]; exact g19
  have hWR : WRT M t w E := WRT_con _ _ s5 (fun b _ => by rw [FO _ _ (by omega), n3 _ _ (by omega)])
  have hF : FMo t w N M := fun a b x y z => by
    by_cases ha : a = 400
    · rw [ha, F4 b (by omega) (by omega), n3 _ _ (by omega), s6 _ _ (by omega) (by omega)]
    · rw [FO a b ha, n3 a b (by omega), s6 a b (by omega) y]
  -- what behindOne gives is what endOne gives
  have fin : ∀ (M' : Mm) (r : Option Vv × Mm) (u : Vv), (∀ (v : Int) (N1 : Mm), Cl (d + 5) k_Mo_endOne [(18, 400)] M' (some (0, v), N1) → Cl (d + 6) k_Mo_behindOne [(18, 400)] N (some (0, v), N1)) → RE (d + 5) M' r → Ev (d + 7) K_Mo_summed 0 9 [(18, 400), u] [] N r := by
    intro M' r u hB hr
    obtain ⟨v, N1, r1, r2, r3, r4⟩ := hr
    refine b_Mo_summed_9 ⟨fun z => by omega, fun _ => ⟨_, _, hB v N1 r1, fun z => ⟨fun z2 => by omega, fun z2 => ?_⟩, fun z => r3 (by omega)⟩⟩
    have hv0 : v = 0 := by omega
    subst hv0
    exact r4 rfl
  by_cases h44 : x = 44
  · have hem := c_Mo_emit (d := d + 5) (x := 3) (y := 0) M13 h0 M14 (by omega)
    obtain ⟨M', hM'⟩ : ∃ M', M' = up (up (up M 403 (t + 73 + 2 * (w + E.length : Nat)) 3) 403 (t + 74 + 2 * (w + E.length : Nat)) 0) 400 14 ((w + E.length + 1 : Nat) : Int) := ⟨_, rfl⟩
    rw [← hM'] at hem
    have G4 : ∀ b, b ≠ 14 → M' 400 b = M 400 b := fun b hb => by rw [hM', up_nk hb, up_ne (by omega), up_ne (by omega)]
    have GO : ∀ a b, a ≠ 400 → a ≠ 403 → M' a b = M a b := fun a b y z => by rw [hM', up_ne y, up_ne z, up_ne z]
    obtain ⟨k1, k2, k3, k4, k5, k6, k7⟩ := hst
    rw [if_pos h44]
    refine ⟨M', ⟨MTk_con k1 (fun b hb => G4 b (by omega)) (fun b => GO _ _ (by omega) (by omega)), PIL_con k2 (G4 _ (by omega)) (fun b => GO _ _ (by omega) (by omega)), by rw [G4 _ (by omega)]; exact k3, by rw [hM', up_eq], by rw [G4 _ (by omega)]; exact k5, by rw [G4 _ (by omega)]; exact k6, by rw [G4 _ (by omega)]; exact k7⟩, ?_, fun _ => ?_, fun a b y1 y2 y3 => ?_, fun r u hr => fin M' r u (fun v N1 hE1 => ?_) hr⟩
    · have : ∀ (x : List Int) (j : Nat), j + x.length = w + E.length → WRT M t j x → WRT M' t j x := by
        intro x
        induction x with
        | nil => exact fun _ _ _ => trivial
        | cons y r ih =>
          intro j hj hw
          rw [List.length_cons] at hj
          have e : ∀ b, b < t + 73 + 2 * (w + E.length : Nat) → M' 403 b = M 403 b := fun b hb => by rw [hM', up_ne (by omega), up_nk (by omega), up_nk (by omega)]
          exact ⟨by rw [e _ (by omega)]; exact hw.1, by rw [e _ (by omega)]; exact hw.2.1, ih (j + 1) (by omega) hw.2.2⟩
      exact this E w rfl hWR
    · rw [hM', up_ne (by omega), up_nk (by omega), up_eq]
    · rw [← hF a b y1 y2 y3, hM']
      unfold up
      rw [if_neg (by omega), if_neg (by omega), if_neg (by omega)]
    · refine cl_Mo_behindOne (b_Mo_behindOne ⟨_, _, hbt, fun _ => ⟨_, _, hon, _, _, hpt, fun _ => ⟨_, s1, _, n1, fun z => absurd rfl z, fun _ => ?_⟩, fun z => absurd (by decide) z⟩, fun z => absurd hv z⟩)
      rintro m9 rfl
      rintro m10 rfl
      rw [f18, w32n (x := o - shN E - 1) (by omega) (by omega), up_nk (by omega), f17, w32n (by omega) (by omega), show ((base.length + 1 : Nat) : Int) - 1 = (base.length : Nat) by omega, ← hMe]
      exact ⟨fun z => absurd h44 z, fun _ => ⟨_, hem, _, _, hE1, rfl⟩⟩
  · rw [if_neg h44]
    refine ⟨M, hst, hWR, fun z => absurd z h44, hF, fun r u hr => fin M r u (fun v N1 hE1 => ?_) hr⟩
    refine cl_Mo_behindOne (b_Mo_behindOne ⟨_, _, hbt, fun _ => ⟨_, _, hon, _, _, hpt, fun _ => ⟨_, s1, _, n1, fun z => absurd rfl z, fun _ => ?_⟩, fun z => absurd (by decide) z⟩, fun z => absurd hv z⟩)
    rintro m9 rfl
    rintro m10 rfl
    rw [f18, w32n (x := o - shN E - 1) (by omega) (by omega), up_nk (by omega), f17, w32n (by omega) (by omega), show ((base.length + 1 : Nat) : Int) - 1 = (base.length : Nat) by omega, ← hMe]
    exact ⟨fun _ => ⟨_, _, hE1, rfl⟩, fun z => absurd h44 z⟩
