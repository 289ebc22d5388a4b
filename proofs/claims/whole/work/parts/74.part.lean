/-! THE MODEL'S LOOP: the next part of what is open -/
theorem bo_part {d L q w : Nat} {B : Int → Int} {t so o x y : Int} {N : Mm} {π base : List Int} (hT : TPE B L) (h : MSt B L t so N q w π o 1) (h0 : 0 ≤ t ∧ t ≤ 2043) (hl : π.length < 160) (hw : w + (stE 1 π).length ≤ 304) (ho : 0 ≤ o ∧ o ≤ 100) (hv : btw_ (tkT B L q) π < 0) (hx : opW π = x) (hx4 : 40 ≤ x) (hR : stR 1 π = x :: base) (hb1 : base.length < 160) (hp : prt_ (tkT B L q) x (cmpd π) = y) (hy : 0 < y) : ∃ N2, MSt B L t so N2 (nxQ B L q) (w + (stE 1 π).length) (y :: base) (o - shN (stE 1 π)) 0 ∧ WRT N2 t w (stE 1 π) ∧ FMo t w N N2 ∧ ∀ (r : Option Vv × Mm) (u : Vv), Ev (d + 7) K_Mo_summed 0 9 [(18, 400), (0, 0)] [] N2 r → Ev (d + 7) K_Mo_summed 0 9 [(18, 400), u] [] N r := by
  obtain ⟨hM, hP, g13, g14, g15, g18, g19⟩ := h
  have hbt := c_Mo_betweenOf (d := d + 3) hT hM hP (by omega)
  have hon := c_Mo_openNow (d := d + 4) hP (by omega)
  rw [hx] at hon
  have hpt := c_Mo_partOf (d := d + 2) (x := x) hT hM hP (by omega)
  rw [hp] at hpt
  obtain ⟨m1, s1, s2, s3, s4, s5, s6⟩ := c_Mo_settle (d := d + 4) (l := 1) h0 π N w o hP (by omega) g13 g14 hw g18 (by omega) (by omega)
  rw [hR] at s2
  generalize hE' : stE 1 π = E at *
  have s2' := s2
  obtain ⟨p1, p2, p3⟩ := s2
  rw [List.length_cons] at p1
  have hM1 : MTk B L m1 q := MTk_con hM (fun b hb => s6 _ _ (by omega) (by omega)) (fun b => s6 _ _ (by omega) (by omega))
  obtain ⟨m5, n1, n2, n3⟩ := adv_m (d := d + 4) hT hM1
  have hP5 : PIL m5 (x :: base) := PIL_con s2' (n3 _ _ (by omega)) (fun b => n3 _ _ (by omega))
  have hoa := c_Mo_openAt (d := d + 5) hP5 (by rw [List.length_cons]; omega)
  have eoa : opA (x :: base) = (base.length : Nat) := if_pos hx4
  rw [eoa] at hoa
  obtain ⟨M, hMe⟩ : ∃ M, M = up (up m5 406 (base.length : Nat) y) 400 19 0 := ⟨_, rfl⟩
  have F4 : ∀ b, b ≠ 19 → M 400 b = m5 400 b := fun b x1 => by rw [hMe, up_nk x1, up_ne (by omega)]
  have FO : ∀ a b, a ≠ 400 → a ≠ 406 → M a b = m5 a b := fun a b z1 z2 => by rw [hMe, up_ne z1, up_ne z2]
  refine ⟨M, ⟨MTk_con n2 (fun b hb => F4 b (by omega)) (fun b => FO _ _ (by omega) (by omega)), ⟨?_, ?_, ?_⟩, ?_, ?_, ?_, ?_, by rw [hMe, up_eq]⟩, WRT_con _ _ s5 (fun b _ => by rw [FO _ _ (by omega) (by omega), n3 _ _ (by omega)]), fun a b z1 z2 z3 => ?_, fun r u hr => ?_⟩
  · rw [F4 _ (by omega), n3 _ _ (by omega), p1, List.length_cons]
  · rw [hMe, up_ne (by omega), up_eq]
  · exact pil_con base p3 (fun b b0 b1 => by rw [hMe, up_ne (by omega), up_nk (by omega), n3 _ _ (by omega)])
  · rw [F4 _ (by omega), n3 _ _ (by omega), s6 _ _ (by omega) (by omega)]; exact g13
  · rw [F4 _ (by omega), n3 _ _ (by omega)]; exact s3
  · rw [F4 _ (by omega), n3 _ _ (by omega), s6 _ _ (by omega) (by omega)]; exact g15
  · rw [F4 _ (by omega), n3 _ _ (by omega)]; exact s4
  · by_cases ha : a = 400
    · rw [ha, F4 b (by omega), n3 _ _ (by omega), s6 _ _ (by omega) (by omega)]
    · rw [FO a b ha z3, n3 a b (by omega), s6 a b (by omega) z2]
  · have hb : Cl (d + 6) k_Mo_behindOne [(18, 400)] N (some (0, 0), M) := by
      refine cl_Mo_behindOne (b_Mo_behindOne ⟨_, _, hbt, fun _ => ⟨_, _, hon, _, _, hpt, fun _ => ⟨_, s1, _, n1, fun _ => ⟨_, _, hoa, by omega, ?_⟩, fun z => absurd (by omega) z⟩, fun z => absurd (by omega) z⟩, fun z => absurd hv z⟩)
      rintro m7 rfl
      rintro m8 rfl
      rw [hMe]
    exact b_Mo_summed_9 ⟨fun z => by omega, fun _ => ⟨_, _, hb, fun _ => ⟨fun z => absurd rfl z, fun _ => hr⟩, fun z => absurd (by decide) z⟩⟩
