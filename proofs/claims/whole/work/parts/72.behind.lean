/-! THE MODEL'S LOOP: it goes on behind one -/
def lst_ (v : Int) : Int := if rk v = 4 then 5 else rk v
theorem bo_op {d L q w : Nat} {B : Int → Int} {t so o : Int} {N : Mm} {π : List Int} (hT : TPE B L) (h : MSt B L t so N q w π o 1) (h0 : 0 ≤ t ∧ t ≤ 2043) (hl : π.length < 160) (hw : w + π.length ≤ 304) (ho : 0 ≤ o ∧ o ≤ 100) (hv : 0 ≤ btw_ (tkT B L q) π) (hR : (stR (lst_ (btw_ (tkT B L q) π)) π).length ≤ π.length) (hE : (stE (lst_ (btw_ (tkT B L q) π)) π).length ≤ π.length) : ∃ N2, MSt B L t so N2 (nxQ B L q) (w + (stE (lst_ (btw_ (tkT B L q) π)) π).length) (btw_ (tkT B L q) π :: stR (lst_ (btw_ (tkT B L q) π)) π) (o - shN (stE (lst_ (btw_ (tkT B L q) π)) π)) 0 ∧ WRT N2 t w (stE (lst_ (btw_ (tkT B L q) π)) π) ∧ FMo t w N N2 ∧ ∀ (r : Option Vv × Mm) (u : Vv), Ev (d + 7) K_Mo_summed 0 9 [(18, 400), (0, 0)] [] N2 r → Ev (d + 7) K_Mo_summed 0 9 [(18, 400), u] [] N r := by
  obtain ⟨hM, hP, g13, g14, g15, g18, g19⟩ := h
  have hbt := c_Mo_betweenOf (d := d + 3) hT hM hP (by omega)
  generalize hvv : btw_ (tkT B L q) π = v at *
  obtain ⟨m1, s1, s2, s3, s4, s5, s6⟩ := c_Mo_settle (d := d + 4) (l := lst_ v) h0 π N w o hP (by omega) g13 g14 (by omega) g18 (by omega) (by omega)
  generalize hE' : stE (lst_ v) π = E at *
  generalize hR' : stR (lst_ v) π = Q at *
  obtain ⟨p1, p2⟩ := s2
  obtain ⟨M, hMe⟩ : ∃ M, M = up (up (up m1 406 (Q.length : Nat) v) 400 17 ((Q.length + 1 : Nat) : Int)) 400 19 0 := ⟨_, rfl⟩
  have F4 : ∀ b, b ≠ 17 → b ≠ 19 → M 400 b = m1 400 b := fun b x1 x2 => by rw [hMe, up_nk x2, up_nk x1, up_ne (by omega)]
  have FO : ∀ a b, a ≠ 400 → a ≠ 406 → M a b = m1 a b := fun a b x y => by rw [hMe, up_ne x, up_ne x, up_ne y]
  have hM1 : MTk B L M q := MTk_con hM (fun b hb => by rw [F4 _ (by omega) (by omega), s6 _ _ (by omega) (by omega)]) (fun b => by rw [FO _ _ (by omega) (by omega), s6 _ _ (by omega) (by omega)])
  obtain ⟨N2, n1, n2, n3⟩ := adv_m (d := d + 4) hT hM1
  refine ⟨N2, ⟨n2, ⟨?_, ?_, ?_⟩, ?_, ?_, ?_, ?_, ?_⟩, ?_, fun a b x y z => ?_, fun r u hr => ?_⟩
  · rw [n3 _ _ (by omega), hMe, up_nk (by omega), up_eq, List.length_cons]
  · rw [n3 _ _ (by omega), hMe, up_ne (by omega), up_ne (by omega), up_eq]
  · exact pil_con Q p2 (fun b b0 b1 => by rw [n3 _ _ (by omega), hMe, up_ne (by omega), up_ne (by omega), up_nk (by omega)])
  · rw [n3 _ _ (by omega), F4 _ (by omega) (by omega), s6 _ _ (by omega) (by omega)]; exact g13
  · rw [n3 _ _ (by omega), F4 _ (by omega) (by omega)]; exact s3
  · rw [n3 _ _ (by omega), F4 _ (by omega) (by omega), s6 _ _ (by omega) (by omega)]; exact g15
  · rw [n3 _ _ (by omega), F4 _ (by omega) (by omega)]; exact s4
  · rw [n3 _ _ (by omega), hMe, up_eq]
  · exact WRT_con _ _ s5 (fun b _ => by rw [n3 _ _ (by omega), FO _ _ (by omega) (by omega)])
  · rw [n3 a b (by omega)]
    by_cases ha : a = 400
    · rw [ha, F4 b (by omega) (by omega), s6 _ _ (by omega) (by omega)]
    · rw [FO a b ha z, s6 a b (by omega) y]
  · have hb : Cl (d + 6) k_Mo_behindOne [(18, 400)] N (some (0, 0), N2) := by
      refine cl_Mo_behindOne (b_Mo_behindOne ⟨_, _, hbt, fun z => by omega, fun _ => ⟨_, _, c_Mo_rank, fun z => ?_, fun z => ?_⟩⟩)
      · have e : lst_ v = rk v := if_neg z
        rw [e] at s1
        refine ⟨_, _, c_Mo_rank, _, s1, by rw [p1]; omega, ?_⟩
        rintro m17 rfl
        rintro m18 rfl
        rintro m19 rfl
        rw [up_ne (by omega), p1, w32s (by omega), ← hMe]
        exact ⟨_, n1, rfl⟩
      · have e : lst_ v = 5 := if_pos (Classical.not_not.mp z)
        rw [e] at s1
        refine ⟨_, s1, by rw [p1]; omega, ?_⟩
        rintro m17 rfl
        rintro m18 rfl
        rintro m19 rfl
        rw [up_ne (by omega), p1, w32s (by omega), ← hMe]
        exact ⟨_, n1, rfl⟩
    exact b_Mo_summed_9 ⟨fun z => by omega, fun _ => ⟨_, _, hb, fun _ => ⟨fun z => absurd rfl z, fun _ => hr⟩, fun z => absurd (by decide) z⟩⟩
/-- it can not go on: at the end of all it is settled, else it is a fault -/
theorem bo_end {d L q w : Nat} {B : Int → Int} {t so o : Int} {N : Mm} {π : List Int} (hT : TPE B L) (h : MSt B L t so N q w π o 1) (h0 : 0 ≤ t ∧ t ≤ 2043) (hl : π.length < 160) (hw : w + (stE 1 π).length ≤ 304) (ho : 0 ≤ o ∧ o ≤ 100) (hv : btw_ (tkT B L q) π < 0) (hp : prt_ (tkT B L q) (opW π) (cmpd π) < 0) : (opW π < 0 → ∃ N2, MSt B L t so N2 q (w + (stE 1 π).length) (stR 1 π) (o - shN (stE 1 π)) 1 ∧ WRT N2 t w (stE 1 π) ∧ FMo t w N N2 ∧ ∀ u : Vv, Ev (d + 7) K_Mo_summed 0 9 [(18, 400), u] [] N (some (0, 0), N2)) ∧ (¬ opW π < 0 → ∀ u : Vv, Ev (d + 7) K_Mo_summed 0 9 [(18, 400), u] [] N (some (0, 1), N)) := by
  obtain ⟨hM, hP, g13, g14, g15, g18, g19⟩ := h
  have hbt := c_Mo_betweenOf (d := d + 3) hT hM hP (by omega)
  have hpt := c_Mo_partOf (d := d + 2) (x := opW π) hT hM hP (by omega)
  have hb : Cl (d + 6) k_Mo_behindOne [(18, 400)] N (some (0, -1), N) := cl_Mo_behindOne (b_Mo_behindOne ⟨_, _, hbt, fun _ => ⟨_, _, c_Mo_openNow hP (by omega), _, _, hpt, fun z => by omega, fun _ => rfl⟩, fun z => absurd hv z⟩)
  refine ⟨fun z => ?_, fun z u => ?_⟩
  · obtain ⟨m1, s1, s2, s3, s4, s5, s6⟩ := c_Mo_settle (d := d + 5) (l := 1) h0 π N w o hP (by omega) g13 g14 hw g18 (by omega) (by omega)
    refine ⟨m1, ⟨MTk_con hM (fun b hb => s6 _ _ (by omega) (by omega)) (fun b => s6 _ _ (by omega) (by omega)), s2, by rw [s6 _ _ (by omega) (by omega)]; exact g13, s3, by rw [s6 _ _ (by omega) (by omega)]; exact g15, s4, by rw [s6 _ _ (by omega) (by omega)]; exact g19⟩, s5, fun a b x y _ => s6 a b (by omega) y, fun u => ?_⟩
    exact b_Mo_summed_9 ⟨fun z2 => by omega, fun _ => ⟨_, _, hb, fun _ => ⟨fun _ => ⟨_, _, c_Mo_openNow hP (by omega), fun _ => ⟨_, s1, rfl⟩, fun z2 => absurd z z2⟩, fun z2 => absurd (by decide) z2⟩, fun z2 => absurd (by decide) z2⟩⟩
  · exact b_Mo_summed_9 ⟨fun z2 => by omega, fun _ => ⟨_, _, hb, fun _ => ⟨fun _ => ⟨_, _, c_Mo_openNow hP (by omega), fun z2 => absurd z2 z, fun _ => rfl⟩, fun z2 => absurd (by decide) z2⟩, fun z2 => absurd (by decide) z2⟩⟩
