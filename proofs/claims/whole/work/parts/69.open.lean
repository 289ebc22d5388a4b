/-! THE MODEL'S LOOP: what opens, what can not stand -/
def opk (T : Int) (k : Bool) : Int := if T = 11 then 40 else if T = 8 then 5 else if T = 33 then 41 else if T = 35 then 2 else if T = 36 then 42 else if T = 42 ∧ k = true then 20 else -1
theorem c_Mo_opened {d L q w : Nat} {B : Int → Int} {t so o wh op : Int} {N : Mm} {π : List Int} (hT : TPE B L) (h : MSt B L t so N q w π o wh) (ho : 0 ≤ o ∧ o < 8) (hl : π.length < 160) : ∃ N2, Cl (d + 2) k_Mo_opened [(18, 400), (0, op)] N (some (0, 0), N2) ∧ MSt B L t so N2 (nxQ B L q) w (op :: π) (o + 1) wh ∧ FMo t w N N2 := by
  obtain ⟨hM, hP, g13, g14, g15, g18, g19⟩ := h
  obtain ⟨p1, p2⟩ := hP
  obtain ⟨M, hMe⟩ : ∃ M, M = up (up (up N 400 18 (o + 1)) 406 (π.length : Nat) op) 400 17 ((π.length + 1 : Nat) : Int) := ⟨_, rfl⟩
  have F4 : ∀ b, b ≠ 17 → b ≠ 18 → M 400 b = N 400 b := fun b h1 h2 => by rw [hMe, up_nk h1, up_ne (by omega), up_nk h2]
  have FO : ∀ a b, a ≠ 400 → a ≠ 406 → M a b = N a b := fun a b x y => by rw [hMe, up_ne x, up_ne y, up_ne x]
  have hMM : MTk B L M q := MTk_con hM (fun b hb => F4 b (by omega) (by omega)) (fun b => FO _ _ (by omega) (by omega))
  obtain ⟨N2, n1, n2, n3⟩ := adv_m (d := d) hT hMM
  have e6 : ∀ b, N2 406 b = M 406 b := fun b => n3 _ _ (by omega)
  refine ⟨N2, cl_Mo_opened (b_Mo_opened ⟨fun _ => ?_, fun z => absurd (by rw [g18]; omega) z⟩), ⟨n2, ⟨?_, ?_, ?_⟩, by rw [n3 _ _ (by omega), F4 _ (by omega) (by omega)]; exact g13, by rw [n3 _ _ (by omega), F4 _ (by omega) (by omega)]; exact g14, by rw [n3 _ _ (by omega), F4 _ (by omega) (by omega)]; exact g15, ?_, by rw [n3 _ _ (by omega), F4 _ (by omega) (by omega)]; exact g19⟩, fun a b x y z => ?_⟩
  · rintro m1 rfl
    rw [g18, w32n (by omega) (by omega), up_nk (by omega), p1]
    refine ⟨by omega, ?_⟩
    rintro m2 rfl
    rintro m3 rfl
    rw [up_ne (by omega), up_nk (by omega), p1, w32s (by omega), ← hMe]
    exact ⟨_, n1, rfl⟩
  · rw [n3 _ _ (by omega), hMe, up_eq, List.length_cons]
  · rw [e6, hMe, up_ne (by omega), up_eq]
  · refine pil_con π p2 (fun b b0 b1 => ?_)
    rw [e6, hMe, up_ne (by omega), up_nk (by omega), up_ne (by omega)]
  · rw [n3 _ _ (by omega), hMe, up_nk (by omega), up_ne (by omega), up_eq]
  · rw [n3 a b (by omega), hMe]
    unfold up
    rw [if_neg (by omega), if_neg (by omega), if_neg (by omega)]
theorem c_Mo_opened8 {d : Nat} {N : Mm} {op : Int} (h : N 400 18 = 8) : Cl (d + 1) k_Mo_opened [(18, 400), (0, op)] N (some (0, 3), N) := cl_Mo_opened (b_Mo_opened ⟨fun z => absurd h z, fun _ => rfl⟩)
/-- neither number nor name: by the table -/
theorem mo_b21o {d L q w : Nat} {B : Int → Int} {t so o wh : Int} {N : Mm} {π : List Int} {r : Option Vv × Mm} (hT : TPE B L) (h : MSt B L t so N q w π o wh) (hl : π.length ≤ 160) (h2 : tkT B L q ≠ 2) (hn : ¬ (24 ≤ tkT B L q ∧ tkT B L q ≤ 30)) (hop : opk (tkT B L q) (askA π) ≠ -1 → ∃ v N', Cl (d + 5) k_Mo_opened [(18, 400), (0, opk (tkT B L q) (askA π))] N (some (0, v), N') ∧ r = (some (0, v), N')) (hbad : opk (tkT B L q) (askA π) = -1 → r = (some (0, 1), N)) : Ev (d + 6) K_Mo_beginOne 0 21 [(18, 400), (0, nmv (tkT B L q))] [] N r := by
  obtain ⟨hM, hP, g13, g14, g15, g18, g19⟩ := h
  have hM' := hM
  obtain ⟨a1, a2, a3, a4, a5, a6, a7, a8⟩ := hM
  have s11 := tk_s (q := q) hT.2 (x := (11, 40)) (by decide)
  have s8 := tk_s (q := q) hT.2 (x := (8, 45)) (by decide)
  have e2 := tk_2 (q := q) hT.2
  have w33 := isW_m (d := d + 5) (i := 17) hT hM' (by decide) rfl
  have w35 := isW_m (d := d + 5) (i := 19) hT hM' (by decide) rfl
  have w36 := isW_m (d := d + 5) (i := 20) hT hM' (by decide) rfl
  have w42 := isW_m (d := d + 5) (i := 26) hT hM' (by decide) rfl
  rw [show (16 : Int) + ((17 : Nat) : Int) = 33 from rfl] at w33
  rw [show (16 : Int) + ((19 : Nat) : Int) = 35 from rfl] at w35
  rw [show (16 : Int) + ((20 : Nat) : Int) = 36 from rfl] at w36
  rw [show (16 : Int) + ((26 : Nat) : Int) = 42 from rfl] at w42
  have hnv : nmv (tkT B L q) = -1 := if_neg hn
  rw [hnv]
  refine b_Mo_beginOne_21 ⟨fun z => absurd (e2.mpr (by rw [← a4]; exact z)) h2, fun _ => ⟨fun _ => ⟨fun z1 => ⟨fun z2 => ?_, fun z2 => ?_⟩, fun z1 => ?_⟩, fun z => absurd (by decide) z⟩⟩
  · have n11 : ¬ tkT B L q = 11 := fun y => z1 (by rw [a4]; exact s11.mp y)
    have n8 : ¬ tkT B L q = 8 := fun y => z2 (by rw [a4]; exact s8.mp y)
    refine ⟨_, _, c_Mo_w3 (by decide), _, _, w33, fun z3 => ⟨_, _, c_Mo_w5 (by decide), _, _, w35, fun z4 => ⟨_, _, c_Mo_w2 (by decide), _, _, w36, fun z5 => ⟨_, _, c_Mo_w3 (by decide), _, _, w42, fun z6 => ?_, fun z6 => ⟨_, _, c_Mo_isAskAhead hP hl, fun z7 => ?_, fun z7 => ?_⟩⟩, fun z5 => ?_⟩, fun z4 => ?_⟩, fun z3 => ?_⟩
    · rw [ite_z] at z3 z4 z5 z6
      refine hbad ?_
      unfold opk
      rw [if_neg n11, if_neg n8, if_neg z3, if_neg z4, if_neg z5, if_neg (fun y => z6 y.1)]
    · rw [ite_z] at z3 z4 z5 z7
      refine hbad ?_
      unfold opk
      rw [if_neg n11, if_neg n8, if_neg z3, if_neg z4, if_neg z5, if_neg (fun y => z7 y.2)]
    · rw [ite_z] at z3 z4 z5
      rw [ite_z1] at z6 z7
      have e : opk (tkT B L q) (askA π) = 20 := by
        unfold opk
        rw [if_neg n11, if_neg n8, if_neg z3, if_neg z4, if_neg z5, if_pos ⟨z6, z7⟩]
      rw [e] at hop
      exact hop (by decide)
    · rw [ite_z] at z3 z4
      rw [ite_z1] at z5
      have e : opk (tkT B L q) (askA π) = 42 := by
        unfold opk
        rw [if_neg n11, if_neg n8, if_neg z3, if_neg z4, if_pos z5]
      rw [e] at hop
      exact hop (by decide)
    · rw [ite_z] at z3
      rw [ite_z1] at z4
      have e : opk (tkT B L q) (askA π) = 2 := by
        unfold opk
        rw [if_neg n11, if_neg n8, if_neg z3, if_pos z4]
      rw [e] at hop
      exact hop (by decide)
    · rw [ite_z1] at z3
      have e : opk (tkT B L q) (askA π) = 41 := by
        unfold opk
        rw [if_neg n11, if_neg n8, if_pos z3]
      rw [e] at hop
      exact hop (by decide)
  · rw [Classical.not_not, a4] at z2
    have e : opk (tkT B L q) (askA π) = 5 := by
      unfold opk
      rw [if_neg (by rw [s8.mpr z2]; decide), if_pos (s8.mpr z2)]
    rw [e] at hop
    exact hop (by decide)
  · rw [Classical.not_not, a4] at z1
    have e : opk (tkT B L q) (askA π) = 40 := if_pos (s11.mpr z1)
    rw [e] at hop
    exact hop (by decide)
/-- it opens -/
theorem mo_open {d L q w : Nat} {B : Int → Int} {t so o : Int} {N : Mm} {π : List Int} (hT : TPE B L) (h : MSt B L t so N q w π o 0) (hs : so = 0 ∨ so = 1) (ho : 0 ≤ o ∧ o < 8) (hl : π.length < 160) (h2 : tkT B L q ≠ 2) (hn : ¬ (24 ≤ tkT B L q ∧ tkT B L q ≤ 30)) (hop : opk (tkT B L q) (askA π) ≠ -1) : ∃ N2, MSt B L t so N2 (nxQ B L q) w (opk (tkT B L q) (askA π) :: π) (o + 1) 0 ∧ FMo t w N N2 ∧ ∀ (r : Option Vv × Mm) (u : Vv), Ev (d + 7) K_Mo_summed 0 9 [(18, 400), (0, 0)] [] N2 r → Ev (d + 7) K_Mo_summed 0 9 [(18, 400), u] [] N r := by
  obtain ⟨N2, c1, c2, c3⟩ := c_Mo_opened (d := d + 3) (op := opk (tkT B L q) (askA π)) hT h ho hl
  refine ⟨N2, c2, c3, fun r u hr => ?_⟩
  have hb : Cl (d + 6) k_Mo_beginOne [(18, 400)] N (some (0, 0), N2) := cl_Mo_beginOne (mo_b21 hT h hs (fun z => absurd z h2) (fun z => by unfold nmv at z; rw [if_neg hn] at z; omega) (mo_b21o hT h (by omega) h2 hn (fun _ => ⟨_, _, c1, rfl⟩) (fun z => absurd z hop)))
  exact b_Mo_summed_9 ⟨fun _ => ⟨_, _, hb, fun _ => ⟨fun z => absurd rfl z, fun _ => hr⟩, fun z => absurd (by decide) z⟩, fun z => absurd h.2.2.2.2.2.2 z⟩
theorem mo_end {d : Nat} {N : Mm} {v : Int} (hb : Cl (d + 6) k_Mo_beginOne [(18, 400)] N (some (0, v), N)) (hv : 0 < v) (h19 : N 400 19 = 0) (u : Vv) : Ev (d + 7) K_Mo_summed 0 9 [(18, 400), u] [] N (some (0, v), N) :=
  b_Mo_summed_9 ⟨fun _ => ⟨_, _, hb, fun z => by omega, fun _ => rfl⟩, fun z => absurd h19 z⟩
/-- too many open, or it can not stand here -/
theorem mo_open8 {d L q w : Nat} {B : Int → Int} {t so : Int} {N : Mm} {π : List Int} (hT : TPE B L) (h : MSt B L t so N q w π 8 0) (hs : so = 0 ∨ so = 1) (hl : π.length ≤ 160) (h2 : tkT B L q ≠ 2) (hn : ¬ (24 ≤ tkT B L q ∧ tkT B L q ≤ 30)) (hop : opk (tkT B L q) (askA π) ≠ -1) (u : Vv) : Ev (d + 7) K_Mo_summed 0 9 [(18, 400), u] [] N (some (0, 3), N) := by
  refine mo_end (cl_Mo_beginOne (mo_b21 hT h hs (fun z => absurd z h2) (fun z => by unfold nmv at z; rw [if_neg hn] at z; omega) (mo_b21o hT h hl h2 hn (fun _ => ⟨_, _, c_Mo_opened8 h.2.2.2.2.2.1, rfl⟩) (fun z => absurd z hop)))) (by decide) h.2.2.2.2.2.2 u
theorem mo_bad {d L q w : Nat} {B : Int → Int} {t so o : Int} {N : Mm} {π : List Int} (hT : TPE B L) (h : MSt B L t so N q w π o 0) (hs : so = 0 ∨ so = 1) (hl : π.length ≤ 160) (h2 : tkT B L q ≠ 2) (hn : ¬ (24 ≤ tkT B L q ∧ tkT B L q ≤ 30)) (hop : opk (tkT B L q) (askA π) = -1) (u : Vv) : Ev (d + 7) K_Mo_summed 0 9 [(18, 400), u] [] N (some (0, 1), N) := by
  refine mo_end (cl_Mo_beginOne (mo_b21 hT h hs (fun z => absurd z h2) (fun z => by unfold nmv at z; rw [if_neg hn] at z; omega) (mo_b21o hT h hl h2 hn (fun z => absurd hop z) (fun _ => rfl)))) (by decide) h.2.2.2.2.2.2 u
theorem mo_numbad {d L q w : Nat} {B : Int → Int} {t so o : Int} {N : Mm} {π : List Int} (hT : TPE B L) (h : MSt B L t so N q w π o 0) (h2 : tkT B L q = 2) (h9 : ¬ tkV B L q ≤ 9999) (u : Vv) : Ev (d + 7) K_Mo_summed 0 9 [(18, 400), u] [] N (some (0, 2), N) := by
  obtain ⟨hM, hP, g13, g14, g15, g18, g19⟩ := h
  obtain ⟨a1, a2, a3, a4, a5, a6, a7, a8⟩ := hM
  have e2 := (tk_2 (q := q) hT.2).mp h2
  obtain ⟨ev, ev0⟩ := tk_v (B := B) (L := L) (q := q)
  refine mo_end (cl_Mo_beginOne (b_Mo_beginOne ⟨fun z => absurd (by rw [a4]; exact e2) z, fun _ => ⟨fun z => ?_, fun _ => rfl⟩⟩)) (by decide) g19 u
  rw [a7 e2] at z
  omega
theorem mo_namebad {d L q w : Nat} {B : Int → Int} {t so o : Int} {N : Mm} {π : List Int} (hT : TPE B L) (h : MSt B L t so N q w π o 0) (hs : so = 0 ∨ so = 1) (hn : 24 ≤ tkT B L q ∧ tkT B L q ≤ 30) (h9 : ¬ nmok so (tkT B L q - 24)) (u : Vv) : Ev (d + 7) K_Mo_summed 0 9 [(18, 400), u] [] N (some (0, 5), N) := by
  obtain ⟨hM, hP, g13, g14, g15, g18, g19⟩ := h
  have hnm := c_Mo_nameOf (d := d) hT hM
  rw [if_pos hn] at hnm
  obtain ⟨a1, a2, a3, a4, a5, a6, a7, a8⟩ := hM
  have e2 : ¬ tkM B L q = 1 := fun y => by have := (tk_2 (q := q) hT.2).mpr y; omega
  have hof := c_Mo_isOf (d := d + 5) (k := tkT B L q - 24) g15 hs (by omega)
  unfold nmok at h9
  rw [if_neg h9] at hof
  exact mo_end (cl_Mo_beginOne (b_Mo_beginOne ⟨fun _ => ⟨_, _, hnm, fun z => by omega, fun _ => ⟨_, _, hof, fun z => absurd rfl z, fun _ => rfl⟩⟩, fun z => absurd (by rw [a4]; exact e2) z⟩)) (by decide) g19 u
