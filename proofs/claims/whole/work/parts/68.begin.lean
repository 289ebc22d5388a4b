/-! THE MODEL'S LOOP: what begins -/
def MSt (B : Int → Int) (L : Nat) (t so : Int) (N : Mm) (q w : Nat) (π : List Int) (o wh : Int) : Prop := MTk B L N q ∧ PIL N π ∧ N 400 13 = t ∧ N 400 14 = (w : Nat) ∧ N 400 15 = so ∧ N 400 18 = o ∧ N 400 19 = wh
def FMo (t : Int) (w : Nat) (N N' : Mm) : Prop := ∀ a b, ¬ (a = 400 ∧ 8 ≤ b ∧ b ≤ 19) → ¬ (a = 403 ∧ t + 73 + 2 * w ≤ b) → a ≠ 406 → N' a b = N a b
theorem FMo.tr {t : Int} {w w2 : Nat} {N N1 N2 : Mm} (h1 : FMo t w N N1) (h2 : FMo t w2 N1 N2) (hw : w ≤ w2) : FMo t w N N2 := fun a b x y z => by rw [h2 a b x (by omega) z, h1 a b x y z]
/-- the rest from endOne on -/
def RE (d : Nat) (N : Mm) (r : Option Vv × Mm) : Prop := ∃ v N1, Cl d k_Mo_endOne [(18, 400)] N (some (0, v), N1) ∧ 0 ≤ v ∧ (0 < v → r = (some (0, v), N1)) ∧ (v = 0 → Ev (d + 2) K_Mo_summed 0 9 [(18, 400), (0, 0)] [] N1 r)
theorem c_Mo_isOf {d : Nat} {m : Mm} {k so : Int} (h : m 400 15 = so) (hs : so = 0 ∨ so = 1) (hk : 0 ≤ k ∧ k < 7) : Cl d k_Mo_isOf [(18, 400), (0, k)] m (some (0, if k < 4 ∨ (k = 4 ∧ so = 0) ∨ (4 < k ∧ so = 1) then 1 else 0), m) := by
  refine cl_Mo_isOf (b_Mo_isOf ⟨fun z => ?_, fun z => ⟨fun z2 => ⟨fun z3 => ?_, fun z3 => ?_⟩, fun z2 => ⟨fun z3 => ?_, fun z3 => ?_⟩⟩⟩)
  · rw [if_pos (by omega)]
  · rw [if_neg (by omega)]
  · rw [if_pos (by omega)]
  · rw [if_neg (by omega)]
  · rw [if_pos (by omega)]
def nmv (T : Int) : Int := if 24 ≤ T ∧ T ≤ 30 then T - 24 else -1
def nmok (so k : Int) : Prop := k < 4 ∨ (k = 4 ∧ so = 0) ∨ (4 < k ∧ so = 1)
theorem mo_b21 {d L q w : Nat} {B : Int → Int} {t so o wh : Int} {N : Mm} {π : List Int} {r : Option Vv × Mm} (hT : TPE B L) (h : MSt B L t so N q w π o wh) (hs : so = 0 ∨ so = 1) (h2 : tkT B L q = 2 → tkV B L q ≤ 9999) (hn : 0 ≤ nmv (tkT B L q) → nmok so (nmv (tkT B L q))) (hk : Ev (d + 6) K_Mo_beginOne 0 21 [(18, 400), (0, nmv (tkT B L q))] [] N r) : Ev (d + 6) K_Mo_beginOne 0 0 [(18, 400), (9, 0)] [] N r := by
  obtain ⟨hM, hP, g13, g14, g15, g18, g19⟩ := h
  have hM' := hM
  obtain ⟨a1, a2, a3, a4, a5, a6, a7, a8⟩ := hM
  have e2 := tk_2 (q := q) hT.2
  obtain ⟨ev, ev0⟩ := tk_v (B := B) (L := L) (q := q)
  have hnm := c_Mo_nameOf (d := d) hT hM'
  have hnm' : Cl (d + 5) k_Mo_nameOf [(18, 400)] N (some (0, nmv (tkT B L q)), N) := hnm
  have hr : 0 ≤ nmv (tkT B L q) → nmv (tkT B L q) < 7 := fun _ => by unfold nmv; split <;> omega
  have fin : (nmv (tkT B L q) < 0 → Ev (d + 6) K_Mo_beginOne 0 21 [(18, 400), (0, nmv (tkT B L q))] [] N r) ∧ (¬ (nmv (tkT B L q) < 0) → ∃ (v2 : Int) (m2 : Mm), Cl (d + 5) k_Mo_isOf [(18, 400), (0, nmv (tkT B L q))] N (some (0, v2), m2) ∧ ((¬ v2 = 0 → Ev (d + 6) K_Mo_beginOne 0 21 [(18, 400), (0, nmv (tkT B L q))] [] m2 r) ∧ (¬ (¬ v2 = 0) → r = (some (0, 5), m2)))) := by
    refine ⟨fun _ => hk, fun z => ⟨_, _, c_Mo_isOf g15 hs ⟨by omega, hr (by omega)⟩, fun _ => hk, fun z2 => ?_⟩⟩
    rw [Classical.not_not, ite_z] at z2
    exact absurd (hn (by omega)) z2
  refine b_Mo_beginOne ⟨fun z => ⟨_, _, hnm', fin⟩, fun z => ⟨fun z2 => ⟨_, _, hnm', fin⟩, fun z2 => ?_⟩⟩
  rw [Classical.not_not, a4] at z
  have := h2 (e2.mpr z)
  rw [a7 z] at z2
  omega
/-- a number or a name -/
theorem mo_leaf {d L q w : Nat} {B : Int → Int} {t so o : Int} {N : Mm} {π : List Int} (hT : TPE B L) (h : MSt B L t so N q w π o 0) (h0 : 0 ≤ t ∧ t ≤ 2043) (hw : w < 304) (hs : so = 0 ∨ so = 1) (hl : (tkT B L q = 2 ∧ tkV B L q ≤ 9999) ∨ ((24 ≤ tkT B L q ∧ tkT B L q ≤ 30) ∧ nmok so (tkT B L q - 24))) : ∃ N2, MSt B L t so N2 (nxQ B L q) (w + 1) π o 0 ∧ N2 403 (t + 73 + 2 * w) = (if tkT B L q = 2 then 0 else 1) ∧ N2 403 (t + 74 + 2 * w) = (if tkT B L q = 2 then tkV B L q else tkT B L q - 24) ∧ FMo t w N N2 ∧ ∀ (r : Option Vv × Mm) (u : Vv), RE (d + 5) N2 r → Ev (d + 7) K_Mo_summed 0 9 [(18, 400), u] [] N r := by
  have h' := h
  obtain ⟨hM, hP, g13, g14, g15, g18, g19⟩ := h
  have hM' := hM
  obtain ⟨a1, a2, a3, a4, a5, a6, a7, a8⟩ := hM
  have e2 := tk_2 (q := q) hT.2
  obtain ⟨ev, ev0⟩ := tk_v (B := B) (L := L) (q := q)
  obtain ⟨M, hMe⟩ : ∃ M, M = up (up (up N 403 (t + 73 + 2 * w) (if tkT B L q = 2 then 0 else 1)) 403 (t + 74 + 2 * w) (if tkT B L q = 2 then tkV B L q else tkT B L q - 24)) 400 14 ((w + 1 : Nat) : Int) := ⟨_, rfl⟩
  have hem := c_Mo_emit (d := d + 5) (x := if tkT B L q = 2 then 0 else 1) (y := if tkT B L q = 2 then tkV B L q else tkT B L q - 24) g13 h0 g14 hw
  rw [← hMe] at hem
  have F4 : ∀ b, b ≠ 14 → M 400 b = N 400 b := fun b hb => by rw [hMe, up_nk hb, up_ne (by omega), up_ne (by omega)]
  have FO : ∀ a b, a ≠ 400 → a ≠ 403 → M a b = N a b := fun a b x y => by rw [hMe, up_ne x, up_ne y, up_ne y]
  have hMM : MTk B L M q := MTk_con hM' (fun b hb => F4 b (by omega)) (fun b => FO _ _ (by omega) (by omega))
  obtain ⟨N2, n1, n2, n3⟩ := adv_m (d := d + 4) hT hMM
  have k3 : N2 403 (t + 73 + 2 * w) = (if tkT B L q = 2 then 0 else 1) := by rw [n3 _ _ (by omega), hMe, up_ne (by omega), up_nk (by omega), up_eq]
  have k4 : N2 403 (t + 74 + 2 * w) = (if tkT B L q = 2 then tkV B L q else tkT B L q - 24) := by rw [n3 _ _ (by omega), hMe, up_ne (by omega), up_eq]
  refine ⟨N2, ⟨n2, PIL_con hP (by rw [n3 _ _ (by omega), F4 _ (by omega)]) (fun b => by rw [n3 _ _ (by omega), FO _ _ (by omega) (by omega)]), by rw [n3 _ _ (by omega), F4 _ (by omega)]; exact g13, by rw [n3 _ _ (by omega), hMe, up_eq], by rw [n3 _ _ (by omega), F4 _ (by omega)]; exact g15, by rw [n3 _ _ (by omega), F4 _ (by omega)]; exact g18, by rw [n3 _ _ (by omega), F4 _ (by omega)]; exact g19⟩, k3, k4, fun a b x y z => ?_, fun r u hr => ?_⟩
  · rw [n3 a b (by omega), hMe]
    unfold up
    rw [if_neg (by omega), if_neg (by omega), if_neg (by omega)]
  · obtain ⟨v, N1, r1, r2, r3, r4⟩ := hr
    have hnm : 0 ≤ nmv (tkT B L q) → nmok so (nmv (tkT B L q)) := fun z => by
      unfold nmv at z ⊢
      rcases hl with ⟨l1, l2⟩ | ⟨l1, l2⟩
      · rw [if_neg (by omega)] at z; omega
      · rw [if_pos l1]; exact l2
    -- beginOne gives what endOne gives
    have hb : Cl (d + 6) k_Mo_beginOne [(18, 400)] N (some (0, v), N1) := by
      refine cl_Mo_beginOne (mo_b21 hT h' hs (fun z => by rcases hl with ⟨l1, l2⟩ | ⟨l1, l2⟩; exact l2; omega) hnm ?_)
      have e27 : Ev (d + 6) K_Mo_beginOne 0 27 [(18, 400), (0, nmv (tkT B L q))] [] N (some (0, v), N1) := by
        by_cases hc : tkT B L q = 2
        · have hm1 : N 400 10 = 1 := by rw [a4]; exact e2.mp hc
          have hv : N 400 11 = tkV B L q := by
            rw [a7 (e2.mp hc), ev]
            rcases hl with ⟨l1, l2⟩ | ⟨l1, l2⟩
            · omega
            · omega
          rw [if_pos hc, if_pos hc] at hem
          refine b_Mo_beginOne_27 ⟨fun z => absurd hm1 z, fun _ => ⟨fun z => absurd hm1 z, fun _ => ?_⟩⟩
          rw [hv]
          exact ⟨_, hem, _, n1, _, _, r1, rfl⟩
        · have hm1 : ¬ N 400 10 = 1 := by rw [a4]; exact fun y => hc (e2.mpr y)
          rw [if_neg hc, if_neg hc] at hem
          have hnv : nmv (tkT B L q) = tkT B L q - 24 := by
            unfold nmv
            rw [if_pos (by rcases hl with ⟨l1, l2⟩ | ⟨l1, l2⟩; exact absurd l1 hc; exact l1)]
          refine b_Mo_beginOne_27 ⟨fun _ => ⟨fun _ => ?_, fun z => absurd hm1 z⟩, fun z => absurd hm1 z⟩
          rw [hnv]
          exact ⟨_, hem, _, n1, _, _, r1, rfl⟩
      refine b_Mo_beginOne_21 ⟨fun _ => e27, fun z => ⟨fun z2 => ?_, fun _ => e27⟩⟩
      rw [a4] at z
      rcases hl with ⟨l1, l2⟩ | ⟨l1, l2⟩
      · exact absurd (e2.mp l1) z
      · unfold nmv at z2
        rw [if_pos l1] at z2
        omega
    refine b_Mo_summed_9 ⟨fun _ => ⟨_, _, hb, fun z => ⟨fun z2 => by omega, fun z2 => ?_⟩, fun z => r3 (by omega)⟩, fun z => absurd g19 z⟩
    have hv0 : v = 0 := by omega
    subst hv0
    exact r4 rfl
