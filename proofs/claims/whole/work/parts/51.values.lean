/-! WHAT A LAW SAYS: the runs of its code -/
def JF (m M : Mm) : Prop := ∀ a b, a ≠ 12 → ¬ (a = 10 ∧ b = 2) → M a b = m a b
theorem c_Ju_pop {d h : Nat} {M : Mm} (hM : M 10 2 = ((h + 1 : Nat) : Int)) (hh : h < 300) : Cl d k_Ju_pop [(12, 10)] M (some (0, M 12 (h : Nat)), up M 10 2 (h : Nat)) := by
  refine cl_Ju_pop (b_Ju_pop ⟨fun _ => ?_, fun z => absurd (by omega) z⟩)
  rw [hM, w32n (by omega) (by omega), show ((h + 1 : Nat) : Int) - 1 = (h : Nat) by omega]
  rintro m1 rfl
  rw [up_eq]
  refine ⟨by omega, ?_⟩
  rw [up_ne (by omega)]
theorem c_Ju_push {d h : Nat} {M : Mm} {v : Int} (hM : M 10 2 = (h : Nat)) (hh : h < 300) : Cl d k_Ju_push [(12, 10), (0, v)] M (none, up (up M 12 (h : Nat) v) 10 2 ((h + 1 : Nat) : Int)) := by
  refine cl_Ju_push (b_Ju_push ⟨fun z => by omega, fun _ => ?_⟩)
  rw [hM]
  refine ⟨by omega, ?_⟩
  rintro m1 rfl
  rintro m2 rfl
  rw [up_ne (by omega), hM, w32s (by omega)]
theorem ops_ne {a b : Bool} {cm : Int × Int} (h : cm ∈ ops a b) : (cm.1 ≠ 46 ∧ cm.1 ≠ 45 ∧ cm.1 ≠ 2 ∧ cm.1 ≠ 43 ∧ cm.1 ≠ 35 ∧ cm.1 ≠ 44 ∧ cm.1 ≠ 42) ∧ 0 ≤ cm.1 ∧ cm.1 < 64 := by
  cases a <;> cases b <;> simp only [ops, List.mem_cons, List.not_mem_nil, or_false] at h
  · rcases h with rfl | rfl | rfl | rfl | rfl <;> decide
  · rcases h with rfl | rfl | rfl | rfl | rfl | rfl <;> decide
  · rcases h with rfl | rfl <;> decide
theorem cod64 {c W V : Int} (h : c = W + V * 64) (hW : 0 ≤ W ∧ W < 64) (hV : 0 ≤ V ∧ V ≤ 1000000) : irm c 64 = W ∧ idv c 64 = V := by
  subst h
  rw [irm_n (by omega) (by omega) (by omega) (by omega), idv_n (by omega) (by omega) (by omega) (by omega)]
  omega
theorem je {d : Nat} {A x2 x3 L v w : Int} {m : Mm} {S : Int → Int} {Φ : Mm → Prop} {C Mo Mv : Nat → Int} (hx3 : x3 ≤ 300) (hL : LSd m L S) (hLn : 20 ≤ L) (hA : 15 ≤ A) (hC : ∀ j : Nat, m A (j : Nat) = C j) (hN : ∀ k, nmo w k → -1000000 ≤ m 11 k ∧ m 11 k ≤ 1000000) : ∀ (n : Nat) (b : Bool) (p p' q q' : Nat) (F : Ef), WE C Mo Mv w n b p p' q q' F → ∀ (M : Mm) (h dn : Nat) (u7 u8 u9 : Vv), M 10 2 = (h : Nat) → JF m M → h ≤ p → dn ≤ p → (p' : Int) ≤ x3 → (∀ (M' : Mm) (dn' : Nat) (u7 u8 u9 : Vv), M' 10 2 = ((h + 1 : Nat) : Int) → M' 12 (h : Nat) = F (fun k => m 11 k) (HS S) → (∀ i : Nat, i < h → M' 12 (i : Nat) = M 12 (i : Nat)) → JF m M' → dn' ≤ p' → ∃ m', Ev (d + 3) K_Ju_valueOf 0 7 [(12, 10), (2500, A), (0, x2), (0, x3), (13, L), (0, (p' : Nat)), (0, (dn' : Nat)), u7, u8, u9] [] M' (some (0, v), m') ∧ Φ m') → ∃ m', Ev (d + 3) K_Ju_valueOf 0 7 [(12, 10), (2500, A), (0, x2), (0, x3), (13, L), (0, (p : Nat)), (0, (dn : Nat)), u7, u8, u9] [] M (some (0, v), m') ∧ Φ m' := by
  -- the tests ahead of an act
  have hd : ∀ (p dn : Nat) (M : Mm) (u7 u8 u9 : Vv) (W V : Int) (r : Option Vv × Mm), (p : Int) < x3 → dn ≤ p → JF m M → C p = W + V * 64 → 0 ≤ W ∧ W < 64 → 0 ≤ V ∧ V ≤ 1000000 → irm (M A (p : Nat)) 64 = W ∧ idv (M A (p : Nat)) 64 = V := by
    intro p dn M u7 u8 u9 W V r h1 h2 h3 h4 h5 h6
    have : M A (p : Nat) = W + V * 64 := by rw [h3 A _ (by omega) (by omega), hC p, h4]
    exact cod64 this h5 h6
  have psh : ∀ (M : Mm) (h : Nat) (x : Int), M 10 2 = (h : Nat) → JF m M → up (up M 12 (h : Nat) x) 10 2 ((h + 1 : Nat) : Int) 10 2 = ((h + 1 : Nat) : Int) ∧ up (up M 12 (h : Nat) x) 10 2 ((h + 1 : Nat) : Int) 12 (h : Nat) = x ∧ (∀ i : Nat, i < h → up (up M 12 (h : Nat) x) 10 2 ((h + 1 : Nat) : Int) 12 (i : Nat) = M 12 (i : Nat)) ∧ JF m (up (up M 12 (h : Nat) x) 10 2 ((h + 1 : Nat) : Int)) := by
    intro M h x h1 h2
    refine ⟨up_eq, by rw [up_ne (by omega), up_eq], fun i hi => by rw [up_ne (by omega), up_nk (by omega)], fun a b z1 z2 => ?_⟩
    by_cases ha : a = 10
    · rw [up_nk (by omega), up_ne z1]; exact h2 a b z1 z2
    · rw [up_ne ha, up_ne z1]; exact h2 a b z1 z2
  have pjf : ∀ (M : Mm) (x : Int), JF m M → JF m (up M 10 2 x) := by
    intro M x h2 a b z1 z2
    by_cases ha : a = 10
    · rw [up_nk (by omega)]; exact h2 a b z1 z2
    · rw [up_ne ha]; exact h2 a b z1 z2
  intro n
  induction n with
  | zero => intro b p p' q q' F h; exact absurd h (by unfold WE; exact fun z => z)
  | succ n ih =>
    intro b p p' q q' F hWE M h dn u7 u8 u9 hM hF hhp hdn hp' hk
    have hlt := (WE_lt _ _ _ _ _ _ _ hWE).1
    unfold WE at hWE
    rcases hWE with ⟨rfl, x, x1, x2', hc, _, _, rfl, rfl, rfl⟩ | ⟨rfl, x, x1, hc, _, _, rfl, rfl, rfl⟩ | ⟨rfl, p1, q1, F1, h1, hc, _, rfl, rfl, rfl⟩ | ⟨rfl, p1, q1, F1, h1, hc, _, rfl, rfl, rfl⟩ | ⟨a, cm, p1, q1, p2, q2, F1, F2, hcm, h1, h2, hc, _, rfl, rfl, rfl⟩ | ⟨rfl, p1, q1, p2, q2, p3, q3, G, F1, F2, h1, hc, h2, hc2, h3, _, rfl, rfl, rfl⟩ | ⟨rfl, p1, q1, G, h1, hc, _, rfl, rfl, rfl⟩
    · -- a number
      obtain ⟨e1, e2⟩ := hd p dn M u7 u8 u9 2 x (none, M) (by omega) hdn hF hc (by omega) (by omega)
      obtain ⟨y1, y2, y3, y4⟩ := psh M h x hM hF
      obtain ⟨m', g1, g2⟩ := hk _ (dn + 1) (0, 2) (0, x) u9 y1 y2 y3 y4 (by omega)
      refine ⟨m', b_Ju_valueOf_7 ⟨fun z => by omega, fun _ => ⟨fun z => by omega, fun _ => ⟨fun z => by omega, fun _ => ⟨fun z => by omega, fun _ => ⟨by omega, by omega, ?_⟩⟩⟩⟩⟩, g2⟩
      rw [e1, e2]
      refine ⟨fun _ => ⟨fun _ => ⟨fun z => absurd rfl z, fun _ => ⟨_, c_Ju_push hM (by omega), ?_⟩⟩, fun z => absurd (by decide) z⟩, fun z => absurd (by decide) z⟩
      rw [w32s (by omega), w32s (by omega)]
      exact g1
    · -- a name
      have x1' := x1
      unfold nmo at x1'
      obtain ⟨e1, e2⟩ := hd p dn M u7 u8 u9 43 x (none, M) (by omega) hdn hF hc (by omega) (by omega)
      obtain ⟨y1, y2, y3, y4⟩ := psh M h (m 11 x) hM hF
      obtain ⟨m', g1, g2⟩ := hk _ (dn + 1) (0, 43) (0, x) u9 y1 y2 y3 y4 (by omega)
      refine ⟨m', b_Ju_valueOf_7 ⟨fun z => by omega, fun _ => ⟨fun z => by omega, fun _ => ⟨fun z => by omega, fun _ => ⟨fun z => by omega, fun _ => ⟨by omega, by omega, ?_⟩⟩⟩⟩⟩, g2⟩
      rw [e1, e2]
      refine ⟨fun _ => ⟨fun _ => ⟨fun _ => ⟨fun z => absurd rfl z, fun _ => ⟨fun z => by omega, fun _ => ⟨by omega, ?_⟩⟩⟩, fun z => absurd (by decide) z⟩, fun z => absurd (by decide) z⟩, fun z => absurd (by decide) z⟩
      rw [hF 11 _ (by omega) (by omega)]
      refine ⟨_, c_Ju_push hM (by omega), ?_⟩
      rw [w32s (by omega), w32s (by omega)]
      exact g1
    · -- minus
      refine ih _ _ _ _ _ _ h1 M h dn u7 u8 u9 hM hF hhp hdn (by omega) (fun M1 dn1 v7 v8 v9 a1 a2 a3 a4 a5 => ?_)
      have l1 := (WE_lt _ _ _ _ _ _ _ h1).1
      have hr := WE_rg (N := fun k => m 11 k) (H := HS S) hN _ _ _ _ _ _ _ h1
      rw [rg_f] at hr
      obtain ⟨e1, e2⟩ := hd p1 dn1 M1 v7 v8 v9 44 0 (none, M1) (by omega) (by omega) a4 (by rw [hc]; rfl) (by omega) (by omega)
      obtain ⟨y1, y2, y3, y4⟩ := psh (up M1 10 2 (h : Nat)) h (-F1 (fun k => m 11 k) (HS S)) up_eq (pjf _ _ a4)
      obtain ⟨m', g1, g2⟩ := hk _ (dn1 + 1) (0, 44) (0, 0) v9 y1 y2 (fun i hi => by rw [y3 i hi, up_ne (by omega)]; exact a3 i hi) y4 (by omega)
      refine ⟨m', b_Ju_valueOf_7 ⟨fun z => by omega, fun _ => ⟨fun z => by omega, fun _ => ⟨fun z => by omega, fun _ => ⟨fun z => by omega, fun _ => ⟨by omega, by omega, ?_⟩⟩⟩⟩⟩, g2⟩
      rw [e1, e2]
      refine ⟨fun _ => ⟨fun _ => ⟨fun _ => ⟨fun _ => ⟨fun _ => ⟨fun z => absurd rfl z, fun _ => ⟨_, _, c_Ju_pop a1 (by omega), ?_⟩⟩, fun z => absurd (by decide) z⟩, fun z => absurd (by decide) z⟩, fun z => absurd (by decide) z⟩, fun z => absurd (by decide) z⟩, fun z => absurd (by decide) z⟩
      rw [a2, w32n (x := -F1 (fun k => m 11 k) (HS S)) (by omega) (by omega)]
      refine ⟨_, c_Ju_push up_eq (by omega), ?_⟩
      rw [w32s (by omega), w32s (by omega)]
      exact g1
    · -- hedge
      refine ih _ _ _ _ _ _ h1 M h dn u7 u8 u9 hM hF hhp hdn (by omega) (fun M1 dn1 v7 v8 v9 a1 a2 a3 a4 a5 => ?_)
      have l1 := (WE_lt _ _ _ _ _ _ _ h1).1
      obtain ⟨e1, e2⟩ := hd p1 dn1 M1 v7 v8 v9 35 0 (none, M1) (by omega) (by omega) a4 (by rw [hc]; rfl) (by omega) (by omega)
      have hL2 : LSd (up M1 10 2 (h : Nat)) L S := LC_con hL (fun a b _ _ => by rw [up_ne (by omega)]; exact a4 a b (by omega) (by omega)) (fun _ _ _ => rfl)
      obtain ⟨y1, y2, y3, y4⟩ := psh (up M1 10 2 (h : Nat)) h (if (0 ≤ F1 (fun k => m 11 k) (HS S) ∧ F1 (fun k => m 11 k) (HS S) < 40) ∧ HS S (F1 (fun k => m 11 k) (HS S)) = true then 1 else 0) up_eq (pjf _ _ a4)
      obtain ⟨m', g1, g2⟩ := hk _ (dn1 + 1) (0, 35) (0, 0) v9 y1 y2 (fun i hi => by rw [y3 i hi, up_ne (by omega)]; exact a3 i hi) y4 (by omega)
      refine ⟨m', b_Ju_valueOf_7 ⟨fun z => by omega, fun _ => ⟨fun z => by omega, fun _ => ⟨fun z => by omega, fun _ => ⟨fun z => by omega, fun _ => ⟨by omega, by omega, ?_⟩⟩⟩⟩⟩, g2⟩
      rw [e1, e2]
      refine ⟨fun _ => ⟨fun _ => ⟨fun _ => ⟨fun _ => ⟨fun z => absurd rfl z, fun _ => ⟨_, _, c_Ju_pop a1 (by omega), ?_⟩⟩, fun z => absurd (by decide) z⟩, fun z => absurd (by decide) z⟩, fun z => absurd (by decide) z⟩, fun z => absurd (by decide) z⟩
      rw [a2]
      refine ⟨_, _, c_La_has hL2, fun z => ⟨_, c_Ju_push up_eq (by omega), ?_⟩, fun z => ⟨_, c_Ju_push up_eq (by omega), ?_⟩⟩
      · rw [ite_z] at z
        rw [if_neg z] at g1
        rw [w32s (by omega), w32s (by omega)]
        exact g1
      · rw [ite_z1] at z
        rw [if_pos z] at g1
        rw [w32s (by omega), w32s (by omega)]
        exact g1
    · -- an act of two
      have l1 := (WE_lt _ _ _ _ _ _ _ h1).1
      have l2 := (WE_lt _ _ _ _ _ _ _ h2).1
      refine ih _ _ _ _ _ _ h1 M h dn u7 u8 u9 hM hF hhp hdn (by omega) (fun M1 dn1 v7 v8 v9 a1 a2 a3 a4 a5 => ?_)
      refine ih _ _ _ _ _ _ h2 M1 (h + 1) dn1 v7 v8 v9 a1 a4 (by omega) a5 (by omega) (fun M2 dn2 w7 w8 w9 b1 b2 b3 b4 b5 => ?_)
      have r1 := WE_rg (N := fun k => m 11 k) (H := HS S) hN _ _ _ _ _ _ _ h1
      have r2 := WE_rg (N := fun k => m 11 k) (H := HS S) hN _ _ _ _ _ _ _ h2
      obtain ⟨⟨o1, o2, o3, o4, o5, o6, o7⟩, o8⟩ := ops_ne hcm
      obtain ⟨e1, e2⟩ := hd p2 dn2 M2 w7 w8 w9 cm.1 0 (none, M2) (by omega) (by omega) b4 (by rw [hc]; omega) o8 (by omega)
      have b2' : M2 12 ((h : Nat) : Int) = F1 (fun k => m 11 k) (HS S) := by rw [b3 h (by omega), a2]
      obtain ⟨y1, y2, y3, y4⟩ := psh (up (up M2 10 2 ((h + 1 : Nat) : Int)) 10 2 (h : Nat)) h (bop cm.1 (F1 (fun k => m 11 k) (HS S)) (F2 (fun k => m 11 k) (HS S))) up_eq (pjf _ _ (pjf _ _ b4))
      obtain ⟨m', g1, g2⟩ := hk _ (dn2 + 1) (0, cm.1) (0, 0) (0, F2 (fun k => m 11 k) (HS S)) y1 y2 (fun i hi => by rw [y3 i hi, up_ne (by omega), up_ne (by omega), b3 i (by omega)]; exact a3 i hi) y4 (by omega)
      refine ⟨m', b_Ju_valueOf_7 ⟨fun z => by omega, fun _ => ⟨fun z => by omega, fun _ => ⟨fun z => by omega, fun _ => ⟨fun z => by omega, fun _ => ⟨by omega, by omega, ?_⟩⟩⟩⟩⟩, g2⟩
      rw [e1, e2]
      refine ⟨fun _ => ⟨fun _ => ⟨fun _ => ⟨fun _ => ⟨fun _ => ⟨fun _ => ⟨fun _ => ⟨_, _, c_Ju_pop b1 (by omega), _, _, c_Ju_pop (h := h) up_eq (by omega), ?_⟩, fun z => absurd o7 z⟩, fun z => absurd o6 z⟩, fun z => absurd o5 z⟩, fun z => absurd o4 z⟩, fun z => absurd o3 z⟩, fun z => absurd o2 z⟩, fun z => absurd o1 z⟩
      rw [b2, up_ne (by omega), b2']
      refine ⟨_, _, c_Ju_ofTwo hcm r1 r2, _, c_Ju_push up_eq (by omega), ?_⟩
      rw [w32s (by omega), w32s (by omega)]
      exact g1
    · -- a choice
      have l1 := (WE_lt _ _ _ _ _ _ _ h1).1
      have l2 := (WE_lt _ _ _ _ _ _ _ h2).1
      have l3 := (WE_lt _ _ _ _ _ _ _ h3).1
      refine ih _ _ _ _ _ _ h1 M h dn u7 u8 u9 hM hF hhp hdn (by omega) (fun M1 dn1 v7 v8 v9 a1 a2 a3 a4 a5 => ?_)
      obtain ⟨e1, e2⟩ := hd p1 dn1 M1 v7 v8 v9 45 ((p2 : Int) + 1) (none, M1) (by omega) (by omega) a4 hc (by omega) (by omega)
      have pre : ∀ r : Option Vv × Mm, (G (fun k => m 11 k) (HS S) ≠ 0 → Ev (d + 3) K_Ju_valueOf 0 7 [(12, 10), (2500, A), (0, x2), (0, x3), (13, L), (0, ((p1 + 1 : Nat) : Int)), (0, ((dn1 + 1 : Nat) : Int)), (0, 45), (0, (p2 : Int) + 1), v9] [] (up M1 10 2 (h : Nat)) r) → (G (fun k => m 11 k) (HS S) = 0 → Ev (d + 3) K_Ju_valueOf 0 7 [(12, 10), (2500, A), (0, x2), (0, x3), (13, L), (0, ((p2 + 1 : Nat) : Int)), (0, ((dn1 + 1 : Nat) : Int)), (0, 45), (0, (p2 : Int) + 1), v9] [] (up M1 10 2 (h : Nat)) r) → Ev (d + 3) K_Ju_valueOf 0 7 [(12, 10), (2500, A), (0, x2), (0, x3), (13, L), (0, (p1 : Nat)), (0, (dn1 : Nat)), v7, v8, v9] [] M1 r := by
        intro r k1 k2
        refine b_Ju_valueOf_7 ⟨fun z => by omega, fun _ => ⟨fun z => by omega, fun _ => ⟨fun z => by omega, fun _ => ⟨fun z => by omega, fun _ => ⟨by omega, by omega, ?_⟩⟩⟩⟩⟩
        rw [e1, e2]
        refine ⟨fun _ => ⟨fun z => absurd rfl z, fun _ => ⟨_, _, c_Ju_pop a1 (by omega), fun z => ?_, fun z => ?_⟩⟩, fun z => absurd (by decide) z⟩
        · rw [a2] at z
          rw [w32s (by omega), w32s (by omega)]
          exact k1 z
        · rw [a2, Classical.not_not] at z
          rw [w32s (by omega)]
          exact k2 z
      by_cases hG : G (fun k => m 11 k) (HS S) = 0
      · obtain ⟨m', g1, g2⟩ := ih _ _ _ _ _ _ h3 (up M1 10 2 (h : Nat)) h (dn1 + 1) (0, 45) (0, (p2 : Int) + 1) v9 up_eq (pjf _ _ a4) (by omega) (by omega) (by omega) (fun M3 dn3 w7 w8 w9 c1 c2 c3 c4 c5 => by
          refine hk M3 dn3 w7 w8 w9 c1 ?_ (fun i hi => by rw [c3 i hi, up_ne (by omega)]; exact a3 i hi) c4 c5
          show _ = if G (fun k => m 11 k) (HS S) = 0 then _ else _
          rw [if_pos hG]
          exact c2)
        exact ⟨m', pre _ (fun z => absurd hG z) (fun _ => g1), g2⟩
      · obtain ⟨m', g1, g2⟩ := ih _ _ _ _ _ _ h2 (up M1 10 2 (h : Nat)) h (dn1 + 1) (0, 45) (0, (p2 : Int) + 1) v9 up_eq (pjf _ _ a4) (by omega) (by omega) (by omega) (fun M3 dn3 w7 w8 w9 c1 c2 c3 c4 c5 => by
          obtain ⟨f1, f2⟩ := hd p2 dn3 M3 w7 w8 w9 46 (p' : Int) (none, M3) (by omega) (by omega) c4 hc2 (by omega) (by omega)
          obtain ⟨m', g1, g2⟩ := hk M3 (dn3 + 1) (0, 46) (0, (p' : Int)) w9 c1 (by
            show _ = if G (fun k => m 11 k) (HS S) = 0 then _ else _
            rw [if_neg hG]
            exact c2) (fun i hi => by rw [c3 i hi, up_ne (by omega)]; exact a3 i hi) c4 (by omega)
          refine ⟨m', b_Ju_valueOf_7 ⟨fun z => by omega, fun _ => ⟨fun z => by omega, fun _ => ⟨fun z => by omega, fun _ => ⟨fun z => by omega, fun _ => ⟨by omega, by omega, ?_⟩⟩⟩⟩⟩, g2⟩
          rw [f1, f2]
          refine ⟨fun z => absurd rfl z, fun _ => ?_⟩
          rw [w32s (by omega)]
          exact g1)
        exact ⟨m', pre _ (fun _ => g1) (fun z => absurd z hG), g2⟩
    · -- not
      refine ih _ _ _ _ _ _ h1 M h dn u7 u8 u9 hM hF hhp hdn (by omega) (fun M1 dn1 v7 v8 v9 a1 a2 a3 a4 a5 => ?_)
      have l1 := (WE_lt _ _ _ _ _ _ _ h1).1
      have hr := WE_rg (N := fun k => m 11 k) (H := HS S) hN _ _ _ _ _ _ _ h1
      rw [rg_t] at hr
      obtain ⟨e1, e2⟩ := hd p1 dn1 M1 v7 v8 v9 42 0 (none, M1) (by omega) (by omega) a4 (by rw [hc]; rfl) (by omega) (by omega)
      obtain ⟨y1, y2, y3, y4⟩ := psh (up M1 10 2 (h : Nat)) h (1 - G (fun k => m 11 k) (HS S)) up_eq (pjf _ _ a4)
      obtain ⟨m', g1, g2⟩ := hk _ (dn1 + 1) (0, 42) (0, 0) v9 y1 y2 (fun i hi => by rw [y3 i hi, up_ne (by omega)]; exact a3 i hi) y4 (by omega)
      refine ⟨m', b_Ju_valueOf_7 ⟨fun z => by omega, fun _ => ⟨fun z => by omega, fun _ => ⟨fun z => by omega, fun _ => ⟨fun z => by omega, fun _ => ⟨by omega, by omega, ?_⟩⟩⟩⟩⟩, g2⟩
      rw [e1, e2]
      refine ⟨fun _ => ⟨fun _ => ⟨fun _ => ⟨fun _ => ⟨fun _ => ⟨fun _ => ⟨fun z => absurd rfl z, fun _ => ⟨_, _, c_Ju_pop a1 (by omega), ?_⟩⟩, fun z => absurd (by decide) z⟩, fun z => absurd (by decide) z⟩, fun z => absurd (by decide) z⟩, fun z => absurd (by decide) z⟩, fun z => absurd (by decide) z⟩, fun z => absurd (by decide) z⟩
      rw [a2, w32n (x := 1 - G (fun k => m 11 k) (HS S)) (by omega) (by omega)]
      refine ⟨_, c_Ju_push up_eq (by omega), ?_⟩
      rw [w32s (by omega), w32s (by omega)]
      exact g1
theorem c_Ju_valueOf {d : Nat} {A L w : Int} {p p' q q' n : Nat} {F : Ef} {m : Mm} {S : Int → Int} {C Mo Mv : Nat → Int} (hp : p' ≤ 300) (hL : LSd m L S) (hLn : 20 ≤ L) (hA : 15 ≤ A) (hC : ∀ j : Nat, m A (j : Nat) = C j) (hN : ∀ k, nmo w k → -1000000 ≤ m 11 k ∧ m 11 k ≤ 1000000) (hW : WE C Mo Mv w n false p p' q q' F) : ∃ m', Cl (d + 3) k_Ju_valueOf [(12, 10), (2500, A), (0, (p : Nat)), (0, (p' : Nat)), (13, L)] m (some (0, F (fun k => m 11 k) (HS S)), m') ∧ JF m m' := by
  have hlt := (WE_lt _ _ _ _ _ _ _ hW).1
  obtain ⟨m', g1, g2⟩ := je (d := d) (A := A) (x2 := (p : Nat)) (x3 := (p' : Nat)) (L := L) (v := F (fun k => m 11 k) (HS S)) (m := m) (Φ := JF m) (by omega) hL hLn hA hC hN n false p p' q q' F hW (up m 10 2 ((0 : Nat) : Int)) 0 0 (9, 0) (9, 0) (9, 0) up_eq (fun a b z1 z2 => by
    by_cases ha : a = 10
    · rw [up_nk (by omega)]
    · rw [up_ne ha]) (by omega) (by omega) (by omega) (fun M' dn' v7 v8 v9 a1 a2 a3 a4 a5 => by
    have hpop := c_Ju_pop (d := d + 2) a1 (by omega)
    rw [a2] at hpop
    refine ⟨_, b_Ju_valueOf_7 ⟨fun z => ⟨_, _, hpop, rfl⟩, fun _ => ⟨fun z => ⟨_, _, hpop, rfl⟩, fun _ => ⟨fun z => ⟨_, _, hpop, rfl⟩, fun z => absurd (by omega) z⟩⟩⟩, fun a b z1 z2 => ?_⟩
    by_cases ha : a = 10
    · rw [up_nk (by omega)]; exact a4 a b z1 z2
    · rw [up_ne ha]; exact a4 a b z1 z2)
  refine ⟨m', cl_Ju_valueOf (b_Ju_valueOf ?_), g2⟩
  rintro m1 rfl
  exact g1
