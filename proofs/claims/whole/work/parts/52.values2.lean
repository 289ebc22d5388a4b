/-! the model's runs of a law's code -/
def MF (m M : Mm) : Prop := ∀ a b, a ≠ 408 → a ≠ 409 → M a b = m a b
def nb_ : Bool → Nat
  | true => 0
  | false => 1
def tb_ : Bool → Nat
  | true => 1
  | false => 0
def rs_ (b : Bool) (M : Mm) (nv tr : Nat) (x : Int) : Prop := match b with
  | true => M 409 (tr : Nat) = x
  | false => M 408 (nv : Nat) = x
theorem MF_8 {m M : Mm} {k x : Int} (h : MF m M) : MF m (up M 408 k x) := fun a b z1 z2 => by rw [up_ne z1]; exact h a b z1 z2
theorem MF_9 {m M : Mm} {k x : Int} (h : MF m M) : MF m (up M 409 k x) := fun a b z1 z2 => by rw [up_ne z2]; exact h a b z1 z2
theorem me {d T I : Nat} {x1 x2 v w E : Int} {m : Mm} {Φ : Mm → Prop} {C Mo Mv : Nat → Int} (hT : T < 4) (hI : I < 24) (h8 : hv20 (m 401 8)) (h9 : hv20 (m 401 9)) (hE : m 403 (681 * T + 3 + 3 * I) = E) (hE2 : E ≤ 304) (hMo : ∀ j : Nat, m 403 (681 * T + 73 + 2 * j) = Mo j) (hMv : ∀ j : Nat, m 403 (681 * T + 74 + 2 * j) = Mv j) (hN : ∀ k, nmo w k → -1000000 ≤ m 407 k ∧ m 407 k ≤ 1000000) : ∀ (n : Nat) (b : Bool) (p p' q q' : Nat) (F : Ef), WE C Mo Mv w n b p p' q q' F → ∀ (M : Mm) (nv tr : Nat) (u8 u9 : Vv), MF m M → nv ≤ q → tr ≤ q → (q' : Int) ≤ E → (∀ (M' : Mm) (u8 u9 : Vv), MF m M' → (∀ i : Nat, i < nv → M' 408 (i : Nat) = M 408 (i : Nat)) → (∀ i : Nat, i < tr → M' 409 (i : Nat) = M 409 (i : Nat)) → rs_ b M' nv tr (F (fun k => m 407 k) (HM m 401)) → ∃ m', Ev (d + 3) K_Mo_summedUp 1 27 [(18, 400), (0, x1), (0, x2), (0, 681 * (T : Int) + 1 + 3 * I), (0, 681 * (T : Int) + 73), (0, ((nv + nb_ b : Nat) : Int)), (0, ((tr + tb_ b : Nat) : Int)), (0, (q' : Nat)), u8, u9] [] M' (some (1, v), m') ∧ Φ m') → ∃ m', Ev (d + 3) K_Mo_summedUp 1 27 [(18, 400), (0, x1), (0, x2), (0, 681 * (T : Int) + 1 + 3 * I), (0, 681 * (T : Int) + 73), (0, (nv : Nat)), (0, (tr : Nat)), (0, (q : Nat)), u8, u9] [] M (some (1, v), m') ∧ Φ m' := by
  have ia : w32 (681 * (T : Int) + 1 + 3 * I + 2) = 681 * T + 3 + 3 * I := by rw [w32n (by omega) (by omega)]; omega
  have ib : ∀ q : Nat, q < 305 → w32 (681 * (T : Int) + 73 + w32 (2 * (q : Int))) = 681 * T + 73 + 2 * q := fun q hq => by rw [w32n (x := 2 * (q : Int)) (by omega) (by omega), w32n (by omega) (by omega)]
  have ic : ∀ q : Nat, q < 305 → w32 (681 * (T : Int) + 73 + 2 * q + 1) = 681 * T + 74 + 2 * q := fun q hq => by rw [w32n (by omega) (by omega)]; omega
  have rw3 : ∀ (M : Mm) (q : Nat), MF m M → M 403 (681 * T + 3 + 3 * I) = E ∧ M 403 (681 * (T : Int) + 73 + 2 * q) = Mo q ∧ M 403 (681 * (T : Int) + 74 + 2 * q) = Mv q := fun M q hF => ⟨by rw [hF _ _ (by omega) (by omega)]; exact hE, by rw [hF _ _ (by omega) (by omega)]; exact hMo q, by rw [hF _ _ (by omega) (by omega)]; exact hMv q⟩
  have e401 : ∀ M : Mm, MF m M → M 401 = m 401 := fun M hF => by funext b; exact hF _ _ (by omega) (by omega)
  intro n
  induction n with
  | zero => intro b p p' q q' F h; exact absurd h (by unfold WE; exact fun z => z)
  | succ n ih =>
    intro b p p' q q' F hWE M nv tr u8 u9 hF hnv htr hq' hk
    have hlt := (WE_lt _ _ _ _ _ _ _ hWE).2
    unfold WE at hWE
    rcases hWE with ⟨rfl, x, x1', x2', _, hc, hcv, rfl, rfl, rfl⟩ | ⟨rfl, x, x1', _, hc, hcv, rfl, rfl, rfl⟩ | ⟨rfl, p1, q1, F1, h1, _, hc, rfl, rfl, rfl⟩ | ⟨rfl, p1, q1, F1, h1, _, hc, rfl, rfl, rfl⟩ | ⟨a, cm, p1, q1, p2, q2, F1, F2, hcm, h1, h2, _, hc, rfl, rfl, rfl⟩ | ⟨rfl, p1, q1, p2, q2, p3', q3, G, F1, F2, h1, _, h2, _, h3, hc, rfl, rfl, rfl⟩ | ⟨rfl, p1, q1, G, h1, _, hc, rfl, rfl, rfl⟩
    · -- a number
      obtain ⟨r1, r2, r3⟩ := rw3 M q hF
      obtain ⟨m', g1, g2⟩ := hk (up M 408 (nv : Nat) x) (0, 0) (0, x) (MF_8 hF) (fun i hi => by rw [up_nk (by omega)]) (fun i hi => by rw [up_ne (by omega)]) (by show up M 408 (nv : Nat) x 408 (nv : Nat) = x; rw [up_eq])
      refine ⟨m', b_Mo_summedUp_27 ?_, g2⟩
      rw [ia, ib q (by omega), ic q (by omega), r1, r2, r3, hc, hcv]
      refine ⟨by omega, fun z => by omega, fun _ => ⟨by omega, by omega, fun z => by omega, fun _ => ⟨fun z => absurd rfl z, fun _ => ⟨by omega, ?_⟩⟩⟩⟩
      rintro m13 rfl
      rw [w32s (by omega), w32s (by omega)]
      exact g1
    · -- a name
      have x1'' := x1'
      unfold nmo at x1''
      obtain ⟨r1, r2, r3⟩ := rw3 M q hF
      obtain ⟨m', g1, g2⟩ := hk (up M 408 (nv : Nat) (m 407 x)) (0, 1) (0, x) (MF_8 hF) (fun i hi => by rw [up_nk (by omega)]) (fun i hi => by rw [up_ne (by omega)]) (by show up M 408 (nv : Nat) (m 407 x) 408 (nv : Nat) = m 407 x; rw [up_eq])
      refine ⟨m', b_Mo_summedUp_27 ?_, g2⟩
      rw [ia, ib q (by omega), ic q (by omega), r1, r2, r3, hc, hcv]
      refine ⟨by omega, fun z => by omega, fun _ => ⟨by omega, by omega, fun z => by omega, fun _ => ⟨fun _ => ⟨by omega, by omega, ?_⟩, fun z => absurd (by decide) z⟩⟩⟩
      rintro m12 rfl
      rw [hF 407 _ (by omega) (by omega), w32s (by omega), w32s (by omega)]
      exact g1
    · -- minus
      have l1 := (WE_lt _ _ _ _ _ _ _ h1).2
      have hr := WE_rg (N := fun k => m 407 k) (H := HM m 401) hN _ _ _ _ _ _ _ h1
      rw [rg_f] at hr
      refine ih _ _ _ _ _ _ h1 M nv tr u8 u9 hF hnv htr (by omega) (fun M1 v8 v9 a1 a2 a3 a4 => ?_)
      have a4' : M1 408 (nv : Nat) = F1 (fun k => m 407 k) (HM m 401) := a4
      obtain ⟨r1, r2, r3⟩ := rw3 M1 q1 a1
      obtain ⟨m', g1, g2⟩ := hk (up M1 408 (nv : Nat) (-F1 (fun k => m 407 k) (HM m 401))) (0, 5) (0, Mv q1) (MF_8 a1) (fun i hi => by rw [up_nk (by omega)]; exact a2 i hi) (fun i hi => by rw [up_ne (by omega)]; exact a3 i hi) (by show up M1 408 (nv : Nat) _ 408 (nv : Nat) = _; rw [up_eq])
      refine ⟨m', b_Mo_summedUp_27 ?_, g2⟩
      rw [ia, ib q1 (by omega), ic q1 (by omega), r1, r2, r3, hc]
      refine ⟨by omega, fun z => by omega, fun _ => ⟨by omega, by omega, fun _ => ⟨fun _ => ⟨fun _ => ?_, fun z => absurd rfl z⟩, fun z => absurd (by decide) z⟩, fun z => absurd (by decide) z⟩⟩
      have es : w32 (((nv + nb_ false : Nat) : Int) - 1) = (nv : Nat) := by
        show w32 (((nv + 1 : Nat) : Int) - 1) = (nv : Nat)
        rw [w32n (by omega) (by omega)]; omega
      refine b_Mo_summedUp_101 ⟨fun z => absurd rfl z, fun _ => ?_⟩
      rw [es, a4', w64m (by omega)]
      refine ⟨by omega, by omega, ?_⟩
      rintro m3 rfl
      rw [w32s (by omega)]
      exact g1
    · -- hedge
      have l1 := (WE_lt _ _ _ _ _ _ _ h1).2
      refine ih _ _ _ _ _ _ h1 M nv tr u8 u9 hF hnv htr (by omega) (fun M1 v8 v9 a1 a2 a3 a4 => ?_)
      have a4' : M1 408 (nv : Nat) = F1 (fun k => m 407 k) (HM m 401) := a4
      obtain ⟨r1, r2, r3⟩ := rw3 M1 q1 a1
      have e4 := e401 M1 a1
      have hht := c_Mo_hedgeThere (d := d) (m := M1) (x := F1 (fun k => m 407 k) (HM m 401)) (by rw [e4]; exact h8) (by rw [e4]; exact h9)
      rw [HM_row e4] at hht
      obtain ⟨m', g1, g2⟩ := hk (up M1 408 (nv : Nat) (if (0 ≤ F1 (fun k => m 407 k) (HM m 401) ∧ F1 (fun k => m 407 k) (HM m 401) < 40) ∧ HM m 401 (F1 (fun k => m 407 k) (HM m 401)) = true then 1 else 0)) (0, 2) (0, Mv q1) (MF_8 a1) (fun i hi => by rw [up_nk (by omega)]; exact a2 i hi) (fun i hi => by rw [up_ne (by omega)]; exact a3 i hi) (by show up M1 408 (nv : Nat) _ 408 (nv : Nat) = _; rw [up_eq])
      refine ⟨m', b_Mo_summedUp_27 ?_, g2⟩
      rw [ia, ib q1 (by omega), ic q1 (by omega), r1, r2, r3, hc]
      refine ⟨by omega, fun z => by omega, fun _ => ⟨by omega, by omega, fun _ => ⟨fun _ => ⟨fun z => absurd z (by decide), fun _ => ⟨fun z => absurd rfl z, fun _ => ?_⟩⟩, fun z => absurd (by decide) z⟩, fun z => absurd (by decide) z⟩⟩
      have es : w32 (((nv + nb_ false : Nat) : Int) - 1) = (nv : Nat) := by
        show w32 (((nv + 1 : Nat) : Int) - 1) = (nv : Nat)
        rw [w32n (by omega) (by omega)]; omega
      refine b_Mo_summedUp_101 ⟨fun _ => ?_, fun z => absurd (by decide) z⟩
      rw [es, a4']
      refine ⟨by omega, _, _, hht, by omega, ?_⟩
      rintro m3 rfl
      rw [w32s (by omega)]
      exact g1
    · -- an act of two
      have l1 := (WE_lt _ _ _ _ _ _ _ h1).2
      have l2 := (WE_lt _ _ _ _ _ _ _ h2).2
      have r1' := WE_rg (N := fun k => m 407 k) (H := HM m 401) hN _ _ _ _ _ _ _ h1
      have r2' := WE_rg (N := fun k => m 407 k) (H := HM m 401) hN _ _ _ _ _ _ _ h2
      refine ih _ _ _ _ _ _ h1 M nv tr u8 u9 hF hnv htr (by omega) (fun M1 v8 v9 a1 a2 a3 a4 => ?_)
      cases a with
      | false =>
        have a4' : M1 408 (nv : Nat) = F1 (fun k => m 407 k) (HM m 401) := a4
        refine ih _ _ _ _ _ _ h2 M1 (nv + 1) tr v8 v9 a1 (by omega) (by omega) (by omega) (fun M2 w8 w9 b1 b2 b3 b4 => ?_)
        have b4' : M2 408 ((nv + 1 : Nat) : Int) = F2 (fun k => m 407 k) (HM m 401) := b4
        have b2' : M2 408 (nv : Nat) = F1 (fun k => m 407 k) (HM m 401) := by rw [b2 nv (by omega), a4']
        obtain ⟨r1, r2, r3⟩ := rw3 M2 q2 b1
        rw [rg_f] at r1' r2'
        have es : w32 (((nv + 1 + nb_ false : Nat) : Int) + -1) = ((nv + 1 : Nat) : Int) := by
          show w32 (((nv + 1 + 1 : Nat) : Int) + -1) = _
          rw [w32n (by omega) (by omega)]; omega
        have es2 : w32 (((nv + 1 : Nat) : Int) - 1) = (nv : Nat) := by rw [w32n (by omega) (by omega)]; omega
        cases b with
        | false =>
          obtain ⟨m', g1, g2⟩ := hk (up M2 408 (nv : Nat) (bop cm.1 (F1 (fun k => m 407 k) (HM m 401)) (F2 (fun k => m 407 k) (HM m 401)))) (0, Mo q2) (0, Mv q2) (MF_8 b1) (fun i hi => by rw [up_nk (by omega), b2 i (by omega)]; exact a2 i hi) (fun i hi => by rw [up_ne (by omega), b3 i hi]; exact a3 i hi) (by show up M2 408 (nv : Nat) _ 408 (nv : Nat) = _; rw [up_eq])
          refine ⟨m', b_Mo_summedUp_27 ?_, g2⟩
          rw [hc] at g1 r2
          rw [ia, ib q2 (by omega), ic q2 (by omega), r1, r2, r3, es, es2, b2', b4']
          have hcm' := hcm
          simp only [ops, List.mem_cons, List.not_mem_nil, or_false] at hcm'
          refine ⟨by omega, fun z => by omega, fun _ => ⟨by omega, by omega, ?_⟩⟩
          by_cases hfar : cm = (33, 4)
          · subst hfar
            refine ⟨fun _ => ⟨fun _ => ⟨fun z => absurd z (by decide), fun _ => ⟨fun _ => ⟨fun z => absurd z (by decide), fun _ => ⟨fun z => absurd rfl z, fun _ => ⟨by omega, by omega, _, _, c_Mo_farOf, by omega, ?_⟩⟩⟩, fun z => absurd (by decide) z⟩⟩, fun z => absurd (by decide) z⟩, fun z => absurd (by decide) z⟩
            rintro m10 rfl
            rw [w32s (by omega)]
            have ebop : bop ((33 : Int), (4 : Int)).1 (F1 (fun k => m 407 k) (HM m 401)) (F2 (fun k => m 407 k) (HM m 401)) = apt (F1 (fun k => m 407 k) (HM m 401)) (F2 (fun k => m 407 k) (HM m 401)) := by simp [bop]
            rw [ebop] at g1
            exact g1
          · have hcm2 : cm ∈ [((7 : Int), (6 : Int)), (8, 7), (9, 8), (10, 9)] := by
              simp only [List.mem_cons, List.not_mem_nil, or_false]
              rcases hcm' with q | q | q | q | q
              · exact Or.inl q
              · exact Or.inr (Or.inl q)
              · exact Or.inr (Or.inr (Or.inl q))
              · exact Or.inr (Or.inr (Or.inr q))
              · exact absurd q hfar
            have hb : 6 ≤ cm.2 ∧ cm.2 ≤ 9 := by
              simp only [List.mem_cons, List.not_mem_nil, or_false] at hcm2
              rcases hcm2 with rfl | rfl | rfl | rfl <;> decide
            refine ⟨fun _ => ⟨fun _ => ⟨fun z => by omega, fun _ => ⟨fun _ => ⟨fun z => by omega, fun _ => ⟨fun _ => ⟨by omega, by omega, _, _, c_Mo_two hcm2 r1' r2', by omega, ?_⟩, fun z => by omega⟩⟩, fun z => by omega⟩⟩, fun z => by omega⟩, fun z => by omega⟩
            rintro m8 rfl
            rw [w32s (by omega)]
            exact g1
        | true =>
          obtain ⟨m', g1, g2⟩ := hk (up M2 409 (tr : Nat) (bop cm.1 (F1 (fun k => m 407 k) (HM m 401)) (F2 (fun k => m 407 k) (HM m 401)))) (0, Mo q2) (0, Mv q2) (MF_9 b1) (fun i hi => by rw [up_ne (by omega), b2 i (by omega)]; exact a2 i hi) (fun i hi => by rw [up_nk (by omega), b3 i hi]; exact a3 i hi) (by show up M2 409 (tr : Nat) _ 409 (tr : Nat) = _; rw [up_eq])
          have es3 : w32 (((nv + 1 + nb_ false : Nat) : Int) + -2) = (nv : Nat) := by
            show w32 (((nv + 1 + 1 : Nat) : Int) + -2) = _
            rw [w32n (by omega) (by omega)]; omega
          have hb : 10 ≤ cm.2 ∧ cm.2 < 20 := by
            have hcm' := hcm
            simp only [ops, List.mem_cons, List.not_mem_nil, or_false] at hcm'
            rcases hcm' with rfl | rfl | rfl | rfl | rfl | rfl <;> decide
          have hrg := bop_rg hcm (rg_f.mpr r1') (rg_f.mpr r2')
          rw [rg_t] at hrg
          refine ⟨m', b_Mo_summedUp_27 ?_, g2⟩
          rw [hc] at g1 r2
          rw [ia, ib q2 (by omega), ic q2 (by omega), r1, r2, r3, es3, w32s (k := nv) (by omega), b2', b4']
          refine ⟨by omega, fun z => by omega, fun _ => ⟨by omega, by omega, fun _ => ⟨fun _ => ⟨fun z => by omega, fun _ => ⟨fun _ => ⟨fun _ => ⟨fun z => by omega, fun _ => ⟨by omega, by omega, _, _, c_Mo_isAsked hcm, hrg, by show 0 ≤ ((tr + tb_ false : Nat) : Int) ∧ ((tr + tb_ false : Nat) : Int) < 330; show 0 ≤ ((tr : Nat) : Int) ∧ ((tr : Nat) : Int) < 330; omega, ?_⟩⟩, fun z => by omega⟩, fun z => by omega⟩⟩, fun z => by omega⟩, fun z => by omega⟩⟩
          rintro m6 rfl
          rw [w32s (k := q2) (by omega)]
          have et : w32 (((tr + tb_ false : Nat) : Int) + 1) = ((tr + 1 : Nat) : Int) := w32s (k := tr) (by omega)
          rw [et]
          exact g1
      | true =>
        cases b with
        | false => simp [ops] at hcm
        | true =>
          have a4' : M1 409 (tr : Nat) = F1 (fun k => m 407 k) (HM m 401) := a4
          refine ih _ _ _ _ _ _ h2 M1 nv (tr + 1) v8 v9 a1 (by omega) (by omega) (by omega) (fun M2 w8 w9 b1 b2 b3 b4 => ?_)
          have b4' : M2 409 ((tr + 1 : Nat) : Int) = F2 (fun k => m 407 k) (HM m 401) := b4
          have b3' : M2 409 (tr : Nat) = F1 (fun k => m 407 k) (HM m 401) := by rw [b3 tr (by omega), a4']
          obtain ⟨r1, r2, r3⟩ := rw3 M2 q2 b1
          rw [rg_t] at r1' r2'
          have es : w32 (((tr + 1 + tb_ true : Nat) : Int) + -1) = ((tr + 1 : Nat) : Int) := by
            show w32 (((tr + 1 + 1 : Nat) : Int) + -1) = _
            rw [w32n (by omega) (by omega)]; omega
          have es2 : w32 (((tr + 1 : Nat) : Int) - 1) = (tr : Nat) := by rw [w32n (by omega) (by omega)]; omega
          obtain ⟨m', g1, g2⟩ := hk (up M2 409 (tr : Nat) (bop cm.1 (F1 (fun k => m 407 k) (HM m 401)) (F2 (fun k => m 407 k) (HM m 401)))) (0, Mo q2) (0, Mv q2) (MF_9 b1) (fun i hi => by rw [up_ne (by omega), b2 i hi]; exact a2 i hi) (fun i hi => by rw [up_nk (by omega), b3 i (by omega)]; exact a3 i hi) (by show up M2 409 (tr : Nat) _ 409 (tr : Nat) = _; rw [up_eq])
          have hb : 21 ≤ cm.2 := by
            have hcm' := hcm
            simp only [ops, List.mem_cons, List.not_mem_nil, or_false] at hcm'
            rcases hcm' with rfl | rfl <;> decide
          have hrg := bop_rg hcm (rg_t.mpr r1') (rg_t.mpr r2')
          rw [rg_t] at hrg
          refine ⟨m', b_Mo_summedUp_27 ?_, g2⟩
          rw [hc] at g1 r2
          rw [ia, ib q2 (by omega), ic q2 (by omega), r1, r2, r3, es, es2, b3', b4']
          refine ⟨by omega, fun z => by omega, fun _ => ⟨by omega, by omega, fun _ => ⟨fun _ => ⟨fun z => by omega, fun _ => ⟨fun _ => ⟨fun _ => ⟨fun _ => ⟨fun _ => ⟨by omega, by omega, _, _, c_Mo_joined hcm r1' r2', hrg, by omega, ?_⟩, fun z => by omega⟩, fun z => by omega⟩, fun z => by omega⟩, fun z => by omega⟩⟩, fun z => by omega⟩, fun z => by omega⟩⟩
          rintro m2 rfl
          rw [w32s (by omega)]
          exact g1
    · -- a choice
      have l1 := (WE_lt _ _ _ _ _ _ _ h1).2
      have l2 := (WE_lt _ _ _ _ _ _ _ h2).2
      have l3 := (WE_lt _ _ _ _ _ _ _ h3).2
      have rG := WE_rg (N := fun k => m 407 k) (H := HM m 401) hN _ _ _ _ _ _ _ h1
      rw [rg_t] at rG
      refine ih _ _ _ _ _ _ h1 M nv tr u8 u9 hF hnv htr (by omega) (fun M1 v8 v9 a1 a2 a3 a4 => ?_)
      have a4' : M1 409 (tr : Nat) = G (fun k => m 407 k) (HM m 401) := a4
      refine ih _ _ _ _ _ _ h2 M1 nv (tr + 1) v8 v9 a1 (by omega) (by omega) (by omega) (fun M2 w8 w9 b1 b2 b3 b4 => ?_)
      have b4' : M2 408 (nv : Nat) = F1 (fun k => m 407 k) (HM m 401) := b4
      refine ih _ _ _ _ _ _ h3 M2 (nv + 1) (tr + 1) w8 w9 b1 (by omega) (by omega) (by omega) (fun M3 y8 y9 c1 c2 c3 c4 => ?_)
      have c4' : M3 408 ((nv + 1 : Nat) : Int) = F2 (fun k => m 407 k) (HM m 401) := c4
      have c2' : M3 408 (nv : Nat) = F1 (fun k => m 407 k) (HM m 401) := by rw [c2 nv (by omega), b4']
      have c3' : M3 409 (tr : Nat) = G (fun k => m 407 k) (HM m 401) := by rw [c3 tr (by omega), b3 tr (by omega), a4']
      obtain ⟨r1, r2, r3⟩ := rw3 M3 q3 c1
      have es : w32 (((nv + 1 + nb_ false : Nat) : Int) + -1) = ((nv + 1 : Nat) : Int) := by
        show w32 (((nv + 1 + 1 : Nat) : Int) + -1) = _
        rw [w32n (by omega) (by omega)]; omega
      have es2 : w32 (((nv + 1 : Nat) : Int) - 1) = (nv : Nat) := by rw [w32n (by omega) (by omega)]; omega
      have et : w32 (((tr + 1 + tb_ false : Nat) : Int) + -1) = (tr : Nat) := by
        show w32 (((tr + 1 : Nat) : Int) + -1) = _
        rw [w32n (by omega) (by omega)]; omega
      have hrest : (∀ i : Nat, i < nv → M3 408 (i : Nat) = M 408 (i : Nat)) ∧ (∀ i : Nat, i < tr → M3 409 (i : Nat) = M 409 (i : Nat)) := ⟨fun i hi => by rw [c2 i (by omega), b2 i hi]; exact a2 i hi, fun i hi => by rw [c3 i (by omega), b3 i (by omega)]; exact a3 i hi⟩
      by_cases hG : G (fun k => m 407 k) (HM m 401) = 0
      · obtain ⟨m', g1, g2⟩ := hk (up M3 408 (nv : Nat) (F2 (fun k => m 407 k) (HM m 401))) (0, 3) (0, Mv q3) (MF_8 c1) (fun i hi => by rw [up_nk (by omega)]; exact hrest.1 i hi) (fun i hi => by rw [up_ne (by omega)]; exact hrest.2 i hi) (by
          show up M3 408 (nv : Nat) _ 408 (nv : Nat) = if G (fun k => m 407 k) (HM m 401) = 0 then _ else _
          rw [up_eq, if_pos hG])
        refine ⟨m', b_Mo_summedUp_27 ?_, g2⟩
        rw [ia, ib q3 (by omega), ic q3 (by omega), r1, r2, r3, hc, es, es2, et, c3', c4']
        refine ⟨by omega, fun z => by omega, fun _ => ⟨by omega, by omega, fun _ => ⟨fun z => absurd rfl z, fun _ => ⟨by omega, fun z => absurd hG z, fun _ => ⟨by omega, by omega, ?_⟩⟩⟩, fun z => absurd (by decide) z⟩⟩
        rintro m11 rfl
        rw [w32s (by omega)]
        exact g1
      · obtain ⟨m', g1, g2⟩ := hk M3 (0, 3) (0, Mv q3) c1 hrest.1 hrest.2 (by
          show M3 408 (nv : Nat) = if G (fun k => m 407 k) (HM m 401) = 0 then _ else _
          rw [c2', if_neg hG])
        refine ⟨m', b_Mo_summedUp_27 ?_, g2⟩
        rw [ia, ib q3 (by omega), ic q3 (by omega), r1, r2, r3, hc, es, es2, et, c3']
        refine ⟨by omega, fun z => by omega, fun _ => ⟨by omega, by omega, fun _ => ⟨fun z => absurd rfl z, fun _ => ⟨by omega, fun _ => ?_, fun z => absurd hG z⟩⟩, fun z => absurd (by decide) z⟩⟩
        rw [w32s (by omega)]
        exact g1
    · -- not
      have l1 := (WE_lt _ _ _ _ _ _ _ h1).2
      have hr := WE_rg (N := fun k => m 407 k) (H := HM m 401) hN _ _ _ _ _ _ _ h1
      rw [rg_t] at hr
      refine ih _ _ _ _ _ _ h1 M nv tr u8 u9 hF hnv htr (by omega) (fun M1 v8 v9 a1 a2 a3 a4 => ?_)
      have a4' : M1 409 (tr : Nat) = G (fun k => m 407 k) (HM m 401) := a4
      obtain ⟨r1, r2, r3⟩ := rw3 M1 q1 a1
      have es : w32 (((tr + tb_ true : Nat) : Int) - 1) = (tr : Nat) := by
        show w32 (((tr + 1 : Nat) : Int) - 1) = _
        rw [w32n (by omega) (by omega)]; omega
      obtain ⟨m', g1, g2⟩ := hk (up M1 409 (tr : Nat) (1 - G (fun k => m 407 k) (HM m 401))) (0, 20) (0, Mv q1) (MF_9 a1) (fun i hi => by rw [up_ne (by omega)]; exact a2 i hi) (fun i hi => by rw [up_nk (by omega)]; exact a3 i hi) (by show up M1 409 (tr : Nat) _ 409 (tr : Nat) = _; rw [up_eq])
      refine ⟨m', b_Mo_summedUp_27 ?_, g2⟩
      rw [ia, ib q1 (by omega), ic q1 (by omega), r1, r2, r3, hc, es, a4']
      refine ⟨by omega, fun z => by omega, fun _ => ⟨by omega, by omega, fun _ => ⟨fun _ => ⟨fun z => absurd z (by decide), fun _ => ⟨fun _ => ⟨fun _ => ⟨fun _ => ⟨fun z => absurd rfl z, fun _ => ⟨by omega, fun z => ⟨by omega, ?_⟩, fun z => ⟨by omega, ?_⟩⟩⟩, fun z => absurd (by decide) z⟩, fun z => absurd (by decide) z⟩, fun z => absurd (by decide) z⟩⟩, fun z => absurd (by decide) z⟩, fun z => absurd (by decide) z⟩⟩
      · rintro m3 rfl
        rw [show 1 - G (fun k => m 407 k) (HM m 401) = 0 by omega] at g1
        rw [w32s (by omega)]
        exact g1
      · rintro m4 rfl
        rw [show 1 - G (fun k => m 407 k) (HM m 401) = 1 by omega] at g1
        rw [w32s (by omega)]
        exact g1
theorem c_Mo_summedUp {d T I : Nat} {w : Int} {p p' q q' n : Nat} {F : Ef} {m : Mm} {C Mo Mv : Nat → Int} (hT : T < 4) (hI : I < 24) (h8 : hv20 (m 401 8)) (h9 : hv20 (m 401 9)) (hB : m 403 (681 * T + 2 + 3 * I) = (q : Nat)) (hE : m 403 (681 * T + 3 + 3 * I) = (q' : Nat)) (hE2 : q' ≤ 304) (hMo : ∀ j : Nat, m 403 (681 * T + 73 + 2 * j) = Mo j) (hMv : ∀ j : Nat, m 403 (681 * T + 74 + 2 * j) = Mv j) (hN : ∀ k, nmo w k → -1000000 ≤ m 407 k ∧ m 407 k ≤ 1000000) (hW : WE C Mo Mv w n false p p' q q' F) : ∃ m', Cl (d + 3) k_Mo_summedUp [(18, 400), (0, (T : Nat)), (0, (I : Nat))] m (some (1, F (fun k => m 407 k) (HM m 401)), m') ∧ MF m m' := by
  have ia : w32 (w32 (w32 (681 * (T : Int)) + 1) + w32 (3 * (I : Int))) = 681 * T + 1 + 3 * I := by
    rw [w32n (x := 681 * (T : Int)) (by omega) (by omega), w32n (x := 681 * (T : Int) + 1) (by omega) (by omega), w32n (x := 3 * (I : Int)) (by omega) (by omega), w32n (by omega) (by omega)]
  have ib : w32 (w32 (681 * (T : Int)) + 73) = 681 * T + 73 := by rw [w32n (x := 681 * (T : Int)) (by omega) (by omega), w32n (by omega) (by omega)]
  have ic : w32 (681 * (T : Int) + 1 + 3 * I + 1) = 681 * T + 2 + 3 * I := by rw [w32n (by omega) (by omega)]; omega
  have id2 : w32 (681 * (T : Int) + 1 + 3 * I + 2) = 681 * T + 3 + 3 * I := by rw [w32n (by omega) (by omega)]; omega
  obtain ⟨m', g1, g2⟩ := me (d := d) (T := T) (I := I) (x1 := (T : Nat)) (x2 := (I : Nat)) (v := F (fun k => m 407 k) (HM m 401)) (m := m) (Φ := MF m) hT hI h8 h9 hE (by omega) hMo hMv hN n false p p' q q' F hW m 0 0 (9, 0) (9, 0) (fun _ _ _ _ => rfl) (by omega) (by omega) (by omega) (fun M' u8 u9 a1 a2 a3 a4 => by
    have a4' : M' 408 0 = F (fun k => m 407 k) (HM m 401) := a4
    refine ⟨M', b_Mo_summedUp_27 ?_, a1⟩
    rw [id2, a1 403 _ (by omega) (by omega), hE, a4']
    exact ⟨by omega, fun _ => rfl, fun z => absurd (by omega) z⟩)
  refine ⟨m', cl_Mo_summedUp (b_Mo_summedUp ?_), g2⟩
  rw [ia, ib, ic, hB]
  exact ⟨by omega, g1⟩
