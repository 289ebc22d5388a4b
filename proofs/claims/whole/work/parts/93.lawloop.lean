/-! THE LAW'S LOOP: every call of the script -/
theorem Cl_pure {d k : Nat} {a : List Vv} {m m' : Mm} {v : Option Vv} (h : Cl d k a m (v, m')) (hV : ∀ w ∈ a, Vok w) (hm : Mok m) (hs : ScP m) : Mok m' ∧ (∀ z, m' 500 z = m 500 z) ∧ (∀ z, m' 501 z = m 501 z) := by
  obtain ⟨M, h1, _, n, h3⟩ := h
  obtain ⟨S, _, hM⟩ := tabs_ok k M h1
  obtain ⟨_, _, _, _, _, _, _, _, _, _, _, _, hT, _, _⟩ := hM
  obtain ⟨q1, _, q3, q4⟩ := pure_run tabs_ok n d M.2.2.2 M.2.1 0 (ent a M.2.2.1) [] m v m' _ _ _ h3 hT hs ⟨ent_ok hV, fun _ z => absurd z (by simp), hm⟩
  exact ⟨q1, q3, q4⟩
theorem ScP_con {m m' : Mm} (h : ScP m) (h0 : ∀ z, m' 500 z = m 500 z) (h1 : ∀ z, m' 501 z = m 501 z) : ScP m' := by
  obtain ⟨⟨Ls, xs, a1, a2, a3⟩, ys, b1⟩ := h
  exact ⟨⟨Ls, xs, by rw [h0]; exact a1, a2, fun j hj => by rw [h0]; exact a3 j hj⟩, ys, fun j hj => by rw [h1]; exact b1 j hj⟩
theorem V_TH : Vok (17, 0) := Vok_o (by decide +kernel)
theorem V_Mo : Vok (18, 400) := Vok_o (by decide +kernel)
theorem V_scr {m : Mm} {x : Int} (h : ScP m) (h0 : 0 ≤ x) (h1 : x < m 500 (-1)) : Vok (0, m 500 x) := by
  obtain ⟨⟨Ls, xs, a1, a2, a3⟩, _⟩ := h
  obtain ⟨j, rfl⟩ := Int.eq_ofNat_of_zero_le h0
  rw [a1] at h1
  rw [show ((j : Nat) : Int) = (j : Int) from rfl, a3 j (by omega)]
  exact in32_to _
theorem V_0 : Vok (0, 0) := in32_lit0
theorem V_1 : Vok (0, 1) := by rw [Vok_i]; unfold in32; omega
theorem V_l1 {a : Vv} (ha : Vok a) : ∀ w ∈ [a], Vok w := fun w hw => by rw [List.mem_singleton] at hw; rw [hw]; exact ha
theorem V_cs {a : Vv} {l : List Vv} (ha : Vok a) (h : ∀ w ∈ l, Vok w) : ∀ w ∈ a :: l, Vok w := fun w hw => by
  rcases List.mem_cons.mp hw with rfl | hw
  · exact ha
  · exact h w hw
theorem V_l2 {a b : Vv} (ha : Vok a) (hb : Vok b) : ∀ w ∈ [a, b], Vok w := V_cs ha (V_l1 hb)
theorem V_l3 {a b c : Vv} (ha : Vok a) (hb : Vok b) (hc : Vok c) : ∀ w ∈ [a, b, c], Vok w := V_cs ha (V_l2 hb hc)
theorem V_l5 {a b c d e : Vv} (ha : Vok a) (hb : Vok b) (hc : Vok c) (hd : Vok d) (he : Vok e) : ∀ w ∈ [a, b, c, d, e], Vok w := V_cs ha (V_cs hb (V_l3 hc hd he))
/-- what stands at the loop's head -/
def Lw_I (m0 m : Mm) : Prop := R m ∧ Mok m ∧ (∀ z, m 500 z = m0 500 z) ∧ (∀ z, m 501 z = m0 501 z)
theorem op_go2 {kc km t : Nat} {args : List Vv} {m0 m : Mm} (h0 : ScP m0) (h : Lw_I m0 m) (ho : OP kc km t args m) (hV : ∀ w ∈ args, Vok w) : ∃ v m1 m2, Cl 120 kc ((17, 0) :: args) m (some (t, v), m1) ∧ Cl 120 km ((18, 400) :: args) m1 (some (t, v), m2) ∧ (∀ z, m1 500 z = m0 500 z) ∧ Lw_I m0 m2 := by
  obtain ⟨a1, a2, a3, a4⟩ := h
  obtain ⟨v, m1, m2, c1, c2, r1, _⟩ := ho
  have s := ScP_con h0 a3 a4
  obtain ⟨p1, p2, p3⟩ := Cl_pure c1 (fun w hw => by
    rcases List.mem_cons.mp hw with rfl | hw
    · exact V_TH
    · exact hV w hw) a2 s
  obtain ⟨q1, q2, q3⟩ := Cl_pure c2 (fun w hw => by
    rcases List.mem_cons.mp hw with rfl | hw
    · exact V_Mo
    · exact hV w hw) p1 (ScP_con s p2 p3)
  exact ⟨v, m1, m2, c1, c2, fun z => by rw [p2, a3], r1, q1, fun z => by rw [q2, p2, a3], fun z => by rw [q3, p3, a4]⟩
theorem lc_hand {m0 m : Mm} {x : Int} (h0 : ScP m0) (h : Lw_I m0 m) (hx : 0 ≤ x ∧ x + 6 ≤ m0 500 (-1) ∧ m0 500 (-1) ≤ 3072) (k : ∀ m2, Lw_I m0 m2 → ∃ m', Ev 121 K_Lw 2 1083 [(50, 500), (17, 0), (18, 400), (0, x)] [] m2 (some (0, 1), m')) : ∃ m', Ev 121 K_Lw 2 14 [(50, 500), (17, 0), (18, 400), (0, x)] [] m (some (0, 1), m') := by
  have e := h.2.2.1
  have w1 : w32 (x + 1) = x + 1 := w32n (by omega) (by omega)
  have V1 : Vok (0, m0 500 (x + 1)) := V_scr h0 (by omega) (by omega)
  have w2 : w32 (x + 2) = x + 2 := w32n (by omega) (by omega)
  have V2 : Vok (0, m0 500 (x + 2)) := V_scr h0 (by omega) (by omega)
  obtain ⟨v, m1, m2, c1, c2, e1, g⟩ := op_go2 h0 h (op_hand (x := m0 500 (x + 1)) (y := m0 500 (x + 2)) h.1) (V_l2 V1 V2)
  obtain ⟨m', hk⟩ := k m2 g
  refine ⟨m', b_Lw_14 ?_⟩
  simp only [w1, w2, e]
  refine ⟨⟨by omega, by omega⟩, ⟨by omega, by omega⟩, v, m1, c1, ?_⟩
  simp only [e1]
  exact ⟨⟨by omega, by omega⟩, ⟨by omega, by omega⟩, v, m2, c2, ⟨fun _ => hk, fun z => absurd rfl z⟩⟩
theorem lc_cow {m0 m : Mm} {x : Int} (h0 : ScP m0) (h : Lw_I m0 m) (hx : 0 ≤ x ∧ x + 6 ≤ m0 500 (-1) ∧ m0 500 (-1) ≤ 3072) (k : ∀ m2, Lw_I m0 m2 → ∃ m', Ev 121 K_Lw 2 1083 [(50, 500), (17, 0), (18, 400), (0, x)] [] m2 (some (0, 1), m')) : ∃ m', Ev 121 K_Lw 2 41 [(50, 500), (17, 0), (18, 400), (0, x)] [] m (some (0, 1), m') := by
  have e := h.2.2.1
  have w1 : w32 (x + 1) = x + 1 := w32n (by omega) (by omega)
  have V1 : Vok (0, m0 500 (x + 1)) := V_scr h0 (by omega) (by omega)
  have w2 : w32 (x + 2) = x + 2 := w32n (by omega) (by omega)
  have V2 : Vok (0, m0 500 (x + 2)) := V_scr h0 (by omega) (by omega)
  obtain ⟨v, m1, m2, c1, c2, e1, g⟩ := op_go2 h0 h (op_cow (x := m0 500 (x + 1)) (y := m0 500 (x + 2)) h.1) (V_l2 V1 V2)
  obtain ⟨m', hk⟩ := k m2 g
  refine ⟨m', b_Lw_41 ?_⟩
  simp only [w1, w2, e]
  refine ⟨⟨by omega, by omega⟩, ⟨by omega, by omega⟩, v, m1, c1, ?_⟩
  simp only [e1]
  exact ⟨⟨by omega, by omega⟩, ⟨by omega, by omega⟩, v, m2, c2, ⟨fun _ => hk, fun z => absurd rfl z⟩⟩
theorem lc_gate {m0 m : Mm} {x : Int} (h0 : ScP m0) (h : Lw_I m0 m) (hx : 0 ≤ x ∧ x + 6 ≤ m0 500 (-1) ∧ m0 500 (-1) ≤ 3072) (k : ∀ m2, Lw_I m0 m2 → ∃ m', Ev 121 K_Lw 2 1083 [(50, 500), (17, 0), (18, 400), (0, x)] [] m2 (some (0, 1), m')) : ∃ m', Ev 121 K_Lw 2 68 [(50, 500), (17, 0), (18, 400), (0, x)] [] m (some (0, 1), m') := by
  have e := h.2.2.1
  have w1 : w32 (x + 1) = x + 1 := w32n (by omega) (by omega)
  have V1 : Vok (0, m0 500 (x + 1)) := V_scr h0 (by omega) (by omega)
  have w2 : w32 (x + 2) = x + 2 := w32n (by omega) (by omega)
  have V2 : Vok (0, m0 500 (x + 2)) := V_scr h0 (by omega) (by omega)
  by_cases hz : m0 500 (x + 2) = 0
  · have hz2 := hz
    obtain ⟨v, m1, m2, c1, c2, e1, g⟩ := op_go2 h0 h (op_gate (x := m0 500 (x + 1)) (y := 0) h.1) (V_l2 V1 V_0)
    obtain ⟨m', hk⟩ := k m2 g
    refine ⟨m', b_Lw_68 ?_⟩
    simp only [w1, w2, e]
    refine ⟨⟨by omega, by omega⟩, ⟨by omega, by omega⟩, fun _ => ⟨v, m1, c1, ?_⟩, fun z => absurd hz z⟩
    simp only [e1]
    exact ⟨⟨by omega, by omega⟩, ⟨by omega, by omega⟩, fun _ => ⟨v, m2, c2, ⟨fun _ => hk, fun z => absurd rfl z⟩⟩, fun z => absurd hz z⟩
  · have hz2 := hz
    obtain ⟨v, m1, m2, c1, c2, e1, g⟩ := op_go2 h0 h (op_gate (x := m0 500 (x + 1)) (y := 1) h.1) (V_l2 V1 V_1)
    obtain ⟨m', hk⟩ := k m2 g
    refine ⟨m', b_Lw_68 ?_⟩
    simp only [w1, w2, e]
    refine ⟨⟨by omega, by omega⟩, ⟨by omega, by omega⟩, fun z => absurd z hz, fun _ => ⟨v, m1, c1, ?_⟩⟩
    simp only [e1]
    exact ⟨⟨by omega, by omega⟩, ⟨by omega, by omega⟩, fun z => absurd z hz, fun _ => ⟨v, m2, c2, ⟨fun _ => hk, fun z => absurd rfl z⟩⟩⟩
theorem lc_feed {m0 m : Mm} {x : Int} (h0 : ScP m0) (h : Lw_I m0 m) (hx : 0 ≤ x ∧ x + 6 ≤ m0 500 (-1) ∧ m0 500 (-1) ≤ 3072) (k : ∀ m2, Lw_I m0 m2 → ∃ m', Ev 121 K_Lw 2 1083 [(50, 500), (17, 0), (18, 400), (0, x)] [] m2 (some (0, 1), m')) : ∃ m', Ev 121 K_Lw 2 103 [(50, 500), (17, 0), (18, 400), (0, x)] [] m (some (0, 1), m') := by
  have e := h.2.2.1
  have w1 : w32 (x + 1) = x + 1 := w32n (by omega) (by omega)
  have V1 : Vok (0, m0 500 (x + 1)) := V_scr h0 (by omega) (by omega)
  have w2 : w32 (x + 2) = x + 2 := w32n (by omega) (by omega)
  have V2 : Vok (0, m0 500 (x + 2)) := V_scr h0 (by omega) (by omega)
  have w3 : w32 (x + 3) = x + 3 := w32n (by omega) (by omega)
  have V3 : Vok (0, m0 500 (x + 3)) := V_scr h0 (by omega) (by omega)
  have w4 : w32 (x + 4) = x + 4 := w32n (by omega) (by omega)
  have V4 : Vok (0, m0 500 (x + 4)) := V_scr h0 (by omega) (by omega)
  have w5 : w32 (x + 5) = x + 5 := w32n (by omega) (by omega)
  have V5 : Vok (0, m0 500 (x + 5)) := V_scr h0 (by omega) (by omega)
  obtain ⟨v, m1, m2, c1, c2, e1, g⟩ := op_go2 h0 h (op_feed (x1 := m0 500 (x + 1)) (x2 := m0 500 (x + 2)) (x3 := m0 500 (x + 3)) (x4 := m0 500 (x + 4)) (x5 := m0 500 (x + 5)) h.1) (V_l5 V1 V2 V3 V4 V5)
  obtain ⟨m', hk⟩ := k m2 g
  refine ⟨m', b_Lw_103 ?_⟩
  simp only [w1, w2, w3, w4, w5, e]
  refine ⟨⟨by omega, by omega⟩, ⟨by omega, by omega⟩, ⟨by omega, by omega⟩, ⟨by omega, by omega⟩, ⟨by omega, by omega⟩, v, m1, c1, ?_⟩
  simp only [e1]
  exact ⟨⟨by omega, by omega⟩, ⟨by omega, by omega⟩, ⟨by omega, by omega⟩, ⟨by omega, by omega⟩, ⟨by omega, by omega⟩, v, m2, c2, ⟨fun _ => hk, fun z => absurd rfl z⟩⟩
theorem lc_end {m0 m : Mm} {x : Int} (h0 : ScP m0) (h : Lw_I m0 m) (hx : 0 ≤ x ∧ x + 6 ≤ m0 500 (-1) ∧ m0 500 (-1) ≤ 3072) (k : ∀ m2, Lw_I m0 m2 → ∃ m', Ev 121 K_Lw 2 1083 [(50, 500), (17, 0), (18, 400), (0, x)] [] m2 (some (0, 1), m')) : ∃ m', Ev 121 K_Lw 2 160 [(50, 500), (17, 0), (18, 400), (0, x)] [] m (some (0, 1), m') := by
  have e := h.2.2.1
  have w1 : w32 (x + 1) = x + 1 := w32n (by omega) (by omega)
  have V1 : Vok (0, m0 500 (x + 1)) := V_scr h0 (by omega) (by omega)
  obtain ⟨v, m1, m2, c1, c2, e1, g⟩ := op_go2 h0 h (op_end (x := m0 500 (x + 1)) h.1) (V_l1 V1)
  obtain ⟨m', hk⟩ := k m2 g
  refine ⟨m', b_Lw_160 ?_⟩
  simp only [w1, e]
  refine ⟨⟨by omega, by omega⟩, v, m1, c1, ?_⟩
  simp only [e1]
  exact ⟨⟨by omega, by omega⟩, v, m2, c2, ⟨fun _ => hk, fun z => absurd rfl z⟩⟩
theorem lc_text {m0 m : Mm} {x : Int} (h0 : ScP m0) (h : Lw_I m0 m) (hx : 0 ≤ x ∧ x + 6 ≤ m0 500 (-1) ∧ m0 500 (-1) ≤ 3072) (k : ∀ m2, Lw_I m0 m2 → ∃ m', Ev 121 K_Lw 2 1083 [(50, 500), (17, 0), (18, 400), (0, x)] [] m2 (some (0, 1), m')) : ∃ m', Ev 121 K_Lw 2 177 [(50, 500), (17, 0), (18, 400), (0, x)] [] m (some (0, 1), m') := by
  have e := h.2.2.1
  obtain ⟨v, m1, m2, c1, c2, e1, g⟩ := op_go2 h0 h (op_text  h.1) (fun w hw => absurd hw (by simp))
  obtain ⟨m', hk⟩ := k m2 g
  refine ⟨m', b_Lw_177 ?_⟩
  exact ⟨v, m1, c1, v, m2, c2, ⟨fun _ => hk, fun z => absurd rfl z⟩⟩
theorem lc_fault {m0 m : Mm} {x : Int} (h0 : ScP m0) (h : Lw_I m0 m) (hx : 0 ≤ x ∧ x + 6 ≤ m0 500 (-1) ∧ m0 500 (-1) ≤ 3072) (k : ∀ m2, Lw_I m0 m2 → ∃ m', Ev 121 K_Lw 2 1083 [(50, 500), (17, 0), (18, 400), (0, x)] [] m2 (some (0, 1), m')) : ∃ m', Ev 121 K_Lw 2 184 [(50, 500), (17, 0), (18, 400), (0, x)] [] m (some (0, 1), m') := by
  have e := h.2.2.1
  have w1 : w32 (x + 1) = x + 1 := w32n (by omega) (by omega)
  have V1 : Vok (0, m0 500 (x + 1)) := V_scr h0 (by omega) (by omega)
  obtain ⟨v, m1, m2, c1, c2, e1, g⟩ := op_go2 h0 h (op_fault (x := m0 500 (x + 1)) h.1) (V_l1 V1)
  obtain ⟨m', hk⟩ := k m2 g
  refine ⟨m', b_Lw_184 ?_⟩
  simp only [w1, e]
  refine ⟨⟨by omega, by omega⟩, v, m1, c1, ?_⟩
  simp only [e1]
  exact ⟨⟨by omega, by omega⟩, v, m2, c2, ⟨fun _ => hk, fun z => absurd rfl z⟩⟩
theorem lc_by {m0 m : Mm} {x : Int} (h0 : ScP m0) (h : Lw_I m0 m) (hx : 0 ≤ x ∧ x + 6 ≤ m0 500 (-1) ∧ m0 500 (-1) ≤ 3072) (k : ∀ m2, Lw_I m0 m2 → ∃ m', Ev 121 K_Lw 2 1083 [(50, 500), (17, 0), (18, 400), (0, x)] [] m2 (some (0, 1), m')) : ∃ m', Ev 121 K_Lw 2 201 [(50, 500), (17, 0), (18, 400), (0, x)] [] m (some (0, 1), m') := by
  have e := h.2.2.1
  have w1 : w32 (x + 1) = x + 1 := w32n (by omega) (by omega)
  have V1 : Vok (0, m0 500 (x + 1)) := V_scr h0 (by omega) (by omega)
  obtain ⟨v, m1, m2, c1, c2, e1, g⟩ := op_go2 h0 h (op_by (x := m0 500 (x + 1)) h.1) (V_l1 V1)
  obtain ⟨m', hk⟩ := k m2 g
  refine ⟨m', b_Lw_201 ?_⟩
  simp only [w1, e]
  refine ⟨⟨by omega, by omega⟩, v, m1, c1, ?_⟩
  simp only [e1]
  exact ⟨⟨by omega, by omega⟩, v, m2, c2, ⟨fun _ => hk, fun z => absurd rfl z⟩⟩
theorem lc_plant {m0 m : Mm} {x : Int} (h0 : ScP m0) (h : Lw_I m0 m) (hx : 0 ≤ x ∧ x + 6 ≤ m0 500 (-1) ∧ m0 500 (-1) ≤ 3072) (k : ∀ m2, Lw_I m0 m2 → ∃ m', Ev 121 K_Lw 2 1083 [(50, 500), (17, 0), (18, 400), (0, x)] [] m2 (some (0, 1), m')) : ∃ m', Ev 121 K_Lw 2 218 [(50, 500), (17, 0), (18, 400), (0, x)] [] m (some (0, 1), m') := by
  have e := h.2.2.1
  have w1 : w32 (x + 1) = x + 1 := w32n (by omega) (by omega)
  have V1 : Vok (0, m0 500 (x + 1)) := V_scr h0 (by omega) (by omega)
  obtain ⟨v, m1, m2, c1, c2, e1, g⟩ := op_go2 h0 h (op_plant (x := m0 500 (x + 1)) h.1) (V_l1 V1)
  obtain ⟨m', hk⟩ := k m2 g
  refine ⟨m', b_Lw_218 ?_⟩
  simp only [w1, e]
  refine ⟨⟨by omega, by omega⟩, v, m1, c1, ?_⟩
  simp only [e1]
  exact ⟨⟨by omega, by omega⟩, v, m2, c2, ⟨fun _ => hk, fun z => absurd rfl z⟩⟩
theorem lc_cut {m0 m : Mm} {x : Int} (h0 : ScP m0) (h : Lw_I m0 m) (hx : 0 ≤ x ∧ x + 6 ≤ m0 500 (-1) ∧ m0 500 (-1) ≤ 3072) (k : ∀ m2, Lw_I m0 m2 → ∃ m', Ev 121 K_Lw 2 1083 [(50, 500), (17, 0), (18, 400), (0, x)] [] m2 (some (0, 1), m')) : ∃ m', Ev 121 K_Lw 2 235 [(50, 500), (17, 0), (18, 400), (0, x)] [] m (some (0, 1), m') := by
  have e := h.2.2.1
  have w1 : w32 (x + 1) = x + 1 := w32n (by omega) (by omega)
  have V1 : Vok (0, m0 500 (x + 1)) := V_scr h0 (by omega) (by omega)
  obtain ⟨v, m1, m2, c1, c2, e1, g⟩ := op_go2 h0 h (op_cut (x := m0 500 (x + 1)) h.1) (V_l1 V1)
  obtain ⟨m', hk⟩ := k m2 g
  refine ⟨m', b_Lw_235 ?_⟩
  simp only [w1, e]
  refine ⟨⟨by omega, by omega⟩, v, m1, c1, ?_⟩
  simp only [e1]
  exact ⟨⟨by omega, by omega⟩, v, m2, c2, ⟨fun _ => hk, fun z => absurd rfl z⟩⟩
theorem lc_press {m0 m : Mm} {x : Int} (h0 : ScP m0) (h : Lw_I m0 m) (hx : 0 ≤ x ∧ x + 6 ≤ m0 500 (-1) ∧ m0 500 (-1) ≤ 3072) (k : ∀ m2, Lw_I m0 m2 → ∃ m', Ev 121 K_Lw 2 1083 [(50, 500), (17, 0), (18, 400), (0, x)] [] m2 (some (0, 1), m')) : ∃ m', Ev 121 K_Lw 2 252 [(50, 500), (17, 0), (18, 400), (0, x)] [] m (some (0, 1), m') := by
  have e := h.2.2.1
  have w1 : w32 (x + 1) = x + 1 := w32n (by omega) (by omega)
  have V1 : Vok (0, m0 500 (x + 1)) := V_scr h0 (by omega) (by omega)
  have w2 : w32 (x + 2) = x + 2 := w32n (by omega) (by omega)
  have V2 : Vok (0, m0 500 (x + 2)) := V_scr h0 (by omega) (by omega)
  obtain ⟨v, m1, m2, c1, c2, e1, g⟩ := op_go2 h0 h (op_press (x := m0 500 (x + 1)) (y := m0 500 (x + 2)) h.1) (V_l2 V1 V2)
  obtain ⟨m', hk⟩ := k m2 g
  refine ⟨m', b_Lw_252 ?_⟩
  simp only [w1, w2, e]
  refine ⟨⟨by omega, by omega⟩, ⟨by omega, by omega⟩, v, m1, c1, ?_⟩
  simp only [e1]
  exact ⟨⟨by omega, by omega⟩, ⟨by omega, by omega⟩, v, m2, c2, ⟨fun _ => hk, fun z => absurd rfl z⟩⟩
theorem lc_go {m0 m : Mm} {x : Int} (h0 : ScP m0) (h : Lw_I m0 m) (hx : 0 ≤ x ∧ x + 6 ≤ m0 500 (-1) ∧ m0 500 (-1) ≤ 3072) (k : ∀ m2, Lw_I m0 m2 → ∃ m', Ev 121 K_Lw 2 1083 [(50, 500), (17, 0), (18, 400), (0, x)] [] m2 (some (0, 1), m')) : ∃ m', Ev 121 K_Lw 2 279 [(50, 500), (17, 0), (18, 400), (0, x)] [] m (some (0, 1), m') := by
  have e := h.2.2.1
  have w1 : w32 (x + 1) = x + 1 := w32n (by omega) (by omega)
  have V1 : Vok (0, m0 500 (x + 1)) := V_scr h0 (by omega) (by omega)
  have w2 : w32 (x + 2) = x + 2 := w32n (by omega) (by omega)
  have V2 : Vok (0, m0 500 (x + 2)) := V_scr h0 (by omega) (by omega)
  obtain ⟨v, m1, m2, c1, c2, e1, g⟩ := op_go2 h0 h (op_go (c := m0 500 (x + 1)) (w := m0 500 (x + 2)) h.1) (V_l2 V1 V2)
  obtain ⟨m', hk⟩ := k m2 g
  refine ⟨m', b_Lw_279 ?_⟩
  simp only [w1, w2, e]
  refine ⟨⟨by omega, by omega⟩, ⟨by omega, by omega⟩, v, m1, c1, ?_⟩
  simp only [e1]
  exact ⟨⟨by omega, by omega⟩, ⟨by omega, by omega⟩, v, m2, c2, ⟨fun _ => hk, fun z => absurd rfl z⟩⟩
theorem lc_hour {m0 m : Mm} {x : Int} (h0 : ScP m0) (h : Lw_I m0 m) (hx : 0 ≤ x ∧ x + 6 ≤ m0 500 (-1) ∧ m0 500 (-1) ≤ 3072) (k : ∀ m2, Lw_I m0 m2 → ∃ m', Ev 121 K_Lw 2 1083 [(50, 500), (17, 0), (18, 400), (0, x)] [] m2 (some (0, 1), m')) : ∃ m', Ev 121 K_Lw 2 306 [(50, 500), (17, 0), (18, 400), (0, x)] [] m (some (0, 1), m') := by
  have e := h.2.2.1
  have w1 : w32 (x + 1) = x + 1 := w32n (by omega) (by omega)
  have V1 : Vok (0, m0 500 (x + 1)) := V_scr h0 (by omega) (by omega)
  obtain ⟨v, m1, m2, c1, c2, e1, g⟩ := op_go2 h0 h (op_hour (x := m0 500 (x + 1)) h.1) (V_l1 V1)
  obtain ⟨m', hk⟩ := k m2 g
  refine ⟨m', b_Lw_306 ?_⟩
  simp only [w1, e]
  refine ⟨⟨by omega, by omega⟩, v, m1, c1, ?_⟩
  simp only [e1]
  exact ⟨⟨by omega, by omega⟩, v, m2, c2, ⟨fun _ => hk, fun z => absurd rfl z⟩⟩
theorem lc_played {m0 m : Mm} {x : Int} (h0 : ScP m0) (h : Lw_I m0 m) (hx : 0 ≤ x ∧ x + 6 ≤ m0 500 (-1) ∧ m0 500 (-1) ≤ 3072) (k : ∀ m2, Lw_I m0 m2 → ∃ m', Ev 121 K_Lw 2 1083 [(50, 500), (17, 0), (18, 400), (0, x)] [] m2 (some (0, 1), m')) : ∃ m', Ev 121 K_Lw 2 323 [(50, 500), (17, 0), (18, 400), (0, x)] [] m (some (0, 1), m') := by
  have e := h.2.2.1
  have w1 : w32 (x + 1) = x + 1 := w32n (by omega) (by omega)
  have V1 : Vok (0, m0 500 (x + 1)) := V_scr h0 (by omega) (by omega)
  obtain ⟨v, m1, m2, c1, c2, e1, g⟩ := op_go2 h0 h (op_played (x := m0 500 (x + 1)) h.1) (V_l1 V1)
  obtain ⟨m', hk⟩ := k m2 g
  refine ⟨m', b_Lw_323 ?_⟩
  simp only [w1, e]
  refine ⟨⟨by omega, by omega⟩, v, m1, c1, ?_⟩
  simp only [e1]
  exact ⟨⟨by omega, by omega⟩, v, m2, c2, ⟨fun _ => hk, fun z => absurd rfl z⟩⟩
theorem lc_years {m0 m : Mm} {x : Int} (h0 : ScP m0) (h : Lw_I m0 m) (hx : 0 ≤ x ∧ x + 6 ≤ m0 500 (-1) ∧ m0 500 (-1) ≤ 3072) (k : ∀ m2, Lw_I m0 m2 → ∃ m', Ev 121 K_Lw 2 1083 [(50, 500), (17, 0), (18, 400), (0, x)] [] m2 (some (0, 1), m')) : ∃ m', Ev 121 K_Lw 2 340 [(50, 500), (17, 0), (18, 400), (0, x)] [] m (some (0, 1), m') := by
  have e := h.2.2.1
  have w1 : w32 (x + 1) = x + 1 := w32n (by omega) (by omega)
  have V1 : Vok (0, m0 500 (x + 1)) := V_scr h0 (by omega) (by omega)
  have w2 : w32 (x + 2) = x + 2 := w32n (by omega) (by omega)
  have V2 : Vok (0, m0 500 (x + 2)) := V_scr h0 (by omega) (by omega)
  obtain ⟨v, m1, m2, c1, c2, e1, g⟩ := op_go2 h0 h (op_years (x := m0 500 (x + 1)) (y := m0 500 (x + 2)) h.1) (V_l2 V1 V2)
  obtain ⟨m', hk⟩ := k m2 g
  refine ⟨m', b_Lw_340 ?_⟩
  simp only [w1, w2, e]
  refine ⟨⟨by omega, by omega⟩, ⟨by omega, by omega⟩, v, m1, c1, ?_⟩
  simp only [e1]
  exact ⟨⟨by omega, by omega⟩, ⟨by omega, by omega⟩, v, m2, c2, ⟨fun _ => hk, fun z => absurd rfl z⟩⟩
theorem lc_undo {m0 m : Mm} {x : Int} (h0 : ScP m0) (h : Lw_I m0 m) (hx : 0 ≤ x ∧ x + 6 ≤ m0 500 (-1) ∧ m0 500 (-1) ≤ 3072) (k : ∀ m2, Lw_I m0 m2 → ∃ m', Ev 121 K_Lw 2 1083 [(50, 500), (17, 0), (18, 400), (0, x)] [] m2 (some (0, 1), m')) : ∃ m', Ev 121 K_Lw 2 367 [(50, 500), (17, 0), (18, 400), (0, x)] [] m (some (0, 1), m') := by
  have e := h.2.2.1
  obtain ⟨v, m1, m2, c1, c2, e1, g⟩ := op_go2 h0 h (op_undo  h.1) (fun w hw => absurd hw (by simp))
  obtain ⟨m', hk⟩ := k m2 g
  refine ⟨m', b_Lw_367 ?_⟩
  exact ⟨v, m1, c1, v, m2, c2, ⟨fun _ => hk, fun z => absurd rfl z⟩⟩
theorem lc_of {m0 m : Mm} {x : Int} (h0 : ScP m0) (h : Lw_I m0 m) (hx : 0 ≤ x ∧ x + 6 ≤ m0 500 (-1) ∧ m0 500 (-1) ≤ 3072) (k : ∀ m2, Lw_I m0 m2 → ∃ m', Ev 121 K_Lw 2 1083 [(50, 500), (17, 0), (18, 400), (0, x)] [] m2 (some (0, 1), m')) : ∃ m', Ev 121 K_Lw 2 374 [(50, 500), (17, 0), (18, 400), (0, x)] [] m (some (0, 1), m') := by
  have e := h.2.2.1
  have w1 : w32 (x + 1) = x + 1 := w32n (by omega) (by omega)
  have V1 : Vok (0, m0 500 (x + 1)) := V_scr h0 (by omega) (by omega)
  have w2 : w32 (x + 2) = x + 2 := w32n (by omega) (by omega)
  have V2 : Vok (0, m0 500 (x + 2)) := V_scr h0 (by omega) (by omega)
  obtain ⟨v, m1, m2, c1, c2, e1, g⟩ := op_go2 h0 h (op_of (x := m0 500 (x + 1)) (y := m0 500 (x + 2)) h.1) (V_l2 V1 V2)
  obtain ⟨m', hk⟩ := k m2 g
  refine ⟨m', b_Lw_374 ?_⟩
  simp only [w1, w2, e]
  refine ⟨⟨by omega, by omega⟩, ⟨by omega, by omega⟩, v, m1, c1, ?_⟩
  simp only [e1]
  exact ⟨⟨by omega, by omega⟩, ⟨by omega, by omega⟩, v, m2, c2, ⟨fun _ => hk, fun z => absurd rfl z⟩⟩
theorem lc_cell {m0 m : Mm} {x : Int} (h0 : ScP m0) (h : Lw_I m0 m) (hx : 0 ≤ x ∧ x + 6 ≤ m0 500 (-1) ∧ m0 500 (-1) ≤ 3072) (k : ∀ m2, Lw_I m0 m2 → ∃ m', Ev 121 K_Lw 2 1083 [(50, 500), (17, 0), (18, 400), (0, x)] [] m2 (some (0, 1), m')) : ∃ m', Ev 121 K_Lw 2 401 [(50, 500), (17, 0), (18, 400), (0, x)] [] m (some (0, 1), m') := by
  have e := h.2.2.1
  have w1 : w32 (x + 1) = x + 1 := w32n (by omega) (by omega)
  have V1 : Vok (0, m0 500 (x + 1)) := V_scr h0 (by omega) (by omega)
  have w2 : w32 (x + 2) = x + 2 := w32n (by omega) (by omega)
  have V2 : Vok (0, m0 500 (x + 2)) := V_scr h0 (by omega) (by omega)
  obtain ⟨v, m1, m2, c1, c2, e1, g⟩ := op_go2 h0 h (op_cell (x := m0 500 (x + 1)) (y := m0 500 (x + 2)) h.1) (V_l2 V1 V2)
  obtain ⟨m', hk⟩ := k m2 g
  refine ⟨m', b_Lw_401 ?_⟩
  simp only [w1, w2, e]
  refine ⟨⟨by omega, by omega⟩, ⟨by omega, by omega⟩, v, m1, c1, ?_⟩
  simp only [e1]
  exact ⟨⟨by omega, by omega⟩, ⟨by omega, by omega⟩, v, m2, c2, ⟨fun _ => hk, fun z => absurd rfl z⟩⟩
theorem lc_hedge {m0 m : Mm} {x : Int} (h0 : ScP m0) (h : Lw_I m0 m) (hx : 0 ≤ x ∧ x + 6 ≤ m0 500 (-1) ∧ m0 500 (-1) ≤ 3072) (k : ∀ m2, Lw_I m0 m2 → ∃ m', Ev 121 K_Lw 2 1083 [(50, 500), (17, 0), (18, 400), (0, x)] [] m2 (some (0, 1), m')) : ∃ m', Ev 121 K_Lw 2 428 [(50, 500), (17, 0), (18, 400), (0, x)] [] m (some (0, 1), m') := by
  have e := h.2.2.1
  have w1 : w32 (x + 1) = x + 1 := w32n (by omega) (by omega)
  have V1 : Vok (0, m0 500 (x + 1)) := V_scr h0 (by omega) (by omega)
  have w2 : w32 (x + 2) = x + 2 := w32n (by omega) (by omega)
  have V2 : Vok (0, m0 500 (x + 2)) := V_scr h0 (by omega) (by omega)
  obtain ⟨v, m1, m2, c1, c2, e1, g⟩ := op_go2 h0 h (op_hedge (x := m0 500 (x + 1)) (y := m0 500 (x + 2)) h.1) (V_l2 V1 V2)
  obtain ⟨m', hk⟩ := k m2 g
  refine ⟨m', b_Lw_428 ?_⟩
  simp only [w1, w2, e]
  refine ⟨⟨by omega, by omega⟩, ⟨by omega, by omega⟩, v, m1, c1, ?_⟩
  simp only [e1]
  exact ⟨⟨by omega, by omega⟩, ⟨by omega, by omega⟩, v, m2, c2, ⟨fun _ => hk, fun z => absurd rfl z⟩⟩
theorem lc_between {m0 m : Mm} {x : Int} (h0 : ScP m0) (h : Lw_I m0 m) (hx : 0 ≤ x ∧ x + 6 ≤ m0 500 (-1) ∧ m0 500 (-1) ≤ 3072) (k : ∀ m2, Lw_I m0 m2 → ∃ m', Ev 121 K_Lw 2 1083 [(50, 500), (17, 0), (18, 400), (0, x)] [] m2 (some (0, 1), m')) : ∃ m', Ev 121 K_Lw 2 455 [(50, 500), (17, 0), (18, 400), (0, x)] [] m (some (0, 1), m') := by
  have e := h.2.2.1
  have w1 : w32 (x + 1) = x + 1 := w32n (by omega) (by omega)
  have V1 : Vok (0, m0 500 (x + 1)) := V_scr h0 (by omega) (by omega)
  have w2 : w32 (x + 2) = x + 2 := w32n (by omega) (by omega)
  have V2 : Vok (0, m0 500 (x + 2)) := V_scr h0 (by omega) (by omega)
  obtain ⟨v, m1, m2, c1, c2, e1, g⟩ := op_go2 h0 h (op_between (x := m0 500 (x + 1)) (y := m0 500 (x + 2)) h.1) (V_l2 V1 V2)
  obtain ⟨m', hk⟩ := k m2 g
  refine ⟨m', b_Lw_455 ?_⟩
  simp only [w1, w2, e]
  refine ⟨⟨by omega, by omega⟩, ⟨by omega, by omega⟩, v, m1, c1, ?_⟩
  simp only [e1]
  exact ⟨⟨by omega, by omega⟩, ⟨by omega, by omega⟩, v, m2, c2, ⟨fun _ => hk, fun z => absurd rfl z⟩⟩
theorem lc_is {m0 m : Mm} {x : Int} (h0 : ScP m0) (h : Lw_I m0 m) (hx : 0 ≤ x ∧ x + 6 ≤ m0 500 (-1) ∧ m0 500 (-1) ≤ 3072) (k : ∀ m2, Lw_I m0 m2 → ∃ m', Ev 121 K_Lw 2 1083 [(50, 500), (17, 0), (18, 400), (0, x)] [] m2 (some (0, 1), m')) : ∃ m', Ev 121 K_Lw 2 482 [(50, 500), (17, 0), (18, 400), (0, x)] [] m (some (0, 1), m') := by
  have e := h.2.2.1
  have w1 : w32 (x + 1) = x + 1 := w32n (by omega) (by omega)
  have V1 : Vok (0, m0 500 (x + 1)) := V_scr h0 (by omega) (by omega)
  obtain ⟨v, m1, m2, c1, c2, e1, g⟩ := op_go2 h0 h (op_is (x := m0 500 (x + 1)) h.1) (V_l1 V1)
  obtain ⟨m', hk⟩ := k m2 g
  refine ⟨m', b_Lw_482 ?_⟩
  simp only [w1, e]
  refine ⟨⟨by omega, by omega⟩, v, m1, c1, ?_⟩
  simp only [e1]
  exact ⟨⟨by omega, by omega⟩, v, m2, c2, ⟨fun _ => hk, fun z => absurd rfl z⟩⟩
theorem lc_book {m0 m : Mm} {x : Int} (h0 : ScP m0) (h : Lw_I m0 m) (hx : 0 ≤ x ∧ x + 6 ≤ m0 500 (-1) ∧ m0 500 (-1) ≤ 3072) (k : ∀ m2, Lw_I m0 m2 → ∃ m', Ev 121 K_Lw 2 1083 [(50, 500), (17, 0), (18, 400), (0, x)] [] m2 (some (0, 1), m')) : ∃ m', Ev 121 K_Lw 2 499 [(50, 500), (17, 0), (18, 400), (0, x)] [] m (some (0, 1), m') := by
  have e := h.2.2.1
  have w1 : w32 (x + 1) = x + 1 := w32n (by omega) (by omega)
  have V1 : Vok (0, m0 500 (x + 1)) := V_scr h0 (by omega) (by omega)
  have w2 : w32 (x + 2) = x + 2 := w32n (by omega) (by omega)
  have V2 : Vok (0, m0 500 (x + 2)) := V_scr h0 (by omega) (by omega)
  obtain ⟨v, m1, m2, c1, c2, e1, g⟩ := op_go2 h0 h (op_book (i := m0 500 (x + 1)) (x := m0 500 (x + 2)) h.1) (V_l2 V1 V2)
  obtain ⟨m', hk⟩ := k m2 g
  refine ⟨m', b_Lw_499 ?_⟩
  simp only [w1, w2, e]
  refine ⟨⟨by omega, by omega⟩, ⟨by omega, by omega⟩, v, m1, c1, ?_⟩
  simp only [e1]
  exact ⟨⟨by omega, by omega⟩, ⟨by omega, by omega⟩, v, m2, c2, ⟨fun _ => hk, fun z => absurd rfl z⟩⟩
theorem lc_foretold {m0 m : Mm} {x : Int} (h0 : ScP m0) (h : Lw_I m0 m) (hx : 0 ≤ x ∧ x + 6 ≤ m0 500 (-1) ∧ m0 500 (-1) ≤ 3072) (k : ∀ m2, Lw_I m0 m2 → ∃ m', Ev 121 K_Lw 2 1083 [(50, 500), (17, 0), (18, 400), (0, x)] [] m2 (some (0, 1), m')) : ∃ m', Ev 121 K_Lw 2 526 [(50, 500), (17, 0), (18, 400), (0, x)] [] m (some (0, 1), m') := by
  have e := h.2.2.1
  have w1 : w32 (x + 1) = x + 1 := w32n (by omega) (by omega)
  have V1 : Vok (0, m0 500 (x + 1)) := V_scr h0 (by omega) (by omega)
  have w2 : w32 (x + 2) = x + 2 := w32n (by omega) (by omega)
  have V2 : Vok (0, m0 500 (x + 2)) := V_scr h0 (by omega) (by omega)
  obtain ⟨v, m1, m2, c1, c2, e1, g⟩ := op_go2 h0 h (op_foretold (x := m0 500 (x + 1)) (y := m0 500 (x + 2)) h.1) (V_l2 V1 V2)
  obtain ⟨m', hk⟩ := k m2 g
  refine ⟨m', b_Lw_526 ?_⟩
  simp only [w1, w2, e]
  refine ⟨⟨by omega, by omega⟩, ⟨by omega, by omega⟩, v, m1, c1, ?_⟩
  simp only [e1]
  exact ⟨⟨by omega, by omega⟩, ⟨by omega, by omega⟩, v, m2, c2, ⟨fun _ => hk, fun z => absurd rfl z⟩⟩
theorem lc_miles {m0 m : Mm} {x : Int} (h0 : ScP m0) (h : Lw_I m0 m) (hx : 0 ≤ x ∧ x + 6 ≤ m0 500 (-1) ∧ m0 500 (-1) ≤ 3072) (k : ∀ m2, Lw_I m0 m2 → ∃ m', Ev 121 K_Lw 2 1083 [(50, 500), (17, 0), (18, 400), (0, x)] [] m2 (some (0, 1), m')) : ∃ m', Ev 121 K_Lw 2 553 [(50, 500), (17, 0), (18, 400), (0, x)] [] m (some (0, 1), m') := by
  have e := h.2.2.1
  have w1 : w32 (x + 1) = x + 1 := w32n (by omega) (by omega)
  have V1 : Vok (0, m0 500 (x + 1)) := V_scr h0 (by omega) (by omega)
  have w2 : w32 (x + 2) = x + 2 := w32n (by omega) (by omega)
  have V2 : Vok (0, m0 500 (x + 2)) := V_scr h0 (by omega) (by omega)
  obtain ⟨v, m1, m2, c1, c2, e1, g⟩ := op_go2 h0 h (op_miles (x := m0 500 (x + 1)) (y := m0 500 (x + 2)) h.1) (V_l2 V1 V2)
  obtain ⟨m', hk⟩ := k m2 g
  refine ⟨m', b_Lw_553 ?_⟩
  simp only [w1, w2, e]
  refine ⟨⟨by omega, by omega⟩, ⟨by omega, by omega⟩, v, m1, c1, ?_⟩
  simp only [e1]
  exact ⟨⟨by omega, by omega⟩, ⟨by omega, by omega⟩, v, m2, c2, ⟨fun _ => hk, fun z => absurd rfl z⟩⟩
theorem lc_way {m0 m : Mm} {x : Int} (h0 : ScP m0) (h : Lw_I m0 m) (hx : 0 ≤ x ∧ x + 6 ≤ m0 500 (-1) ∧ m0 500 (-1) ≤ 3072) (k : ∀ m2, Lw_I m0 m2 → ∃ m', Ev 121 K_Lw 2 1083 [(50, 500), (17, 0), (18, 400), (0, x)] [] m2 (some (0, 1), m')) : ∃ m', Ev 121 K_Lw 2 580 [(50, 500), (17, 0), (18, 400), (0, x)] [] m (some (0, 1), m') := by
  have e := h.2.2.1
  have w1 : w32 (x + 1) = x + 1 := w32n (by omega) (by omega)
  have V1 : Vok (0, m0 500 (x + 1)) := V_scr h0 (by omega) (by omega)
  have w2 : w32 (x + 2) = x + 2 := w32n (by omega) (by omega)
  have V2 : Vok (0, m0 500 (x + 2)) := V_scr h0 (by omega) (by omega)
  have w3 : w32 (x + 3) = x + 3 := w32n (by omega) (by omega)
  have V3 : Vok (0, m0 500 (x + 3)) := V_scr h0 (by omega) (by omega)
  obtain ⟨v, m1, m2, c1, c2, e1, g⟩ := op_go2 h0 h (op_way (x := m0 500 (x + 1)) (y := m0 500 (x + 2)) (i := m0 500 (x + 3)) h.1) (V_l3 V1 V2 V3)
  obtain ⟨m', hk⟩ := k m2 g
  refine ⟨m', b_Lw_580 ?_⟩
  simp only [w1, w2, w3, e]
  refine ⟨⟨by omega, by omega⟩, ⟨by omega, by omega⟩, ⟨by omega, by omega⟩, v, m1, c1, ?_⟩
  simp only [e1]
  exact ⟨⟨by omega, by omega⟩, ⟨by omega, by omega⟩, ⟨by omega, by omega⟩, v, m2, c2, ⟨fun _ => hk, fun z => absurd rfl z⟩⟩
theorem lc_cuts {m0 m : Mm} {x : Int} (h0 : ScP m0) (h : Lw_I m0 m) (hx : 0 ≤ x ∧ x + 6 ≤ m0 500 (-1) ∧ m0 500 (-1) ≤ 3072) (k : ∀ m2, Lw_I m0 m2 → ∃ m', Ev 121 K_Lw 2 1083 [(50, 500), (17, 0), (18, 400), (0, x)] [] m2 (some (0, 1), m')) : ∃ m', Ev 121 K_Lw 2 617 [(50, 500), (17, 0), (18, 400), (0, x)] [] m (some (0, 1), m') := by
  have e := h.2.2.1
  have w1 : w32 (x + 1) = x + 1 := w32n (by omega) (by omega)
  have V1 : Vok (0, m0 500 (x + 1)) := V_scr h0 (by omega) (by omega)
  have w2 : w32 (x + 2) = x + 2 := w32n (by omega) (by omega)
  have V2 : Vok (0, m0 500 (x + 2)) := V_scr h0 (by omega) (by omega)
  obtain ⟨v, m1, m2, c1, c2, e1, g⟩ := op_go2 h0 h (op_cuts (x := m0 500 (x + 1)) (y := m0 500 (x + 2)) h.1) (V_l2 V1 V2)
  obtain ⟨m', hk⟩ := k m2 g
  refine ⟨m', b_Lw_617 ?_⟩
  simp only [w1, w2, e]
  refine ⟨⟨by omega, by omega⟩, ⟨by omega, by omega⟩, v, m1, c1, ?_⟩
  simp only [e1]
  exact ⟨⟨by omega, by omega⟩, ⟨by omega, by omega⟩, v, m2, c2, ⟨fun _ => hk, fun z => absurd rfl z⟩⟩
theorem lc_farthest {m0 m : Mm} {x : Int} (h0 : ScP m0) (h : Lw_I m0 m) (hx : 0 ≤ x ∧ x + 6 ≤ m0 500 (-1) ∧ m0 500 (-1) ≤ 3072) (k : ∀ m2, Lw_I m0 m2 → ∃ m', Ev 121 K_Lw 2 1083 [(50, 500), (17, 0), (18, 400), (0, x)] [] m2 (some (0, 1), m')) : ∃ m', Ev 121 K_Lw 2 644 [(50, 500), (17, 0), (18, 400), (0, x)] [] m (some (0, 1), m') := by
  have e := h.2.2.1
  have w1 : w32 (x + 1) = x + 1 := w32n (by omega) (by omega)
  have V1 : Vok (0, m0 500 (x + 1)) := V_scr h0 (by omega) (by omega)
  obtain ⟨v, m1, m2, c1, c2, e1, g⟩ := op_go2 h0 h (op_farthest (x := m0 500 (x + 1)) h.1) (V_l1 V1)
  obtain ⟨m', hk⟩ := k m2 g
  refine ⟨m', b_Lw_644 ?_⟩
  simp only [w1, e]
  refine ⟨⟨by omega, by omega⟩, v, m1, c1, ?_⟩
  simp only [e1]
  exact ⟨⟨by omega, by omega⟩, v, m2, c2, ⟨fun _ => hk, fun z => absurd rfl z⟩⟩
theorem lc_wide {m0 m : Mm} {x : Int} (h0 : ScP m0) (h : Lw_I m0 m) (hx : 0 ≤ x ∧ x + 6 ≤ m0 500 (-1) ∧ m0 500 (-1) ≤ 3072) (k : ∀ m2, Lw_I m0 m2 → ∃ m', Ev 121 K_Lw 2 1083 [(50, 500), (17, 0), (18, 400), (0, x)] [] m2 (some (0, 1), m')) : ∃ m', Ev 121 K_Lw 2 661 [(50, 500), (17, 0), (18, 400), (0, x)] [] m (some (0, 1), m') := by
  have e := h.2.2.1
  obtain ⟨v, m1, m2, c1, c2, e1, g⟩ := op_go2 h0 h (op_wide  h.1) (fun w hw => absurd hw (by simp))
  obtain ⟨m', hk⟩ := k m2 g
  refine ⟨m', b_Lw_661 ?_⟩
  exact ⟨v, m1, c1, v, m2, c2, ⟨fun _ => hk, fun z => absurd rfl z⟩⟩
theorem lc_regions {m0 m : Mm} {x : Int} (h0 : ScP m0) (h : Lw_I m0 m) (hx : 0 ≤ x ∧ x + 6 ≤ m0 500 (-1) ∧ m0 500 (-1) ≤ 3072) (k : ∀ m2, Lw_I m0 m2 → ∃ m', Ev 121 K_Lw 2 1083 [(50, 500), (17, 0), (18, 400), (0, x)] [] m2 (some (0, 1), m')) : ∃ m', Ev 121 K_Lw 2 668 [(50, 500), (17, 0), (18, 400), (0, x)] [] m (some (0, 1), m') := by
  have e := h.2.2.1
  have w1 : w32 (x + 1) = x + 1 := w32n (by omega) (by omega)
  have V1 : Vok (0, m0 500 (x + 1)) := V_scr h0 (by omega) (by omega)
  by_cases hz : m0 500 (x + 1) = 0
  · have hz2 := hz
    obtain ⟨v, m1, m2, c1, c2, e1, g⟩ := op_go2 h0 h (op_regions (x := 0) h.1) (V_l1 V_0)
    obtain ⟨m', hk⟩ := k m2 g
    refine ⟨m', b_Lw_668 ?_⟩
    simp only [w1, e]
    refine ⟨⟨by omega, by omega⟩, fun _ => ⟨v, m1, c1, ?_⟩, fun z => absurd hz z⟩
    simp only [e1]
    exact ⟨⟨by omega, by omega⟩, fun _ => ⟨v, m2, c2, ⟨fun _ => hk, fun z => absurd rfl z⟩⟩, fun z => absurd hz z⟩
  · have hz2 := hz
    obtain ⟨v, m1, m2, c1, c2, e1, g⟩ := op_go2 h0 h (op_regions (x := 1) h.1) (V_l1 V_1)
    obtain ⟨m', hk⟩ := k m2 g
    refine ⟨m', b_Lw_668 ?_⟩
    simp only [w1, e]
    refine ⟨⟨by omega, by omega⟩, fun z => absurd z hz, fun _ => ⟨v, m1, c1, ?_⟩⟩
    simp only [e1]
    exact ⟨⟨by omega, by omega⟩, fun z => absurd z hz, fun _ => ⟨v, m2, c2, ⟨fun _ => hk, fun z => absurd rfl z⟩⟩⟩
theorem lc_rings {m0 m : Mm} {x : Int} (h0 : ScP m0) (h : Lw_I m0 m) (hx : 0 ≤ x ∧ x + 6 ≤ m0 500 (-1) ∧ m0 500 (-1) ≤ 3072) (k : ∀ m2, Lw_I m0 m2 → ∃ m', Ev 121 K_Lw 2 1083 [(50, 500), (17, 0), (18, 400), (0, x)] [] m2 (some (0, 1), m')) : ∃ m', Ev 121 K_Lw 2 693 [(50, 500), (17, 0), (18, 400), (0, x)] [] m (some (0, 1), m') := by
  have e := h.2.2.1
  obtain ⟨v, m1, m2, c1, c2, e1, g⟩ := op_go2 h0 h (op_rings  h.1) (fun w hw => absurd hw (by simp))
  obtain ⟨m', hk⟩ := k m2 g
  refine ⟨m', b_Lw_693 ?_⟩
  exact ⟨v, m1, c1, v, m2, c2, ⟨fun _ => hk, fun z => absurd rfl z⟩⟩
theorem lc_ends {m0 m : Mm} {x : Int} (h0 : ScP m0) (h : Lw_I m0 m) (hx : 0 ≤ x ∧ x + 6 ≤ m0 500 (-1) ∧ m0 500 (-1) ≤ 3072) (k : ∀ m2, Lw_I m0 m2 → ∃ m', Ev 121 K_Lw 2 1083 [(50, 500), (17, 0), (18, 400), (0, x)] [] m2 (some (0, 1), m')) : ∃ m', Ev 121 K_Lw 2 700 [(50, 500), (17, 0), (18, 400), (0, x)] [] m (some (0, 1), m') := by
  have e := h.2.2.1
  obtain ⟨v, m1, m2, c1, c2, e1, g⟩ := op_go2 h0 h (op_ends  h.1) (fun w hw => absurd hw (by simp))
  obtain ⟨m', hk⟩ := k m2 g
  refine ⟨m', b_Lw_700 ?_⟩
  exact ⟨v, m1, c1, v, m2, c2, ⟨fun _ => hk, fun z => absurd rfl z⟩⟩
theorem lc_necks {m0 m : Mm} {x : Int} (h0 : ScP m0) (h : Lw_I m0 m) (hx : 0 ≤ x ∧ x + 6 ≤ m0 500 (-1) ∧ m0 500 (-1) ≤ 3072) (k : ∀ m2, Lw_I m0 m2 → ∃ m', Ev 121 K_Lw 2 1083 [(50, 500), (17, 0), (18, 400), (0, x)] [] m2 (some (0, 1), m')) : ∃ m', Ev 121 K_Lw 2 707 [(50, 500), (17, 0), (18, 400), (0, x)] [] m (some (0, 1), m') := by
  have e := h.2.2.1
  obtain ⟨v, m1, m2, c1, c2, e1, g⟩ := op_go2 h0 h (op_necks  h.1) (fun w hw => absurd hw (by simp))
  obtain ⟨m', hk⟩ := k m2 g
  refine ⟨m', b_Lw_707 ?_⟩
  exact ⟨v, m1, c1, v, m2, c2, ⟨fun _ => hk, fun z => absurd rfl z⟩⟩
theorem lc_paths {m0 m : Mm} {x : Int} (h0 : ScP m0) (h : Lw_I m0 m) (hx : 0 ≤ x ∧ x + 6 ≤ m0 500 (-1) ∧ m0 500 (-1) ≤ 3072) (k : ∀ m2, Lw_I m0 m2 → ∃ m', Ev 121 K_Lw 2 1083 [(50, 500), (17, 0), (18, 400), (0, x)] [] m2 (some (0, 1), m')) : ∃ m', Ev 121 K_Lw 2 714 [(50, 500), (17, 0), (18, 400), (0, x)] [] m (some (0, 1), m') := by
  have e := h.2.2.1
  have w1 : w32 (x + 1) = x + 1 := w32n (by omega) (by omega)
  have V1 : Vok (0, m0 500 (x + 1)) := V_scr h0 (by omega) (by omega)
  have w2 : w32 (x + 2) = x + 2 := w32n (by omega) (by omega)
  have V2 : Vok (0, m0 500 (x + 2)) := V_scr h0 (by omega) (by omega)
  obtain ⟨v, m1, m2, c1, c2, e1, g⟩ := op_go2 h0 h (op_paths (x := m0 500 (x + 1)) (y := m0 500 (x + 2)) h.1) (V_l2 V1 V2)
  obtain ⟨m', hk⟩ := k m2 g
  refine ⟨m', b_Lw_714 ?_⟩
  simp only [w1, w2, e]
  refine ⟨⟨by omega, by omega⟩, ⟨by omega, by omega⟩, v, m1, c1, ?_⟩
  simp only [e1]
  exact ⟨⟨by omega, by omega⟩, ⟨by omega, by omega⟩, v, m2, c2, ⟨fun _ => hk, fun z => absurd (lcm_0.mpr rfl) z⟩⟩
theorem lc_walk {m0 m : Mm} {x : Int} (h0 : ScP m0) (h : Lw_I m0 m) (hx : 0 ≤ x ∧ x + 6 ≤ m0 500 (-1) ∧ m0 500 (-1) ≤ 3072) (k : ∀ m2, Lw_I m0 m2 → ∃ m', Ev 121 K_Lw 2 1083 [(50, 500), (17, 0), (18, 400), (0, x)] [] m2 (some (0, 1), m')) : ∃ m', Ev 121 K_Lw 2 742 [(50, 500), (17, 0), (18, 400), (0, x)] [] m (some (0, 1), m') := by
  have e := h.2.2.1
  have w1 : w32 (x + 1) = x + 1 := w32n (by omega) (by omega)
  have V1 : Vok (0, m0 500 (x + 1)) := V_scr h0 (by omega) (by omega)
  have w2 : w32 (x + 2) = x + 2 := w32n (by omega) (by omega)
  have V2 : Vok (0, m0 500 (x + 2)) := V_scr h0 (by omega) (by omega)
  by_cases hz : m0 500 (x + 2) = 0
  · have hz2 := hz
    obtain ⟨v, m1, m2, c1, c2, e1, g⟩ := op_go2 h0 h (op_walk (x := m0 500 (x + 1)) (y := 0) h.1) (V_l2 V1 V_0)
    obtain ⟨m', hk⟩ := k m2 g
    refine ⟨m', b_Lw_742 ?_⟩
    simp only [w1, w2, e]
    refine ⟨⟨by omega, by omega⟩, ⟨by omega, by omega⟩, fun _ => ⟨v, m1, c1, ?_⟩, fun z => absurd hz z⟩
    simp only [e1]
    exact ⟨⟨by omega, by omega⟩, ⟨by omega, by omega⟩, fun _ => ⟨v, m2, c2, ⟨fun _ => hk, fun z => absurd rfl z⟩⟩, fun z => absurd hz z⟩
  · have hz2 := hz
    obtain ⟨v, m1, m2, c1, c2, e1, g⟩ := op_go2 h0 h (op_walk (x := m0 500 (x + 1)) (y := 1) h.1) (V_l2 V1 V_1)
    obtain ⟨m', hk⟩ := k m2 g
    refine ⟨m', b_Lw_742 ?_⟩
    simp only [w1, w2, e]
    refine ⟨⟨by omega, by omega⟩, ⟨by omega, by omega⟩, fun z => absurd z hz, fun _ => ⟨v, m1, c1, ?_⟩⟩
    simp only [e1]
    exact ⟨⟨by omega, by omega⟩, ⟨by omega, by omega⟩, fun z => absurd z hz, fun _ => ⟨v, m2, c2, ⟨fun _ => hk, fun z => absurd rfl z⟩⟩⟩
theorem lc_home {m0 m : Mm} {x : Int} (h0 : ScP m0) (h : Lw_I m0 m) (hx : 0 ≤ x ∧ x + 6 ≤ m0 500 (-1) ∧ m0 500 (-1) ≤ 3072) (k : ∀ m2, Lw_I m0 m2 → ∃ m', Ev 121 K_Lw 2 1083 [(50, 500), (17, 0), (18, 400), (0, x)] [] m2 (some (0, 1), m')) : ∃ m', Ev 121 K_Lw 2 777 [(50, 500), (17, 0), (18, 400), (0, x)] [] m (some (0, 1), m') := by
  have e := h.2.2.1
  have w1 : w32 (x + 1) = x + 1 := w32n (by omega) (by omega)
  have V1 : Vok (0, m0 500 (x + 1)) := V_scr h0 (by omega) (by omega)
  obtain ⟨v, m1, m2, c1, c2, e1, g⟩ := op_go2 h0 h (op_home (x := m0 500 (x + 1)) h.1) (V_l1 V1)
  obtain ⟨m', hk⟩ := k m2 g
  refine ⟨m', b_Lw_777 ?_⟩
  simp only [w1, e]
  refine ⟨⟨by omega, by omega⟩, v, m1, c1, ?_⟩
  simp only [e1]
  exact ⟨⟨by omega, by omega⟩, v, m2, c2, ⟨fun _ => hk, fun z => absurd rfl z⟩⟩
theorem lc_gates {m0 m : Mm} {x : Int} (h0 : ScP m0) (h : Lw_I m0 m) (hx : 0 ≤ x ∧ x + 6 ≤ m0 500 (-1) ∧ m0 500 (-1) ≤ 3072) (k : ∀ m2, Lw_I m0 m2 → ∃ m', Ev 121 K_Lw 2 1083 [(50, 500), (17, 0), (18, 400), (0, x)] [] m2 (some (0, 1), m')) : ∃ m', Ev 121 K_Lw 2 794 [(50, 500), (17, 0), (18, 400), (0, x)] [] m (some (0, 1), m') := by
  have e := h.2.2.1
  have w1 : w32 (x + 1) = x + 1 := w32n (by omega) (by omega)
  have V1 : Vok (0, m0 500 (x + 1)) := V_scr h0 (by omega) (by omega)
  have w2 : w32 (x + 2) = x + 2 := w32n (by omega) (by omega)
  have V2 : Vok (0, m0 500 (x + 2)) := V_scr h0 (by omega) (by omega)
  by_cases hz : m0 500 (x + 2) = 0
  · have hz2 := hz
    obtain ⟨v, m1, m2, c1, c2, e1, g⟩ := op_go2 h0 h (op_gates (x := m0 500 (x + 1)) (y := 0) h.1) (V_l2 V1 V_0)
    obtain ⟨m', hk⟩ := k m2 g
    refine ⟨m', b_Lw_794 ?_⟩
    simp only [w1, w2, e]
    refine ⟨⟨by omega, by omega⟩, ⟨by omega, by omega⟩, fun _ => ⟨v, m1, c1, ?_⟩, fun z => absurd hz z⟩
    simp only [e1]
    exact ⟨⟨by omega, by omega⟩, ⟨by omega, by omega⟩, fun _ => ⟨v, m2, c2, ⟨fun _ => hk, fun z => absurd rfl z⟩⟩, fun z => absurd hz z⟩
  · have hz2 := hz
    obtain ⟨v, m1, m2, c1, c2, e1, g⟩ := op_go2 h0 h (op_gates (x := m0 500 (x + 1)) (y := 1) h.1) (V_l2 V1 V_1)
    obtain ⟨m', hk⟩ := k m2 g
    refine ⟨m', b_Lw_794 ?_⟩
    simp only [w1, w2, e]
    refine ⟨⟨by omega, by omega⟩, ⟨by omega, by omega⟩, fun z => absurd z hz, fun _ => ⟨v, m1, c1, ?_⟩⟩
    simp only [e1]
    exact ⟨⟨by omega, by omega⟩, ⟨by omega, by omega⟩, fun z => absurd z hz, fun _ => ⟨v, m2, c2, ⟨fun _ => hk, fun z => absurd rfl z⟩⟩⟩
theorem lc_turned {m0 m : Mm} {x : Int} (h0 : ScP m0) (h : Lw_I m0 m) (hx : 0 ≤ x ∧ x + 6 ≤ m0 500 (-1) ∧ m0 500 (-1) ≤ 3072) (k : ∀ m2, Lw_I m0 m2 → ∃ m', Ev 121 K_Lw 2 1083 [(50, 500), (17, 0), (18, 400), (0, x)] [] m2 (some (0, 1), m')) : ∃ m', Ev 121 K_Lw 2 829 [(50, 500), (17, 0), (18, 400), (0, x)] [] m (some (0, 1), m') := by
  have e := h.2.2.1
  have w1 : w32 (x + 1) = x + 1 := w32n (by omega) (by omega)
  have V1 : Vok (0, m0 500 (x + 1)) := V_scr h0 (by omega) (by omega)
  have w2 : w32 (x + 2) = x + 2 := w32n (by omega) (by omega)
  have V2 : Vok (0, m0 500 (x + 2)) := V_scr h0 (by omega) (by omega)
  have w3 : w32 (x + 3) = x + 3 := w32n (by omega) (by omega)
  have V3 : Vok (0, m0 500 (x + 3)) := V_scr h0 (by omega) (by omega)
  by_cases hz : m0 500 (x + 3) = 0
  · have hz2 := hz
    obtain ⟨v, m1, m2, c1, c2, e1, g⟩ := op_go2 h0 h (op_turned (x := m0 500 (x + 1)) (y := m0 500 (x + 2)) (z := 0) h.1) (V_l3 V1 V2 V_0)
    obtain ⟨m', hk⟩ := k m2 g
    refine ⟨m', b_Lw_829 ?_⟩
    simp only [w1, w2, w3, e]
    refine ⟨⟨by omega, by omega⟩, ⟨by omega, by omega⟩, ⟨by omega, by omega⟩, fun _ => ⟨v, m1, c1, ?_⟩, fun z => absurd hz z⟩
    simp only [e1]
    exact ⟨⟨by omega, by omega⟩, ⟨by omega, by omega⟩, ⟨by omega, by omega⟩, fun _ => ⟨v, m2, c2, ⟨fun _ => hk, fun z => absurd rfl z⟩⟩, fun z => absurd hz z⟩
  · have hz2 := hz
    obtain ⟨v, m1, m2, c1, c2, e1, g⟩ := op_go2 h0 h (op_turned (x := m0 500 (x + 1)) (y := m0 500 (x + 2)) (z := 1) h.1) (V_l3 V1 V2 V_1)
    obtain ⟨m', hk⟩ := k m2 g
    refine ⟨m', b_Lw_829 ?_⟩
    simp only [w1, w2, w3, e]
    refine ⟨⟨by omega, by omega⟩, ⟨by omega, by omega⟩, ⟨by omega, by omega⟩, fun z => absurd z hz, fun _ => ⟨v, m1, c1, ?_⟩⟩
    simp only [e1]
    exact ⟨⟨by omega, by omega⟩, ⟨by omega, by omega⟩, ⟨by omega, by omega⟩, fun z => absurd z hz, fun _ => ⟨v, m2, c2, ⟨fun _ => hk, fun z => absurd rfl z⟩⟩⟩
theorem lc_unlike {m0 m : Mm} {x : Int} (h0 : ScP m0) (h : Lw_I m0 m) (hx : 0 ≤ x ∧ x + 6 ≤ m0 500 (-1) ∧ m0 500 (-1) ≤ 3072) (k : ∀ m2, Lw_I m0 m2 → ∃ m', Ev 121 K_Lw 2 1083 [(50, 500), (17, 0), (18, 400), (0, x)] [] m2 (some (0, 1), m')) : ∃ m', Ev 121 K_Lw 2 874 [(50, 500), (17, 0), (18, 400), (0, x)] [] m (some (0, 1), m') := by
  have e := h.2.2.1
  have w1 : w32 (x + 1) = x + 1 := w32n (by omega) (by omega)
  have V1 : Vok (0, m0 500 (x + 1)) := V_scr h0 (by omega) (by omega)
  have w2 : w32 (x + 2) = x + 2 := w32n (by omega) (by omega)
  have V2 : Vok (0, m0 500 (x + 2)) := V_scr h0 (by omega) (by omega)
  by_cases hz : m0 500 (x + 2) = 0
  · have hz2 := hz
    obtain ⟨v, m1, m2, c1, c2, e1, g⟩ := op_go2 h0 h (op_unlike (x := m0 500 (x + 1)) (y := 0) h.1) (V_l2 V1 V_0)
    obtain ⟨m', hk⟩ := k m2 g
    refine ⟨m', b_Lw_874 ?_⟩
    simp only [w1, w2, e]
    refine ⟨⟨by omega, by omega⟩, ⟨by omega, by omega⟩, fun _ => ⟨v, m1, c1, ?_⟩, fun z => absurd hz z⟩
    simp only [e1]
    exact ⟨⟨by omega, by omega⟩, ⟨by omega, by omega⟩, fun _ => ⟨v, m2, c2, ⟨fun _ => hk, fun z => absurd rfl z⟩⟩, fun z => absurd hz z⟩
  · have hz2 := hz
    obtain ⟨v, m1, m2, c1, c2, e1, g⟩ := op_go2 h0 h (op_unlike (x := m0 500 (x + 1)) (y := 1) h.1) (V_l2 V1 V_1)
    obtain ⟨m', hk⟩ := k m2 g
    refine ⟨m', b_Lw_874 ?_⟩
    simp only [w1, w2, e]
    refine ⟨⟨by omega, by omega⟩, ⟨by omega, by omega⟩, fun z => absurd z hz, fun _ => ⟨v, m1, c1, ?_⟩⟩
    simp only [e1]
    exact ⟨⟨by omega, by omega⟩, ⟨by omega, by omega⟩, fun z => absurd z hz, fun _ => ⟨v, m2, c2, ⟨fun _ => hk, fun z => absurd rfl z⟩⟩⟩
theorem lc_owner {m0 m : Mm} {x : Int} (h0 : ScP m0) (h : Lw_I m0 m) (hx : 0 ≤ x ∧ x + 6 ≤ m0 500 (-1) ∧ m0 500 (-1) ≤ 3072) (k : ∀ m2, Lw_I m0 m2 → ∃ m', Ev 121 K_Lw 2 1083 [(50, 500), (17, 0), (18, 400), (0, x)] [] m2 (some (0, 1), m')) : ∃ m', Ev 121 K_Lw 2 909 [(50, 500), (17, 0), (18, 400), (0, x)] [] m (some (0, 1), m') := by
  have e := h.2.2.1
  have w1 : w32 (x + 1) = x + 1 := w32n (by omega) (by omega)
  have V1 : Vok (0, m0 500 (x + 1)) := V_scr h0 (by omega) (by omega)
  obtain ⟨v, m1, m2, c1, c2, e1, g⟩ := op_go2 h0 h (op_owner (x := m0 500 (x + 1)) h.1) (V_l1 V1)
  obtain ⟨m', hk⟩ := k m2 g
  refine ⟨m', b_Lw_909 ?_⟩
  simp only [w1, e]
  refine ⟨⟨by omega, by omega⟩, v, m1, c1, ?_⟩
  simp only [e1]
  exact ⟨⟨by omega, by omega⟩, v, m2, c2, ⟨fun _ => hk, fun z => absurd rfl z⟩⟩
theorem lc_twins {m0 m : Mm} {x : Int} (h0 : ScP m0) (h : Lw_I m0 m) (hx : 0 ≤ x ∧ x + 6 ≤ m0 500 (-1) ∧ m0 500 (-1) ≤ 3072) (k : ∀ m2, Lw_I m0 m2 → ∃ m', Ev 121 K_Lw 2 1083 [(50, 500), (17, 0), (18, 400), (0, x)] [] m2 (some (0, 1), m')) : ∃ m', Ev 121 K_Lw 2 926 [(50, 500), (17, 0), (18, 400), (0, x)] [] m (some (0, 1), m') := by
  have e := h.2.2.1
  have w1 : w32 (x + 1) = x + 1 := w32n (by omega) (by omega)
  have V1 : Vok (0, m0 500 (x + 1)) := V_scr h0 (by omega) (by omega)
  have w2 : w32 (x + 2) = x + 2 := w32n (by omega) (by omega)
  have V2 : Vok (0, m0 500 (x + 2)) := V_scr h0 (by omega) (by omega)
  obtain ⟨v, m1, m2, c1, c2, e1, g⟩ := op_go2 h0 h (op_twins (x := m0 500 (x + 1)) (y := m0 500 (x + 2)) h.1) (V_l2 V1 V2)
  obtain ⟨m', hk⟩ := k m2 g
  refine ⟨m', b_Lw_926 ?_⟩
  simp only [w1, w2, e]
  refine ⟨⟨by omega, by omega⟩, ⟨by omega, by omega⟩, v, m1, c1, ?_⟩
  simp only [e1]
  exact ⟨⟨by omega, by omega⟩, ⟨by omega, by omega⟩, v, m2, c2, ⟨fun _ => hk, fun z => absurd rfl z⟩⟩
theorem lc_kinds {m0 m : Mm} {x : Int} (h0 : ScP m0) (h : Lw_I m0 m) (hx : 0 ≤ x ∧ x + 6 ≤ m0 500 (-1) ∧ m0 500 (-1) ≤ 3072) (k : ∀ m2, Lw_I m0 m2 → ∃ m', Ev 121 K_Lw 2 1083 [(50, 500), (17, 0), (18, 400), (0, x)] [] m2 (some (0, 1), m')) : ∃ m', Ev 121 K_Lw 2 953 [(50, 500), (17, 0), (18, 400), (0, x)] [] m (some (0, 1), m') := by
  have e := h.2.2.1
  obtain ⟨v, m1, m2, c1, c2, e1, g⟩ := op_go2 h0 h (op_kinds  h.1) (fun w hw => absurd hw (by simp))
  obtain ⟨m', hk⟩ := k m2 g
  refine ⟨m', b_Lw_953 ?_⟩
  exact ⟨v, m1, c1, v, m2, c2, ⟨fun _ => hk, fun z => absurd rfl z⟩⟩
theorem lc_selves {m0 m : Mm} {x : Int} (h0 : ScP m0) (h : Lw_I m0 m) (hx : 0 ≤ x ∧ x + 6 ≤ m0 500 (-1) ∧ m0 500 (-1) ≤ 3072) (k : ∀ m2, Lw_I m0 m2 → ∃ m', Ev 121 K_Lw 2 1083 [(50, 500), (17, 0), (18, 400), (0, x)] [] m2 (some (0, 1), m')) : ∃ m', Ev 121 K_Lw 2 960 [(50, 500), (17, 0), (18, 400), (0, x)] [] m (some (0, 1), m') := by
  have e := h.2.2.1
  have w1 : w32 (x + 1) = x + 1 := w32n (by omega) (by omega)
  have V1 : Vok (0, m0 500 (x + 1)) := V_scr h0 (by omega) (by omega)
  obtain ⟨v, m1, m2, c1, c2, e1, g⟩ := op_go2 h0 h (op_selves (x := m0 500 (x + 1)) h.1) (V_l1 V1)
  obtain ⟨m', hk⟩ := k m2 g
  refine ⟨m', b_Lw_960 ?_⟩
  simp only [w1, e]
  refine ⟨⟨by omega, by omega⟩, v, m1, c1, ?_⟩
  simp only [e1]
  exact ⟨⟨by omega, by omega⟩, v, m2, c2, ⟨fun _ => hk, fun z => absurd rfl z⟩⟩
theorem lc_look {m0 m : Mm} {x : Int} (h0 : ScP m0) (h : Lw_I m0 m) (hx : 0 ≤ x ∧ x + 6 ≤ m0 500 (-1) ∧ m0 500 (-1) ≤ 3072) (k : ∀ m2, Lw_I m0 m2 → ∃ m', Ev 121 K_Lw 2 1083 [(50, 500), (17, 0), (18, 400), (0, x)] [] m2 (some (0, 1), m')) : ∃ m', Ev 121 K_Lw 2 977 [(50, 500), (17, 0), (18, 400), (0, x)] [] m (some (0, 1), m') := by
  have e := h.2.2.1
  have w1 : w32 (x + 1) = x + 1 := w32n (by omega) (by omega)
  have V1 : Vok (0, m0 500 (x + 1)) := V_scr h0 (by omega) (by omega)
  obtain ⟨v, m1, m2, c1, c2, e1, g⟩ := op_go2 h0 h (op_look (x := m0 500 (x + 1)) h.1) (V_l1 V1)
  obtain ⟨m', hk⟩ := k m2 g
  refine ⟨m', b_Lw_977 ?_⟩
  simp only [w1, e]
  refine ⟨⟨by omega, by omega⟩, v, m1, c1, ?_⟩
  simp only [e1]
  exact ⟨⟨by omega, by omega⟩, v, m2, c2, ⟨fun _ => hk, fun z => absurd rfl z⟩⟩
theorem lc_said {m0 m : Mm} {x : Int} (h0 : ScP m0) (h : Lw_I m0 m) (hx : 0 ≤ x ∧ x + 6 ≤ m0 500 (-1) ∧ m0 500 (-1) ≤ 3072) (k : ∀ m2, Lw_I m0 m2 → ∃ m', Ev 121 K_Lw 2 1083 [(50, 500), (17, 0), (18, 400), (0, x)] [] m2 (some (0, 1), m')) : ∃ m', Ev 121 K_Lw 2 994 [(50, 500), (17, 0), (18, 400), (0, x)] [] m (some (0, 1), m') := by
  have e := h.2.2.1
  have w1 : w32 (x + 1) = x + 1 := w32n (by omega) (by omega)
  have V1 : Vok (0, m0 500 (x + 1)) := V_scr h0 (by omega) (by omega)
  have w2 : w32 (x + 2) = x + 2 := w32n (by omega) (by omega)
  have V2 : Vok (0, m0 500 (x + 2)) := V_scr h0 (by omega) (by omega)
  obtain ⟨v, m1, m2, c1, c2, e1, g⟩ := op_go2 h0 h (op_said (x := m0 500 (x + 1)) (y := m0 500 (x + 2)) h.1) (V_l2 V1 V2)
  obtain ⟨m', hk⟩ := k m2 g
  refine ⟨m', b_Lw_994 ?_⟩
  simp only [w1, w2, e]
  refine ⟨⟨by omega, by omega⟩, ⟨by omega, by omega⟩, v, m1, c1, ?_⟩
  simp only [e1]
  exact ⟨⟨by omega, by omega⟩, ⟨by omega, by omega⟩, v, m2, c2, ⟨fun _ => hk, fun z => absurd rfl z⟩⟩
theorem lc_whose {m0 m : Mm} {x : Int} (h0 : ScP m0) (h : Lw_I m0 m) (hx : 0 ≤ x ∧ x + 6 ≤ m0 500 (-1) ∧ m0 500 (-1) ≤ 3072) (k : ∀ m2, Lw_I m0 m2 → ∃ m', Ev 121 K_Lw 2 1083 [(50, 500), (17, 0), (18, 400), (0, x)] [] m2 (some (0, 1), m')) : ∃ m', Ev 121 K_Lw 2 1021 [(50, 500), (17, 0), (18, 400), (0, x)] [] m (some (0, 1), m') := by
  have e := h.2.2.1
  obtain ⟨v, m1, m2, c1, c2, e1, g⟩ := op_go2 h0 h (op_whose  h.1) (fun w hw => absurd hw (by simp))
  obtain ⟨m', hk⟩ := k m2 g
  refine ⟨m', b_Lw_1021 ?_⟩
  exact ⟨v, m1, c1, v, m2, c2, ⟨fun _ => hk, fun z => absurd rfl z⟩⟩
theorem lc_thickest {m0 m : Mm} {x : Int} (h0 : ScP m0) (h : Lw_I m0 m) (hx : 0 ≤ x ∧ x + 6 ≤ m0 500 (-1) ∧ m0 500 (-1) ≤ 3072) (k : ∀ m2, Lw_I m0 m2 → ∃ m', Ev 121 K_Lw 2 1083 [(50, 500), (17, 0), (18, 400), (0, x)] [] m2 (some (0, 1), m')) : ∃ m', Ev 121 K_Lw 2 1028 [(50, 500), (17, 0), (18, 400), (0, x)] [] m (some (0, 1), m') := by
  have e := h.2.2.1
  obtain ⟨v, m1, m2, c1, c2, e1, g⟩ := op_go2 h0 h (op_thickest  h.1) (fun w hw => absurd hw (by simp))
  obtain ⟨m', hk⟩ := k m2 g
  refine ⟨m', b_Lw_1028 ?_⟩
  exact ⟨v, m1, c1, v, m2, c2, ⟨fun _ => hk, fun z => absurd rfl z⟩⟩
theorem lc_ledger {m0 m : Mm} {x : Int} (h0 : ScP m0) (h : Lw_I m0 m) (hx : 0 ≤ x ∧ x + 6 ≤ m0 500 (-1) ∧ m0 500 (-1) ≤ 3072) (k : ∀ m2, Lw_I m0 m2 → ∃ m', Ev 121 K_Lw 2 1083 [(50, 500), (17, 0), (18, 400), (0, x)] [] m2 (some (0, 1), m')) : ∃ m', Ev 121 K_Lw 2 1035 [(50, 500), (17, 0), (18, 400), (0, x)] [] m (some (0, 1), m') := by
  have e := h.2.2.1
  have w1 : w32 (x + 1) = x + 1 := w32n (by omega) (by omega)
  have V1 : Vok (0, m0 500 (x + 1)) := V_scr h0 (by omega) (by omega)
  obtain ⟨v, m1, m2, c1, c2, e1, g⟩ := op_go2 h0 h (op_ledger (x := m0 500 (x + 1)) h.1) (V_l1 V1)
  obtain ⟨m', hk⟩ := k m2 g
  refine ⟨m', b_Lw_1035 ?_⟩
  simp only [w1, e]
  refine ⟨⟨by omega, by omega⟩, v, m1, c1, ?_⟩
  simp only [e1]
  exact ⟨⟨by omega, by omega⟩, v, m2, c2, ⟨fun _ => hk, fun z => absurd rfl z⟩⟩
theorem lc_image {m0 m : Mm} {x : Int} (h0 : ScP m0) (h : Lw_I m0 m) (hx : 0 ≤ x ∧ x + 6 ≤ m0 500 (-1) ∧ m0 500 (-1) ≤ 3072) (k : ∀ m2, Lw_I m0 m2 → ∃ m', Ev 121 K_Lw 2 1083 [(50, 500), (17, 0), (18, 400), (0, x)] [] m2 (some (0, 1), m')) : ∃ m', Ev 121 K_Lw 2 1052 [(50, 500), (17, 0), (18, 400), (0, x)] [] m (some (0, 1), m') := by
  have e := h.2.2.1
  obtain ⟨v, m1, m2, c1, c2, e1, g⟩ := op_go2 h0 h (op_image  h.1) (fun w hw => absurd hw (by simp))
  obtain ⟨m', hk⟩ := k m2 g
  refine ⟨m', b_Lw_1052 ?_⟩
  exact ⟨v, m1, c1, v, m2, c2, ⟨fun _ => hk, fun z => absurd rfl z⟩⟩
theorem lc_back {m0 m : Mm} {x : Int} (h0 : ScP m0) (h : Lw_I m0 m) (hx : 0 ≤ x ∧ x + 6 ≤ m0 500 (-1) ∧ m0 500 (-1) ≤ 3072) (k : ∀ m2, Lw_I m0 m2 → ∃ m', Ev 121 K_Lw 2 1083 [(50, 500), (17, 0), (18, 400), (0, x)] [] m2 (some (0, 1), m')) : ∃ m', Ev 121 K_Lw 2 1059 [(50, 500), (17, 0), (18, 400), (0, x)] [] m (some (0, 1), m') := by
  have e := h.2.2.1
  obtain ⟨v, m1, m2, c1, c2, e1, g⟩ := op_go2 h0 h (op_back  h.1) (fun w hw => absurd hw (by simp))
  obtain ⟨m', hk⟩ := k m2 g
  refine ⟨m', b_Lw_1059 ?_⟩
  exact ⟨v, m1, c1, v, m2, c2, ⟨fun _ => hk, fun z => absurd rfl z⟩⟩
theorem lc_about {m0 m : Mm} {x : Int} (h0 : ScP m0) (h : Lw_I m0 m) (hx : 0 ≤ x ∧ x + 6 ≤ m0 500 (-1) ∧ m0 500 (-1) ≤ 3072) (k : ∀ m2, Lw_I m0 m2 → ∃ m', Ev 121 K_Lw 2 1083 [(50, 500), (17, 0), (18, 400), (0, x)] [] m2 (some (0, 1), m')) : ∃ m', Ev 121 K_Lw 2 1066 [(50, 500), (17, 0), (18, 400), (0, x)] [] m (some (0, 1), m') := by
  have e := h.2.2.1
  have w1 : w32 (x + 1) = x + 1 := w32n (by omega) (by omega)
  have V1 : Vok (0, m0 500 (x + 1)) := V_scr h0 (by omega) (by omega)
  obtain ⟨v, m1, m2, c1, c2, e1, g⟩ := op_go2 h0 h (op_about (x := m0 500 (x + 1)) h.1) (V_l1 V1)
  obtain ⟨m', hk⟩ := k m2 g
  refine ⟨m', b_Lw_1066 ?_⟩
  simp only [w1, e]
  refine ⟨⟨by omega, by omega⟩, v, m1, c1, ?_⟩
  simp only [e1]
  exact ⟨⟨by omega, by omega⟩, v, m2, c2, ⟨fun _ => hk, fun z => absurd rfl z⟩⟩
theorem ex_if {c j : Int} {A B : Mm → Prop} (h1 : c = j → ∃ m', A m') (h2 : ¬ c = j → ∃ m', B m') : ∃ m', (c = j → A m') ∧ (¬ c = j → B m') := by
  by_cases h : c = j
  · obtain ⟨m', hm⟩ := h1 h
    exact ⟨m', fun _ => hm, fun z => absurd h z⟩
  · obtain ⟨m', hm⟩ := h2 h
    exact ⟨m', fun z => absurd z h, fun _ => hm⟩
theorem ex_of {H E : Mm → Prop} (f : ∀ m', H m' → E m') (h : ∃ m', H m') : ∃ m', E m' := by
  obtain ⟨m', hm⟩ := h
  exact ⟨m', f m' hm⟩
theorem ex_not {P Bd : Prop} {X Y : Mm → Prop} (hp : ¬ P) (hb : Bd) (h : ∃ m', Y m') : ∃ m', (P → X m') ∧ (¬ P → Bd ∧ Y m') := by
  obtain ⟨m', hm⟩ := h
  exact ⟨m', fun z => absurd z hp, fun _ => ⟨hb, hm⟩⟩
set_option maxRecDepth 100000 in
theorem lw_loop {m0 : Mm} (h0 : ScP m0) (hL : 0 ≤ m0 500 (-1) ∧ m0 500 (-1) ≤ 3072) : ∀ (n : Nat) (x : Int) (m : Mm), Lw_I m0 m → 0 ≤ x → m0 500 (-1) - x < 6 * (n : Int) → x ≤ 4000 → ∃ m', Ev 121 K_Lw 2 2 [(50, 500), (17, 0), (18, 400), (0, x)] [] m (some (0, 1), m') := by
  intro n
  induction n with
  | zero =>
    intro x m h hx hn h4
    exact ⟨m, b_Lw_2 ⟨fun _ => rfl, fun z => by rw [h.2.2.1, w32n (by omega) (by omega)] at z; omega⟩⟩
  | succ n ih =>
    intro x m h hx0 hn h4
    by_cases hb : m0 500 (-1) - 6 < x
    · exact ⟨m, b_Lw_2 ⟨fun _ => rfl, fun z => by rw [h.2.2.1, w32n (by omega) (by omega)] at z; omega⟩⟩
    · have hx : 0 ≤ x ∧ x + 6 ≤ m0 500 (-1) ∧ m0 500 (-1) ≤ 3072 := by omega
      have ex : ∀ m2, Lw_I m0 m2 → ∃ m', Ev 121 K_Lw 2 1083 [(50, 500), (17, 0), (18, 400), (0, x)] [] m2 (some (0, 1), m') := fun m2 h2 => by
        obtain ⟨m', hm'⟩ := ih (x + 6) m2 h2 (by omega) (by omega) (by omega)
        exact ⟨m', b_Lw_1083 (by rw [w32n (by omega) (by omega)]; exact hm')⟩
      refine ex_of (fun m' => b_Lw_2 (r := (some (0, 1), m'))) ?_
      refine ex_not (by rw [h.2.2.1, w32n (by omega) (by omega)]; exact hb) (by rw [h.2.2.1]; omega) ?_
      exact ex_if (fun _ => lc_hand h0 h hx ex) (fun _ => ex_if (fun _ => lc_cow h0 h hx ex) (fun _ => ex_if (fun _ => lc_gate h0 h hx ex) (fun _ => ex_if (fun _ => lc_feed h0 h hx ex) (fun _ => ex_if (fun _ => lc_end h0 h hx ex) (fun _ => ex_if (fun _ => lc_text h0 h hx ex) (fun _ => ex_if (fun _ => lc_fault h0 h hx ex) (fun _ => ex_if (fun _ => lc_by h0 h hx ex) (fun _ => ex_if (fun _ => lc_plant h0 h hx ex) (fun _ => ex_if (fun _ => lc_cut h0 h hx ex) (fun _ => ex_if (fun _ => lc_press h0 h hx ex) (fun _ => ex_if (fun _ => lc_go h0 h hx ex) (fun _ => ex_if (fun _ => lc_hour h0 h hx ex) (fun _ => ex_if (fun _ => lc_played h0 h hx ex) (fun _ => ex_if (fun _ => lc_years h0 h hx ex) (fun _ => ex_if (fun _ => lc_undo h0 h hx ex) (fun _ => ex_if (fun _ => lc_of h0 h hx ex) (fun _ => ex_if (fun _ => lc_cell h0 h hx ex) (fun _ => ex_if (fun _ => lc_hedge h0 h hx ex) (fun _ => ex_if (fun _ => lc_between h0 h hx ex) (fun _ => ex_if (fun _ => lc_is h0 h hx ex) (fun _ => ex_if (fun _ => lc_book h0 h hx ex) (fun _ => ex_if (fun _ => lc_foretold h0 h hx ex) (fun _ => ex_if (fun _ => lc_miles h0 h hx ex) (fun _ => ex_if (fun _ => lc_way h0 h hx ex) (fun _ => ex_if (fun _ => lc_cuts h0 h hx ex) (fun _ => ex_if (fun _ => lc_farthest h0 h hx ex) (fun _ => ex_if (fun _ => lc_wide h0 h hx ex) (fun _ => ex_if (fun _ => lc_regions h0 h hx ex) (fun _ => ex_if (fun _ => lc_rings h0 h hx ex) (fun _ => ex_if (fun _ => lc_ends h0 h hx ex) (fun _ => ex_if (fun _ => lc_necks h0 h hx ex) (fun _ => ex_if (fun _ => lc_paths h0 h hx ex) (fun _ => ex_if (fun _ => lc_walk h0 h hx ex) (fun _ => ex_if (fun _ => lc_home h0 h hx ex) (fun _ => ex_if (fun _ => lc_gates h0 h hx ex) (fun _ => ex_if (fun _ => lc_turned h0 h hx ex) (fun _ => ex_if (fun _ => lc_unlike h0 h hx ex) (fun _ => ex_if (fun _ => lc_owner h0 h hx ex) (fun _ => ex_if (fun _ => lc_twins h0 h hx ex) (fun _ => ex_if (fun _ => lc_kinds h0 h hx ex) (fun _ => ex_if (fun _ => lc_selves h0 h hx ex) (fun _ => ex_if (fun _ => lc_look h0 h hx ex) (fun _ => ex_if (fun _ => lc_said h0 h hx ex) (fun _ => ex_if (fun _ => lc_whose h0 h hx ex) (fun _ => ex_if (fun _ => lc_thickest h0 h hx ex) (fun _ => ex_if (fun _ => lc_ledger h0 h hx ex) (fun _ => ex_if (fun _ => lc_image h0 h hx ex) (fun _ => ex_if (fun _ => lc_back h0 h hx ex) (fun _ => ex_if (fun _ => lc_about h0 h hx ex) (fun _ => ex m h))))))))))))))))))))))))))))))))))))))))))))))))))
