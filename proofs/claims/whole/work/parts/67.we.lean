/-! CODE that does alike: more steps, other rows -/
theorem WE_ext {C C' Mo Mo' Mv Mv' : Nat → Int} {w : Int} : ∀ (n : Nat) (b : Bool) (p p' q q' : Nat) (F : Ef), WE C Mo Mv w n b p p' q q' F → (∀ j, p ≤ j → j < p' → C' j = C j) → (∀ j, q ≤ j → j < q' → Mo' j = Mo j ∧ Mv' j = Mv j) → WE C' Mo' Mv' w n b p p' q q' F := by
  intro n
  induction n with
  | zero => intro b p p' q q' F h; exact h.elim
  | succ n ih =>
    intro b p p' q q' F h hC hM
    unfold WE at h ⊢
    rcases h with ⟨hb, v, v0, v1, c1, c2, c3, c4, c5, c6⟩ | ⟨hb, k, k0, c1, c2, c3, c4, c5, c6⟩ | ⟨hb, p1, q1, F1, h1, c1, c2, c4, c5, c6⟩ | ⟨hb, p1, q1, F1, h1, c1, c2, c4, c5, c6⟩ | ⟨a, cm, p1, q1, p2, q2, F1, F2, hcm, h1, h2, c1, c2, c4, c5, c6⟩ | ⟨hb, p1, q1, p2, q2, p3, q3, G, F1, F2, h1, c1, h2, c2, h3, c3, c4, c5, c6⟩ | ⟨hb, p1, q1, G, h1, c1, c2, c4, c5, c6⟩
    · exact Or.inl ⟨hb, v, v0, v1, by rw [hC p (by omega) (by omega)]; exact c1, by rw [(hM q (by omega) (by omega)).1]; exact c2, by rw [(hM q (by omega) (by omega)).2]; exact c3, c4, c5, c6⟩
    · exact Or.inr (Or.inl ⟨hb, k, k0, by rw [hC p (by omega) (by omega)]; exact c1, by rw [(hM q (by omega) (by omega)).1]; exact c2, by rw [(hM q (by omega) (by omega)).2]; exact c3, c4, c5, c6⟩)
    · obtain ⟨l1, l2⟩ := WE_lt _ _ _ _ _ _ _ h1
      exact Or.inr (Or.inr (Or.inl ⟨hb, p1, q1, F1, ih _ _ _ _ _ _ h1 (fun j a b => hC j (by omega) (by omega)) (fun j a b => hM j (by omega) (by omega)), by rw [hC p1 (by omega) (by omega)]; exact c1, by rw [(hM q1 (by omega) (by omega)).1]; exact c2, c4, c5, c6⟩))
    · obtain ⟨l1, l2⟩ := WE_lt _ _ _ _ _ _ _ h1
      exact Or.inr (Or.inr (Or.inr (Or.inl ⟨hb, p1, q1, F1, ih _ _ _ _ _ _ h1 (fun j a b => hC j (by omega) (by omega)) (fun j a b => hM j (by omega) (by omega)), by rw [hC p1 (by omega) (by omega)]; exact c1, by rw [(hM q1 (by omega) (by omega)).1]; exact c2, c4, c5, c6⟩)))
    · obtain ⟨l1, l2⟩ := WE_lt _ _ _ _ _ _ _ h1
      obtain ⟨l3, l4⟩ := WE_lt _ _ _ _ _ _ _ h2
      exact Or.inr (Or.inr (Or.inr (Or.inr (Or.inl ⟨a, cm, p1, q1, p2, q2, F1, F2, hcm, ih _ _ _ _ _ _ h1 (fun j a b => hC j (by omega) (by omega)) (fun j a b => hM j (by omega) (by omega)), ih _ _ _ _ _ _ h2 (fun j a b => hC j (by omega) (by omega)) (fun j a b => hM j (by omega) (by omega)), by rw [hC p2 (by omega) (by omega)]; exact c1, by rw [(hM q2 (by omega) (by omega)).1]; exact c2, c4, c5, c6⟩))))
    · obtain ⟨l1, l2⟩ := WE_lt _ _ _ _ _ _ _ h1
      obtain ⟨l3, l4⟩ := WE_lt _ _ _ _ _ _ _ h2
      obtain ⟨l5, l6⟩ := WE_lt _ _ _ _ _ _ _ h3
      exact Or.inr (Or.inr (Or.inr (Or.inr (Or.inr (Or.inl ⟨hb, p1, q1, p2, q2, p3, q3, G, F1, F2, ih _ _ _ _ _ _ h1 (fun j a b => hC j (by omega) (by omega)) (fun j a b => hM j (by omega) (by omega)), by rw [hC p1 (by omega) (by omega)]; exact c1, ih _ _ _ _ _ _ h2 (fun j a b => hC j (by omega) (by omega)) (fun j a b => hM j (by omega) (by omega)), by rw [hC p2 (by omega) (by omega)]; exact c2, ih _ _ _ _ _ _ h3 (fun j a b => hC j (by omega) (by omega)) (fun j a b => hM j (by omega) (by omega)), by rw [(hM q3 (by omega) (by omega)).1]; exact c3, c4, c5, c6⟩)))))
    · obtain ⟨l1, l2⟩ := WE_lt _ _ _ _ _ _ _ h1
      exact Or.inr (Or.inr (Or.inr (Or.inr (Or.inr (Or.inr ⟨hb, p1, q1, G, ih _ _ _ _ _ _ h1 (fun j a b => hC j (by omega) (by omega)) (fun j a b => hM j (by omega) (by omega)), by rw [hC p1 (by omega) (by omega)]; exact c1, by rw [(hM q1 (by omega) (by omega)).1]; exact c2, c4, c5, c6⟩)))))
theorem WE_up {C Mo Mv : Nat → Int} {w : Int} : ∀ (n : Nat) (b : Bool) (p p' q q' : Nat) (F : Ef), WE C Mo Mv w n b p p' q q' F → WE C Mo Mv w (n + 1) b p p' q q' F := by
  intro n
  induction n with
  | zero => intro b p p' q q' F h; exact h.elim
  | succ n ih =>
    intro b p p' q q' F h
    unfold WE at h
    unfold WE
    rcases h with h | h | ⟨hb, p1, q1, F1, h1, c⟩ | ⟨hb, p1, q1, F1, h1, c⟩ | ⟨a, cm, p1, q1, p2, q2, F1, F2, hcm, h1, h2, c⟩ | ⟨hb, p1, q1, p2, q2, p3, q3, G, F1, F2, h1, c1, h2, c2, h3, c⟩ | ⟨hb, p1, q1, G, h1, c⟩
    · exact Or.inl h
    · exact Or.inr (Or.inl h)
    · exact Or.inr (Or.inr (Or.inl ⟨hb, p1, q1, F1, ih _ _ _ _ _ _ h1, c⟩))
    · exact Or.inr (Or.inr (Or.inr (Or.inl ⟨hb, p1, q1, F1, ih _ _ _ _ _ _ h1, c⟩)))
    · exact Or.inr (Or.inr (Or.inr (Or.inr (Or.inl ⟨a, cm, p1, q1, p2, q2, F1, F2, hcm, ih _ _ _ _ _ _ h1, ih _ _ _ _ _ _ h2, c⟩))))
    · exact Or.inr (Or.inr (Or.inr (Or.inr (Or.inr (Or.inl ⟨hb, p1, q1, p2, q2, p3, q3, G, F1, F2, ih _ _ _ _ _ _ h1, c1, ih _ _ _ _ _ _ h2, c2, ih _ _ _ _ _ _ h3, c⟩)))))
    · exact Or.inr (Or.inr (Or.inr (Or.inr (Or.inr (Or.inr ⟨hb, p1, q1, G, ih _ _ _ _ _ _ h1, c⟩)))))
theorem WE_mo {C Mo Mv : Nat → Int} {w : Int} {n k : Nat} {b : Bool} {p p' q q' : Nat} {F : Ef} (h : WE C Mo Mv w n b p p' q q' F) (hk : n ≤ k) : WE C Mo Mv w k b p p' q q' F := by
  obtain ⟨j, rfl⟩ := Nat.exists_eq_add_of_le hk
  induction j with
  | zero => exact h
  | succ j ih => exact WE_up _ _ _ _ _ _ _ (ih (by omega))
/-- code of some size -/
def WX (C Mo Mv : Nat → Int) (w : Int) (b : Bool) (p p' q q' : Nat) : Prop := ∃ (n : Nat) (F : Ef), WE C Mo Mv w n b p p' q q' F
theorem WX_lt {C Mo Mv : Nat → Int} {w : Int} {b : Bool} {p p' q q' : Nat} (h : WX C Mo Mv w b p p' q q') : p < p' ∧ q < q' := by
  obtain ⟨n, F, h⟩ := h
  exact WE_lt _ _ _ _ _ _ _ h
theorem WX_ext {C C' Mo Mo' Mv Mv' : Nat → Int} {w : Int} {b : Bool} {p p' q q' : Nat} (h : WX C Mo Mv w b p p' q q') (hC : ∀ j, p ≤ j → j < p' → C' j = C j) (hM : ∀ j, q ≤ j → j < q' → Mo' j = Mo j ∧ Mv' j = Mv j) : WX C' Mo' Mv' w b p p' q q' := by
  obtain ⟨n, F, h⟩ := h
  exact ⟨n, F, WE_ext _ _ _ _ _ _ _ h hC hM⟩
theorem WX_num {C Mo Mv : Nat → Int} {w v : Int} {p q : Nat} (hv : 0 ≤ v ∧ v ≤ 9999) (c : C p = 2 + v * 64) (o : Mo q = 0) (u : Mv q = v) : WX C Mo Mv w false p (p + 1) q (q + 1) := ⟨1, _, Or.inl ⟨rfl, v, hv.1, hv.2, c, o, u, rfl, rfl, rfl⟩⟩
theorem WX_name {C Mo Mv : Nat → Int} {w k : Int} {p q : Nat} (hk : nmo w k) (c : C p = 43 + k * 64) (o : Mo q = 1) (u : Mv q = k) : WX C Mo Mv w false p (p + 1) q (q + 1) := ⟨1, _, Or.inr (Or.inl ⟨rfl, k, hk, c, o, u, rfl, rfl, rfl⟩)⟩
theorem WX_neg {C Mo Mv : Nat → Int} {w : Int} {p p1 q q1 : Nat} (h : WX C Mo Mv w false p p1 q q1) (c : C p1 = 44) (o : Mo q1 = 5) : WX C Mo Mv w false p (p1 + 1) q (q1 + 1) := by
  obtain ⟨n, F, h⟩ := h
  exact ⟨n + 1, _, Or.inr (Or.inr (Or.inl ⟨rfl, p1, q1, F, h, c, o, rfl, rfl, rfl⟩))⟩
theorem WX_hed {C Mo Mv : Nat → Int} {w : Int} {p p1 q q1 : Nat} (h : WX C Mo Mv w false p p1 q q1) (c : C p1 = 35) (o : Mo q1 = 2) : WX C Mo Mv w false p (p1 + 1) q (q1 + 1) := by
  obtain ⟨n, F, h⟩ := h
  exact ⟨n + 1, _, Or.inr (Or.inr (Or.inr (Or.inl ⟨rfl, p1, q1, F, h, c, o, rfl, rfl, rfl⟩)))⟩
theorem WX_not {C Mo Mv : Nat → Int} {w : Int} {p p1 q q1 : Nat} (h : WX C Mo Mv w true p p1 q q1) (c : C p1 = 42) (o : Mo q1 = 20) : WX C Mo Mv w true p (p1 + 1) q (q1 + 1) := by
  obtain ⟨n, F, h⟩ := h
  exact ⟨n + 1, _, Or.inr (Or.inr (Or.inr (Or.inr (Or.inr (Or.inr ⟨rfl, p1, q1, F, h, c, o, rfl, rfl, rfl⟩)))))⟩
theorem WX_two {C Mo Mv : Nat → Int} {w : Int} {a b : Bool} {cm : Int × Int} {p p1 p2 q q1 q2 : Nat} (hcm : cm ∈ ops a b) (h1 : WX C Mo Mv w a p p1 q q1) (h2 : WX C Mo Mv w a p1 p2 q1 q2) (c : C p2 = cm.1) (o : Mo q2 = cm.2) : WX C Mo Mv w b p (p2 + 1) q (q2 + 1) := by
  obtain ⟨n1, F1, h1⟩ := h1
  obtain ⟨n2, F2, h2⟩ := h2
  exact ⟨max n1 n2 + 1, _, Or.inr (Or.inr (Or.inr (Or.inr (Or.inl ⟨a, cm, p1, q1, p2, q2, F1, F2, hcm, WE_mo h1 (Nat.le_max_left _ _), WE_mo h2 (Nat.le_max_right _ _), c, o, rfl, rfl, rfl⟩))))⟩
theorem WX_if {C Mo Mv : Nat → Int} {w : Int} {p p1 p2 p3 q q1 q2 q3 : Nat} (h1 : WX C Mo Mv w true p p1 q q1) (c1 : C p1 = 45 + ((p2 : Int) + 1) * 64) (h2 : WX C Mo Mv w false (p1 + 1) p2 q1 q2) (c2 : C p2 = 46 + (p3 : Int) * 64) (h3 : WX C Mo Mv w false (p2 + 1) p3 q2 q3) (o : Mo q3 = 3) : WX C Mo Mv w false p p3 q (q3 + 1) := by
  obtain ⟨n1, F1, h1⟩ := h1
  obtain ⟨n2, F2, h2⟩ := h2
  obtain ⟨n3, F3, h3⟩ := h3
  exact ⟨max n1 (max n2 n3) + 1, _, Or.inr (Or.inr (Or.inr (Or.inr (Or.inr (Or.inl ⟨rfl, p1, q1, p2, q2, p3, q3, F1, F2, F3, WE_mo h1 (by omega), c1, WE_mo h2 (by omega), c2, WE_mo h3 (by omega), o, rfl, rfl, rfl⟩)))))⟩
