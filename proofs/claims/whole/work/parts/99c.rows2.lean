/-! rows whose far ends don't matter; addresses alone -/
theorem cell_con {cA : ClassId} {n : Nat} {f g : Nat → Option Nat} (h : ∀ j, j < n → f j = g j) : vp_cell cA (n, .inr (.inr (.inr (.inr f)))) = vp_cell cA (n, .inr (.inr (.inr (.inr g)))) := by
  rw [vp_cell_q, vp_cell_q]
  unfold arrV
  have : (fun j : Fin n => va_rf (f j.val)) = (fun j : Fin n => va_rf (g j.val)) := by
    funext j
    rw [h j.val j.isLt]
  rw [this]
theorem row_con {D : va_G} {cl : List vw_C} {X Y : va_W} {H : Heap} {q n : Nat} {c : ClassId} {f g : Nat → Option Nat} (h : va_P D cl (X ++ (q, .inl (c, n, .inr (.inr (.inr (.inr f))))) :: Y) H) (hfg : ∀ j, j < n → f j = g j) : va_P D cl (X ++ (q, .inl (c, n, .inr (.inr (.inr (.inr g))))) :: Y) H := by
  intro k x hk
  by_cases h1 : k < X.length
  · rw [List.getElem?_append_left h1] at hk
    exact h k x (by rw [List.getElem?_append_left h1]; exact hk)
  · rw [List.getElem?_append_right (by omega)] at hk
    by_cases h2 : k - X.length = 0
    · rw [h2] at hk
      cases hk
      have h3 := h k (q, .inl (c, n, .inr (.inr (.inr (.inr f))))) (by rw [List.getElem?_append_right (by omega), h2]; rfl)
      have h4 : H[q]? = some (vp_cell c (n, .inr (.inr (.inr (.inr f))))) := h3
      show H[q]? = some (vp_cell c (n, .inr (.inr (.inr (.inr g)))))
      rw [h4, cell_con hfg]
    · obtain ⟨j, hj⟩ : ∃ j, k - X.length = j + 1 := ⟨k - X.length - 1, by omega⟩
      rw [hj, List.getElem?_cons_succ] at hk
      exact h k x (by rw [List.getElem?_append_right (by omega), hj, List.getElem?_cons_succ]; exact hk)
theorem D_adr {A : Nat → Prop} {ws ws' : va_W} (h : va_D A ws) (e : ws'.map (fun q => q.1) = ws.map (fun q => q.1)) : va_D A ws' := by
  have key : ∀ (k : Nat) (x : Nat × va_E), ws'[k]? = some x → ∃ y, ws[k]? = some y ∧ y.1 = x.1 := by
    intro k x hk
    have h1 : (ws'.map (fun q => q.1))[k]? = some x.1 := by rw [List.getElem?_map, hk]; rfl
    rw [e, List.getElem?_map] at h1
    cases hw : ws[k]? with
    | none => rw [hw] at h1; simp at h1
    | some y =>
      rw [hw] at h1
      exact ⟨y, rfl, Option.some.inj h1⟩
  refine ⟨fun i j p q hi hj hne => ?_, fun k q hk => ?_⟩
  · obtain ⟨p', hp, hp1⟩ := key i p hi
    obtain ⟨q', hq, hq1⟩ := key j q hj
    exact h.1 i j p' q' hp hq (by rw [hp1, hq1]; exact hne)
  · obtain ⟨q', hq, hq1⟩ := key k q hk
    rw [← hq1]
    exact h.2 k q' hq
theorem row_D {A : Nat → Prop} {X Y : va_W} {q : Nat} {a b : va_E} (h : va_D A (X ++ (q, a) :: Y)) : va_D A (X ++ (q, b) :: Y) := D_adr h (by rw [List.map_append, List.map_append, List.map_cons, List.map_cons])
theorem sw_P {D : va_G} {cl : List vw_C} {X Y : va_W} {H : Heap} (h : va_P D cl (X ++ Y) H) : va_P D cl (Y ++ X) H := by
  refine va_P.app (fun k q hk => ?_) (fun k q hk => ?_)
  · exact h (X.length + k) q (by rw [List.getElem?_append_right (by omega), Nat.add_sub_cancel_left]; exact hk)
  · exact h k q (by rw [List.getElem?_append_left (List.getElem?_eq_some_iff.mp hk).1]; exact hk)
theorem sw_D {A : Nat → Prop} {X Y : va_W} (h : va_D A (X ++ Y)) : va_D A (Y ++ X) := by
  have l1 : ∀ (k : Nat) (q : Nat × va_E), X[k]? = some q → (X ++ Y)[k]? = some q ∧ k < X.length := fun k q hk => ⟨by rw [List.getElem?_append_left (List.getElem?_eq_some_iff.mp hk).1]; exact hk, (List.getElem?_eq_some_iff.mp hk).1⟩
  have l2 : ∀ (k : Nat) (q : Nat × va_E), Y[k]? = some q → (X ++ Y)[X.length + k]? = some q := fun k q hk => by rw [List.getElem?_append_right (by omega), Nat.add_sub_cancel_left]; exact hk
  refine va_D.app ⟨fun i j p q hi hj hne => ?_, fun k q hk => h.2 _ q (l2 k q hk)⟩ ⟨fun i j p q hi hj hne => h.1 i j p q (l1 i p hi).1 (l1 j q hj).1 hne, fun k q hk => h.2 _ q (l1 k q hk).1⟩ (fun i j p q hi hj z => ?_)
  · have := h.1 _ _ p q (l2 i p hi) (l2 j q hj) hne
    omega
  · have h1 := h.1 _ _ p q (l2 i p hi) (l1 j q hj).1 z
    have h2 := (l1 j q hj).2
    omega
