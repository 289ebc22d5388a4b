/-! StringLatin1.canEncode -/
theorem dj_ce_0 : decode prog_17_method_4_code 0 = .ok (.iload_n 0, 1) := by decide +kernel
theorem dj_ce_1 : decode prog_17_method_4_code 1 = .ok (.ifCond .lt 14, 3) := by decide +kernel
theorem dj_ce_4 : decode prog_17_method_4_code 4 = .ok (.iload_n 0, 1) := by decide +kernel
theorem dj_ce_5 : decode prog_17_method_4_code 5 = .ok (.sipush 255, 3) := by decide +kernel
theorem dj_ce_8 : decode prog_17_method_4_code 8 = .ok (.if_icmp .gt 7, 3) := by decide +kernel
theorem dj_ce_11 : decode prog_17_method_4_code 11 = .ok (.iconst 1, 1) := by decide +kernel
theorem dj_ce_12 : decode prog_17_method_4_code 12 = .ok (.goto 4, 3) := by decide +kernel
theorem dj_ce_15 : decode prog_17_method_4_code 15 = .ok (.iconst 0, 1) := by decide +kernel
theorem dj_ce_16 : decode prog_17_method_4_code 16 = .ok (.ireturn, 1) := by decide +kernel
theorem jt_can (l : Launch) (x v : Int32) (hv : v = if x < 0 ∨ 255 < x then 0 else 1) : Met l (yL "canEncode" "(I)Z") (Cond.code (yL "canEncode" "(I)Z") prog_17_method_4_code 1 (some .boolean) :: WT) (rmJ 1) (PJ0 [.int x]) (QJ v) 0 0 (fun _ => False) := by
  refine Met.ofW (cc := prog_17_method_4_code) (maxL := 1) (ret := some .boolean) (by decide +kernel) rfl ?_
  intro p e s mm args below meth c s₁ B hml hv9
  obtain ⟨rfl, -⟩ := hv9
  have hx := B.exec
  have hb := B.bytes
  have hr := B.returns
  have hlocks := B.notSynchronized
  have hl := lv_entry ([.int x]) (n := 1) (Nat.le_of_ble_eq_true rfl)
  rw [lg_entry_eq]
  generalize (lg_sl ([.int x]) ++ List.replicate (1 - (lg_sl ([.int x])).length) Slot.unset).toArray = ls at hl ⊢
  have hl : lv_has ls 1 [(0, .int x)] := hl
  have hSF : va_S (fun _ => False) s.heap s.heap [] := va_S.rf
  show W p l e (rmJ 1) s mm #[.int x] below meth c s.heap [] 0 0 _ _
  have fin : ∀ r : Int32, (r = 0 ∨ r = 1) → r = v → W p l e (rmJ 1) s mm #[.int x] below meth c s.heap [] 0 0 (MQ below (QJ v) #[.int x] s 0 0 (fun _ => False)) (F0 mm 16 ls [.int r]) := fun r h2 h3 =>
    W.zret (v := r) hx hb hr (by rcases h2 with rfl | rfl <;> rfl) (fun t ht hW => ⟨⟨r, (), rfl, h3, trivial⟩, hSF.F ht⟩) (fun _ h => by simp at h) dj_ce_16 hlocks
  refine lv_iload_n hx hb dj_ce_0 rfl (lv_at hl 0 rfl) ?_
  refine lv_if_lt (tgt := 15) hx hb dj_ce_1 (by omega) (fun z => ?_) (fun z => ?_)
  · refine lv_iconst (v := 0) hx hb dj_ce_15 (by decide) ?_
    exact fin 0 (Or.inl rfl) (by rw [hv, if_pos (Or.inl z)])
  · refine lv_iload_n hx hb dj_ce_4 rfl (lv_at hl 0 rfl) ?_
    refine lv_sipush (v := 255) hx hb dj_ce_5 (by decide) ?_
    refine lv_icmp_gt (tgt := 15) hx hb dj_ce_8 (by omega) (fun z2 => ?_) (fun z2 => ?_)
    · refine lv_iconst (v := 0) hx hb dj_ce_15 (by decide) ?_
      exact fin 0 (Or.inl rfl) (by rw [hv, if_pos (Or.inr z2)])
    · refine lv_iconst (v := 1) hx hb dj_ce_11 (by decide) ?_
      refine lv_goto (tgt := 16) hx hb dj_ce_12 (by omega) ?_
      exact fin 1 (Or.inr rfl) (by rw [hv, if_neg (fun h => h.elim z z2)])

