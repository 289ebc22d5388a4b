/-! THE MODEL'S LAST ACTS of its making: by the number machine -/
def K_Mi : List Instr := [.aload 0, .multianewarray 8 0, .iconst 7, .iconst 331, .iastore, .aload 0, .multianewarray 8 0, .iconst 3, .iconst (-1), .iastore, .aload 0, .invokestatic 187, .aload 0, .multianewarray 8 0, .aload 0, .multianewarray 8 1, .invokestatic 171, .return_]
def B_Mi : List (Nat × Instr × Nat) := [(162, .aload_n 0, 1), (163, .getfield 7, 3), (166, .bipush 7, 2), (168, .sipush 331, 3), (171, .iastore, 1), (172, .aload_n 0, 1), (173, .getfield 7, 3), (176, .iconst 3, 1), (177, .iconst (-1), 1), (178, .iastore, 1), (179, .aload_n 0, 1), (180, .invokevirtual 74, 3), (183, .aload_n 0, 1), (184, .getfield 7, 3), (187, .aload_n 0, 1), (188, .getfield 13, 3), (191, .invokestatic 77, 3), (194, .return_, 1)]
theorem mi_chk : chkT 9 prog_11_method_1_code K_Mi B_Mi 0 18 = true := by decide +kernel
theorem tab_Mi : Tab 9 prog_11_method_1_code K_Mi B_Mi := ⟨rfl, fun j i b hC hB => chkT_at mi_chk j i b (by omega) (List.getElem?_eq_some_iff.mp hB).1 hC hB⟩
theorem mi_run {xs ys : Int → Int} : ∃ tu : Int → Int, (∀ t k : Nat, t < 8 → k < 40 → ∃ h : Nat, h < 40 ∧ tu (40 * t + k) = (h : Nat) ∧ trn t (h : Nat) = (k : Nat)) ∧ Ev 5 K_Mi 3 0 [(18, 400)] [] (mZ xs ys) (none, mI xs ys tu) := by
  obtain ⟨m2, h1, h2, h3, _⟩ := c_Mo_layTurns (d := 1) (m := up (up (mZ xs ys) 401 7 331) 401 3 (-1))
  have hcp := c_Mo_copy (d := 4) (m := m2) (a0 := 401) (a1 := 402) (by omega)
  have nl : ∀ a : Int, 383 ≤ a → isLd a = false := fun a ha => by unfold isLd; exact decide_eq_false (by omega)
  have fin : sr m2 402 (fls (m2 402) 0 1466 (m2 401)) = mI xs ys (m2 404) := by
    funext a b
    unfold mI
    by_cases a4 : a = 404
    · subst a4
      rw [if_pos rfl, sr_ne (by omega)]
    · rw [if_neg a4]
      have z : ∀ a b : Int, a = 401 ∨ a = 402 → mZ xs ys a b = 0 := fun a b ha => mZ_0 (by omega) (by omega) (by rw [nl a (by omega)]; simp) (by omega) (by omega) (by omega)
      have v1 : ∀ b : Int, m2 401 b = if b = 7 then 331 else if b = 3 then -1 else 0 := fun b => by
        rw [h3 _ _ (by omega)]
        by_cases b3 : b = 3
        · subst b3
          rw [up_eq]
          rfl
        · rw [up_nk b3]
          by_cases b7 : b = 7
          · subst b7
            rw [up_eq]
            rfl
          · rw [up_nk b7, if_neg b7, if_neg b3]
            exact z 401 b (by omega)
      by_cases hab : (a = 401 ∨ a = 402) ∧ 0 ≤ b ∧ b < 1466
      · rw [if_pos hab]
        rcases hab.1 with rfl | rfl
        · rw [sr_ne (by omega), v1]
        · rw [sr_eq, fls_in (by omega), show b - 0 = b by omega, v1]
      · rw [if_neg hab]
        by_cases a2 : a = 402
        · subst a2
          rw [sr_eq, fls_out (by omega), h3 _ _ (by omega), up_ne (by omega), up_ne (by omega)]
        · rw [sr_ne a2, h3 _ _ a4]
          by_cases a1 : a = 401
          · subst a1
            rw [up_nk (by omega), up_nk (by omega)]
          · rw [up_ne a1, up_ne a1]
  rw [fin] at hcp
  refine ⟨m2 404, fun t k ht hk => h2 t k ht hk, ?_⟩
  refine Ev_rn (q := (4, [(18, 400)], [(0, 331), (0, 7), (11828, 401)], mZ xs ys)) 4 rfl ?_
  refine Ev_iast (n := 1466) rfl rfl rfl ⟨by decide, by decide⟩ ?_
  refine Ev_rn (q := (9, [(18, 400)], [(0, -1), (0, 3), (11828, 401)], up (mZ xs ys) 401 7 331)) 4 rfl ?_
  refine Ev_iast (n := 1466) rfl rfl rfl ⟨by decide, by decide⟩ ?_
  refine Ev_rn (q := (11, [(18, 400)], [(18, 400)], up (up (mZ xs ys) 401 7 331) 401 3 (-1))) 1 rfl ?_
  refine Ev_call (a := [(18, 400)]) (rest := []) rfl rfl (by decide) h1 ?_
  refine Ev_rn (q := (16, [(18, 400)], [(11828, 402), (11828, 401)], m2)) 4 rfl ?_
  refine Ev_call (a := [(11828, 401), (11828, 402)]) (rest := []) rfl rfl (by decide) hcp ?_
  exact Ev_ret rfl rfl rfl
