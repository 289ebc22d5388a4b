set_option maxRecDepth 100000 in
theorem b_Lw_0 {d : Nat} {r : Option Vv × Mm} {m : Mm} (h : Ev (d + 1) K_Lw 2 2 [(50, 500), (17, 0), (18, 400), (0, 0)] [] m r) : Ev (d + 1) K_Lw 2 0 [(50, 500), (17, 0), (18, 400), (9, 0)] [] m r := by
  refine Ev_rn (q := (2, [(50, 500), (17, 0), (18, 400), (0, 0)], [], m)) 2 rfl ?_
  exact h
set_option maxRecDepth 100000 in
theorem b_Lw_2 {d : Nat} {r : Option Vv × Mm} {m : Mm} {x3 : Int} (h : (w32 ((m 500 (-1)) - 6) < x3 → r = (some (0, 1), m)) ∧ (¬ (w32 ((m 500 (-1)) - 6) < x3) → (0 ≤ x3 ∧ x3 < m 500 (-1)) ∧ ((ian (m 500 x3) 63 = 0 → Ev (d + 1) K_Lw 2 14 [(50, 500), (17, 0), (18, 400), (0, x3)] [] m r) ∧ (¬ ian (m 500 x3) 63 = 0 → (ian (m 500 x3) 63 = 1 → Ev (d + 1) K_Lw 2 41 [(50, 500), (17, 0), (18, 400), (0, x3)] [] m r) ∧ (¬ ian (m 500 x3) 63 = 1 → (ian (m 500 x3) 63 = 2 → Ev (d + 1) K_Lw 2 68 [(50, 500), (17, 0), (18, 400), (0, x3)] [] m r) ∧ (¬ ian (m 500 x3) 63 = 2 → (ian (m 500 x3) 63 = 3 → Ev (d + 1) K_Lw 2 103 [(50, 500), (17, 0), (18, 400), (0, x3)] [] m r) ∧ (¬ ian (m 500 x3) 63 = 3 → (ian (m 500 x3) 63 = 4 → Ev (d + 1) K_Lw 2 160 [(50, 500), (17, 0), (18, 400), (0, x3)] [] m r) ∧ (¬ ian (m 500 x3) 63 = 4 → (ian (m 500 x3) 63 = 5 → Ev (d + 1) K_Lw 2 177 [(50, 500), (17, 0), (18, 400), (0, x3)] [] m r) ∧ (¬ ian (m 500 x3) 63 = 5 → (ian (m 500 x3) 63 = 6 → Ev (d + 1) K_Lw 2 184 [(50, 500), (17, 0), (18, 400), (0, x3)] [] m r) ∧ (¬ ian (m 500 x3) 63 = 6 → (ian (m 500 x3) 63 = 7 → Ev (d + 1) K_Lw 2 201 [(50, 500), (17, 0), (18, 400), (0, x3)] [] m r) ∧ (¬ ian (m 500 x3) 63 = 7 → (ian (m 500 x3) 63 = 8 → Ev (d + 1) K_Lw 2 218 [(50, 500), (17, 0), (18, 400), (0, x3)] [] m r) ∧ (¬ ian (m 500 x3) 63 = 8 → (ian (m 500 x3) 63 = 9 → Ev (d + 1) K_Lw 2 235 [(50, 500), (17, 0), (18, 400), (0, x3)] [] m r) ∧ (¬ ian (m 500 x3) 63 = 9 → (ian (m 500 x3) 63 = 10 → Ev (d + 1) K_Lw 2 252 [(50, 500), (17, 0), (18, 400), (0, x3)] [] m r) ∧ (¬ ian (m 500 x3) 63 = 10 → (ian (m 500 x3) 63 = 11 → Ev (d + 1) K_Lw 2 279 [(50, 500), (17, 0), (18, 400), (0, x3)] [] m r) ∧ (¬ ian (m 500 x3) 63 = 11 → (ian (m 500 x3) 63 = 12 → Ev (d + 1) K_Lw 2 306 [(50, 500), (17, 0), (18, 400), (0, x3)] [] m r) ∧ (¬ ian (m 500 x3) 63 = 12 → (ian (m 500 x3) 63 = 13 → Ev (d + 1) K_Lw 2 323 [(50, 500), (17, 0), (18, 400), (0, x3)] [] m r) ∧ (¬ ian (m 500 x3) 63 = 13 → (ian (m 500 x3) 63 = 14 → Ev (d + 1) K_Lw 2 340 [(50, 500), (17, 0), (18, 400), (0, x3)] [] m r) ∧ (¬ ian (m 500 x3) 63 = 14 → (ian (m 500 x3) 63 = 15 → Ev (d + 1) K_Lw 2 367 [(50, 500), (17, 0), (18, 400), (0, x3)] [] m r) ∧ (¬ ian (m 500 x3) 63 = 15 → (ian (m 500 x3) 63 = 16 → Ev (d + 1) K_Lw 2 374 [(50, 500), (17, 0), (18, 400), (0, x3)] [] m r) ∧ (¬ ian (m 500 x3) 63 = 16 → (ian (m 500 x3) 63 = 17 → Ev (d + 1) K_Lw 2 401 [(50, 500), (17, 0), (18, 400), (0, x3)] [] m r) ∧ (¬ ian (m 500 x3) 63 = 17 → (ian (m 500 x3) 63 = 18 → Ev (d + 1) K_Lw 2 428 [(50, 500), (17, 0), (18, 400), (0, x3)] [] m r) ∧ (¬ ian (m 500 x3) 63 = 18 → (ian (m 500 x3) 63 = 19 → Ev (d + 1) K_Lw 2 455 [(50, 500), (17, 0), (18, 400), (0, x3)] [] m r) ∧ (¬ ian (m 500 x3) 63 = 19 → (ian (m 500 x3) 63 = 20 → Ev (d + 1) K_Lw 2 482 [(50, 500), (17, 0), (18, 400), (0, x3)] [] m r) ∧ (¬ ian (m 500 x3) 63 = 20 → (ian (m 500 x3) 63 = 21 → Ev (d + 1) K_Lw 2 499 [(50, 500), (17, 0), (18, 400), (0, x3)] [] m r) ∧ (¬ ian (m 500 x3) 63 = 21 → (ian (m 500 x3) 63 = 22 → Ev (d + 1) K_Lw 2 526 [(50, 500), (17, 0), (18, 400), (0, x3)] [] m r) ∧ (¬ ian (m 500 x3) 63 = 22 → (ian (m 500 x3) 63 = 23 → Ev (d + 1) K_Lw 2 553 [(50, 500), (17, 0), (18, 400), (0, x3)] [] m r) ∧ (¬ ian (m 500 x3) 63 = 23 → (ian (m 500 x3) 63 = 24 → Ev (d + 1) K_Lw 2 580 [(50, 500), (17, 0), (18, 400), (0, x3)] [] m r) ∧ (¬ ian (m 500 x3) 63 = 24 → (ian (m 500 x3) 63 = 25 → Ev (d + 1) K_Lw 2 617 [(50, 500), (17, 0), (18, 400), (0, x3)] [] m r) ∧ (¬ ian (m 500 x3) 63 = 25 → (ian (m 500 x3) 63 = 26 → Ev (d + 1) K_Lw 2 644 [(50, 500), (17, 0), (18, 400), (0, x3)] [] m r) ∧ (¬ ian (m 500 x3) 63 = 26 → (ian (m 500 x3) 63 = 27 → Ev (d + 1) K_Lw 2 661 [(50, 500), (17, 0), (18, 400), (0, x3)] [] m r) ∧ (¬ ian (m 500 x3) 63 = 27 → (ian (m 500 x3) 63 = 28 → Ev (d + 1) K_Lw 2 668 [(50, 500), (17, 0), (18, 400), (0, x3)] [] m r) ∧ (¬ ian (m 500 x3) 63 = 28 → (ian (m 500 x3) 63 = 29 → Ev (d + 1) K_Lw 2 693 [(50, 500), (17, 0), (18, 400), (0, x3)] [] m r) ∧ (¬ ian (m 500 x3) 63 = 29 → (ian (m 500 x3) 63 = 30 → Ev (d + 1) K_Lw 2 700 [(50, 500), (17, 0), (18, 400), (0, x3)] [] m r) ∧ (¬ ian (m 500 x3) 63 = 30 → (ian (m 500 x3) 63 = 31 → Ev (d + 1) K_Lw 2 707 [(50, 500), (17, 0), (18, 400), (0, x3)] [] m r) ∧ (¬ ian (m 500 x3) 63 = 31 → (ian (m 500 x3) 63 = 32 → Ev (d + 1) K_Lw 2 714 [(50, 500), (17, 0), (18, 400), (0, x3)] [] m r) ∧ (¬ ian (m 500 x3) 63 = 32 → (ian (m 500 x3) 63 = 33 → Ev (d + 1) K_Lw 2 742 [(50, 500), (17, 0), (18, 400), (0, x3)] [] m r) ∧ (¬ ian (m 500 x3) 63 = 33 → (ian (m 500 x3) 63 = 34 → Ev (d + 1) K_Lw 2 777 [(50, 500), (17, 0), (18, 400), (0, x3)] [] m r) ∧ (¬ ian (m 500 x3) 63 = 34 → (ian (m 500 x3) 63 = 35 → Ev (d + 1) K_Lw 2 794 [(50, 500), (17, 0), (18, 400), (0, x3)] [] m r) ∧ (¬ ian (m 500 x3) 63 = 35 → (ian (m 500 x3) 63 = 36 → Ev (d + 1) K_Lw 2 829 [(50, 500), (17, 0), (18, 400), (0, x3)] [] m r) ∧ (¬ ian (m 500 x3) 63 = 36 → (ian (m 500 x3) 63 = 37 → Ev (d + 1) K_Lw 2 874 [(50, 500), (17, 0), (18, 400), (0, x3)] [] m r) ∧ (¬ ian (m 500 x3) 63 = 37 → (ian (m 500 x3) 63 = 38 → Ev (d + 1) K_Lw 2 909 [(50, 500), (17, 0), (18, 400), (0, x3)] [] m r) ∧ (¬ ian (m 500 x3) 63 = 38 → (ian (m 500 x3) 63 = 39 → Ev (d + 1) K_Lw 2 926 [(50, 500), (17, 0), (18, 400), (0, x3)] [] m r) ∧ (¬ ian (m 500 x3) 63 = 39 → (ian (m 500 x3) 63 = 40 → Ev (d + 1) K_Lw 2 953 [(50, 500), (17, 0), (18, 400), (0, x3)] [] m r) ∧ (¬ ian (m 500 x3) 63 = 40 → (ian (m 500 x3) 63 = 41 → Ev (d + 1) K_Lw 2 960 [(50, 500), (17, 0), (18, 400), (0, x3)] [] m r) ∧ (¬ ian (m 500 x3) 63 = 41 → (ian (m 500 x3) 63 = 42 → Ev (d + 1) K_Lw 2 977 [(50, 500), (17, 0), (18, 400), (0, x3)] [] m r) ∧ (¬ ian (m 500 x3) 63 = 42 → (ian (m 500 x3) 63 = 43 → Ev (d + 1) K_Lw 2 994 [(50, 500), (17, 0), (18, 400), (0, x3)] [] m r) ∧ (¬ ian (m 500 x3) 63 = 43 → (ian (m 500 x3) 63 = 44 → Ev (d + 1) K_Lw 2 1021 [(50, 500), (17, 0), (18, 400), (0, x3)] [] m r) ∧ (¬ ian (m 500 x3) 63 = 44 → (ian (m 500 x3) 63 = 45 → Ev (d + 1) K_Lw 2 1028 [(50, 500), (17, 0), (18, 400), (0, x3)] [] m r) ∧ (¬ ian (m 500 x3) 63 = 45 → (ian (m 500 x3) 63 = 46 → Ev (d + 1) K_Lw 2 1035 [(50, 500), (17, 0), (18, 400), (0, x3)] [] m r) ∧ (¬ ian (m 500 x3) 63 = 46 → (ian (m 500 x3) 63 = 47 → Ev (d + 1) K_Lw 2 1052 [(50, 500), (17, 0), (18, 400), (0, x3)] [] m r) ∧ (¬ ian (m 500 x3) 63 = 47 → (ian (m 500 x3) 63 = 48 → Ev (d + 1) K_Lw 2 1059 [(50, 500), (17, 0), (18, 400), (0, x3)] [] m r) ∧ (¬ ian (m 500 x3) 63 = 48 → (ian (m 500 x3) 63 = 49 → Ev (d + 1) K_Lw 2 1066 [(50, 500), (17, 0), (18, 400), (0, x3)] [] m r) ∧ (¬ ian (m 500 x3) 63 = 49 → Ev (d + 1) K_Lw 2 1083 [(50, 500), (17, 0), (18, 400), (0, x3)] [] m r))))))))))))))))))))))))))))))))))))))))))))))))))))) : Ev (d + 1) K_Lw 2 2 [(50, 500), (17, 0), (18, 400), (0, x3)] [] m r := by
  refine Ev_rn (q := (7, [(50, 500), (17, 0), (18, 400), (0, x3)], [(0, w32 ((m 500 (-1)) - 6)), (0, x3)], m)) 5 rfl ?_
  refine Ev_icmp rfl (fun hc => ?_) (fun hc => ?_)
  · replace h := h.1 hc
    refine Ev_rn (q := (1086, [(50, 500), (17, 0), (18, 400), (0, x3)], [(0, 1)], m)) 1 rfl ?_
    exact Ev_zret rfl rfl (by decide) h
  · replace h := h.2 hc
    refine Ev_rn (q := (10, [(50, 500), (17, 0), (18, 400), (0, x3)], [(0, x3), (50, 500)], m)) 2 rfl ?_
    obtain ⟨hc, h⟩ := h
    refine Ev_scr rfl hc ?_
    refine Ev_rn (q := (13, [(50, 500), (17, 0), (18, 400), (0, x3)], [(0, ian (m 500 x3) 63)], m)) 2 rfl ?_
    refine Ev_tsw rfl ?_
    refine ⟨fun hc => ?_, fun hc => ?_⟩
    · replace h := h.1 hc
      exact h
    · replace h := h.2 hc
      refine ⟨fun hc => ?_, fun hc => ?_⟩
      · replace h := h.1 hc
        exact h
      · replace h := h.2 hc
        refine ⟨fun hc => ?_, fun hc => ?_⟩
        · replace h := h.1 hc
          exact h
        · replace h := h.2 hc
          refine ⟨fun hc => ?_, fun hc => ?_⟩
          · replace h := h.1 hc
            exact h
          · replace h := h.2 hc
            refine ⟨fun hc => ?_, fun hc => ?_⟩
            · replace h := h.1 hc
              exact h
            · replace h := h.2 hc
              refine ⟨fun hc => ?_, fun hc => ?_⟩
              · replace h := h.1 hc
                exact h
              · replace h := h.2 hc
                refine ⟨fun hc => ?_, fun hc => ?_⟩
                · replace h := h.1 hc
                  exact h
                · replace h := h.2 hc
                  refine ⟨fun hc => ?_, fun hc => ?_⟩
                  · replace h := h.1 hc
                    exact h
                  · replace h := h.2 hc
                    refine ⟨fun hc => ?_, fun hc => ?_⟩
                    · replace h := h.1 hc
                      exact h
                    · replace h := h.2 hc
                      refine ⟨fun hc => ?_, fun hc => ?_⟩
                      · replace h := h.1 hc
                        exact h
                      · replace h := h.2 hc
                        refine ⟨fun hc => ?_, fun hc => ?_⟩
                        · replace h := h.1 hc
                          exact h
                        · replace h := h.2 hc
                          refine ⟨fun hc => ?_, fun hc => ?_⟩
                          · replace h := h.1 hc
                            exact h
                          · replace h := h.2 hc
                            refine ⟨fun hc => ?_, fun hc => ?_⟩
                            · replace h := h.1 hc
                              exact h
                            · replace h := h.2 hc
                              refine ⟨fun hc => ?_, fun hc => ?_⟩
                              · replace h := h.1 hc
                                exact h
                              · replace h := h.2 hc
                                refine ⟨fun hc => ?_, fun hc => ?_⟩
                                · replace h := h.1 hc
                                  exact h
                                · replace h := h.2 hc
                                  refine ⟨fun hc => ?_, fun hc => ?_⟩
                                  · replace h := h.1 hc
                                    exact h
                                  · replace h := h.2 hc
                                    refine ⟨fun hc => ?_, fun hc => ?_⟩
                                    · replace h := h.1 hc
                                      exact h
                                    · replace h := h.2 hc
                                      refine ⟨fun hc => ?_, fun hc => ?_⟩
                                      · replace h := h.1 hc
                                        exact h
                                      · replace h := h.2 hc
                                        refine ⟨fun hc => ?_, fun hc => ?_⟩
                                        · replace h := h.1 hc
                                          exact h
                                        · replace h := h.2 hc
                                          refine ⟨fun hc => ?_, fun hc => ?_⟩
                                          · replace h := h.1 hc
                                            exact h
                                          · replace h := h.2 hc
                                            refine ⟨fun hc => ?_, fun hc => ?_⟩
                                            · replace h := h.1 hc
                                              exact h
                                            · replace h := h.2 hc
                                              refine ⟨fun hc => ?_, fun hc => ?_⟩
                                              · replace h := h.1 hc
                                                exact h
                                              · replace h := h.2 hc
                                                refine ⟨fun hc => ?_, fun hc => ?_⟩
                                                · replace h := h.1 hc
                                                  exact h
                                                · replace h := h.2 hc
                                                  refine ⟨fun hc => ?_, fun hc => ?_⟩
                                                  · replace h := h.1 hc
                                                    exact h
                                                  · replace h := h.2 hc
                                                    refine ⟨fun hc => ?_, fun hc => ?_⟩
                                                    · replace h := h.1 hc
                                                      exact h
                                                    · replace h := h.2 hc
                                                      refine ⟨fun hc => ?_, fun hc => ?_⟩
                                                      · replace h := h.1 hc
                                                        exact h
                                                      · replace h := h.2 hc
                                                        refine ⟨fun hc => ?_, fun hc => ?_⟩
                                                        · replace h := h.1 hc
                                                          exact h
                                                        · replace h := h.2 hc
                                                          refine ⟨fun hc => ?_, fun hc => ?_⟩
                                                          · replace h := h.1 hc
                                                            exact h
                                                          · replace h := h.2 hc
                                                            refine ⟨fun hc => ?_, fun hc => ?_⟩
                                                            · replace h := h.1 hc
                                                              exact h
                                                            · replace h := h.2 hc
                                                              refine ⟨fun hc => ?_, fun hc => ?_⟩
                                                              · replace h := h.1 hc
                                                                exact h
                                                              · replace h := h.2 hc
                                                                refine ⟨fun hc => ?_, fun hc => ?_⟩
                                                                · replace h := h.1 hc
                                                                  exact h
                                                                · replace h := h.2 hc
                                                                  refine ⟨fun hc => ?_, fun hc => ?_⟩
                                                                  · replace h := h.1 hc
                                                                    exact h
                                                                  · replace h := h.2 hc
                                                                    refine ⟨fun hc => ?_, fun hc => ?_⟩
                                                                    · replace h := h.1 hc
                                                                      exact h
                                                                    · replace h := h.2 hc
                                                                      refine ⟨fun hc => ?_, fun hc => ?_⟩
                                                                      · replace h := h.1 hc
                                                                        exact h
                                                                      · replace h := h.2 hc
                                                                        refine ⟨fun hc => ?_, fun hc => ?_⟩
                                                                        · replace h := h.1 hc
                                                                          exact h
                                                                        · replace h := h.2 hc
                                                                          refine ⟨fun hc => ?_, fun hc => ?_⟩
                                                                          · replace h := h.1 hc
                                                                            exact h
                                                                          · replace h := h.2 hc
                                                                            refine ⟨fun hc => ?_, fun hc => ?_⟩
                                                                            · replace h := h.1 hc
                                                                              exact h
                                                                            · replace h := h.2 hc
                                                                              refine ⟨fun hc => ?_, fun hc => ?_⟩
                                                                              · replace h := h.1 hc
                                                                                exact h
                                                                              · replace h := h.2 hc
                                                                                refine ⟨fun hc => ?_, fun hc => ?_⟩
                                                                                · replace h := h.1 hc
                                                                                  exact h
                                                                                · replace h := h.2 hc
                                                                                  refine ⟨fun hc => ?_, fun hc => ?_⟩
                                                                                  · replace h := h.1 hc
                                                                                    exact h
                                                                                  · replace h := h.2 hc
                                                                                    refine ⟨fun hc => ?_, fun hc => ?_⟩
                                                                                    · replace h := h.1 hc
                                                                                      exact h
                                                                                    · replace h := h.2 hc
                                                                                      refine ⟨fun hc => ?_, fun hc => ?_⟩
                                                                                      · replace h := h.1 hc
                                                                                        exact h
                                                                                      · replace h := h.2 hc
                                                                                        refine ⟨fun hc => ?_, fun hc => ?_⟩
                                                                                        · replace h := h.1 hc
                                                                                          exact h
                                                                                        · replace h := h.2 hc
                                                                                          refine ⟨fun hc => ?_, fun hc => ?_⟩
                                                                                          · replace h := h.1 hc
                                                                                            exact h
                                                                                          · replace h := h.2 hc
                                                                                            refine ⟨fun hc => ?_, fun hc => ?_⟩
                                                                                            · replace h := h.1 hc
                                                                                              exact h
                                                                                            · replace h := h.2 hc
                                                                                              refine ⟨fun hc => ?_, fun hc => ?_⟩
                                                                                              · replace h := h.1 hc
                                                                                                exact h
                                                                                              · replace h := h.2 hc
                                                                                                refine ⟨fun hc => ?_, fun hc => ?_⟩
                                                                                                · replace h := h.1 hc
                                                                                                  exact h
                                                                                                · replace h := h.2 hc
                                                                                                  refine ⟨fun hc => ?_, fun hc => ?_⟩
                                                                                                  · replace h := h.1 hc
                                                                                                    exact h
                                                                                                  · replace h := h.2 hc
                                                                                                    refine ⟨fun hc => ?_, fun hc => ?_⟩
                                                                                                    · replace h := h.1 hc
                                                                                                      exact h
                                                                                                    · replace h := h.2 hc
                                                                                                      refine ⟨fun hc => ?_, fun hc => ?_⟩
                                                                                                      · replace h := h.1 hc
                                                                                                        exact h
                                                                                                      · replace h := h.2 hc
                                                                                                        exact h
set_option maxRecDepth 100000 in
theorem b_Lw_14 {d : Nat} {r : Option Vv × Mm} {m : Mm} {x3 : Int} (h : (0 ≤ w32 (x3 + 1) ∧ w32 (x3 + 1) < m 500 (-1)) ∧ ((0 ≤ w32 (x3 + 2) ∧ w32 (x3 + 2) < m 500 (-1)) ∧ (∃ (v1 : Int) (m1 : Mm), Cl d k_Th_hand [(17, 0), (0, m 500 (w32 (x3 + 1))), (0, m 500 (w32 (x3 + 2)))] m (some (0, v1), m1) ∧ ((0 ≤ w32 (x3 + 1) ∧ w32 (x3 + 1) < m1 500 (-1)) ∧ ((0 ≤ w32 (x3 + 2) ∧ w32 (x3 + 2) < m1 500 (-1)) ∧ (∃ (v2 : Int) (m2 : Mm), Cl d k_Mo_hand [(18, 400), (0, m1 500 (w32 (x3 + 1))), (0, m1 500 (w32 (x3 + 2)))] m1 (some (0, v2), m2) ∧ ((v1 = v2 → Ev (d + 1) K_Lw 2 1083 [(50, 500), (17, 0), (18, 400), (0, x3)] [] m2 r) ∧ (¬ (v1 = v2) → r = (some (0, 0), m2))))))))) : Ev (d + 1) K_Lw 2 14 [(50, 500), (17, 0), (18, 400), (0, x3)] [] m r := by
  refine Ev_rn (q := (19, [(50, 500), (17, 0), (18, 400), (0, x3)], [(0, w32 (x3 + 1)), (50, 500), (17, 0)], m)) 5 rfl ?_
  obtain ⟨hc, h⟩ := h
  refine Ev_scr rfl hc ?_
  refine Ev_rn (q := (24, [(50, 500), (17, 0), (18, 400), (0, x3)], [(0, w32 (x3 + 2)), (50, 500), (0, m 500 (w32 (x3 + 1))), (17, 0)], m)) 4 rfl ?_
  obtain ⟨hc, h⟩ := h
  refine Ev_scr rfl hc ?_
  obtain ⟨v1, m1, hc, h⟩ := h
  refine Ev_call (rest := []) rfl rfl (Nat.le_of_ble_eq_true rfl) hc ?_
  refine Ev_rn (q := (31, [(50, 500), (17, 0), (18, 400), (0, x3)], [(0, w32 (x3 + 1)), (50, 500), (18, 400), (0, v1)], m1)) 5 rfl ?_
  obtain ⟨hc, h⟩ := h
  refine Ev_scr rfl hc ?_
  refine Ev_rn (q := (36, [(50, 500), (17, 0), (18, 400), (0, x3)], [(0, w32 (x3 + 2)), (50, 500), (0, m1 500 (w32 (x3 + 1))), (18, 400), (0, v1)], m1)) 4 rfl ?_
  obtain ⟨hc, h⟩ := h
  refine Ev_scr rfl hc ?_
  obtain ⟨v2, m2, hc, h⟩ := h
  refine Ev_call (rest := [(0, v1)]) rfl rfl (Nat.le_of_ble_eq_true rfl) hc ?_
  refine Ev_icmp rfl (fun hc => ?_) (fun hc => ?_)
  · replace h := h.1 hc
    exact h
  · replace h := h.2 hc
    refine Ev_rn (q := (40, [(50, 500), (17, 0), (18, 400), (0, x3)], [(0, 0)], m2)) 1 rfl ?_
    exact Ev_zret rfl rfl (by decide) h
set_option maxRecDepth 100000 in
theorem b_Lw_41 {d : Nat} {r : Option Vv × Mm} {m : Mm} {x3 : Int} (h : (0 ≤ w32 (x3 + 1) ∧ w32 (x3 + 1) < m 500 (-1)) ∧ ((0 ≤ w32 (x3 + 2) ∧ w32 (x3 + 2) < m 500 (-1)) ∧ (∃ (v1 : Int) (m1 : Mm), Cl d k_Th_cow [(17, 0), (0, m 500 (w32 (x3 + 1))), (0, m 500 (w32 (x3 + 2)))] m (some (0, v1), m1) ∧ ((0 ≤ w32 (x3 + 1) ∧ w32 (x3 + 1) < m1 500 (-1)) ∧ ((0 ≤ w32 (x3 + 2) ∧ w32 (x3 + 2) < m1 500 (-1)) ∧ (∃ (v2 : Int) (m2 : Mm), Cl d k_Mo_cow [(18, 400), (0, m1 500 (w32 (x3 + 1))), (0, m1 500 (w32 (x3 + 2)))] m1 (some (0, v2), m2) ∧ ((v1 = v2 → Ev (d + 1) K_Lw 2 1083 [(50, 500), (17, 0), (18, 400), (0, x3)] [] m2 r) ∧ (¬ (v1 = v2) → r = (some (0, 0), m2))))))))) : Ev (d + 1) K_Lw 2 41 [(50, 500), (17, 0), (18, 400), (0, x3)] [] m r := by
  refine Ev_rn (q := (46, [(50, 500), (17, 0), (18, 400), (0, x3)], [(0, w32 (x3 + 1)), (50, 500), (17, 0)], m)) 5 rfl ?_
  obtain ⟨hc, h⟩ := h
  refine Ev_scr rfl hc ?_
  refine Ev_rn (q := (51, [(50, 500), (17, 0), (18, 400), (0, x3)], [(0, w32 (x3 + 2)), (50, 500), (0, m 500 (w32 (x3 + 1))), (17, 0)], m)) 4 rfl ?_
  obtain ⟨hc, h⟩ := h
  refine Ev_scr rfl hc ?_
  obtain ⟨v1, m1, hc, h⟩ := h
  refine Ev_call (rest := []) rfl rfl (Nat.le_of_ble_eq_true rfl) hc ?_
  refine Ev_rn (q := (58, [(50, 500), (17, 0), (18, 400), (0, x3)], [(0, w32 (x3 + 1)), (50, 500), (18, 400), (0, v1)], m1)) 5 rfl ?_
  obtain ⟨hc, h⟩ := h
  refine Ev_scr rfl hc ?_
  refine Ev_rn (q := (63, [(50, 500), (17, 0), (18, 400), (0, x3)], [(0, w32 (x3 + 2)), (50, 500), (0, m1 500 (w32 (x3 + 1))), (18, 400), (0, v1)], m1)) 4 rfl ?_
  obtain ⟨hc, h⟩ := h
  refine Ev_scr rfl hc ?_
  obtain ⟨v2, m2, hc, h⟩ := h
  refine Ev_call (rest := [(0, v1)]) rfl rfl (Nat.le_of_ble_eq_true rfl) hc ?_
  refine Ev_icmp rfl (fun hc => ?_) (fun hc => ?_)
  · replace h := h.1 hc
    exact h
  · replace h := h.2 hc
    refine Ev_rn (q := (67, [(50, 500), (17, 0), (18, 400), (0, x3)], [(0, 0)], m2)) 1 rfl ?_
    exact Ev_zret rfl rfl (by decide) h
set_option maxRecDepth 100000 in
theorem b_Lw_68 {d : Nat} {r : Option Vv × Mm} {m : Mm} {x3 : Int} (h : (0 ≤ w32 (x3 + 1) ∧ w32 (x3 + 1) < m 500 (-1)) ∧ ((0 ≤ w32 (x3 + 2) ∧ w32 (x3 + 2) < m 500 (-1)) ∧ ((m 500 (w32 (x3 + 2)) = 0 → ∃ (v1 : Int) (m1 : Mm), Cl d k_Th_gate [(17, 0), (0, m 500 (w32 (x3 + 1))), (0, 0)] m (some (0, v1), m1) ∧ ((0 ≤ w32 (x3 + 1) ∧ w32 (x3 + 1) < m1 500 (-1)) ∧ ((0 ≤ w32 (x3 + 2) ∧ w32 (x3 + 2) < m1 500 (-1)) ∧ ((m1 500 (w32 (x3 + 2)) = 0 → ∃ (v2 : Int) (m2 : Mm), Cl d k_Mo_gate [(18, 400), (0, m1 500 (w32 (x3 + 1))), (0, 0)] m1 (some (0, v2), m2) ∧ ((v1 = v2 → Ev (d + 1) K_Lw 2 1083 [(50, 500), (17, 0), (18, 400), (0, x3)] [] m2 r) ∧ (¬ (v1 = v2) → r = (some (0, 0), m2)))) ∧ (¬ (m1 500 (w32 (x3 + 2)) = 0) → ∃ (v3 : Int) (m3 : Mm), Cl d k_Mo_gate [(18, 400), (0, m1 500 (w32 (x3 + 1))), (0, 1)] m1 (some (0, v3), m3) ∧ ((v1 = v3 → Ev (d + 1) K_Lw 2 1083 [(50, 500), (17, 0), (18, 400), (0, x3)] [] m3 r) ∧ (¬ (v1 = v3) → r = (some (0, 0), m3)))))))) ∧ (¬ (m 500 (w32 (x3 + 2)) = 0) → ∃ (v4 : Int) (m4 : Mm), Cl d k_Th_gate [(17, 0), (0, m 500 (w32 (x3 + 1))), (0, 1)] m (some (0, v4), m4) ∧ ((0 ≤ w32 (x3 + 1) ∧ w32 (x3 + 1) < m4 500 (-1)) ∧ ((0 ≤ w32 (x3 + 2) ∧ w32 (x3 + 2) < m4 500 (-1)) ∧ ((m4 500 (w32 (x3 + 2)) = 0 → ∃ (v5 : Int) (m5 : Mm), Cl d k_Mo_gate [(18, 400), (0, m4 500 (w32 (x3 + 1))), (0, 0)] m4 (some (0, v5), m5) ∧ ((v4 = v5 → Ev (d + 1) K_Lw 2 1083 [(50, 500), (17, 0), (18, 400), (0, x3)] [] m5 r) ∧ (¬ (v4 = v5) → r = (some (0, 0), m5)))) ∧ (¬ (m4 500 (w32 (x3 + 2)) = 0) → ∃ (v6 : Int) (m6 : Mm), Cl d k_Mo_gate [(18, 400), (0, m4 500 (w32 (x3 + 1))), (0, 1)] m4 (some (0, v6), m6) ∧ ((v4 = v6 → Ev (d + 1) K_Lw 2 1083 [(50, 500), (17, 0), (18, 400), (0, x3)] [] m6 r) ∧ (¬ (v4 = v6) → r = (some (0, 0), m6))))))))))) : Ev (d + 1) K_Lw 2 68 [(50, 500), (17, 0), (18, 400), (0, x3)] [] m r := by
  refine Ev_rn (q := (73, [(50, 500), (17, 0), (18, 400), (0, x3)], [(0, w32 (x3 + 1)), (50, 500), (17, 0)], m)) 5 rfl ?_
  obtain ⟨hc, h⟩ := h
  refine Ev_scr rfl hc ?_
  refine Ev_rn (q := (78, [(50, 500), (17, 0), (18, 400), (0, x3)], [(0, w32 (x3 + 2)), (50, 500), (0, m 500 (w32 (x3 + 1))), (17, 0)], m)) 4 rfl ?_
  obtain ⟨hc, h⟩ := h
  refine Ev_scr rfl hc ?_
  refine Ev_if rfl (fun hc => ?_) (fun hc => ?_)
  · replace h := h.1 hc
    refine Ev_rn (q := (83, [(50, 500), (17, 0), (18, 400), (0, x3)], [(0, 0), (0, m 500 (w32 (x3 + 1))), (17, 0)], m)) 1 rfl ?_
    obtain ⟨v1, m1, hc, h⟩ := h
    refine Ev_call (rest := []) rfl rfl (Nat.le_of_ble_eq_true rfl) hc ?_
    refine Ev_rn (q := (89, [(50, 500), (17, 0), (18, 400), (0, x3)], [(0, w32 (x3 + 1)), (50, 500), (18, 400), (0, v1)], m1)) 5 rfl ?_
    obtain ⟨hc, h⟩ := h
    refine Ev_scr rfl hc ?_
    refine Ev_rn (q := (94, [(50, 500), (17, 0), (18, 400), (0, x3)], [(0, w32 (x3 + 2)), (50, 500), (0, m1 500 (w32 (x3 + 1))), (18, 400), (0, v1)], m1)) 4 rfl ?_
    obtain ⟨hc, h⟩ := h
    refine Ev_scr rfl hc ?_
    refine Ev_if rfl (fun hc => ?_) (fun hc => ?_)
    · replace h := h.1 hc
      refine Ev_rn (q := (99, [(50, 500), (17, 0), (18, 400), (0, x3)], [(0, 0), (0, m1 500 (w32 (x3 + 1))), (18, 400), (0, v1)], m1)) 1 rfl ?_
      obtain ⟨v2, m2, hc, h⟩ := h
      refine Ev_call (rest := [(0, v1)]) rfl rfl (Nat.le_of_ble_eq_true rfl) hc ?_
      refine Ev_icmp rfl (fun hc => ?_) (fun hc => ?_)
      · replace h := h.1 hc
        exact h
      · replace h := h.2 hc
        refine Ev_rn (q := (102, [(50, 500), (17, 0), (18, 400), (0, x3)], [(0, 0)], m2)) 1 rfl ?_
        exact Ev_zret rfl rfl (by decide) h
    · replace h := h.2 hc
      refine Ev_rn (q := (99, [(50, 500), (17, 0), (18, 400), (0, x3)], [(0, 1), (0, m1 500 (w32 (x3 + 1))), (18, 400), (0, v1)], m1)) 2 rfl ?_
      obtain ⟨v3, m3, hc, h⟩ := h
      refine Ev_call (rest := [(0, v1)]) rfl rfl (Nat.le_of_ble_eq_true rfl) hc ?_
      refine Ev_icmp rfl (fun hc => ?_) (fun hc => ?_)
      · replace h := h.1 hc
        exact h
      · replace h := h.2 hc
        refine Ev_rn (q := (102, [(50, 500), (17, 0), (18, 400), (0, x3)], [(0, 0)], m3)) 1 rfl ?_
        exact Ev_zret rfl rfl (by decide) h
  · replace h := h.2 hc
    refine Ev_rn (q := (83, [(50, 500), (17, 0), (18, 400), (0, x3)], [(0, 1), (0, m 500 (w32 (x3 + 1))), (17, 0)], m)) 2 rfl ?_
    obtain ⟨v4, m4, hc, h⟩ := h
    refine Ev_call (rest := []) rfl rfl (Nat.le_of_ble_eq_true rfl) hc ?_
    refine Ev_rn (q := (89, [(50, 500), (17, 0), (18, 400), (0, x3)], [(0, w32 (x3 + 1)), (50, 500), (18, 400), (0, v4)], m4)) 5 rfl ?_
    obtain ⟨hc, h⟩ := h
    refine Ev_scr rfl hc ?_
    refine Ev_rn (q := (94, [(50, 500), (17, 0), (18, 400), (0, x3)], [(0, w32 (x3 + 2)), (50, 500), (0, m4 500 (w32 (x3 + 1))), (18, 400), (0, v4)], m4)) 4 rfl ?_
    obtain ⟨hc, h⟩ := h
    refine Ev_scr rfl hc ?_
    refine Ev_if rfl (fun hc => ?_) (fun hc => ?_)
    · replace h := h.1 hc
      refine Ev_rn (q := (99, [(50, 500), (17, 0), (18, 400), (0, x3)], [(0, 0), (0, m4 500 (w32 (x3 + 1))), (18, 400), (0, v4)], m4)) 1 rfl ?_
      obtain ⟨v5, m5, hc, h⟩ := h
      refine Ev_call (rest := [(0, v4)]) rfl rfl (Nat.le_of_ble_eq_true rfl) hc ?_
      refine Ev_icmp rfl (fun hc => ?_) (fun hc => ?_)
      · replace h := h.1 hc
        exact h
      · replace h := h.2 hc
        refine Ev_rn (q := (102, [(50, 500), (17, 0), (18, 400), (0, x3)], [(0, 0)], m5)) 1 rfl ?_
        exact Ev_zret rfl rfl (by decide) h
    · replace h := h.2 hc
      refine Ev_rn (q := (99, [(50, 500), (17, 0), (18, 400), (0, x3)], [(0, 1), (0, m4 500 (w32 (x3 + 1))), (18, 400), (0, v4)], m4)) 2 rfl ?_
      obtain ⟨v6, m6, hc, h⟩ := h
      refine Ev_call (rest := [(0, v4)]) rfl rfl (Nat.le_of_ble_eq_true rfl) hc ?_
      refine Ev_icmp rfl (fun hc => ?_) (fun hc => ?_)
      · replace h := h.1 hc
        exact h
      · replace h := h.2 hc
        refine Ev_rn (q := (102, [(50, 500), (17, 0), (18, 400), (0, x3)], [(0, 0)], m6)) 1 rfl ?_
        exact Ev_zret rfl rfl (by decide) h
set_option maxRecDepth 100000 in
theorem b_Lw_103 {d : Nat} {r : Option Vv × Mm} {m : Mm} {x3 : Int} (h : (0 ≤ w32 (x3 + 1) ∧ w32 (x3 + 1) < m 500 (-1)) ∧ ((0 ≤ w32 (x3 + 2) ∧ w32 (x3 + 2) < m 500 (-1)) ∧ ((0 ≤ w32 (x3 + 3) ∧ w32 (x3 + 3) < m 500 (-1)) ∧ ((0 ≤ w32 (x3 + 4) ∧ w32 (x3 + 4) < m 500 (-1)) ∧ ((0 ≤ w32 (x3 + 5) ∧ w32 (x3 + 5) < m 500 (-1)) ∧ (∃ (v1 : Int) (m1 : Mm), Cl d k_Th_feed [(17, 0), (0, m 500 (w32 (x3 + 1))), (0, m 500 (w32 (x3 + 2))), (0, m 500 (w32 (x3 + 3))), (0, m 500 (w32 (x3 + 4))), (0, m 500 (w32 (x3 + 5)))] m (some (0, v1), m1) ∧ ((0 ≤ w32 (x3 + 1) ∧ w32 (x3 + 1) < m1 500 (-1)) ∧ ((0 ≤ w32 (x3 + 2) ∧ w32 (x3 + 2) < m1 500 (-1)) ∧ ((0 ≤ w32 (x3 + 3) ∧ w32 (x3 + 3) < m1 500 (-1)) ∧ ((0 ≤ w32 (x3 + 4) ∧ w32 (x3 + 4) < m1 500 (-1)) ∧ ((0 ≤ w32 (x3 + 5) ∧ w32 (x3 + 5) < m1 500 (-1)) ∧ (∃ (v2 : Int) (m2 : Mm), Cl d k_Mo_feed [(18, 400), (0, m1 500 (w32 (x3 + 1))), (0, m1 500 (w32 (x3 + 2))), (0, m1 500 (w32 (x3 + 3))), (0, m1 500 (w32 (x3 + 4))), (0, m1 500 (w32 (x3 + 5)))] m1 (some (0, v2), m2) ∧ ((v1 = v2 → Ev (d + 1) K_Lw 2 1083 [(50, 500), (17, 0), (18, 400), (0, x3)] [] m2 r) ∧ (¬ (v1 = v2) → r = (some (0, 0), m2))))))))))))))) : Ev (d + 1) K_Lw 2 103 [(50, 500), (17, 0), (18, 400), (0, x3)] [] m r := by
  refine Ev_rn (q := (108, [(50, 500), (17, 0), (18, 400), (0, x3)], [(0, w32 (x3 + 1)), (50, 500), (17, 0)], m)) 5 rfl ?_
  obtain ⟨hc, h⟩ := h
  refine Ev_scr rfl hc ?_
  refine Ev_rn (q := (113, [(50, 500), (17, 0), (18, 400), (0, x3)], [(0, w32 (x3 + 2)), (50, 500), (0, m 500 (w32 (x3 + 1))), (17, 0)], m)) 4 rfl ?_
  obtain ⟨hc, h⟩ := h
  refine Ev_scr rfl hc ?_
  refine Ev_rn (q := (118, [(50, 500), (17, 0), (18, 400), (0, x3)], [(0, w32 (x3 + 3)), (50, 500), (0, m 500 (w32 (x3 + 2))), (0, m 500 (w32 (x3 + 1))), (17, 0)], m)) 4 rfl ?_
  obtain ⟨hc, h⟩ := h
  refine Ev_scr rfl hc ?_
  refine Ev_rn (q := (123, [(50, 500), (17, 0), (18, 400), (0, x3)], [(0, w32 (x3 + 4)), (50, 500), (0, m 500 (w32 (x3 + 3))), (0, m 500 (w32 (x3 + 2))), (0, m 500 (w32 (x3 + 1))), (17, 0)], m)) 4 rfl ?_
  obtain ⟨hc, h⟩ := h
  refine Ev_scr rfl hc ?_
  refine Ev_rn (q := (128, [(50, 500), (17, 0), (18, 400), (0, x3)], [(0, w32 (x3 + 5)), (50, 500), (0, m 500 (w32 (x3 + 4))), (0, m 500 (w32 (x3 + 3))), (0, m 500 (w32 (x3 + 2))), (0, m 500 (w32 (x3 + 1))), (17, 0)], m)) 4 rfl ?_
  obtain ⟨hc, h⟩ := h
  refine Ev_scr rfl hc ?_
  obtain ⟨v1, m1, hc, h⟩ := h
  refine Ev_call (rest := []) rfl rfl (Nat.le_of_ble_eq_true rfl) hc ?_
  refine Ev_rn (q := (135, [(50, 500), (17, 0), (18, 400), (0, x3)], [(0, w32 (x3 + 1)), (50, 500), (18, 400), (0, v1)], m1)) 5 rfl ?_
  obtain ⟨hc, h⟩ := h
  refine Ev_scr rfl hc ?_
  refine Ev_rn (q := (140, [(50, 500), (17, 0), (18, 400), (0, x3)], [(0, w32 (x3 + 2)), (50, 500), (0, m1 500 (w32 (x3 + 1))), (18, 400), (0, v1)], m1)) 4 rfl ?_
  obtain ⟨hc, h⟩ := h
  refine Ev_scr rfl hc ?_
  refine Ev_rn (q := (145, [(50, 500), (17, 0), (18, 400), (0, x3)], [(0, w32 (x3 + 3)), (50, 500), (0, m1 500 (w32 (x3 + 2))), (0, m1 500 (w32 (x3 + 1))), (18, 400), (0, v1)], m1)) 4 rfl ?_
  obtain ⟨hc, h⟩ := h
  refine Ev_scr rfl hc ?_
  refine Ev_rn (q := (150, [(50, 500), (17, 0), (18, 400), (0, x3)], [(0, w32 (x3 + 4)), (50, 500), (0, m1 500 (w32 (x3 + 3))), (0, m1 500 (w32 (x3 + 2))), (0, m1 500 (w32 (x3 + 1))), (18, 400), (0, v1)], m1)) 4 rfl ?_
  obtain ⟨hc, h⟩ := h
  refine Ev_scr rfl hc ?_
  refine Ev_rn (q := (155, [(50, 500), (17, 0), (18, 400), (0, x3)], [(0, w32 (x3 + 5)), (50, 500), (0, m1 500 (w32 (x3 + 4))), (0, m1 500 (w32 (x3 + 3))), (0, m1 500 (w32 (x3 + 2))), (0, m1 500 (w32 (x3 + 1))), (18, 400), (0, v1)], m1)) 4 rfl ?_
  obtain ⟨hc, h⟩ := h
  refine Ev_scr rfl hc ?_
  obtain ⟨v2, m2, hc, h⟩ := h
  refine Ev_call (rest := [(0, v1)]) rfl rfl (Nat.le_of_ble_eq_true rfl) hc ?_
  refine Ev_icmp rfl (fun hc => ?_) (fun hc => ?_)
  · replace h := h.1 hc
    exact h
  · replace h := h.2 hc
    refine Ev_rn (q := (159, [(50, 500), (17, 0), (18, 400), (0, x3)], [(0, 0)], m2)) 1 rfl ?_
    exact Ev_zret rfl rfl (by decide) h
set_option maxRecDepth 100000 in
theorem b_Lw_160 {d : Nat} {r : Option Vv × Mm} {m : Mm} {x3 : Int} (h : (0 ≤ w32 (x3 + 1) ∧ w32 (x3 + 1) < m 500 (-1)) ∧ (∃ (v1 : Int) (m1 : Mm), Cl d k_Th_end [(17, 0), (0, m 500 (w32 (x3 + 1)))] m (some (0, v1), m1) ∧ ((0 ≤ w32 (x3 + 1) ∧ w32 (x3 + 1) < m1 500 (-1)) ∧ (∃ (v2 : Int) (m2 : Mm), Cl d k_Mo_end [(18, 400), (0, m1 500 (w32 (x3 + 1)))] m1 (some (0, v2), m2) ∧ ((v1 = v2 → Ev (d + 1) K_Lw 2 1083 [(50, 500), (17, 0), (18, 400), (0, x3)] [] m2 r) ∧ (¬ (v1 = v2) → r = (some (0, 0), m2))))))) : Ev (d + 1) K_Lw 2 160 [(50, 500), (17, 0), (18, 400), (0, x3)] [] m r := by
  refine Ev_rn (q := (165, [(50, 500), (17, 0), (18, 400), (0, x3)], [(0, w32 (x3 + 1)), (50, 500), (17, 0)], m)) 5 rfl ?_
  obtain ⟨hc, h⟩ := h
  refine Ev_scr rfl hc ?_
  obtain ⟨v1, m1, hc, h⟩ := h
  refine Ev_call (rest := []) rfl rfl (Nat.le_of_ble_eq_true rfl) hc ?_
  refine Ev_rn (q := (172, [(50, 500), (17, 0), (18, 400), (0, x3)], [(0, w32 (x3 + 1)), (50, 500), (18, 400), (0, v1)], m1)) 5 rfl ?_
  obtain ⟨hc, h⟩ := h
  refine Ev_scr rfl hc ?_
  obtain ⟨v2, m2, hc, h⟩ := h
  refine Ev_call (rest := [(0, v1)]) rfl rfl (Nat.le_of_ble_eq_true rfl) hc ?_
  refine Ev_icmp rfl (fun hc => ?_) (fun hc => ?_)
  · replace h := h.1 hc
    exact h
  · replace h := h.2 hc
    refine Ev_rn (q := (176, [(50, 500), (17, 0), (18, 400), (0, x3)], [(0, 0)], m2)) 1 rfl ?_
    exact Ev_zret rfl rfl (by decide) h
set_option maxRecDepth 100000 in
theorem b_Lw_177 {d : Nat} {r : Option Vv × Mm} {m : Mm} {x3 : Int} (h : ∃ (v1 : Int) (m1 : Mm), Cl d k_Th_text [(17, 0)] m (some (0, v1), m1) ∧ (∃ (v2 : Int) (m2 : Mm), Cl d k_Mo_text [(18, 400)] m1 (some (0, v2), m2) ∧ ((v1 = v2 → Ev (d + 1) K_Lw 2 1083 [(50, 500), (17, 0), (18, 400), (0, x3)] [] m2 r) ∧ (¬ (v1 = v2) → r = (some (0, 0), m2))))) : Ev (d + 1) K_Lw 2 177 [(50, 500), (17, 0), (18, 400), (0, x3)] [] m r := by
  refine Ev_rn (q := (178, [(50, 500), (17, 0), (18, 400), (0, x3)], [(17, 0)], m)) 1 rfl ?_
  obtain ⟨v1, m1, hc, h⟩ := h
  refine Ev_call (rest := []) rfl rfl (Nat.le_of_ble_eq_true rfl) hc ?_
  refine Ev_rn (q := (180, [(50, 500), (17, 0), (18, 400), (0, x3)], [(18, 400), (0, v1)], m1)) 1 rfl ?_
  obtain ⟨v2, m2, hc, h⟩ := h
  refine Ev_call (rest := [(0, v1)]) rfl rfl (Nat.le_of_ble_eq_true rfl) hc ?_
  refine Ev_icmp rfl (fun hc => ?_) (fun hc => ?_)
  · replace h := h.1 hc
    exact h
  · replace h := h.2 hc
    refine Ev_rn (q := (183, [(50, 500), (17, 0), (18, 400), (0, x3)], [(0, 0)], m2)) 1 rfl ?_
    exact Ev_zret rfl rfl (by decide) h
set_option maxRecDepth 100000 in
theorem b_Lw_184 {d : Nat} {r : Option Vv × Mm} {m : Mm} {x3 : Int} (h : (0 ≤ w32 (x3 + 1) ∧ w32 (x3 + 1) < m 500 (-1)) ∧ (∃ (v1 : Int) (m1 : Mm), Cl d k_Th_fault [(17, 0), (0, m 500 (w32 (x3 + 1)))] m (some (0, v1), m1) ∧ ((0 ≤ w32 (x3 + 1) ∧ w32 (x3 + 1) < m1 500 (-1)) ∧ (∃ (v2 : Int) (m2 : Mm), Cl d k_Mo_fault [(18, 400), (0, m1 500 (w32 (x3 + 1)))] m1 (some (0, v2), m2) ∧ ((v1 = v2 → Ev (d + 1) K_Lw 2 1083 [(50, 500), (17, 0), (18, 400), (0, x3)] [] m2 r) ∧ (¬ (v1 = v2) → r = (some (0, 0), m2))))))) : Ev (d + 1) K_Lw 2 184 [(50, 500), (17, 0), (18, 400), (0, x3)] [] m r := by
  refine Ev_rn (q := (189, [(50, 500), (17, 0), (18, 400), (0, x3)], [(0, w32 (x3 + 1)), (50, 500), (17, 0)], m)) 5 rfl ?_
  obtain ⟨hc, h⟩ := h
  refine Ev_scr rfl hc ?_
  obtain ⟨v1, m1, hc, h⟩ := h
  refine Ev_call (rest := []) rfl rfl (Nat.le_of_ble_eq_true rfl) hc ?_
  refine Ev_rn (q := (196, [(50, 500), (17, 0), (18, 400), (0, x3)], [(0, w32 (x3 + 1)), (50, 500), (18, 400), (0, v1)], m1)) 5 rfl ?_
  obtain ⟨hc, h⟩ := h
  refine Ev_scr rfl hc ?_
  obtain ⟨v2, m2, hc, h⟩ := h
  refine Ev_call (rest := [(0, v1)]) rfl rfl (Nat.le_of_ble_eq_true rfl) hc ?_
  refine Ev_icmp rfl (fun hc => ?_) (fun hc => ?_)
  · replace h := h.1 hc
    exact h
  · replace h := h.2 hc
    refine Ev_rn (q := (200, [(50, 500), (17, 0), (18, 400), (0, x3)], [(0, 0)], m2)) 1 rfl ?_
    exact Ev_zret rfl rfl (by decide) h
set_option maxRecDepth 100000 in
theorem b_Lw_201 {d : Nat} {r : Option Vv × Mm} {m : Mm} {x3 : Int} (h : (0 ≤ w32 (x3 + 1) ∧ w32 (x3 + 1) < m 500 (-1)) ∧ (∃ (v1 : Int) (m1 : Mm), Cl d k_Th_by [(17, 0), (0, m 500 (w32 (x3 + 1)))] m (some (0, v1), m1) ∧ ((0 ≤ w32 (x3 + 1) ∧ w32 (x3 + 1) < m1 500 (-1)) ∧ (∃ (v2 : Int) (m2 : Mm), Cl d k_Mo_by [(18, 400), (0, m1 500 (w32 (x3 + 1)))] m1 (some (0, v2), m2) ∧ ((v1 = v2 → Ev (d + 1) K_Lw 2 1083 [(50, 500), (17, 0), (18, 400), (0, x3)] [] m2 r) ∧ (¬ (v1 = v2) → r = (some (0, 0), m2))))))) : Ev (d + 1) K_Lw 2 201 [(50, 500), (17, 0), (18, 400), (0, x3)] [] m r := by
  refine Ev_rn (q := (206, [(50, 500), (17, 0), (18, 400), (0, x3)], [(0, w32 (x3 + 1)), (50, 500), (17, 0)], m)) 5 rfl ?_
  obtain ⟨hc, h⟩ := h
  refine Ev_scr rfl hc ?_
  obtain ⟨v1, m1, hc, h⟩ := h
  refine Ev_call (rest := []) rfl rfl (Nat.le_of_ble_eq_true rfl) hc ?_
  refine Ev_rn (q := (213, [(50, 500), (17, 0), (18, 400), (0, x3)], [(0, w32 (x3 + 1)), (50, 500), (18, 400), (0, v1)], m1)) 5 rfl ?_
  obtain ⟨hc, h⟩ := h
  refine Ev_scr rfl hc ?_
  obtain ⟨v2, m2, hc, h⟩ := h
  refine Ev_call (rest := [(0, v1)]) rfl rfl (Nat.le_of_ble_eq_true rfl) hc ?_
  refine Ev_icmp rfl (fun hc => ?_) (fun hc => ?_)
  · replace h := h.1 hc
    exact h
  · replace h := h.2 hc
    refine Ev_rn (q := (217, [(50, 500), (17, 0), (18, 400), (0, x3)], [(0, 0)], m2)) 1 rfl ?_
    exact Ev_zret rfl rfl (by decide) h
set_option maxRecDepth 100000 in
theorem b_Lw_218 {d : Nat} {r : Option Vv × Mm} {m : Mm} {x3 : Int} (h : (0 ≤ w32 (x3 + 1) ∧ w32 (x3 + 1) < m 500 (-1)) ∧ (∃ (v1 : Int) (m1 : Mm), Cl d k_Th_plant [(17, 0), (0, m 500 (w32 (x3 + 1)))] m (some (0, v1), m1) ∧ ((0 ≤ w32 (x3 + 1) ∧ w32 (x3 + 1) < m1 500 (-1)) ∧ (∃ (v2 : Int) (m2 : Mm), Cl d k_Mo_plant [(18, 400), (0, m1 500 (w32 (x3 + 1)))] m1 (some (0, v2), m2) ∧ ((v1 = v2 → Ev (d + 1) K_Lw 2 1083 [(50, 500), (17, 0), (18, 400), (0, x3)] [] m2 r) ∧ (¬ (v1 = v2) → r = (some (0, 0), m2))))))) : Ev (d + 1) K_Lw 2 218 [(50, 500), (17, 0), (18, 400), (0, x3)] [] m r := by
  refine Ev_rn (q := (223, [(50, 500), (17, 0), (18, 400), (0, x3)], [(0, w32 (x3 + 1)), (50, 500), (17, 0)], m)) 5 rfl ?_
  obtain ⟨hc, h⟩ := h
  refine Ev_scr rfl hc ?_
  obtain ⟨v1, m1, hc, h⟩ := h
  refine Ev_call (rest := []) rfl rfl (Nat.le_of_ble_eq_true rfl) hc ?_
  refine Ev_rn (q := (230, [(50, 500), (17, 0), (18, 400), (0, x3)], [(0, w32 (x3 + 1)), (50, 500), (18, 400), (0, v1)], m1)) 5 rfl ?_
  obtain ⟨hc, h⟩ := h
  refine Ev_scr rfl hc ?_
  obtain ⟨v2, m2, hc, h⟩ := h
  refine Ev_call (rest := [(0, v1)]) rfl rfl (Nat.le_of_ble_eq_true rfl) hc ?_
  refine Ev_icmp rfl (fun hc => ?_) (fun hc => ?_)
  · replace h := h.1 hc
    exact h
  · replace h := h.2 hc
    refine Ev_rn (q := (234, [(50, 500), (17, 0), (18, 400), (0, x3)], [(0, 0)], m2)) 1 rfl ?_
    exact Ev_zret rfl rfl (by decide) h
set_option maxRecDepth 100000 in
theorem b_Lw_235 {d : Nat} {r : Option Vv × Mm} {m : Mm} {x3 : Int} (h : (0 ≤ w32 (x3 + 1) ∧ w32 (x3 + 1) < m 500 (-1)) ∧ (∃ (v1 : Int) (m1 : Mm), Cl d k_Th_cut [(17, 0), (0, m 500 (w32 (x3 + 1)))] m (some (0, v1), m1) ∧ ((0 ≤ w32 (x3 + 1) ∧ w32 (x3 + 1) < m1 500 (-1)) ∧ (∃ (v2 : Int) (m2 : Mm), Cl d k_Mo_cut [(18, 400), (0, m1 500 (w32 (x3 + 1)))] m1 (some (0, v2), m2) ∧ ((v1 = v2 → Ev (d + 1) K_Lw 2 1083 [(50, 500), (17, 0), (18, 400), (0, x3)] [] m2 r) ∧ (¬ (v1 = v2) → r = (some (0, 0), m2))))))) : Ev (d + 1) K_Lw 2 235 [(50, 500), (17, 0), (18, 400), (0, x3)] [] m r := by
  refine Ev_rn (q := (240, [(50, 500), (17, 0), (18, 400), (0, x3)], [(0, w32 (x3 + 1)), (50, 500), (17, 0)], m)) 5 rfl ?_
  obtain ⟨hc, h⟩ := h
  refine Ev_scr rfl hc ?_
  obtain ⟨v1, m1, hc, h⟩ := h
  refine Ev_call (rest := []) rfl rfl (Nat.le_of_ble_eq_true rfl) hc ?_
  refine Ev_rn (q := (247, [(50, 500), (17, 0), (18, 400), (0, x3)], [(0, w32 (x3 + 1)), (50, 500), (18, 400), (0, v1)], m1)) 5 rfl ?_
  obtain ⟨hc, h⟩ := h
  refine Ev_scr rfl hc ?_
  obtain ⟨v2, m2, hc, h⟩ := h
  refine Ev_call (rest := [(0, v1)]) rfl rfl (Nat.le_of_ble_eq_true rfl) hc ?_
  refine Ev_icmp rfl (fun hc => ?_) (fun hc => ?_)
  · replace h := h.1 hc
    exact h
  · replace h := h.2 hc
    refine Ev_rn (q := (251, [(50, 500), (17, 0), (18, 400), (0, x3)], [(0, 0)], m2)) 1 rfl ?_
    exact Ev_zret rfl rfl (by decide) h
set_option maxRecDepth 100000 in
theorem b_Lw_252 {d : Nat} {r : Option Vv × Mm} {m : Mm} {x3 : Int} (h : (0 ≤ w32 (x3 + 1) ∧ w32 (x3 + 1) < m 500 (-1)) ∧ ((0 ≤ w32 (x3 + 2) ∧ w32 (x3 + 2) < m 500 (-1)) ∧ (∃ (v1 : Int) (m1 : Mm), Cl d k_Th_press [(17, 0), (0, m 500 (w32 (x3 + 1))), (0, m 500 (w32 (x3 + 2)))] m (some (0, v1), m1) ∧ ((0 ≤ w32 (x3 + 1) ∧ w32 (x3 + 1) < m1 500 (-1)) ∧ ((0 ≤ w32 (x3 + 2) ∧ w32 (x3 + 2) < m1 500 (-1)) ∧ (∃ (v2 : Int) (m2 : Mm), Cl d k_Mo_press [(18, 400), (0, m1 500 (w32 (x3 + 1))), (0, m1 500 (w32 (x3 + 2)))] m1 (some (0, v2), m2) ∧ ((v1 = v2 → Ev (d + 1) K_Lw 2 1083 [(50, 500), (17, 0), (18, 400), (0, x3)] [] m2 r) ∧ (¬ (v1 = v2) → r = (some (0, 0), m2))))))))) : Ev (d + 1) K_Lw 2 252 [(50, 500), (17, 0), (18, 400), (0, x3)] [] m r := by
  refine Ev_rn (q := (257, [(50, 500), (17, 0), (18, 400), (0, x3)], [(0, w32 (x3 + 1)), (50, 500), (17, 0)], m)) 5 rfl ?_
  obtain ⟨hc, h⟩ := h
  refine Ev_scr rfl hc ?_
  refine Ev_rn (q := (262, [(50, 500), (17, 0), (18, 400), (0, x3)], [(0, w32 (x3 + 2)), (50, 500), (0, m 500 (w32 (x3 + 1))), (17, 0)], m)) 4 rfl ?_
  obtain ⟨hc, h⟩ := h
  refine Ev_scr rfl hc ?_
  obtain ⟨v1, m1, hc, h⟩ := h
  refine Ev_call (rest := []) rfl rfl (Nat.le_of_ble_eq_true rfl) hc ?_
  refine Ev_rn (q := (269, [(50, 500), (17, 0), (18, 400), (0, x3)], [(0, w32 (x3 + 1)), (50, 500), (18, 400), (0, v1)], m1)) 5 rfl ?_
  obtain ⟨hc, h⟩ := h
  refine Ev_scr rfl hc ?_
  refine Ev_rn (q := (274, [(50, 500), (17, 0), (18, 400), (0, x3)], [(0, w32 (x3 + 2)), (50, 500), (0, m1 500 (w32 (x3 + 1))), (18, 400), (0, v1)], m1)) 4 rfl ?_
  obtain ⟨hc, h⟩ := h
  refine Ev_scr rfl hc ?_
  obtain ⟨v2, m2, hc, h⟩ := h
  refine Ev_call (rest := [(0, v1)]) rfl rfl (Nat.le_of_ble_eq_true rfl) hc ?_
  refine Ev_icmp rfl (fun hc => ?_) (fun hc => ?_)
  · replace h := h.1 hc
    exact h
  · replace h := h.2 hc
    refine Ev_rn (q := (278, [(50, 500), (17, 0), (18, 400), (0, x3)], [(0, 0)], m2)) 1 rfl ?_
    exact Ev_zret rfl rfl (by decide) h
set_option maxRecDepth 100000 in
theorem b_Lw_279 {d : Nat} {r : Option Vv × Mm} {m : Mm} {x3 : Int} (h : (0 ≤ w32 (x3 + 1) ∧ w32 (x3 + 1) < m 500 (-1)) ∧ ((0 ≤ w32 (x3 + 2) ∧ w32 (x3 + 2) < m 500 (-1)) ∧ (∃ (v1 : Int) (m1 : Mm), Cl d k_Th_go [(17, 0), (0, m 500 (w32 (x3 + 1))), (0, m 500 (w32 (x3 + 2)))] m (some (0, v1), m1) ∧ ((0 ≤ w32 (x3 + 1) ∧ w32 (x3 + 1) < m1 500 (-1)) ∧ ((0 ≤ w32 (x3 + 2) ∧ w32 (x3 + 2) < m1 500 (-1)) ∧ (∃ (v2 : Int) (m2 : Mm), Cl d k_Mo_go [(18, 400), (0, m1 500 (w32 (x3 + 1))), (0, m1 500 (w32 (x3 + 2)))] m1 (some (0, v2), m2) ∧ ((v1 = v2 → Ev (d + 1) K_Lw 2 1083 [(50, 500), (17, 0), (18, 400), (0, x3)] [] m2 r) ∧ (¬ (v1 = v2) → r = (some (0, 0), m2))))))))) : Ev (d + 1) K_Lw 2 279 [(50, 500), (17, 0), (18, 400), (0, x3)] [] m r := by
  refine Ev_rn (q := (284, [(50, 500), (17, 0), (18, 400), (0, x3)], [(0, w32 (x3 + 1)), (50, 500), (17, 0)], m)) 5 rfl ?_
  obtain ⟨hc, h⟩ := h
  refine Ev_scr rfl hc ?_
  refine Ev_rn (q := (289, [(50, 500), (17, 0), (18, 400), (0, x3)], [(0, w32 (x3 + 2)), (50, 500), (0, m 500 (w32 (x3 + 1))), (17, 0)], m)) 4 rfl ?_
  obtain ⟨hc, h⟩ := h
  refine Ev_scr rfl hc ?_
  obtain ⟨v1, m1, hc, h⟩ := h
  refine Ev_call (rest := []) rfl rfl (Nat.le_of_ble_eq_true rfl) hc ?_
  refine Ev_rn (q := (296, [(50, 500), (17, 0), (18, 400), (0, x3)], [(0, w32 (x3 + 1)), (50, 500), (18, 400), (0, v1)], m1)) 5 rfl ?_
  obtain ⟨hc, h⟩ := h
  refine Ev_scr rfl hc ?_
  refine Ev_rn (q := (301, [(50, 500), (17, 0), (18, 400), (0, x3)], [(0, w32 (x3 + 2)), (50, 500), (0, m1 500 (w32 (x3 + 1))), (18, 400), (0, v1)], m1)) 4 rfl ?_
  obtain ⟨hc, h⟩ := h
  refine Ev_scr rfl hc ?_
  obtain ⟨v2, m2, hc, h⟩ := h
  refine Ev_call (rest := [(0, v1)]) rfl rfl (Nat.le_of_ble_eq_true rfl) hc ?_
  refine Ev_icmp rfl (fun hc => ?_) (fun hc => ?_)
  · replace h := h.1 hc
    exact h
  · replace h := h.2 hc
    refine Ev_rn (q := (305, [(50, 500), (17, 0), (18, 400), (0, x3)], [(0, 0)], m2)) 1 rfl ?_
    exact Ev_zret rfl rfl (by decide) h
set_option maxRecDepth 100000 in
theorem b_Lw_306 {d : Nat} {r : Option Vv × Mm} {m : Mm} {x3 : Int} (h : (0 ≤ w32 (x3 + 1) ∧ w32 (x3 + 1) < m 500 (-1)) ∧ (∃ (v1 : Int) (m1 : Mm), Cl d k_Th_hour [(17, 0), (0, m 500 (w32 (x3 + 1)))] m (some (0, v1), m1) ∧ ((0 ≤ w32 (x3 + 1) ∧ w32 (x3 + 1) < m1 500 (-1)) ∧ (∃ (v2 : Int) (m2 : Mm), Cl d k_Mo_hour [(18, 400), (0, m1 500 (w32 (x3 + 1)))] m1 (some (0, v2), m2) ∧ ((v1 = v2 → Ev (d + 1) K_Lw 2 1083 [(50, 500), (17, 0), (18, 400), (0, x3)] [] m2 r) ∧ (¬ (v1 = v2) → r = (some (0, 0), m2))))))) : Ev (d + 1) K_Lw 2 306 [(50, 500), (17, 0), (18, 400), (0, x3)] [] m r := by
  refine Ev_rn (q := (311, [(50, 500), (17, 0), (18, 400), (0, x3)], [(0, w32 (x3 + 1)), (50, 500), (17, 0)], m)) 5 rfl ?_
  obtain ⟨hc, h⟩ := h
  refine Ev_scr rfl hc ?_
  obtain ⟨v1, m1, hc, h⟩ := h
  refine Ev_call (rest := []) rfl rfl (Nat.le_of_ble_eq_true rfl) hc ?_
  refine Ev_rn (q := (318, [(50, 500), (17, 0), (18, 400), (0, x3)], [(0, w32 (x3 + 1)), (50, 500), (18, 400), (0, v1)], m1)) 5 rfl ?_
  obtain ⟨hc, h⟩ := h
  refine Ev_scr rfl hc ?_
  obtain ⟨v2, m2, hc, h⟩ := h
  refine Ev_call (rest := [(0, v1)]) rfl rfl (Nat.le_of_ble_eq_true rfl) hc ?_
  refine Ev_icmp rfl (fun hc => ?_) (fun hc => ?_)
  · replace h := h.1 hc
    exact h
  · replace h := h.2 hc
    refine Ev_rn (q := (322, [(50, 500), (17, 0), (18, 400), (0, x3)], [(0, 0)], m2)) 1 rfl ?_
    exact Ev_zret rfl rfl (by decide) h
set_option maxRecDepth 100000 in
theorem b_Lw_323 {d : Nat} {r : Option Vv × Mm} {m : Mm} {x3 : Int} (h : (0 ≤ w32 (x3 + 1) ∧ w32 (x3 + 1) < m 500 (-1)) ∧ (∃ (v1 : Int) (m1 : Mm), Cl d k_Th_played [(17, 0), (0, m 500 (w32 (x3 + 1)))] m (some (0, v1), m1) ∧ ((0 ≤ w32 (x3 + 1) ∧ w32 (x3 + 1) < m1 500 (-1)) ∧ (∃ (v2 : Int) (m2 : Mm), Cl d k_Mo_played [(18, 400), (0, m1 500 (w32 (x3 + 1)))] m1 (some (0, v2), m2) ∧ ((v1 = v2 → Ev (d + 1) K_Lw 2 1083 [(50, 500), (17, 0), (18, 400), (0, x3)] [] m2 r) ∧ (¬ (v1 = v2) → r = (some (0, 0), m2))))))) : Ev (d + 1) K_Lw 2 323 [(50, 500), (17, 0), (18, 400), (0, x3)] [] m r := by
  refine Ev_rn (q := (328, [(50, 500), (17, 0), (18, 400), (0, x3)], [(0, w32 (x3 + 1)), (50, 500), (17, 0)], m)) 5 rfl ?_
  obtain ⟨hc, h⟩ := h
  refine Ev_scr rfl hc ?_
  obtain ⟨v1, m1, hc, h⟩ := h
  refine Ev_call (rest := []) rfl rfl (Nat.le_of_ble_eq_true rfl) hc ?_
  refine Ev_rn (q := (335, [(50, 500), (17, 0), (18, 400), (0, x3)], [(0, w32 (x3 + 1)), (50, 500), (18, 400), (0, v1)], m1)) 5 rfl ?_
  obtain ⟨hc, h⟩ := h
  refine Ev_scr rfl hc ?_
  obtain ⟨v2, m2, hc, h⟩ := h
  refine Ev_call (rest := [(0, v1)]) rfl rfl (Nat.le_of_ble_eq_true rfl) hc ?_
  refine Ev_icmp rfl (fun hc => ?_) (fun hc => ?_)
  · replace h := h.1 hc
    exact h
  · replace h := h.2 hc
    refine Ev_rn (q := (339, [(50, 500), (17, 0), (18, 400), (0, x3)], [(0, 0)], m2)) 1 rfl ?_
    exact Ev_zret rfl rfl (by decide) h
set_option maxRecDepth 100000 in
theorem b_Lw_340 {d : Nat} {r : Option Vv × Mm} {m : Mm} {x3 : Int} (h : (0 ≤ w32 (x3 + 1) ∧ w32 (x3 + 1) < m 500 (-1)) ∧ ((0 ≤ w32 (x3 + 2) ∧ w32 (x3 + 2) < m 500 (-1)) ∧ (∃ (v1 : Int) (m1 : Mm), Cl d k_Th_years [(17, 0), (0, m 500 (w32 (x3 + 1))), (0, m 500 (w32 (x3 + 2)))] m (some (0, v1), m1) ∧ ((0 ≤ w32 (x3 + 1) ∧ w32 (x3 + 1) < m1 500 (-1)) ∧ ((0 ≤ w32 (x3 + 2) ∧ w32 (x3 + 2) < m1 500 (-1)) ∧ (∃ (v2 : Int) (m2 : Mm), Cl d k_Mo_years [(18, 400), (0, m1 500 (w32 (x3 + 1))), (0, m1 500 (w32 (x3 + 2)))] m1 (some (0, v2), m2) ∧ ((v1 = v2 → Ev (d + 1) K_Lw 2 1083 [(50, 500), (17, 0), (18, 400), (0, x3)] [] m2 r) ∧ (¬ (v1 = v2) → r = (some (0, 0), m2))))))))) : Ev (d + 1) K_Lw 2 340 [(50, 500), (17, 0), (18, 400), (0, x3)] [] m r := by
  refine Ev_rn (q := (345, [(50, 500), (17, 0), (18, 400), (0, x3)], [(0, w32 (x3 + 1)), (50, 500), (17, 0)], m)) 5 rfl ?_
  obtain ⟨hc, h⟩ := h
  refine Ev_scr rfl hc ?_
  refine Ev_rn (q := (350, [(50, 500), (17, 0), (18, 400), (0, x3)], [(0, w32 (x3 + 2)), (50, 500), (0, m 500 (w32 (x3 + 1))), (17, 0)], m)) 4 rfl ?_
  obtain ⟨hc, h⟩ := h
  refine Ev_scr rfl hc ?_
  obtain ⟨v1, m1, hc, h⟩ := h
  refine Ev_call (rest := []) rfl rfl (Nat.le_of_ble_eq_true rfl) hc ?_
  refine Ev_rn (q := (357, [(50, 500), (17, 0), (18, 400), (0, x3)], [(0, w32 (x3 + 1)), (50, 500), (18, 400), (0, v1)], m1)) 5 rfl ?_
  obtain ⟨hc, h⟩ := h
  refine Ev_scr rfl hc ?_
  refine Ev_rn (q := (362, [(50, 500), (17, 0), (18, 400), (0, x3)], [(0, w32 (x3 + 2)), (50, 500), (0, m1 500 (w32 (x3 + 1))), (18, 400), (0, v1)], m1)) 4 rfl ?_
  obtain ⟨hc, h⟩ := h
  refine Ev_scr rfl hc ?_
  obtain ⟨v2, m2, hc, h⟩ := h
  refine Ev_call (rest := [(0, v1)]) rfl rfl (Nat.le_of_ble_eq_true rfl) hc ?_
  refine Ev_icmp rfl (fun hc => ?_) (fun hc => ?_)
  · replace h := h.1 hc
    exact h
  · replace h := h.2 hc
    refine Ev_rn (q := (366, [(50, 500), (17, 0), (18, 400), (0, x3)], [(0, 0)], m2)) 1 rfl ?_
    exact Ev_zret rfl rfl (by decide) h
set_option maxRecDepth 100000 in
theorem b_Lw_367 {d : Nat} {r : Option Vv × Mm} {m : Mm} {x3 : Int} (h : ∃ (v1 : Int) (m1 : Mm), Cl d k_Th_undo [(17, 0)] m (some (0, v1), m1) ∧ (∃ (v2 : Int) (m2 : Mm), Cl d k_Mo_undo [(18, 400)] m1 (some (0, v2), m2) ∧ ((v1 = v2 → Ev (d + 1) K_Lw 2 1083 [(50, 500), (17, 0), (18, 400), (0, x3)] [] m2 r) ∧ (¬ (v1 = v2) → r = (some (0, 0), m2))))) : Ev (d + 1) K_Lw 2 367 [(50, 500), (17, 0), (18, 400), (0, x3)] [] m r := by
  refine Ev_rn (q := (368, [(50, 500), (17, 0), (18, 400), (0, x3)], [(17, 0)], m)) 1 rfl ?_
  obtain ⟨v1, m1, hc, h⟩ := h
  refine Ev_call (rest := []) rfl rfl (Nat.le_of_ble_eq_true rfl) hc ?_
  refine Ev_rn (q := (370, [(50, 500), (17, 0), (18, 400), (0, x3)], [(18, 400), (0, v1)], m1)) 1 rfl ?_
  obtain ⟨v2, m2, hc, h⟩ := h
  refine Ev_call (rest := [(0, v1)]) rfl rfl (Nat.le_of_ble_eq_true rfl) hc ?_
  refine Ev_icmp rfl (fun hc => ?_) (fun hc => ?_)
  · replace h := h.1 hc
    exact h
  · replace h := h.2 hc
    refine Ev_rn (q := (373, [(50, 500), (17, 0), (18, 400), (0, x3)], [(0, 0)], m2)) 1 rfl ?_
    exact Ev_zret rfl rfl (by decide) h
set_option maxRecDepth 100000 in
theorem b_Lw_374 {d : Nat} {r : Option Vv × Mm} {m : Mm} {x3 : Int} (h : (0 ≤ w32 (x3 + 1) ∧ w32 (x3 + 1) < m 500 (-1)) ∧ ((0 ≤ w32 (x3 + 2) ∧ w32 (x3 + 2) < m 500 (-1)) ∧ (∃ (v1 : Int) (m1 : Mm), Cl d k_Th_of [(17, 0), (0, m 500 (w32 (x3 + 1))), (0, m 500 (w32 (x3 + 2)))] m (some (0, v1), m1) ∧ ((0 ≤ w32 (x3 + 1) ∧ w32 (x3 + 1) < m1 500 (-1)) ∧ ((0 ≤ w32 (x3 + 2) ∧ w32 (x3 + 2) < m1 500 (-1)) ∧ (∃ (v2 : Int) (m2 : Mm), Cl d k_Mo_of [(18, 400), (0, m1 500 (w32 (x3 + 1))), (0, m1 500 (w32 (x3 + 2)))] m1 (some (0, v2), m2) ∧ ((v1 = v2 → Ev (d + 1) K_Lw 2 1083 [(50, 500), (17, 0), (18, 400), (0, x3)] [] m2 r) ∧ (¬ (v1 = v2) → r = (some (0, 0), m2))))))))) : Ev (d + 1) K_Lw 2 374 [(50, 500), (17, 0), (18, 400), (0, x3)] [] m r := by
  refine Ev_rn (q := (379, [(50, 500), (17, 0), (18, 400), (0, x3)], [(0, w32 (x3 + 1)), (50, 500), (17, 0)], m)) 5 rfl ?_
  obtain ⟨hc, h⟩ := h
  refine Ev_scr rfl hc ?_
  refine Ev_rn (q := (384, [(50, 500), (17, 0), (18, 400), (0, x3)], [(0, w32 (x3 + 2)), (50, 500), (0, m 500 (w32 (x3 + 1))), (17, 0)], m)) 4 rfl ?_
  obtain ⟨hc, h⟩ := h
  refine Ev_scr rfl hc ?_
  obtain ⟨v1, m1, hc, h⟩ := h
  refine Ev_call (rest := []) rfl rfl (Nat.le_of_ble_eq_true rfl) hc ?_
  refine Ev_rn (q := (391, [(50, 500), (17, 0), (18, 400), (0, x3)], [(0, w32 (x3 + 1)), (50, 500), (18, 400), (0, v1)], m1)) 5 rfl ?_
  obtain ⟨hc, h⟩ := h
  refine Ev_scr rfl hc ?_
  refine Ev_rn (q := (396, [(50, 500), (17, 0), (18, 400), (0, x3)], [(0, w32 (x3 + 2)), (50, 500), (0, m1 500 (w32 (x3 + 1))), (18, 400), (0, v1)], m1)) 4 rfl ?_
  obtain ⟨hc, h⟩ := h
  refine Ev_scr rfl hc ?_
  obtain ⟨v2, m2, hc, h⟩ := h
  refine Ev_call (rest := [(0, v1)]) rfl rfl (Nat.le_of_ble_eq_true rfl) hc ?_
  refine Ev_icmp rfl (fun hc => ?_) (fun hc => ?_)
  · replace h := h.1 hc
    exact h
  · replace h := h.2 hc
    refine Ev_rn (q := (400, [(50, 500), (17, 0), (18, 400), (0, x3)], [(0, 0)], m2)) 1 rfl ?_
    exact Ev_zret rfl rfl (by decide) h
set_option maxRecDepth 100000 in
theorem b_Lw_401 {d : Nat} {r : Option Vv × Mm} {m : Mm} {x3 : Int} (h : (0 ≤ w32 (x3 + 1) ∧ w32 (x3 + 1) < m 500 (-1)) ∧ ((0 ≤ w32 (x3 + 2) ∧ w32 (x3 + 2) < m 500 (-1)) ∧ (∃ (v1 : Int) (m1 : Mm), Cl d k_Th_cell [(17, 0), (0, m 500 (w32 (x3 + 1))), (0, m 500 (w32 (x3 + 2)))] m (some (0, v1), m1) ∧ ((0 ≤ w32 (x3 + 1) ∧ w32 (x3 + 1) < m1 500 (-1)) ∧ ((0 ≤ w32 (x3 + 2) ∧ w32 (x3 + 2) < m1 500 (-1)) ∧ (∃ (v2 : Int) (m2 : Mm), Cl d k_Mo_cell [(18, 400), (0, m1 500 (w32 (x3 + 1))), (0, m1 500 (w32 (x3 + 2)))] m1 (some (0, v2), m2) ∧ ((v1 = v2 → Ev (d + 1) K_Lw 2 1083 [(50, 500), (17, 0), (18, 400), (0, x3)] [] m2 r) ∧ (¬ (v1 = v2) → r = (some (0, 0), m2))))))))) : Ev (d + 1) K_Lw 2 401 [(50, 500), (17, 0), (18, 400), (0, x3)] [] m r := by
  refine Ev_rn (q := (406, [(50, 500), (17, 0), (18, 400), (0, x3)], [(0, w32 (x3 + 1)), (50, 500), (17, 0)], m)) 5 rfl ?_
  obtain ⟨hc, h⟩ := h
  refine Ev_scr rfl hc ?_
  refine Ev_rn (q := (411, [(50, 500), (17, 0), (18, 400), (0, x3)], [(0, w32 (x3 + 2)), (50, 500), (0, m 500 (w32 (x3 + 1))), (17, 0)], m)) 4 rfl ?_
  obtain ⟨hc, h⟩ := h
  refine Ev_scr rfl hc ?_
  obtain ⟨v1, m1, hc, h⟩ := h
  refine Ev_call (rest := []) rfl rfl (Nat.le_of_ble_eq_true rfl) hc ?_
  refine Ev_rn (q := (418, [(50, 500), (17, 0), (18, 400), (0, x3)], [(0, w32 (x3 + 1)), (50, 500), (18, 400), (0, v1)], m1)) 5 rfl ?_
  obtain ⟨hc, h⟩ := h
  refine Ev_scr rfl hc ?_
  refine Ev_rn (q := (423, [(50, 500), (17, 0), (18, 400), (0, x3)], [(0, w32 (x3 + 2)), (50, 500), (0, m1 500 (w32 (x3 + 1))), (18, 400), (0, v1)], m1)) 4 rfl ?_
  obtain ⟨hc, h⟩ := h
  refine Ev_scr rfl hc ?_
  obtain ⟨v2, m2, hc, h⟩ := h
  refine Ev_call (rest := [(0, v1)]) rfl rfl (Nat.le_of_ble_eq_true rfl) hc ?_
  refine Ev_icmp rfl (fun hc => ?_) (fun hc => ?_)
  · replace h := h.1 hc
    exact h
  · replace h := h.2 hc
    refine Ev_rn (q := (427, [(50, 500), (17, 0), (18, 400), (0, x3)], [(0, 0)], m2)) 1 rfl ?_
    exact Ev_zret rfl rfl (by decide) h
set_option maxRecDepth 100000 in
theorem b_Lw_428 {d : Nat} {r : Option Vv × Mm} {m : Mm} {x3 : Int} (h : (0 ≤ w32 (x3 + 1) ∧ w32 (x3 + 1) < m 500 (-1)) ∧ ((0 ≤ w32 (x3 + 2) ∧ w32 (x3 + 2) < m 500 (-1)) ∧ (∃ (v1 : Int) (m1 : Mm), Cl d k_Th_hedge [(17, 0), (0, m 500 (w32 (x3 + 1))), (0, m 500 (w32 (x3 + 2)))] m (some (0, v1), m1) ∧ ((0 ≤ w32 (x3 + 1) ∧ w32 (x3 + 1) < m1 500 (-1)) ∧ ((0 ≤ w32 (x3 + 2) ∧ w32 (x3 + 2) < m1 500 (-1)) ∧ (∃ (v2 : Int) (m2 : Mm), Cl d k_Mo_hedge [(18, 400), (0, m1 500 (w32 (x3 + 1))), (0, m1 500 (w32 (x3 + 2)))] m1 (some (0, v2), m2) ∧ ((v1 = v2 → Ev (d + 1) K_Lw 2 1083 [(50, 500), (17, 0), (18, 400), (0, x3)] [] m2 r) ∧ (¬ (v1 = v2) → r = (some (0, 0), m2))))))))) : Ev (d + 1) K_Lw 2 428 [(50, 500), (17, 0), (18, 400), (0, x3)] [] m r := by
  refine Ev_rn (q := (433, [(50, 500), (17, 0), (18, 400), (0, x3)], [(0, w32 (x3 + 1)), (50, 500), (17, 0)], m)) 5 rfl ?_
  obtain ⟨hc, h⟩ := h
  refine Ev_scr rfl hc ?_
  refine Ev_rn (q := (438, [(50, 500), (17, 0), (18, 400), (0, x3)], [(0, w32 (x3 + 2)), (50, 500), (0, m 500 (w32 (x3 + 1))), (17, 0)], m)) 4 rfl ?_
  obtain ⟨hc, h⟩ := h
  refine Ev_scr rfl hc ?_
  obtain ⟨v1, m1, hc, h⟩ := h
  refine Ev_call (rest := []) rfl rfl (Nat.le_of_ble_eq_true rfl) hc ?_
  refine Ev_rn (q := (445, [(50, 500), (17, 0), (18, 400), (0, x3)], [(0, w32 (x3 + 1)), (50, 500), (18, 400), (0, v1)], m1)) 5 rfl ?_
  obtain ⟨hc, h⟩ := h
  refine Ev_scr rfl hc ?_
  refine Ev_rn (q := (450, [(50, 500), (17, 0), (18, 400), (0, x3)], [(0, w32 (x3 + 2)), (50, 500), (0, m1 500 (w32 (x3 + 1))), (18, 400), (0, v1)], m1)) 4 rfl ?_
  obtain ⟨hc, h⟩ := h
  refine Ev_scr rfl hc ?_
  obtain ⟨v2, m2, hc, h⟩ := h
  refine Ev_call (rest := [(0, v1)]) rfl rfl (Nat.le_of_ble_eq_true rfl) hc ?_
  refine Ev_icmp rfl (fun hc => ?_) (fun hc => ?_)
  · replace h := h.1 hc
    exact h
  · replace h := h.2 hc
    refine Ev_rn (q := (454, [(50, 500), (17, 0), (18, 400), (0, x3)], [(0, 0)], m2)) 1 rfl ?_
    exact Ev_zret rfl rfl (by decide) h
set_option maxRecDepth 100000 in
theorem b_Lw_455 {d : Nat} {r : Option Vv × Mm} {m : Mm} {x3 : Int} (h : (0 ≤ w32 (x3 + 1) ∧ w32 (x3 + 1) < m 500 (-1)) ∧ ((0 ≤ w32 (x3 + 2) ∧ w32 (x3 + 2) < m 500 (-1)) ∧ (∃ (v1 : Int) (m1 : Mm), Cl d k_Th_between [(17, 0), (0, m 500 (w32 (x3 + 1))), (0, m 500 (w32 (x3 + 2)))] m (some (0, v1), m1) ∧ ((0 ≤ w32 (x3 + 1) ∧ w32 (x3 + 1) < m1 500 (-1)) ∧ ((0 ≤ w32 (x3 + 2) ∧ w32 (x3 + 2) < m1 500 (-1)) ∧ (∃ (v2 : Int) (m2 : Mm), Cl d k_Mo_between [(18, 400), (0, m1 500 (w32 (x3 + 1))), (0, m1 500 (w32 (x3 + 2)))] m1 (some (0, v2), m2) ∧ ((v1 = v2 → Ev (d + 1) K_Lw 2 1083 [(50, 500), (17, 0), (18, 400), (0, x3)] [] m2 r) ∧ (¬ (v1 = v2) → r = (some (0, 0), m2))))))))) : Ev (d + 1) K_Lw 2 455 [(50, 500), (17, 0), (18, 400), (0, x3)] [] m r := by
  refine Ev_rn (q := (460, [(50, 500), (17, 0), (18, 400), (0, x3)], [(0, w32 (x3 + 1)), (50, 500), (17, 0)], m)) 5 rfl ?_
  obtain ⟨hc, h⟩ := h
  refine Ev_scr rfl hc ?_
  refine Ev_rn (q := (465, [(50, 500), (17, 0), (18, 400), (0, x3)], [(0, w32 (x3 + 2)), (50, 500), (0, m 500 (w32 (x3 + 1))), (17, 0)], m)) 4 rfl ?_
  obtain ⟨hc, h⟩ := h
  refine Ev_scr rfl hc ?_
  obtain ⟨v1, m1, hc, h⟩ := h
  refine Ev_call (rest := []) rfl rfl (Nat.le_of_ble_eq_true rfl) hc ?_
  refine Ev_rn (q := (472, [(50, 500), (17, 0), (18, 400), (0, x3)], [(0, w32 (x3 + 1)), (50, 500), (18, 400), (0, v1)], m1)) 5 rfl ?_
  obtain ⟨hc, h⟩ := h
  refine Ev_scr rfl hc ?_
  refine Ev_rn (q := (477, [(50, 500), (17, 0), (18, 400), (0, x3)], [(0, w32 (x3 + 2)), (50, 500), (0, m1 500 (w32 (x3 + 1))), (18, 400), (0, v1)], m1)) 4 rfl ?_
  obtain ⟨hc, h⟩ := h
  refine Ev_scr rfl hc ?_
  obtain ⟨v2, m2, hc, h⟩ := h
  refine Ev_call (rest := [(0, v1)]) rfl rfl (Nat.le_of_ble_eq_true rfl) hc ?_
  refine Ev_icmp rfl (fun hc => ?_) (fun hc => ?_)
  · replace h := h.1 hc
    exact h
  · replace h := h.2 hc
    refine Ev_rn (q := (481, [(50, 500), (17, 0), (18, 400), (0, x3)], [(0, 0)], m2)) 1 rfl ?_
    exact Ev_zret rfl rfl (by decide) h
set_option maxRecDepth 100000 in
theorem b_Lw_482 {d : Nat} {r : Option Vv × Mm} {m : Mm} {x3 : Int} (h : (0 ≤ w32 (x3 + 1) ∧ w32 (x3 + 1) < m 500 (-1)) ∧ (∃ (v1 : Int) (m1 : Mm), Cl d k_Th_is [(17, 0), (0, m 500 (w32 (x3 + 1)))] m (some (0, v1), m1) ∧ ((0 ≤ w32 (x3 + 1) ∧ w32 (x3 + 1) < m1 500 (-1)) ∧ (∃ (v2 : Int) (m2 : Mm), Cl d k_Mo_is [(18, 400), (0, m1 500 (w32 (x3 + 1)))] m1 (some (0, v2), m2) ∧ ((v1 = v2 → Ev (d + 1) K_Lw 2 1083 [(50, 500), (17, 0), (18, 400), (0, x3)] [] m2 r) ∧ (¬ (v1 = v2) → r = (some (0, 0), m2))))))) : Ev (d + 1) K_Lw 2 482 [(50, 500), (17, 0), (18, 400), (0, x3)] [] m r := by
  refine Ev_rn (q := (487, [(50, 500), (17, 0), (18, 400), (0, x3)], [(0, w32 (x3 + 1)), (50, 500), (17, 0)], m)) 5 rfl ?_
  obtain ⟨hc, h⟩ := h
  refine Ev_scr rfl hc ?_
  obtain ⟨v1, m1, hc, h⟩ := h
  refine Ev_call (rest := []) rfl rfl (Nat.le_of_ble_eq_true rfl) hc ?_
  refine Ev_rn (q := (494, [(50, 500), (17, 0), (18, 400), (0, x3)], [(0, w32 (x3 + 1)), (50, 500), (18, 400), (0, v1)], m1)) 5 rfl ?_
  obtain ⟨hc, h⟩ := h
  refine Ev_scr rfl hc ?_
  obtain ⟨v2, m2, hc, h⟩ := h
  refine Ev_call (rest := [(0, v1)]) rfl rfl (Nat.le_of_ble_eq_true rfl) hc ?_
  refine Ev_icmp rfl (fun hc => ?_) (fun hc => ?_)
  · replace h := h.1 hc
    exact h
  · replace h := h.2 hc
    refine Ev_rn (q := (498, [(50, 500), (17, 0), (18, 400), (0, x3)], [(0, 0)], m2)) 1 rfl ?_
    exact Ev_zret rfl rfl (by decide) h
set_option maxRecDepth 100000 in
theorem b_Lw_499 {d : Nat} {r : Option Vv × Mm} {m : Mm} {x3 : Int} (h : (0 ≤ w32 (x3 + 1) ∧ w32 (x3 + 1) < m 500 (-1)) ∧ ((0 ≤ w32 (x3 + 2) ∧ w32 (x3 + 2) < m 500 (-1)) ∧ (∃ (v1 : Int) (m1 : Mm), Cl d k_Th_book [(17, 0), (0, m 500 (w32 (x3 + 1))), (0, m 500 (w32 (x3 + 2)))] m (some (0, v1), m1) ∧ ((0 ≤ w32 (x3 + 1) ∧ w32 (x3 + 1) < m1 500 (-1)) ∧ ((0 ≤ w32 (x3 + 2) ∧ w32 (x3 + 2) < m1 500 (-1)) ∧ (∃ (v2 : Int) (m2 : Mm), Cl d k_Mo_book [(18, 400), (0, m1 500 (w32 (x3 + 1))), (0, m1 500 (w32 (x3 + 2)))] m1 (some (0, v2), m2) ∧ ((v1 = v2 → Ev (d + 1) K_Lw 2 1083 [(50, 500), (17, 0), (18, 400), (0, x3)] [] m2 r) ∧ (¬ (v1 = v2) → r = (some (0, 0), m2))))))))) : Ev (d + 1) K_Lw 2 499 [(50, 500), (17, 0), (18, 400), (0, x3)] [] m r := by
  refine Ev_rn (q := (504, [(50, 500), (17, 0), (18, 400), (0, x3)], [(0, w32 (x3 + 1)), (50, 500), (17, 0)], m)) 5 rfl ?_
  obtain ⟨hc, h⟩ := h
  refine Ev_scr rfl hc ?_
  refine Ev_rn (q := (509, [(50, 500), (17, 0), (18, 400), (0, x3)], [(0, w32 (x3 + 2)), (50, 500), (0, m 500 (w32 (x3 + 1))), (17, 0)], m)) 4 rfl ?_
  obtain ⟨hc, h⟩ := h
  refine Ev_scr rfl hc ?_
  obtain ⟨v1, m1, hc, h⟩ := h
  refine Ev_call (rest := []) rfl rfl (Nat.le_of_ble_eq_true rfl) hc ?_
  refine Ev_rn (q := (516, [(50, 500), (17, 0), (18, 400), (0, x3)], [(0, w32 (x3 + 1)), (50, 500), (18, 400), (0, v1)], m1)) 5 rfl ?_
  obtain ⟨hc, h⟩ := h
  refine Ev_scr rfl hc ?_
  refine Ev_rn (q := (521, [(50, 500), (17, 0), (18, 400), (0, x3)], [(0, w32 (x3 + 2)), (50, 500), (0, m1 500 (w32 (x3 + 1))), (18, 400), (0, v1)], m1)) 4 rfl ?_
  obtain ⟨hc, h⟩ := h
  refine Ev_scr rfl hc ?_
  obtain ⟨v2, m2, hc, h⟩ := h
  refine Ev_call (rest := [(0, v1)]) rfl rfl (Nat.le_of_ble_eq_true rfl) hc ?_
  refine Ev_icmp rfl (fun hc => ?_) (fun hc => ?_)
  · replace h := h.1 hc
    exact h
  · replace h := h.2 hc
    refine Ev_rn (q := (525, [(50, 500), (17, 0), (18, 400), (0, x3)], [(0, 0)], m2)) 1 rfl ?_
    exact Ev_zret rfl rfl (by decide) h
set_option maxRecDepth 100000 in
theorem b_Lw_526 {d : Nat} {r : Option Vv × Mm} {m : Mm} {x3 : Int} (h : (0 ≤ w32 (x3 + 1) ∧ w32 (x3 + 1) < m 500 (-1)) ∧ ((0 ≤ w32 (x3 + 2) ∧ w32 (x3 + 2) < m 500 (-1)) ∧ (∃ (v1 : Int) (m1 : Mm), Cl d k_Th_foretold [(17, 0), (0, m 500 (w32 (x3 + 1))), (0, m 500 (w32 (x3 + 2)))] m (some (0, v1), m1) ∧ ((0 ≤ w32 (x3 + 1) ∧ w32 (x3 + 1) < m1 500 (-1)) ∧ ((0 ≤ w32 (x3 + 2) ∧ w32 (x3 + 2) < m1 500 (-1)) ∧ (∃ (v2 : Int) (m2 : Mm), Cl d k_Mo_foretold [(18, 400), (0, m1 500 (w32 (x3 + 1))), (0, m1 500 (w32 (x3 + 2)))] m1 (some (0, v2), m2) ∧ ((v1 = v2 → Ev (d + 1) K_Lw 2 1083 [(50, 500), (17, 0), (18, 400), (0, x3)] [] m2 r) ∧ (¬ (v1 = v2) → r = (some (0, 0), m2))))))))) : Ev (d + 1) K_Lw 2 526 [(50, 500), (17, 0), (18, 400), (0, x3)] [] m r := by
  refine Ev_rn (q := (531, [(50, 500), (17, 0), (18, 400), (0, x3)], [(0, w32 (x3 + 1)), (50, 500), (17, 0)], m)) 5 rfl ?_
  obtain ⟨hc, h⟩ := h
  refine Ev_scr rfl hc ?_
  refine Ev_rn (q := (536, [(50, 500), (17, 0), (18, 400), (0, x3)], [(0, w32 (x3 + 2)), (50, 500), (0, m 500 (w32 (x3 + 1))), (17, 0)], m)) 4 rfl ?_
  obtain ⟨hc, h⟩ := h
  refine Ev_scr rfl hc ?_
  obtain ⟨v1, m1, hc, h⟩ := h
  refine Ev_call (rest := []) rfl rfl (Nat.le_of_ble_eq_true rfl) hc ?_
  refine Ev_rn (q := (543, [(50, 500), (17, 0), (18, 400), (0, x3)], [(0, w32 (x3 + 1)), (50, 500), (18, 400), (0, v1)], m1)) 5 rfl ?_
  obtain ⟨hc, h⟩ := h
  refine Ev_scr rfl hc ?_
  refine Ev_rn (q := (548, [(50, 500), (17, 0), (18, 400), (0, x3)], [(0, w32 (x3 + 2)), (50, 500), (0, m1 500 (w32 (x3 + 1))), (18, 400), (0, v1)], m1)) 4 rfl ?_
  obtain ⟨hc, h⟩ := h
  refine Ev_scr rfl hc ?_
  obtain ⟨v2, m2, hc, h⟩ := h
  refine Ev_call (rest := [(0, v1)]) rfl rfl (Nat.le_of_ble_eq_true rfl) hc ?_
  refine Ev_icmp rfl (fun hc => ?_) (fun hc => ?_)
  · replace h := h.1 hc
    exact h
  · replace h := h.2 hc
    refine Ev_rn (q := (552, [(50, 500), (17, 0), (18, 400), (0, x3)], [(0, 0)], m2)) 1 rfl ?_
    exact Ev_zret rfl rfl (by decide) h
set_option maxRecDepth 100000 in
theorem b_Lw_553 {d : Nat} {r : Option Vv × Mm} {m : Mm} {x3 : Int} (h : (0 ≤ w32 (x3 + 1) ∧ w32 (x3 + 1) < m 500 (-1)) ∧ ((0 ≤ w32 (x3 + 2) ∧ w32 (x3 + 2) < m 500 (-1)) ∧ (∃ (v1 : Int) (m1 : Mm), Cl d k_Th_miles [(17, 0), (0, m 500 (w32 (x3 + 1))), (0, m 500 (w32 (x3 + 2)))] m (some (0, v1), m1) ∧ ((0 ≤ w32 (x3 + 1) ∧ w32 (x3 + 1) < m1 500 (-1)) ∧ ((0 ≤ w32 (x3 + 2) ∧ w32 (x3 + 2) < m1 500 (-1)) ∧ (∃ (v2 : Int) (m2 : Mm), Cl d k_Mo_miles [(18, 400), (0, m1 500 (w32 (x3 + 1))), (0, m1 500 (w32 (x3 + 2)))] m1 (some (0, v2), m2) ∧ ((v1 = v2 → Ev (d + 1) K_Lw 2 1083 [(50, 500), (17, 0), (18, 400), (0, x3)] [] m2 r) ∧ (¬ (v1 = v2) → r = (some (0, 0), m2))))))))) : Ev (d + 1) K_Lw 2 553 [(50, 500), (17, 0), (18, 400), (0, x3)] [] m r := by
  refine Ev_rn (q := (558, [(50, 500), (17, 0), (18, 400), (0, x3)], [(0, w32 (x3 + 1)), (50, 500), (17, 0)], m)) 5 rfl ?_
  obtain ⟨hc, h⟩ := h
  refine Ev_scr rfl hc ?_
  refine Ev_rn (q := (563, [(50, 500), (17, 0), (18, 400), (0, x3)], [(0, w32 (x3 + 2)), (50, 500), (0, m 500 (w32 (x3 + 1))), (17, 0)], m)) 4 rfl ?_
  obtain ⟨hc, h⟩ := h
  refine Ev_scr rfl hc ?_
  obtain ⟨v1, m1, hc, h⟩ := h
  refine Ev_call (rest := []) rfl rfl (Nat.le_of_ble_eq_true rfl) hc ?_
  refine Ev_rn (q := (570, [(50, 500), (17, 0), (18, 400), (0, x3)], [(0, w32 (x3 + 1)), (50, 500), (18, 400), (0, v1)], m1)) 5 rfl ?_
  obtain ⟨hc, h⟩ := h
  refine Ev_scr rfl hc ?_
  refine Ev_rn (q := (575, [(50, 500), (17, 0), (18, 400), (0, x3)], [(0, w32 (x3 + 2)), (50, 500), (0, m1 500 (w32 (x3 + 1))), (18, 400), (0, v1)], m1)) 4 rfl ?_
  obtain ⟨hc, h⟩ := h
  refine Ev_scr rfl hc ?_
  obtain ⟨v2, m2, hc, h⟩ := h
  refine Ev_call (rest := [(0, v1)]) rfl rfl (Nat.le_of_ble_eq_true rfl) hc ?_
  refine Ev_icmp rfl (fun hc => ?_) (fun hc => ?_)
  · replace h := h.1 hc
    exact h
  · replace h := h.2 hc
    refine Ev_rn (q := (579, [(50, 500), (17, 0), (18, 400), (0, x3)], [(0, 0)], m2)) 1 rfl ?_
    exact Ev_zret rfl rfl (by decide) h
set_option maxRecDepth 100000 in
theorem b_Lw_580 {d : Nat} {r : Option Vv × Mm} {m : Mm} {x3 : Int} (h : (0 ≤ w32 (x3 + 1) ∧ w32 (x3 + 1) < m 500 (-1)) ∧ ((0 ≤ w32 (x3 + 2) ∧ w32 (x3 + 2) < m 500 (-1)) ∧ ((0 ≤ w32 (x3 + 3) ∧ w32 (x3 + 3) < m 500 (-1)) ∧ (∃ (v1 : Int) (m1 : Mm), Cl d k_Th_way [(17, 0), (0, m 500 (w32 (x3 + 1))), (0, m 500 (w32 (x3 + 2))), (0, m 500 (w32 (x3 + 3)))] m (some (0, v1), m1) ∧ ((0 ≤ w32 (x3 + 1) ∧ w32 (x3 + 1) < m1 500 (-1)) ∧ ((0 ≤ w32 (x3 + 2) ∧ w32 (x3 + 2) < m1 500 (-1)) ∧ ((0 ≤ w32 (x3 + 3) ∧ w32 (x3 + 3) < m1 500 (-1)) ∧ (∃ (v2 : Int) (m2 : Mm), Cl d k_Mo_way [(18, 400), (0, m1 500 (w32 (x3 + 1))), (0, m1 500 (w32 (x3 + 2))), (0, m1 500 (w32 (x3 + 3)))] m1 (some (0, v2), m2) ∧ ((v1 = v2 → Ev (d + 1) K_Lw 2 1083 [(50, 500), (17, 0), (18, 400), (0, x3)] [] m2 r) ∧ (¬ (v1 = v2) → r = (some (0, 0), m2))))))))))) : Ev (d + 1) K_Lw 2 580 [(50, 500), (17, 0), (18, 400), (0, x3)] [] m r := by
  refine Ev_rn (q := (585, [(50, 500), (17, 0), (18, 400), (0, x3)], [(0, w32 (x3 + 1)), (50, 500), (17, 0)], m)) 5 rfl ?_
  obtain ⟨hc, h⟩ := h
  refine Ev_scr rfl hc ?_
  refine Ev_rn (q := (590, [(50, 500), (17, 0), (18, 400), (0, x3)], [(0, w32 (x3 + 2)), (50, 500), (0, m 500 (w32 (x3 + 1))), (17, 0)], m)) 4 rfl ?_
  obtain ⟨hc, h⟩ := h
  refine Ev_scr rfl hc ?_
  refine Ev_rn (q := (595, [(50, 500), (17, 0), (18, 400), (0, x3)], [(0, w32 (x3 + 3)), (50, 500), (0, m 500 (w32 (x3 + 2))), (0, m 500 (w32 (x3 + 1))), (17, 0)], m)) 4 rfl ?_
  obtain ⟨hc, h⟩ := h
  refine Ev_scr rfl hc ?_
  obtain ⟨v1, m1, hc, h⟩ := h
  refine Ev_call (rest := []) rfl rfl (Nat.le_of_ble_eq_true rfl) hc ?_
  refine Ev_rn (q := (602, [(50, 500), (17, 0), (18, 400), (0, x3)], [(0, w32 (x3 + 1)), (50, 500), (18, 400), (0, v1)], m1)) 5 rfl ?_
  obtain ⟨hc, h⟩ := h
  refine Ev_scr rfl hc ?_
  refine Ev_rn (q := (607, [(50, 500), (17, 0), (18, 400), (0, x3)], [(0, w32 (x3 + 2)), (50, 500), (0, m1 500 (w32 (x3 + 1))), (18, 400), (0, v1)], m1)) 4 rfl ?_
  obtain ⟨hc, h⟩ := h
  refine Ev_scr rfl hc ?_
  refine Ev_rn (q := (612, [(50, 500), (17, 0), (18, 400), (0, x3)], [(0, w32 (x3 + 3)), (50, 500), (0, m1 500 (w32 (x3 + 2))), (0, m1 500 (w32 (x3 + 1))), (18, 400), (0, v1)], m1)) 4 rfl ?_
  obtain ⟨hc, h⟩ := h
  refine Ev_scr rfl hc ?_
  obtain ⟨v2, m2, hc, h⟩ := h
  refine Ev_call (rest := [(0, v1)]) rfl rfl (Nat.le_of_ble_eq_true rfl) hc ?_
  refine Ev_icmp rfl (fun hc => ?_) (fun hc => ?_)
  · replace h := h.1 hc
    exact h
  · replace h := h.2 hc
    refine Ev_rn (q := (616, [(50, 500), (17, 0), (18, 400), (0, x3)], [(0, 0)], m2)) 1 rfl ?_
    exact Ev_zret rfl rfl (by decide) h
set_option maxRecDepth 100000 in
theorem b_Lw_617 {d : Nat} {r : Option Vv × Mm} {m : Mm} {x3 : Int} (h : (0 ≤ w32 (x3 + 1) ∧ w32 (x3 + 1) < m 500 (-1)) ∧ ((0 ≤ w32 (x3 + 2) ∧ w32 (x3 + 2) < m 500 (-1)) ∧ (∃ (v1 : Int) (m1 : Mm), Cl d k_Th_cuts [(17, 0), (0, m 500 (w32 (x3 + 1))), (0, m 500 (w32 (x3 + 2)))] m (some (0, v1), m1) ∧ ((0 ≤ w32 (x3 + 1) ∧ w32 (x3 + 1) < m1 500 (-1)) ∧ ((0 ≤ w32 (x3 + 2) ∧ w32 (x3 + 2) < m1 500 (-1)) ∧ (∃ (v2 : Int) (m2 : Mm), Cl d k_Mo_cuts [(18, 400), (0, m1 500 (w32 (x3 + 1))), (0, m1 500 (w32 (x3 + 2)))] m1 (some (0, v2), m2) ∧ ((v1 = v2 → Ev (d + 1) K_Lw 2 1083 [(50, 500), (17, 0), (18, 400), (0, x3)] [] m2 r) ∧ (¬ (v1 = v2) → r = (some (0, 0), m2))))))))) : Ev (d + 1) K_Lw 2 617 [(50, 500), (17, 0), (18, 400), (0, x3)] [] m r := by
  refine Ev_rn (q := (622, [(50, 500), (17, 0), (18, 400), (0, x3)], [(0, w32 (x3 + 1)), (50, 500), (17, 0)], m)) 5 rfl ?_
  obtain ⟨hc, h⟩ := h
  refine Ev_scr rfl hc ?_
  refine Ev_rn (q := (627, [(50, 500), (17, 0), (18, 400), (0, x3)], [(0, w32 (x3 + 2)), (50, 500), (0, m 500 (w32 (x3 + 1))), (17, 0)], m)) 4 rfl ?_
  obtain ⟨hc, h⟩ := h
  refine Ev_scr rfl hc ?_
  obtain ⟨v1, m1, hc, h⟩ := h
  refine Ev_call (rest := []) rfl rfl (Nat.le_of_ble_eq_true rfl) hc ?_
  refine Ev_rn (q := (634, [(50, 500), (17, 0), (18, 400), (0, x3)], [(0, w32 (x3 + 1)), (50, 500), (18, 400), (0, v1)], m1)) 5 rfl ?_
  obtain ⟨hc, h⟩ := h
  refine Ev_scr rfl hc ?_
  refine Ev_rn (q := (639, [(50, 500), (17, 0), (18, 400), (0, x3)], [(0, w32 (x3 + 2)), (50, 500), (0, m1 500 (w32 (x3 + 1))), (18, 400), (0, v1)], m1)) 4 rfl ?_
  obtain ⟨hc, h⟩ := h
  refine Ev_scr rfl hc ?_
  obtain ⟨v2, m2, hc, h⟩ := h
  refine Ev_call (rest := [(0, v1)]) rfl rfl (Nat.le_of_ble_eq_true rfl) hc ?_
  refine Ev_icmp rfl (fun hc => ?_) (fun hc => ?_)
  · replace h := h.1 hc
    exact h
  · replace h := h.2 hc
    refine Ev_rn (q := (643, [(50, 500), (17, 0), (18, 400), (0, x3)], [(0, 0)], m2)) 1 rfl ?_
    exact Ev_zret rfl rfl (by decide) h
set_option maxRecDepth 100000 in
theorem b_Lw_644 {d : Nat} {r : Option Vv × Mm} {m : Mm} {x3 : Int} (h : (0 ≤ w32 (x3 + 1) ∧ w32 (x3 + 1) < m 500 (-1)) ∧ (∃ (v1 : Int) (m1 : Mm), Cl d k_Th_farthest [(17, 0), (0, m 500 (w32 (x3 + 1)))] m (some (0, v1), m1) ∧ ((0 ≤ w32 (x3 + 1) ∧ w32 (x3 + 1) < m1 500 (-1)) ∧ (∃ (v2 : Int) (m2 : Mm), Cl d k_Mo_farthest [(18, 400), (0, m1 500 (w32 (x3 + 1)))] m1 (some (0, v2), m2) ∧ ((v1 = v2 → Ev (d + 1) K_Lw 2 1083 [(50, 500), (17, 0), (18, 400), (0, x3)] [] m2 r) ∧ (¬ (v1 = v2) → r = (some (0, 0), m2))))))) : Ev (d + 1) K_Lw 2 644 [(50, 500), (17, 0), (18, 400), (0, x3)] [] m r := by
  refine Ev_rn (q := (649, [(50, 500), (17, 0), (18, 400), (0, x3)], [(0, w32 (x3 + 1)), (50, 500), (17, 0)], m)) 5 rfl ?_
  obtain ⟨hc, h⟩ := h
  refine Ev_scr rfl hc ?_
  obtain ⟨v1, m1, hc, h⟩ := h
  refine Ev_call (rest := []) rfl rfl (Nat.le_of_ble_eq_true rfl) hc ?_
  refine Ev_rn (q := (656, [(50, 500), (17, 0), (18, 400), (0, x3)], [(0, w32 (x3 + 1)), (50, 500), (18, 400), (0, v1)], m1)) 5 rfl ?_
  obtain ⟨hc, h⟩ := h
  refine Ev_scr rfl hc ?_
  obtain ⟨v2, m2, hc, h⟩ := h
  refine Ev_call (rest := [(0, v1)]) rfl rfl (Nat.le_of_ble_eq_true rfl) hc ?_
  refine Ev_icmp rfl (fun hc => ?_) (fun hc => ?_)
  · replace h := h.1 hc
    exact h
  · replace h := h.2 hc
    refine Ev_rn (q := (660, [(50, 500), (17, 0), (18, 400), (0, x3)], [(0, 0)], m2)) 1 rfl ?_
    exact Ev_zret rfl rfl (by decide) h
set_option maxRecDepth 100000 in
theorem b_Lw_661 {d : Nat} {r : Option Vv × Mm} {m : Mm} {x3 : Int} (h : ∃ (v1 : Int) (m1 : Mm), Cl d k_Th_wide [(17, 0)] m (some (0, v1), m1) ∧ (∃ (v2 : Int) (m2 : Mm), Cl d k_Mo_wide [(18, 400)] m1 (some (0, v2), m2) ∧ ((v1 = v2 → Ev (d + 1) K_Lw 2 1083 [(50, 500), (17, 0), (18, 400), (0, x3)] [] m2 r) ∧ (¬ (v1 = v2) → r = (some (0, 0), m2))))) : Ev (d + 1) K_Lw 2 661 [(50, 500), (17, 0), (18, 400), (0, x3)] [] m r := by
  refine Ev_rn (q := (662, [(50, 500), (17, 0), (18, 400), (0, x3)], [(17, 0)], m)) 1 rfl ?_
  obtain ⟨v1, m1, hc, h⟩ := h
  refine Ev_call (rest := []) rfl rfl (Nat.le_of_ble_eq_true rfl) hc ?_
  refine Ev_rn (q := (664, [(50, 500), (17, 0), (18, 400), (0, x3)], [(18, 400), (0, v1)], m1)) 1 rfl ?_
  obtain ⟨v2, m2, hc, h⟩ := h
  refine Ev_call (rest := [(0, v1)]) rfl rfl (Nat.le_of_ble_eq_true rfl) hc ?_
  refine Ev_icmp rfl (fun hc => ?_) (fun hc => ?_)
  · replace h := h.1 hc
    exact h
  · replace h := h.2 hc
    refine Ev_rn (q := (667, [(50, 500), (17, 0), (18, 400), (0, x3)], [(0, 0)], m2)) 1 rfl ?_
    exact Ev_zret rfl rfl (by decide) h
set_option maxRecDepth 100000 in
theorem b_Lw_668 {d : Nat} {r : Option Vv × Mm} {m : Mm} {x3 : Int} (h : (0 ≤ w32 (x3 + 1) ∧ w32 (x3 + 1) < m 500 (-1)) ∧ ((m 500 (w32 (x3 + 1)) = 0 → ∃ (v1 : Int) (m1 : Mm), Cl d k_Th_regions [(17, 0), (0, 0)] m (some (0, v1), m1) ∧ ((0 ≤ w32 (x3 + 1) ∧ w32 (x3 + 1) < m1 500 (-1)) ∧ ((m1 500 (w32 (x3 + 1)) = 0 → ∃ (v2 : Int) (m2 : Mm), Cl d k_Mo_regions [(18, 400), (0, 0)] m1 (some (0, v2), m2) ∧ ((v1 = v2 → Ev (d + 1) K_Lw 2 1083 [(50, 500), (17, 0), (18, 400), (0, x3)] [] m2 r) ∧ (¬ (v1 = v2) → r = (some (0, 0), m2)))) ∧ (¬ (m1 500 (w32 (x3 + 1)) = 0) → ∃ (v3 : Int) (m3 : Mm), Cl d k_Mo_regions [(18, 400), (0, 1)] m1 (some (0, v3), m3) ∧ ((v1 = v3 → Ev (d + 1) K_Lw 2 1083 [(50, 500), (17, 0), (18, 400), (0, x3)] [] m3 r) ∧ (¬ (v1 = v3) → r = (some (0, 0), m3))))))) ∧ (¬ (m 500 (w32 (x3 + 1)) = 0) → ∃ (v4 : Int) (m4 : Mm), Cl d k_Th_regions [(17, 0), (0, 1)] m (some (0, v4), m4) ∧ ((0 ≤ w32 (x3 + 1) ∧ w32 (x3 + 1) < m4 500 (-1)) ∧ ((m4 500 (w32 (x3 + 1)) = 0 → ∃ (v5 : Int) (m5 : Mm), Cl d k_Mo_regions [(18, 400), (0, 0)] m4 (some (0, v5), m5) ∧ ((v4 = v5 → Ev (d + 1) K_Lw 2 1083 [(50, 500), (17, 0), (18, 400), (0, x3)] [] m5 r) ∧ (¬ (v4 = v5) → r = (some (0, 0), m5)))) ∧ (¬ (m4 500 (w32 (x3 + 1)) = 0) → ∃ (v6 : Int) (m6 : Mm), Cl d k_Mo_regions [(18, 400), (0, 1)] m4 (some (0, v6), m6) ∧ ((v4 = v6 → Ev (d + 1) K_Lw 2 1083 [(50, 500), (17, 0), (18, 400), (0, x3)] [] m6 r) ∧ (¬ (v4 = v6) → r = (some (0, 0), m6))))))))) : Ev (d + 1) K_Lw 2 668 [(50, 500), (17, 0), (18, 400), (0, x3)] [] m r := by
  refine Ev_rn (q := (673, [(50, 500), (17, 0), (18, 400), (0, x3)], [(0, w32 (x3 + 1)), (50, 500), (17, 0)], m)) 5 rfl ?_
  obtain ⟨hc, h⟩ := h
  refine Ev_scr rfl hc ?_
  refine Ev_if rfl (fun hc => ?_) (fun hc => ?_)
  · replace h := h.1 hc
    refine Ev_rn (q := (678, [(50, 500), (17, 0), (18, 400), (0, x3)], [(0, 0), (17, 0)], m)) 1 rfl ?_
    obtain ⟨v1, m1, hc, h⟩ := h
    refine Ev_call (rest := []) rfl rfl (Nat.le_of_ble_eq_true rfl) hc ?_
    refine Ev_rn (q := (684, [(50, 500), (17, 0), (18, 400), (0, x3)], [(0, w32 (x3 + 1)), (50, 500), (18, 400), (0, v1)], m1)) 5 rfl ?_
    obtain ⟨hc, h⟩ := h
    refine Ev_scr rfl hc ?_
    refine Ev_if rfl (fun hc => ?_) (fun hc => ?_)
    · replace h := h.1 hc
      refine Ev_rn (q := (689, [(50, 500), (17, 0), (18, 400), (0, x3)], [(0, 0), (18, 400), (0, v1)], m1)) 1 rfl ?_
      obtain ⟨v2, m2, hc, h⟩ := h
      refine Ev_call (rest := [(0, v1)]) rfl rfl (Nat.le_of_ble_eq_true rfl) hc ?_
      refine Ev_icmp rfl (fun hc => ?_) (fun hc => ?_)
      · replace h := h.1 hc
        exact h
      · replace h := h.2 hc
        refine Ev_rn (q := (692, [(50, 500), (17, 0), (18, 400), (0, x3)], [(0, 0)], m2)) 1 rfl ?_
        exact Ev_zret rfl rfl (by decide) h
    · replace h := h.2 hc
      refine Ev_rn (q := (689, [(50, 500), (17, 0), (18, 400), (0, x3)], [(0, 1), (18, 400), (0, v1)], m1)) 2 rfl ?_
      obtain ⟨v3, m3, hc, h⟩ := h
      refine Ev_call (rest := [(0, v1)]) rfl rfl (Nat.le_of_ble_eq_true rfl) hc ?_
      refine Ev_icmp rfl (fun hc => ?_) (fun hc => ?_)
      · replace h := h.1 hc
        exact h
      · replace h := h.2 hc
        refine Ev_rn (q := (692, [(50, 500), (17, 0), (18, 400), (0, x3)], [(0, 0)], m3)) 1 rfl ?_
        exact Ev_zret rfl rfl (by decide) h
  · replace h := h.2 hc
    refine Ev_rn (q := (678, [(50, 500), (17, 0), (18, 400), (0, x3)], [(0, 1), (17, 0)], m)) 2 rfl ?_
    obtain ⟨v4, m4, hc, h⟩ := h
    refine Ev_call (rest := []) rfl rfl (Nat.le_of_ble_eq_true rfl) hc ?_
    refine Ev_rn (q := (684, [(50, 500), (17, 0), (18, 400), (0, x3)], [(0, w32 (x3 + 1)), (50, 500), (18, 400), (0, v4)], m4)) 5 rfl ?_
    obtain ⟨hc, h⟩ := h
    refine Ev_scr rfl hc ?_
    refine Ev_if rfl (fun hc => ?_) (fun hc => ?_)
    · replace h := h.1 hc
      refine Ev_rn (q := (689, [(50, 500), (17, 0), (18, 400), (0, x3)], [(0, 0), (18, 400), (0, v4)], m4)) 1 rfl ?_
      obtain ⟨v5, m5, hc, h⟩ := h
      refine Ev_call (rest := [(0, v4)]) rfl rfl (Nat.le_of_ble_eq_true rfl) hc ?_
      refine Ev_icmp rfl (fun hc => ?_) (fun hc => ?_)
      · replace h := h.1 hc
        exact h
      · replace h := h.2 hc
        refine Ev_rn (q := (692, [(50, 500), (17, 0), (18, 400), (0, x3)], [(0, 0)], m5)) 1 rfl ?_
        exact Ev_zret rfl rfl (by decide) h
    · replace h := h.2 hc
      refine Ev_rn (q := (689, [(50, 500), (17, 0), (18, 400), (0, x3)], [(0, 1), (18, 400), (0, v4)], m4)) 2 rfl ?_
      obtain ⟨v6, m6, hc, h⟩ := h
      refine Ev_call (rest := [(0, v4)]) rfl rfl (Nat.le_of_ble_eq_true rfl) hc ?_
      refine Ev_icmp rfl (fun hc => ?_) (fun hc => ?_)
      · replace h := h.1 hc
        exact h
      · replace h := h.2 hc
        refine Ev_rn (q := (692, [(50, 500), (17, 0), (18, 400), (0, x3)], [(0, 0)], m6)) 1 rfl ?_
        exact Ev_zret rfl rfl (by decide) h
set_option maxRecDepth 100000 in
theorem b_Lw_693 {d : Nat} {r : Option Vv × Mm} {m : Mm} {x3 : Int} (h : ∃ (v1 : Int) (m1 : Mm), Cl d k_Th_rings [(17, 0)] m (some (0, v1), m1) ∧ (∃ (v2 : Int) (m2 : Mm), Cl d k_Mo_rings [(18, 400)] m1 (some (0, v2), m2) ∧ ((v1 = v2 → Ev (d + 1) K_Lw 2 1083 [(50, 500), (17, 0), (18, 400), (0, x3)] [] m2 r) ∧ (¬ (v1 = v2) → r = (some (0, 0), m2))))) : Ev (d + 1) K_Lw 2 693 [(50, 500), (17, 0), (18, 400), (0, x3)] [] m r := by
  refine Ev_rn (q := (694, [(50, 500), (17, 0), (18, 400), (0, x3)], [(17, 0)], m)) 1 rfl ?_
  obtain ⟨v1, m1, hc, h⟩ := h
  refine Ev_call (rest := []) rfl rfl (Nat.le_of_ble_eq_true rfl) hc ?_
  refine Ev_rn (q := (696, [(50, 500), (17, 0), (18, 400), (0, x3)], [(18, 400), (0, v1)], m1)) 1 rfl ?_
  obtain ⟨v2, m2, hc, h⟩ := h
  refine Ev_call (rest := [(0, v1)]) rfl rfl (Nat.le_of_ble_eq_true rfl) hc ?_
  refine Ev_icmp rfl (fun hc => ?_) (fun hc => ?_)
  · replace h := h.1 hc
    exact h
  · replace h := h.2 hc
    refine Ev_rn (q := (699, [(50, 500), (17, 0), (18, 400), (0, x3)], [(0, 0)], m2)) 1 rfl ?_
    exact Ev_zret rfl rfl (by decide) h
set_option maxRecDepth 100000 in
theorem b_Lw_700 {d : Nat} {r : Option Vv × Mm} {m : Mm} {x3 : Int} (h : ∃ (v1 : Int) (m1 : Mm), Cl d k_Th_ends [(17, 0)] m (some (0, v1), m1) ∧ (∃ (v2 : Int) (m2 : Mm), Cl d k_Mo_ends [(18, 400)] m1 (some (0, v2), m2) ∧ ((v1 = v2 → Ev (d + 1) K_Lw 2 1083 [(50, 500), (17, 0), (18, 400), (0, x3)] [] m2 r) ∧ (¬ (v1 = v2) → r = (some (0, 0), m2))))) : Ev (d + 1) K_Lw 2 700 [(50, 500), (17, 0), (18, 400), (0, x3)] [] m r := by
  refine Ev_rn (q := (701, [(50, 500), (17, 0), (18, 400), (0, x3)], [(17, 0)], m)) 1 rfl ?_
  obtain ⟨v1, m1, hc, h⟩ := h
  refine Ev_call (rest := []) rfl rfl (Nat.le_of_ble_eq_true rfl) hc ?_
  refine Ev_rn (q := (703, [(50, 500), (17, 0), (18, 400), (0, x3)], [(18, 400), (0, v1)], m1)) 1 rfl ?_
  obtain ⟨v2, m2, hc, h⟩ := h
  refine Ev_call (rest := [(0, v1)]) rfl rfl (Nat.le_of_ble_eq_true rfl) hc ?_
  refine Ev_icmp rfl (fun hc => ?_) (fun hc => ?_)
  · replace h := h.1 hc
    exact h
  · replace h := h.2 hc
    refine Ev_rn (q := (706, [(50, 500), (17, 0), (18, 400), (0, x3)], [(0, 0)], m2)) 1 rfl ?_
    exact Ev_zret rfl rfl (by decide) h
set_option maxRecDepth 100000 in
theorem b_Lw_707 {d : Nat} {r : Option Vv × Mm} {m : Mm} {x3 : Int} (h : ∃ (v1 : Int) (m1 : Mm), Cl d k_Th_necks [(17, 0)] m (some (0, v1), m1) ∧ (∃ (v2 : Int) (m2 : Mm), Cl d k_Mo_necks [(18, 400)] m1 (some (0, v2), m2) ∧ ((v1 = v2 → Ev (d + 1) K_Lw 2 1083 [(50, 500), (17, 0), (18, 400), (0, x3)] [] m2 r) ∧ (¬ (v1 = v2) → r = (some (0, 0), m2))))) : Ev (d + 1) K_Lw 2 707 [(50, 500), (17, 0), (18, 400), (0, x3)] [] m r := by
  refine Ev_rn (q := (708, [(50, 500), (17, 0), (18, 400), (0, x3)], [(17, 0)], m)) 1 rfl ?_
  obtain ⟨v1, m1, hc, h⟩ := h
  refine Ev_call (rest := []) rfl rfl (Nat.le_of_ble_eq_true rfl) hc ?_
  refine Ev_rn (q := (710, [(50, 500), (17, 0), (18, 400), (0, x3)], [(18, 400), (0, v1)], m1)) 1 rfl ?_
  obtain ⟨v2, m2, hc, h⟩ := h
  refine Ev_call (rest := [(0, v1)]) rfl rfl (Nat.le_of_ble_eq_true rfl) hc ?_
  refine Ev_icmp rfl (fun hc => ?_) (fun hc => ?_)
  · replace h := h.1 hc
    exact h
  · replace h := h.2 hc
    refine Ev_rn (q := (713, [(50, 500), (17, 0), (18, 400), (0, x3)], [(0, 0)], m2)) 1 rfl ?_
    exact Ev_zret rfl rfl (by decide) h
set_option maxRecDepth 100000 in
theorem b_Lw_714 {d : Nat} {r : Option Vv × Mm} {m : Mm} {x3 : Int} (h : (0 ≤ w32 (x3 + 1) ∧ w32 (x3 + 1) < m 500 (-1)) ∧ ((0 ≤ w32 (x3 + 2) ∧ w32 (x3 + 2) < m 500 (-1)) ∧ (∃ (v1 : Int) (m1 : Mm), Cl d k_Th_paths [(17, 0), (0, m 500 (w32 (x3 + 1))), (0, m 500 (w32 (x3 + 2)))] m (some (1, v1), m1) ∧ ((0 ≤ w32 (x3 + 1) ∧ w32 (x3 + 1) < m1 500 (-1)) ∧ ((0 ≤ w32 (x3 + 2) ∧ w32 (x3 + 2) < m1 500 (-1)) ∧ (∃ (v2 : Int) (m2 : Mm), Cl d k_Mo_paths [(18, 400), (0, m1 500 (w32 (x3 + 1))), (0, m1 500 (w32 (x3 + 2)))] m1 (some (1, v2), m2) ∧ ((lcm v1 v2 = 0 → Ev (d + 1) K_Lw 2 1083 [(50, 500), (17, 0), (18, 400), (0, x3)] [] m2 r) ∧ (¬ (lcm v1 v2 = 0) → r = (some (0, 0), m2))))))))) : Ev (d + 1) K_Lw 2 714 [(50, 500), (17, 0), (18, 400), (0, x3)] [] m r := by
  refine Ev_rn (q := (719, [(50, 500), (17, 0), (18, 400), (0, x3)], [(0, w32 (x3 + 1)), (50, 500), (17, 0)], m)) 5 rfl ?_
  obtain ⟨hc, h⟩ := h
  refine Ev_scr rfl hc ?_
  refine Ev_rn (q := (724, [(50, 500), (17, 0), (18, 400), (0, x3)], [(0, w32 (x3 + 2)), (50, 500), (0, m 500 (w32 (x3 + 1))), (17, 0)], m)) 4 rfl ?_
  obtain ⟨hc, h⟩ := h
  refine Ev_scr rfl hc ?_
  obtain ⟨v1, m1, hc, h⟩ := h
  refine Ev_call (rest := []) rfl rfl (Nat.le_of_ble_eq_true rfl) hc ?_
  refine Ev_rn (q := (731, [(50, 500), (17, 0), (18, 400), (0, x3)], [(0, w32 (x3 + 1)), (50, 500), (18, 400), (1, v1)], m1)) 5 rfl ?_
  obtain ⟨hc, h⟩ := h
  refine Ev_scr rfl hc ?_
  refine Ev_rn (q := (736, [(50, 500), (17, 0), (18, 400), (0, x3)], [(0, w32 (x3 + 2)), (50, 500), (0, m1 500 (w32 (x3 + 1))), (18, 400), (1, v1)], m1)) 4 rfl ?_
  obtain ⟨hc, h⟩ := h
  refine Ev_scr rfl hc ?_
  obtain ⟨v2, m2, hc, h⟩ := h
  refine Ev_call (rest := [(1, v1)]) rfl rfl (Nat.le_of_ble_eq_true rfl) hc ?_
  refine Ev_rn (q := (739, [(50, 500), (17, 0), (18, 400), (0, x3)], [(0, lcm v1 v2)], m2)) 1 rfl ?_
  refine Ev_if rfl (fun hc => ?_) (fun hc => ?_)
  · replace h := h.1 hc
    exact h
  · replace h := h.2 hc
    refine Ev_rn (q := (741, [(50, 500), (17, 0), (18, 400), (0, x3)], [(0, 0)], m2)) 1 rfl ?_
    exact Ev_zret rfl rfl (by decide) h
set_option maxRecDepth 100000 in
theorem b_Lw_742 {d : Nat} {r : Option Vv × Mm} {m : Mm} {x3 : Int} (h : (0 ≤ w32 (x3 + 1) ∧ w32 (x3 + 1) < m 500 (-1)) ∧ ((0 ≤ w32 (x3 + 2) ∧ w32 (x3 + 2) < m 500 (-1)) ∧ ((m 500 (w32 (x3 + 2)) = 0 → ∃ (v1 : Int) (m1 : Mm), Cl d k_Th_walk [(17, 0), (0, m 500 (w32 (x3 + 1))), (0, 0)] m (some (0, v1), m1) ∧ ((0 ≤ w32 (x3 + 1) ∧ w32 (x3 + 1) < m1 500 (-1)) ∧ ((0 ≤ w32 (x3 + 2) ∧ w32 (x3 + 2) < m1 500 (-1)) ∧ ((m1 500 (w32 (x3 + 2)) = 0 → ∃ (v2 : Int) (m2 : Mm), Cl d k_Mo_walk [(18, 400), (0, m1 500 (w32 (x3 + 1))), (0, 0)] m1 (some (0, v2), m2) ∧ ((v1 = v2 → Ev (d + 1) K_Lw 2 1083 [(50, 500), (17, 0), (18, 400), (0, x3)] [] m2 r) ∧ (¬ (v1 = v2) → r = (some (0, 0), m2)))) ∧ (¬ (m1 500 (w32 (x3 + 2)) = 0) → ∃ (v3 : Int) (m3 : Mm), Cl d k_Mo_walk [(18, 400), (0, m1 500 (w32 (x3 + 1))), (0, 1)] m1 (some (0, v3), m3) ∧ ((v1 = v3 → Ev (d + 1) K_Lw 2 1083 [(50, 500), (17, 0), (18, 400), (0, x3)] [] m3 r) ∧ (¬ (v1 = v3) → r = (some (0, 0), m3)))))))) ∧ (¬ (m 500 (w32 (x3 + 2)) = 0) → ∃ (v4 : Int) (m4 : Mm), Cl d k_Th_walk [(17, 0), (0, m 500 (w32 (x3 + 1))), (0, 1)] m (some (0, v4), m4) ∧ ((0 ≤ w32 (x3 + 1) ∧ w32 (x3 + 1) < m4 500 (-1)) ∧ ((0 ≤ w32 (x3 + 2) ∧ w32 (x3 + 2) < m4 500 (-1)) ∧ ((m4 500 (w32 (x3 + 2)) = 0 → ∃ (v5 : Int) (m5 : Mm), Cl d k_Mo_walk [(18, 400), (0, m4 500 (w32 (x3 + 1))), (0, 0)] m4 (some (0, v5), m5) ∧ ((v4 = v5 → Ev (d + 1) K_Lw 2 1083 [(50, 500), (17, 0), (18, 400), (0, x3)] [] m5 r) ∧ (¬ (v4 = v5) → r = (some (0, 0), m5)))) ∧ (¬ (m4 500 (w32 (x3 + 2)) = 0) → ∃ (v6 : Int) (m6 : Mm), Cl d k_Mo_walk [(18, 400), (0, m4 500 (w32 (x3 + 1))), (0, 1)] m4 (some (0, v6), m6) ∧ ((v4 = v6 → Ev (d + 1) K_Lw 2 1083 [(50, 500), (17, 0), (18, 400), (0, x3)] [] m6 r) ∧ (¬ (v4 = v6) → r = (some (0, 0), m6))))))))))) : Ev (d + 1) K_Lw 2 742 [(50, 500), (17, 0), (18, 400), (0, x3)] [] m r := by
  refine Ev_rn (q := (747, [(50, 500), (17, 0), (18, 400), (0, x3)], [(0, w32 (x3 + 1)), (50, 500), (17, 0)], m)) 5 rfl ?_
  obtain ⟨hc, h⟩ := h
  refine Ev_scr rfl hc ?_
  refine Ev_rn (q := (752, [(50, 500), (17, 0), (18, 400), (0, x3)], [(0, w32 (x3 + 2)), (50, 500), (0, m 500 (w32 (x3 + 1))), (17, 0)], m)) 4 rfl ?_
  obtain ⟨hc, h⟩ := h
  refine Ev_scr rfl hc ?_
  refine Ev_if rfl (fun hc => ?_) (fun hc => ?_)
  · replace h := h.1 hc
    refine Ev_rn (q := (757, [(50, 500), (17, 0), (18, 400), (0, x3)], [(0, 0), (0, m 500 (w32 (x3 + 1))), (17, 0)], m)) 1 rfl ?_
    obtain ⟨v1, m1, hc, h⟩ := h
    refine Ev_call (rest := []) rfl rfl (Nat.le_of_ble_eq_true rfl) hc ?_
    refine Ev_rn (q := (763, [(50, 500), (17, 0), (18, 400), (0, x3)], [(0, w32 (x3 + 1)), (50, 500), (18, 400), (0, v1)], m1)) 5 rfl ?_
    obtain ⟨hc, h⟩ := h
    refine Ev_scr rfl hc ?_
    refine Ev_rn (q := (768, [(50, 500), (17, 0), (18, 400), (0, x3)], [(0, w32 (x3 + 2)), (50, 500), (0, m1 500 (w32 (x3 + 1))), (18, 400), (0, v1)], m1)) 4 rfl ?_
    obtain ⟨hc, h⟩ := h
    refine Ev_scr rfl hc ?_
    refine Ev_if rfl (fun hc => ?_) (fun hc => ?_)
    · replace h := h.1 hc
      refine Ev_rn (q := (773, [(50, 500), (17, 0), (18, 400), (0, x3)], [(0, 0), (0, m1 500 (w32 (x3 + 1))), (18, 400), (0, v1)], m1)) 1 rfl ?_
      obtain ⟨v2, m2, hc, h⟩ := h
      refine Ev_call (rest := [(0, v1)]) rfl rfl (Nat.le_of_ble_eq_true rfl) hc ?_
      refine Ev_icmp rfl (fun hc => ?_) (fun hc => ?_)
      · replace h := h.1 hc
        exact h
      · replace h := h.2 hc
        refine Ev_rn (q := (776, [(50, 500), (17, 0), (18, 400), (0, x3)], [(0, 0)], m2)) 1 rfl ?_
        exact Ev_zret rfl rfl (by decide) h
    · replace h := h.2 hc
      refine Ev_rn (q := (773, [(50, 500), (17, 0), (18, 400), (0, x3)], [(0, 1), (0, m1 500 (w32 (x3 + 1))), (18, 400), (0, v1)], m1)) 2 rfl ?_
      obtain ⟨v3, m3, hc, h⟩ := h
      refine Ev_call (rest := [(0, v1)]) rfl rfl (Nat.le_of_ble_eq_true rfl) hc ?_
      refine Ev_icmp rfl (fun hc => ?_) (fun hc => ?_)
      · replace h := h.1 hc
        exact h
      · replace h := h.2 hc
        refine Ev_rn (q := (776, [(50, 500), (17, 0), (18, 400), (0, x3)], [(0, 0)], m3)) 1 rfl ?_
        exact Ev_zret rfl rfl (by decide) h
  · replace h := h.2 hc
    refine Ev_rn (q := (757, [(50, 500), (17, 0), (18, 400), (0, x3)], [(0, 1), (0, m 500 (w32 (x3 + 1))), (17, 0)], m)) 2 rfl ?_
    obtain ⟨v4, m4, hc, h⟩ := h
    refine Ev_call (rest := []) rfl rfl (Nat.le_of_ble_eq_true rfl) hc ?_
    refine Ev_rn (q := (763, [(50, 500), (17, 0), (18, 400), (0, x3)], [(0, w32 (x3 + 1)), (50, 500), (18, 400), (0, v4)], m4)) 5 rfl ?_
    obtain ⟨hc, h⟩ := h
    refine Ev_scr rfl hc ?_
    refine Ev_rn (q := (768, [(50, 500), (17, 0), (18, 400), (0, x3)], [(0, w32 (x3 + 2)), (50, 500), (0, m4 500 (w32 (x3 + 1))), (18, 400), (0, v4)], m4)) 4 rfl ?_
    obtain ⟨hc, h⟩ := h
    refine Ev_scr rfl hc ?_
    refine Ev_if rfl (fun hc => ?_) (fun hc => ?_)
    · replace h := h.1 hc
      refine Ev_rn (q := (773, [(50, 500), (17, 0), (18, 400), (0, x3)], [(0, 0), (0, m4 500 (w32 (x3 + 1))), (18, 400), (0, v4)], m4)) 1 rfl ?_
      obtain ⟨v5, m5, hc, h⟩ := h
      refine Ev_call (rest := [(0, v4)]) rfl rfl (Nat.le_of_ble_eq_true rfl) hc ?_
      refine Ev_icmp rfl (fun hc => ?_) (fun hc => ?_)
      · replace h := h.1 hc
        exact h
      · replace h := h.2 hc
        refine Ev_rn (q := (776, [(50, 500), (17, 0), (18, 400), (0, x3)], [(0, 0)], m5)) 1 rfl ?_
        exact Ev_zret rfl rfl (by decide) h
    · replace h := h.2 hc
      refine Ev_rn (q := (773, [(50, 500), (17, 0), (18, 400), (0, x3)], [(0, 1), (0, m4 500 (w32 (x3 + 1))), (18, 400), (0, v4)], m4)) 2 rfl ?_
      obtain ⟨v6, m6, hc, h⟩ := h
      refine Ev_call (rest := [(0, v4)]) rfl rfl (Nat.le_of_ble_eq_true rfl) hc ?_
      refine Ev_icmp rfl (fun hc => ?_) (fun hc => ?_)
      · replace h := h.1 hc
        exact h
      · replace h := h.2 hc
        refine Ev_rn (q := (776, [(50, 500), (17, 0), (18, 400), (0, x3)], [(0, 0)], m6)) 1 rfl ?_
        exact Ev_zret rfl rfl (by decide) h
set_option maxRecDepth 100000 in
theorem b_Lw_777 {d : Nat} {r : Option Vv × Mm} {m : Mm} {x3 : Int} (h : (0 ≤ w32 (x3 + 1) ∧ w32 (x3 + 1) < m 500 (-1)) ∧ (∃ (v1 : Int) (m1 : Mm), Cl d k_Th_home [(17, 0), (0, m 500 (w32 (x3 + 1)))] m (some (0, v1), m1) ∧ ((0 ≤ w32 (x3 + 1) ∧ w32 (x3 + 1) < m1 500 (-1)) ∧ (∃ (v2 : Int) (m2 : Mm), Cl d k_Mo_home [(18, 400), (0, m1 500 (w32 (x3 + 1)))] m1 (some (0, v2), m2) ∧ ((v1 = v2 → Ev (d + 1) K_Lw 2 1083 [(50, 500), (17, 0), (18, 400), (0, x3)] [] m2 r) ∧ (¬ (v1 = v2) → r = (some (0, 0), m2))))))) : Ev (d + 1) K_Lw 2 777 [(50, 500), (17, 0), (18, 400), (0, x3)] [] m r := by
  refine Ev_rn (q := (782, [(50, 500), (17, 0), (18, 400), (0, x3)], [(0, w32 (x3 + 1)), (50, 500), (17, 0)], m)) 5 rfl ?_
  obtain ⟨hc, h⟩ := h
  refine Ev_scr rfl hc ?_
  obtain ⟨v1, m1, hc, h⟩ := h
  refine Ev_call (rest := []) rfl rfl (Nat.le_of_ble_eq_true rfl) hc ?_
  refine Ev_rn (q := (789, [(50, 500), (17, 0), (18, 400), (0, x3)], [(0, w32 (x3 + 1)), (50, 500), (18, 400), (0, v1)], m1)) 5 rfl ?_
  obtain ⟨hc, h⟩ := h
  refine Ev_scr rfl hc ?_
  obtain ⟨v2, m2, hc, h⟩ := h
  refine Ev_call (rest := [(0, v1)]) rfl rfl (Nat.le_of_ble_eq_true rfl) hc ?_
  refine Ev_icmp rfl (fun hc => ?_) (fun hc => ?_)
  · replace h := h.1 hc
    exact h
  · replace h := h.2 hc
    refine Ev_rn (q := (793, [(50, 500), (17, 0), (18, 400), (0, x3)], [(0, 0)], m2)) 1 rfl ?_
    exact Ev_zret rfl rfl (by decide) h
set_option maxRecDepth 100000 in
theorem b_Lw_794 {d : Nat} {r : Option Vv × Mm} {m : Mm} {x3 : Int} (h : (0 ≤ w32 (x3 + 1) ∧ w32 (x3 + 1) < m 500 (-1)) ∧ ((0 ≤ w32 (x3 + 2) ∧ w32 (x3 + 2) < m 500 (-1)) ∧ ((m 500 (w32 (x3 + 2)) = 0 → ∃ (v1 : Int) (m1 : Mm), Cl d k_Th_gates [(17, 0), (0, m 500 (w32 (x3 + 1))), (0, 0)] m (some (0, v1), m1) ∧ ((0 ≤ w32 (x3 + 1) ∧ w32 (x3 + 1) < m1 500 (-1)) ∧ ((0 ≤ w32 (x3 + 2) ∧ w32 (x3 + 2) < m1 500 (-1)) ∧ ((m1 500 (w32 (x3 + 2)) = 0 → ∃ (v2 : Int) (m2 : Mm), Cl d k_Mo_gates [(18, 400), (0, m1 500 (w32 (x3 + 1))), (0, 0)] m1 (some (0, v2), m2) ∧ ((v1 = v2 → Ev (d + 1) K_Lw 2 1083 [(50, 500), (17, 0), (18, 400), (0, x3)] [] m2 r) ∧ (¬ (v1 = v2) → r = (some (0, 0), m2)))) ∧ (¬ (m1 500 (w32 (x3 + 2)) = 0) → ∃ (v3 : Int) (m3 : Mm), Cl d k_Mo_gates [(18, 400), (0, m1 500 (w32 (x3 + 1))), (0, 1)] m1 (some (0, v3), m3) ∧ ((v1 = v3 → Ev (d + 1) K_Lw 2 1083 [(50, 500), (17, 0), (18, 400), (0, x3)] [] m3 r) ∧ (¬ (v1 = v3) → r = (some (0, 0), m3)))))))) ∧ (¬ (m 500 (w32 (x3 + 2)) = 0) → ∃ (v4 : Int) (m4 : Mm), Cl d k_Th_gates [(17, 0), (0, m 500 (w32 (x3 + 1))), (0, 1)] m (some (0, v4), m4) ∧ ((0 ≤ w32 (x3 + 1) ∧ w32 (x3 + 1) < m4 500 (-1)) ∧ ((0 ≤ w32 (x3 + 2) ∧ w32 (x3 + 2) < m4 500 (-1)) ∧ ((m4 500 (w32 (x3 + 2)) = 0 → ∃ (v5 : Int) (m5 : Mm), Cl d k_Mo_gates [(18, 400), (0, m4 500 (w32 (x3 + 1))), (0, 0)] m4 (some (0, v5), m5) ∧ ((v4 = v5 → Ev (d + 1) K_Lw 2 1083 [(50, 500), (17, 0), (18, 400), (0, x3)] [] m5 r) ∧ (¬ (v4 = v5) → r = (some (0, 0), m5)))) ∧ (¬ (m4 500 (w32 (x3 + 2)) = 0) → ∃ (v6 : Int) (m6 : Mm), Cl d k_Mo_gates [(18, 400), (0, m4 500 (w32 (x3 + 1))), (0, 1)] m4 (some (0, v6), m6) ∧ ((v4 = v6 → Ev (d + 1) K_Lw 2 1083 [(50, 500), (17, 0), (18, 400), (0, x3)] [] m6 r) ∧ (¬ (v4 = v6) → r = (some (0, 0), m6))))))))))) : Ev (d + 1) K_Lw 2 794 [(50, 500), (17, 0), (18, 400), (0, x3)] [] m r := by
  refine Ev_rn (q := (799, [(50, 500), (17, 0), (18, 400), (0, x3)], [(0, w32 (x3 + 1)), (50, 500), (17, 0)], m)) 5 rfl ?_
  obtain ⟨hc, h⟩ := h
  refine Ev_scr rfl hc ?_
  refine Ev_rn (q := (804, [(50, 500), (17, 0), (18, 400), (0, x3)], [(0, w32 (x3 + 2)), (50, 500), (0, m 500 (w32 (x3 + 1))), (17, 0)], m)) 4 rfl ?_
  obtain ⟨hc, h⟩ := h
  refine Ev_scr rfl hc ?_
  refine Ev_if rfl (fun hc => ?_) (fun hc => ?_)
  · replace h := h.1 hc
    refine Ev_rn (q := (809, [(50, 500), (17, 0), (18, 400), (0, x3)], [(0, 0), (0, m 500 (w32 (x3 + 1))), (17, 0)], m)) 1 rfl ?_
    obtain ⟨v1, m1, hc, h⟩ := h
    refine Ev_call (rest := []) rfl rfl (Nat.le_of_ble_eq_true rfl) hc ?_
    refine Ev_rn (q := (815, [(50, 500), (17, 0), (18, 400), (0, x3)], [(0, w32 (x3 + 1)), (50, 500), (18, 400), (0, v1)], m1)) 5 rfl ?_
    obtain ⟨hc, h⟩ := h
    refine Ev_scr rfl hc ?_
    refine Ev_rn (q := (820, [(50, 500), (17, 0), (18, 400), (0, x3)], [(0, w32 (x3 + 2)), (50, 500), (0, m1 500 (w32 (x3 + 1))), (18, 400), (0, v1)], m1)) 4 rfl ?_
    obtain ⟨hc, h⟩ := h
    refine Ev_scr rfl hc ?_
    refine Ev_if rfl (fun hc => ?_) (fun hc => ?_)
    · replace h := h.1 hc
      refine Ev_rn (q := (825, [(50, 500), (17, 0), (18, 400), (0, x3)], [(0, 0), (0, m1 500 (w32 (x3 + 1))), (18, 400), (0, v1)], m1)) 1 rfl ?_
      obtain ⟨v2, m2, hc, h⟩ := h
      refine Ev_call (rest := [(0, v1)]) rfl rfl (Nat.le_of_ble_eq_true rfl) hc ?_
      refine Ev_icmp rfl (fun hc => ?_) (fun hc => ?_)
      · replace h := h.1 hc
        exact h
      · replace h := h.2 hc
        refine Ev_rn (q := (828, [(50, 500), (17, 0), (18, 400), (0, x3)], [(0, 0)], m2)) 1 rfl ?_
        exact Ev_zret rfl rfl (by decide) h
    · replace h := h.2 hc
      refine Ev_rn (q := (825, [(50, 500), (17, 0), (18, 400), (0, x3)], [(0, 1), (0, m1 500 (w32 (x3 + 1))), (18, 400), (0, v1)], m1)) 2 rfl ?_
      obtain ⟨v3, m3, hc, h⟩ := h
      refine Ev_call (rest := [(0, v1)]) rfl rfl (Nat.le_of_ble_eq_true rfl) hc ?_
      refine Ev_icmp rfl (fun hc => ?_) (fun hc => ?_)
      · replace h := h.1 hc
        exact h
      · replace h := h.2 hc
        refine Ev_rn (q := (828, [(50, 500), (17, 0), (18, 400), (0, x3)], [(0, 0)], m3)) 1 rfl ?_
        exact Ev_zret rfl rfl (by decide) h
  · replace h := h.2 hc
    refine Ev_rn (q := (809, [(50, 500), (17, 0), (18, 400), (0, x3)], [(0, 1), (0, m 500 (w32 (x3 + 1))), (17, 0)], m)) 2 rfl ?_
    obtain ⟨v4, m4, hc, h⟩ := h
    refine Ev_call (rest := []) rfl rfl (Nat.le_of_ble_eq_true rfl) hc ?_
    refine Ev_rn (q := (815, [(50, 500), (17, 0), (18, 400), (0, x3)], [(0, w32 (x3 + 1)), (50, 500), (18, 400), (0, v4)], m4)) 5 rfl ?_
    obtain ⟨hc, h⟩ := h
    refine Ev_scr rfl hc ?_
    refine Ev_rn (q := (820, [(50, 500), (17, 0), (18, 400), (0, x3)], [(0, w32 (x3 + 2)), (50, 500), (0, m4 500 (w32 (x3 + 1))), (18, 400), (0, v4)], m4)) 4 rfl ?_
    obtain ⟨hc, h⟩ := h
    refine Ev_scr rfl hc ?_
    refine Ev_if rfl (fun hc => ?_) (fun hc => ?_)
    · replace h := h.1 hc
      refine Ev_rn (q := (825, [(50, 500), (17, 0), (18, 400), (0, x3)], [(0, 0), (0, m4 500 (w32 (x3 + 1))), (18, 400), (0, v4)], m4)) 1 rfl ?_
      obtain ⟨v5, m5, hc, h⟩ := h
      refine Ev_call (rest := [(0, v4)]) rfl rfl (Nat.le_of_ble_eq_true rfl) hc ?_
      refine Ev_icmp rfl (fun hc => ?_) (fun hc => ?_)
      · replace h := h.1 hc
        exact h
      · replace h := h.2 hc
        refine Ev_rn (q := (828, [(50, 500), (17, 0), (18, 400), (0, x3)], [(0, 0)], m5)) 1 rfl ?_
        exact Ev_zret rfl rfl (by decide) h
    · replace h := h.2 hc
      refine Ev_rn (q := (825, [(50, 500), (17, 0), (18, 400), (0, x3)], [(0, 1), (0, m4 500 (w32 (x3 + 1))), (18, 400), (0, v4)], m4)) 2 rfl ?_
      obtain ⟨v6, m6, hc, h⟩ := h
      refine Ev_call (rest := [(0, v4)]) rfl rfl (Nat.le_of_ble_eq_true rfl) hc ?_
      refine Ev_icmp rfl (fun hc => ?_) (fun hc => ?_)
      · replace h := h.1 hc
        exact h
      · replace h := h.2 hc
        refine Ev_rn (q := (828, [(50, 500), (17, 0), (18, 400), (0, x3)], [(0, 0)], m6)) 1 rfl ?_
        exact Ev_zret rfl rfl (by decide) h
set_option maxRecDepth 100000 in
theorem b_Lw_829 {d : Nat} {r : Option Vv × Mm} {m : Mm} {x3 : Int} (h : (0 ≤ w32 (x3 + 1) ∧ w32 (x3 + 1) < m 500 (-1)) ∧ ((0 ≤ w32 (x3 + 2) ∧ w32 (x3 + 2) < m 500 (-1)) ∧ ((0 ≤ w32 (x3 + 3) ∧ w32 (x3 + 3) < m 500 (-1)) ∧ ((m 500 (w32 (x3 + 3)) = 0 → ∃ (v1 : Int) (m1 : Mm), Cl d k_Th_turned [(17, 0), (0, m 500 (w32 (x3 + 1))), (0, m 500 (w32 (x3 + 2))), (0, 0)] m (some (0, v1), m1) ∧ ((0 ≤ w32 (x3 + 1) ∧ w32 (x3 + 1) < m1 500 (-1)) ∧ ((0 ≤ w32 (x3 + 2) ∧ w32 (x3 + 2) < m1 500 (-1)) ∧ ((0 ≤ w32 (x3 + 3) ∧ w32 (x3 + 3) < m1 500 (-1)) ∧ ((m1 500 (w32 (x3 + 3)) = 0 → ∃ (v2 : Int) (m2 : Mm), Cl d k_Mo_turned [(18, 400), (0, m1 500 (w32 (x3 + 1))), (0, m1 500 (w32 (x3 + 2))), (0, 0)] m1 (some (0, v2), m2) ∧ ((v1 = v2 → Ev (d + 1) K_Lw 2 1083 [(50, 500), (17, 0), (18, 400), (0, x3)] [] m2 r) ∧ (¬ (v1 = v2) → r = (some (0, 0), m2)))) ∧ (¬ (m1 500 (w32 (x3 + 3)) = 0) → ∃ (v3 : Int) (m3 : Mm), Cl d k_Mo_turned [(18, 400), (0, m1 500 (w32 (x3 + 1))), (0, m1 500 (w32 (x3 + 2))), (0, 1)] m1 (some (0, v3), m3) ∧ ((v1 = v3 → Ev (d + 1) K_Lw 2 1083 [(50, 500), (17, 0), (18, 400), (0, x3)] [] m3 r) ∧ (¬ (v1 = v3) → r = (some (0, 0), m3))))))))) ∧ (¬ (m 500 (w32 (x3 + 3)) = 0) → ∃ (v4 : Int) (m4 : Mm), Cl d k_Th_turned [(17, 0), (0, m 500 (w32 (x3 + 1))), (0, m 500 (w32 (x3 + 2))), (0, 1)] m (some (0, v4), m4) ∧ ((0 ≤ w32 (x3 + 1) ∧ w32 (x3 + 1) < m4 500 (-1)) ∧ ((0 ≤ w32 (x3 + 2) ∧ w32 (x3 + 2) < m4 500 (-1)) ∧ ((0 ≤ w32 (x3 + 3) ∧ w32 (x3 + 3) < m4 500 (-1)) ∧ ((m4 500 (w32 (x3 + 3)) = 0 → ∃ (v5 : Int) (m5 : Mm), Cl d k_Mo_turned [(18, 400), (0, m4 500 (w32 (x3 + 1))), (0, m4 500 (w32 (x3 + 2))), (0, 0)] m4 (some (0, v5), m5) ∧ ((v4 = v5 → Ev (d + 1) K_Lw 2 1083 [(50, 500), (17, 0), (18, 400), (0, x3)] [] m5 r) ∧ (¬ (v4 = v5) → r = (some (0, 0), m5)))) ∧ (¬ (m4 500 (w32 (x3 + 3)) = 0) → ∃ (v6 : Int) (m6 : Mm), Cl d k_Mo_turned [(18, 400), (0, m4 500 (w32 (x3 + 1))), (0, m4 500 (w32 (x3 + 2))), (0, 1)] m4 (some (0, v6), m6) ∧ ((v4 = v6 → Ev (d + 1) K_Lw 2 1083 [(50, 500), (17, 0), (18, 400), (0, x3)] [] m6 r) ∧ (¬ (v4 = v6) → r = (some (0, 0), m6))))))))))))) : Ev (d + 1) K_Lw 2 829 [(50, 500), (17, 0), (18, 400), (0, x3)] [] m r := by
  refine Ev_rn (q := (834, [(50, 500), (17, 0), (18, 400), (0, x3)], [(0, w32 (x3 + 1)), (50, 500), (17, 0)], m)) 5 rfl ?_
  obtain ⟨hc, h⟩ := h
  refine Ev_scr rfl hc ?_
  refine Ev_rn (q := (839, [(50, 500), (17, 0), (18, 400), (0, x3)], [(0, w32 (x3 + 2)), (50, 500), (0, m 500 (w32 (x3 + 1))), (17, 0)], m)) 4 rfl ?_
  obtain ⟨hc, h⟩ := h
  refine Ev_scr rfl hc ?_
  refine Ev_rn (q := (844, [(50, 500), (17, 0), (18, 400), (0, x3)], [(0, w32 (x3 + 3)), (50, 500), (0, m 500 (w32 (x3 + 2))), (0, m 500 (w32 (x3 + 1))), (17, 0)], m)) 4 rfl ?_
  obtain ⟨hc, h⟩ := h
  refine Ev_scr rfl hc ?_
  refine Ev_if rfl (fun hc => ?_) (fun hc => ?_)
  · replace h := h.1 hc
    refine Ev_rn (q := (849, [(50, 500), (17, 0), (18, 400), (0, x3)], [(0, 0), (0, m 500 (w32 (x3 + 2))), (0, m 500 (w32 (x3 + 1))), (17, 0)], m)) 1 rfl ?_
    obtain ⟨v1, m1, hc, h⟩ := h
    refine Ev_call (rest := []) rfl rfl (Nat.le_of_ble_eq_true rfl) hc ?_
    refine Ev_rn (q := (855, [(50, 500), (17, 0), (18, 400), (0, x3)], [(0, w32 (x3 + 1)), (50, 500), (18, 400), (0, v1)], m1)) 5 rfl ?_
    obtain ⟨hc, h⟩ := h
    refine Ev_scr rfl hc ?_
    refine Ev_rn (q := (860, [(50, 500), (17, 0), (18, 400), (0, x3)], [(0, w32 (x3 + 2)), (50, 500), (0, m1 500 (w32 (x3 + 1))), (18, 400), (0, v1)], m1)) 4 rfl ?_
    obtain ⟨hc, h⟩ := h
    refine Ev_scr rfl hc ?_
    refine Ev_rn (q := (865, [(50, 500), (17, 0), (18, 400), (0, x3)], [(0, w32 (x3 + 3)), (50, 500), (0, m1 500 (w32 (x3 + 2))), (0, m1 500 (w32 (x3 + 1))), (18, 400), (0, v1)], m1)) 4 rfl ?_
    obtain ⟨hc, h⟩ := h
    refine Ev_scr rfl hc ?_
    refine Ev_if rfl (fun hc => ?_) (fun hc => ?_)
    · replace h := h.1 hc
      refine Ev_rn (q := (870, [(50, 500), (17, 0), (18, 400), (0, x3)], [(0, 0), (0, m1 500 (w32 (x3 + 2))), (0, m1 500 (w32 (x3 + 1))), (18, 400), (0, v1)], m1)) 1 rfl ?_
      obtain ⟨v2, m2, hc, h⟩ := h
      refine Ev_call (rest := [(0, v1)]) rfl rfl (Nat.le_of_ble_eq_true rfl) hc ?_
      refine Ev_icmp rfl (fun hc => ?_) (fun hc => ?_)
      · replace h := h.1 hc
        exact h
      · replace h := h.2 hc
        refine Ev_rn (q := (873, [(50, 500), (17, 0), (18, 400), (0, x3)], [(0, 0)], m2)) 1 rfl ?_
        exact Ev_zret rfl rfl (by decide) h
    · replace h := h.2 hc
      refine Ev_rn (q := (870, [(50, 500), (17, 0), (18, 400), (0, x3)], [(0, 1), (0, m1 500 (w32 (x3 + 2))), (0, m1 500 (w32 (x3 + 1))), (18, 400), (0, v1)], m1)) 2 rfl ?_
      obtain ⟨v3, m3, hc, h⟩ := h
      refine Ev_call (rest := [(0, v1)]) rfl rfl (Nat.le_of_ble_eq_true rfl) hc ?_
      refine Ev_icmp rfl (fun hc => ?_) (fun hc => ?_)
      · replace h := h.1 hc
        exact h
      · replace h := h.2 hc
        refine Ev_rn (q := (873, [(50, 500), (17, 0), (18, 400), (0, x3)], [(0, 0)], m3)) 1 rfl ?_
        exact Ev_zret rfl rfl (by decide) h
  · replace h := h.2 hc
    refine Ev_rn (q := (849, [(50, 500), (17, 0), (18, 400), (0, x3)], [(0, 1), (0, m 500 (w32 (x3 + 2))), (0, m 500 (w32 (x3 + 1))), (17, 0)], m)) 2 rfl ?_
    obtain ⟨v4, m4, hc, h⟩ := h
    refine Ev_call (rest := []) rfl rfl (Nat.le_of_ble_eq_true rfl) hc ?_
    refine Ev_rn (q := (855, [(50, 500), (17, 0), (18, 400), (0, x3)], [(0, w32 (x3 + 1)), (50, 500), (18, 400), (0, v4)], m4)) 5 rfl ?_
    obtain ⟨hc, h⟩ := h
    refine Ev_scr rfl hc ?_
    refine Ev_rn (q := (860, [(50, 500), (17, 0), (18, 400), (0, x3)], [(0, w32 (x3 + 2)), (50, 500), (0, m4 500 (w32 (x3 + 1))), (18, 400), (0, v4)], m4)) 4 rfl ?_
    obtain ⟨hc, h⟩ := h
    refine Ev_scr rfl hc ?_
    refine Ev_rn (q := (865, [(50, 500), (17, 0), (18, 400), (0, x3)], [(0, w32 (x3 + 3)), (50, 500), (0, m4 500 (w32 (x3 + 2))), (0, m4 500 (w32 (x3 + 1))), (18, 400), (0, v4)], m4)) 4 rfl ?_
    obtain ⟨hc, h⟩ := h
    refine Ev_scr rfl hc ?_
    refine Ev_if rfl (fun hc => ?_) (fun hc => ?_)
    · replace h := h.1 hc
      refine Ev_rn (q := (870, [(50, 500), (17, 0), (18, 400), (0, x3)], [(0, 0), (0, m4 500 (w32 (x3 + 2))), (0, m4 500 (w32 (x3 + 1))), (18, 400), (0, v4)], m4)) 1 rfl ?_
      obtain ⟨v5, m5, hc, h⟩ := h
      refine Ev_call (rest := [(0, v4)]) rfl rfl (Nat.le_of_ble_eq_true rfl) hc ?_
      refine Ev_icmp rfl (fun hc => ?_) (fun hc => ?_)
      · replace h := h.1 hc
        exact h
      · replace h := h.2 hc
        refine Ev_rn (q := (873, [(50, 500), (17, 0), (18, 400), (0, x3)], [(0, 0)], m5)) 1 rfl ?_
        exact Ev_zret rfl rfl (by decide) h
    · replace h := h.2 hc
      refine Ev_rn (q := (870, [(50, 500), (17, 0), (18, 400), (0, x3)], [(0, 1), (0, m4 500 (w32 (x3 + 2))), (0, m4 500 (w32 (x3 + 1))), (18, 400), (0, v4)], m4)) 2 rfl ?_
      obtain ⟨v6, m6, hc, h⟩ := h
      refine Ev_call (rest := [(0, v4)]) rfl rfl (Nat.le_of_ble_eq_true rfl) hc ?_
      refine Ev_icmp rfl (fun hc => ?_) (fun hc => ?_)
      · replace h := h.1 hc
        exact h
      · replace h := h.2 hc
        refine Ev_rn (q := (873, [(50, 500), (17, 0), (18, 400), (0, x3)], [(0, 0)], m6)) 1 rfl ?_
        exact Ev_zret rfl rfl (by decide) h
set_option maxRecDepth 100000 in
theorem b_Lw_874 {d : Nat} {r : Option Vv × Mm} {m : Mm} {x3 : Int} (h : (0 ≤ w32 (x3 + 1) ∧ w32 (x3 + 1) < m 500 (-1)) ∧ ((0 ≤ w32 (x3 + 2) ∧ w32 (x3 + 2) < m 500 (-1)) ∧ ((m 500 (w32 (x3 + 2)) = 0 → ∃ (v1 : Int) (m1 : Mm), Cl d k_Th_unlike [(17, 0), (0, m 500 (w32 (x3 + 1))), (0, 0)] m (some (0, v1), m1) ∧ ((0 ≤ w32 (x3 + 1) ∧ w32 (x3 + 1) < m1 500 (-1)) ∧ ((0 ≤ w32 (x3 + 2) ∧ w32 (x3 + 2) < m1 500 (-1)) ∧ ((m1 500 (w32 (x3 + 2)) = 0 → ∃ (v2 : Int) (m2 : Mm), Cl d k_Mo_unlike [(18, 400), (0, m1 500 (w32 (x3 + 1))), (0, 0)] m1 (some (0, v2), m2) ∧ ((v1 = v2 → Ev (d + 1) K_Lw 2 1083 [(50, 500), (17, 0), (18, 400), (0, x3)] [] m2 r) ∧ (¬ (v1 = v2) → r = (some (0, 0), m2)))) ∧ (¬ (m1 500 (w32 (x3 + 2)) = 0) → ∃ (v3 : Int) (m3 : Mm), Cl d k_Mo_unlike [(18, 400), (0, m1 500 (w32 (x3 + 1))), (0, 1)] m1 (some (0, v3), m3) ∧ ((v1 = v3 → Ev (d + 1) K_Lw 2 1083 [(50, 500), (17, 0), (18, 400), (0, x3)] [] m3 r) ∧ (¬ (v1 = v3) → r = (some (0, 0), m3)))))))) ∧ (¬ (m 500 (w32 (x3 + 2)) = 0) → ∃ (v4 : Int) (m4 : Mm), Cl d k_Th_unlike [(17, 0), (0, m 500 (w32 (x3 + 1))), (0, 1)] m (some (0, v4), m4) ∧ ((0 ≤ w32 (x3 + 1) ∧ w32 (x3 + 1) < m4 500 (-1)) ∧ ((0 ≤ w32 (x3 + 2) ∧ w32 (x3 + 2) < m4 500 (-1)) ∧ ((m4 500 (w32 (x3 + 2)) = 0 → ∃ (v5 : Int) (m5 : Mm), Cl d k_Mo_unlike [(18, 400), (0, m4 500 (w32 (x3 + 1))), (0, 0)] m4 (some (0, v5), m5) ∧ ((v4 = v5 → Ev (d + 1) K_Lw 2 1083 [(50, 500), (17, 0), (18, 400), (0, x3)] [] m5 r) ∧ (¬ (v4 = v5) → r = (some (0, 0), m5)))) ∧ (¬ (m4 500 (w32 (x3 + 2)) = 0) → ∃ (v6 : Int) (m6 : Mm), Cl d k_Mo_unlike [(18, 400), (0, m4 500 (w32 (x3 + 1))), (0, 1)] m4 (some (0, v6), m6) ∧ ((v4 = v6 → Ev (d + 1) K_Lw 2 1083 [(50, 500), (17, 0), (18, 400), (0, x3)] [] m6 r) ∧ (¬ (v4 = v6) → r = (some (0, 0), m6))))))))))) : Ev (d + 1) K_Lw 2 874 [(50, 500), (17, 0), (18, 400), (0, x3)] [] m r := by
  refine Ev_rn (q := (879, [(50, 500), (17, 0), (18, 400), (0, x3)], [(0, w32 (x3 + 1)), (50, 500), (17, 0)], m)) 5 rfl ?_
  obtain ⟨hc, h⟩ := h
  refine Ev_scr rfl hc ?_
  refine Ev_rn (q := (884, [(50, 500), (17, 0), (18, 400), (0, x3)], [(0, w32 (x3 + 2)), (50, 500), (0, m 500 (w32 (x3 + 1))), (17, 0)], m)) 4 rfl ?_
  obtain ⟨hc, h⟩ := h
  refine Ev_scr rfl hc ?_
  refine Ev_if rfl (fun hc => ?_) (fun hc => ?_)
  · replace h := h.1 hc
    refine Ev_rn (q := (889, [(50, 500), (17, 0), (18, 400), (0, x3)], [(0, 0), (0, m 500 (w32 (x3 + 1))), (17, 0)], m)) 1 rfl ?_
    obtain ⟨v1, m1, hc, h⟩ := h
    refine Ev_call (rest := []) rfl rfl (Nat.le_of_ble_eq_true rfl) hc ?_
    refine Ev_rn (q := (895, [(50, 500), (17, 0), (18, 400), (0, x3)], [(0, w32 (x3 + 1)), (50, 500), (18, 400), (0, v1)], m1)) 5 rfl ?_
    obtain ⟨hc, h⟩ := h
    refine Ev_scr rfl hc ?_
    refine Ev_rn (q := (900, [(50, 500), (17, 0), (18, 400), (0, x3)], [(0, w32 (x3 + 2)), (50, 500), (0, m1 500 (w32 (x3 + 1))), (18, 400), (0, v1)], m1)) 4 rfl ?_
    obtain ⟨hc, h⟩ := h
    refine Ev_scr rfl hc ?_
    refine Ev_if rfl (fun hc => ?_) (fun hc => ?_)
    · replace h := h.1 hc
      refine Ev_rn (q := (905, [(50, 500), (17, 0), (18, 400), (0, x3)], [(0, 0), (0, m1 500 (w32 (x3 + 1))), (18, 400), (0, v1)], m1)) 1 rfl ?_
      obtain ⟨v2, m2, hc, h⟩ := h
      refine Ev_call (rest := [(0, v1)]) rfl rfl (Nat.le_of_ble_eq_true rfl) hc ?_
      refine Ev_icmp rfl (fun hc => ?_) (fun hc => ?_)
      · replace h := h.1 hc
        exact h
      · replace h := h.2 hc
        refine Ev_rn (q := (908, [(50, 500), (17, 0), (18, 400), (0, x3)], [(0, 0)], m2)) 1 rfl ?_
        exact Ev_zret rfl rfl (by decide) h
    · replace h := h.2 hc
      refine Ev_rn (q := (905, [(50, 500), (17, 0), (18, 400), (0, x3)], [(0, 1), (0, m1 500 (w32 (x3 + 1))), (18, 400), (0, v1)], m1)) 2 rfl ?_
      obtain ⟨v3, m3, hc, h⟩ := h
      refine Ev_call (rest := [(0, v1)]) rfl rfl (Nat.le_of_ble_eq_true rfl) hc ?_
      refine Ev_icmp rfl (fun hc => ?_) (fun hc => ?_)
      · replace h := h.1 hc
        exact h
      · replace h := h.2 hc
        refine Ev_rn (q := (908, [(50, 500), (17, 0), (18, 400), (0, x3)], [(0, 0)], m3)) 1 rfl ?_
        exact Ev_zret rfl rfl (by decide) h
  · replace h := h.2 hc
    refine Ev_rn (q := (889, [(50, 500), (17, 0), (18, 400), (0, x3)], [(0, 1), (0, m 500 (w32 (x3 + 1))), (17, 0)], m)) 2 rfl ?_
    obtain ⟨v4, m4, hc, h⟩ := h
    refine Ev_call (rest := []) rfl rfl (Nat.le_of_ble_eq_true rfl) hc ?_
    refine Ev_rn (q := (895, [(50, 500), (17, 0), (18, 400), (0, x3)], [(0, w32 (x3 + 1)), (50, 500), (18, 400), (0, v4)], m4)) 5 rfl ?_
    obtain ⟨hc, h⟩ := h
    refine Ev_scr rfl hc ?_
    refine Ev_rn (q := (900, [(50, 500), (17, 0), (18, 400), (0, x3)], [(0, w32 (x3 + 2)), (50, 500), (0, m4 500 (w32 (x3 + 1))), (18, 400), (0, v4)], m4)) 4 rfl ?_
    obtain ⟨hc, h⟩ := h
    refine Ev_scr rfl hc ?_
    refine Ev_if rfl (fun hc => ?_) (fun hc => ?_)
    · replace h := h.1 hc
      refine Ev_rn (q := (905, [(50, 500), (17, 0), (18, 400), (0, x3)], [(0, 0), (0, m4 500 (w32 (x3 + 1))), (18, 400), (0, v4)], m4)) 1 rfl ?_
      obtain ⟨v5, m5, hc, h⟩ := h
      refine Ev_call (rest := [(0, v4)]) rfl rfl (Nat.le_of_ble_eq_true rfl) hc ?_
      refine Ev_icmp rfl (fun hc => ?_) (fun hc => ?_)
      · replace h := h.1 hc
        exact h
      · replace h := h.2 hc
        refine Ev_rn (q := (908, [(50, 500), (17, 0), (18, 400), (0, x3)], [(0, 0)], m5)) 1 rfl ?_
        exact Ev_zret rfl rfl (by decide) h
    · replace h := h.2 hc
      refine Ev_rn (q := (905, [(50, 500), (17, 0), (18, 400), (0, x3)], [(0, 1), (0, m4 500 (w32 (x3 + 1))), (18, 400), (0, v4)], m4)) 2 rfl ?_
      obtain ⟨v6, m6, hc, h⟩ := h
      refine Ev_call (rest := [(0, v4)]) rfl rfl (Nat.le_of_ble_eq_true rfl) hc ?_
      refine Ev_icmp rfl (fun hc => ?_) (fun hc => ?_)
      · replace h := h.1 hc
        exact h
      · replace h := h.2 hc
        refine Ev_rn (q := (908, [(50, 500), (17, 0), (18, 400), (0, x3)], [(0, 0)], m6)) 1 rfl ?_
        exact Ev_zret rfl rfl (by decide) h
set_option maxRecDepth 100000 in
theorem b_Lw_909 {d : Nat} {r : Option Vv × Mm} {m : Mm} {x3 : Int} (h : (0 ≤ w32 (x3 + 1) ∧ w32 (x3 + 1) < m 500 (-1)) ∧ (∃ (v1 : Int) (m1 : Mm), Cl d k_Th_owner [(17, 0), (0, m 500 (w32 (x3 + 1)))] m (some (0, v1), m1) ∧ ((0 ≤ w32 (x3 + 1) ∧ w32 (x3 + 1) < m1 500 (-1)) ∧ (∃ (v2 : Int) (m2 : Mm), Cl d k_Mo_owner [(18, 400), (0, m1 500 (w32 (x3 + 1)))] m1 (some (0, v2), m2) ∧ ((v1 = v2 → Ev (d + 1) K_Lw 2 1083 [(50, 500), (17, 0), (18, 400), (0, x3)] [] m2 r) ∧ (¬ (v1 = v2) → r = (some (0, 0), m2))))))) : Ev (d + 1) K_Lw 2 909 [(50, 500), (17, 0), (18, 400), (0, x3)] [] m r := by
  refine Ev_rn (q := (914, [(50, 500), (17, 0), (18, 400), (0, x3)], [(0, w32 (x3 + 1)), (50, 500), (17, 0)], m)) 5 rfl ?_
  obtain ⟨hc, h⟩ := h
  refine Ev_scr rfl hc ?_
  obtain ⟨v1, m1, hc, h⟩ := h
  refine Ev_call (rest := []) rfl rfl (Nat.le_of_ble_eq_true rfl) hc ?_
  refine Ev_rn (q := (921, [(50, 500), (17, 0), (18, 400), (0, x3)], [(0, w32 (x3 + 1)), (50, 500), (18, 400), (0, v1)], m1)) 5 rfl ?_
  obtain ⟨hc, h⟩ := h
  refine Ev_scr rfl hc ?_
  obtain ⟨v2, m2, hc, h⟩ := h
  refine Ev_call (rest := [(0, v1)]) rfl rfl (Nat.le_of_ble_eq_true rfl) hc ?_
  refine Ev_icmp rfl (fun hc => ?_) (fun hc => ?_)
  · replace h := h.1 hc
    exact h
  · replace h := h.2 hc
    refine Ev_rn (q := (925, [(50, 500), (17, 0), (18, 400), (0, x3)], [(0, 0)], m2)) 1 rfl ?_
    exact Ev_zret rfl rfl (by decide) h
set_option maxRecDepth 100000 in
theorem b_Lw_926 {d : Nat} {r : Option Vv × Mm} {m : Mm} {x3 : Int} (h : (0 ≤ w32 (x3 + 1) ∧ w32 (x3 + 1) < m 500 (-1)) ∧ ((0 ≤ w32 (x3 + 2) ∧ w32 (x3 + 2) < m 500 (-1)) ∧ (∃ (v1 : Int) (m1 : Mm), Cl d k_Th_twins [(17, 0), (0, m 500 (w32 (x3 + 1))), (0, m 500 (w32 (x3 + 2)))] m (some (0, v1), m1) ∧ ((0 ≤ w32 (x3 + 1) ∧ w32 (x3 + 1) < m1 500 (-1)) ∧ ((0 ≤ w32 (x3 + 2) ∧ w32 (x3 + 2) < m1 500 (-1)) ∧ (∃ (v2 : Int) (m2 : Mm), Cl d k_Mo_twins [(18, 400), (0, m1 500 (w32 (x3 + 1))), (0, m1 500 (w32 (x3 + 2)))] m1 (some (0, v2), m2) ∧ ((v1 = v2 → Ev (d + 1) K_Lw 2 1083 [(50, 500), (17, 0), (18, 400), (0, x3)] [] m2 r) ∧ (¬ (v1 = v2) → r = (some (0, 0), m2))))))))) : Ev (d + 1) K_Lw 2 926 [(50, 500), (17, 0), (18, 400), (0, x3)] [] m r := by
  refine Ev_rn (q := (931, [(50, 500), (17, 0), (18, 400), (0, x3)], [(0, w32 (x3 + 1)), (50, 500), (17, 0)], m)) 5 rfl ?_
  obtain ⟨hc, h⟩ := h
  refine Ev_scr rfl hc ?_
  refine Ev_rn (q := (936, [(50, 500), (17, 0), (18, 400), (0, x3)], [(0, w32 (x3 + 2)), (50, 500), (0, m 500 (w32 (x3 + 1))), (17, 0)], m)) 4 rfl ?_
  obtain ⟨hc, h⟩ := h
  refine Ev_scr rfl hc ?_
  obtain ⟨v1, m1, hc, h⟩ := h
  refine Ev_call (rest := []) rfl rfl (Nat.le_of_ble_eq_true rfl) hc ?_
  refine Ev_rn (q := (943, [(50, 500), (17, 0), (18, 400), (0, x3)], [(0, w32 (x3 + 1)), (50, 500), (18, 400), (0, v1)], m1)) 5 rfl ?_
  obtain ⟨hc, h⟩ := h
  refine Ev_scr rfl hc ?_
  refine Ev_rn (q := (948, [(50, 500), (17, 0), (18, 400), (0, x3)], [(0, w32 (x3 + 2)), (50, 500), (0, m1 500 (w32 (x3 + 1))), (18, 400), (0, v1)], m1)) 4 rfl ?_
  obtain ⟨hc, h⟩ := h
  refine Ev_scr rfl hc ?_
  obtain ⟨v2, m2, hc, h⟩ := h
  refine Ev_call (rest := [(0, v1)]) rfl rfl (Nat.le_of_ble_eq_true rfl) hc ?_
  refine Ev_icmp rfl (fun hc => ?_) (fun hc => ?_)
  · replace h := h.1 hc
    exact h
  · replace h := h.2 hc
    refine Ev_rn (q := (952, [(50, 500), (17, 0), (18, 400), (0, x3)], [(0, 0)], m2)) 1 rfl ?_
    exact Ev_zret rfl rfl (by decide) h
set_option maxRecDepth 100000 in
theorem b_Lw_953 {d : Nat} {r : Option Vv × Mm} {m : Mm} {x3 : Int} (h : ∃ (v1 : Int) (m1 : Mm), Cl d k_Th_kinds [(17, 0)] m (some (0, v1), m1) ∧ (∃ (v2 : Int) (m2 : Mm), Cl d k_Mo_kinds [(18, 400)] m1 (some (0, v2), m2) ∧ ((v1 = v2 → Ev (d + 1) K_Lw 2 1083 [(50, 500), (17, 0), (18, 400), (0, x3)] [] m2 r) ∧ (¬ (v1 = v2) → r = (some (0, 0), m2))))) : Ev (d + 1) K_Lw 2 953 [(50, 500), (17, 0), (18, 400), (0, x3)] [] m r := by
  refine Ev_rn (q := (954, [(50, 500), (17, 0), (18, 400), (0, x3)], [(17, 0)], m)) 1 rfl ?_
  obtain ⟨v1, m1, hc, h⟩ := h
  refine Ev_call (rest := []) rfl rfl (Nat.le_of_ble_eq_true rfl) hc ?_
  refine Ev_rn (q := (956, [(50, 500), (17, 0), (18, 400), (0, x3)], [(18, 400), (0, v1)], m1)) 1 rfl ?_
  obtain ⟨v2, m2, hc, h⟩ := h
  refine Ev_call (rest := [(0, v1)]) rfl rfl (Nat.le_of_ble_eq_true rfl) hc ?_
  refine Ev_icmp rfl (fun hc => ?_) (fun hc => ?_)
  · replace h := h.1 hc
    exact h
  · replace h := h.2 hc
    refine Ev_rn (q := (959, [(50, 500), (17, 0), (18, 400), (0, x3)], [(0, 0)], m2)) 1 rfl ?_
    exact Ev_zret rfl rfl (by decide) h
set_option maxRecDepth 100000 in
theorem b_Lw_960 {d : Nat} {r : Option Vv × Mm} {m : Mm} {x3 : Int} (h : (0 ≤ w32 (x3 + 1) ∧ w32 (x3 + 1) < m 500 (-1)) ∧ (∃ (v1 : Int) (m1 : Mm), Cl d k_Th_selves [(17, 0), (0, m 500 (w32 (x3 + 1)))] m (some (0, v1), m1) ∧ ((0 ≤ w32 (x3 + 1) ∧ w32 (x3 + 1) < m1 500 (-1)) ∧ (∃ (v2 : Int) (m2 : Mm), Cl d k_Mo_selves [(18, 400), (0, m1 500 (w32 (x3 + 1)))] m1 (some (0, v2), m2) ∧ ((v1 = v2 → Ev (d + 1) K_Lw 2 1083 [(50, 500), (17, 0), (18, 400), (0, x3)] [] m2 r) ∧ (¬ (v1 = v2) → r = (some (0, 0), m2))))))) : Ev (d + 1) K_Lw 2 960 [(50, 500), (17, 0), (18, 400), (0, x3)] [] m r := by
  refine Ev_rn (q := (965, [(50, 500), (17, 0), (18, 400), (0, x3)], [(0, w32 (x3 + 1)), (50, 500), (17, 0)], m)) 5 rfl ?_
  obtain ⟨hc, h⟩ := h
  refine Ev_scr rfl hc ?_
  obtain ⟨v1, m1, hc, h⟩ := h
  refine Ev_call (rest := []) rfl rfl (Nat.le_of_ble_eq_true rfl) hc ?_
  refine Ev_rn (q := (972, [(50, 500), (17, 0), (18, 400), (0, x3)], [(0, w32 (x3 + 1)), (50, 500), (18, 400), (0, v1)], m1)) 5 rfl ?_
  obtain ⟨hc, h⟩ := h
  refine Ev_scr rfl hc ?_
  obtain ⟨v2, m2, hc, h⟩ := h
  refine Ev_call (rest := [(0, v1)]) rfl rfl (Nat.le_of_ble_eq_true rfl) hc ?_
  refine Ev_icmp rfl (fun hc => ?_) (fun hc => ?_)
  · replace h := h.1 hc
    exact h
  · replace h := h.2 hc
    refine Ev_rn (q := (976, [(50, 500), (17, 0), (18, 400), (0, x3)], [(0, 0)], m2)) 1 rfl ?_
    exact Ev_zret rfl rfl (by decide) h
set_option maxRecDepth 100000 in
theorem b_Lw_977 {d : Nat} {r : Option Vv × Mm} {m : Mm} {x3 : Int} (h : (0 ≤ w32 (x3 + 1) ∧ w32 (x3 + 1) < m 500 (-1)) ∧ (∃ (v1 : Int) (m1 : Mm), Cl d k_Th_look [(17, 0), (0, m 500 (w32 (x3 + 1)))] m (some (0, v1), m1) ∧ ((0 ≤ w32 (x3 + 1) ∧ w32 (x3 + 1) < m1 500 (-1)) ∧ (∃ (v2 : Int) (m2 : Mm), Cl d k_Mo_look [(18, 400), (0, m1 500 (w32 (x3 + 1)))] m1 (some (0, v2), m2) ∧ ((v1 = v2 → Ev (d + 1) K_Lw 2 1083 [(50, 500), (17, 0), (18, 400), (0, x3)] [] m2 r) ∧ (¬ (v1 = v2) → r = (some (0, 0), m2))))))) : Ev (d + 1) K_Lw 2 977 [(50, 500), (17, 0), (18, 400), (0, x3)] [] m r := by
  refine Ev_rn (q := (982, [(50, 500), (17, 0), (18, 400), (0, x3)], [(0, w32 (x3 + 1)), (50, 500), (17, 0)], m)) 5 rfl ?_
  obtain ⟨hc, h⟩ := h
  refine Ev_scr rfl hc ?_
  obtain ⟨v1, m1, hc, h⟩ := h
  refine Ev_call (rest := []) rfl rfl (Nat.le_of_ble_eq_true rfl) hc ?_
  refine Ev_rn (q := (989, [(50, 500), (17, 0), (18, 400), (0, x3)], [(0, w32 (x3 + 1)), (50, 500), (18, 400), (0, v1)], m1)) 5 rfl ?_
  obtain ⟨hc, h⟩ := h
  refine Ev_scr rfl hc ?_
  obtain ⟨v2, m2, hc, h⟩ := h
  refine Ev_call (rest := [(0, v1)]) rfl rfl (Nat.le_of_ble_eq_true rfl) hc ?_
  refine Ev_icmp rfl (fun hc => ?_) (fun hc => ?_)
  · replace h := h.1 hc
    exact h
  · replace h := h.2 hc
    refine Ev_rn (q := (993, [(50, 500), (17, 0), (18, 400), (0, x3)], [(0, 0)], m2)) 1 rfl ?_
    exact Ev_zret rfl rfl (by decide) h
set_option maxRecDepth 100000 in
theorem b_Lw_994 {d : Nat} {r : Option Vv × Mm} {m : Mm} {x3 : Int} (h : (0 ≤ w32 (x3 + 1) ∧ w32 (x3 + 1) < m 500 (-1)) ∧ ((0 ≤ w32 (x3 + 2) ∧ w32 (x3 + 2) < m 500 (-1)) ∧ (∃ (v1 : Int) (m1 : Mm), Cl d k_Th_said [(17, 0), (0, m 500 (w32 (x3 + 1))), (0, m 500 (w32 (x3 + 2)))] m (some (0, v1), m1) ∧ ((0 ≤ w32 (x3 + 1) ∧ w32 (x3 + 1) < m1 500 (-1)) ∧ ((0 ≤ w32 (x3 + 2) ∧ w32 (x3 + 2) < m1 500 (-1)) ∧ (∃ (v2 : Int) (m2 : Mm), Cl d k_Mo_said [(18, 400), (0, m1 500 (w32 (x3 + 1))), (0, m1 500 (w32 (x3 + 2)))] m1 (some (0, v2), m2) ∧ ((v1 = v2 → Ev (d + 1) K_Lw 2 1083 [(50, 500), (17, 0), (18, 400), (0, x3)] [] m2 r) ∧ (¬ (v1 = v2) → r = (some (0, 0), m2))))))))) : Ev (d + 1) K_Lw 2 994 [(50, 500), (17, 0), (18, 400), (0, x3)] [] m r := by
  refine Ev_rn (q := (999, [(50, 500), (17, 0), (18, 400), (0, x3)], [(0, w32 (x3 + 1)), (50, 500), (17, 0)], m)) 5 rfl ?_
  obtain ⟨hc, h⟩ := h
  refine Ev_scr rfl hc ?_
  refine Ev_rn (q := (1004, [(50, 500), (17, 0), (18, 400), (0, x3)], [(0, w32 (x3 + 2)), (50, 500), (0, m 500 (w32 (x3 + 1))), (17, 0)], m)) 4 rfl ?_
  obtain ⟨hc, h⟩ := h
  refine Ev_scr rfl hc ?_
  obtain ⟨v1, m1, hc, h⟩ := h
  refine Ev_call (rest := []) rfl rfl (Nat.le_of_ble_eq_true rfl) hc ?_
  refine Ev_rn (q := (1011, [(50, 500), (17, 0), (18, 400), (0, x3)], [(0, w32 (x3 + 1)), (50, 500), (18, 400), (0, v1)], m1)) 5 rfl ?_
  obtain ⟨hc, h⟩ := h
  refine Ev_scr rfl hc ?_
  refine Ev_rn (q := (1016, [(50, 500), (17, 0), (18, 400), (0, x3)], [(0, w32 (x3 + 2)), (50, 500), (0, m1 500 (w32 (x3 + 1))), (18, 400), (0, v1)], m1)) 4 rfl ?_
  obtain ⟨hc, h⟩ := h
  refine Ev_scr rfl hc ?_
  obtain ⟨v2, m2, hc, h⟩ := h
  refine Ev_call (rest := [(0, v1)]) rfl rfl (Nat.le_of_ble_eq_true rfl) hc ?_
  refine Ev_icmp rfl (fun hc => ?_) (fun hc => ?_)
  · replace h := h.1 hc
    exact h
  · replace h := h.2 hc
    refine Ev_rn (q := (1020, [(50, 500), (17, 0), (18, 400), (0, x3)], [(0, 0)], m2)) 1 rfl ?_
    exact Ev_zret rfl rfl (by decide) h
set_option maxRecDepth 100000 in
theorem b_Lw_1021 {d : Nat} {r : Option Vv × Mm} {m : Mm} {x3 : Int} (h : ∃ (v1 : Int) (m1 : Mm), Cl d k_Th_whose [(17, 0)] m (some (0, v1), m1) ∧ (∃ (v2 : Int) (m2 : Mm), Cl d k_Mo_whose [(18, 400)] m1 (some (0, v2), m2) ∧ ((v1 = v2 → Ev (d + 1) K_Lw 2 1083 [(50, 500), (17, 0), (18, 400), (0, x3)] [] m2 r) ∧ (¬ (v1 = v2) → r = (some (0, 0), m2))))) : Ev (d + 1) K_Lw 2 1021 [(50, 500), (17, 0), (18, 400), (0, x3)] [] m r := by
  refine Ev_rn (q := (1022, [(50, 500), (17, 0), (18, 400), (0, x3)], [(17, 0)], m)) 1 rfl ?_
  obtain ⟨v1, m1, hc, h⟩ := h
  refine Ev_call (rest := []) rfl rfl (Nat.le_of_ble_eq_true rfl) hc ?_
  refine Ev_rn (q := (1024, [(50, 500), (17, 0), (18, 400), (0, x3)], [(18, 400), (0, v1)], m1)) 1 rfl ?_
  obtain ⟨v2, m2, hc, h⟩ := h
  refine Ev_call (rest := [(0, v1)]) rfl rfl (Nat.le_of_ble_eq_true rfl) hc ?_
  refine Ev_icmp rfl (fun hc => ?_) (fun hc => ?_)
  · replace h := h.1 hc
    exact h
  · replace h := h.2 hc
    refine Ev_rn (q := (1027, [(50, 500), (17, 0), (18, 400), (0, x3)], [(0, 0)], m2)) 1 rfl ?_
    exact Ev_zret rfl rfl (by decide) h
set_option maxRecDepth 100000 in
theorem b_Lw_1028 {d : Nat} {r : Option Vv × Mm} {m : Mm} {x3 : Int} (h : ∃ (v1 : Int) (m1 : Mm), Cl d k_Th_thickest [(17, 0)] m (some (0, v1), m1) ∧ (∃ (v2 : Int) (m2 : Mm), Cl d k_Mo_thickest [(18, 400)] m1 (some (0, v2), m2) ∧ ((v1 = v2 → Ev (d + 1) K_Lw 2 1083 [(50, 500), (17, 0), (18, 400), (0, x3)] [] m2 r) ∧ (¬ (v1 = v2) → r = (some (0, 0), m2))))) : Ev (d + 1) K_Lw 2 1028 [(50, 500), (17, 0), (18, 400), (0, x3)] [] m r := by
  refine Ev_rn (q := (1029, [(50, 500), (17, 0), (18, 400), (0, x3)], [(17, 0)], m)) 1 rfl ?_
  obtain ⟨v1, m1, hc, h⟩ := h
  refine Ev_call (rest := []) rfl rfl (Nat.le_of_ble_eq_true rfl) hc ?_
  refine Ev_rn (q := (1031, [(50, 500), (17, 0), (18, 400), (0, x3)], [(18, 400), (0, v1)], m1)) 1 rfl ?_
  obtain ⟨v2, m2, hc, h⟩ := h
  refine Ev_call (rest := [(0, v1)]) rfl rfl (Nat.le_of_ble_eq_true rfl) hc ?_
  refine Ev_icmp rfl (fun hc => ?_) (fun hc => ?_)
  · replace h := h.1 hc
    exact h
  · replace h := h.2 hc
    refine Ev_rn (q := (1034, [(50, 500), (17, 0), (18, 400), (0, x3)], [(0, 0)], m2)) 1 rfl ?_
    exact Ev_zret rfl rfl (by decide) h
set_option maxRecDepth 100000 in
theorem b_Lw_1035 {d : Nat} {r : Option Vv × Mm} {m : Mm} {x3 : Int} (h : (0 ≤ w32 (x3 + 1) ∧ w32 (x3 + 1) < m 500 (-1)) ∧ (∃ (v1 : Int) (m1 : Mm), Cl d k_Th_ledger [(17, 0), (0, m 500 (w32 (x3 + 1)))] m (some (0, v1), m1) ∧ ((0 ≤ w32 (x3 + 1) ∧ w32 (x3 + 1) < m1 500 (-1)) ∧ (∃ (v2 : Int) (m2 : Mm), Cl d k_Mo_ledger [(18, 400), (0, m1 500 (w32 (x3 + 1)))] m1 (some (0, v2), m2) ∧ ((v1 = v2 → Ev (d + 1) K_Lw 2 1083 [(50, 500), (17, 0), (18, 400), (0, x3)] [] m2 r) ∧ (¬ (v1 = v2) → r = (some (0, 0), m2))))))) : Ev (d + 1) K_Lw 2 1035 [(50, 500), (17, 0), (18, 400), (0, x3)] [] m r := by
  refine Ev_rn (q := (1040, [(50, 500), (17, 0), (18, 400), (0, x3)], [(0, w32 (x3 + 1)), (50, 500), (17, 0)], m)) 5 rfl ?_
  obtain ⟨hc, h⟩ := h
  refine Ev_scr rfl hc ?_
  obtain ⟨v1, m1, hc, h⟩ := h
  refine Ev_call (rest := []) rfl rfl (Nat.le_of_ble_eq_true rfl) hc ?_
  refine Ev_rn (q := (1047, [(50, 500), (17, 0), (18, 400), (0, x3)], [(0, w32 (x3 + 1)), (50, 500), (18, 400), (0, v1)], m1)) 5 rfl ?_
  obtain ⟨hc, h⟩ := h
  refine Ev_scr rfl hc ?_
  obtain ⟨v2, m2, hc, h⟩ := h
  refine Ev_call (rest := [(0, v1)]) rfl rfl (Nat.le_of_ble_eq_true rfl) hc ?_
  refine Ev_icmp rfl (fun hc => ?_) (fun hc => ?_)
  · replace h := h.1 hc
    exact h
  · replace h := h.2 hc
    refine Ev_rn (q := (1051, [(50, 500), (17, 0), (18, 400), (0, x3)], [(0, 0)], m2)) 1 rfl ?_
    exact Ev_zret rfl rfl (by decide) h
set_option maxRecDepth 100000 in
theorem b_Lw_1052 {d : Nat} {r : Option Vv × Mm} {m : Mm} {x3 : Int} (h : ∃ (v1 : Int) (m1 : Mm), Cl d k_Th_image [(17, 0)] m (some (0, v1), m1) ∧ (∃ (v2 : Int) (m2 : Mm), Cl d k_Mo_image [(18, 400)] m1 (some (0, v2), m2) ∧ ((v1 = v2 → Ev (d + 1) K_Lw 2 1083 [(50, 500), (17, 0), (18, 400), (0, x3)] [] m2 r) ∧ (¬ (v1 = v2) → r = (some (0, 0), m2))))) : Ev (d + 1) K_Lw 2 1052 [(50, 500), (17, 0), (18, 400), (0, x3)] [] m r := by
  refine Ev_rn (q := (1053, [(50, 500), (17, 0), (18, 400), (0, x3)], [(17, 0)], m)) 1 rfl ?_
  obtain ⟨v1, m1, hc, h⟩ := h
  refine Ev_call (rest := []) rfl rfl (Nat.le_of_ble_eq_true rfl) hc ?_
  refine Ev_rn (q := (1055, [(50, 500), (17, 0), (18, 400), (0, x3)], [(18, 400), (0, v1)], m1)) 1 rfl ?_
  obtain ⟨v2, m2, hc, h⟩ := h
  refine Ev_call (rest := [(0, v1)]) rfl rfl (Nat.le_of_ble_eq_true rfl) hc ?_
  refine Ev_icmp rfl (fun hc => ?_) (fun hc => ?_)
  · replace h := h.1 hc
    exact h
  · replace h := h.2 hc
    refine Ev_rn (q := (1058, [(50, 500), (17, 0), (18, 400), (0, x3)], [(0, 0)], m2)) 1 rfl ?_
    exact Ev_zret rfl rfl (by decide) h
set_option maxRecDepth 100000 in
theorem b_Lw_1059 {d : Nat} {r : Option Vv × Mm} {m : Mm} {x3 : Int} (h : ∃ (v1 : Int) (m1 : Mm), Cl d k_Th_back [(17, 0)] m (some (0, v1), m1) ∧ (∃ (v2 : Int) (m2 : Mm), Cl d k_Mo_back [(18, 400)] m1 (some (0, v2), m2) ∧ ((v1 = v2 → Ev (d + 1) K_Lw 2 1083 [(50, 500), (17, 0), (18, 400), (0, x3)] [] m2 r) ∧ (¬ (v1 = v2) → r = (some (0, 0), m2))))) : Ev (d + 1) K_Lw 2 1059 [(50, 500), (17, 0), (18, 400), (0, x3)] [] m r := by
  refine Ev_rn (q := (1060, [(50, 500), (17, 0), (18, 400), (0, x3)], [(17, 0)], m)) 1 rfl ?_
  obtain ⟨v1, m1, hc, h⟩ := h
  refine Ev_call (rest := []) rfl rfl (Nat.le_of_ble_eq_true rfl) hc ?_
  refine Ev_rn (q := (1062, [(50, 500), (17, 0), (18, 400), (0, x3)], [(18, 400), (0, v1)], m1)) 1 rfl ?_
  obtain ⟨v2, m2, hc, h⟩ := h
  refine Ev_call (rest := [(0, v1)]) rfl rfl (Nat.le_of_ble_eq_true rfl) hc ?_
  refine Ev_icmp rfl (fun hc => ?_) (fun hc => ?_)
  · replace h := h.1 hc
    exact h
  · replace h := h.2 hc
    refine Ev_rn (q := (1065, [(50, 500), (17, 0), (18, 400), (0, x3)], [(0, 0)], m2)) 1 rfl ?_
    exact Ev_zret rfl rfl (by decide) h
set_option maxRecDepth 100000 in
theorem b_Lw_1066 {d : Nat} {r : Option Vv × Mm} {m : Mm} {x3 : Int} (h : (0 ≤ w32 (x3 + 1) ∧ w32 (x3 + 1) < m 500 (-1)) ∧ (∃ (v1 : Int) (m1 : Mm), Cl d k_Th_about [(17, 0), (0, m 500 (w32 (x3 + 1)))] m (some (0, v1), m1) ∧ ((0 ≤ w32 (x3 + 1) ∧ w32 (x3 + 1) < m1 500 (-1)) ∧ (∃ (v2 : Int) (m2 : Mm), Cl d k_Mo_about [(18, 400), (0, m1 500 (w32 (x3 + 1)))] m1 (some (0, v2), m2) ∧ ((v1 = v2 → Ev (d + 1) K_Lw 2 1083 [(50, 500), (17, 0), (18, 400), (0, x3)] [] m2 r) ∧ (¬ (v1 = v2) → r = (some (0, 0), m2))))))) : Ev (d + 1) K_Lw 2 1066 [(50, 500), (17, 0), (18, 400), (0, x3)] [] m r := by
  refine Ev_rn (q := (1071, [(50, 500), (17, 0), (18, 400), (0, x3)], [(0, w32 (x3 + 1)), (50, 500), (17, 0)], m)) 5 rfl ?_
  obtain ⟨hc, h⟩ := h
  refine Ev_scr rfl hc ?_
  obtain ⟨v1, m1, hc, h⟩ := h
  refine Ev_call (rest := []) rfl rfl (Nat.le_of_ble_eq_true rfl) hc ?_
  refine Ev_rn (q := (1078, [(50, 500), (17, 0), (18, 400), (0, x3)], [(0, w32 (x3 + 1)), (50, 500), (18, 400), (0, v1)], m1)) 5 rfl ?_
  obtain ⟨hc, h⟩ := h
  refine Ev_scr rfl hc ?_
  obtain ⟨v2, m2, hc, h⟩ := h
  refine Ev_call (rest := [(0, v1)]) rfl rfl (Nat.le_of_ble_eq_true rfl) hc ?_
  refine Ev_icmp rfl (fun hc => ?_) (fun hc => ?_)
  · replace h := h.1 hc
    exact h
  · replace h := h.2 hc
    refine Ev_rn (q := (1082, [(50, 500), (17, 0), (18, 400), (0, x3)], [(0, 0)], m2)) 1 rfl ?_
    exact Ev_zret rfl rfl (by decide) h
set_option maxRecDepth 100000 in
theorem b_Lw_1083 {d : Nat} {r : Option Vv × Mm} {m : Mm} {x3 : Int} (h : Ev (d + 1) K_Lw 2 2 [(50, 500), (17, 0), (18, 400), (0, w32 (x3 + 6))] [] m r) : Ev (d + 1) K_Lw 2 1083 [(50, 500), (17, 0), (18, 400), (0, x3)] [] m r := by
  refine Ev_rn (q := (2, [(50, 500), (17, 0), (18, 400), (0, w32 (x3 + 6))], [], m)) 2 rfl ?_
  exact h
