/-! THE CLASS'S WORLD is the plan's -/
theorem farm_e {G : Nat → ClassId} {h h5 h5_0 h5_1 h5_2 q18 q32 q40 : Nat} {f : Nat → Option Nat} {X Y : va_W} : X ++ (bC_Farm G h h5 h5_0 h5_1 h5_2 q18 q32 q40 f ++ Y) = (X ++ [(h, .inr (0, [.ref h5, .ref q18, .int 0, .int 0, .int 0, .int 0, .int 0, .int (-1), .int 0, .ref q32, .ref q40])), (h5, .inr (3, [.long 0, .int 0, .ref h5_0, .ref h5_1, .int 0, .int 0, .int 331, .int 0, .ref h5_2])), (h5_0, .inl (G 0, 5, .inl (fun _ => 0))), (h5_1, .inl (G 0, 5, .inl (fun _ => 0))), (h5_2, .inl (G 0, 30, .inl (fun _ => 0)))]) ++ ((q18, .inl (G 3, 30, .inr (.inr (.inr (.inr f))))) :: ([(q32, .inl (G 0, 8, .inl (fun _ => 0))), (q40, .inl (G 0, 8, .inl (fun _ => 0)))] ++ Y)) := by
  unfold bC_Farm
  simp only [List.append_assoc, List.cons_append, List.nil_append]
theorem farm_P {D : va_G} {H : Heap} {G : Nat → ClassId} {h h5 h5_0 h5_1 h5_2 q18 q32 q40 : Nat} {f g : Nat → Option Nat} {X Y : va_W} (hP : va_P D vwCl (X ++ (bC_Farm G h h5 h5_0 h5_1 h5_2 q18 q32 q40 f ++ Y)) H) (hfg : ∀ j, j < 30 → f j = g j) : va_P D vwCl (X ++ (bC_Farm G h h5 h5_0 h5_1 h5_2 q18 q32 q40 g ++ Y)) H := by
  rw [farm_e] at hP ⊢
  exact row_con hP hfg
theorem farm_D {A : Nat → Prop} {G : Nat → ClassId} {h h5 h5_0 h5_1 h5_2 q18 q32 q40 : Nat} {f g : Nat → Option Nat} {X Y : va_W} (hD : va_D A (X ++ (bC_Farm G h h5 h5_0 h5_1 h5_2 q18 q32 q40 f ++ Y))) : va_D A (X ++ (bC_Farm G h h5 h5_0 h5_1 h5_2 q18 q32 q40 g ++ Y)) := by
  rw [farm_e] at hD ⊢
  exact row_D hD
theorem mZ_l {xs ys : Int → Int} {a : Int} (h : isLd a = true) : mZ xs ys a 6 = 331 := by
  have : a ≠ 500 ∧ a ≠ 501 := by
    unfold isLd at h
    rw [decide_eq_true_eq] at h
    omega
  unfold mZ
  rw [if_neg this.1, if_neg this.2, if_pos ⟨h, rfl⟩]
theorem isLd_f {a : Int} (h : ¬ (a = 64 ∨ a = 129 ∨ a = 257 ∨ (134 ≤ a ∧ a ≤ 250 ∧ (a - 134) % 4 = 0) ∨ (262 ≤ a ∧ a ≤ 378 ∧ (a - 262) % 4 = 0))) : ¬ isLd a = true := by
  unfold isLd
  rw [decide_eq_true_eq]
  exact h
theorem isLd_t {a : Int} (h : a = 64 ∨ a = 129 ∨ a = 257 ∨ (134 ≤ a ∧ a ≤ 250 ∧ (a - 134) % 4 = 0) ∨ (262 ≤ a ∧ a ≤ 378 ∧ (a - 262) % 4 = 0)) : isLd a = true := by
  unfold isLd
  rw [decide_eq_true_eq]
  exact h
theorem mZ_a {xs ys : Int → Int} {a b : Int} (h : a < 400 ∨ (400 < a ∧ a < 500)) (h1 : ¬ (a = 64 ∨ a = 129 ∨ a = 257 ∨ (134 ≤ a ∧ a ≤ 250 ∧ (a - 134) % 4 = 0) ∨ (262 ≤ a ∧ a ≤ 378 ∧ (a - 262) % 4 = 0)) ∨ b ≠ 6) (h2 : (a ≠ 128 ∧ a ≠ 256) ∨ b ≠ 7) : mZ xs ys a b = 0 := mZ_0 (by omega) (by omega) (fun z => by rcases h1 with y | y; exact isLd_f y z.1; exact y z.2) (by omega) (by omega) (by omega)
theorem mZ_land {xs ys : Int → Int} {o : Int} (h : o = 64 ∨ o = 129 ∨ o = 257 ∨ (134 ≤ o ∧ o ≤ 250 ∧ (o - 134) % 4 = 0) ∨ (262 ≤ o ∧ o ≤ 378 ∧ (o - 262) % 4 = 0)) : mZ xs ys o 6 = 331 ∧ (∀ b, b ≠ 6 → mZ xs ys o b = 0) ∧ ∀ a b, o < a → a ≤ o + 3 → mZ xs ys a b = 0 := ⟨mZ_l (isLd_t h), fun b hb => mZ_a (by omega) (Or.inr hb) (by omega), fun a b h1 h2 => mZ_a (by omega) (by omega) (by omega)⟩
theorem mZ_farm {xs ys : Int → Int} {o : Int} (h : o = 128 ∨ o = 256) : mZ xs ys o 7 = -1 ∧ (∀ b, b ≠ 7 → mZ xs ys o b = 0) ∧ (∀ b, mZ xs ys (o + 126) b = 0 ∧ mZ xs ys (o + 127) b = 0) := by
  refine ⟨?_, fun b hb => mZ_a (by omega) (by omega) (Or.inr hb), fun b => ⟨mZ_a (by omega) (by omega) (by omega), mZ_a (by omega) (by omega) (by omega)⟩⟩
  unfold mZ
  rw [if_neg (by omega), if_neg (by omega), if_neg (fun z => isLd_f (by omega) z.1), if_pos ⟨h, rfl⟩]
set_option maxHeartbeats 4000000 in
theorem W_TH {D : va_G} {G : Nat → ClassId} {A : Nat → Prop} {H : Heap} {X : va_W} {ad : Int → Nat} {xs ys : Int → Int} {a5 a16 : Ad4} {tx : Ad5} (h5 : ∀ i, i < 30 → a5 i = (fun i => (ad (128 + 6 + 4 * (i : Nat)), ad (128 + 6 + 4 * (i : Nat) + 1), ad (128 + 6 + 4 * (i : Nat) + 2), ad (128 + 6 + 4 * (i : Nat) + 3))) i) (h16 : ∀ i, i < 30 → a16 i = (fun i => (ad (256 + 6 + 4 * (i : Nat)), ad (256 + 6 + 4 * (i : Nat) + 1), ad (256 + 6 + 4 * (i : Nat) + 2), ad (256 + 6 + 4 * (i : Nat) + 3))) i) (ht : ∀ i, i < 4 → tx i = (fun i => (ad (16 + 8 * (i : Nat)), ad (16 + 8 * (i : Nat) + 1), ad (16 + 8 * (i : Nat) + 2), ad (16 + 8 * (i : Nat) + 3), ad (16 + 8 * (i : Nat) + 4))) i) (hP : va_P D vwCl (cC_TH G (ad 0) (ad 128) (ad (128 + 1)) (ad (128 + 1 + 1)) (ad (128 + 1 + 2)) (ad (128 + 1 + 3)) (ad (128 + 5)) (ad (128 + 126)) (ad (128 + 127)) a5 (ad 256) (ad (256 + 1)) (ad (256 + 1 + 1)) (ad (256 + 1 + 2)) (ad (256 + 1 + 3)) (ad (256 + 5)) (ad (256 + 126)) (ad (256 + 127)) a16 (ad 1) (ad 2) (ad 3) (ad 48) (ad (48 + 1)) (ad (48 + 2)) (ad (48 + 3)) (ad (48 + 4)) (ad 80) (ad 81) (ad 82) (ad (82 + 1)) (ad (82 + 2)) (ad (82 + 3)) (ad (82 + 4)) (ad 10) (ad 11) (ad 12) (ad 13) (ad 14) (ad 64) (ad (64 + 1)) (ad (64 + 2)) (ad (64 + 3)) tx ++ X) H) (hD : va_D A (cC_TH G (ad 0) (ad 128) (ad (128 + 1)) (ad (128 + 1 + 1)) (ad (128 + 1 + 2)) (ad (128 + 1 + 3)) (ad (128 + 5)) (ad (128 + 126)) (ad (128 + 127)) a5 (ad 256) (ad (256 + 1)) (ad (256 + 1 + 1)) (ad (256 + 1 + 2)) (ad (256 + 1 + 3)) (ad (256 + 5)) (ad (256 + 126)) (ad (256 + 127)) a16 (ad 1) (ad 2) (ad 3) (ad 48) (ad (48 + 1)) (ad (48 + 2)) (ad (48 + 3)) (ad (48 + 4)) (ad 80) (ad 81) (ad 82) (ad (82 + 1)) (ad (82 + 2)) (ad (82 + 3)) (ad (82 + 4)) (ad 10) (ad 11) (ad 12) (ad 13) (ad 14) (ad 64) (ad (64 + 1)) (ad (64 + 2)) (ad (64 + 3)) tx ++ X)) : va_P D vwCl (uTH.map (fun q => (ad q.1, cellOf ad G (mZ xs ys) q)) ++ X) H ∧ va_D A (uTH.map (fun q => (ad q.1, cellOf ad G (mZ xs ys) q)) ++ X) := by
  have s1 : cC_TH G (ad 0) (ad 128) (ad (128 + 1)) (ad (128 + 1 + 1)) (ad (128 + 1 + 2)) (ad (128 + 1 + 3)) (ad (128 + 5)) (ad (128 + 126)) (ad (128 + 127)) a5 (ad 256) (ad (256 + 1)) (ad (256 + 1 + 1)) (ad (256 + 1 + 2)) (ad (256 + 1 + 3)) (ad (256 + 5)) (ad (256 + 126)) (ad (256 + 127)) a16 (ad 1) (ad 2) (ad 3) (ad 48) (ad (48 + 1)) (ad (48 + 2)) (ad (48 + 3)) (ad (48 + 4)) (ad 80) (ad 81) (ad 82) (ad (82 + 1)) (ad (82 + 2)) (ad (82 + 3)) (ad (82 + 4)) (ad 10) (ad 11) (ad 12) (ad 13) (ad 14) (ad 64) (ad (64 + 1)) (ad (64 + 2)) (ad (64 + 3)) tx ++ X = [(ad 0, .inr (7, [.ref (ad 128), .ref (ad 256), .ref (ad 1), .ref (ad 3), .ref (ad 48), .ref (ad 80), .ref (ad 10), .ref (ad 13), .ref (ad 64)]))] ++ (bC_Farm G (ad 128) (ad (128 + 1)) (ad (128 + 1 + 1)) (ad (128 + 1 + 2)) (ad (128 + 1 + 3)) (ad (128 + 5)) (ad (128 + 126)) (ad (128 + 127)) (rw4 a5 30) ++ (lnds G a5 30 ++ (bC_Farm G (ad 256) (ad (256 + 1)) (ad (256 + 1 + 1)) (ad (256 + 1 + 2)) (ad (256 + 1 + 3)) (ad (256 + 5)) (ad (256 + 126)) (ad (256 + 127)) (rw4 a16 30) ++ (lnds G a16 30 ++ (cC_Hands G (ad 1) (ad 2) ++ ((ad 3, .inl (G 4, 4, .inr (.inr (.inr (.inr (rw5 tx 4)))))) :: ((bB_TH G (ad 128) (ad (128 + 1)) (ad (128 + 1 + 1)) (ad (128 + 1 + 2)) (ad (128 + 1 + 3)) (ad (128 + 5)) (ad (128 + 126)) (ad (128 + 127)) a5 (ad 256) (ad (256 + 1)) (ad (256 + 1 + 1)) (ad (256 + 1 + 2)) (ad (256 + 1 + 3)) (ad (256 + 5)) (ad (256 + 126)) (ad (256 + 127)) a16 (ad 1) (ad 2) (ad 3) (ad 48) (ad (48 + 1)) (ad (48 + 2)) (ad (48 + 3)) (ad (48 + 4)) (ad 80) (ad 81) (ad 82) (ad (82 + 1)) (ad (82 + 2)) (ad (82 + 3)) (ad (82 + 4)) (ad 10) (ad 11) (ad 12) (ad 13) (ad 14) (ad 64) (ad (64 + 1)) (ad (64 + 2)) (ad (64 + 3))) ++ (txts G tx 4 ++ X)))))))) := by
    unfold cC_TH bC_TH bA_TH cC_Farm
    simp only [List.append_assoc, List.cons_append, List.nil_append]
  rw [s1, lnds_con 30 h5, lnds_con 30 h16, txts_con 4 ht] at hP hD
  have p1 := farm_P (g := (fun j => some (ad (PA 3 (128 + 5) ((j : Nat) : Int))))) hP (fun j hj => by
    unfold rw4
    rw [if_pos hj, h5 j hj]
    show some (ad (128 + 6 + 4 * (j : Int))) = some (ad (128 + 5 + 1 + 4 * (j : Int)))
    rfl)
  have d1 := farm_D (g := (fun j => some (ad (PA 3 (128 + 5) ((j : Nat) : Int))))) hD
  have s2 : ∀ f2 Y, [(ad 0, .inr (7, [.ref (ad 128), .ref (ad 256), .ref (ad 1), .ref (ad 3), .ref (ad 48), .ref (ad 80), .ref (ad 10), .ref (ad 13), .ref (ad 64)]))] ++ (bC_Farm G (ad 128) (ad (128 + 1)) (ad (128 + 1 + 1)) (ad (128 + 1 + 2)) (ad (128 + 1 + 3)) (ad (128 + 5)) (ad (128 + 126)) (ad (128 + 127)) (fun j => some (ad (PA 3 (128 + 5) ((j : Nat) : Int)))) ++ (lnds G (fun i => (ad (128 + 6 + 4 * (i : Nat)), ad (128 + 6 + 4 * (i : Nat) + 1), ad (128 + 6 + 4 * (i : Nat) + 2), ad (128 + 6 + 4 * (i : Nat) + 3))) 30 ++ (bC_Farm G (ad 256) (ad (256 + 1)) (ad (256 + 1 + 1)) (ad (256 + 1 + 2)) (ad (256 + 1 + 3)) (ad (256 + 5)) (ad (256 + 126)) (ad (256 + 127)) f2 ++ Y))) = ([(ad 0, .inr (7, [.ref (ad 128), .ref (ad 256), .ref (ad 1), .ref (ad 3), .ref (ad 48), .ref (ad 80), .ref (ad 10), .ref (ad 13), .ref (ad 64)]))] ++ (bC_Farm G (ad 128) (ad (128 + 1)) (ad (128 + 1 + 1)) (ad (128 + 1 + 2)) (ad (128 + 1 + 3)) (ad (128 + 5)) (ad (128 + 126)) (ad (128 + 127)) (fun j => some (ad (PA 3 (128 + 5) ((j : Nat) : Int)))) ++ lnds G (fun i => (ad (128 + 6 + 4 * (i : Nat)), ad (128 + 6 + 4 * (i : Nat) + 1), ad (128 + 6 + 4 * (i : Nat) + 2), ad (128 + 6 + 4 * (i : Nat) + 3))) 30)) ++ (bC_Farm G (ad 256) (ad (256 + 1)) (ad (256 + 1 + 1)) (ad (256 + 1 + 2)) (ad (256 + 1 + 3)) (ad (256 + 5)) (ad (256 + 126)) (ad (256 + 127)) f2 ++ Y) := fun f2 Y => by simp only [List.append_assoc]
  rw [s2] at p1 d1
  have p2 := farm_P (g := (fun j => some (ad (PA 3 (256 + 5) ((j : Nat) : Int))))) p1 (fun j hj => by
    unfold rw4
    rw [if_pos hj, h16 j hj]
    show some (ad (256 + 6 + 4 * (j : Int))) = some (ad (256 + 5 + 1 + 4 * (j : Int)))
    rfl)
  have d2 := farm_D (g := (fun j => some (ad (PA 3 (256 + 5) ((j : Nat) : Int))))) d1
  rw [← s2] at p2 d2
  have s3 : ∀ (x : Nat × va_E) (Y : va_W), [(ad 0, .inr (7, [.ref (ad 128), .ref (ad 256), .ref (ad 1), .ref (ad 3), .ref (ad 48), .ref (ad 80), .ref (ad 10), .ref (ad 13), .ref (ad 64)]))] ++ (bC_Farm G (ad 128) (ad (128 + 1)) (ad (128 + 1 + 1)) (ad (128 + 1 + 2)) (ad (128 + 1 + 3)) (ad (128 + 5)) (ad (128 + 126)) (ad (128 + 127)) (fun j => some (ad (PA 3 (128 + 5) ((j : Nat) : Int)))) ++ (lnds G (fun i => (ad (128 + 6 + 4 * (i : Nat)), ad (128 + 6 + 4 * (i : Nat) + 1), ad (128 + 6 + 4 * (i : Nat) + 2), ad (128 + 6 + 4 * (i : Nat) + 3))) 30 ++ (bC_Farm G (ad 256) (ad (256 + 1)) (ad (256 + 1 + 1)) (ad (256 + 1 + 2)) (ad (256 + 1 + 3)) (ad (256 + 5)) (ad (256 + 126)) (ad (256 + 127)) (fun j => some (ad (PA 3 (256 + 5) ((j : Nat) : Int)))) ++ (lnds G (fun i => (ad (256 + 6 + 4 * (i : Nat)), ad (256 + 6 + 4 * (i : Nat) + 1), ad (256 + 6 + 4 * (i : Nat) + 2), ad (256 + 6 + 4 * (i : Nat) + 3))) 30 ++ (cC_Hands G (ad 1) (ad 2) ++ (x :: Y)))))) = ([(ad 0, .inr (7, [.ref (ad 128), .ref (ad 256), .ref (ad 1), .ref (ad 3), .ref (ad 48), .ref (ad 80), .ref (ad 10), .ref (ad 13), .ref (ad 64)]))] ++ (bC_Farm G (ad 128) (ad (128 + 1)) (ad (128 + 1 + 1)) (ad (128 + 1 + 2)) (ad (128 + 1 + 3)) (ad (128 + 5)) (ad (128 + 126)) (ad (128 + 127)) (fun j => some (ad (PA 3 (128 + 5) ((j : Nat) : Int)))) ++ (lnds G (fun i => (ad (128 + 6 + 4 * (i : Nat)), ad (128 + 6 + 4 * (i : Nat) + 1), ad (128 + 6 + 4 * (i : Nat) + 2), ad (128 + 6 + 4 * (i : Nat) + 3))) 30 ++ (bC_Farm G (ad 256) (ad (256 + 1)) (ad (256 + 1 + 1)) (ad (256 + 1 + 2)) (ad (256 + 1 + 3)) (ad (256 + 5)) (ad (256 + 126)) (ad (256 + 127)) (fun j => some (ad (PA 3 (256 + 5) ((j : Nat) : Int)))) ++ (lnds G (fun i => (ad (256 + 6 + 4 * (i : Nat)), ad (256 + 6 + 4 * (i : Nat) + 1), ad (256 + 6 + 4 * (i : Nat) + 2), ad (256 + 6 + 4 * (i : Nat) + 3))) 30 ++ cC_Hands G (ad 1) (ad 2)))))) ++ (x :: Y) := fun x Y => by simp only [List.append_assoc]
  rw [s3] at p2 d2
  have p3 := row_con (g := (fun j => some (ad (PA 4 3 ((j : Nat) : Int))))) p2 (fun j hj => by
    unfold rw5
    rw [if_pos hj, ht j hj]
    show some (ad (16 + 8 * (j : Int))) = some (ad (3 + 13 + 8 * (j : Int)))
    rfl)
  have d3 := row_D (b := .inl (G 4, 4, .inr (.inr (.inr (.inr (fun j => some (ad (PA 4 3 ((j : Nat) : Int))))))))) d2
  rw [← s3] at p3 d3
  have ef : uTH.map (fun q => (ad q.1, cellOf ad G (mZ xs ys) q)) ++ X = [(ad 0, .inr (7, [.ref (ad 128), .ref (ad 256), .ref (ad 1), .ref (ad 3), .ref (ad 48), .ref (ad 80), .ref (ad 10), .ref (ad 13), .ref (ad 64)]))] ++ (bC_Farm G (ad 128) (ad (128 + 1)) (ad (128 + 1 + 1)) (ad (128 + 1 + 2)) (ad (128 + 1 + 3)) (ad (128 + 5)) (ad (128 + 126)) (ad (128 + 127)) (fun j => some (ad (PA 3 (128 + 5) ((j : Nat) : Int)))) ++ (lnds G (fun i => (ad (128 + 6 + 4 * (i : Nat)), ad (128 + 6 + 4 * (i : Nat) + 1), ad (128 + 6 + 4 * (i : Nat) + 2), ad (128 + 6 + 4 * (i : Nat) + 3))) 30 ++ (bC_Farm G (ad 256) (ad (256 + 1)) (ad (256 + 1 + 1)) (ad (256 + 1 + 2)) (ad (256 + 1 + 3)) (ad (256 + 5)) (ad (256 + 126)) (ad (256 + 127)) (fun j => some (ad (PA 3 (256 + 5) ((j : Nat) : Int)))) ++ (lnds G (fun i => (ad (256 + 6 + 4 * (i : Nat)), ad (256 + 6 + 4 * (i : Nat) + 1), ad (256 + 6 + 4 * (i : Nat) + 2), ad (256 + 6 + 4 * (i : Nat) + 3))) 30 ++ (cC_Hands G (ad 1) (ad 2) ++ ((ad 3, .inl (G 4, 4, .inr (.inr (.inr (.inr (fun j => some (ad (PA 4 3 ((j : Nat) : Int))))))))) :: ((bB_TH G (ad 128) (ad (128 + 1)) (ad (128 + 1 + 1)) (ad (128 + 1 + 2)) (ad (128 + 1 + 3)) (ad (128 + 5)) (ad (128 + 126)) (ad (128 + 127)) a5 (ad 256) (ad (256 + 1)) (ad (256 + 1 + 1)) (ad (256 + 1 + 2)) (ad (256 + 1 + 3)) (ad (256 + 5)) (ad (256 + 126)) (ad (256 + 127)) a16 (ad 1) (ad 2) (ad 3) (ad 48) (ad (48 + 1)) (ad (48 + 2)) (ad (48 + 3)) (ad (48 + 4)) (ad 80) (ad 81) (ad 82) (ad (82 + 1)) (ad (82 + 2)) (ad (82 + 3)) (ad (82 + 4)) (ad 10) (ad 11) (ad 12) (ad 13) (ad 14) (ad 64) (ad (64 + 1)) (ad (64 + 2)) (ad (64 + 3))) ++ (txts G (fun i => (ad (16 + 8 * (i : Nat)), ad (16 + 8 * (i : Nat) + 1), ad (16 + 8 * (i : Nat) + 2), ad (16 + 8 * (i : Nat) + 3), ad (16 + 8 * (i : Nat) + 4))) 4 ++ X)))))))) := by
    obtain ⟨f1, f2, f3⟩ := mZ_farm (xs := xs) (ys := ys) (o := 128) (by omega)
    obtain ⟨k1, k2, k3⟩ := mZ_farm (xs := xs) (ys := ys) (o := 256) (by omega)
    have z : ∀ a b : Int, 0 ≤ a → a < 48 ∨ (48 ≤ a ∧ a < 64) ∨ (80 ≤ a ∧ a < 90) → mZ xs ys a b = 0 := fun a b h1 h2 => mZ_a (by omega) (by omega) (by omega)
    have e1 := L_Farm (ad := ad) (G := G) (o := 128) f1 f2 (mZ_land (by omega)) f3 (fun i hi => mZ_land (by omega))
    have e2 := L_Farm (ad := ad) (G := G) (o := 256) k1 k2 (mZ_land (by omega)) k3 (fun i hi => mZ_land (by omega))
    have e3 := L_Text (ad := ad) (G := G) (m := mZ xs ys) (o := 48) (fun a b h1 h2 => z a b (by omega) (by omega))
    have e4 := L_Text (ad := ad) (G := G) (m := mZ xs ys) (o := 82) (fun a b h1 h2 => z a b (by omega) (by omega))
    obtain ⟨l1, l2, l3⟩ := mZ_land (xs := xs) (ys := ys) (o := 64) (by omega)
    have e5 := L_Land (ad := ad) (G := G) l1 l2 l3
    have e6 := L_txts (ad := ad) (G := G) (m := mZ xs ys) (o := 16) 4 (fun i hi a b h1 h2 => z a b (by omega) (by omega))
    have z10 : ∀ b, mZ xs ys 10 b = 0 := fun b => z _ _ (by omega) (by omega)
    have z11 : ∀ b, mZ xs ys 11 b = 0 := fun b => z _ _ (by omega) (by omega)
    have z12 : ∀ b, mZ xs ys 12 b = 0 := fun b => z _ _ (by omega) (by omega)
    have z13 : ∀ b, mZ xs ys 13 b = 0 := fun b => z _ _ (by omega) (by omega)
    have z14 : ∀ b, mZ xs ys 14 b = 0 := fun b => z _ _ (by omega) (by omega)
    have z2 : ∀ b, mZ xs ys 2 b = 0 := fun b => z _ _ (by omega) (by omega)
    have z80 : ∀ b, mZ xs ys 80 b = 0 := fun b => z _ _ (by omega) (by omega)
    have z81 : ∀ b, mZ xs ys 81 b = 0 := fun b => z _ _ (by omega) (by omega)
    unfold uTH
    simp only [List.map_cons, List.map_append, List.map_nil]
    rw [e1, e2, e3, e4, e5, e6, ob_7, ob_1, ob_2, ob_4, ob_5, ar_357, ar_136, ar_2500, ar_156, ar_2500, ar_300]
    simp only [z10, z11, z12, z13, z14, z2, z80, z81]
    unfold bB_TH cC_Hands cC_Judge cC_Maze cC_Reader cC_Text
    simp only [List.append_assoc, List.cons_append, List.nil_append]
    rfl
  rw [ef]
  exact ⟨p3, d3⟩
