/-! WHAT WAS MADE is the first memory -/
theorem fv_ref {ad : Int → Nat} {m : Mm} {o x : Int} {c k : Nat} (h : FT c k ≠ 0 ∧ FT c k ≠ 1 ∧ FT c k ≠ 2) (hx : OF c k = x) : fv ad m o c k = .ref (ad (o + x)) := by
  unfold fv
  rw [if_neg h.2.1, if_neg (by omega), hx]
theorem fv_int {ad : Int → Nat} {m : Mm} {o : Int} {c k : Nat} (h : FT c k = 0 ∨ FT c k = 2) : fv ad m o c k = .int (Int32.ofInt (m o (k : Nat))) := by
  unfold fv
  rw [if_neg (by omega), if_pos h]
theorem fv_long {ad : Int → Nat} {m : Mm} {o : Int} {c k : Nat} (h : FT c k = 1) : fv ad m o c k = .long (Int64.ofInt (m o (k : Nat))) := by
  unfold fv
  rw [if_pos h]
theorem ob_0 {ad : Int → Nat} {G : Nat → ClassId} {m : Mm} {o : Int} : cellOf ad G m (o, 10) = .inr (0, [.ref (ad (o + 1)), .ref (ad (o + 5)), .int (Int32.ofInt (m o ((2 : Nat) : Int))), .int (Int32.ofInt (m o ((3 : Nat) : Int))), .int (Int32.ofInt (m o ((4 : Nat) : Int))), .int (Int32.ofInt (m o ((5 : Nat) : Int))), .int (Int32.ofInt (m o ((6 : Nat) : Int))), .int (Int32.ofInt (m o ((7 : Nat) : Int))), .int (Int32.ofInt (m o ((8 : Nat) : Int))), .ref (ad (o + 126)), .ref (ad (o + 127))]) := by
  rw [cell_ob (by decide), show (10 : Nat) - 10 = 0 from rfl, show List.range (CN 0) = [0, 1, 2, 3, 4, 5, 6, 7, 8, 9, 10] by decide]
  simp only [List.map_cons, List.map_nil]
  rw [fv_ref (c := 0) (k := 0) (x := 1) (by decide) (by decide), fv_ref (c := 0) (k := 1) (x := 5) (by decide) (by decide), fv_int (c := 0) (k := 2) (by decide), fv_int (c := 0) (k := 3) (by decide), fv_int (c := 0) (k := 4) (by decide), fv_int (c := 0) (k := 5) (by decide), fv_int (c := 0) (k := 6) (by decide), fv_int (c := 0) (k := 7) (by decide), fv_int (c := 0) (k := 8) (by decide), fv_ref (c := 0) (k := 9) (x := 126) (by decide) (by decide), fv_ref (c := 0) (k := 10) (x := 127) (by decide) (by decide)]
theorem ob_1 {ad : Int → Nat} {G : Nat → ClassId} {m : Mm} {o : Int} : cellOf ad G m (o, 11) = .inr (1, [.ref (ad (o + 1))]) := by
  rw [cell_ob (by decide), show (11 : Nat) - 10 = 1 from rfl, show List.range (CN 1) = [0] by decide]
  simp only [List.map_cons, List.map_nil]
  rw [fv_ref (c := 1) (k := 0) (x := 1) (by decide) (by decide)]
theorem ob_2 {ad : Int → Nat} {G : Nat → ClassId} {m : Mm} {o : Int} : cellOf ad G m (o, 12) = .inr (2, [.ref (ad (o + 1)), .ref (ad (o + 2)), .int (Int32.ofInt (m o ((2 : Nat) : Int)))]) := by
  rw [cell_ob (by decide), show (12 : Nat) - 10 = 2 from rfl, show List.range (CN 2) = [0, 1, 2] by decide]
  simp only [List.map_cons, List.map_nil]
  rw [fv_ref (c := 2) (k := 0) (x := 1) (by decide) (by decide), fv_ref (c := 2) (k := 1) (x := 2) (by decide) (by decide), fv_int (c := 2) (k := 2) (by decide)]
theorem ob_3 {ad : Int → Nat} {G : Nat → ClassId} {m : Mm} {o : Int} : cellOf ad G m (o, 13) = .inr (3, [.long (Int64.ofInt (m o ((0 : Nat) : Int))), .int (Int32.ofInt (m o ((1 : Nat) : Int))), .ref (ad (o + 1)), .ref (ad (o + 2)), .int (Int32.ofInt (m o ((4 : Nat) : Int))), .int (Int32.ofInt (m o ((5 : Nat) : Int))), .int (Int32.ofInt (m o ((6 : Nat) : Int))), .int (Int32.ofInt (m o ((7 : Nat) : Int))), .ref (ad (o + 3))]) := by
  rw [cell_ob (by decide), show (13 : Nat) - 10 = 3 from rfl, show List.range (CN 3) = [0, 1, 2, 3, 4, 5, 6, 7, 8] by decide]
  simp only [List.map_cons, List.map_nil]
  rw [fv_long (c := 3) (k := 0) (by decide), fv_int (c := 3) (k := 1) (by decide), fv_ref (c := 3) (k := 2) (x := 1) (by decide) (by decide), fv_ref (c := 3) (k := 3) (x := 2) (by decide) (by decide), fv_int (c := 3) (k := 4) (by decide), fv_int (c := 3) (k := 5) (by decide), fv_int (c := 3) (k := 6) (by decide), fv_int (c := 3) (k := 7) (by decide), fv_ref (c := 3) (k := 8) (x := 3) (by decide) (by decide)]
theorem ob_4 {ad : Int → Nat} {G : Nat → ClassId} {m : Mm} {o : Int} : cellOf ad G m (o, 14) = .inr (4, [.int (Int32.ofInt (m o ((0 : Nat) : Int))), .int (Int32.ofInt (m o ((1 : Nat) : Int))), .ref (ad (o + 1))]) := by
  rw [cell_ob (by decide), show (14 : Nat) - 10 = 4 from rfl, show List.range (CN 4) = [0, 1, 2] by decide]
  simp only [List.map_cons, List.map_nil]
  rw [fv_int (c := 4) (k := 0) (by decide), fv_int (c := 4) (k := 1) (by decide), fv_ref (c := 4) (k := 2) (x := 1) (by decide) (by decide)]
theorem ob_5 {ad : Int → Nat} {G : Nat → ClassId} {m : Mm} {o : Int} : cellOf ad G m (o, 15) = .inr (5, [.ref (ad (o + 1)), .int (Int32.ofInt (m o ((1 : Nat) : Int))), .ref (ad (o + 2)), .int (Int32.ofInt (m o ((3 : Nat) : Int))), .int (Int32.ofInt (m o ((4 : Nat) : Int))), .int (Int32.ofInt (m o ((5 : Nat) : Int))), .int (Int32.ofInt (m o ((6 : Nat) : Int))), .int (Int32.ofInt (m o ((7 : Nat) : Int))), .int (Int32.ofInt (m o ((8 : Nat) : Int))), .int (Int32.ofInt (m o ((9 : Nat) : Int))), .int (Int32.ofInt (m o ((10 : Nat) : Int))), .int (Int32.ofInt (m o ((11 : Nat) : Int)))]) := by
  rw [cell_ob (by decide), show (15 : Nat) - 10 = 5 from rfl, show List.range (CN 5) = [0, 1, 2, 3, 4, 5, 6, 7, 8, 9, 10, 11] by decide]
  simp only [List.map_cons, List.map_nil]
  rw [fv_ref (c := 5) (k := 0) (x := 1) (by decide) (by decide), fv_int (c := 5) (k := 1) (by decide), fv_ref (c := 5) (k := 2) (x := 2) (by decide) (by decide), fv_int (c := 5) (k := 3) (by decide), fv_int (c := 5) (k := 4) (by decide), fv_int (c := 5) (k := 5) (by decide), fv_int (c := 5) (k := 6) (by decide), fv_int (c := 5) (k := 7) (by decide), fv_int (c := 5) (k := 8) (by decide), fv_int (c := 5) (k := 9) (by decide), fv_int (c := 5) (k := 10) (by decide), fv_int (c := 5) (k := 11) (by decide)]
theorem ob_6 {ad : Int → Nat} {G : Nat → ClassId} {m : Mm} {o : Int} : cellOf ad G m (o, 16) = .inr (6, [.int (Int32.ofInt (m o ((0 : Nat) : Int))), .ref (ad (o + 1)), .ref (ad (o + 2)), .ref (ad (o + 3)), .ref (ad (o + 4)), .int (Int32.ofInt (m o ((5 : Nat) : Int))), .int (Int32.ofInt (m o ((6 : Nat) : Int))), .int (Int32.ofInt (m o ((7 : Nat) : Int))), .int (Int32.ofInt (m o ((8 : Nat) : Int))), .int (Int32.ofInt (m o ((9 : Nat) : Int))), .int (Int32.ofInt (m o ((10 : Nat) : Int))), .int (Int32.ofInt (m o ((11 : Nat) : Int)))]) := by
  rw [cell_ob (by decide), show (16 : Nat) - 10 = 6 from rfl, show List.range (CN 6) = [0, 1, 2, 3, 4, 5, 6, 7, 8, 9, 10, 11] by decide]
  simp only [List.map_cons, List.map_nil]
  rw [fv_int (c := 6) (k := 0) (by decide), fv_ref (c := 6) (k := 1) (x := 1) (by decide) (by decide), fv_ref (c := 6) (k := 2) (x := 2) (by decide) (by decide), fv_ref (c := 6) (k := 3) (x := 3) (by decide) (by decide), fv_ref (c := 6) (k := 4) (x := 4) (by decide) (by decide), fv_int (c := 6) (k := 5) (by decide), fv_int (c := 6) (k := 6) (by decide), fv_int (c := 6) (k := 7) (by decide), fv_int (c := 6) (k := 8) (by decide), fv_int (c := 6) (k := 9) (by decide), fv_int (c := 6) (k := 10) (by decide), fv_int (c := 6) (k := 11) (by decide)]
theorem ob_7 {ad : Int → Nat} {G : Nat → ClassId} {m : Mm} {o : Int} : cellOf ad G m (o, 17) = .inr (7, [.ref (ad (o + 128)), .ref (ad (o + 256)), .ref (ad (o + 1)), .ref (ad (o + 3)), .ref (ad (o + 48)), .ref (ad (o + 80)), .ref (ad (o + 10)), .ref (ad (o + 13)), .ref (ad (o + 64))]) := by
  rw [cell_ob (by decide), show (17 : Nat) - 10 = 7 from rfl, show List.range (CN 7) = [0, 1, 2, 3, 4, 5, 6, 7, 8] by decide]
  simp only [List.map_cons, List.map_nil]
  rw [fv_ref (c := 7) (k := 0) (x := 128) (by decide) (by decide), fv_ref (c := 7) (k := 1) (x := 256) (by decide) (by decide), fv_ref (c := 7) (k := 2) (x := 1) (by decide) (by decide), fv_ref (c := 7) (k := 3) (x := 3) (by decide) (by decide), fv_ref (c := 7) (k := 4) (x := 48) (by decide) (by decide), fv_ref (c := 7) (k := 5) (x := 80) (by decide) (by decide), fv_ref (c := 7) (k := 6) (x := 10) (by decide) (by decide), fv_ref (c := 7) (k := 7) (x := 13) (by decide) (by decide), fv_ref (c := 7) (k := 8) (x := 64) (by decide) (by decide)]
theorem ob_8 {ad : Int → Nat} {G : Nat → ClassId} {m : Mm} {o : Int} : cellOf ad G m (o, 18) = .inr (8, [.ref (ad (o + 1)), .ref (ad (o + 2)), .ref (ad (o + 3)), .ref (ad (o + 4)), .ref (ad (o + 5)), .int (Int32.ofInt (m o ((5 : Nat) : Int))), .int (Int32.ofInt (m o ((6 : Nat) : Int))), .int (Int32.ofInt (m o ((7 : Nat) : Int))), .int (Int32.ofInt (m o ((8 : Nat) : Int))), .int (Int32.ofInt (m o ((9 : Nat) : Int))), .int (Int32.ofInt (m o ((10 : Nat) : Int))), .int (Int32.ofInt (m o ((11 : Nat) : Int))), .long (Int64.ofInt (m o ((12 : Nat) : Int))), .int (Int32.ofInt (m o ((13 : Nat) : Int))), .int (Int32.ofInt (m o ((14 : Nat) : Int))), .int (Int32.ofInt (m o ((15 : Nat) : Int))), .ref (ad (o + 6)), .int (Int32.ofInt (m o ((17 : Nat) : Int))), .int (Int32.ofInt (m o ((18 : Nat) : Int))), .int (Int32.ofInt (m o ((19 : Nat) : Int))), .int (Int32.ofInt (m o ((20 : Nat) : Int))), .ref (ad (o + 7)), .ref (ad (o + 8)), .ref (ad (o + 9)), .int (Int32.ofInt (m o ((24 : Nat) : Int))), .int (Int32.ofInt (m o ((25 : Nat) : Int))), .ref (ad (o + 10)), .ref (ad (o + 11)), .ref (ad (o + 12)), .ref (ad (o + 13)), .ref (ad (o + 14)), .ref (ad (o + 15)), .ref (ad (o + 16)), .ref (ad (o + 17))]) := by
  rw [cell_ob (by decide), show (18 : Nat) - 10 = 8 from rfl, show List.range (CN 8) = [0, 1, 2, 3, 4, 5, 6, 7, 8, 9, 10, 11, 12, 13, 14, 15, 16, 17, 18, 19, 20, 21, 22, 23, 24, 25, 26, 27, 28, 29, 30, 31, 32, 33] by decide]
  simp only [List.map_cons, List.map_nil]
  rw [fv_ref (c := 8) (k := 0) (x := 1) (by decide) (by decide), fv_ref (c := 8) (k := 1) (x := 2) (by decide) (by decide), fv_ref (c := 8) (k := 2) (x := 3) (by decide) (by decide), fv_ref (c := 8) (k := 3) (x := 4) (by decide) (by decide), fv_ref (c := 8) (k := 4) (x := 5) (by decide) (by decide), fv_int (c := 8) (k := 5) (by decide), fv_int (c := 8) (k := 6) (by decide), fv_int (c := 8) (k := 7) (by decide), fv_int (c := 8) (k := 8) (by decide), fv_int (c := 8) (k := 9) (by decide), fv_int (c := 8) (k := 10) (by decide), fv_int (c := 8) (k := 11) (by decide), fv_long (c := 8) (k := 12) (by decide), fv_int (c := 8) (k := 13) (by decide), fv_int (c := 8) (k := 14) (by decide), fv_int (c := 8) (k := 15) (by decide), fv_ref (c := 8) (k := 16) (x := 6) (by decide) (by decide), fv_int (c := 8) (k := 17) (by decide), fv_int (c := 8) (k := 18) (by decide), fv_int (c := 8) (k := 19) (by decide), fv_int (c := 8) (k := 20) (by decide), fv_ref (c := 8) (k := 21) (x := 7) (by decide) (by decide), fv_ref (c := 8) (k := 22) (x := 8) (by decide) (by decide), fv_ref (c := 8) (k := 23) (x := 9) (by decide) (by decide), fv_int (c := 8) (k := 24) (by decide), fv_int (c := 8) (k := 25) (by decide), fv_ref (c := 8) (k := 26) (x := 10) (by decide) (by decide), fv_ref (c := 8) (k := 27) (x := 11) (by decide) (by decide), fv_ref (c := 8) (k := 28) (x := 12) (by decide) (by decide), fv_ref (c := 8) (k := 29) (x := 13) (by decide) (by decide), fv_ref (c := 8) (k := 30) (x := 14) (by decide) (by decide), fv_ref (c := 8) (k := 31) (x := 15) (by decide) (by decide), fv_ref (c := 8) (k := 32) (x := 16) (by decide) (by decide), fv_ref (c := 8) (k := 33) (x := 17) (by decide) (by decide)]
theorem ar_140 {ad : Int → Nat} {G : Nat → ClassId} {m : Mm} {o : Int} : cellOf ad G m (o, 140) = .inl (G 0, 5, .inl (fun j => Int32.ofInt (m o ((j : Nat) : Int)))) := by
  rw [cell_ia (by decide) (by decide), show aty 140 = 0 by decide, show (140 - 100) / 8 = 5 by decide]
theorem ar_340 {ad : Int → Nat} {G : Nat → ClassId} {m : Mm} {o : Int} : cellOf ad G m (o, 340) = .inl (G 0, 30, .inl (fun j => Int32.ofInt (m o ((j : Nat) : Int)))) := by
  rw [cell_ia (by decide) (by decide), show aty 340 = 0 by decide, show (340 - 100) / 8 = 30 by decide]
theorem ar_292 {ad : Int → Nat} {G : Nat → ClassId} {m : Mm} {o : Int} : cellOf ad G m (o, 292) = .inl (G 0, 24, .inl (fun j => Int32.ofInt (m o ((j : Nat) : Int)))) := by
  rw [cell_ia (by decide) (by decide), show aty 292 = 0 by decide, show (292 - 100) / 8 = 24 by decide]
theorem ar_2500 {ad : Int → Nat} {G : Nat → ClassId} {m : Mm} {o : Int} : cellOf ad G m (o, 2500) = .inl (G 0, 300, .inl (fun j => Int32.ofInt (m o ((j : Nat) : Int)))) := by
  rw [cell_ia (by decide) (by decide), show aty 2500 = 0 by decide, show (2500 - 100) / 8 = 300 by decide]
theorem ar_164 {ad : Int → Nat} {G : Nat → ClassId} {m : Mm} {o : Int} : cellOf ad G m (o, 164) = .inl (G 0, 8, .inl (fun j => Int32.ofInt (m o ((j : Nat) : Int)))) := by
  rw [cell_ia (by decide) (by decide), show aty 164 = 0 by decide, show (164 - 100) / 8 = 8 by decide]
theorem ar_156 {ad : Int → Nat} {G : Nat → ClassId} {m : Mm} {o : Int} : cellOf ad G m (o, 156) = .inl (G 0, 7, .inl (fun j => Int32.ofInt (m o ((j : Nat) : Int)))) := by
  rw [cell_ia (by decide) (by decide), show aty 156 = 0 by decide, show (156 - 100) / 8 = 7 by decide]
theorem ar_300 {ad : Int → Nat} {G : Nat → ClassId} {m : Mm} {o : Int} : cellOf ad G m (o, 300) = .inl (G 0, 25, .inl (fun j => Int32.ofInt (m o ((j : Nat) : Int)))) := by
  rw [cell_ia (by decide) (by decide), show aty 300 = 0 by decide, show (300 - 100) / 8 = 25 by decide]
theorem ar_11828 {ad : Int → Nat} {G : Nat → ClassId} {m : Mm} {o : Int} : cellOf ad G m (o, 11828) = .inl (G 0, 1466, .inl (fun j => Int32.ofInt (m o ((j : Nat) : Int)))) := by
  rw [cell_ia (by decide) (by decide), show aty 11828 = 0 by decide, show (11828 - 100) / 8 = 1466 by decide]
theorem ar_21892 {ad : Int → Nat} {G : Nat → ClassId} {m : Mm} {o : Int} : cellOf ad G m (o, 21892) = .inl (G 0, 2724, .inl (fun j => Int32.ofInt (m o ((j : Nat) : Int)))) := by
  rw [cell_ia (by decide) (by decide), show aty 21892 = 0 by decide, show (21892 - 100) / 8 = 2724 by decide]
theorem ar_2660 {ad : Int → Nat} {G : Nat → ClassId} {m : Mm} {o : Int} : cellOf ad G m (o, 2660) = .inl (G 0, 320, .inl (fun j => Int32.ofInt (m o ((j : Nat) : Int)))) := by
  rw [cell_ia (by decide) (by decide), show aty 2660 = 0 by decide, show (2660 - 100) / 8 = 320 by decide]
theorem ar_1380 {ad : Int → Nat} {G : Nat → ClassId} {m : Mm} {o : Int} : cellOf ad G m (o, 1380) = .inl (G 0, 160, .inl (fun j => Int32.ofInt (m o ((j : Nat) : Int)))) := by
  rw [cell_ia (by decide) (by decide), show aty 1380 = 0 by decide, show (1380 - 100) / 8 = 160 by decide]
theorem ar_268 {ad : Int → Nat} {G : Nat → ClassId} {m : Mm} {o : Int} : cellOf ad G m (o, 268) = .inl (G 0, 21, .inl (fun j => Int32.ofInt (m o ((j : Nat) : Int)))) := by
  rw [cell_ia (by decide) (by decide), show aty 268 = 0 by decide, show (268 - 100) / 8 = 21 by decide]
theorem ar_308 {ad : Int → Nat} {G : Nat → ClassId} {m : Mm} {o : Int} : cellOf ad G m (o, 308) = .inl (G 0, 26, .inl (fun j => Int32.ofInt (m o ((j : Nat) : Int)))) := by
  rw [cell_ia (by decide) (by decide), show aty 308 = 0 by decide, show (308 - 100) / 8 = 26 by decide]
theorem ar_900 {ad : Int → Nat} {G : Nat → ClassId} {m : Mm} {o : Int} : cellOf ad G m (o, 900) = .inl (G 0, 100, .inl (fun j => Int32.ofInt (m o ((j : Nat) : Int)))) := by
  rw [cell_ia (by decide) (by decide), show aty 900 = 0 by decide, show (900 - 100) / 8 = 100 by decide]
theorem ar_132 {ad : Int → Nat} {G : Nat → ClassId} {m : Mm} {o : Int} : cellOf ad G m (o, 132) = .inl (G 0, 4, .inl (fun j => Int32.ofInt (m o ((j : Nat) : Int)))) := by
  rw [cell_ia (by decide) (by decide), show aty 132 = 0 by decide, show (132 - 100) / 8 = 4 by decide]
theorem ar_420 {ad : Int → Nat} {G : Nat → ClassId} {m : Mm} {o : Int} : cellOf ad G m (o, 420) = .inl (G 0, 40, .inl (fun j => Int32.ofInt (m o ((j : Nat) : Int)))) := by
  rw [cell_ia (by decide) (by decide), show aty 420 = 0 by decide, show (420 - 100) / 8 = 40 by decide]
theorem ar_2742 {ad : Int → Nat} {G : Nat → ClassId} {m : Mm} {o : Int} : cellOf ad G m (o, 2742) = .inl (G 2, 330, .inl (fun j => Int32.ofInt (m o ((j : Nat) : Int)))) := by
  rw [cell_ia (by decide) (by decide), show aty 2742 = 2 by decide, show (2742 - 100) / 8 = 330 by decide]
theorem ar_357 {ad : Int → Nat} {G : Nat → ClassId} {m : Mm} {o : Int} : cellOf ad G m (o, 357) = .inl (G 1, 32, .inr (.inl (fun j => Int64.ofInt (m o ((j : Nat) : Int))))) := by
  rw [cell_la (by decide) (by decide), show (357 - 100) / 8 = 32 by decide]
theorem ar_2741 {ad : Int → Nat} {G : Nat → ClassId} {m : Mm} {o : Int} : cellOf ad G m (o, 2741) = .inl (G 1, 330, .inr (.inl (fun j => Int64.ofInt (m o ((j : Nat) : Int))))) := by
  rw [cell_la (by decide) (by decide), show (2741 - 100) / 8 = 330 by decide]
theorem ar_343 {ad : Int → Nat} {G : Nat → ClassId} {m : Mm} {o : Int} : cellOf ad G m (o, 343) = .inl (G 3, 30, .inr (.inr (.inr (.inr (fun j => some (ad (PA 3 o ((j : Nat) : Int)))))))) := by
  rw [cell_ra (by decide) (by decide), show aty 343 = 3 by decide, show (343 - 100) / 8 = 30 by decide]
theorem ar_136 {ad : Int → Nat} {G : Nat → ClassId} {m : Mm} {o : Int} : cellOf ad G m (o, 136) = .inl (G 4, 4, .inr (.inr (.inr (.inr (fun j => some (ad (PA 4 o ((j : Nat) : Int)))))))) := by
  rw [cell_ra (by decide) (by decide), show aty 136 = 4 by decide, show (136 - 100) / 8 = 4 by decide]
theorem L_Land {ad : Int → Nat} {G : Nat → ClassId} {m : Mm} {o : Int} (h6 : m o 6 = 331) (h0 : ∀ b, b ≠ 6 → m o b = 0) (h1 : ∀ a b, o < a → a ≤ o + 3 → m a b = 0) : (uLand o).map (fun q => (ad q.1, cellOf ad G m q)) = cC_Land G (ad o) (ad (o + 1)) (ad (o + 2)) (ad (o + 3)) := by
  have e : (uLand o).map (fun q => (ad q.1, cellOf ad G m q)) = [(ad o, .inr (3, [.long (Int64.ofInt (m o ((0 : Nat) : Int))), .int (Int32.ofInt (m o ((1 : Nat) : Int))), .ref (ad (o + 1)), .ref (ad (o + 2)), .int (Int32.ofInt (m o ((4 : Nat) : Int))), .int (Int32.ofInt (m o ((5 : Nat) : Int))), .int (Int32.ofInt (m o ((6 : Nat) : Int))), .int (Int32.ofInt (m o ((7 : Nat) : Int))), .ref (ad (o + 3))])), (ad (o + 1), .inl (G 0, 5, .inl (fun j => Int32.ofInt (m (o + 1) ((j : Nat) : Int))))), (ad (o + 2), .inl (G 0, 5, .inl (fun j => Int32.ofInt (m (o + 2) ((j : Nat) : Int))))), (ad (o + 3), .inl (G 0, 30, .inl (fun j => Int32.ofInt (m (o + 3) ((j : Nat) : Int)))))] := by
    unfold uLand
    simp only [List.map_cons, List.map_nil, ob_3, ar_140, ar_340]
  have e6 : m o ((6 : Nat) : Int) = 331 := h6
  have z1 : ∀ b, m (o + 1) b = 0 := fun b => h1 _ _ (by omega) (by omega)
  have z2 : ∀ b, m (o + 2) b = 0 := fun b => h1 _ _ (by omega) (by omega)
  have z3 : ∀ b, m (o + 3) b = 0 := fun b => h1 _ _ (by omega) (by omega)
  rw [e, e6, h0 ((0 : Nat) : Int) (by decide), h0 ((1 : Nat) : Int) (by decide), h0 ((4 : Nat) : Int) (by decide), h0 ((5 : Nat) : Int) (by decide), h0 ((7 : Nat) : Int) (by decide)]
  simp only [z1, z2, z3]
  rfl
theorem L_Text {ad : Int → Nat} {G : Nat → ClassId} {m : Mm} {o : Int} (h1 : ∀ a b, o ≤ a → a ≤ o + 4 → m a b = 0) : (uText o).map (fun q => (ad q.1, cellOf ad G m q)) = cC_Text G (ad o) (ad (o + 1)) (ad (o + 2)) (ad (o + 3)) (ad (o + 4)) := by
  have e : (uText o).map (fun q => (ad q.1, cellOf ad G m q)) = [(ad o, .inr (6, [.int (Int32.ofInt (m o ((0 : Nat) : Int))), .ref (ad (o + 1)), .ref (ad (o + 2)), .ref (ad (o + 3)), .ref (ad (o + 4)), .int (Int32.ofInt (m o ((5 : Nat) : Int))), .int (Int32.ofInt (m o ((6 : Nat) : Int))), .int (Int32.ofInt (m o ((7 : Nat) : Int))), .int (Int32.ofInt (m o ((8 : Nat) : Int))), .int (Int32.ofInt (m o ((9 : Nat) : Int))), .int (Int32.ofInt (m o ((10 : Nat) : Int))), .int (Int32.ofInt (m o ((11 : Nat) : Int)))])), (ad (o + 1), .inl (G 0, 24, .inl (fun j => Int32.ofInt (m (o + 1) ((j : Nat) : Int))))), (ad (o + 2), .inl (G 0, 24, .inl (fun j => Int32.ofInt (m (o + 2) ((j : Nat) : Int))))), (ad (o + 3), .inl (G 0, 24, .inl (fun j => Int32.ofInt (m (o + 3) ((j : Nat) : Int))))), (ad (o + 4), .inl (G 0, 300, .inl (fun j => Int32.ofInt (m (o + 4) ((j : Nat) : Int)))))] := by
    unfold uText
    simp only [List.map_cons, List.map_nil, ob_6, ar_292, ar_2500]
  have z0 : ∀ b, m o b = 0 := fun b => h1 _ _ (by omega) (by omega)
  have z1 : ∀ b, m (o + 1) b = 0 := fun b => h1 _ _ (by omega) (by omega)
  have z2 : ∀ b, m (o + 2) b = 0 := fun b => h1 _ _ (by omega) (by omega)
  have z3 : ∀ b, m (o + 3) b = 0 := fun b => h1 _ _ (by omega) (by omega)
  have z4 : ∀ b, m (o + 4) b = 0 := fun b => h1 _ _ (by omega) (by omega)
  rw [e]
  simp only [z0, z1, z2, z3, z4]
  rfl
theorem L_lnds {ad : Int → Nat} {G : Nat → ClassId} {m : Mm} {o : Int} : ∀ k : Nat, (∀ i : Nat, i < k → m (o + 4 * (i : Nat)) 6 = 331 ∧ (∀ b, b ≠ 6 → m (o + 4 * (i : Nat)) b = 0) ∧ ∀ a b, o + 4 * (i : Nat) < a → a ≤ o + 4 * (i : Nat) + 3 → m a b = 0) → ((List.range k).flatMap (fun i => uLand (o + 4 * (i : Nat)))).map (fun q => (ad q.1, cellOf ad G m q)) = lnds G (fun i => (ad (o + 4 * (i : Nat)), ad (o + 4 * (i : Nat) + 1), ad (o + 4 * (i : Nat) + 2), ad (o + 4 * (i : Nat) + 3))) k := by
  intro k
  induction k with
  | zero => intro _; rfl
  | succ k ih =>
    intro h
    obtain ⟨a1, a2, a3⟩ := h k (by omega)
    rw [List.range_succ, List.flatMap_append, List.map_append, ih (fun i hi => h i (by omega)), List.flatMap_singleton, L_Land a1 a2 a3]
    rfl
theorem L_txts {ad : Int → Nat} {G : Nat → ClassId} {m : Mm} {o : Int} : ∀ k : Nat, (∀ i : Nat, i < k → ∀ a b, o + 8 * (i : Nat) ≤ a → a ≤ o + 8 * (i : Nat) + 4 → m a b = 0) → ((List.range k).flatMap (fun i => uText (o + 8 * (i : Nat)))).map (fun q => (ad q.1, cellOf ad G m q)) = txts G (fun i => (ad (o + 8 * (i : Nat)), ad (o + 8 * (i : Nat) + 1), ad (o + 8 * (i : Nat) + 2), ad (o + 8 * (i : Nat) + 3), ad (o + 8 * (i : Nat) + 4))) k := by
  intro k
  induction k with
  | zero => intro _; rfl
  | succ k ih =>
    intro h
    rw [List.range_succ, List.flatMap_append, List.map_append, ih (fun i hi => h i (by omega)), List.flatMap_singleton, L_Text (h k (by omega))]
    rfl
theorem L_Farm {ad : Int → Nat} {G : Nat → ClassId} {m : Mm} {o : Int} (h7 : m o 7 = -1) (h0 : ∀ b, b ≠ 7 → m o b = 0) (hl : m (o + 1) 6 = 331 ∧ (∀ b, b ≠ 6 → m (o + 1) b = 0) ∧ ∀ a b, o + 1 < a → a ≤ o + 1 + 3 → m a b = 0) (hs : ∀ b, m (o + 126) b = 0 ∧ m (o + 127) b = 0) (hls : ∀ i : Nat, i < 30 → m (o + 6 + 4 * (i : Nat)) 6 = 331 ∧ (∀ b, b ≠ 6 → m (o + 6 + 4 * (i : Nat)) b = 0) ∧ ∀ a b, o + 6 + 4 * (i : Nat) < a → a ≤ o + 6 + 4 * (i : Nat) + 3 → m a b = 0) : (uFarm o).map (fun q => (ad q.1, cellOf ad G m q)) = bC_Farm G (ad o) (ad (o + 1)) (ad (o + 1 + 1)) (ad (o + 1 + 2)) (ad (o + 1 + 3)) (ad (o + 5)) (ad (o + 126)) (ad (o + 127)) (fun j => some (ad (PA 3 (o + 5) ((j : Nat) : Int)))) ++ lnds G (fun i => (ad (o + 6 + 4 * (i : Nat)), ad (o + 6 + 4 * (i : Nat) + 1), ad (o + 6 + 4 * (i : Nat) + 2), ad (o + 6 + 4 * (i : Nat) + 3))) 30 := by
  have e : (uFarm o).map (fun q => (ad q.1, cellOf ad G m q)) = (ad o, .inr (0, [.ref (ad (o + 1)), .ref (ad (o + 5)), .int (Int32.ofInt (m o ((2 : Nat) : Int))), .int (Int32.ofInt (m o ((3 : Nat) : Int))), .int (Int32.ofInt (m o ((4 : Nat) : Int))), .int (Int32.ofInt (m o ((5 : Nat) : Int))), .int (Int32.ofInt (m o ((6 : Nat) : Int))), .int (Int32.ofInt (m o ((7 : Nat) : Int))), .int (Int32.ofInt (m o ((8 : Nat) : Int))), .ref (ad (o + 126)), .ref (ad (o + 127))])) :: ((uLand (o + 1)).map (fun q => (ad q.1, cellOf ad G m q)) ++ ((ad (o + 5), .inl (G 3, 30, .inr (.inr (.inr (.inr (fun j => some (ad (PA 3 (o + 5) ((j : Nat) : Int))))))))) :: (ad (o + 126), .inl (G 0, 8, .inl (fun j => Int32.ofInt (m (o + 126) ((j : Nat) : Int))))) :: (ad (o + 127), .inl (G 0, 8, .inl (fun j => Int32.ofInt (m (o + 127) ((j : Nat) : Int))))) :: ((List.range 30).flatMap (fun i => uLand (o + 6 + 4 * (i : Nat)))).map (fun q => (ad q.1, cellOf ad G m q)))) := by
    unfold uFarm
    rw [List.map_cons, List.map_append, List.map_cons, List.map_cons, List.map_cons]
    simp only [ob_0, ar_343, ar_164]
  have e7 : m o ((7 : Nat) : Int) = -1 := h7
  have z1 : ∀ b, m (o + 126) b = 0 := fun b => (hs b).1
  have z2 : ∀ b, m (o + 127) b = 0 := fun b => (hs b).2
  rw [e, L_Land hl.1 hl.2.1 hl.2.2, L_lnds 30 hls, e7, h0 ((2 : Nat) : Int) (by decide), h0 ((3 : Nat) : Int) (by decide), h0 ((4 : Nat) : Int) (by decide), h0 ((5 : Nat) : Int) (by decide), h0 ((6 : Nat) : Int) (by decide), h0 ((8 : Nat) : Int) (by decide)]
  simp only [z1, z2]
  unfold bC_Farm cC_Land
  simp only [List.cons_append, List.nil_append, show Int32.ofInt 0 = (0 : Int32) from rfl, show Int32.ofInt (-1) = (-1 : Int32) from rfl]
