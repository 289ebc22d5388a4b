/-! THE CLASS'S ADDRESSES: one map of them, out of what its constructor left -/
def p4 (a : Nat × Nat × Nat × Nat) (k : Int) : Nat := if k = 0 then a.1 else if k = 1 then a.2.1 else if k = 2 then a.2.2.1 else a.2.2.2
def p5 (a : Nat × Nat × Nat × Nat × Nat) (k : Int) : Nat := if k = 0 then a.1 else if k = 1 then a.2.1 else if k = 2 then a.2.2.1 else if k = 3 then a.2.2.2.1 else a.2.2.2.2
def adT (adX : Int → Nat) (a5 a16 : Ad4) (tx : Ad5) (F : Int → Nat) : Int → Nat := fun i => if 500 ≤ i then adX i else if 134 ≤ i ∧ i < 254 then p4 (a5 ((i - 134) / 4).toNat) ((i - 134) % 4) else if 262 ≤ i ∧ i < 382 then p4 (a16 ((i - 262) / 4).toNat) ((i - 262) % 4) else if 16 ≤ i ∧ i < 48 then p5 (tx ((i - 16) / 8).toNat) ((i - 16) % 8) else F i
theorem adT_F {adX : Int → Nat} {a5 a16 : Ad4} {tx : Ad5} {F : Int → Nat} {i : Int} (h : i < 500 ∧ ¬ (134 ≤ i ∧ i < 254) ∧ ¬ (262 ≤ i ∧ i < 382) ∧ ¬ (16 ≤ i ∧ i < 48)) : adT adX a5 a16 tx F i = F i := by
  unfold adT
  rw [if_neg (by omega), if_neg h.2.1, if_neg h.2.2.1, if_neg h.2.2.2]
theorem adT_5 {adX : Int → Nat} {a5 a16 : Ad4} {tx : Ad5} {F : Int → Nat} {i : Nat} (hi : i < 30) (k : Int) (hk : 0 ≤ k ∧ k < 4) : adT adX a5 a16 tx F (128 + 6 + 4 * (i : Nat) + k) = p4 (a5 i) k := by
  unfold adT
  rw [if_neg (by omega), if_pos (by omega), show ((128 + 6 + 4 * (i : Int) + k - 134) / 4).toNat = i by omega, show (128 + 6 + 4 * (i : Int) + k - 134) % 4 = k by omega]
theorem adT_16 {adX : Int → Nat} {a5 a16 : Ad4} {tx : Ad5} {F : Int → Nat} {i : Nat} (hi : i < 30) (k : Int) (hk : 0 ≤ k ∧ k < 4) : adT adX a5 a16 tx F (256 + 6 + 4 * (i : Nat) + k) = p4 (a16 i) k := by
  unfold adT
  rw [if_neg (by omega), if_neg (by omega), if_pos (by omega), show ((256 + 6 + 4 * (i : Int) + k - 262) / 4).toNat = i by omega, show (256 + 6 + 4 * (i : Int) + k - 262) % 4 = k by omega]
theorem adT_t {adX : Int → Nat} {a5 a16 : Ad4} {tx : Ad5} {F : Int → Nat} {i : Nat} (hi : i < 4) (k : Int) (hk : 0 ≤ k ∧ k < 5) : adT adX a5 a16 tx F (16 + 8 * (i : Nat) + k) = p5 (tx i) k := by
  unfold adT
  rw [if_neg (by omega), if_neg (by omega), if_neg (by omega), if_pos (by omega), show ((16 + 8 * (i : Int) + k - 16) / 8).toNat = i by omega, show (16 + 8 * (i : Int) + k - 16) % 8 = k by omega]
theorem cv_TH {D : va_G} {G : Nat → ClassId} {h : Nat} {wn : va_W} {xs ys : Int → Int} (adX : Int → Nat) (hE : eC_TH G h wn) : ∃ ad0 : Int → Nat, ad0 0 = h ∧ (∀ i, 500 ≤ i → ad0 i = adX i) ∧ cvT D wn ad0 G xs ys := by
  obtain ⟨h5, h5_0, h5_1, h5_2, h5_3, h5_4, h5_5, h5_6, a5, h16, h16_0, h16_1, h16_2, h16_3, h16_4, h16_5, h16_6, a16, h27, h27_0, q39, h46, h46_0, h46_1, h46_2, h46_3, h57, h57_0, h57_1, h57_2, h57_3, h57_4, h57_5, h68, h68_0, h68_1, h79, h79_0, h90, h90_0, h90_1, h90_2, tx, rfl⟩ := hE
  obtain ⟨F, hF⟩ : ∃ F : Int → Nat, F = fun i => if i = 0 then h else if i = 128 then h5 else if i = 129 then h5_0 else if i = 130 then h5_1 else if i = 131 then h5_2 else if i = 132 then h5_3 else if i = 133 then h5_4 else if i = 254 then h5_5 else if i = 255 then h5_6 else if i = 256 then h16 else if i = 257 then h16_0 else if i = 258 then h16_1 else if i = 259 then h16_2 else if i = 260 then h16_3 else if i = 261 then h16_4 else if i = 382 then h16_5 else if i = 383 then h16_6 else if i = 1 then h27 else if i = 2 then h27_0 else if i = 3 then q39 else if i = 48 then h46 else if i = 49 then h46_0 else if i = 50 then h46_1 else if i = 51 then h46_2 else if i = 52 then h46_3 else if i = 80 then h57 else if i = 81 then h57_0 else if i = 82 then h57_1 else if i = 83 then h57_2 else if i = 84 then h57_3 else if i = 85 then h57_4 else if i = 86 then h57_5 else if i = 10 then h68 else if i = 11 then h68_0 else if i = 12 then h68_1 else if i = 13 then h79 else if i = 14 then h79_0 else if i = 64 then h90 else if i = 65 then h90_0 else if i = 66 then h90_1 else if i = 67 then h90_2 else 0 := ⟨_, rfl⟩
  have f0 : F 0 = h := by rw [hF]; rfl
  have f128 : F 128 = h5 := by rw [hF]; rfl
  have f129 : F 129 = h5_0 := by rw [hF]; rfl
  have f130 : F 130 = h5_1 := by rw [hF]; rfl
  have f131 : F 131 = h5_2 := by rw [hF]; rfl
  have f132 : F 132 = h5_3 := by rw [hF]; rfl
  have f133 : F 133 = h5_4 := by rw [hF]; rfl
  have f254 : F 254 = h5_5 := by rw [hF]; rfl
  have f255 : F 255 = h5_6 := by rw [hF]; rfl
  have f256 : F 256 = h16 := by rw [hF]; rfl
  have f257 : F 257 = h16_0 := by rw [hF]; rfl
  have f258 : F 258 = h16_1 := by rw [hF]; rfl
  have f259 : F 259 = h16_2 := by rw [hF]; rfl
  have f260 : F 260 = h16_3 := by rw [hF]; rfl
  have f261 : F 261 = h16_4 := by rw [hF]; rfl
  have f382 : F 382 = h16_5 := by rw [hF]; rfl
  have f383 : F 383 = h16_6 := by rw [hF]; rfl
  have f1 : F 1 = h27 := by rw [hF]; rfl
  have f2 : F 2 = h27_0 := by rw [hF]; rfl
  have f3 : F 3 = q39 := by rw [hF]; rfl
  have f48 : F 48 = h46 := by rw [hF]; rfl
  have f49 : F 49 = h46_0 := by rw [hF]; rfl
  have f50 : F 50 = h46_1 := by rw [hF]; rfl
  have f51 : F 51 = h46_2 := by rw [hF]; rfl
  have f52 : F 52 = h46_3 := by rw [hF]; rfl
  have f80 : F 80 = h57 := by rw [hF]; rfl
  have f81 : F 81 = h57_0 := by rw [hF]; rfl
  have f82 : F 82 = h57_1 := by rw [hF]; rfl
  have f83 : F 83 = h57_2 := by rw [hF]; rfl
  have f84 : F 84 = h57_3 := by rw [hF]; rfl
  have f85 : F 85 = h57_4 := by rw [hF]; rfl
  have f86 : F 86 = h57_5 := by rw [hF]; rfl
  have f10 : F 10 = h68 := by rw [hF]; rfl
  have f11 : F 11 = h68_0 := by rw [hF]; rfl
  have f12 : F 12 = h68_1 := by rw [hF]; rfl
  have f13 : F 13 = h79 := by rw [hF]; rfl
  have f14 : F 14 = h79_0 := by rw [hF]; rfl
  have f64 : F 64 = h90 := by rw [hF]; rfl
  have f65 : F 65 = h90_0 := by rw [hF]; rfl
  have f66 : F 66 = h90_1 := by rw [hF]; rfl
  have f67 : F 67 = h90_2 := by rw [hF]; rfl
  clear hF
  refine ⟨adT adX a5 a16 tx F, by rw [adT_F (by omega)]; exact f0, fun i hi => by unfold adT; rw [if_pos hi], fun ad had A X H hP hD => ?_⟩
  have e0 : ad (0) = h := by rw [had _ (by omega), adT_F (by omega)]; exact f0
  have e128 : ad (128) = h5 := by rw [had _ (by omega), adT_F (by omega)]; exact f128
  have e129 : ad (128 + 1) = h5_0 := by rw [had _ (by omega), adT_F (by omega)]; exact f129
  have e130 : ad (128 + 1 + 1) = h5_1 := by rw [had _ (by omega), adT_F (by omega)]; exact f130
  have e131 : ad (128 + 1 + 2) = h5_2 := by rw [had _ (by omega), adT_F (by omega)]; exact f131
  have e132 : ad (128 + 1 + 3) = h5_3 := by rw [had _ (by omega), adT_F (by omega)]; exact f132
  have e133 : ad (128 + 5) = h5_4 := by rw [had _ (by omega), adT_F (by omega)]; exact f133
  have e254 : ad (128 + 126) = h5_5 := by rw [had _ (by omega), adT_F (by omega)]; exact f254
  have e255 : ad (128 + 127) = h5_6 := by rw [had _ (by omega), adT_F (by omega)]; exact f255
  have e256 : ad (256) = h16 := by rw [had _ (by omega), adT_F (by omega)]; exact f256
  have e257 : ad (256 + 1) = h16_0 := by rw [had _ (by omega), adT_F (by omega)]; exact f257
  have e258 : ad (256 + 1 + 1) = h16_1 := by rw [had _ (by omega), adT_F (by omega)]; exact f258
  have e259 : ad (256 + 1 + 2) = h16_2 := by rw [had _ (by omega), adT_F (by omega)]; exact f259
  have e260 : ad (256 + 1 + 3) = h16_3 := by rw [had _ (by omega), adT_F (by omega)]; exact f260
  have e261 : ad (256 + 5) = h16_4 := by rw [had _ (by omega), adT_F (by omega)]; exact f261
  have e382 : ad (256 + 126) = h16_5 := by rw [had _ (by omega), adT_F (by omega)]; exact f382
  have e383 : ad (256 + 127) = h16_6 := by rw [had _ (by omega), adT_F (by omega)]; exact f383
  have e1 : ad (1) = h27 := by rw [had _ (by omega), adT_F (by omega)]; exact f1
  have e2 : ad (2) = h27_0 := by rw [had _ (by omega), adT_F (by omega)]; exact f2
  have e3 : ad (3) = q39 := by rw [had _ (by omega), adT_F (by omega)]; exact f3
  have e48 : ad (48) = h46 := by rw [had _ (by omega), adT_F (by omega)]; exact f48
  have e49 : ad (48 + 1) = h46_0 := by rw [had _ (by omega), adT_F (by omega)]; exact f49
  have e50 : ad (48 + 2) = h46_1 := by rw [had _ (by omega), adT_F (by omega)]; exact f50
  have e51 : ad (48 + 3) = h46_2 := by rw [had _ (by omega), adT_F (by omega)]; exact f51
  have e52 : ad (48 + 4) = h46_3 := by rw [had _ (by omega), adT_F (by omega)]; exact f52
  have e80 : ad (80) = h57 := by rw [had _ (by omega), adT_F (by omega)]; exact f80
  have e81 : ad (81) = h57_0 := by rw [had _ (by omega), adT_F (by omega)]; exact f81
  have e82 : ad (82) = h57_1 := by rw [had _ (by omega), adT_F (by omega)]; exact f82
  have e83 : ad (82 + 1) = h57_2 := by rw [had _ (by omega), adT_F (by omega)]; exact f83
  have e84 : ad (82 + 2) = h57_3 := by rw [had _ (by omega), adT_F (by omega)]; exact f84
  have e85 : ad (82 + 3) = h57_4 := by rw [had _ (by omega), adT_F (by omega)]; exact f85
  have e86 : ad (82 + 4) = h57_5 := by rw [had _ (by omega), adT_F (by omega)]; exact f86
  have e10 : ad (10) = h68 := by rw [had _ (by omega), adT_F (by omega)]; exact f10
  have e11 : ad (11) = h68_0 := by rw [had _ (by omega), adT_F (by omega)]; exact f11
  have e12 : ad (12) = h68_1 := by rw [had _ (by omega), adT_F (by omega)]; exact f12
  have e13 : ad (13) = h79 := by rw [had _ (by omega), adT_F (by omega)]; exact f13
  have e14 : ad (14) = h79_0 := by rw [had _ (by omega), adT_F (by omega)]; exact f14
  have e64 : ad (64) = h90 := by rw [had _ (by omega), adT_F (by omega)]; exact f64
  have e65 : ad (64 + 1) = h90_0 := by rw [had _ (by omega), adT_F (by omega)]; exact f65
  have e66 : ad (64 + 2) = h90_1 := by rw [had _ (by omega), adT_F (by omega)]; exact f66
  have e67 : ad (64 + 3) = h90_2 := by rw [had _ (by omega), adT_F (by omega)]; exact f67
  have k5 : ∀ i, i < 30 → a5 i = (fun i => (ad (128 + 6 + 4 * (i : Nat)), ad (128 + 6 + 4 * (i : Nat) + 1), ad (128 + 6 + 4 * (i : Nat) + 2), ad (128 + 6 + 4 * (i : Nat) + 3))) i := by
    intro i hi
    have g0 : ad (128 + 6 + 4 * (i : Nat)) = (a5 i).1 := by
      rw [had _ (by omega), show ((128 + 6 + 4 * (i : Nat) : Int)) = 128 + 6 + 4 * (i : Nat) + 0 by omega, adT_5 hi 0 (by omega)]
      rfl
    have g1 : ad (128 + 6 + 4 * (i : Nat) + 1) = (a5 i).2.1 := by
      rw [had _ (by omega), adT_5 hi 1 (by omega)]
      rfl
    have g2 : ad (128 + 6 + 4 * (i : Nat) + 2) = (a5 i).2.2.1 := by
      rw [had _ (by omega), adT_5 hi 2 (by omega)]
      rfl
    have g3 : ad (128 + 6 + 4 * (i : Nat) + 3) = (a5 i).2.2.2 := by
      rw [had _ (by omega), adT_5 hi 3 (by omega)]
      rfl
    show a5 i = (ad (128 + 6 + 4 * (i : Nat)), ad (128 + 6 + 4 * (i : Nat) + 1), ad (128 + 6 + 4 * (i : Nat) + 2), ad (128 + 6 + 4 * (i : Nat) + 3))
    rw [g0, g1, g2, g3]
  have k16 : ∀ i, i < 30 → a16 i = (fun i => (ad (256 + 6 + 4 * (i : Nat)), ad (256 + 6 + 4 * (i : Nat) + 1), ad (256 + 6 + 4 * (i : Nat) + 2), ad (256 + 6 + 4 * (i : Nat) + 3))) i := by
    intro i hi
    have g0 : ad (256 + 6 + 4 * (i : Nat)) = (a16 i).1 := by
      rw [had _ (by omega), show ((256 + 6 + 4 * (i : Nat) : Int)) = 256 + 6 + 4 * (i : Nat) + 0 by omega, adT_16 hi 0 (by omega)]
      rfl
    have g1 : ad (256 + 6 + 4 * (i : Nat) + 1) = (a16 i).2.1 := by
      rw [had _ (by omega), adT_16 hi 1 (by omega)]
      rfl
    have g2 : ad (256 + 6 + 4 * (i : Nat) + 2) = (a16 i).2.2.1 := by
      rw [had _ (by omega), adT_16 hi 2 (by omega)]
      rfl
    have g3 : ad (256 + 6 + 4 * (i : Nat) + 3) = (a16 i).2.2.2 := by
      rw [had _ (by omega), adT_16 hi 3 (by omega)]
      rfl
    show a16 i = (ad (256 + 6 + 4 * (i : Nat)), ad (256 + 6 + 4 * (i : Nat) + 1), ad (256 + 6 + 4 * (i : Nat) + 2), ad (256 + 6 + 4 * (i : Nat) + 3))
    rw [g0, g1, g2, g3]
  have kt : ∀ i, i < 4 → tx i = (fun i => (ad (16 + 8 * (i : Nat)), ad (16 + 8 * (i : Nat) + 1), ad (16 + 8 * (i : Nat) + 2), ad (16 + 8 * (i : Nat) + 3), ad (16 + 8 * (i : Nat) + 4))) i := by
    intro i hi
    have g0 : ad (16 + 8 * (i : Nat)) = (tx i).1 := by
      rw [had _ (by omega), show ((16 + 8 * (i : Nat) : Int)) = 16 + 8 * (i : Nat) + 0 by omega, adT_t hi 0 (by omega)]
      rfl
    have g1 : ad (16 + 8 * (i : Nat) + 1) = (tx i).2.1 := by
      rw [had _ (by omega), adT_t hi 1 (by omega)]
      rfl
    have g2 : ad (16 + 8 * (i : Nat) + 2) = (tx i).2.2.1 := by
      rw [had _ (by omega), adT_t hi 2 (by omega)]
      rfl
    have g3 : ad (16 + 8 * (i : Nat) + 3) = (tx i).2.2.2.1 := by
      rw [had _ (by omega), adT_t hi 3 (by omega)]
      rfl
    have g4 : ad (16 + 8 * (i : Nat) + 4) = (tx i).2.2.2.2 := by
      rw [had _ (by omega), adT_t hi 4 (by omega)]
      rfl
    show tx i = (ad (16 + 8 * (i : Nat)), ad (16 + 8 * (i : Nat) + 1), ad (16 + 8 * (i : Nat) + 2), ad (16 + 8 * (i : Nat) + 3), ad (16 + 8 * (i : Nat) + 4))
    rw [g0, g1, g2, g3, g4]
  refine W_TH (ad := ad) (a5 := a5) (a16 := a16) (tx := tx) k5 k16 kt ?_ ?_
  · rw [e0, e128, e129, e130, e131, e132, e133, e254, e255, e256, e257, e258, e259, e260, e261, e382, e383, e1, e2, e3, e48, e49, e50, e51, e52, e80, e81, e82, e83, e84, e85, e86, e10, e11, e12, e13, e14, e64, e65, e66, e67]
    exact hP
  · rw [e0, e128, e129, e130, e131, e132, e133, e254, e255, e256, e257, e258, e259, e260, e261, e382, e383, e1, e2, e3, e48, e49, e50, e51, e52, e80, e81, e82, e83, e84, e85, e86, e10, e11, e12, e13, e14, e64, e65, e66, e67]
    exact hD
