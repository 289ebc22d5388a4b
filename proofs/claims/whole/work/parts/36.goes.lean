/-! PRESSED, GONE -/
def prS (S : Int → Int) (x y : Int) : Int → Int := ups (ups S 8 (pat (cmb (S (32 + 2 * x)) (S (33 + 2 * x))) y.toNat % 2 ^ 20 : Nat)) 9 (pat (cmb (S (32 + 2 * x)) (S (33 + 2 * x))) y.toNat / 2 ^ 20 : Nat)
def prA (S : Int → Int) (x y : Int) : Prop := (0 ≤ x ∧ x < S 0) ∧ 0 ≤ y ∧ y < 8
theorem RH_hnc {m : Mm} {S : Int → Int} {n : Nat} (h : RH m S) (hn : S 0 = (n : Nat)) : HNC m n (fun h => cmb (S (32 + 2 * h)) (S (33 + 2 * h))) := fun j t hj ht => (h j (by rw [hn]; omega)).2.2 t ht
theorem cmb_md {p : Nat} (hp : p < 2 ^ 40) : hv20 ((p % 2 ^ 20 : Nat) : Int) ∧ hv20 ((p / 2 ^ 20 : Nat) : Int) ∧ cmb ((p % 2 ^ 20 : Nat) : Int) ((p / 2 ^ 20 : Nat) : Int) = p := by
  unfold hv20 cmb
  rw [Int.toNat_natCast, Int.toNat_natCast]
  omega
theorem LSd_press {m : Mm} {o : Int} {S : Int → Int} {x y : Int} (h : LSd m o S) : LSd (up m o 0 (pat (cmb (S (32 + 2 * x)) (S (33 + 2 * x))) y.toNat : Nat)) o (prS S x y) := by
  obtain ⟨q1, q2, q3⟩ := cmb_md (pat_lt (cmb (S (32 + 2 * x)) (S (33 + 2 * x))) y.toNat)
  have e8 : prS S x y 8 = (pat (cmb (S (32 + 2 * x)) (S (33 + 2 * x))) y.toNat % 2 ^ 20 : Nat) := by unfold prS; rw [ups_ne (by omega), ups_eq]
  have e9 : prS S x y 9 = (pat (cmb (S (32 + 2 * x)) (S (33 + 2 * x))) y.toNat / 2 ^ 20 : Nat) := by unfold prS; rw [ups_eq]
  have ek : ∀ k, k ≠ 8 → k ≠ 9 → prS S x y k = S k := fun k h1 h2 => by unfold prS; rw [ups_ne h2, ups_ne h1]
  unfold LSd
  rw [ek 1 (by omega) (by omega)]
  refine LC_hed h ?_ ?_ ?_ (fun k h2 h3 => ek _ (by omega) (by omega))
  · show hv20 (prS S x y 8)
    rw [e8]; exact q1
  · show hv20 (prS S x y 9)
    rw [e9]; exact q2
  · show _ = ((cmb (prS S x y 8) (prS S x y 9) : Nat) : Int)
    rw [e8, e9, q3]
theorem prS_k {S : Int → Int} {x y k : Int} (h1 : k ≠ 8) (h2 : k ≠ 9) : prS S x y k = S k := by unfold prS; rw [ups_ne h2, ups_ne h1]
theorem c_Th_press {d : Nat} {m : Mm} {S : Int → Int} {x y : Int} (h : FC m 128 S) (hr : RH m S) : ∃ v m', Cl (d + 3) k_Th_press [(17, 0), (0, x), (0, y)] m (some (0, v), m') ∧ FRC m m' ∧ (prA S x y → v = 1 ∧ FC m' 128 (prS (kpS S) x y)) ∧ (¬ prA S x y → v = 0 ∧ m' = m) := by
  have h4 := h.2.1.1
  have h0 := h.2.2.2.2.1
  obtain ⟨n, hn⟩ := Int.eq_ofNat_of_zero_le h0.2.1
  have e3 : m 128 5 = (n : Nat) := by rw [h0.1, hn]
  by_cases hp : prA S x y
  · obtain ⟨m1, k1, k2, k3⟩ := c_Fa_markStep (d := d) h
    obtain ⟨u1, u2, u3, u4⟩ := kpS_v (S := S) (by omega)
    obtain ⟨⟨p1, p2⟩, p3, p4⟩ := hp
    obtain ⟨a, rfl⟩ := Int.eq_ofNat_of_zero_le p1
    obtain ⟨t, rfl⟩ := Int.eq_ofNat_of_zero_le p3
    have hc : HNC m1 n (fun h => cmb (S (32 + 2 * h)) (S (33 + 2 * h))) := by
      intro j t hj ht
      rw [k3 _ _ (by omega)]
      exact RH_hnc hr hn j t hj ht
    refine ⟨1, up m1 129 0 (pat (cmb (S (32 + 2 * (a : Nat))) (S (33 + 2 * (a : Nat)))) t : Nat), cl_Th_press (b_Th_press ⟨_, _, c_Th_isHandN e3, fun z => ?_, fun _ => ⟨_, _, c_Ha_isTurn, fun _ => ⟨_, k1, _, _, c_Ha_pattern hc (by omega) (by omega) (by omega), ?_⟩, fun z => ?_⟩⟩), ?_, fun _ => ⟨rfl, ?_⟩, fun z => absurd ⟨⟨p1, p2⟩, p3, p4⟩ z⟩
    · rw [ite_z] at z; omega
    · rintro m5 rfl
      rfl
    · rw [ite_z1] at z; omega
    · intro a b q _ _
      rw [up_ne (by omega), k3 a b (by omega)]
    · have hL := LSd_press (x := (a : Nat)) (y := (t : Nat)) k2.1.1
      rw [u2 _ (by omega) (by omega), u2 _ (by omega) (by omega), Int.toNat_natCast] at hL
      refine FC_land k2 u4 (fun a b _ _ q => up_ne (by omega)) (fun k h0 h1 q => prS_k (by omega) (by omega)) ?_ ?_
      · unfold LSd at hL
        rw [prS_k (by omega) (by omega)] at hL
        exact hL
      · exact LSk_up0 k2.1.2 ⟨prS_k (by omega) (by omega), fun k hk => prS_k (by omega) (by omega)⟩
  · refine ⟨0, m, cl_Th_press (b_Th_press ⟨_, _, c_Th_isHandN e3, fun z => rfl, fun z => ⟨_, _, c_Ha_isTurn, fun z2 => ?_, fun z2 => rfl⟩⟩), FRC_refl, fun z => absurd z hp, fun _ => ⟨rfl, rfl⟩⟩
    rw [ite_z1] at z z2
    exact absurd ⟨by omega, z2⟩ hp
theorem c_Mo_press {d : Nat} {m : Mm} {x y : Int} {n : Nat} (h : RM (m 401)) (hn : m 401 0 = (n : Nat)) (hn4 : n ≤ 4) (hT : TU m) (hm : HNM m 401 n (fun h => cmb (m 401 (32 + 2 * h)) (m 401 (33 + 2 * h)))) : ∃ v m', Cl (d + 4) k_Mo_press [(18, 400), (0, x), (0, y)] m (some (0, v), m') ∧ FRM m m' ∧ (prA (m 401) x y → v = 1 ∧ m' 401 = prS (kpS (m 401)) x y) ∧ (¬ prA (m 401) x y → v = 0 ∧ m' 401 = m 401) := by
  obtain ⟨h8, h9, h4, _⟩ := h
  by_cases hp : prA (m 401) x y
  · obtain ⟨⟨p1, p2⟩, p3, p4⟩ := hp
    obtain ⟨a, rfl⟩ := Int.eq_ofNat_of_zero_le p1
    obtain ⟨t, rfl⟩ := Int.eq_ofNat_of_zero_le p3
    obtain ⟨u1, u2, u3, u4⟩ := kpS_v (S := m 401) h4
    have hT' : TU (sr m 401 (kpS (m 401))) := TU_row hT (sr_ne (by omega))
    have hm' : HNM (sr m 401 (kpS (m 401))) 401 n (fun h => cmb (m 401 (32 + 2 * h)) (m 401 (33 + 2 * h))) := by
      intro j hj
      rw [sr_eq, u2 _ (by omega) (by omega), u2 _ (by omega) (by omega)]
      exact hm j hj
    have hpr := c_Mo_pressNow (d := d) (h := a) (t := t) hT' hm' hn4 (by omega) (by omega)
    rw [sr_up2, sr_up2] at hpr
    refine ⟨1, _, cl_Mo_press (b_Mo_press ⟨_, _, c_Mo_isHandN hn hn4, fun z => ?_, fun _ => ⟨_, _, c_Mo_isIn, fun _ => ⟨_, c_Mo_keep h4, _, hpr, rfl⟩, fun z => ?_⟩⟩), FRM_sr, fun _ => ⟨rfl, ?_⟩, fun z => absurd ⟨⟨p1, p2⟩, p3, p4⟩ z⟩
    · rw [ite_z] at z; omega
    · rw [ite_z1] at z; omega
    · rw [sr_eq]
      unfold prS
      rw [u2 (32 + 2 * (a : Int)) (by omega) (by omega), u2 (33 + 2 * (a : Int)) (by omega) (by omega), Int.toNat_natCast]
  · refine ⟨0, m, cl_Mo_press (b_Mo_press ⟨_, _, c_Mo_isHandN hn hn4, fun z => rfl, fun z => ⟨_, _, c_Mo_isIn, fun z2 => ?_, fun z2 => rfl⟩⟩), FRM_refl, fun z => absurd z hp, fun _ => ⟨rfl, rfl⟩⟩
    rw [ite_z1] at z z2
    exact absurd ⟨by omega, by omega⟩ hp
theorem op_press {m : Mm} {x y : Int} (h : R m) : OP k_Th_press k_Mo_press 0 [(0, x), (0, y)] m := by
  have hM := FC_RM h.1
  obtain ⟨_, o2, _⟩ := R_o h
  obtain ⟨n, hn⟩ := Int.eq_ofNat_of_zero_le o2.2.1
  have hm : HNM m 401 n (fun h => cmb (m 401 (32 + 2 * h)) (m 401 (33 + 2 * h))) := fun j hj => by
    obtain ⟨q1, q2, _⟩ := h.2.2.1 j (by rw [hn]; omega)
    exact ⟨q1, q2, rfl⟩
  refine OP_d (A := fun S => prA S x y) (N := fun S => prS (kpS S) x y) h (c_Th_press h.1 h.2.2.1) (fun m1 e fr => ?_) (fun hA => ?_)
  · have := c_Mo_press (d := 116) (m := m1) (x := x) (y := y) (n := n) (by rw [e]; exact hM) (by rw [e]; exact hn) (by omega) (TU_row h.2.2.2.2.2.2.2.1.2.1 (fr.row (by omega) (by omega) (by omega))) (by rw [e]; exact HNM_row hm e)
    rw [e] at this
    exact this
  · obtain ⟨h8, h9, h4, _⟩ := hM
    obtain ⟨u1, u2, u3, u4⟩ := kpS_v (S := m 401) h4
    exact ⟨by rw [prS_k (by omega) (by omega), u2 _ (by omega) (by omega)], by rw [prS_k (by omega) (by omega), u2 _ (by omega) (by omega)], fun k h1 h2 => by rw [prS_k (by omega) (by omega), u2 _ (by omega) (by omega)]⟩
/-! GONE -/
def cgB (S : Int → Int) (c w : Int) : Bool := decide (0 ≤ c ∧ c < S 1) && decide (0 ≤ w ∧ w < 4) && decide (S (11 + 2 * c) ≠ -1) && opn (HS S) (S (11 + 2 * c)) w
theorem cgB_iff {S : Int → Int} {c w : Int} : cgB S c w = true ↔ (0 ≤ c ∧ c < S 1) ∧ (0 ≤ w ∧ w < 4) ∧ S (11 + 2 * c) ≠ -1 ∧ opn (HS S) (S (11 + 2 * c)) w = true := by
  unfold cgB
  simp only [Bool.and_eq_true, decide_eq_true_eq]
  constructor
  · rintro ⟨⟨⟨h1, h2⟩, h3⟩, h4⟩; exact ⟨h1, h2, h3, h4⟩
  · rintro ⟨h1, h2, h3, h4⟩; exact ⟨⟨⟨h1, h2⟩, h3⟩, h4⟩
theorem LSd_c {m : Mm} {o : Int} {S : Int → Int} (h : LSd m o S) {c : Int} (hc : 0 ≤ c ∧ c < S 1) : cellI (m (o + 1) c) ∧ wayI (m (o + 2) c) ∧ S (11 + 2 * c) = (if bt_ (m o 4) c = true then -1 else m (o + 1) c) ∧ S (12 + 2 * c) = m (o + 2) c := by
  obtain ⟨j, rfl⟩ := Int.eq_ofNat_of_zero_le hc.1
  have q : cellI (m (o + 1) j) ∧ wayI (m (o + 2) j) ∧ S (6 + (5 + 2 * (j : Int))) = (if bt_ (m o 4) j = true then -1 else m (o + 1) j) ∧ S (6 + (6 + 2 * (j : Int))) = m (o + 2) j := h.2.2.2.2.2 j hc.2
  rw [show (6 : Int) + (5 + 2 * j) = 11 + 2 * j by omega, show (6 : Int) + (6 + 2 * j) = 12 + 2 * j by omega] at q
  exact q
theorem LSd_t {m : Mm} {o : Int} {S : Int → Int} (h : LSd m o S) : (0 ≤ S 1 ∧ S 1 ≤ 5 ∧ m o 1 = S 1) ∧ (0 ≤ m o 4 ∧ m o 4 < ((2 ^ (S 1).toNat : Nat) : Int)) ∧ (0 ≤ m o 4 ∧ m o 4 < 32) ∧ (0 ≤ S 6 ∧ S 6 ≤ 9999 ∧ m o 5 = S 6) ∧ (0 ≤ S 7 ∧ S 7 < 30817 ∧ m o 6 = S 7) := by
  obtain ⟨_, h2, h3, h4, h5, _⟩ := h
  have := p2le (k := (S 1).toNat) (n := 5) (by omega)
  exact ⟨h2, h5, by omega, h3, h4⟩
theorem LSd_hm {m : Mm} {o : Int} {S : Int → Int} (h : LSd m o S) {c : Int} (hc : 0 ≤ c ∧ c < S 1) : (bt_ (m o 4) c = true ↔ S (11 + 2 * c) = -1) ∧ (S (11 + 2 * c) ≠ -1 → S (11 + 2 * c) = m (o + 1) c ∧ cellI (S (11 + 2 * c))) := by
  obtain ⟨q1, q2, q3, q4⟩ := LSd_c h hc
  unfold cellI at *
  by_cases hb : bt_ (m o 4) c = true
  · rw [if_pos hb] at q3
    exact ⟨⟨fun _ => q3, fun _ => hb⟩, fun z => absurd q3 z⟩
  · rw [if_neg hb] at q3
    exact ⟨⟨fun z => absurd z hb, fun z => by omega⟩, fun _ => ⟨q3, by omega⟩⟩
theorem c_La_isHomeS {d : Nat} {m : Mm} {o : Int} {S : Int → Int} {c : Int} (h : LSd m o S) (hc : 0 ≤ c ∧ c < S 1) : Cl d k_La_isHome [(13, o), (0, c)] m (some (0, if S (11 + 2 * c) = -1 then 1 else 0), m) := by
  obtain ⟨h1, h2, h3, _⟩ := LSd_t h
  have := c_La_isHome (d := d) (m := m) (o := o) (x := c) (by omega) (by omega)
  rw [ite_iff (LSd_hm h hc).1] at this
  exact this
theorem c_La_isOpenS {d : Nat} {m : Mm} {o : Int} {S : Int → Int} {c w : Int} (h : LSd m o S) (hc : cellI c) (hw : wayI w) : Cl (d + 1) k_La_isOpen [(13, o), (0, c), (0, w)] m (some (0, if opn (HS S) c w = true then 1 else 0), m) := by
  obtain ⟨_, _, _, _, hv, hb⟩ := LSd_h h
  have := c_La_isOpen (d := d) hv hc hw
  rw [opn_con hb hc] at this
  exact this
theorem c_La_canGo {d : Nat} {m : Mm} {o : Int} {S : Int → Int} {c w : Int} (h : LSd m o S) : Cl (d + 2) k_La_canGo [(13, o), (0, c), (0, w)] m (some (0, if cgB S c w = true then 1 else 0), m) := by
  obtain ⟨⟨t1, t2, t3⟩, _⟩ := LSd_t h
  have e1 := c_La_isCow (d := d + 1) (m := m) (o := o) (x := c)
  rw [t3] at e1
  refine cl_La_canGo (b_La_canGo ⟨_, _, e1, fun z => ?_, fun z => ?_⟩)
  · rw [ite_z] at z
    rw [if_neg (fun q => z (cgB_iff.mp q).1)]
  · rw [ite_z1] at z
    obtain ⟨p1, p2⟩ := LSd_hm h z
    refine ⟨_, _, c_La_isHomeS h z, fun z2 => ?_, fun z2 => ⟨_, _, c_Pl_isWay, fun z3 => ?_, fun z3 => ?_⟩⟩
    · rw [ite_z1] at z2
      rw [if_neg (fun q => (cgB_iff.mp q).2.2.1 z2)]
    · rw [ite_z] at z3
      rw [if_neg (fun q => z3 (cgB_iff.mp q).2.1)]
    · rw [ite_z1] at z2 z3
      obtain ⟨q1, q2⟩ := p2 z2
      rw [← q1]
      refine ⟨by omega, _, _, c_La_isOpenS h q2 z3, fun z4 => ?_, fun z4 => ?_⟩
      · rw [ite_z] at z4
        rw [if_neg (fun q => z4 (cgB_iff.mp q).2.2.2)]
      · rw [ite_z1] at z4
        rw [if_pos (cgB_iff.mpr ⟨z, z3, z2, z4⟩)]
theorem c_Mo_isOpenS {d : Nat} {m : Mm} {c w : Int} (h8 : hv20 (m 401 8)) (h9 : hv20 (m 401 9)) (hc : cellI c) (hw : wayI w) : Cl (d + 2) k_Mo_isOpen [(18, 400), (0, c), (0, w)] m (some (0, if opn (HS (m 401)) c w = true then 1 else 0), m) := c_Mo_isOpen h8 h9 hc hw
/-- cows of the model's row -/
def RC (S : Int → Int) : Prop := ∀ c : Int, 0 ≤ c → c < S 1 → (S (11 + 2 * c) = -1 ∨ cellI (S (11 + 2 * c))) ∧ wayI (S (12 + 2 * c))
theorem LSd_RC {m : Mm} {o : Int} {S : Int → Int} (h : LSd m o S) : RC S := by
  intro c h1 h2
  obtain ⟨q1, q2, q3, q4⟩ := LSd_c h ⟨h1, h2⟩
  refine ⟨?_, by rw [q4]; exact q2⟩
  by_cases hb : bt_ (m o 4) c = true
  · rw [if_pos hb] at q3; exact Or.inl q3
  · rw [if_neg hb] at q3; rw [q3]; exact Or.inr q1
theorem c_Mo_canGo {d : Nat} {m : Mm} {c w : Int} (h : RM (m 401)) (hc : RC (m 401)) : Cl (d + 3) k_Mo_canGo [(18, 400), (0, c), (0, w)] m (some (0, if cgB (m 401) c w = true then 1 else 0), m) := by
  obtain ⟨h8, h9, h4, h1⟩ := h
  refine cl_Mo_canGo (b_Mo_canGo ⟨_, _, c_Mo_isCow h1, fun z => ?_, fun z => ⟨_, _, c_Mo_isIn, fun z2 => ?_, fun z2 => ?_⟩⟩)
  · rw [ite_z] at z
    rw [if_neg (fun q => z (cgB_iff.mp q).1)]
  · rw [ite_z] at z2
    rw [if_neg (fun q => z2 (by have := (cgB_iff.mp q).2.1; omega))]
  · rw [ite_z1] at z z2
    refine ⟨_, _, c_Mo_isHome (by omega), fun z3 => ?_, fun z3 => ?_⟩
    · rw [ite_z1] at z3
      rw [if_neg (fun q => (cgB_iff.mp q).2.2.1 z3)]
    · rw [ite_z1] at z3
      have hcell : cellI (m 401 (11 + 2 * c)) := by
        rcases (hc c z.1 z.2).1 with q | q
        · exact absurd q z3
        · exact q
      refine ⟨_, _, c_Mo_cellOf (by omega), _, _, c_Mo_isOpenS h8 h9 hcell ⟨by omega, by omega⟩, fun z4 => ?_, fun z4 => ?_⟩
      · rw [ite_z] at z4
        rw [if_neg (fun q => z4 (cgB_iff.mp q).2.2.2)]
      · rw [ite_z1] at z4
        rw [if_pos (cgB_iff.mpr ⟨z, by omega, z3, z4⟩)]
def gnS (S : Int → Int) (c w : Int) : Int → Int := ups (ups S (11 + 2 * c) (if bt_ (S 31) (bey (S (11 + 2 * c)) w) = true then -1 else bey (S (11 + 2 * c)) w)) (12 + 2 * c) w
theorem gnS_k {S : Int → Int} {c w k : Int} (h1 : k ≠ 11 + 2 * c) (h2 : k ≠ 12 + 2 * c) : gnS S c w k = S k := by unfold gnS; rw [ups_ne h2, ups_ne h1]
theorem gnS_1 {S : Int → Int} {c w : Int} : gnS S c w (11 + 2 * c) = (if bt_ (S 31) (bey (S (11 + 2 * c)) w) = true then -1 else bey (S (11 + 2 * c)) w) ∧ gnS S c w (12 + 2 * c) = w := by unfold gnS; rw [ups_ne (by omega), ups_eq, ups_eq]; exact ⟨rfl, rfl⟩
/-- a cow stands anew in the class's land -/
theorem LSd_move {m m' : Mm} {o : Int} {S S' : Int → Int} {c : Int} (h : LSd m o S) (hc : 0 ≤ c ∧ c < S 1) (hm : ∀ b, b ≠ 4 → m' o b = m o b) (h4 : 0 ≤ m' o 4 ∧ m' o 4 < ((2 ^ (S 1).toNat : Nat) : Int)) (hb : ∀ x, 0 ≤ x → x < S 1 → x ≠ c → bt_ (m' o 4) x = bt_ (m o 4) x) (h1 : ∀ x, x ≠ c → m' (o + 1) x = m (o + 1) x ∧ m' (o + 2) x = m (o + 2) x) (hS : ∀ k, k ≠ 11 + 2 * c → k ≠ 12 + 2 * c → S' k = S k) (hcc : cellI (m' (o + 1) c) ∧ wayI (m' (o + 2) c) ∧ S' (11 + 2 * c) = (if bt_ (m' o 4) c = true then -1 else m' (o + 1) c) ∧ S' (12 + 2 * c) = m' (o + 2) c) : LSd m' o S' := by
  obtain ⟨a1, a2, a3, a4, a5, a6⟩ := h
  have e1 : S' 1 = S 1 := hS 1 (by omega) (by omega)
  unfold LSd
  rw [e1]
  refine ⟨?_, ?_, ?_, ?_, h4, ?_⟩
  · have e2 : S' (6 + 2) = S (6 + 2) := hS _ (by omega) (by omega)
    have e3 : S' (6 + 3) = S (6 + 3) := hS _ (by omega) (by omega)
    show hv20 (S' (6 + 2)) ∧ hv20 (S' (6 + 3)) ∧ m' o 0 = (cmb (S' (6 + 2)) (S' (6 + 3)) : Nat)
    rw [e2, e3, hm 0 (by omega)]; exact a1
  · rw [hm 1 (by omega)]; exact a2
  · have e2 : S' (6 + 0) = S (6 + 0) := hS _ (by omega) (by omega)
    show 0 ≤ S' (6 + 0) ∧ S' (6 + 0) ≤ 9999 ∧ m' o 5 = S' (6 + 0)
    rw [e2, hm 5 (by omega)]; exact a3
  · have e2 : S' (6 + 1) = S (6 + 1) := hS _ (by omega) (by omega)
    show 0 ≤ S' (6 + 1) ∧ S' (6 + 1) < 30817 ∧ m' o 6 = S' (6 + 1)
    rw [e2, hm 6 (by omega)]; exact a4
  · intro x hx
    show cellI _ ∧ wayI _ ∧ S' (6 + (5 + 2 * (x : Int))) = _ ∧ S' (6 + (6 + 2 * (x : Int))) = _
    by_cases hxc : (x : Int) = c
    · rw [hxc, show (6 : Int) + (5 + 2 * c) = 11 + 2 * c by omega, show (6 : Int) + (6 + 2 * c) = 12 + 2 * c by omega]
      exact hcc
    · rw [(h1 _ hxc).1, (h1 _ hxc).2, hb _ (by omega) hx hxc, hS _ (by omega) (by omega), hS _ (by omega) (by omega)]
      exact a6 x hx
theorem gate_bit {g x : Int} (hg : 0 ≤ g ∧ g < 33554432) (hx : cellI x) : ian (isr g x) 1 = if bt_ g x = true then 1 else 0 := by
  unfold cellI at hx
  have := bit32 (x := g) (k := x) (by omega) (by omega)
  rw [this]
theorem c_La_comesHome {d : Nat} {m : Mm} {o : Int} {S : Int → Int} {c w : Int} (h : LSd m o S) (hg : 0 ≤ S 31 ∧ S 31 < 33554432) (hc : 0 ≤ c ∧ c < S 1) (hw : wayI w) (hh : S (11 + 2 * c) ≠ -1) (hb : bey (S (11 + 2 * c)) w ≠ -1) : ∃ m', Cl (d + 1) k_La_comesHome [(13, o), (0, c), (0, w), (0, S 31)] m (some (0, if bt_ (S 31) (bey (S (11 + 2 * c)) w) = true then 1 else 0), m') ∧ LSd m' o (gnS S c w) ∧ m' (o + 1) c = bey (S (11 + 2 * c)) w ∧ m' o 7 = m o 7 ∧ (∀ a b, a < o ∨ o + 2 < a → m' a b = m a b) := by
  obtain ⟨p1, p2⟩ := LSd_hm h hc
  obtain ⟨q1, q2⟩ := p2 hh
  obtain ⟨⟨t1, t2, t3⟩, t4, t5, _⟩ := LSd_t h
  have hbc := ((bey_hby (w := w) q2).2 hb).2
  have hgb := gate_bit hg hbc
  obtain ⟨M, hM⟩ : ∃ M, M = up (up m (o + 1) c (bey (S (11 + 2 * c)) w)) (o + 2) c w := ⟨_, rfl⟩
  have M1 : M (o + 1) c = bey (S (11 + 2 * c)) w := by rw [hM, up_ne (by omega), up_eq]
  have M2 : M (o + 2) c = w := by rw [hM, up_eq]
  have Mo : ∀ b, M o b = m o b := fun b => by rw [hM, up_ne (by omega), up_ne (by omega)]
  have Mx : ∀ x, x ≠ c → M (o + 1) x = m (o + 1) x ∧ M (o + 2) x = m (o + 2) x := fun x hx => by
    rw [hM, up_nk hx, up_nk hx, up_nk hx, up_nk hx]
    exact ⟨rfl, rfl⟩
  have Mf : ∀ a b, a < o ∨ o + 2 < a → M a b = m a b := fun a b hab => by rw [hM, up_ne (by omega), up_ne (by omega)]
  obtain ⟨j, rfl⟩ := Int.eq_ofNat_of_zero_le hc.1
  obtain ⟨a, ha⟩ := Int.eq_ofNat_of_zero_le t5.1
  have hT2 := p2le (k := j + 1) (n := (S 1).toNat) (by omega)
  have hj2 := p2le (k := j) (n := 4) (by omega)
  rw [Nat.pow_succ] at hT2
  have hbits : ¬ bt_ (m o 4) (j : Nat) = true := fun z => hh (p1.mp z)
  by_cases hgt : bt_ (S 31) (bey (S (11 + 2 * (j : Nat))) w) = true
  · rw [if_pos hgt] at hgb
    refine ⟨up M o 4 ((a ||| 2 ^ j : Nat) : Int), cl_La_comesHome (b_La_comesHome ?_), ?_, ?_, ?_, ?_⟩
    · rw [← q1]
      refine ⟨by omega, _, _, c_Pl_cellBeyond q2 hw, by omega, ?_⟩
      rintro m2 rfl
      refine ⟨by omega, ?_⟩
      rintro m3 rfl
      rw [← hM, M1, hgb]
      refine ⟨by omega, fun _ => ?_, fun z => absurd (by omega) z⟩
      rintro m4 rfl
      rw [if_pos hgt, Mo, ha, isl1 (by omega), iro_nat (by omega) (by omega)]
    · refine LSd_move h hc (fun b hb4 => by rw [up_nk hb4, Mo]) ?_ ?_ (fun x hx => by rw [up_ne (by omega), up_ne (by omega)]; exact Mx x hx) (fun k h1 h2 => gnS_k h1 h2) ?_
      · rw [up_eq]
        have h1 : a < 2 ^ (S 1).toNat := by omega
        have h2 : 2 ^ j < 2 ^ (S 1).toNat := by have := Nat.two_pow_pos j; omega
        have := Nat.or_lt_two_pow h1 h2
        omega
      · intro x hx0 hx1 hxc
        obtain ⟨i, rfl⟩ := Int.eq_ofNat_of_zero_le hx0
        rw [up_eq, ha]
        show (a ||| 2 ^ j).testBit i = a.testBit i
        rw [Nat.testBit_or, Nat.testBit_two_pow, decide_eq_false (by omega), Bool.or_false]
      · rw [up_ne (by omega), up_ne (by omega), M1, M2, up_eq]
        have hbj : bt_ ((a ||| 2 ^ j : Nat) : Int) (j : Nat) = true := by
          show (a ||| 2 ^ j).testBit j = true
          rw [Nat.testBit_or, Nat.testBit_two_pow_self, Bool.or_true]
        rw [if_pos hbj, gnS_1.1, if_pos hgt, gnS_1.2]
        exact ⟨hbc, hw, rfl, rfl⟩
    · rw [up_ne (by omega), M1]
    · rw [up_nk (by omega), Mo]
    · intro a b hab
      rw [up_ne (by omega), Mf a b hab]
  · rw [if_neg hgt] at hgb
    refine ⟨M, cl_La_comesHome (b_La_comesHome ?_), ?_, M1, Mo 7, Mf⟩
    · rw [← q1]
      refine ⟨by omega, _, _, c_Pl_cellBeyond q2 hw, by omega, ?_⟩
      rintro m2 rfl
      refine ⟨by omega, ?_⟩
      rintro m3 rfl
      rw [← hM, M1, hgb]
      refine ⟨by omega, fun z => absurd rfl z, fun _ => ?_⟩
      rw [if_neg hgt]
    · refine LSd_move h hc (fun b hb4 => Mo b) (by rw [Mo]; exact t4) (fun x _ _ _ => by rw [Mo]) (fun x hx => Mx x hx) (fun k h1 h2 => gnS_k h1 h2) ?_
      rw [M1, M2, Mo, if_neg hbits, gnS_1.1, if_neg hgt, gnS_1.2]
      exact ⟨hbc, hw, rfl, rfl⟩
theorem c_Mo_goNow {d : Nat} {m : Mm} {c w : Int} (hg : 0 ≤ m 401 31 ∧ m 401 31 < 33554432) (hc : 0 ≤ c ∧ c ≤ 5) (hw : wayI w) (hh : cellI (m 401 (11 + 2 * c))) (hb : bey (m 401 (11 + 2 * c)) w ≠ -1) : Cl (d + 1) k_Mo_goNow [(18, 400), (0, c), (0, w)] m (some (0, bey (m 401 (11 + 2 * c)) w), sr m 401 (gnS (m 401) c w)) := by
  have hbc := ((bey_hby (w := w) hh).2 hb).2
  have hbc' := hbc
  unfold cellI at hbc'
  refine cl_Mo_goNow (b_Mo_goNow ⟨_, _, c_Mo_cellOf hc, _, _, c_Mo_beside hh hw, _, _, c_Mo_has (by omega) (by omega), fun z => ⟨_, c_Mo_put hc, ?_⟩, fun z => ⟨_, c_Mo_put hc, ?_⟩⟩)
  · rw [ite_z] at z
    rw [sr_up (m := m), sr_up2]
    unfold gnS
    rw [if_neg z]
  · rw [ite_z1] at z
    rw [sr_up (m := m), sr_up2]
    unfold gnS
    rw [if_pos z]
theorem LSk_con2 {m m' : Mm} {o : Int} {S S' : Int → Int} (h : LSk m o S) (h7 : m' o 7 = m o 7) (h3 : ∀ b, m' (o + 3) b = m (o + 3) b) (hS : S' 10 = S 10 ∧ ∀ k, 1436 ≤ k → S' k = S k) : LSk m' o S' := by
  obtain ⟨h1, h2⟩ := h
  have e : (fun k => S' (6 + k)) 4 = (fun k => S (6 + k)) 4 := hS.1
  refine ⟨?_, ?_⟩
  · rw [e, h7]; exact h1
  · intro i hi
    rw [e] at hi
    show LN (m' (o + 3) i) (S' (1436 + (i : Int)))
    rw [h3, hS.2 _ (by omega)]
    exact h2 i hi
theorem cgB_kp {S : Int → Int} (h4 : 0 ≤ S 4 ∧ S 4 ≤ 30) (hT : S 1 ≤ 5) {c w : Int} (h : cgB S c w = true) : kpS S (11 + 2 * c) = S (11 + 2 * c) ∧ kpS S 31 = S 31 ∧ kpS S 1 = S 1 := by
  have v := (kpS_v h4).2.1
  have := (cgB_iff.mp h).1
  exact ⟨v _ (by omega) (by omega), v _ (by omega) (by omega), v _ (by omega) (by omega)⟩
theorem opn_bey {H : Int → Bool} {c w : Int} (h : opn H c w = true) : bey c w ≠ -1 := by
  unfold opn at h
  rw [Bool.and_eq_true, decide_eq_true_eq] at h
  exact h.1
theorem c_Th_go {d : Nat} {m : Mm} {S : Int → Int} {c w : Int} (h : FC m 128 S) : ∃ v m', Cl (d + 3) k_Th_go [(17, 0), (0, c), (0, w)] m (some (0, v), m') ∧ FRC m m' ∧ (cgB S c w = true → v = bey (S (11 + 2 * c)) w ∧ FC m' 128 (gnS (kpS S) c w)) ∧ (¬ cgB S c w = true → v = -1 ∧ m' = m) := by
  have h4 := h.2.1.1
  have hg := h.2.2.2.1
  have hL : LSd m 129 S := h.1.1
  obtain ⟨t1, _⟩ := LSd_t hL
  by_cases hp : cgB S c w = true
  · obtain ⟨m1, k1, k2, k3⟩ := c_Fa_markStep (d := d) h
    obtain ⟨u1, u2, u3, u4⟩ := kpS_v (S := S) (by omega)
    obtain ⟨e1, e2, e3⟩ := cgB_kp (by omega) (by omega) hp
    obtain ⟨g1, g2, g3, g4⟩ := cgB_iff.mp hp
    have hL1 : LSd m1 129 (kpS S) := k2.1.1
    obtain ⟨m2, a1, a2, a3, a4, a5⟩ := c_La_comesHome (d := d + 1) (c := c) (w := w) hL1 (by rw [e2]; omega) (by rw [e3]; exact g1) g2 (by rw [e1]; exact g3) (by rw [e1]; exact opn_bey g4)
    have hg1 : m1 128 4 = kpS S 31 := k2.2.2.2.1.1
    refine ⟨m2 130 c, m2, cl_Th_go (b_Th_go ⟨_, _, c_La_canGo hL, fun _ => ⟨_, k1, ?_⟩, fun z => ?_⟩), ?_, fun _ => ⟨?_, ?_⟩, fun z => absurd hp z⟩
    · rw [hg1]
      exact ⟨_, _, a1, by omega, rfl⟩
    · rw [ite_z1] at z; exact absurd hp z
    · intro a b q _ _
      rw [a5 a b (by omega), k3 a b (by omega)]
    · rw [← e1]; exact a3
    · refine FC_land k2 u4 (fun a b _ _ q => a5 a b (by omega)) (fun k h0 h1 q => gnS_k (by omega) (by omega)) ?_ ?_
      · unfold LSd at a2
        rw [gnS_k (by omega) (by omega)] at a2
        exact a2
      · exact LSk_con2 k2.1.2 a4 (fun b => a5 _ b (by omega)) ⟨gnS_k (by omega) (by omega), fun k hk => gnS_k (by omega) (by omega)⟩
  · refine ⟨-1, m, cl_Th_go (b_Th_go ⟨_, _, c_La_canGo hL, fun z => ?_, fun z => rfl⟩), FRC_refl, fun z => absurd z hp, fun _ => ⟨rfl, rfl⟩⟩
    rw [ite_z1] at z
    exact absurd z hp
theorem c_Mo_go {d : Nat} {m : Mm} {c w : Int} (h : RM (m 401)) (hc : RC (m 401)) (hg : 0 ≤ m 401 31 ∧ m 401 31 < 33554432) : ∃ v m', Cl (d + 4) k_Mo_go [(18, 400), (0, c), (0, w)] m (some (0, v), m') ∧ FRM m m' ∧ (cgB (m 401) c w = true → v = bey (m 401 (11 + 2 * c)) w ∧ m' 401 = gnS (kpS (m 401)) c w) ∧ (¬ cgB (m 401) c w = true → v = -1 ∧ m' 401 = m 401) := by
  have h' := h
  obtain ⟨h8, h9, h4, h1⟩ := h
  by_cases hp : cgB (m 401) c w = true
  · obtain ⟨e1, e2, e3⟩ := cgB_kp h4 h1.2 hp
    obtain ⟨g1, g2, g3, g4⟩ := cgB_iff.mp hp
    have hcell : cellI (m 401 (11 + 2 * c)) := by
      rcases (hc c g1.1 g1.2).1 with q | q
      · exact absurd q g3
      · exact q
    have hgo := c_Mo_goNow (d := d + 2) (m := sr m 401 (kpS (m 401))) (c := c) (w := w) (by rw [sr_eq, e2]; exact hg) (by omega) g2 (by rw [sr_eq, e1]; exact hcell) (by rw [sr_eq, e1]; exact opn_bey g4)
    rw [sr_eq, sr_sr, e1] at hgo
    refine ⟨_, _, cl_Mo_go (b_Mo_go ⟨_, _, c_Mo_canGo h' hc, fun _ => ⟨_, c_Mo_keep h4, _, _, hgo, rfl⟩, fun z => ?_⟩), FRM_sr, fun _ => ⟨rfl, sr_eq⟩, fun z => absurd hp z⟩
    rw [ite_z1] at z; exact absurd hp z
  · refine ⟨-1, m, cl_Mo_go (b_Mo_go ⟨_, _, c_Mo_canGo h' hc, fun z => ?_, fun z => rfl⟩), FRM_refl, fun z => absurd z hp, fun _ => ⟨rfl, rfl⟩⟩
    rw [ite_z1] at z
    exact absurd z hp
theorem op_go {m : Mm} {c w : Int} (h : R m) : OP k_Th_go k_Mo_go 0 [(0, c), (0, w)] m := by
  have hM := FC_RM h.1
  have hC : RC (m 401) := LSd_RC h.1.1.1
  have hg := h.1.2.2.2.1
  refine OP_d (A := fun S => cgB S c w = true) (N := fun S => gnS (kpS S) c w) h (c_Th_go h.1) (fun m1 e _ => ?_) (fun hA => ?_)
  · have := c_Mo_go (d := 116) (m := m1) (c := c) (w := w) (by rw [e]; exact hM) (by rw [e]; exact hC) (by rw [e]; exact hg.2)
    rw [e] at this
    exact this
  · obtain ⟨h8, h9, h4, h1⟩ := hM
    obtain ⟨u1, u2, u3, u4⟩ := kpS_v (S := m 401) h4
    have := (cgB_iff.mp hA).1
    exact ⟨by rw [gnS_k (by omega) (by omega), u2 _ (by omega) (by omega)], by rw [gnS_k (by omega) (by omega), u2 _ (by omega) (by omega)], fun k h1 h2 => by rw [gnS_k (by omega) (by omega), u2 _ (by omega) (by omega)]⟩
