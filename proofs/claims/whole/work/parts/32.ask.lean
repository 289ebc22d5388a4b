/-! CALLS THAT ASK -/
theorem opn_con {H H' : Int → Bool} (h : ∀ x, hedI x → H x = H' x) {c w : Int} (hc : cellI c) : opn H c w = opn H' c w := by
  unfold opn
  by_cases hb : bey c w = -1
  · simp [hb]
  · rw [h _ ((bey_hby hc).2 hb).1]
theorem opw_con {H H' : Int → Bool} (h : ∀ x, hedI x → H x = H' x) {c : Int} (hc : cellI c) : ∀ k, opw H c k = opw H' c k := by
  intro k
  refine bits_eq fun i => ?_
  rw [opw_bit, opw_bit, opn_con h hc]
theorem arn_con {H H' : Int → Bool} (h : ∀ x, hedI x → H x = H' x) {c : Int} (hc : cellI c) : ∀ k, arn H c k = arn H' c k := by
  intro k
  induction k with
  | zero => rfl
  | succ k ih =>
    rw [arn_s, arn_s, ih]
    by_cases hb : bey c (k : Nat) = -1
    · rw [if_neg (by simp [hb]), if_neg (by simp [hb])]
    · rw [h _ ((bey_hby hc).2 hb).1]
theorem onw_con {H H' : Int → Bool} (h : ∀ x, hedI x → H x = H' x) {c w : Int} (hc : cellI c) : onw H c w = onw H' c w := by
  unfold onw
  rw [opn_con h hc, opn_con h hc, opn_con h hc, opn_con h hc]
theorem R_h {m : Mm} (h : R m) : hv40 (m 129 0) ∧ hv20 (m 401 8) ∧ hv20 (m 401 9) ∧ m 129 0 = (LX m 401 : Nat) ∧ LX m 401 < 2 ^ 40 ∧ (∀ x, hedI x → bt_ (m 129 0) x = HM m 401 x) := by
  obtain ⟨⟨⟨⟨⟨h1, h2, h3⟩, _⟩, _⟩, _⟩, _⟩ := h
  have h8 : hv20 (m 401 8) := h1
  have h9 : hv20 (m 401 9) := h2
  have h0 : m 129 0 = (LX m 401 : Nat) := h3
  have hl : LX m 401 < 2 ^ 40 := cmb_lt h8 h9
  refine ⟨?_, h8, h9, h0, hl, fun x hx => ?_⟩
  · rw [h0]
    unfold hv40
    omega
  · unfold hedI at hx
    obtain ⟨k, rfl⟩ := Int.eq_ofNat_of_zero_le hx.1
    rw [h0]
    show (LX m 401).testBit k = _
    unfold LX HM
    rw [cmb_bit h8]
    by_cases hk : k < 20
    · rw [if_pos hk, if_pos (by omega)]
    · rw [if_neg hk, if_neg (by omega)]
theorem R_l {m : Mm} (h : R m) : (0 ≤ m 401 1 ∧ m 401 1 ≤ 5 ∧ m 129 1 = m 401 1) ∧ (0 ≤ m 401 6 ∧ m 401 6 ≤ 9999 ∧ m 129 5 = m 401 6) ∧ (0 ≤ m 401 7 ∧ m 401 7 < 30817 ∧ m 129 6 = m 401 7) ∧ (0 ≤ m 129 4 ∧ m 129 4 < ((2 ^ (m 401 1).toNat : Nat) : Int)) ∧ (∀ c : Nat, (c : Int) < m 401 1 → cellI (m 130 c) ∧ wayI (m 131 c) ∧ m 401 (11 + 2 * c) = (if bt_ (m 129 4) c = true then -1 else m 130 c) ∧ m 401 (12 + 2 * c) = m 131 c) ∧ (0 ≤ m 401 10 ∧ m 401 10 ≤ 30 ∧ m 129 7 = m 401 10) ∧ (∀ i : Nat, (i : Int) < m 401 10 → LN (m 132 i) (m 401 (1436 + i))) := by
  obtain ⟨⟨⟨⟨h1, h2, h3, h4, h5, h6⟩, h7, h8⟩, _⟩, _⟩ := h
  refine ⟨h2, h3, h4, h5, fun c hc => ?_, h7, h8⟩
  have q : cellI (m 130 c) ∧ wayI (m 131 c) ∧ m 401 (6 + (5 + 2 * (c : Int))) = (if bt_ (m 129 4) c = true then -1 else m 130 c) ∧ m 401 (6 + (6 + 2 * (c : Int))) = m 131 c := h6 c hc
  rw [show (6 : Int) + (5 + 2 * c) = 11 + 2 * c by omega, show (6 : Int) + (6 + 2 * c) = 12 + 2 * c by omega] at q
  exact q
theorem R_o {m : Mm} (h : R m) : (m 128 4 = m 401 31 ∧ 0 ≤ m 401 31 ∧ m 401 31 < 33554432) ∧ (m 128 5 = m 401 0 ∧ 0 ≤ m 401 0 ∧ m 401 0 ≤ 4) ∧ (m 128 6 = m 401 2 ∧ 0 ≤ m 401 2 ∧ m 401 2 ≤ 4) ∧ (m 128 7 = m 401 3 ∧ -1 ≤ m 401 3 ∧ m 401 3 < m 401 2) ∧ (m 128 8 = m 401 5 ∧ 0 ≤ m 401 5 ∧ m 401 5 ≤ 8) ∧ (∀ i : Nat, (i : Int) < m 401 5 → m 254 i = m 401 (40 + 2 * i) ∧ m 255 i = m 401 (41 + 2 * i) ∧ hedI (m 401 (40 + 2 * i)) ∧ 0 ≤ m 401 (41 + 2 * i) ∧ m 401 (41 + 2 * i) ≤ 10) ∧ (m 128 3 = m 401 4 ∧ 0 ≤ m 401 4 ∧ m 401 4 ≤ 30) := by
  obtain ⟨⟨_, ⟨⟨a1, a2, a3, _⟩, _⟩, _, h1, h2, h3, h4, h5, h6⟩, _⟩ := h
  exact ⟨h1, h2, h3, h4, h5, h6, a3, a1, a2⟩
theorem op_fault {m : Mm} {x : Int} (h : R m) : OP k_Th_fault k_Mo_fault 0 [(0, x)] m := by
  obtain ⟨_, _, h1, h2⟩ := h.2.2.2.2.2.2.1
  have hc : Cl 120 k_Th_fault [(17, 0), (0, x)] m (some (0, if x = 0 then m 400 6 else if x = 1 then m 400 7 else -1), m) := by
    refine cl_Th_fault (b_Th_fault ⟨fun z => ⟨fun z1 => ⟨fun z2 => ?_, fun z2 => ?_⟩, fun z1 => ?_⟩, fun z => ?_⟩)
    · rw [if_neg z1, if_neg z2]
    · rw [Classical.not_not] at z2
      rw [if_neg z1, if_pos z2, (h2 z).2]
    · rw [Classical.not_not] at z1
      rw [if_pos z1, (h2 z).1]
    · rw [Classical.not_not] at z
      rw [(h1 z).1, (h1 z).2]
      split
      · rfl
      · split <;> rfl
  refine OP_e h hc (cl_Mo_fault (b_Mo_fault ⟨fun z1 => ⟨fun z2 => ?_, fun z2 => ?_⟩, fun z1 => ?_⟩))
  · rw [if_neg z1, if_neg z2]
  · rw [Classical.not_not] at z2
    rw [if_neg z1, if_pos z2]
  · rw [Classical.not_not] at z1
    rw [if_pos z1]
theorem op_about {m : Mm} {x : Int} (h : R m) : OP k_Th_about k_Mo_about 0 [(0, x)] m := by
  obtain ⟨o1, o2, o3, o4, o5, _, o6⟩ := R_o h
  obtain ⟨l1, _⟩ := R_l h
  have hf := h.2.2.2.2.2.2.1.1
  have hc : Cl 120 k_Th_about [(17, 0), (0, x)] m (some (0, if 0 ≤ x ∧ x ≤ 5 then m 401 x else if x = 6 then m 400 5 else if x = 7 then m 401 31 else -2), m) := by
    refine cl_Th_about (b_Th_about ⟨fun z => ?_, fun z0 => ⟨fun z => ?_, fun z1 => ⟨fun z => ?_, fun z2 => ⟨fun z => ?_, fun z3 => ⟨fun z => ?_, fun z4 => ⟨fun z => ?_, fun z5 => ⟨fun z => ?_, fun z6 => ⟨fun z => ?_, fun z7 => ?_⟩⟩⟩⟩⟩⟩⟩⟩)
    · subst z; rw [if_pos (by omega), o2.1]
    · subst z; rw [if_pos (by omega), l1.2.2]
    · subst z; rw [if_pos (by omega), o3.1]
    · subst z; rw [if_pos (by omega), o4.1]
    · subst z; rw [if_pos (by omega), o6.1]
    · subst z; rw [if_pos (by omega), o5.1]
    · subst z; rw [if_neg (by omega), if_pos rfl, hf.2.2]
    · subst z; rw [if_neg (by omega), if_neg (by omega), if_pos rfl, o1.1]
    · rw [if_neg (by omega), if_neg z6, if_neg z7]
  refine OP_e h hc (cl_Mo_about (b_Mo_about ⟨_, _, c_Mo_isIn, fun z => ?_, fun z => ?_⟩))
  · rw [ite_z] at z
    rw [if_neg z]
    refine ⟨fun z1 => ⟨fun z2 => ?_, fun z2 => ?_⟩, fun z1 => ?_⟩
    · rw [if_neg z1, if_neg z2]
    · rw [Classical.not_not] at z2
      rw [if_neg z1, if_pos z2]
    · rw [Classical.not_not] at z1
      rw [if_pos z1]
  · rw [ite_z, Classical.not_not] at z
    rw [if_pos z]
    exact ⟨by omega, rfl⟩
theorem c_Ha_eastOf {d : Nat} {m : Mm} {n : Nat} (hn : n < 2 ^ 40) : Cl d k_Ha_eastOf [(1, (n : Nat))] m (some (0, (n % 2 ^ 20 : Nat)), m) := by
  refine cl_Ha_eastOf (b_Ha_eastOf ?_)
  have := lan_nat (a := n) (b := 1048575) (by omega) (by omega)
  rw [show ((1048575 : Nat) : Int) = 1048575 from rfl, show (1048575 : Nat) = 2 ^ 20 - 1 from rfl, Nat.and_two_pow_sub_one_eq_mod] at this
  rw [this, w32n (by omega) (by omega)]
theorem c_Ha_southOf {d : Nat} {m : Mm} {n : Nat} (hn : n < 2 ^ 40) : Cl d k_Ha_southOf [(1, (n : Nat))] m (some (0, (n / 2 ^ 20 : Nat)), m) := by
  refine cl_Ha_southOf (b_Ha_southOf ?_)
  have e1 : lsr (n : Int) 20 = ((n / 2 ^ 20 : Nat) : Int) := lsr_nat (a := n) (k := 20) (by omega) (by omega)
  have := lan_nat (a := n / 2 ^ 20) (b := 1048575) (by omega) (by omega)
  rw [show ((1048575 : Nat) : Int) = 1048575 from rfl, show (1048575 : Nat) = 2 ^ 20 - 1 from rfl, Nat.and_two_pow_sub_one_eq_mod, Nat.mod_eq_of_lt (by omega)] at this
  rw [e1, this, w32n (by omega) (by omega)]
theorem LX_es {m : Mm} (h8 : hv20 (m 401 8)) (h9 : hv20 (m 401 9)) : ((LX m 401 % 2 ^ 20 : Nat) : Int) = m 401 8 ∧ ((LX m 401 / 2 ^ 20 : Nat) : Int) = m 401 9 := by
  unfold LX cmb hv20 at *
  omega
theorem c_Mo_allNow {d : Nat} {m : Mm} (h8 : hv20 (m 401 8)) (h9 : hv20 (m 401 9)) : Cl (d + 1) k_Mo_allNow [(18, 400)] m (some (0, (pc_ 64 (LX m 401) : Nat)), m) := by
  unfold hv20 at h8 h9
  refine cl_Mo_allNow (b_Mo_allNow ⟨_, _, c_Mo_bits (by omega), _, _, c_Mo_bits (by omega), ?_⟩)
  have q1 := pc_le 32 (m 401 8).toNat
  have q2 := pc_le 32 (m 401 9).toNat
  rw [LX, cmb, pc_two (by omega) (by omega), w32n (by omega) (by omega)]
  rfl
theorem op_is {m : Mm} {x : Int} (h : R m) : OP k_Th_is k_Mo_is 0 [(0, x)] m := by
  obtain ⟨v40, v8, v9, hX, hl, _⟩ := R_h h
  obtain ⟨_, l2, l3, _⟩ := R_l h
  have hes := LX_es v8 v9
  have hc : Cl 120 k_Th_is [(17, 0), (0, x)] m (some (0, if 0 ≤ x ∧ x ≤ 3 then m 401 (6 + x) else if x = 4 then (pc_ 64 (LX m 401) : Nat) else -2), m) := by
    refine cl_Th_is (b_Th_is ⟨fun z => ?_, fun z0 => ⟨fun z => ?_, fun z1 => ⟨fun z => ?_, fun z2 => ⟨fun z => ?_, fun z3 => ⟨fun z => ?_, fun z4 => ?_⟩⟩⟩⟩⟩)
    · subst z; rw [if_pos (by omega), l2.2.2]; rfl
    · subst z; rw [if_pos (by omega), l3.2.2]; rfl
    · subst z
      rw [if_pos (by omega), hX]
      refine ⟨_, _, c_Ha_eastOf hl, ?_⟩
      rw [hes.1]
      rfl
    · subst z
      rw [if_pos (by omega), hX]
      refine ⟨_, _, c_Ha_southOf hl, ?_⟩
      rw [hes.2]
      rfl
    · subst z
      rw [if_neg (by omega), if_pos rfl, hX]
      exact ⟨_, _, c_Lo_bitCount (by omega), rfl⟩
    · rw [if_neg (by omega), if_neg z4]
  refine OP_e h hc (cl_Mo_is (b_Mo_is ⟨_, _, c_Mo_isIn, fun z => ?_, fun z => ?_⟩))
  · rw [ite_z] at z
    rw [if_neg z]
    refine ⟨fun z1 => ?_, fun z1 => ?_⟩
    · rw [if_neg z1]
    · rw [Classical.not_not] at z1
      rw [if_pos z1]
      exact ⟨_, _, c_Mo_allNow v8 v9, rfl⟩
  · rw [ite_z, Classical.not_not] at z
    rw [if_pos z, w32n (by omega) (by omega)]
    exact ⟨by omega, rfl⟩
theorem LN_v {u v : Int} (h : LN u v) : idv u 100 = idv v 80 ∧ irm (idv u 50) 2 = irm (idv v 40) 2 ∧ irm u 50 = irm v 40 ∧ (irm (idv v 40) 2 = 0 ∨ irm (idv v 40) 2 = 1) := by
  obtain ⟨x, w, k, h1, h2, h3, h4, h5, h6, rfl, rfl⟩ := h
  rw [idv_n (b := 100) (by omega) (by omega) (by omega) (by omega), idv_n (b := 80) (by omega) (by omega) (by omega) (by omega), idv_n (b := 50) (by omega) (by omega) (by omega) (by omega), idv_n (b := 40) (by omega) (by omega) (by omega) (by omega), irm_n (b := 2) (by omega) (by omega) (by omega) (by omega), irm_n (b := 2) (by omega) (by omega) (by omega) (by omega), irm_n (b := 50) (by omega) (by omega) (by omega) (by omega), irm_n (b := 40) (by omega) (by omega) (by omega) (by omega)]
  omega
theorem c_Mo_entry {d : Nat} {m : Mm} {i x : Int} (hi : 0 ≤ i ∧ i < 30) : Cl d k_Mo_entry [(18, 400), (0, i), (0, x)] m (some (0, if x = 0 then idv (m 401 (1436 + i)) 80 else if x = 1 then irm (idv (m 401 (1436 + i)) 40) 2 else irm (m 401 (1436 + i)) 40), m) := by
  refine cl_Mo_entry (b_Mo_entry ?_)
  rw [w32n (by omega) (by omega)]
  refine ⟨by omega, fun z => ⟨fun z1 => ?_, fun z1 => ?_⟩, fun z => ?_⟩
  · rw [if_neg z, if_neg z1]
  · rw [Classical.not_not] at z1
    rw [if_neg z, if_pos z1]
  · rw [Classical.not_not] at z
    rw [if_pos z]
theorem op_book {m : Mm} {i x : Int} (h : R m) : OP k_Th_book k_Mo_book 0 [(0, i), (0, x)] m := by
  obtain ⟨_, _, _, _, _, l6, l7⟩ := R_l h
  have hc : Cl 120 k_Th_book [(17, 0), (0, i), (0, x)] m (some (0, if i = -1 then m 401 10 else if (0 ≤ i ∧ i < m 401 10) ∧ 0 ≤ x ∧ x ≤ 2 then (if x = 0 then idv (m 401 (1436 + i)) 80 else if x = 1 then irm (idv (m 401 (1436 + i)) 40) 2 else irm (m 401 (1436 + i)) 40) else -2), m) := by
    refine cl_Th_book (b_Th_book ⟨fun z => ⟨fun z1 => ?_, fun z1 => ?_⟩, fun z => ?_⟩)
    · rw [if_neg z, if_neg (by omega)]
    · rw [l6.2.2, if_neg z]
      refine ⟨fun z2 => ?_, fun z2 => ?_⟩
      · obtain ⟨k, rfl⟩ := Int.eq_ofNat_of_zero_le (show 0 ≤ i by omega)
        obtain ⟨e1, e2, e3, _⟩ := LN_v (l7 k z2)
        refine ⟨fun z3 => ⟨_, _, cl_La_lineHour (b_La_lineHour ⟨by omega, rfl⟩), ?_⟩, fun z3 => ⟨fun z4 => ⟨_, _, cl_La_lineKind (b_La_lineKind ⟨by omega, rfl⟩), ?_⟩, fun z4 => ⟨fun z5 => ⟨_, _, cl_La_lineWhich (b_La_lineWhich ⟨by omega, rfl⟩), ?_⟩, fun z5 => ?_⟩⟩⟩
        · rw [if_pos (by omega), if_pos z3, ← e1]; rfl
        · rw [if_pos (by omega), if_neg z3, if_pos z4, ← e2]; rfl
        · rw [if_pos (by omega), if_neg z3, if_neg z4, ← e3]; rfl
        · rw [if_neg (by omega)]
      · rw [if_neg (by omega)]
    · rw [Classical.not_not] at z
      rw [if_pos z, l6.2.2]
  refine OP_e h hc (cl_Mo_book (b_Mo_book ⟨fun z => ⟨_, _, c_Mo_isIn, fun z1 => ?_, fun z1 => ⟨_, _, c_Mo_isIn, fun z2 => ?_, fun z2 => ?_⟩⟩, fun z => ?_⟩))
  · rw [ite_z, w32n (by omega) (by omega)] at z1
    rw [if_neg z, if_neg (by omega)]
  · rw [ite_z] at z2
    rw [if_neg z, if_neg (by omega)]
  · rw [ite_z, Classical.not_not, w32n (by omega) (by omega)] at z1
    rw [ite_z, Classical.not_not] at z2
    rw [if_neg z, if_pos (by omega)]
    exact ⟨_, _, c_Mo_entry (by omega), rfl⟩
  · rw [Classical.not_not] at z
    rw [if_pos z]
def cnt (f : Nat → Int) (x : Int) : Nat → Nat
  | 0 => 0
  | k + 1 => cnt f x k + (if f k = x then 1 else 0)
theorem cnt_le (f : Nat → Int) (x : Int) : ∀ k, cnt f x k ≤ k := by
  intro k
  induction k with
  | zero => exact Nat.le_refl _
  | succ k ih => unfold cnt; split <;> omega
theorem op_ledger {m : Mm} {x : Int} (h : R m) : OP k_Th_ledger k_Mo_ledger 0 [(0, x)] m := by
  obtain ⟨_, _, _, _, _, l6, l7⟩ := R_l h
  obtain ⟨N, hN⟩ := Int.eq_ofNat_of_zero_le l6.1
  rw [hN] at l6 l7
  by_cases hx : 0 ≤ x ∧ x ≤ 1
  · have fc : ∀ (t k : Nat), k + t = N → Ev 120 K_Th_ledger 0 11 [(17, 0), (0, x), (0, (cnt (fun i => irm (idv (m 401 (1436 + i)) 40) 2) x k : Nat)), (0, (k : Nat))] [] m (some (0, (cnt (fun i => irm (idv (m 401 (1436 + i)) 40) 2) x N : Nat)), m) := by
      intro t
      induction t with
      | zero =>
        intro k hk
        obtain rfl : k = N := by omega
        exact b_Th_ledger_11 ⟨fun _ => rfl, fun z => absurd (by rw [l6.2.2]; omega) z⟩
      | succ t ih =>
        intro k hk
        obtain ⟨e1, e2, e3, _⟩ := LN_v (l7 k (by omega))
        have hcl := cnt_le (fun i => irm (idv (m 401 (1436 + i)) 40) 2) x k
        have hg := ih (k + 1) (by omega)
        refine b_Th_ledger_11 ⟨fun z => by rw [l6.2.2] at z; omega, fun _ => ⟨_, _, cl_La_lineKind (b_La_lineKind ⟨by omega, rfl⟩), fun z => ?_, fun z => ?_⟩⟩
        · rw [show (129 : Int) + 3 = 132 from rfl, e2] at z
          rw [cnt, if_neg z] at hg
          rw [w32s (by omega)]
          exact hg
        · rw [Classical.not_not, show (129 : Int) + 3 = 132 from rfl, e2] at z
          rw [cnt, if_pos z] at hg
          rw [w32s (by omega), w32s (by omega)]
          exact hg
    have fm : ∀ (t k : Nat), k + t = N → Ev 120 K_Mo_ledger 0 11 [(18, 400), (0, x), (0, (cnt (fun i => irm (idv (m 401 (1436 + i)) 40) 2) x k : Nat)), (0, (k : Nat))] [] m (some (0, (cnt (fun i => irm (idv (m 401 (1436 + i)) 40) 2) x N : Nat)), m) := by
      intro t
      induction t with
      | zero =>
        intro k hk
        obtain rfl : k = N := by omega
        exact b_Mo_ledger_11 ⟨fun _ => rfl, fun z => absurd (by rw [hN]; omega) z⟩
      | succ t ih =>
        intro k hk
        have hcl := cnt_le (fun i => irm (idv (m 401 (1436 + i)) 40) 2) x k
        have hg := ih (k + 1) (by omega)
        refine b_Mo_ledger_11 ⟨fun z => by rw [hN] at z; omega, fun _ => ⟨_, _, c_Mo_entry (by omega), fun z => ?_, fun z => ?_⟩⟩
        · rw [if_neg (by omega), if_pos rfl] at z
          rw [cnt, if_neg z] at hg
          rw [w32s (by omega), w32n (by omega) (by omega), Int.add_zero]
          exact hg
        · rw [Classical.not_not, if_neg (by omega), if_pos rfl] at z
          rw [cnt, if_pos z] at hg
          rw [w32s (by omega), w32s (by omega)]
          exact hg
    refine OP_e h (cl_Th_ledger (b_Th_ledger ⟨fun _ => fc N 0 (by omega), fun z => ⟨fun _ => fc N 0 (by omega), fun z1 => by omega⟩⟩)) (cl_Mo_ledger (b_Mo_ledger ⟨_, _, c_Mo_isIn, fun _ => fm N 0 (by omega), fun z => ?_⟩))
    rw [ite_z, Classical.not_not] at z
    exact absurd hx z
  · refine OP_e h (v := -2) (cl_Th_ledger (b_Th_ledger ⟨fun z => by omega, fun z => ⟨fun _ => by omega, fun z1 => rfl⟩⟩)) (cl_Mo_ledger (b_Mo_ledger ⟨_, _, c_Mo_isIn, fun z => ?_, fun z => rfl⟩))
    rw [ite_z] at z
    exact absurd hx (by omega)
