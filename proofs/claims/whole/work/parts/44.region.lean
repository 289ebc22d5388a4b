/-! REGIONS, NECKS -/
theorem or_pow_in {s v : Nat} (hs : s < 2 ^ 25) (hv : v < 25) : iro ((s : Nat) : Int) (isl 1 (v : Nat)) = ((s ||| 2 ^ v : Nat) : Int) ∧ s ||| 2 ^ v < 2 ^ 25 := by
  have hp := (p25 hv).1
  rw [isl1 (by omega), iro_nat (by omega) (by omega)]
  exact ⟨rfl, or_lt hs hp⟩
theorem crd_le (s : Nat) : crd s ≤ 25 := cntL_le _ 25
def PI_ (H : Int → Bool) (but : Int) (K S0 s c w : Nat) : Prop := s < 2 ^ 25 ∧ sub_ S0 s ∧ sub_ s K ∧ ∀ c' w' : Nat, c' < 25 → w' < 4 → (c' < c ∨ (c' = c ∧ w' < w)) → S0.testBit c' = true → ∀ e : Nat, bey (c' : Nat) (w' : Nat) = (e : Nat) → opn H (c' : Nat) (w' : Nat) = true → (e : Int) ≠ but → s.testBit e = true
theorem reg_pass {d : Nat} {m : Mm} {but x1 : Int} {K S0 : Nat} {r : Option Vv × Mm} (h8 : hv20 (m 401 8)) (h9 : hv20 (m 401 9)) (hK : ∀ c e : Nat, c < 25 → K.testBit c = true → nbr (HM m 401) c e → (e : Int) ≠ but → K.testBit e = true) (hk : ∀ (s : Nat) (u5 u6 : Vv), PI_ (HM m 401) but K S0 s 25 0 → Ev (d + 3) K_Mo_regionOf 0 6 [(18, 400), (0, x1), (0, but), (0, (s : Nat)), (0, (S0 : Nat)), u5, u6] [] m r) : ∀ (t c w s : Nat), c < 25 → w ≤ 4 → (25 - c) * 5 ≤ t + w → PI_ (HM m 401) but K S0 s c w → Ev (d + 3) K_Mo_regionOf 0 18 [(18, 400), (0, x1), (0, but), (0, (s : Nat)), (0, (S0 : Nat)), (0, (c : Nat)), (0, (w : Nat))] [] m r := by
  intro t
  induction t with
  | zero => intro c w s hc hw ht hI; omega
  | succ t ih =>
    intro c w s hc hw ht hI
    obtain ⟨i1, i2, i3, i4⟩ := hI
    have nextc : (S0.testBit c = true → w = 4) → ∀ u : Vv, Ev (d + 3) K_Mo_regionOf 0 13 [(18, 400), (0, x1), (0, but), (0, (s : Nat)), (0, (S0 : Nat)), (0, ((c + 1 : Nat) : Int)), u] [] m r := by
      intro hS u
      have hn : PI_ (HM m 401) but K S0 s (c + 1) 0 := ⟨i1, i2, i3, fun c' w' z1 z2 z3 z4 e z5 z6 z7 => by
        by_cases hcc : c' = c
        · subst hcc
          have := hS z4
          exact i4 c' w' z1 z2 (by omega) z4 e z5 z6 z7
        · exact i4 c' w' z1 z2 (by omega) z4 e z5 z6 z7⟩
      by_cases h25 : c + 1 = 25
      · rw [h25] at hn ⊢
        exact b_Mo_regionOf_13 ⟨fun _ => hk s _ _ hn, fun z => absurd (by omega) z⟩
      · exact b_Mo_regionOf_13 ⟨fun z => by omega, fun _ => ih (c + 1) 0 s (by omega) (by omega) (by omega) hn⟩
    by_cases hw4 : w = 4
    · refine b_Mo_regionOf_18 ⟨fun _ => ?_, fun z => absurd (by omega) z⟩
      rw [w32s (by omega)]
      exact nextc (fun _ => hw4) _
    · have hcI : cellI ((c : Nat) : Int) := ⟨by omega, by omega⟩
      have hwI : wayI ((w : Nat) : Int) := ⟨by omega, by omega⟩
      have hsb : (bt_ ((s : Nat) : Int) ((c : Nat) : Int) = true) ↔ s.testBit c = true := Iff.rfl
      have nextw : ∀ s' : Nat, s' < 2 ^ 25 → sub_ s s' → sub_ s' K → (∀ e : Nat, bey (c : Nat) (w : Nat) = (e : Nat) → opn (HM m 401) (c : Nat) (w : Nat) = true → (e : Int) ≠ but → s'.testBit e = true) → Ev (d + 3) K_Mo_regionOf 0 18 [(18, 400), (0, x1), (0, but), (0, (s' : Nat)), (0, (S0 : Nat)), (0, (c : Nat)), (0, ((w + 1 : Nat) : Int))] [] m r := by
        intro s' y1 y2 y3 y4
        refine ih c (w + 1) s' hc (by omega) (by omega) ⟨y1, fun i hi => y2 i (i2 i hi), y3, fun c' w' z1 z2 z3 z4 e z5 z6 z7 => ?_⟩
        by_cases hcw : c' = c ∧ w' = w
        · obtain ⟨rfl, rfl⟩ := hcw
          exact y4 e z5 z6 z7
        · exact y2 e (i4 c' w' z1 z2 (by omega) z4 e z5 z6 z7)
      refine b_Mo_regionOf_18 ⟨fun z => by omega, fun _ => ⟨_, _, c_Mo_has (by omega) (by omega), fun z => ?_, fun z => ⟨_, _, c_Mo_isOpen h8 h9 hcI hwI, fun z2 => ?_, fun z2 => ⟨_, _, c_Mo_beside hcI hwI, fun z3 => ?_, fun z3 => ⟨_, _, c_Mo_beside hcI hwI, ?_⟩⟩⟩⟩⟩
      · rw [ite_z, hsb] at z
        rw [w32s (by omega)]
        exact nextc (fun q => absurd (i2 c q) z) _
      · rw [ite_z] at z2
        rw [w32s (by omega)]
        exact nextw s i1 (fun i hi => hi) i3 (fun e _ q _ => absurd q z2)
      · rw [w32s (by omega)]
        exact nextw s i1 (fun i hi => hi) i3 (fun e q1 _ q3 => absurd (by rw [← q1]; exact z3) q3)
      · rw [ite_z1] at z2
        rw [ite_z1, hsb] at z
        obtain ⟨e, e1, e2, e3⟩ := opn_nbr hc (by omega) z2
        rw [e1] at z3 ⊢
        obtain ⟨o1, o2⟩ := or_pow_in i1 e2
        rw [o1, w32s (by omega)]
        refine nextw (s ||| 2 ^ e) o2 (fun i hi => or_mem.mpr (Or.inl hi)) (fun i hi => ?_) (fun e' q1 _ _ => ?_)
        · rcases or_mem.mp hi with q | q
          · exact i3 i q
          · rw [pow_mem] at q
            rw [q]
            exact hK c e hc (i3 c z) e3 z3
        · obtain rfl : e' = e := by omega
          exact or_mem.mpr (Or.inr (pow_mem.mpr rfl))
/-- what may be gone through -/
def alw (but : Int) : Nat := if but = -1 then AL else ndf AL (2 ^ but.toNat)
theorem alw_mem {but : Int} (hb : but = -1 ∨ (0 ≤ but ∧ but < 25)) {i : Nat} : (alw but).testBit i = true ↔ i < 25 ∧ (i : Int) ≠ but := by
  unfold alw
  rcases hb with q | q
  · rw [if_pos q, AL_bit, decide_eq_true_eq]
    omega
  · rw [if_neg (by omega), ndf_mem, pow_mem, AL_bit, decide_eq_true_eq]
    omega
theorem c_Mo_regionOf {d : Nat} {m : Mm} {f : Nat} {but : Int} (h8 : hv20 (m 401 8)) (h9 : hv20 (m 401 9)) (hf : f < 25) (hb : but = -1 ∨ (0 ≤ but ∧ but < 25)) (hfb : (f : Int) ≠ but) : Cl (d + 3) k_Mo_regionOf [(18, 400), (0, (f : Nat)), (0, but)] m (some (0, (cls (HM m 401) (alw but) (2 ^ f) : Nat)), m) := by
  obtain ⟨p1, p2, p3⟩ := p25 hf
  have hin : sub_ (2 ^ f) (alw but) := fun i hi => by
    rw [pow_mem] at hi
    subst hi
    exact (alw_mem hb).mpr ⟨hf, hfb⟩
  obtain ⟨K, hK⟩ : ∃ K, K = cls (HM m 401) (alw but) (2 ^ f) := ⟨_, rfl⟩
  have hKc : ∀ c e : Nat, c < 25 → K.testBit c = true → nbr (HM m 401) c e → (e : Int) ≠ but → K.testBit e = true := by
    intro c e hc z1 z2 z3
    rw [hK] at z1 ⊢
    exact cls_closed p1 hin p3 z1 z2 ((alw_mem hb).mpr ⟨nbr_lt z2 hc, z3⟩)
  have hKb : sub_ (2 ^ f) K := by rw [hK]; exact wth_base p1 hin 25
  rw [← hK]
  have loop : ∀ (n s S0 : Nat) (u5 u6 : Vv), 25 - crd s ≤ n → s < 2 ^ 25 → sub_ (2 ^ f) s → sub_ s K → ¬ s = S0 → Ev (d + 3) K_Mo_regionOf 0 6 [(18, 400), (0, (f : Nat)), (0, but), (0, (s : Nat)), (0, (S0 : Nat)), u5, u6] [] m (some (0, (K : Nat)), m) := by
    intro n
    induction n with
    | zero =>
      intro s S0 u5 u6 hn hs h1 h2 hne
      refine b_Mo_regionOf_6 ⟨fun z => by omega, fun _ => b_Mo_regionOf_13 ⟨fun z => by omega, fun _ => ?_⟩⟩
      refine reg_pass h8 h9 hKc (fun s' v5 v6 hI => ?_) 125 0 0 s (by omega) (by omega) (by omega) ⟨hs, fun i hi => hi, h2, fun c' w' _ _ z => by omega⟩
      obtain ⟨i1, i2, i3, i4⟩ := hI
      have hss : s' = s := by
        apply Classical.byContradiction
        intro z
        have q1 := crd_lt i1 i2 (fun y => z y.symm)
        have q2 := crd_le s'
        omega
      refine b_Mo_regionOf_6 ⟨fun _ => ?_, fun z => absurd (by rw [hss]) z⟩
      have : K = s' := by
        refine sub_eq ?_ i3
        rw [hK]
        refine wth_min (fun i hi => i2 i (h1 i hi)) (fun c e z1 z2 z3 => ?_) 25
        rw [hss] at z1
        have hc := bit_lt hs z1
        obtain ⟨w, w1, w2, w3⟩ := nbr_opn hc z2
        exact i4 c w hc w1 (by omega) z1 e w3 w2 ((alw_mem hb).mp z3).2
      rw [this]
    | succ n ih =>
      intro s S0 u5 u6 hn hs h1 h2 hne
      refine b_Mo_regionOf_6 ⟨fun z => by omega, fun _ => b_Mo_regionOf_13 ⟨fun z => by omega, fun _ => ?_⟩⟩
      refine reg_pass h8 h9 hKc (fun s' v5 v6 hI => ?_) 125 0 0 s (by omega) (by omega) (by omega) ⟨hs, fun i hi => hi, h2, fun c' w' _ _ z => by omega⟩
      obtain ⟨i1, i2, i3, i4⟩ := hI
      by_cases hss : s' = s
      · refine b_Mo_regionOf_6 ⟨fun _ => ?_, fun z => absurd (by rw [hss]) z⟩
        have : K = s' := by
          refine sub_eq ?_ i3
          rw [hK]
          refine wth_min (fun i hi => i2 i (h1 i hi)) (fun c e z1 z2 z3 => ?_) 25
          rw [hss] at z1
          have hc := bit_lt hs z1
          obtain ⟨w, w1, w2, w3⟩ := nbr_opn hc z2
          exact i4 c w hc w1 (by omega) z1 e w3 w2 ((alw_mem hb).mp z3).2
        rw [this]
      · have q1 := crd_lt i1 i2 (fun y => hss y.symm)
        exact ih s' s v5 v6 (by omega) i1 (fun i hi => i2 i (h1 i hi)) i3 hss
  refine cl_Mo_regionOf (b_Mo_regionOf ?_)
  rw [isl1 (by omega)]
  exact loop 25 (2 ^ f) 0 _ _ (by omega) p1 (fun i hi => hi) hKb p3
theorem c_Mo_rgn {d : Nat} {m : Mm} {f : Nat} (h8 : hv20 (m 401 8)) (h9 : hv20 (m 401 9)) (hf : f < 25) : Cl (d + 3) k_Mo_regionOf [(18, 400), (0, (f : Nat)), (0, -1)] m (some (0, (rgn (HM m 401) f : Nat)), m) := c_Mo_regionOf (but := -1) h8 h9 hf (Or.inl rfl) (by omega)
theorem rgn_lt {H : Int → Bool} {c : Nat} (hc : c < 25) : rgn H c < 2 ^ 25 := wth_lt (p25 hc).1 25
theorem rgn_self {H : Int → Bool} {c : Nat} (hc : c < 25) : (rgn H c).testBit c = true := wth_base (p25 hc).1 (p25 hc).2.1 25 c (pow_mem.mpr rfl)
theorem op_cell {m : Mm} {x y : Int} (h : R m) : OP k_Th_cell k_Mo_cell 0 [(0, x), (0, y)] m := by
  obtain ⟨v40, v8, v9, _, _, hb⟩ := R_h h
  obtain ⟨o1, _⟩ := R_o h
  by_cases hx : 0 ≤ x ∧ x < 25
  · have hx' : cellI x := hx
    have n1 : ¬ (if 0 ≤ x ∧ x < 25 then (1 : Int) else 0) = 0 := by rw [ite_z1]; exact hx
    by_cases y0 : y = 0
    · subst y0
      refine OP_e h (v := arn (HM m 401) x 4) (cl_Th_cell (b_Th_cell ⟨_, _, c_Pl_isCell, fun _ => ⟨fun _ => ⟨_, _, c_La_around (o := 129) v40 hx', ?_⟩, fun z => absurd rfl z⟩, fun z => absurd n1 z⟩)) (cl_Mo_cell (b_Mo_cell ⟨_, _, c_Mo_isCell, fun _ => ⟨fun z => absurd rfl z, fun _ => ⟨_, _, c_Mo_aroundOf v8 v9 hx', rfl⟩⟩, fun z => absurd n1 z⟩))
      rw [arn_con hb hx']
    · by_cases y1 : y = 1
      · subst y1
        refine OP_e h (v := (opw (HM m 401) x 4 : Nat)) (cl_Th_cell (b_Th_cell ⟨_, _, c_Pl_isCell, fun _ => ⟨fun z => absurd z y0, fun _ => ⟨fun _ => ⟨_, _, c_La_openWays (o := 129) v40 hx', ?_⟩, fun z => absurd rfl z⟩⟩, fun z => absurd n1 z⟩)) (cl_Mo_cell (b_Mo_cell ⟨_, _, c_Mo_isCell, fun _ => ⟨fun _ => ⟨fun z => absurd rfl z, fun _ => ⟨_, _, c_Mo_openOf v8 v9 hx', rfl⟩⟩, fun z => absurd y0 z⟩, fun z => absurd n1 z⟩))
        rw [opw_con hb hx']
      · by_cases y2 : y = 2
        · subst y2
          refine OP_e h (v := ian (isr (m 401 31) x) 1) (cl_Th_cell (b_Th_cell ⟨_, _, c_Pl_isCell, fun _ => ⟨fun z => absurd z y0, fun _ => ⟨fun z => absurd z y1, fun _ => ⟨fun _ => ?_, fun z => absurd rfl z⟩⟩⟩, fun z => absurd n1 z⟩)) (cl_Mo_cell (b_Mo_cell ⟨_, _, c_Mo_isCell, fun _ => ⟨fun _ => ⟨fun _ => ⟨fun z => absurd rfl z, fun _ => rfl⟩, fun z => absurd y1 z⟩, fun z => absurd y0 z⟩, fun z => absurd n1 z⟩))
          rw [o1.1]
        · by_cases y3 : y = 3
          · subst y3
            obtain ⟨a, rfl⟩ := Int.eq_ofNat_of_zero_le hx.1
            obtain ⟨m1, q1, q2, q3⟩ := c_Th_mazeNow (d := 117) h
            have e401 : m1 401 = m 401 := by funext b; exact q3 _ _ (by omega)
            have hr := c_Mo_rgn (d := 116) (m := m1) (f := a) (by rw [e401]; exact v8) (by rw [e401]; exact v9) (by omega)
            rw [HM_row e401] at hr
            have hl := rgn_lt (H := HM m 401) (c := a) (by omega)
            exact OP_q h (cl_Th_cell (b_Th_cell ⟨_, _, c_Pl_isCell, fun _ => ⟨fun z => absurd z y0, fun _ => ⟨fun z => absurd z y1, fun _ => ⟨fun z => absurd z y2, fun _ => ⟨fun _ => ⟨_, q1, _, _, c_Mz_regionOf q2 (by omega), _, _, c_In_bitCount (by omega), rfl⟩, fun z => absurd rfl z⟩⟩⟩⟩, fun z => absurd n1 z⟩)) (cl_Mo_cell (b_Mo_cell ⟨_, _, c_Mo_isCell, fun _ => ⟨fun _ => ⟨fun _ => ⟨fun _ => ⟨fun z => absurd rfl z, fun _ => ⟨_, _, hr, _, _, c_Mo_bits (by omega), rfl⟩⟩, fun z => absurd y2 z⟩, fun z => absurd y1 z⟩, fun z => absurd y0 z⟩, fun z => absurd n1 z⟩)) (SM_13 q3) SM_refl
          · exact OP_e h (v := -1) (cl_Th_cell (b_Th_cell ⟨_, _, c_Pl_isCell, fun _ => ⟨fun z => absurd z y0, fun _ => ⟨fun z => absurd z y1, fun _ => ⟨fun z => absurd z y2, fun _ => ⟨fun z => absurd z y3, fun _ => rfl⟩⟩⟩⟩, fun z => absurd n1 z⟩)) (cl_Mo_cell (b_Mo_cell ⟨_, _, c_Mo_isCell, fun _ => ⟨fun _ => ⟨fun _ => ⟨fun _ => ⟨fun _ => rfl, fun z => absurd y3 z⟩, fun z => absurd y2 z⟩, fun z => absurd y1 z⟩, fun z => absurd y0 z⟩, fun z => absurd n1 z⟩))
  · refine OP_e h (v := -1) (cl_Th_cell (b_Th_cell ⟨_, _, c_Pl_isCell, fun z => ?_, fun _ => rfl⟩)) (cl_Mo_cell (b_Mo_cell ⟨_, _, c_Mo_isCell, fun z => ?_, fun _ => rfl⟩))
    · rw [ite_z1] at z; exact absurd z hx
    · rw [ite_z1] at z; exact absurd z hx
/-! how many regions, the greatest -/
def rgM (H : Int → Bool) : Nat → Nat → Nat → Nat → Nat → Nat × Nat
  | 0, _, _, n, g => (n, g)
  | t + 1, c, l, n, g => if l.testBit c = true then rgM H t (c + 1) (ndf l (rgn H c)) (n + 1) (max g (pc_ 32 (rgn H c))) else rgM H t (c + 1) l n g
theorem low_at {l c : Nat} (hl : l < 2 ^ 25) (hc : l.testBit c = true) (hlo : ∀ j, j < c → ¬ l.testBit j = true) : l ≠ 0 ∧ low l = c := by
  have h0 : l ≠ 0 := fun z => by rw [z, Nat.zero_testBit] at hc; cases hc
  obtain ⟨q1, q2, q3⟩ := low_v hl h0
  refine ⟨h0, ?_⟩
  rcases Nat.lt_trichotomy (low l) c with z | z | z
  · exact absurd q1 (hlo _ z)
  · exact z
  · exact absurd hc (q3 c z)
theorem none_0 {l : Nat} (hl : l < 2 ^ 25) (hlo : ∀ j, j < 25 → ¬ l.testBit j = true) : l = 0 := by
  refine sub_eq (fun i hi => absurd hi (hlo i (bit_lt hl hi))) (fun i hi => by rw [Nat.zero_testBit] at hi; cases hi)
theorem cnt_reg {d : Nat} {m : Mm} {H : Int → Bool} (hM : MZ m H) : ∀ (t c l n g i : Nat), c + t = 25 → i ≤ c → n ≤ c → l < 2 ^ 25 → (∀ j, j < c → ¬ l.testBit j = true) → Ev (d + 3) K_Mz_regionCount 0 6 [(14, 13), (0, (l : Nat)), (0, (n : Nat)), (0, (i : Nat))] [] m (some (0, ((rgM H t c l n g).1 : Nat)), m) := by
  intro t
  induction t with
  | zero =>
    intro c l n g i hc hi hn hl hlo
    have h0 := none_0 hl (fun j hj => hlo j (by omega))
    subst h0
    exact b_Mz_regionCount_6 ⟨fun _ => rfl, fun _ => ⟨fun _ => rfl, fun z => absurd rfl z⟩⟩
  | succ t ih =>
    intro c l n g i hc hi hn hl hlo
    unfold rgM
    by_cases hb : l.testBit c = true
    · rw [if_pos hb]
      obtain ⟨h0, h1⟩ := low_at hl hb hlo
      have hr := rgn_lt (H := H) (c := c) (by omega)
      have hlw := c_Mz_lowest (d := d + 1) (m := m) hl h0
      rw [h1] at hlw
      refine b_Mz_regionCount_6 ⟨fun z => by omega, fun _ => ⟨fun z => by omega, fun _ => ⟨_, _, hlw, _, _, c_Mz_regionOf hM (by omega), ?_⟩⟩⟩
      rw [ian_not (by omega) (by omega), w32s (by omega), w32s (by omega)]
      refine ih (c + 1) _ (n + 1) _ (i + 1) (by omega) (by omega) (by omega) (ndf_lt hl) (fun j hj z => ?_)
      obtain ⟨z1, z2⟩ := ndf_mem.mp z
      by_cases hjc : j = c
      · subst hjc
        exact z2 (rgn_self (by omega))
      · exact hlo j (by omega) z1
    · rw [if_neg hb]
      refine ih (c + 1) l n g i (by omega) (by omega) (by omega) hl (fun j hj => ?_)
      by_cases hjc : j = c
      · subst hjc; exact hb
      · exact hlo j (by omega)
theorem gre_reg {d : Nat} {m : Mm} {H : Int → Bool} (hM : MZ m H) : ∀ (t c l n g i : Nat) (u : Vv), c + t = 25 → i ≤ c → l < 2 ^ 25 → (∀ j, j < c → ¬ l.testBit j = true) → Ev (d + 3) K_Mz_greatestRegion 0 6 [(14, 13), (0, (l : Nat)), (0, (g : Nat)), (0, (i : Nat)), u] [] m (some (0, ((rgM H t c l n g).2 : Nat)), m) := by
  intro t
  induction t with
  | zero =>
    intro c l n g i u hc hi hl hlo
    have h0 := none_0 hl (fun j hj => hlo j (by omega))
    subst h0
    exact b_Mz_greatestRegion_6 ⟨fun _ => rfl, fun _ => ⟨fun _ => rfl, fun z => absurd rfl z⟩⟩
  | succ t ih =>
    intro c l n g i u hc hi hl hlo
    unfold rgM
    by_cases hb : l.testBit c = true
    · rw [if_pos hb]
      obtain ⟨h0, h1⟩ := low_at hl hb hlo
      have hr := rgn_lt (H := H) (c := c) (by omega)
      have hlw := c_Mz_lowest (d := d + 1) (m := m) hl h0
      rw [h1] at hlw
      refine b_Mz_greatestRegion_6 ⟨fun z => by omega, fun _ => ⟨fun z => by omega, fun _ => ⟨_, _, hlw, _, _, c_Mz_regionOf hM (by omega), _, _, c_In_bitCount (by omega), ?_⟩⟩⟩
      rw [ian_not (by omega) (by omega), w32s (by omega), Int.toNat_natCast, show max ((g : Nat) : Int) ((pc_ 32 (rgn H c) : Nat) : Int) = ((max g (pc_ 32 (rgn H c)) : Nat) : Int) by omega]
      refine ih (c + 1) _ (n + 1) _ (i + 1) _ (by omega) (by omega) (ndf_lt hl) (fun j hj z => ?_)
      obtain ⟨z1, z2⟩ := ndf_mem.mp z
      by_cases hjc : j = c
      · subst hjc
        exact z2 (rgn_self (by omega))
      · exact hlo j (by omega) z1
    · rw [if_neg hb]
      refine ih (c + 1) l n g i u (by omega) (by omega) hl (fun j hj => ?_)
      by_cases hjc : j = c
      · subst hjc; exact hb
      · exact hlo j (by omega)
theorem mod_reg {d : Nat} {m : Mm} {x : Int} (h8 : hv20 (m 401 8)) (h9 : hv20 (m 401 9)) : ∀ (t c l n g : Nat) (u : Vv), c + t = 25 → n ≤ c → l < 2 ^ 25 → Ev (d + 4) K_Mo_regions 0 8 [(18, 400), (0, x), (0, (n : Nat)), (0, (g : Nat)), (0, (l : Nat)), (0, (c : Nat)), u] [] m (some (0, if x = 0 then ((rgM (HM m 401) t c l n g).1 : Nat) else ((rgM (HM m 401) t c l n g).2 : Nat)), m) := by
  intro t
  induction t with
  | zero =>
    intro c l n g u hc hn hl
    refine b_Mo_regions_8 ⟨fun _ => ⟨fun z => ?_, fun z => ?_⟩, fun z => absurd (by omega) z⟩
    · rw [if_pos z]; rfl
    · rw [if_neg z]; rfl
  | succ t ih =>
    intro c l n g u hc hn hl
    unfold rgM
    have hr := rgn_lt (H := HM m 401) (c := c) (by omega)
    refine b_Mo_regions_8 ⟨fun z => by omega, fun _ => ⟨_, _, c_Mo_has (by omega) (by omega), fun z => ⟨_, _, c_Mo_rgn h8 h9 (by omega), _, _, c_Mo_bits (by omega), fun z2 => ?_, fun z2 => ⟨_, _, c_Mo_bits (by omega), ?_⟩⟩, fun z => ?_⟩⟩
    · rw [ite_z1] at z
      have z' : l.testBit c = true := z
      rw [Int.toNat_natCast] at z2
      rw [if_pos z', ian_not (by omega) (by omega), w32s (by omega), w32s (by omega), show max g (pc_ 32 (rgn (HM m 401) c)) = g by omega]
      exact ih (c + 1) _ (n + 1) _ _ (by omega) (by omega) (ndf_lt hl)
    · rw [ite_z1] at z
      have z' : l.testBit c = true := z
      rw [Int.toNat_natCast] at z2 ⊢
      rw [if_pos z', ian_not (by omega) (by omega), w32s (by omega), w32s (by omega), show max g (pc_ 32 (rgn (HM m 401) c)) = pc_ 32 (rgn (HM m 401) c) by omega]
      exact ih (c + 1) _ (n + 1) _ _ (by omega) (by omega) (ndf_lt hl)
    · rw [Classical.not_not, ite_z] at z
      have z' : ¬ l.testBit c = true := z
      rw [if_neg z', w32s (by omega)]
      exact ih (c + 1) l n g _ (by omega) (by omega) hl
theorem c_Mo_regions {d : Nat} {m : Mm} {x : Int} (h8 : hv20 (m 401 8)) (h9 : hv20 (m 401 9)) : Cl (d + 4) k_Mo_regions [(18, 400), (0, x)] m (some (0, if x = 0 then ((rgM (HM m 401) 25 0 AL 0 0).1 : Nat) else ((rgM (HM m 401) 25 0 AL 0 0).2 : Nat)), m) := cl_Mo_regions (b_Mo_regions (mod_reg h8 h9 25 0 AL 0 0 _ rfl (by omega) (by decide)))
theorem c_Mz_regionCount {d : Nat} {m : Mm} {H : Int → Bool} (hM : MZ m H) : Cl (d + 3) k_Mz_regionCount [(14, 13)] m (some (0, ((rgM H 25 0 AL 0 0).1 : Nat)), m) := cl_Mz_regionCount (b_Mz_regionCount (cnt_reg hM 25 0 AL 0 0 0 rfl (by omega) (by omega) (by decide) (fun j hj => by omega)))
theorem c_Mz_greatestRegion {d : Nat} {m : Mm} {H : Int → Bool} (hM : MZ m H) : Cl (d + 3) k_Mz_greatestRegion [(14, 13)] m (some (0, ((rgM H 25 0 AL 0 0).2 : Nat)), m) := cl_Mz_greatestRegion (b_Mz_greatestRegion (gre_reg hM 25 0 AL 0 0 0 _ rfl (by omega) (by decide) (fun j hj => by omega)))
theorem op_regions {m : Mm} {x : Int} (h : R m) : OP k_Th_regions k_Mo_regions 0 [(0, x)] m := by
  obtain ⟨_, v8, v9, _⟩ := R_h h
  obtain ⟨m1, q1, q2, q3⟩ := c_Th_mazeNow (d := 117) h
  have e401 : m1 401 = m 401 := by funext b; exact q3 _ _ (by omega)
  have hr := c_Mo_regions (d := 116) (m := m1) (x := x) (by rw [e401]; exact v8) (by rw [e401]; exact v9)
  rw [HM_row e401] at hr
  refine OP_q h (cl_Th_regions (b_Th_regions ⟨fun z => ⟨_, q1, _, _, c_Mz_regionCount q2, ?_⟩, fun z => ⟨_, q1, _, _, c_Mz_greatestRegion q2, ?_⟩⟩)) hr (SM_13 q3) SM_refl
  · rw [if_pos z]
  · rw [if_neg z]
theorem op_rings {m : Mm} (h : R m) : OP k_Th_rings k_Mo_rings 0 [] m := by
  obtain ⟨_, v8, v9, hX, hl, _⟩ := R_h h
  obtain ⟨m1, q1, q2, q3⟩ := c_Th_mazeNow (d := 117) h
  have e401 : m1 401 = m 401 := by funext b; exact q3 _ _ (by omega)
  have hr := c_Mo_regions (d := 115) (m := m1) (x := 0) (by rw [e401]; exact v8) (by rw [e401]; exact v9)
  rw [HM_row e401, if_pos rfl] at hr
  have ha := c_Mo_allNow (d := 118) (m := m1) (by rw [e401]; exact v8) (by rw [e401]; exact v9)
  have eL : LX m1 401 = LX m 401 := by unfold LX; rw [e401]
  rw [eL] at ha
  refine OP_q h (cl_Th_rings (b_Th_rings ?_)) (cl_Mo_rings (b_Mo_rings ⟨_, _, ha, _, _, hr, rfl⟩)) (SM_13 q3) SM_refl
  rw [hX]
  exact ⟨_, _, c_Lo_bitCount (by omega), _, q1, _, _, c_Mz_regionCount q2, rfl⟩
/-! necks -/
def nkB (H : Int → Bool) (c : Nat) : Bool := decide (ndf (rgn H c) (2 ^ c) ≠ 0) && decide (cls H (ndf (rgn H c) (2 ^ c)) (2 ^ low (ndf (rgn H c) (2 ^ c))) ≠ ndf (rgn H c) (2 ^ c))
theorem c_Mz_isNeck {d : Nat} {m : Mm} {H : Int → Bool} {c : Nat} (hM : MZ m H) (hc : c < 25) : Cl (d + 3) k_Mz_isNeck [(14, 13), (0, (c : Nat))] m (some (0, if nkB H c = true then 1 else 0), m) := by
  have hr := rgn_lt (H := H) hc
  have hp := (p25 hc).1
  have hn := ndf_lt (b := 2 ^ c) hr
  refine cl_Mz_isNeck (b_Mz_isNeck ⟨_, _, c_Mz_regionOf hM hc, ?_⟩)
  rw [isl1 (by omega), ian_not (by omega) (by omega)]
  refine ⟨fun z => ?_, fun z => ?_⟩
  · rw [if_neg]
    unfold nkB
    rw [Bool.and_eq_true, decide_eq_true_eq]
    intro q
    omega
  · have h0 : ndf (rgn H c) (2 ^ c) ≠ 0 := by omega
    obtain ⟨l1, l2, l3⟩ := low_v hn h0
    rw [neg_bit hn h0]
    refine ⟨_, _, c_Mz_flooded hM (p25 l2).1 hn, fun z2 => ?_, fun z2 => ?_⟩
    · rw [if_neg]
      unfold nkB
      rw [Bool.and_eq_true, decide_eq_true_eq, decide_eq_true_eq]
      intro q
      omega
    · rw [if_pos]
      unfold nkB
      rw [Bool.and_eq_true, decide_eq_true_eq, decide_eq_true_eq]
      exact ⟨h0, by omega⟩
theorem neck_cls {H : Int → Bool} {c l : Nat} (hc : c < 25) (hl : (ndf (rgn H c) (2 ^ c)).testBit l = true) : cls H (alw (c : Nat)) (2 ^ l) = cls H (ndf (rgn H c) (2 ^ c)) (2 ^ l) := by
  obtain ⟨p1, p2, p3⟩ := p25 hc
  have hb : ((c : Nat) : Int) = -1 ∨ (0 ≤ ((c : Nat) : Int) ∧ ((c : Nat) : Int) < 25) := Or.inr ⟨by omega, by omega⟩
  have hn := ndf_lt (b := 2 ^ c) (rgn_lt (H := H) hc)
  have hl25 := bit_lt hn hl
  obtain ⟨l1, l2, l3⟩ := p25 hl25
  obtain ⟨lr, lc⟩ := ndf_mem.mp hl
  rw [pow_mem] at lc
  have i1 : sub_ (2 ^ l) (alw (c : Nat)) := fun i hi => by
    rw [pow_mem] at hi
    subst hi
    exact (alw_mem hb).mpr ⟨hl25, by omega⟩
  have i2 : sub_ (2 ^ l) (ndf (rgn H c) (2 ^ c)) := fun i hi => by
    rw [pow_mem] at hi
    subst hi
    exact hl
  refine sub_eq ?_ ?_
  · refine wth_min (wth_base l1 i2 25) (fun a b z1 z2 z3 => ?_) 25
    have ha : (ndf (rgn H c) (2 ^ c)).testBit a = true := wth_in i2 25 a z1
    obtain ⟨ha1, ha2⟩ := ndf_mem.mp ha
    obtain ⟨hb1, hb2⟩ := (alw_mem hb).mp z3
    refine cls_closed l1 i2 l3 z1 z2 (ndf_mem.mpr ⟨cls_closed p1 p2 p3 ha1 z2 ?_, ?_⟩)
    · rw [AL_bit, decide_eq_true_eq]; exact hb1
    · rw [pow_mem]
      omega
  · refine wth_min (wth_base l1 i1 25) (fun a b z1 z2 z3 => ?_) 25
    obtain ⟨h1, h2⟩ := ndf_mem.mp z3
    rw [pow_mem] at h2
    exact cls_closed l1 i1 l3 z1 z2 ((alw_mem hb).mpr ⟨bit_lt hn z3, by omega⟩)
theorem c_Mo_isNeck {d : Nat} {m : Mm} {c : Nat} (h8 : hv20 (m 401 8)) (h9 : hv20 (m 401 9)) (hc : c < 25) : Cl (d + 4) k_Mo_isNeck [(18, 400), (0, (c : Nat))] m (some (0, if nkB (HM m 401) c = true then 1 else 0), m) := by
  have hr := rgn_lt (H := HM m 401) hc
  have hp := (p25 hc).1
  have hn := ndf_lt (b := 2 ^ c) hr
  refine cl_Mo_isNeck (b_Mo_isNeck ⟨_, _, c_Mo_rgn h8 h9 hc, ?_⟩)
  rw [isl1 (by omega), ian_not (by omega) (by omega)]
  refine ⟨fun z => ?_, fun z => ?_⟩
  · have h0 : ndf (rgn (HM m 401) c) (2 ^ c) ≠ 0 := by omega
    obtain ⟨l1, l2, l3⟩ := low_v hn h0
    have key : ∀ (t k : Nat), k + t = low (ndf (rgn (HM m 401) c) (2 ^ c)) → Ev (d + 4) K_Mo_isNeck 2 17 [(18, 400), (0, (c : Nat)), (0, (ndf (rgn (HM m 401) c) (2 ^ c) : Nat)), (0, (k : Nat))] [] m (some (0, if nkB (HM m 401) c = true then 1 else 0), m) := by
      intro t
      induction t with
      | zero =>
        intro k hk
        obtain rfl : k = low (ndf (rgn (HM m 401) c) (2 ^ c)) := by omega
        obtain ⟨lr, lc⟩ := ndf_mem.mp l1
        rw [pow_mem] at lc
        have hg := c_Mo_regionOf (d := d) (but := (c : Nat)) h8 h9 l2 (Or.inr ⟨by omega, by omega⟩) (by omega)
        rw [neck_cls hc l1] at hg
        refine b_Mo_isNeck_17 ⟨_, _, c_Mo_has (by omega) (by omega), fun _ => ⟨_, _, hg, fun z2 => ?_, fun z2 => ?_⟩, fun y => ?_⟩
        · rw [if_neg]
          unfold nkB
          rw [Bool.and_eq_true, decide_eq_true_eq, decide_eq_true_eq]
          intro q
          omega
        · rw [if_pos]
          unfold nkB
          rw [Bool.and_eq_true, decide_eq_true_eq, decide_eq_true_eq]
          exact ⟨h0, by omega⟩
        · rw [Classical.not_not, ite_z] at y
          exact absurd l1 y
      | succ t ih =>
        intro k hk
        refine b_Mo_isNeck_17 ⟨_, _, c_Mo_has (by omega) (by omega), fun y => ?_, fun y => ?_⟩
        · rw [ite_z1] at y
          exact absurd y (l3 k (by omega))
        · rw [w32s (by omega)]
          exact ih (k + 1) (by omega)
    exact key _ 0 (Nat.zero_add _)
  · rw [if_neg]
    unfold nkB
    rw [Bool.and_eq_true, decide_eq_true_eq]
    intro q
    omega
theorem op_necks {m : Mm} (h : R m) : OP k_Th_necks k_Mo_necks 0 [] m := by
  obtain ⟨_, v8, v9, _⟩ := R_h h
  obtain ⟨m1, q1, q2, q3⟩ := c_Th_mazeNow (d := 117) h
  have e401 : m1 401 = m 401 := by funext b; exact q3 _ _ (by omega)
  have fc : ∀ (t k : Nat), k + t = 25 → Ev 120 K_Th_necks 0 7 [(17, 0), (0, (bs_ (nkB (HM m 401)) k : Nat)), (0, (k : Nat))] [] m1 (some (0, (bs_ (nkB (HM m 401)) 25 : Nat)), m1) := by
    intro t
    induction t with
    | zero =>
      intro k hk
      obtain rfl : k = 25 := by omega
      exact b_Th_necks_7 ⟨fun _ => rfl, fun z => absurd (by omega) z⟩
    | succ t ih =>
      intro k hk
      have g := ih (k + 1) (by omega)
      refine b_Th_necks_7 ⟨fun z => by omega, fun _ => ⟨_, _, c_Mz_isNeck q2 (by omega), fun z => ?_, fun z => ?_⟩⟩
      · rw [ite_z] at z
        rw [bst_s0 z] at g
        rw [w32s (by omega)]
        exact g
      · rw [ite_z1] at z
        rw [bst_s1 z (by omega), w32s (by omega)]
        exact g
  have fm : ∀ (t k : Nat), k + t = 25 → Ev 120 K_Mo_necks 0 4 [(18, 400), (0, (bs_ (nkB (HM m 401)) k : Nat)), (0, (k : Nat))] [] m1 (some (0, (bs_ (nkB (HM m 401)) 25 : Nat)), m1) := by
    intro t
    induction t with
    | zero =>
      intro k hk
      obtain rfl : k = 25 := by omega
      exact b_Mo_necks_4 ⟨fun _ => rfl, fun z => absurd (by omega) z⟩
    | succ t ih =>
      intro k hk
      have g := ih (k + 1) (by omega)
      have h31 := bst_31 (p := nkB (HM m 401)) (k := k) (by omega)
      have hn := c_Mo_isNeck (d := 115) (m := m1) (c := k) (by rw [e401]; exact v8) (by rw [e401]; exact v9) (by omega)
      rw [HM_row e401] at hn
      refine b_Mo_necks_4 ⟨fun z => by omega, fun _ => ⟨_, _, hn, fun z => ?_, fun z => ?_⟩⟩
      · rw [ite_z] at z
        rw [bst_s0 z] at g
        rw [w32s (by omega), iro_0 (by omega)]
        exact g
      · rw [ite_z1] at z
        rw [bst_s1 z (by omega), w32s (by omega)]
        exact g
  exact OP_q h (cl_Th_necks (b_Th_necks ⟨_, q1, fc 25 0 rfl⟩)) (cl_Mo_necks (b_Mo_necks (fm 25 0 rfl))) (SM_13 q3) SM_refl
