/-! WHAT A LAW SAYS: acts on numbers -/
def rg_ (b : Bool) (x : Int) : Prop := if b = true then x = 0 ∨ x = 1 else -1000000 ≤ x ∧ x ≤ 1000000
theorem rg_f {x : Int} : rg_ false x ↔ -1000000 ≤ x ∧ x ≤ 1000000 := Iff.rfl
theorem rg_t {x : Int} : rg_ true x ↔ x = 0 ∨ x = 1 := Iff.rfl
theorem clp_in {x : Int} : -1000000 ≤ clp x ∧ clp x ≤ 1000000 := by
  unfold clp
  split
  · omega
  · split <;> omega
theorem tdv_in {a b : Int} (ha : -1000000 ≤ a ∧ a ≤ 1000000) : -1000000 ≤ tdv a b ∧ tdv a b ≤ 1000000 := by
  unfold tdv
  split
  · omega
  · have h1 : (Int.tdiv a b).natAbs ≤ a.natAbs := by rw [Int.natAbs_tdiv]; exact Nat.div_le_self _ _
    omega
theorem apt_in {a b : Int} : 0 ≤ apt a b ∧ apt a b ≤ 8 := by
  unfold apt
  split
  · split <;> split <;> omega
  · omega
theorem ite_sm {P : Prop} [Decidable P] : -1000000 ≤ (if P then (1 : Int) else 0) ∧ (if P then (1 : Int) else 0) ≤ 1000000 := by
  split <;> omega
theorem iab0 {x : Int} : (if 0 ≤ x then x else 0 - x) = (x.natAbs : Int) := by
  split <;> omega
theorem bop_rg {a b : Bool} {cm : Int × Int} {x y : Int} (h : cm ∈ ops a b) (hx : rg_ a x) (hy : rg_ a y) : rg_ b (bop cm.1 x y) := by
  cases a <;> cases b
  · rw [rg_f] at *
    simp only [ops, List.mem_cons, List.not_mem_nil, or_false] at h
    rcases h with rfl | rfl | rfl | rfl | rfl
    · simp only [bop, if_true]; exact clp_in
    · simp [bop]; exact clp_in
    · simp [bop]; exact clp_in
    · simp [bop]; exact tdv_in hx
    · simp [bop]; have := apt_in (a := x) (b := y); omega
  · rw [rg_t]
    simp only [ops, List.mem_cons, List.not_mem_nil, or_false] at h
    rcases h with rfl | rfl | rfl | rfl | rfl | rfl <;> simp [bop] <;> omega
  · simp [ops] at h
  · rw [rg_t]
    simp only [ops, List.mem_cons, List.not_mem_nil, or_false] at h
    rcases h with rfl | rfl <;> simp [bop] <;> omega
theorem WE_lt {C Mo Mv : Nat → Int} {w : Int} : ∀ (n : Nat) (b : Bool) (p p' q q' : Nat) (F : Ef), WE C Mo Mv w n b p p' q q' F → p < p' ∧ q < q' := by
  intro n
  induction n with
  | zero => intro b p p' q q' F h; exact absurd h (by unfold WE; exact fun z => z)
  | succ n ih =>
    intro b p p' q q' F h
    unfold WE at h
    rcases h with ⟨_, v, _, _, _, _, _, rfl, rfl, _⟩ | ⟨_, k, _, _, _, _, rfl, rfl, _⟩ | ⟨_, p1, q1, F1, h1, _, _, rfl, rfl, _⟩ | ⟨_, p1, q1, F1, h1, _, _, rfl, rfl, _⟩ | ⟨a, cm, p1, q1, p2, q2, F1, F2, _, h1, h2, _, _, rfl, rfl, _⟩ | ⟨_, p1, q1, p2, q2, p3, q3, G, F1, F2, h1, _, h2, _, h3, _, rfl, rfl, _⟩ | ⟨_, p1, q1, G, h1, _, _, rfl, rfl, _⟩
    · omega
    · omega
    · have := ih _ _ _ _ _ _ h1; omega
    · have := ih _ _ _ _ _ _ h1; omega
    · have := ih _ _ _ _ _ _ h1
      have := ih _ _ _ _ _ _ h2
      omega
    · have := ih _ _ _ _ _ _ h1
      have := ih _ _ _ _ _ _ h2
      have := ih _ _ _ _ _ _ h3
      omega
    · have := ih _ _ _ _ _ _ h1; omega
theorem WE_rg {C Mo Mv : Nat → Int} {w : Int} {N : Int → Int} {H : Int → Bool} (hN : ∀ k, nmo w k → -1000000 ≤ N k ∧ N k ≤ 1000000) : ∀ (n : Nat) (b : Bool) (p p' q q' : Nat) (F : Ef), WE C Mo Mv w n b p p' q q' F → rg_ b (F N H) := by
  intro n
  induction n with
  | zero => intro b p p' q q' F h; exact absurd h (by unfold WE; exact fun z => z)
  | succ n ih =>
    intro b p p' q q' F h
    unfold WE at h
    rcases h with ⟨rfl, v, h1, h2, _, _, _, _, _, rfl⟩ | ⟨rfl, k, h1, _, _, _, _, _, rfl⟩ | ⟨rfl, p1, q1, F1, h1, _, _, _, _, rfl⟩ | ⟨rfl, p1, q1, F1, h1, _, _, _, _, rfl⟩ | ⟨a, cm, p1, q1, p2, q2, F1, F2, hcm, h1, h2, _, _, _, _, rfl⟩ | ⟨rfl, p1, q1, p2, q2, p3, q3, G, F1, F2, h1, _, h2, _, h3, _, _, _, rfl⟩ | ⟨rfl, p1, q1, G, h1, _, _, _, _, rfl⟩
    · rw [rg_f]
      show -1000000 ≤ v ∧ v ≤ 1000000
      omega
    · rw [rg_f]; exact hN k h1
    · have := ih _ _ _ _ _ _ h1
      rw [rg_f] at this ⊢
      show -1000000 ≤ -F1 N H ∧ -F1 N H ≤ 1000000
      omega
    · rw [rg_f]
      exact ite_sm
    · exact bop_rg hcm (ih _ _ _ _ _ _ h1) (ih _ _ _ _ _ _ h2)
    · have e2 := ih _ _ _ _ _ _ h2
      have e3 := ih _ _ _ _ _ _ h3
      show rg_ false (if G N H = 0 then F2 N H else F1 N H)
      split
      · exact e3
      · exact e2
    · have := ih _ _ _ _ _ _ h1
      rw [rg_t] at this ⊢
      show 1 - G N H = 0 ∨ 1 - G N H = 1
      omega
theorem WE_con {C Mo Mv : Nat → Int} {w : Int} {N N' : Int → Int} {H H' : Int → Bool} (hN : ∀ k, nmo w k → N k = N' k) (hH : ∀ x, 0 ≤ x ∧ x < 40 → H x = H' x) : ∀ (n : Nat) (b : Bool) (p p' q q' : Nat) (F : Ef), WE C Mo Mv w n b p p' q q' F → F N H = F N' H' := by
  intro n
  induction n with
  | zero => intro b p p' q q' F h; exact absurd h (by unfold WE; exact fun z => z)
  | succ n ih =>
    intro b p p' q q' F h
    unfold WE at h
    rcases h with ⟨rfl, v, h1, h2, _, _, _, _, _, rfl⟩ | ⟨rfl, k, h1, _, _, _, _, _, rfl⟩ | ⟨rfl, p1, q1, F1, h1, _, _, _, _, rfl⟩ | ⟨rfl, p1, q1, F1, h1, _, _, _, _, rfl⟩ | ⟨a, cm, p1, q1, p2, q2, F1, F2, hcm, h1, h2, _, _, _, _, rfl⟩ | ⟨rfl, p1, q1, p2, q2, p3, q3, G, F1, F2, h1, _, h2, _, h3, _, _, _, rfl⟩ | ⟨rfl, p1, q1, G, h1, _, _, _, _, rfl⟩
    · rfl
    · exact hN k h1
    · show -F1 N H = -F1 N' H'
      rw [ih _ _ _ _ _ _ h1]
    · have e := ih _ _ _ _ _ _ h1
      show (if (0 ≤ F1 N H ∧ F1 N H < 40) ∧ H (F1 N H) = true then (1 : Int) else 0) = (if (0 ≤ F1 N' H' ∧ F1 N' H' < 40) ∧ H' (F1 N' H') = true then (1 : Int) else 0)
      rw [← e]
      refine ite_iff ?_
      constructor
      · rintro ⟨z1, z2⟩; exact ⟨z1, by rw [← hH _ z1]; exact z2⟩
      · rintro ⟨z1, z2⟩; exact ⟨z1, by rw [hH _ z1]; exact z2⟩
    · show bop cm.1 (F1 N H) (F2 N H) = bop cm.1 (F1 N' H') (F2 N' H')
      rw [ih _ _ _ _ _ _ h1, ih _ _ _ _ _ _ h2]
    · show (if G N H = 0 then F2 N H else F1 N H) = (if G N' H' = 0 then F2 N' H' else F1 N' H')
      rw [ih _ _ _ _ _ _ h1, ih _ _ _ _ _ _ h2, ih _ _ _ _ _ _ h3]
    · show 1 - G N H = 1 - G N' H'
      rw [ih _ _ _ _ _ _ h1]
/-! the acts of two, the class's -/
theorem w64m {x : Int} (h : -1000000000000 ≤ x ∧ x ≤ 1000000000000) : w64 x = x := w64_of ⟨by omega, by omega⟩
theorem mul_in {x y : Int} (hx : -1000000 ≤ x ∧ x ≤ 1000000) (hy : -1000000 ≤ y ∧ y ≤ 1000000) : -1000000000000 ≤ x * y ∧ x * y ≤ 1000000000000 := by
  have h : (x * y).natAbs ≤ 1000000 * 1000000 := by
    rw [Int.natAbs_mul]
    exact Nat.mul_le_mul (by omega) (by omega)
  omega
theorem c_Ju_bounded {d : Nat} {m : Mm} {x : Int} : Cl d k_Ju_bounded [(1, x)] m (some (0, clp x), m) := by
  refine cl_Ju_bounded (b_Ju_bounded ?_)
  rw [w32n (by omega) (by omega)]
  congr 3
  unfold clp
  split
  · omega
  · split <;> omega
theorem idv_t {a b : Int} (ha : -1000000 ≤ a ∧ a ≤ 1000000) (hb : -1000000 ≤ b ∧ b ≤ 1000000) : idv a b = Int.tdiv a b := by
  have e1 : (Int32.ofInt a).toInt = a := i32_of ⟨by omega, by omega⟩
  have e2 : (Int32.ofInt b).toInt = b := i32_of ⟨by omega, by omega⟩
  unfold idv
  rw [Int32.toInt_div, e1, e2]
  have h1 : (Int.tdiv a b).natAbs ≤ a.natAbs := by rw [Int.natAbs_tdiv]; exact Nat.div_le_self _ _
  rw [Int.bmod_eq_of_le] <;> omega
theorem ldv_t {a b : Int} (ha : -1000000 ≤ a ∧ a ≤ 1000000) (hb : -1000000 ≤ b ∧ b ≤ 1000000) : ldv a b = Int.tdiv a b := by
  have e1 : (Int64.ofInt a).toInt = a := i64_of ⟨by omega, by omega⟩
  have e2 : (Int64.ofInt b).toInt = b := i64_of ⟨by omega, by omega⟩
  unfold ldv
  rw [Int64.toInt_div, e1, e2]
  have h1 : (Int.tdiv a b).natAbs ≤ a.natAbs := by rw [Int.natAbs_tdiv]; exact Nat.div_le_self _ _
  rw [Int.bmod_eq_of_le] <;> omega
theorem c_Pl_apart {d : Nat} {m : Mm} {a b : Int} : Cl d k_Pl_apart [(0, a), (0, b)] m (some (0, apt a b), m) := by
  refine cl_Pl_apart (b_Pl_apart ⟨fun z => ?_, fun z1 => ⟨fun z => ?_, fun z2 => ⟨fun z => ?_, fun z3 => ⟨fun z => ?_, fun z => ?_⟩⟩⟩⟩)
  · unfold apt; rw [if_neg (by omega)]
  · unfold apt; rw [if_neg (by omega)]
  · unfold apt; rw [if_neg (by omega)]
  · have e1 : irm a 5 = a % 5 := irm_n (by omega) (by omega) (by omega) (by omega)
    have e2 : idv a 5 = a / 5 := idv_n (by omega) (by omega) (by omega) (by omega)
    have e3 : irm b 5 = b % 5 := irm_n (by omega) (by omega) (by omega) (by omega)
    have e4 : idv b 5 = b / 5 := idv_n (by omega) (by omega) (by omega) (by omega)
    have e5 : w32 (a / 5 - b / 5) = a / 5 - b / 5 := w32n (by omega) (by omega)
    have e6 : w32 (a % 5 - b % 5) = a % 5 - b % 5 := w32n (by omega) (by omega)
    have e7 : w32 (0 - (a / 5 - b / 5)) = 0 - (a / 5 - b / 5) := w32n (by omega) (by omega)
    have e8 : w32 (0 - (a % 5 - b % 5)) = 0 - (a % 5 - b % 5) := w32n (by omega) (by omega)
    rw [e1, e2, e3, e4, e5, e6, e7, e8, iab0, iab0, w32n (by omega) (by omega)]
    congr 3
    unfold apt
    rw [if_pos ⟨⟨by omega, by omega⟩, by omega, z⟩]
    split <;> split <;> omega
  · unfold apt; rw [if_neg (by omega)]
theorem bit01 {x y : Int} (hx : x = 0 ∨ x = 1) (hy : y = 0 ∨ y = 1) : ian x y = (if x = 1 ∧ y = 1 then 1 else 0) ∧ iro x y = (if x = 1 ∨ y = 1 then 1 else 0) := by
  rcases hx with rfl | rfl <;> rcases hy with rfl | rfl <;> decide
theorem c_Ju_ofTwo {d : Nat} {m : Mm} {a b : Bool} {cm : Int × Int} {x y : Int} (h : cm ∈ ops a b) (hx : rg_ a x) (hy : rg_ a y) : Cl (d + 1) k_Ju_ofTwo [(0, cm.1), (0, x), (0, y)] m (some (0, bop cm.1 x y), m) := by
  refine cl_Ju_ofTwo (b_Ju_ofTwo ?_)
  cases a <;> cases b
  · rw [rg_f] at hx hy
    simp only [ops, List.mem_cons, List.not_mem_nil, or_false] at h
    rcases h with rfl | rfl | rfl | rfl | rfl
    · refine ⟨fun _ => ?_, fun z => absurd rfl z⟩
      rw [w64m (by omega)]
      exact ⟨_, _, c_Ju_bounded, by simp [bop]⟩
    · refine ⟨fun z => absurd z (by decide), fun _ => ⟨fun _ => ?_, fun z => absurd rfl z⟩⟩
      rw [w64m (by omega)]
      exact ⟨_, _, c_Ju_bounded, by simp [bop]⟩
    · refine ⟨fun z => absurd z (by decide), fun _ => ⟨fun z => absurd z (by decide), fun _ => ⟨fun _ => ?_, fun z => absurd rfl z⟩⟩⟩
      rw [w64m (mul_in hx hy)]
      exact ⟨_, _, c_Ju_bounded, by simp [bop]⟩
    · refine ⟨fun z => absurd z (by decide), fun _ => ⟨fun z => absurd z (by decide), fun _ => ⟨fun z => absurd z (by decide), fun _ => ⟨fun _ => ⟨fun z => ⟨z, ?_⟩, fun z => ?_⟩, fun z => absurd rfl z⟩⟩⟩⟩
      · rw [idv_t hx hy]
        simp [bop, tdv, z]
      · rw [Classical.not_not] at z
        simp [bop, tdv, z]
    · refine ⟨fun z => absurd z (by decide), fun _ => ⟨fun z => absurd z (by decide), fun _ => ⟨fun z => absurd z (by decide), fun _ => ⟨fun z => absurd z (by decide), fun _ => ⟨fun _ => ⟨_, _, c_Pl_apart, by simp [bop]⟩, fun z => absurd rfl z⟩⟩⟩⟩⟩
  · rw [rg_f] at hx hy
    simp only [ops, List.mem_cons, List.not_mem_nil, or_false] at h
    have cmp : ∀ k v : Int, (k = 3 ∨ k = 14 ∨ k = 4 ∨ k = 15 ∨ k = 5 ∨ k = 6) → v = bop k x y → Cl d k_Ju_compares [(0, k), (0, x), (0, y)] m (some (0, v), m) := by
      intro k v hk hv
      refine cl_Ju_compares (b_Ju_compares ?_)
      rcases hk with rfl | rfl | rfl | rfl | rfl | rfl
      · simp [bop] at hv
        refine ⟨fun _ => ⟨fun z => ?_, fun z => ?_⟩, fun z => absurd rfl z⟩
        · rw [hv, if_neg (by omega)]
        · rw [hv, if_pos (by omega)]
      · simp [bop] at hv
        simp
        refine ⟨fun z => ?_, fun z => ?_⟩
        · rw [hv, if_neg (by omega)]
        · rw [hv, if_pos (by omega)]
      · simp [bop] at hv
        simp
        refine ⟨fun z => ?_, fun z => ?_⟩
        · rw [hv, if_neg (by omega)]
        · rw [hv, if_pos (by omega)]
      · simp [bop] at hv
        simp
        refine ⟨fun z => ?_, fun z => ?_⟩
        · rw [hv, if_neg (by omega)]
        · rw [hv, if_pos (by omega)]
      · simp [bop] at hv
        simp
        refine ⟨fun z => ?_, fun z => ?_⟩
        · rw [hv, if_neg z]
        · rw [hv, if_pos z]
      · simp [bop] at hv
        simp
        refine ⟨fun z => ?_, fun z => ?_⟩
        · rw [hv, if_pos z]
        · rw [hv, if_neg z]
    have fin : ∀ k : Int, (k = 3 ∨ k = 14 ∨ k = 4 ∨ k = 15 ∨ k = 5 ∨ k = 6) → (bop k x y = 0 ∨ bop k x y = 1) → ∃ (v5 : Int) (m5 : Mm), Cl d k_Ju_compares [(0, k), (0, x), (0, y)] m (some (0, v5), m5) ∧ ((v5 = 0 → ((some (0, bop k x y), m) : Option Vv × Mm) = (some (0, 0), m5)) ∧ (¬ v5 = 0 → ((some (0, bop k x y), m) : Option Vv × Mm) = (some (0, 1), m5))) := by
      intro k hk hb
      refine ⟨_, _, cmp k _ hk rfl, fun z => by rw [z], fun z => ?_⟩
      rcases hb with q | q
      · exact absurd q z
      · rw [q]
    have b01 : ∀ k : Int, (k = 3 ∨ k = 14 ∨ k = 4 ∨ k = 15 ∨ k = 5 ∨ k = 6) → (bop k x y = 0 ∨ bop k x y = 1) := by
      intro k hk
      rcases hk with rfl | rfl | rfl | rfl | rfl | rfl <;> simp [bop] <;> omega
    rcases h with rfl | rfl | rfl | rfl | rfl | rfl
    · have := fin 3 (by simp) (b01 3 (by simp)); simpa using this
    · have := fin 14 (by simp) (b01 14 (by simp)); simpa using this
    · have := fin 4 (by simp) (b01 4 (by simp)); simpa using this
    · have := fin 15 (by simp) (b01 15 (by simp)); simpa using this
    · have := fin 5 (by simp) (b01 5 (by simp)); simpa using this
    · have := fin 6 (by simp) (b01 6 (by simp)); simpa using this
  · simp [ops] at h
  · rw [rg_t] at hx hy
    simp only [ops, List.mem_cons, List.not_mem_nil, or_false] at h
    obtain ⟨e1, e2⟩ := bit01 hx hy
    rcases h with rfl | rfl
    · simp
      rw [e1]
      simp [bop]
    · simp
      rw [e2]
      simp [bop]
/-! the model's -/
theorem lcm_n {a b : Int} : (lcm a b < 0 ↔ a < b) ∧ (lcm a b ≤ 0 ↔ a ≤ b) ∧ (0 ≤ lcm a b ↔ b ≤ a) ∧ (0 < lcm a b ↔ b < a) ∧ (lcm a b = 0 ↔ a = b) := by
  unfold lcm
  split
  · omega
  · split <;> omega
theorem c_Mo_clip {d : Nat} {m : Mm} {x : Int} : Cl d k_Mo_clip [(1, x)] m (some (1, clp x), m) := by
  refine cl_Mo_clip (b_Mo_clip ⟨fun z => ⟨fun z2 => ?_, fun z2 => ?_⟩, fun z => ?_⟩)
  · rw [lcm_n.2.1] at z
    rw [lcm_n.2.2.1] at z2
    unfold clp; rw [if_neg (by omega), if_neg (by omega)]
  · rw [lcm_n.2.1] at z
    rw [lcm_n.2.2.1] at z2
    unfold clp; rw [if_neg (by omega), if_pos (by omega)]
  · rw [lcm_n.2.1] at z
    unfold clp; rw [if_pos (by omega)]
theorem clp_id {x : Int} (h : -1000000 ≤ x ∧ x ≤ 1000000) : clp x = x := by
  unfold clp
  rw [if_neg (by omega), if_neg (by omega)]
theorem c_Mo_two {d : Nat} {m : Mm} {cm : Int × Int} {x y : Int} (h : cm ∈ [((7 : Int), (6 : Int)), (8, 7), (9, 8), (10, 9)]) (hx : -1000000 ≤ x ∧ x ≤ 1000000) (hy : -1000000 ≤ y ∧ y ≤ 1000000) : Cl (d + 1) k_Mo_two [(0, cm.2), (1, x), (1, y)] m (some (1, bop cm.1 x y), m) := by
  refine cl_Mo_two (b_Mo_two ?_)
  simp only [List.mem_cons, List.not_mem_nil, or_false] at h
  rcases h with rfl | rfl | rfl | rfl
  · refine ⟨fun _ => ?_, fun z => absurd rfl z⟩
    rw [w64m (by omega)]
    exact ⟨_, _, c_Mo_clip, by simp [bop]⟩
  · refine ⟨fun z => absurd z (by decide), fun _ => ⟨fun _ => ?_, fun z => absurd rfl z⟩⟩
    rw [w64m (by omega)]
    exact ⟨_, _, c_Mo_clip, by simp [bop]⟩
  · refine ⟨fun z => absurd z (by decide), fun _ => ⟨fun z => absurd z (by decide), fun _ => ⟨fun _ => ?_, fun z => absurd rfl z⟩⟩⟩
    rw [w64m (mul_in hx hy)]
    exact ⟨_, _, c_Mo_clip, by simp [bop]⟩
  · refine ⟨fun z => absurd z (by decide), fun _ => ⟨fun z => absurd z (by decide), fun _ => ⟨fun z => absurd z (by decide), fun _ => ⟨fun z => ?_, fun z => ?_⟩⟩⟩⟩
    · rw [lcm_0] at z
      refine ⟨z, ?_⟩
      rw [ldv_t hx hy]
      refine ⟨_, _, c_Mo_clip, ?_⟩
      have := tdv_in (b := y) hx
      unfold tdv at this
      rw [if_neg z] at this
      rw [clp_id this]
      simp [bop, tdv, z]
    · rw [Classical.not_not, lcm_0] at z
      simp [bop, tdv, z]
theorem c_Mo_isAsked {d : Nat} {m : Mm} {cm : Int × Int} {x y : Int} (h : cm ∈ ops false true) : Cl d k_Mo_isAsked [(0, cm.2), (1, x), (1, y)] m (some (0, bop cm.1 x y), m) := by
  obtain ⟨l1, l2, l3, l4, l5⟩ := lcm_n (a := x) (b := y)
  refine cl_Mo_isAsked (b_Mo_isAsked ?_)
  simp only [ops, List.mem_cons, List.not_mem_nil, or_false] at h
  rw [l1, l2, l3, l4, l5]
  rcases h with rfl | rfl | rfl | rfl | rfl | rfl
  · simp [bop]
  · simp [bop]
  · simp [bop]
  · simp [bop]
  · simp [bop]
  · simp [bop]
theorem c_Mo_joined {d : Nat} {m : Mm} {cm : Int × Int} {x y : Int} (h : cm ∈ ops true true) (hx : x = 0 ∨ x = 1) (hy : y = 0 ∨ y = 1) : Cl d k_Mo_joined [(0, cm.2), (0, x), (0, y)] m (some (0, bop cm.1 x y), m) := by
  refine cl_Mo_joined (b_Mo_joined ?_)
  simp only [ops, List.mem_cons, List.not_mem_nil, or_false] at h
  rcases h with rfl | rfl
  · rcases hx with rfl | rfl <;> rcases hy with rfl | rfl <;> simp [bop]
  · rcases hx with rfl | rfl <;> rcases hy with rfl | rfl <;> simp [bop]
theorem c_Mo_hedgeThere {d : Nat} {m : Mm} {x : Int} (h8 : hv20 (m 401 8)) (h9 : hv20 (m 401 9)) : Cl (d + 2) k_Mo_hedgeThere [(18, 400), (1, x)] m (some (1, if (0 ≤ x ∧ x < 40) ∧ HM m 401 x = true then 1 else 0), m) := by
  refine cl_Mo_hedgeThere (b_Mo_hedgeThere ?_)
  rw [lcm_n.1, lcm_n.2.2.1]
  refine ⟨fun z => by rw [if_neg (by omega)], fun z => ⟨fun z2 => by rw [if_neg (by omega)], fun z2 => ?_⟩⟩
  rw [w32n (by omega) (by omega)]
  refine ⟨_, _, c_Mo_isThere h8 h9 ⟨by omega, by omega⟩, fun z3 => ?_, fun z3 => ?_⟩
  · rw [ite_z] at z3
    rw [if_neg (fun q => z3 q.2)]
  · rw [ite_z1] at z3
    rw [if_pos ⟨⟨by omega, by omega⟩, z3⟩]
theorem c_Mo_farOf {d : Nat} {m : Mm} {x y : Int} : Cl (d + 2) k_Mo_farOf [(1, x), (1, y)] m (some (1, apt x y), m) := by
  refine cl_Mo_farOf (b_Mo_farOf ?_)
  rw [lcm_n.1, lcm_n.2.2.1, lcm_n.1, lcm_n.1]
  refine ⟨fun z => ?_, fun z1 => ⟨fun z => ?_, fun z2 => ⟨fun z => ?_, fun z3 => ⟨fun z => ?_, fun z => ?_⟩⟩⟩⟩
  · unfold apt; rw [if_neg (by omega)]
  · unfold apt; rw [if_neg (by omega)]
  · unfold apt; rw [if_neg (by omega)]
  · rw [w32n (by omega) (by omega), w32n (by omega) (by omega)]
    exact ⟨_, _, c_Mo_apart ⟨by omega, by omega⟩ ⟨by omega, by omega⟩, rfl⟩
  · unfold apt; rw [if_neg (by omega)]
