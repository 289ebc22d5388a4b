/-! THE FEWEST GATES -/
theorem rim_dec1 : ∀ c : Nat, c < 25 → (ian (isr 33080895 ((c : Nat) : Int)) 1 = 1 ↔ (((c : Nat) : Int) / 5 = 0 ∨ ((c : Nat) : Int) / 5 = 4 ∨ ((c : Nat) : Int) % 5 = 0 ∨ ((c : Nat) : Int) % 5 = 4)) := by decide +kernel
def rmB (c : Nat) : Bool := decide (c / 5 = 0 ∨ c / 5 = 4 ∨ c % 5 = 0 ∨ c % 5 = 4)
theorem rmB_iff {c : Nat} : rmB c = true ↔ rimI (c : Nat) := by
  unfold rmB rimI
  rw [decide_eq_true_eq]
  omega
/-- the first cell by which it can be done -/
def lpF (f : Nat → Int) : Nat → Nat → Int
  | 0, _ => -1
  | t + 1, c => if rmB c = true ∧ f c ≠ -1 then (((f c).toNat ||| 2 ^ c : Nat) : Int) else lpF f t (c + 1)
def lcv (N : Nat → Nat) : Nat → Nat → Nat → Int
  | 0, _, cov => if cov = AL then 0 else -1
  | k + 1, below, cov => lpF (fun c => lcv N k c (cov ||| N c)) below 0
theorem pc_top {s c : Nat} (hs : s < 2 ^ c) (hc : c < 25) : pc_ 32 (s ||| 2 ^ c) = pc_ 32 s + 1 := by
  have h1 := pc_add c (32 - c) (s ||| 2 ^ c)
  have h2 := pc_add c (32 - c) s
  rw [show c + (32 - c) = 32 by omega] at h1 h2
  have hp := Nat.two_pow_pos c
  rw [or_pow hs] at h1 ⊢
  have e1 : (s + 2 ^ c) % 2 ^ c = s := by rw [Nat.add_mod_right, Nat.mod_eq_of_lt hs]
  have e2 : (s + 2 ^ c) / 2 ^ c = 1 := by rw [Nat.add_div_right _ hp, Nat.div_eq_of_lt hs]
  rw [e1, e2] at h1
  rw [Nat.mod_eq_of_lt hs, Nat.div_eq_of_lt hs, pc_zero] at h2
  have e3 : ∀ n, n < 33 → 0 < n → pc_ n 1 = 1 := by decide +kernel
  rw [e3 (32 - c) (by omega) (by omega)] at h1
  omega
theorem lpF_v {f : Nat → Int} {k : Nat} (hf : ∀ c, c < 25 → f c = -1 ∨ ∃ s : Nat, f c = (s : Nat) ∧ s < 2 ^ c ∧ pc_ 32 s = k) : ∀ t c, c + t ≤ 25 → lpF f t c = -1 ∨ ∃ s : Nat, lpF f t c = (s : Nat) ∧ s < 2 ^ (c + t) ∧ pc_ 32 s = k + 1 := by
  intro t
  induction t with
  | zero => exact fun c _ => Or.inl rfl
  | succ t ih =>
    intro c hc
    unfold lpF
    by_cases hr : rmB c = true ∧ f c ≠ -1
    · rw [if_pos hr]
      rcases hf c (by omega) with q | ⟨s, q1, q2, q3⟩
      · exact absurd q hr.2
      · rw [q1, Int.toNat_natCast]
        refine Or.inr ⟨_, rfl, ?_, ?_⟩
        · have h1 := p2le (k := c + 1) (n := c + (t + 1)) (by omega)
          have h2 := or_lt (k := c + 1) (a := s) (b := 2 ^ c) (by rw [Nat.pow_succ]; omega) (by rw [Nat.pow_succ]; have := Nat.two_pow_pos c; omega)
          omega
        · rw [pc_top q2 (by omega), q3]
    · rw [if_neg hr]
      rcases ih (c + 1) (by omega) with q | ⟨s, q1, q2, q3⟩
      · exact Or.inl q
      · rw [show c + 1 + t = c + (t + 1) by omega] at q2
        exact Or.inr ⟨s, q1, q2, q3⟩
theorem lcv_v {N : Nat → Nat} : ∀ (k below cov : Nat), below ≤ 25 → lcv N k below cov = -1 ∨ ∃ s : Nat, lcv N k below cov = (s : Nat) ∧ s < 2 ^ below ∧ pc_ 32 s = k := by
  intro k
  induction k with
  | zero =>
    intro below cov hb
    unfold lcv
    by_cases h : cov = AL
    · rw [if_pos h]
      exact Or.inr ⟨0, rfl, Nat.two_pow_pos _, pc_zero 32⟩
    · rw [if_neg h]
      exact Or.inl rfl
  | succ k ih =>
    intro below cov hb
    unfold lcv
    have := lpF_v (f := fun c => lcv N k c (cov ||| N c)) (k := k) (fun c hc => ih c _ (by omega)) below 0 (by omega)
    rw [Nat.zero_add] at this
    exact this
theorem c_Mz_lowestCover {m : Mm} {N : Nat → Nat} (hN : ∀ c : Nat, c < 25 → m 14 (c : Nat) = (N c : Nat) ∧ N c < 2 ^ 25) : ∀ (k d below cov : Nat), k < 100 → below ≤ 25 → cov < 2 ^ 25 → Cl (d + k + 1) k_Mz_lowestCover [(14, 13), (0, (k : Nat)), (0, (below : Nat)), (0, (cov : Nat))] m (some (0, lcv N k below cov), m) := by
  intro k
  induction k with
  | zero =>
    intro d below cov hk100 hb hc
    unfold lcv
    refine cl_Mz_lowestCover (b_Mz_lowestCover ⟨fun z => absurd z (by omega), fun _ => ⟨fun z => ?_, fun z => ?_⟩⟩)
    · rw [if_neg (fun q => z (by rw [q]; rfl))]
    · rw [if_pos (show cov = 33554431 by omega)]
  | succ k ih =>
    intro d below cov hk100 hb hc
    unfold lcv
    refine cl_Mz_lowestCover (b_Mz_lowestCover ⟨fun _ => ?_, fun z => absurd (by omega) z⟩)
    have key : ∀ (t c : Nat) (u : Vv), c + t = below → Ev (d + (k + 1) + 1) K_Mz_lowestCover 0 11 [(14, 13), (0, ((k + 1 : Nat) : Int)), (0, (below : Nat)), (0, (cov : Nat)), (0, (c : Nat)), u] [] m (some (0, lpF (fun c => lcv N k c (cov ||| N c)) t c), m) := by
      intro t
      induction t with
      | zero =>
        intro c u hct
        obtain rfl : c = below := by omega
        exact b_Mz_lowestCover_11 ⟨fun _ => rfl, fun z => absurd (by omega) z⟩
      | succ t iht =>
        intro c u hct
        have hc25 : c < 25 := by omega
        have hrim := rim_dec1 c hc25
        obtain ⟨n1, n2⟩ := hN c hc25
        unfold lpF
        refine b_Mz_lowestCover_11 ⟨fun z => by omega, fun _ => ⟨fun z => ?_, fun z => ⟨by omega, ?_⟩⟩⟩
        · rw [if_neg (fun q => z (hrim.mpr (rmB_iff.mp q.1))), w32s (by omega)]
          exact iht (c + 1) _ (by omega)
        · rw [Classical.not_not, hrim] at z
          have hrm : rmB c = true := rmB_iff.mpr z
          have hrec := ih d c (cov ||| N c) (by omega) (by omega) (or_lt hc n2)
          rw [n1, iro_nat (by omega) (by omega), w32n (by omega) (by omega), show ((k + 1 : Nat) : Int) - 1 = ((k : Nat) : Int) by omega]
          refine ⟨_, _, hrec, fun z2 => ?_, fun z2 => ?_⟩
          · rw [if_neg (fun q => q.2 z2), w32s (by omega)]
            exact iht (c + 1) _ (by omega)
          · rw [if_pos ⟨hrm, z2⟩]
            rcases lcv_v (N := N) k c (cov ||| N c) (by omega) with q | ⟨s, q1, q2, q3⟩
            · exact absurd q z2
            · have hp := p2le (k := c) (n := 24) (by omega)
              rw [q1, Int.toNat_natCast, isl1 (by omega), iro_nat (by omega) (by omega)]
    exact key below 0 _ (by omega)
def fgs (N : Nat → Nat) : Nat → Nat → Int
  | 0, _ => -1
  | t + 1, k => if lcv N k 25 0 = -1 then fgs N t (k + 1) else lcv N k 25 0
def fgn (N : Nat → Nat) : Nat → Nat → Int
  | 0, _ => -1
  | t + 1, k => if lcv N k 25 0 = -1 then fgn N t (k + 1) else (k : Nat)
theorem fg_v {N : Nat → Nat} : ∀ t k, (fgs N t k = -1 ∧ fgn N t k = -1) ∨ ∃ s : Nat, fgs N t k = (s : Nat) ∧ s < 2 ^ 25 ∧ fgn N t k = (pc_ 32 s : Nat) := by
  intro t
  induction t with
  | zero => exact fun k => Or.inl ⟨rfl, rfl⟩
  | succ t ih =>
    intro k
    unfold fgs fgn
    rcases lcv_v (N := N) k 25 0 (by omega) with q | ⟨s, q1, q2, q3⟩
    · rw [if_pos q, if_pos q]
      exact ih (k + 1)
    · rw [if_neg (by omega), if_neg (by omega)]
      exact Or.inr ⟨s, q1, q2, by rw [q3]⟩
theorem c_Mz_fewestGates {d : Nat} {m : Mm} {H : Int → Bool} {n : Nat} (hM : MZ m H) (hn : n < 1000) : ∃ m', Cl (d + 6) k_Mz_fewestGates [(14, 13), (0, (n : Nat))] m (some (0, fgs (fun c => wth H AL (2 ^ c) n) 4 1), m') ∧ ∀ a b, a ≠ 14 → m' a b = m a b := by
  have key : ∀ (t k : Nat) (M : Mm), k + t = 25 → (∀ c : Nat, c < k → M 14 (c : Nat) = (wth H AL (2 ^ c) n : Nat)) → (∀ a b, a ≠ 14 → M a b = m a b) → ∃ m', Ev (d + 6) K_Mz_fewestGates 0 2 [(14, 13), (0, (n : Nat)), (0, (k : Nat)), (9, 0)] [] M (some (0, fgs (fun c => wth H AL (2 ^ c) n) 4 1), m') ∧ ∀ a b, a ≠ 14 → m' a b = m a b := by
    intro t
    induction t with
    | zero =>
      intro k M hk h1 h2
      obtain rfl : k = 25 := by omega
      have hN : ∀ c : Nat, c < 25 → M 14 (c : Nat) = (wth H AL (2 ^ c) n : Nat) ∧ wth H AL (2 ^ c) n < 2 ^ 25 := fun c hc => ⟨h1 c hc, wth_lt (p25 hc).1 n⟩
      refine ⟨M, b_Mz_fewestGates_2 ⟨fun _ => ?_, fun z => absurd (by omega) z⟩, h2⟩
      have lp : ∀ (s j : Nat) (u : Vv), j + s = 5 → Ev (d + 6) K_Mz_fewestGates 0 19 [(14, 13), (0, (n : Nat)), (0, (j : Nat)), u] [] M (some (0, fgs (fun c => wth H AL (2 ^ c) n) s j), M) := by
        intro s
        induction s with
        | zero =>
          intro j u hj
          obtain rfl : j = 5 := by omega
          exact b_Mz_fewestGates_19 ⟨fun _ => rfl, fun z => absurd (by omega) z⟩
        | succ s ihs =>
          intro j u hj
          have hrec := c_Mz_lowestCover (m := M) (N := fun c => wth H AL (2 ^ c) n) hN j (d + 4 - j) 25 0 (by omega) (by omega) (by omega)
          rw [show d + 4 - j + j + 1 = d + 5 by omega] at hrec
          unfold fgs
          refine b_Mz_fewestGates_19 ⟨fun z => by omega, fun _ => ⟨_, _, hrec, fun z => ?_, fun z => ?_⟩⟩
          · rw [if_pos z, w32s (by omega)]
            exact ihs (j + 1) _ (by omega)
          · rw [if_neg z]
      exact lp 4 1 _ rfl
    | succ t ih =>
      intro k M hk h1 h2
      have hM' : MZ M H := ⟨by rw [h2 _ _ (by omega)]; exact hM.1, by rw [h2 _ _ (by omega)]; exact hM.2⟩
      obtain ⟨m', g1, g2⟩ := ih (k + 1) (up M 14 (k : Nat) (wth H AL (2 ^ k) n : Nat)) (by omega) (fun c hc => by
        by_cases hck : c = k
        · subst hck; rw [up_eq]
        · rw [up_nk (by omega)]; exact h1 c (by omega)) (fun a b hab => by rw [up_ne hab]; exact h2 a b hab)
      refine ⟨m', b_Mz_fewestGates_2 ⟨fun z => by omega, fun _ => ?_⟩, g2⟩
      rw [isl1 (by omega)]
      refine ⟨_, _, c_Mz_within hM' (p25 (by omega)).1 hn, by omega, ?_⟩
      rintro m2 rfl
      rw [w32s (by omega)]
      exact g1
  obtain ⟨m', g1, g2⟩ := key 25 0 m rfl (fun c hc => by omega) (fun _ _ _ => rfl)
  exact ⟨m', cl_Mz_fewestGates (b_Mz_fewestGates g1), g2⟩
/-! the model's reach and its search -/
theorem c_Mo_layReach {d : Nat} {m : Mm} {n : Nat} (h8 : hv20 (m 401 8)) (h9 : hv20 (m 401 9)) (hn : n < 1000) : ∃ m', Cl (d + 4) k_Mo_layReach [(18, 400), (0, (n : Nat))] m (none, m') ∧ (∀ c : Nat, c < 25 → rmB c = true → m' 415 (c : Nat) = (wth (HM m 401) AL (2 ^ c) n : Nat)) ∧ ∀ a b, a ≠ 411 → a ≠ 415 → m' a b = m a b := by
  have key : ∀ (t k : Nat) (M : Mm) (u : Vv), k + t = 25 → (∀ c : Nat, c < k → rmB c = true → M 415 (c : Nat) = (wth (HM m 401) AL (2 ^ c) n : Nat)) → (∀ a b, a ≠ 411 → a ≠ 415 → M a b = m a b) → ∃ m', Ev (d + 4) K_Mo_layReach 3 2 [(18, 400), (0, (n : Nat)), (0, (k : Nat)), u] [] M (none, m') ∧ (∀ c : Nat, c < 25 → rmB c = true → m' 415 (c : Nat) = (wth (HM m 401) AL (2 ^ c) n : Nat)) ∧ ∀ a b, a ≠ 411 → a ≠ 415 → m' a b = m a b := by
    intro t
    induction t with
    | zero =>
      intro k M u hk h1 h2
      obtain rfl : k = 25 := by omega
      exact ⟨M, b_Mo_layReach_2 ⟨fun _ => rfl, fun z => absurd (by omega) z⟩, h1, h2⟩
    | succ t ih =>
      intro k M u hk h1 h2
      obtain ⟨v, r1, r2, r3⟩ := c_Mo_isRim (d := d + 3) (m := up M 415 (k : Nat) 0) (c := (k : Nat)) ⟨by omega, by omega⟩
      have e4 : up M 415 (k : Nat) 0 401 = m 401 := by funext b; rw [up_ne (by omega), h2 _ _ (by omega) (by omega)]
      by_cases hr : rmB k = true
      · obtain ⟨M2, f1, f2, f3⟩ := c_Mo_layFar (d := d) (m := up M 415 (k : Nat) 0) (x := 0) (s := k) (by rw [e4]; exact h8) (by rw [e4]; exact h9) (Or.inl rfl) (FARS_0 (by omega)) (by omega)
        rw [HM_row e4] at f2
        obtain ⟨p, hp⟩ : ∃ p : Nat → Bool, ∀ c : Nat, p c = true ↔ M2 411 (c : Nat) ≤ (n : Nat) := ⟨fun c => decide (M2 411 (c : Nat) ≤ (n : Nat)), fun c => decide_eq_true_iff⟩
        have hpw : bs_ p 25 = wth (HM m 401) AL (2 ^ k) n := by
          refine sub_eq (fun i hi => ?_) (fun i hi => ?_)
          · rw [bst_bit, Bool.and_eq_true, decide_eq_true_eq, hp] at hi
            exact ((f2 i hi.1).2 n (by omega)).mp hi.2
          · have hi25 := bit_lt (wth_lt (p25 (show k < 25 by omega)).1 n) hi
            rw [bst_bit, Bool.and_eq_true, decide_eq_true_eq, hp]
            exact ⟨hi25, ((f2 i hi25).2 n (by omega)).mpr hi⟩
        have lp : ∀ (s j : Nat) (M3 : Mm), j + s = 25 → M3 415 (k : Nat) = (bs_ p j : Nat) → (∀ b, M3 411 b = M2 411 b) → (∀ c : Nat, c < k → M3 415 (c : Nat) = M 415 (c : Nat)) → (∀ a b, a ≠ 411 → a ≠ 415 → M3 a b = m a b) → ∃ m', Ev (d + 4) K_Mo_layReach 3 20 [(18, 400), (0, (n : Nat)), (0, (k : Nat)), (0, (j : Nat))] [] M3 (none, m') ∧ (∀ c : Nat, c < 25 → rmB c = true → m' 415 (c : Nat) = (wth (HM m 401) AL (2 ^ c) n : Nat)) ∧ ∀ a b, a ≠ 411 → a ≠ 415 → m' a b = m a b := by
          intro s
          induction s with
          | zero =>
            intro j M3 hj y1 y2 y3 y4
            obtain rfl : j = 25 := by omega
            obtain ⟨m', g1, g2⟩ := ih (k + 1) M3 (0, ((25 : Nat) : Int)) (by omega) (fun c hc hrc => by
              by_cases hck : c = k
              · subst hck; rw [y1, hpw]
              · rw [y3 c (by omega)]; exact h1 c (by omega) hrc) y4
            refine ⟨m', b_Mo_layReach_20 ⟨fun _ => ?_, fun z => absurd (by omega) z⟩, g2⟩
            rw [w32s (by omega)]
            exact g1
          | succ s ihs =>
            intro j M3 hj y1 y2 y3 y4
            have h31 := bst_31 (p := p) (k := j) (by omega)
            by_cases hle : M2 411 (j : Nat) ≤ (n : Nat)
            · obtain ⟨m', g1, g2⟩ := ihs (j + 1) (up M3 415 (k : Nat) (bs_ p (j + 1) : Nat)) (by omega) (by rw [up_eq]) (fun b => by rw [up_ne (by omega)]; exact y2 b) (fun c hc => by rw [up_nk (by omega)]; exact y3 c hc) (fun a b h1 h2 => by rw [up_ne h2]; exact y4 a b h1 h2)
              refine ⟨m', b_Mo_layReach_20 ⟨fun z => by omega, fun _ => ⟨by omega, by omega, fun z => ?_, fun _ => ⟨by omega, ?_⟩⟩⟩, g2⟩
              · rw [y2] at z; omega
              · rintro m2 rfl
                rw [y1, bst_s1 ((hp j).mpr hle) (by omega), w32s (by omega)]
                exact g1
            · obtain ⟨m', g1, g2⟩ := ihs (j + 1) (up M3 415 (k : Nat) (bs_ p (j + 1) : Nat)) (by omega) (by rw [up_eq]) (fun b => by rw [up_ne (by omega)]; exact y2 b) (fun c hc => by rw [up_nk (by omega)]; exact y3 c hc) (fun a b h1 h2 => by rw [up_ne h2]; exact y4 a b h1 h2)
              refine ⟨m', b_Mo_layReach_20 ⟨fun z => by omega, fun _ => ⟨by omega, by omega, fun _ => ⟨by omega, ?_⟩, fun z => ?_⟩⟩, g2⟩
              · rintro m2 rfl
                rw [bst_s0 (fun q => hle ((hp j).mp q))] at g1
                rw [y1, iro_0 (by omega), w32s (by omega)]
                exact g1
              · rw [y2] at z; omega
        obtain ⟨m', g1, g2⟩ := lp 25 0 M2 rfl (by rw [f3 _ _ (by omega), up_eq]; rfl) (fun _ => rfl) (fun c hc => by rw [f3 _ _ (by omega), up_nk (by omega)]) (fun a b y1 y2 => by rw [f3 _ _ y1, up_ne y2, h2 _ _ y1 y2])
        refine ⟨m', b_Mo_layReach_2 ⟨fun z => by omega, fun _ => ⟨by omega, ?_⟩⟩, g2⟩
        rintro m1 rfl
        refine ⟨_, _, r1, fun _ => ⟨_, f1, g1⟩, fun z => ?_⟩
        rw [Classical.not_not, r2] at z
        exact absurd (rmB_iff.mp hr) z
      · obtain ⟨m', g1, g2⟩ := ih (k + 1) (up M 415 (k : Nat) 0) u (by omega) (fun c hc hrc => by
          by_cases hck : c = k
          · subst hck; exact absurd hrc hr
          · rw [up_nk (by omega)]; exact h1 c (by omega) hrc) (fun a b y1 y2 => by rw [up_ne y2, h2 _ _ y1 y2])
        refine ⟨m', b_Mo_layReach_2 ⟨fun z => by omega, fun _ => ⟨by omega, ?_⟩⟩, g2⟩
        rintro m1 rfl
        refine ⟨_, _, r1, fun z => ?_, fun _ => ?_⟩
        · rw [r2, Classical.not_not] at z
          exact absurd (rmB_iff.mpr z) hr
        · rw [w32s (by omega)]
          exact g1
  obtain ⟨m', g1, g2⟩ := key 25 0 m _ rfl (fun c hc => by omega) (fun _ _ _ _ => rfl)
  exact ⟨m', cl_Mo_layReach (b_Mo_layReach g1), g2⟩
/-- sets and cover of the first k that are tried -/
def trS (tr : Nat → Nat) : Nat → Nat
  | 0 => 0
  | k + 1 => trS tr k ||| 2 ^ tr k
def trN (N : Nat → Nat) (tr : Nat → Nat) : Nat → Nat
  | 0 => 0
  | k + 1 => trN N tr k ||| N (tr k)
theorem trS_lt {tr : Nat → Nat} {k : Nat} (h : ∀ i, i < k → tr i < 25) : trS tr k < 2 ^ 25 := by
  induction k with
  | zero => exact Nat.two_pow_pos _
  | succ k ih => exact or_lt (ih (fun i hi => h i (by omega))) (p25 (h k (by omega))).1
theorem trN_lt {N tr : Nat → Nat} {k : Nat} (hN : ∀ c, c < 25 → N c < 2 ^ 25) (h : ∀ i, i < k → tr i < 25) : trN N tr k < 2 ^ 25 := by
  induction k with
  | zero => exact Nat.two_pow_pos _
  | succ k ih => exact or_lt (ih (fun i hi => h i (by omega))) (hN _ (h k (by omega)))
theorem tr_con {N tr tr' : Nat → Nat} {k : Nat} (h : ∀ i, i < k → tr' i = tr i) : trS tr' k = trS tr k ∧ trN N tr' k = trN N tr k := by
  induction k with
  | zero => exact ⟨rfl, rfl⟩
  | succ k ih =>
    obtain ⟨q1, q2⟩ := ih (fun i hi => h i (by omega))
    unfold trS trN
    rw [q1, q2, h k (by omega)]
    exact ⟨rfl, rfl⟩
def topT (tr : Nat → Nat) (k : Nat) : Nat := if k = 0 then 25 else tr (k - 1)
/-- the check at the deepest place -/
theorem low_61 {d : Nat} {M : Mm} {n : Nat} {N tr : Nat → Nat} {x2 x3 : Int} {r : Option Vv × Mm} (hn : n ≤ 4) (hN : ∀ c, c < 25 → N c < 2 ^ 25) (hr : ∀ i, i < n → M 416 (i : Nat) = (tr i : Nat) ∧ tr i < 25 ∧ M 415 (tr i : Nat) = (N (tr i) : Nat)) (hy : trN N tr n = AL → r = (some (0, ((trS tr n : Nat) : Int)), M)) (hno : trN N tr n ≠ AL → ∀ u4 u5 u6 : Vv, Ev (d + 1) K_Mo_lowestGates 0 7 [(18, 400), (0, (n : Nat)), (0, x2), (0, x3), u4, u5, u6] [] M r) : ∀ (t j : Nat), j + t = n → Ev (d + 1) K_Mo_lowestGates 0 61 [(18, 400), (0, (n : Nat)), (0, x2), (0, x3), (0, (trN N tr j : Nat)), (0, (trS tr j : Nat)), (0, (j : Nat))] [] M r := by
  intro t
  induction t with
  | zero =>
    intro j hj
    obtain rfl : j = n := by omega
    refine b_Mo_lowestGates_61 ⟨fun _ => ⟨fun z => hno (fun q => z (by rw [q]; rfl)) _ _ _, fun z => hy (show trN N tr j = 33554431 by omega)⟩, fun z => absurd (by omega) z⟩
  | succ t ih =>
    intro j hj
    obtain ⟨q1, q2, q3⟩ := hr j (by omega)
    have b1 := trN_lt (N := N) (tr := tr) (k := j) hN (fun i hi => (hr i (by omega)).2.1)
    have b2 := trS_lt (tr := tr) (k := j) (fun i hi => (hr i (by omega)).2.1)
    have b3 := hN _ q2
    have b4 := (p25 q2).1
    have g := ih (j + 1) (by omega)
    unfold trN trS at g
    refine b_Mo_lowestGates_61 ⟨fun z => by omega, fun _ => ⟨by omega, ?_⟩⟩
    rw [q1, q3, iro_nat (by omega) (by omega), isl1 (by omega), iro_nat (by omega) (by omega), w32s (by omega)]
    exact ⟨by omega, by omega, g⟩
theorem low_61e {d : Nat} {M : Mm} {n : Nat} {N tr : Nat → Nat} {x2 x3 : Int} {r : Option Vv × Mm} (hn : n ≤ 4) (hN : ∀ c, c < 25 → N c < 2 ^ 25) (hr : ∀ i, i < n → M 416 (i : Nat) = (tr i : Nat) ∧ tr i < 25 ∧ M 415 (tr i : Nat) = (N (tr i) : Nat)) (hne : trN N tr n ≠ AL) (hno : Ev (d + 1) K_Mo_lowestGates 0 7 [(18, 400), (0, (n : Nat)), (0, x2), (0, x3), (0, (trN N tr n : Nat)), (0, (trS tr n : Nat)), (0, (n : Nat))] [] M r) : ∀ (t j : Nat), j + t = n → Ev (d + 1) K_Mo_lowestGates 0 61 [(18, 400), (0, (n : Nat)), (0, x2), (0, x3), (0, (trN N tr j : Nat)), (0, (trS tr j : Nat)), (0, (j : Nat))] [] M r := by
  intro t
  induction t with
  | zero =>
    intro j hj
    obtain rfl : j = n := by omega
    exact b_Mo_lowestGates_61 ⟨fun _ => ⟨fun _ => hno, fun z => absurd (show trN N tr j = 33554431 by omega) hne⟩, fun z => absurd (by omega) z⟩
  | succ t ih =>
    intro j hj
    obtain ⟨q1, q2, q3⟩ := hr j (by omega)
    have b1 := trN_lt (N := N) (tr := tr) (k := j) hN (fun i hi => (hr i (by omega)).2.1)
    have b2 := trS_lt (tr := tr) (k := j) (fun i hi => (hr i (by omega)).2.1)
    have b3 := hN _ q2
    have b4 := (p25 q2).1
    have g := ih (j + 1) (by omega)
    unfold trN trS at g
    refine b_Mo_lowestGates_61 ⟨fun z => by omega, fun _ => ⟨by omega, ?_⟩⟩
    rw [q1, q3, iro_nat (by omega) (by omega), isl1 (by omega), iro_nat (by omega) (by omega), w32s (by omega)]
    exact ⟨by omega, by omega, g⟩
theorem low_st {d : Nat} {M : Mm} {n k c top : Nat} {r : Option Vv × Mm} {u3 u4 u5 u6 : Vv} (hn : 1 ≤ n ∧ n ≤ 4) (hk : k < n) (hc : c ≤ 25) (ht25 : top ≤ 25) (h0 : k = 0 → top = 25) (h1 : k ≠ 0 → M 416 ((k : Int) - 1) = (top : Nat)) (hM : M 416 (k : Nat) = (c : Int) - 1) (g1 : top ≤ c → Ev (d + 1) K_Mo_lowestGates 0 7 [(18, 400), (0, (n : Nat)), (0, (k : Int) - 1), (0, (top : Nat)), u4, u5, u6] [] (up M 416 (k : Nat) (c : Nat)) r) (g2 : c < top → ¬ rmB c = true → Ev (d + 1) K_Mo_lowestGates 0 7 [(18, 400), (0, (n : Nat)), (0, (k : Nat)), (0, (top : Nat)), u4, u5, u6] [] (up M 416 (k : Nat) (c : Nat)) r) (g3 : c < top → rmB c = true → k + 1 = n → Ev (d + 1) K_Mo_lowestGates 0 61 [(18, 400), (0, (n : Nat)), (0, (k : Nat)), (0, (top : Nat)), (0, 0), (0, 0), (0, 0)] [] (up M 416 (k : Nat) (c : Nat)) r) (g4 : c < top → rmB c = true → k + 1 < n → Ev (d + 1) K_Mo_lowestGates 0 7 [(18, 400), (0, (n : Nat)), (0, ((k + 1 : Nat) : Int)), (0, (top : Nat)), u4, u5, u6] [] (up (up M 416 (k : Nat) (c : Nat)) 416 ((k + 1 : Nat) : Int) (-1)) r) : Ev (d + 1) K_Mo_lowestGates 0 7 [(18, 400), (0, (n : Nat)), (0, (k : Nat)), u3, u4, u5, u6] [] M r := by
  have ew : w32 (M 416 (k : Nat) + 1) = (c : Nat) := by rw [hM, w32n (by omega) (by omega)]; omega
  have e1 : w32 ((k : Int) - 1) = (k : Int) - 1 := w32n (by omega) (by omega)
  have e2 : w32 ((k : Int) + 1) = ((k + 1 : Nat) : Int) := w32s (by omega)
  have e3 : w32 ((k : Int) + -1) = (k : Int) - 1 := by rw [w32n (by omega) (by omega)]; omega
  have e4 : w32 ((n : Int) - 1) = (n : Int) - 1 := w32n (by omega) (by omega)
  refine b_Mo_lowestGates_7 ⟨fun z => by omega, fun _ => ⟨by omega, by omega, ?_⟩⟩
  intro m1 hm1
  rw [ew] at hm1
  subst hm1
  have f1 : up M 416 (k : Nat) (c : Nat) 416 (k : Nat) = (c : Nat) := up_eq
  rw [f1, e1, e2, e3, e4]
  refine ⟨fun hk0 => ⟨by omega, by omega, ?_⟩, fun hk0 => ⟨by omega, ?_⟩⟩
  · have f2 : up M 416 (k : Nat) (c : Nat) 416 ((k : Int) - 1) = (top : Nat) := by rw [up_nk (by omega)]; exact h1 (by omega)
    rw [f2]
    refine ⟨fun hlt => ⟨by omega, ?_⟩, fun hge => g1 (by omega)⟩
    obtain ⟨v, r1, r2, r3⟩ := c_Mo_isRim (d := d) (m := up M 416 (k : Nat) (c : Nat)) (c := (c : Nat)) ⟨by omega, by omega⟩
    refine ⟨_, _, r1, fun z => ?_, fun z => ?_⟩
    · rw [r2, Classical.not_not] at z
      refine ⟨fun z2 => g3 (by omega) (rmB_iff.mpr z) (by omega), fun z2 => ⟨by omega, ?_⟩⟩
      rintro m3 rfl
      exact g4 (by omega) (rmB_iff.mpr z) (by omega)
    · rw [Classical.not_not, r2] at z
      exact g2 (by omega) (fun q => z (rmB_iff.mp q))
  · rw [Classical.not_not] at hk0
    have htop := h0 (by omega)
    subst htop
    refine ⟨fun hlt => ⟨by omega, ?_⟩, fun hge => g1 (by omega)⟩
    obtain ⟨v, r1, r2, r3⟩ := c_Mo_isRim (d := d) (m := up M 416 (k : Nat) (c : Nat)) (c := (c : Nat)) ⟨by omega, by omega⟩
    refine ⟨_, _, r1, fun z => ?_, fun z => ?_⟩
    · rw [r2, Classical.not_not] at z
      refine ⟨fun z2 => g3 (by omega) (rmB_iff.mpr z) (by omega), fun z2 => ⟨by omega, ?_⟩⟩
      rintro m3 rfl
      exact g4 (by omega) (rmB_iff.mpr z) (by omega)
    · rw [Classical.not_not, r2] at z
      exact g2 (by omega) (fun q => z (rmB_iff.mp q))
def setT (tr : Nat → Nat) (k c : Nat) : Nat → Nat := fun i => if i = k then c else tr i
theorem low_7 {d : Nat} {m : Mm} {n : Nat} {N : Nat → Nat} {R : Int} (hn : 1 ≤ n ∧ n ≤ 4) (hN : ∀ c : Nat, c < 25 → N c < 2 ^ 25) (hm : ∀ c : Nat, c < 25 → rmB c = true → m 415 (c : Nat) = (N c : Nat)) : ∀ (j k : Nat) (tr : Nat → Nat), k + j + 1 = n → (∀ i, i < k → tr i < 25 ∧ rmB (tr i) = true) → ∀ (t c : Nat) (M : Mm) (u3 u4 u5 u6 : Vv), c + t = topT tr k → M 416 (k : Nat) = (c : Int) - 1 → (∀ i : Nat, i < k → M 416 (i : Nat) = (tr i : Nat)) → (∀ a b, a ≠ 416 → M a b = m a b) → (lpF (fun c => lcv N j c (trN N tr k ||| N c)) t c = -1 → ∀ (M' : Mm) (u3 u4 u5 u6 : Vv), (∀ i : Nat, i < k → M' 416 (i : Nat) = (tr i : Nat)) → (∀ a b, a ≠ 416 → M' a b = m a b) → ∃ m', Ev (d + 2) K_Mo_lowestGates 0 7 [(18, 400), (0, (n : Nat)), (0, (k : Int) - 1), u3, u4, u5, u6] [] M' (some (0, R), m') ∧ ∀ a b, a ≠ 416 → m' a b = m a b) → (lpF (fun c => lcv N j c (trN N tr k ||| N c)) t c ≠ -1 → R = ((trS tr k ||| (lpF (fun c => lcv N j c (trN N tr k ||| N c)) t c).toNat : Nat) : Int)) → ∃ m', Ev (d + 2) K_Mo_lowestGates 0 7 [(18, 400), (0, (n : Nat)), (0, (k : Nat)), u3, u4, u5, u6] [] M (some (0, R), m') ∧ ∀ a b, a ≠ 416 → m' a b = m a b := by
  intro j
  induction j with
  | zero =>
    intro k tr hkn htr t
    have top25 : topT tr k ≤ 25 := by
      unfold topT
      split
      · omega
      · have := (htr (k - 1) (by omega)).1; omega
    induction t with
    | zero =>
      intro c M u3 u4 u5 u6 hc h1 h2 h3 hk hR
      obtain ⟨m', g1, g2⟩ := hk rfl (up M 416 (k : Nat) (c : Nat)) (0, (topT tr k : Nat)) u4 u5 u6 (fun i hi => by rw [up_nk (by omega)]; exact h2 i hi) (fun a b hab => by rw [up_ne hab]; exact h3 a b hab)
      refine ⟨m', low_st (top := topT tr k) hn (by omega) (by omega) top25 (fun z => by unfold topT; rw [if_pos z]) (fun z => ?_) h1 (fun _ => g1) (fun z => by omega) (fun z => by omega) (fun z => by omega), g2⟩
      unfold topT
      rw [if_neg z, ← h2 (k - 1) (by omega), show ((k - 1 : Nat) : Int) = (k : Int) - 1 by omega]
    | succ t iht =>
      intro c M u3 u4 u5 u6 hc h1 h2 h3 hk hR
      have htop1 : k ≠ 0 → M 416 ((k : Int) - 1) = (topT tr k : Nat) := fun z => by
        unfold topT
        rw [if_neg z, ← h2 (k - 1) (by omega), show ((k - 1 : Nat) : Int) = (k : Int) - 1 by omega]
      have hM2 : ∀ i : Nat, i < k → up M 416 (k : Nat) (c : Nat) 416 (i : Nat) = (tr i : Nat) := fun i hi => by rw [up_nk (by omega)]; exact h2 i hi
      have hM3 : ∀ a b, a ≠ 416 → up M 416 (k : Nat) (c : Nat) a b = m a b := fun a b hab => by rw [up_ne hab]; exact h3 a b hab
      have hMk : up M 416 (k : Nat) (c : Nat) 416 (k : Nat) = ((c + 1 : Nat) : Int) - 1 := by rw [up_eq]; omega
      by_cases hf : rmB c = true ∧ lcv N 0 c (trN N tr k ||| N c) ≠ -1
      · -- found
        have hval : lpF (fun c => lcv N 0 c (trN N tr k ||| N c)) (t + 1) c = ((2 ^ c : Nat) : Int) := by
          unfold lpF
          rw [if_pos hf]
          have : lcv N 0 c (trN N tr k ||| N c) = 0 := by
            have h2 := hf.2
            unfold lcv at h2 ⊢
            by_cases hq : trN N tr k ||| N c = AL
            · rw [if_pos hq]
            · rw [if_neg hq] at h2; exact absurd rfl h2
          rw [this]
          rw [Int.toNat_zero, Nat.zero_or]
        have hcov : trN N tr k ||| N c = AL := by
          have h2 := hf.2
          unfold lcv at h2
          by_cases hq : trN N tr k ||| N c = AL
          · exact hq
          · rw [if_neg hq] at h2; exact absurd rfl h2
        have hpos := Nat.two_pow_pos c
        have hRv := hR (by rw [hval]; omega)
        rw [hval, Int.toNat_natCast] at hRv
        have htc := tr_con (N := N) (tr := tr) (tr' := setT tr k c) (k := k) (fun i hi => by unfold setT; rw [if_neg (by omega)])
        have hst : setT tr k c k = c := by unfold setT; rw [if_pos rfl]
        have htn : trN N (setT tr k c) n = AL := by
          rw [← hkn]
          show trN N (setT tr k c) k ||| N (setT tr k c k) = AL
          rw [htc.2, hst, hcov]
        have hts : trS (setT tr k c) n = trS tr k ||| 2 ^ c := by
          rw [← hkn]
          show trS (setT tr k c) k ||| 2 ^ (setT tr k c k) = _
          rw [htc.1, hst]
        have g61 := low_61 (d := d + 1) (M := up M 416 (k : Nat) (c : Nat)) (n := n) (N := N) (tr := setT tr k c) (x2 := (k : Nat)) (x3 := (topT tr k : Nat)) (r := (some (0, R), up M 416 (k : Nat) (c : Nat))) (by omega) hN (fun i hi => by
          by_cases hik : i = k
          · subst hik
            rw [up_eq, hst]
            exact ⟨rfl, by omega, by rw [hM3 _ _ (by omega)]; exact hm c (by omega) hf.1⟩
          · have : setT tr k c i = tr i := by unfold setT; rw [if_neg hik]
            rw [this]
            have hq := htr i (by omega)
            exact ⟨hM2 i (by omega), hq.1, by rw [hM3 _ _ (by omega)]; exact hm _ hq.1 hq.2⟩) (fun _ => by rw [hts, hRv]) (fun z => absurd htn z) n 0 (by omega)
        exact ⟨up M 416 (k : Nat) (c : Nat), low_st (top := topT tr k) hn (by omega) (by omega) top25 (fun z => by unfold topT; rw [if_pos z]) htop1 h1 (fun z => by omega) (fun _ z => absurd hf.1 z) (fun _ _ _ => g61) (fun _ _ z => by omega), hM3⟩
      · have hval : lpF (fun c => lcv N 0 c (trN N tr k ||| N c)) (t + 1) c = lpF (fun c => lcv N 0 c (trN N tr k ||| N c)) t (c + 1) := by
          conv => lhs; unfold lpF
          rw [if_neg hf]
        rw [hval] at hk hR
        have nxt : ∀ u4 u5 u6 : Vv, ∃ m', Ev (d + 2) K_Mo_lowestGates 0 7 [(18, 400), (0, (n : Nat)), (0, (k : Nat)), (0, (topT tr k : Nat)), u4, u5, u6] [] (up M 416 (k : Nat) (c : Nat)) (some (0, R), m') ∧ ∀ a b, a ≠ 416 → m' a b = m a b := fun u4 u5 u6 => iht (c + 1) _ _ u4 u5 u6 (by omega) hMk hM2 hM3 hk hR
        by_cases hr : rmB c = true
        · have hcov : trN N tr k ||| N c ≠ AL := fun q => hf ⟨hr, by unfold lcv; rw [if_pos q]; omega⟩
          have htc := tr_con (N := N) (tr := tr) (tr' := setT tr k c) (k := k) (fun i hi => by unfold setT; rw [if_neg (by omega)])
          have hst : setT tr k c k = c := by unfold setT; rw [if_pos rfl]
          have htn : trN N (setT tr k c) n ≠ AL := by
            rw [← hkn]
            show trN N (setT tr k c) k ||| N (setT tr k c k) ≠ AL
            rw [htc.2, hst]
            exact hcov
          obtain ⟨m', y1, y2⟩ := nxt (0, (trN N (setT tr k c) n : Nat)) (0, (trS (setT tr k c) n : Nat)) (0, (n : Nat))
          have g61 := low_61e (d := d + 1) (M := up M 416 (k : Nat) (c : Nat)) (n := n) (N := N) (tr := setT tr k c) (x2 := (k : Nat)) (x3 := (topT tr k : Nat)) (r := (some (0, R), m')) (by omega) hN (fun i hi => by
            by_cases hik : i = k
            · subst hik
              rw [up_eq, hst]
              exact ⟨rfl, by omega, by rw [hM3 _ _ (by omega)]; exact hm c (by omega) hr⟩
            · have : setT tr k c i = tr i := by unfold setT; rw [if_neg hik]
              rw [this]
              have hq := htr i (by omega)
              exact ⟨hM2 i (by omega), hq.1, by rw [hM3 _ _ (by omega)]; exact hm _ hq.1 hq.2⟩) htn y1 n 0 (by omega)
          exact ⟨m', low_st (top := topT tr k) hn (by omega) (by omega) top25 (fun z => by unfold topT; rw [if_pos z]) htop1 h1 (fun z => by omega) (fun _ z => absurd hr z) (fun _ _ _ => g61) (fun _ _ z => by omega), y2⟩
        · obtain ⟨m', y1, y2⟩ := nxt u4 u5 u6
          exact ⟨m', low_st (top := topT tr k) hn (by omega) (by omega) top25 (fun z => by unfold topT; rw [if_pos z]) htop1 h1 (fun z => by omega) (fun _ _ => y1) (fun _ z _ => absurd z hr) (fun _ z _ => absurd z hr), y2⟩
  | succ j ih =>
    intro k tr hkn htr t
    have top25 : topT tr k ≤ 25 := by
      unfold topT
      split
      · omega
      · have := (htr (k - 1) (by omega)).1; omega
    induction t with
    | zero =>
      intro c M u3 u4 u5 u6 hc h1 h2 h3 hk hR
      obtain ⟨m', g1, g2⟩ := hk rfl (up M 416 (k : Nat) (c : Nat)) (0, (topT tr k : Nat)) u4 u5 u6 (fun i hi => by rw [up_nk (by omega)]; exact h2 i hi) (fun a b hab => by rw [up_ne hab]; exact h3 a b hab)
      refine ⟨m', low_st (top := topT tr k) hn (by omega) (by omega) top25 (fun z => by unfold topT; rw [if_pos z]) (fun z => ?_) h1 (fun _ => g1) (fun z => by omega) (fun z => by omega) (fun z => by omega), g2⟩
      unfold topT
      rw [if_neg z, ← h2 (k - 1) (by omega), show ((k - 1 : Nat) : Int) = (k : Int) - 1 by omega]
    | succ t iht =>
      intro c M u3 u4 u5 u6 hc h1 h2 h3 hk hR
      have htop1 : k ≠ 0 → M 416 ((k : Int) - 1) = (topT tr k : Nat) := fun z => by
        unfold topT
        rw [if_neg z, ← h2 (k - 1) (by omega), show ((k - 1 : Nat) : Int) = (k : Int) - 1 by omega]
      have hM2 : ∀ i : Nat, i < k → up M 416 (k : Nat) (c : Nat) 416 (i : Nat) = (tr i : Nat) := fun i hi => by rw [up_nk (by omega)]; exact h2 i hi
      have hM3 : ∀ a b, a ≠ 416 → up M 416 (k : Nat) (c : Nat) a b = m a b := fun a b hab => by rw [up_ne hab]; exact h3 a b hab
      have hMk : up M 416 (k : Nat) (c : Nat) 416 (k : Nat) = ((c + 1 : Nat) : Int) - 1 := by rw [up_eq]; omega
      have htc := tr_con (N := N) (tr := tr) (tr' := setT tr k c) (k := k) (fun i hi => by unfold setT; rw [if_neg (by omega)])
      have hst : setT tr k c k = c := by unfold setT; rw [if_pos rfl]
      have htop' : topT (setT tr k c) (k + 1) = c := by unfold topT; rw [if_neg (by omega), Nat.add_sub_cancel, hst]
      have hN' : trN N (setT tr k c) (k + 1) = trN N tr k ||| N c := by
        show trN N (setT tr k c) k ||| N (setT tr k c k) = _
        rw [htc.2, hst]
      have hS' : trS (setT tr k c) (k + 1) = trS tr k ||| 2 ^ c := by
        show trS (setT tr k c) k ||| 2 ^ (setT tr k c k) = _
        rw [htc.1, hst]
      have hlc : lcv N (j + 1) c (trN N tr k ||| N c) = lpF (fun e => lcv N j e (trN N (setT tr k c) (k + 1) ||| N e)) c 0 := by
        rw [hN']
        rfl
      have htr' : ∀ i, i < k + 1 → rmB c = true → setT tr k c i < 25 ∧ rmB (setT tr k c i) = true := fun i hi hr => by
        by_cases hik : i = k
        · subst hik; rw [hst]; exact ⟨by omega, hr⟩
        · have : setT tr k c i = tr i := by unfold setT; rw [if_neg hik]
          rw [this]
          exact htr i (by omega)
      by_cases hr : rmB c = true
      · have deep : ∃ m', Ev (d + 2) K_Mo_lowestGates 0 7 [(18, 400), (0, (n : Nat)), (0, ((k + 1 : Nat) : Int)), (0, (topT tr k : Nat)), u4, u5, u6] [] (up (up M 416 (k : Nat) (c : Nat)) 416 ((k + 1 : Nat) : Int) (-1)) (some (0, R), m') ∧ ∀ a b, a ≠ 416 → m' a b = m a b := by
          refine ih (k + 1) (setT tr k c) (by omega) (fun i hi => htr' i hi hr) c 0 _ _ u4 u5 u6 (by rw [htop', Nat.zero_add]) (by rw [up_eq]; rfl) (fun i hi => ?_) (fun a b hab => by rw [up_ne hab]; exact hM3 a b hab) (fun hno M' v3 v4 v5 v6 z1 z2 => ?_) (fun hyes => ?_)
          · rw [up_nk (by omega)]
            by_cases hik : i = k
            · subst hik; rw [up_eq, hst]
            · have : setT tr k c i = tr i := by unfold setT; rw [if_neg hik]
              rw [this]
              exact hM2 i (by omega)
          · rw [← hlc] at hno
            have hval : lpF (fun c => lcv N (j + 1) c (trN N tr k ||| N c)) (t + 1) c = lpF (fun c => lcv N (j + 1) c (trN N tr k ||| N c)) t (c + 1) := by
              conv => lhs; unfold lpF
              rw [if_neg (fun q => q.2 hno)]
            rw [hval] at hk hR
            have e9 : ((k + 1 : Nat) : Int) - 1 = (k : Nat) := by omega
            rw [e9]
            refine iht (c + 1) M' v3 v4 v5 v6 (by omega) ?_ (fun i hi => ?_) z2 hk hR
            · have := z1 k (by omega)
              rw [hst] at this
              rw [this]; omega
            · have := z1 i (by omega)
              rw [show setT tr k c i = tr i by unfold setT; rw [if_neg (by omega)]] at this
              exact this
          · rw [← hlc] at hyes ⊢
            have hval : lpF (fun c => lcv N (j + 1) c (trN N tr k ||| N c)) (t + 1) c = (((lcv N (j + 1) c (trN N tr k ||| N c)).toNat ||| 2 ^ c : Nat) : Int) := by
              conv => lhs; unfold lpF
              rw [if_pos ⟨hr, hyes⟩]
            have hRv := hR (by rw [hval]; omega)
            rw [hval, Int.toNat_natCast] at hRv
            rw [hRv, hS', Nat.or_comm (lcv N (j + 1) c (trN N tr k ||| N c)).toNat, Nat.or_assoc]
        obtain ⟨m', y1, y2⟩ := deep
        exact ⟨m', low_st (top := topT tr k) hn (by omega) (by omega) top25 (fun z => by unfold topT; rw [if_pos z]) htop1 h1 (fun z => by omega) (fun _ z => absurd hr z) (fun _ _ z => by omega) (fun _ _ _ => y1), y2⟩
      · have hval : lpF (fun c => lcv N (j + 1) c (trN N tr k ||| N c)) (t + 1) c = lpF (fun c => lcv N (j + 1) c (trN N tr k ||| N c)) t (c + 1) := by
          conv => lhs; unfold lpF
          rw [if_neg (fun q => hr q.1)]
        rw [hval] at hk hR
        obtain ⟨m', y1, y2⟩ := iht (c + 1) (up M 416 (k : Nat) (c : Nat)) (0, (topT tr k : Nat)) u4 u5 u6 (by omega) hMk hM2 hM3 hk hR
        exact ⟨m', low_st (top := topT tr k) hn (by omega) (by omega) top25 (fun z => by unfold topT; rw [if_pos z]) htop1 h1 (fun z => by omega) (fun _ _ => y1) (fun _ z _ => absurd z hr) (fun _ z _ => absurd z hr), y2⟩
theorem c_Mo_lowestGates {d : Nat} {m : Mm} {n : Nat} {N : Nat → Nat} (hn : 1 ≤ n ∧ n ≤ 4) (hN : ∀ c : Nat, c < 25 → N c < 2 ^ 25) (hm : ∀ c : Nat, c < 25 → rmB c = true → m 415 (c : Nat) = (N c : Nat)) : ∃ m', Cl (d + 2) k_Mo_lowestGates [(18, 400), (0, (n : Nat))] m (some (0, lcv N n 25 0), m') ∧ ∀ a b, a ≠ 416 → m' a b = m a b := by
  obtain ⟨j, rfl⟩ : ∃ j, n = j + 1 := ⟨n - 1, by omega⟩
  have hl : lcv N (j + 1) 25 0 = lpF (fun c => lcv N j c (trN N (fun _ => 0) 0 ||| N c)) 25 0 := rfl
  obtain ⟨m', g1, g2⟩ := low_7 (d := d) (m := m) (n := j + 1) (N := N) (R := lcv N (j + 1) 25 0) hn hN hm j 0 (fun _ => 0) (by omega) (fun i hi => by omega) 25 0 (up m 416 0 (-1)) (9, 0) (9, 0) (9, 0) (9, 0) rfl (up_eq (k := 0)) (fun i hi => by omega) (fun a b hab => up_ne hab) (fun hno M' v3 v4 v5 v6 z1 z2 => ⟨M', b_Mo_lowestGates_7 ⟨fun _ => by rw [hl, hno], fun z => absurd (by omega) z⟩, z2⟩) (fun hyes => by
    rw [← hl] at hyes ⊢
    rcases lcv_v (N := N) (j + 1) 25 0 (by omega) with q | ⟨s, q1, q2, q3⟩
    · exact absurd q hyes
    · rw [q1, Int.toNat_natCast]
      show ((s : Nat) : Int) = ((0 ||| s : Nat) : Int)
      rw [Nat.zero_or])
  refine ⟨m', cl_Mo_lowestGates (b_Mo_lowestGates ?_), g2⟩
  rintro m1 rfl
  exact g1
theorem op_gates {m : Mm} {x y : Int} (h : R m) : OP k_Th_gates k_Mo_gates 0 [(0, x), (0, y)] m := by
  obtain ⟨_, v8, v9, _⟩ := R_h h
  by_cases hx : 0 ≤ x ∧ x < 25
  · obtain ⟨n, rfl⟩ := Int.eq_ofNat_of_zero_le hx.1
    obtain ⟨m1, q1, q2, q3⟩ := c_Th_mazeNow (d := 117) h
    obtain ⟨m2, p1, p2⟩ := c_Mz_fewestGates (d := 113) (n := n) q2 (by omega)
    have e401 : m2 401 = m 401 := by funext b; rw [p2 _ _ (by omega), q3 _ _ (by omega)]
    obtain ⟨m3, r1, r2, r3⟩ := c_Mo_layReach (d := 115) (m := m2) (n := n) (by rw [e401]; exact v8) (by rw [e401]; exact v9) (by omega)
    rw [HM_row e401] at r2
    have hN : ∀ c : Nat, c < 25 → wth (HM m 401) AL (2 ^ c) n < 2 ^ 25 := fun c hc => wth_lt (p25 hc).1 n
    have lp : ∀ (t k : Nat) (M : Mm) (u : Vv), k + t = 5 → 1 ≤ k → (∀ c : Nat, c < 25 → rmB c = true → M 415 (c : Nat) = (wth (HM m 401) AL (2 ^ c) n : Nat)) → (∀ a b, a ≠ 416 → M a b = m3 a b) → ∃ m', Ev 120 K_Mo_gates 0 12 [(18, 400), (0, (n : Nat)), (0, y), (0, (k : Nat)), u] [] M (some (0, if y = 0 then fgs (fun c => wth (HM m 401) AL (2 ^ c) n) t k else fgn (fun c => wth (HM m 401) AL (2 ^ c) n) t k), m') ∧ ∀ a b, a ≠ 416 → m' a b = m3 a b := by
      intro t
      induction t with
      | zero =>
        intro k M u hk h1 hM hF
        obtain rfl : k = 5 := by omega
        refine ⟨M, b_Mo_gates_12 ⟨fun _ => ?_, fun z => absurd (by omega) z⟩, hF⟩
        unfold fgs fgn
        rw [ite_self]
      | succ t ih =>
        intro k M u hk h1 hM hF
        obtain ⟨M', s1, s2⟩ := c_Mo_lowestGates (d := 117) (m := M) (n := k) (N := fun c => wth (HM m 401) AL (2 ^ c) n) (by omega) hN hM
        by_cases hl : lcv (fun c => wth (HM m 401) AL (2 ^ c) n) k 25 0 = -1
        · obtain ⟨m', g1, g2⟩ := ih (k + 1) M' (0, lcv (fun c => wth (HM m 401) AL (2 ^ c) n) k 25 0) (by omega) (by omega) (fun c hc hr => by rw [s2 _ _ (by omega)]; exact hM c hc hr) (fun a b hab => by rw [s2 a b hab]; exact hF a b hab)
          refine ⟨m', b_Mo_gates_12 ⟨fun z => by omega, fun _ => ⟨_, _, s1, fun _ => ?_, fun z => absurd hl z⟩⟩, g2⟩
          unfold fgs fgn
          rw [if_pos hl, if_pos hl, w32s (by omega)]
          exact g1
        · refine ⟨M', b_Mo_gates_12 ⟨fun z => by omega, fun _ => ⟨_, _, s1, fun z => absurd z hl, fun _ => ⟨fun z => ?_, fun z => ?_⟩⟩⟩, fun a b hab => by rw [s2 a b hab]; exact hF a b hab⟩
          · unfold fgs fgn
            rw [if_pos z, if_neg hl]
          · unfold fgs fgn
            rw [if_neg z, if_neg hl]
    obtain ⟨m4, g1, g2⟩ := lp 4 1 m3 (9, 0) rfl (by omega) r2 (fun _ _ _ => rfl)
    refine OP_q h (cl_Th_gates (b_Th_gates ⟨fun z => by omega, fun _ => ⟨fun _ => ⟨_, q1, _, _, p1, ?_⟩, fun z => by omega⟩⟩)) (cl_Mo_gates (b_Mo_gates ⟨_, _, c_Mo_isIn, fun _ => ⟨_, r1, g1⟩, fun z => ?_⟩)) (fun a b hab => by unfold scr at hab; rw [p2 _ _ (by omega), q3 _ _ (by omega)]) (fun a b hab => by unfold scr at hab; rw [g2 _ _ (by omega), r3 _ _ (by omega) (by omega)])
    · rcases fg_v (N := fun c => wth (HM m 401) AL (2 ^ c) n) 4 1 with ⟨w1, w2⟩ | ⟨s, w1, w2, w3⟩
      · rw [w1, w2]
        refine ⟨fun _ => ?_, fun z => absurd rfl z⟩
        rw [ite_self]
      · rw [w1, w3]
        refine ⟨fun z => by omega, fun _ => ⟨fun z => ⟨_, _, c_In_bitCount (by omega), ?_⟩, fun z => ?_⟩⟩
        · rw [if_neg z, Int.toNat_natCast]
        · rw [Classical.not_not] at z
          rw [if_pos z]
    · rw [ite_z1] at z
      exact absurd (by omega) z
  · refine OP_e h (v := -1) (cl_Th_gates (b_Th_gates ⟨fun _ => rfl, fun z => ⟨fun z2 => by omega, fun _ => rfl⟩⟩)) (cl_Mo_gates (b_Mo_gates ⟨_, _, c_Mo_isIn, fun z => ?_, fun _ => rfl⟩))
    rw [ite_z1] at z
    exact absurd (by omega) hx
