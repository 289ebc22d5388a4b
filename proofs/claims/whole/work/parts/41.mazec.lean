/-! THE CLASS'S MAZE -/
def teS (H : Int → Bool) : Nat := bs_ (fun c => opn H ((c : Nat) : Int) 1) 25
def tsS (H : Int → Bool) : Nat := bs_ (fun c => opn H ((c : Nat) : Int) 2) 20
/-- the maze is laid out for these hedges -/
def MZ (m : Mm) (H : Int → Bool) : Prop := m 13 0 = (teS H : Nat) ∧ m 13 1 = (tsS H : Nat)
theorem ian_comm {a b : Int} : ian a b = ian b a := by
  unfold ian
  rw [Int32.and_comm]
theorem te_step {H : Int → Bool} {e k : Nat} (hk : k < 5) (he : ∀ i : Nat, i < 20 → H ((i : Nat) : Int) = e.testBit i) : bs_ (fun c => opn H ((c : Nat) : Int) 1) (5 * k) ||| ndf 15 (e / 2 ^ (4 * k)) * 2 ^ (5 * k) = bs_ (fun c => opn H ((c : Nat) : Int) 1) (5 * (k + 1)) := by
  refine bits_eq fun i => ?_
  rw [Nat.testBit_or, Nat.testBit_mul_two_pow, ndf_bit, bst_bit, bst_bit, show (15 : Nat) = 2 ^ 4 - 1 from rfl, Nat.testBit_two_pow_sub_one, Nat.testBit_div_two_pow]
  by_cases h1 : i < 5 * k
  · have h2 : i < 5 * (k + 1) := by omega
    have h3 : ¬ 5 * k ≤ i := by omega
    simp [h1, h2, h3]
  · by_cases h2 : i < 5 * (k + 1)
    · have h3 : 5 * k ≤ i := by omega
      have hb : bey ((i : Nat) : Int) 1 = if ((i : Nat) : Int) % 5 < 4 then ((i : Nat) : Int) + 1 else -1 := by
        unfold bey
        rw [if_neg (by omega), if_pos rfl]
      have hh : hby ((i : Nat) : Int) 1 = if ((i : Nat) : Int) % 5 < 4 then ((i : Nat) : Int) / 5 * 4 + ((i : Nat) : Int) % 5 else -1 := by
        unfold hby
        rw [if_neg (by omega), if_pos rfl]
      by_cases h4 : i - 5 * k < 4
      · have e1 : opn H ((i : Nat) : Int) 1 = !(e.testBit (i - 5 * k + 4 * k)) := by
          unfold opn
          rw [hb, hh, if_pos (by omega), if_pos (by omega), decide_eq_true (by omega), Bool.true_and, show ((i : Nat) : Int) / 5 * 4 + ((i : Nat) : Int) % 5 = ((i - 5 * k + 4 * k : Nat) : Int) by omega, he _ (by omega)]
        simp [h1, h2, h3, h4, e1]
      · have e1 : opn H ((i : Nat) : Int) 1 = false := by
          unfold opn
          rw [hb, if_neg (by omega)]
          rfl
        simp [h1, h2, h3, h4, e1]
    · have h3 : ¬ i - 5 * k < 4 := by omega
      simp [h1, h2, h3]
theorem ts_eq {H : Int → Bool} {s : Nat} (hs : ∀ i : Nat, i < 20 → H ((20 + i : Nat) : Int) = s.testBit i) : ndf 1048575 s = tsS H := by
  refine bits_eq fun i => ?_
  unfold tsS
  rw [ndf_bit, bst_bit, show (1048575 : Nat) = 2 ^ 20 - 1 from rfl, Nat.testBit_two_pow_sub_one]
  by_cases h1 : i < 20
  · have e1 : opn H ((i : Nat) : Int) 2 = !(s.testBit i) := by
      unfold opn bey hby
      rw [if_neg (by omega), if_neg (by omega), if_pos rfl, if_pos (by omega), if_neg (by omega), if_neg (by omega), if_pos rfl, if_pos (by omega), decide_eq_true (by omega), Bool.true_and, show (20 : Int) + ((i : Nat) : Int) = ((20 + i : Nat) : Int) by omega, hs i h1]
    rw [e1]
  · simp [h1]
theorem c_Mz_layOut {d : Nat} {m : Mm} {X : Nat} {H : Int → Bool} (hX : X < 2 ^ 40) (hH : ∀ i : Nat, i < 40 → H ((i : Nat) : Int) = X.testBit i) : ∃ m', Cl (d + 1) k_Mz_layOut [(14, 13), (1, (X : Nat))] m (none, m') ∧ MZ m' H ∧ (∀ a b, a ≠ 13 → m' a b = m a b) := by
  have he : ∀ i : Nat, i < 20 → H ((i : Nat) : Int) = (X % 2 ^ 20).testBit i := fun i hi => by
    rw [hH i (by omega), Nat.testBit_mod_two_pow, decide_eq_true hi, Bool.true_and]
  have hs : ∀ i : Nat, i < 20 → H ((20 + i : Nat) : Int) = (X / 2 ^ 20).testBit i := fun i hi => by
    rw [hH (20 + i) (by omega), Nat.testBit_div_two_pow, Nat.add_comm]
  have hel : X % 2 ^ 20 < 1048576 := by omega
  have hsl : X / 2 ^ 20 < 1048576 := by omega
  obtain ⟨e, hee⟩ : ∃ e, e = X % 2 ^ 20 := ⟨_, rfl⟩
  rw [← hee] at he hel
  have key : ∀ (t k : Nat) (M : Mm), k + t = 5 → M 13 0 = (bs_ (fun c => opn H ((c : Nat) : Int) 1) (5 * k) : Nat) → (∀ a b, a ≠ 13 → M a b = m a b) → ∃ m', Ev (d + 1) K_Mz_layOut 3 8 [(14, 13), (1, (X : Nat)), (9, 0), (0, (e : Nat)), (0, (k : Nat))] [] M (none, m') ∧ MZ m' H ∧ (∀ a b, a ≠ 13 → m' a b = m a b) := by
    intro t
    induction t with
    | zero =>
      intro k M hk h1 h2
      obtain rfl : k = 5 := by omega
      refine ⟨up M 13 1 (tsS H : Nat), b_Mz_layOut_8 ⟨fun _ => ⟨_, _, c_Ha_southOf hX, ?_⟩, fun z => absurd (by omega) z⟩, ⟨?_, ?_⟩, fun a b hab => by rw [up_ne hab]; exact h2 a b hab⟩
      · rintro m2 rfl
        have e1 : ian (ixo ((X / 2 ^ 20 : Nat) : Int) (-1)) 1048575 = ((ndf 1048575 (X / 2 ^ 20) : Nat) : Int) := by
          rw [ian_comm]
          exact ian_not (a := 1048575) (by omega) (by omega)
        rw [e1, ts_eq hs]
      · rw [up_nk (by omega), h1]
        rfl
      · rw [up_eq]
    | succ t ih =>
      intro k M hk h1 h2
      have e0 : isr (e : Int) (w32 ((k : Int) * 4)) = ((e / 2 ^ (4 * k) : Nat) : Int) := by
        rw [w32n (by omega) (by omega), show (k : Int) * 4 = ((4 * k : Nat) : Int) by omega]
        exact isr_nat (by omega) (by omega)
      have hq : e / 2 ^ (4 * k) ≤ e := Nat.div_le_self _ _
      have e1 : ian (ixo ((e / 2 ^ (4 * k) : Nat) : Int) (-1)) 15 = ((ndf 15 (e / 2 ^ (4 * k)) : Nat) : Int) := by
        rw [ian_comm]
        exact ian_not (a := 15) (by omega) (by omega)
      have hn : ndf 15 (e / 2 ^ (4 * k)) < 2 ^ 4 := ndf_lt (by omega)
      have hp := p2le (k := 5 * k) (n := 20) (by omega)
      have hm : ndf 15 (e / 2 ^ (4 * k)) * 2 ^ (5 * k) ≤ 15 * 1048576 := Nat.mul_le_mul (by omega) (by omega)
      have e2 : isl ((ndf 15 (e / 2 ^ (4 * k)) : Nat) : Int) (w32 ((k : Int) * 5)) = ((ndf 15 (e / 2 ^ (4 * k)) * 2 ^ (5 * k) : Nat) : Int) := by
        rw [w32n (by omega) (by omega), show (k : Int) * 5 = ((5 * k : Nat) : Int) by omega]
        exact isl_nat (by omega) (by omega)
      have hb := bst_31 (p := fun c => opn H ((c : Nat) : Int) 1) (k := 5 * k) (by omega)
      obtain ⟨m', q1, q2⟩ := ih (k + 1) (up M 13 0 (bs_ (fun c => opn H ((c : Nat) : Int) 1) (5 * (k + 1)) : Nat)) (by omega) (by rw [up_eq]) (fun a b hab => by rw [up_ne hab]; exact h2 a b hab)
      refine ⟨m', b_Mz_layOut_8 ⟨fun z => by omega, fun _ => ?_⟩, q2⟩
      rintro m3 rfl
      rw [e0, e1, e2, h1, iro_nat (by omega) (by omega), te_step (by omega) he, w32s (by omega)]
      exact q1
  obtain ⟨m', q1, q2, q3⟩ := key 5 0 (up m 13 0 0) rfl (by rw [up_eq]; rfl) (fun a b hab => up_ne hab)
  refine ⟨m', cl_Mz_layOut (b_Mz_layOut ⟨_, _, c_Ha_eastOf hX, ?_⟩), q2, q3⟩
  rintro m2 rfl
  rw [← hee]
  exact q1
theorem mul_two_32 {x k b : Nat} (h : x < 2 ^ b) (hb : b + k ≤ 31) : x * 2 ^ k < 2147483648 := by
  have h1 : x * 2 ^ k < 2 ^ b * 2 ^ k := Nat.mul_lt_mul_of_pos_right h (Nat.two_pow_pos k)
  rw [← Nat.pow_add] at h1
  have := p2le hb
  omega
theorem grown_bits {H : Int → Bool} {s : Nat} (hs : s < 2 ^ 25) : s ||| (s &&& teS H) * 2 ^ 1 ||| (s / 2 ^ 1 &&& teS H) ||| (s &&& tsS H) * 2 ^ 5 ||| (s / 2 ^ 5 &&& tsS H) = grw H s := by
  have ht : ∀ i, (teS H).testBit i = true ↔ opn H ((i : Nat) : Int) 1 = true ∧ i < 25 := fun i => by
    unfold teS
    rw [bst_bit, Bool.and_eq_true, decide_eq_true_eq, and_comm]
  have hu : ∀ i, (tsS H).testBit i = true ↔ opn H ((i : Nat) : Int) 2 = true ∧ i < 20 := fun i => by
    unfold tsS
    rw [bst_bit, Bool.and_eq_true, decide_eq_true_eq, and_comm]
  refine sub_eq (fun i hi => ?_) (fun i hi => ?_)
  · rw [grw_mem]
    simp only [or_mem, and_mem, Nat.testBit_mul_two_pow, Nat.testBit_div_two_pow, Bool.and_eq_true, decide_eq_true_eq, ht, hu] at hi
    rcases hi with (((q | q) | q) | q) | q
    · exact ⟨bit_lt hs q, Or.inl q⟩
    · have hn : nbr H (i - 1) i := Or.inl ⟨by omega, q.2.2.1⟩
      exact ⟨nbr_lt hn (by omega), Or.inr ⟨i - 1, q.2.1, hn⟩⟩
    · exact ⟨by omega, Or.inr ⟨i + 1, q.1, Or.inr (Or.inl ⟨rfl, q.2.1⟩)⟩⟩
    · have hn : nbr H (i - 5) i := Or.inr (Or.inr (Or.inl ⟨by omega, q.2.2.1⟩))
      exact ⟨nbr_lt hn (by omega), Or.inr ⟨i - 5, q.2.1, hn⟩⟩
    · exact ⟨by omega, Or.inr ⟨i + 5, q.1, Or.inr (Or.inr (Or.inr ⟨rfl, q.2.1⟩))⟩⟩
  · rw [grw_mem] at hi
    simp only [or_mem, and_mem, Nat.testBit_mul_two_pow, Nat.testBit_div_two_pow, Bool.and_eq_true, decide_eq_true_eq, ht, hu]
    obtain ⟨h0, q | ⟨c, q1, q2⟩⟩ := hi
    · exact Or.inl (Or.inl (Or.inl (Or.inl q)))
    · have hc := bit_lt hs q1
      rcases q2 with q | q | q | q
      · obtain ⟨rfl, q⟩ := q
        refine Or.inl (Or.inl (Or.inl (Or.inr ⟨by omega, ?_⟩)))
        rw [Nat.add_sub_cancel]
        exact ⟨q1, q, hc⟩
      · obtain ⟨rfl, q⟩ := q
        exact Or.inl (Or.inl (Or.inr ⟨q1, q, h0⟩))
      · obtain ⟨rfl, q⟩ := q
        refine Or.inl (Or.inr ⟨by omega, ?_⟩)
        rw [Nat.add_sub_cancel]
        exact ⟨q1, q, opn_2 q⟩
      · obtain ⟨rfl, q⟩ := q
        exact Or.inr ⟨q1, q, opn_2 q⟩
theorem c_Mz_grown {d : Nat} {m : Mm} {H : Int → Bool} {s : Nat} (hM : MZ m H) (hs : s < 2 ^ 25) : Cl d k_Mz_grown [(14, 13), (0, (s : Nat))] m (some (0, (grw H s : Nat)), m) := by
  have ht : teS H < 2 ^ 25 := bst_lt _ 25
  have hu : tsS H < 2 ^ 20 := bst_lt _ 20
  have a1 : s &&& teS H < 2 ^ 25 := Nat.lt_of_le_of_lt Nat.and_le_left hs
  have a2 : s &&& tsS H < 2 ^ 20 := Nat.lt_of_le_of_lt Nat.and_le_right hu
  have d1 : s / 2 ^ 1 < 2 ^ 25 := Nat.lt_of_le_of_lt (Nat.div_le_self _ _) hs
  have d2 : s / 2 ^ 5 < 2 ^ 25 := Nat.lt_of_le_of_lt (Nat.div_le_self _ _) hs
  have a3 : s / 2 ^ 1 &&& teS H < 2 ^ 25 := Nat.lt_of_le_of_lt Nat.and_le_left d1
  have a4 : s / 2 ^ 5 &&& tsS H < 2 ^ 25 := Nat.lt_of_le_of_lt Nat.and_le_left d2
  have m1 : (s &&& teS H) * 2 ^ 1 < 2147483648 := mul_two_32 a1 (by omega)
  have m2 : (s &&& tsS H) * 2 ^ 5 < 2147483648 := mul_two_32 a2 (by omega)
  refine cl_Mz_grown (b_Mz_grown ?_)
  have e1 : isr ((s : Nat) : Int) 1 = ((s / 2 ^ 1 : Nat) : Int) := isr_nat (a := s) (k := 1) (by omega) (by omega)
  have e2 : isr ((s : Nat) : Int) 5 = ((s / 2 ^ 5 : Nat) : Int) := isr_nat (a := s) (k := 5) (by omega) (by omega)
  have e3 : isl ((s &&& teS H : Nat) : Int) 1 = (((s &&& teS H) * 2 ^ 1 : Nat) : Int) := isl_nat (k := 1) (by omega) m1
  have e4 : isl ((s &&& tsS H : Nat) : Int) 5 = (((s &&& tsS H) * 2 ^ 5 : Nat) : Int) := isl_nat (k := 5) (by omega) m2
  rw [hM.1, hM.2, e1, e2, ian_nat (a := s) (b := teS H) (by omega) (by omega), ian_nat (a := s) (b := tsS H) (by omega) (by omega), ian_nat (a := s / 2 ^ 1) (by omega) (by omega), ian_nat (a := s / 2 ^ 5) (by omega) (by omega), e3, e4]
  have o1 := or_lt (k := 31) (show s < 2 ^ 31 by omega) (show (s &&& teS H) * 2 ^ 1 < 2 ^ 31 by omega)
  have o2 := or_lt (k := 31) o1 (show s / 2 ^ 1 &&& teS H < 2 ^ 31 by omega)
  have o3 := or_lt (k := 31) o2 (show (s &&& tsS H) * 2 ^ 5 < 2 ^ 31 by omega)
  rw [iro_nat (a := s) (by omega) m1, iro_nat (a := s ||| (s &&& teS H) * 2 ^ 1) o1 (by omega), iro_nat (a := s ||| (s &&& teS H) * 2 ^ 1 ||| (s / 2 ^ 1 &&& teS H)) o2 m2, iro_nat (a := s ||| (s &&& teS H) * 2 ^ 1 ||| (s / 2 ^ 1 &&& teS H) ||| (s &&& tsS H) * 2 ^ 5) o3 (by omega), grown_bits hs]
theorem wth_z {H : Int → Bool} {A : Nat} : ∀ k, wth H A 0 k = 0 := by
  intro k
  induction k with
  | zero => rfl
  | succ k ih =>
    rw [wth_s, ih]
    refine sub_eq (fun i hi => ?_) (fun i hi => by rw [Nat.zero_testBit] at hi; cases hi)
    obtain ⟨q1, _⟩ := and_mem.mp hi
    obtain ⟨_, q | ⟨c, q, _⟩⟩ := grw_mem.mp q1
    · exact q
    · rw [Nat.zero_testBit] at q; cases q
theorem sub_AL {s : Nat} (hs : s < 2 ^ 25) : sub_ s AL := fun i hi => by
  rw [AL_bit, decide_eq_true_eq]
  exact bit_lt hs hi
theorem wth_25 {H : Int → Bool} {s k : Nat} (hs : s < 2 ^ 25) (hk : 25 ≤ k) : wth H AL s k = wth H AL s 25 := by
  by_cases h0 : s = 0
  · rw [h0, wth_z, wth_z]
  · have e1 := wth_ge (H := H) hs (sub_AL hs) h0 (k - 24)
    have e2 := wth_ge (H := H) hs (sub_AL hs) h0 1
    rw [show 24 + (k - 24) = k by omega] at e1
    rw [e1, e2]
theorem c_Mz_within {d : Nat} {m : Mm} {H : Int → Bool} {s n : Nat} (hM : MZ m H) (hs : s < 2 ^ 25) (hn : n < 1000) : Cl (d + 1) k_Mz_within [(14, 13), (0, (s : Nat)), (0, (n : Nat))] m (some (0, (wth H AL s n : Nat)), m) := by
  refine cl_Mz_within (b_Mz_within ?_)
  have key : ∀ (t k : Nat), k + t = 25 → k ≤ n → Ev (d + 1) K_Mz_within 0 4 [(14, 13), (0, (s : Nat)), (0, (n : Nat)), (0, (wth H AL s k : Nat)), (0, (k : Nat))] [] m (some (0, (wth H AL s n : Nat)), m) := by
    intro t
    induction t with
    | zero =>
      intro k hk hkn
      obtain rfl : k = 25 := by omega
      have e := wth_25 (H := H) hs hkn
      exact b_Mz_within_4 ⟨fun _ => by rw [e], fun _ => ⟨fun _ => by rw [e], fun z => absurd (by omega) z⟩⟩
    | succ t ih =>
      intro k hk hkn
      refine b_Mz_within_4 ⟨fun z => ?_, fun z => ⟨fun z2 => by omega, fun _ => ⟨_, _, c_Mz_grown hM (wth_lt hs k), ?_⟩⟩⟩
      · obtain rfl : k = n := by omega
        rfl
      · rw [w32s (by omega), ← wth_AL]
        exact ih (k + 1) (by omega) (by omega)
  exact key 25 0 rfl (by omega)
theorem wth_fix {H : Int → Bool} {A s k : Nat} (hk : wth H A s (k + 1) = wth H A s k) : ∀ j, wth H A s (k + j) = wth H A s k := by
  intro j
  induction j with
  | zero => rfl
  | succ j ih => rw [← Nat.add_assoc, wth_s, ih, ← wth_s, hk]
theorem c_Mz_flooded {d : Nat} {m : Mm} {H : Int → Bool} {s A : Nat} (hM : MZ m H) (hs : s < 2 ^ 25) (hA : A < 2 ^ 25) : Cl (d + 1) k_Mz_flooded [(14, 13), (0, (s : Nat)), (0, (A : Nat))] m (some (0, (cls H A s : Nat)), m) := by
  refine cl_Mz_flooded (b_Mz_flooded ?_)
  have key : ∀ (t k : Nat) (u : Vv), k + t = 25 → Ev (d + 1) K_Mz_flooded 0 4 [(14, 13), (0, (s : Nat)), (0, (A : Nat)), (0, (wth H A s k : Nat)), (0, (k : Nat)), u] [] m (some (0, (cls H A s : Nat)), m) := by
    intro t
    induction t with
    | zero =>
      intro k u hk
      obtain rfl : k = 25 := by omega
      exact b_Mz_flooded_4 ⟨fun _ => rfl, fun z => absurd (by omega) z⟩
    | succ t ih =>
      intro k u hk
      have hg := grw_lt (H := H) (s := wth H A s k)
      refine b_Mz_flooded_4 ⟨fun z => by omega, fun _ => ⟨_, _, c_Mz_grown hM (wth_lt hs k), ?_⟩⟩
      rw [ian_nat (by omega) (by omega), ← wth_s]
      refine ⟨fun z => ?_, fun z => ?_⟩
      · rw [w32s (by omega)]
        exact ih (k + 1) _ (by omega)
      · have e := wth_fix (H := H) (A := A) (s := s) (k := k) (by omega) (25 - k)
        rw [show k + (25 - k) = 25 by omega] at e
        rw [← e]
  exact key 25 0 _ rfl
/-- the region of a cell -/
abbrev rgn (H : Int → Bool) (c : Nat) : Nat := cls H AL (2 ^ c)
theorem c_Mz_regionOf {d : Nat} {m : Mm} {H : Int → Bool} {c : Nat} (hM : MZ m H) (hc : c < 25) : Cl (d + 2) k_Mz_regionOf [(14, 13), (0, (c : Nat))] m (some (0, (rgn H c : Nat)), m) := by
  refine cl_Mz_regionOf (b_Mz_regionOf ?_)
  rw [isl1 (by omega)]
  exact ⟨_, _, c_Mz_flooded (A := AL) hM (p25 hc).1 (by decide), rfl⟩
/-- the lowest cell of a set -/
def lo_ (s : Nat) : Nat → Nat → Nat
  | 0, c => c
  | t + 1, c => if s.testBit c = true then c else lo_ s t (c + 1)
theorem lo_v (s : Nat) : ∀ t c, (∃ i, c ≤ i ∧ i < c + t ∧ s.testBit i = true) → s.testBit (lo_ s t c) = true ∧ c ≤ lo_ s t c ∧ lo_ s t c < c + t ∧ ∀ i, c ≤ i → i < lo_ s t c → ¬ s.testBit i = true := by
  intro t
  induction t with
  | zero => rintro c ⟨i, h1, h2, _⟩; omega
  | succ t ih =>
    rintro c ⟨i, h1, h2, h3⟩
    unfold lo_
    by_cases hb : s.testBit c = true
    · rw [if_pos hb]
      exact ⟨hb, by omega, by omega, fun i q1 q2 => by omega⟩
    · rw [if_neg hb]
      have hic : i ≠ c := fun z => hb (by rw [← z]; exact h3)
      obtain ⟨q1, q2, q3, q4⟩ := ih (c + 1) ⟨i, by omega, by omega, h3⟩
      refine ⟨q1, by omega, by omega, fun j z1 z2 => ?_⟩
      by_cases hjc : j = c
      · subst hjc; exact hb
      · exact q4 j (by omega) z2
abbrev low (s : Nat) : Nat := lo_ s 25 0
theorem low_v {s : Nat} (hs : s < 2 ^ 25) (h0 : s ≠ 0) : s.testBit (low s) = true ∧ low s < 25 ∧ ∀ i, i < low s → ¬ s.testBit i = true := by
  have : ∃ i, s.testBit i = true := Nat.exists_testBit_of_ne_zero h0
  obtain ⟨i, hi⟩ := this
  obtain ⟨q1, q2, q3, q4⟩ := lo_v s 25 0 ⟨i, by omega, by have := bit_lt hs hi; omega, hi⟩
  exact ⟨q1, by omega, fun j hj => q4 j (by omega) hj⟩
/-- s & -s -/
theorem neg_bit {s : Nat} (hs : s < 2 ^ 25) (h0 : s ≠ 0) : ian (s : Nat) (w32 (-((s : Nat) : Int))) = ((2 ^ low s : Nat) : Int) := by
  obtain ⟨h1, h2, h3⟩ := low_v hs h0
  have hp := p2le (k := low s) (n := 24) (by omega)
  have hneg : w32 (-((s : Nat) : Int)) = ixo ((s - 1 : Nat) : Int) (-1) := by
    unfold w32 ixo
    congr 1
    apply Int32.toBitVec_inj.mp
    rw [Int32.toBitVec_xor]
    show BitVec.ofInt 32 (-((s : Nat) : Int)) = (BitVec.ofInt 32 ((s - 1 : Nat) : Int)) ^^^ (BitVec.allOnes 32)
    rw [BitVec.ofInt_neg, BitVec.xor_allOnes]
    have e1 : BitVec.ofInt 32 ((s : Nat) : Int) = BitVec.ofNat 32 s := rfl
    have e2 : BitVec.ofInt 32 ((s - 1 : Nat) : Int) = BitVec.ofNat 32 (s - 1) := rfl
    rw [e1, e2]
    apply BitVec.eq_of_toNat_eq
    rw [BitVec.toNat_neg, BitVec.toNat_not, BitVec.toNat_ofNat, BitVec.toNat_ofNat]
    omega
  rw [hneg, ian_not (by omega) (by omega)]
  congr 1
  refine sub_eq (fun i hi => ?_) (fun i hi => ?_)
  · obtain ⟨q1, q2⟩ := ndf_mem.mp hi
    rw [pow_mem]
    apply Classical.byContradiction
    intro z
    rcases Nat.lt_or_ge i (low s) with q | q
    · exact h3 i q q1
    · apply q2
      have hlow : s % 2 ^ i ≠ 0 := by
        intro z2
        have := Nat.testBit_mod_two_pow s i (low s)
        rw [z2, Nat.zero_testBit, decide_eq_true (by omega), Bool.true_and, h1] at this
        cases this
      have hd : (s - 1) / 2 ^ i = s / 2 ^ i := by
        have e1 := Nat.div_add_mod s (2 ^ i)
        have hpi := Nat.two_pow_pos i
        have hml := Nat.mod_lt s hpi
        have e2 : s - 1 = 2 ^ i * (s / 2 ^ i) + (s % 2 ^ i - 1) := by omega
        rw [e2, Nat.mul_add_div hpi, Nat.div_eq_of_lt (a := s % 2 ^ i - 1) (b := 2 ^ i) (by omega), Nat.add_zero]
      have t1 := Nat.testBit_div_two_pow (n := i) (s - 1) 0
      have t2 := Nat.testBit_div_two_pow (n := i) s 0
      rw [Nat.zero_add] at t1 t2
      rw [← t1, hd, t2]
      exact q1
  · rw [pow_mem] at hi
    subst hi
    refine ndf_mem.mpr ⟨h1, fun z => ?_⟩
    have hm : s % 2 ^ low s = 0 := by
      refine bits_eq fun i => ?_
      rw [Nat.testBit_mod_two_pow, Nat.zero_testBit]
      by_cases hi : i < low s
      · have := h3 i hi
        rw [Bool.not_eq_true] at this
        rw [this, Bool.and_false]
      · rw [decide_eq_false hi, Bool.false_and]
    have hd2 : s / 2 ^ low s % 2 = 1 := by
      have := Nat.testBit_div_two_pow (n := low s) s 0
      rw [Nat.zero_add, h1, Nat.testBit_zero, decide_eq_true_eq] at this
      exact this
    have e1 := Nat.div_add_mod s (2 ^ low s)
    have hpi := Nat.two_pow_pos (low s)
    have hq : 1 ≤ s / 2 ^ low s := by
      generalize s / 2 ^ low s = q at hd2 ⊢
      omega
    have e2 : s - 1 = 2 ^ low s * (s / 2 ^ low s - 1) + (2 ^ low s - 1) := by
      have : 2 ^ low s * (s / 2 ^ low s) = 2 ^ low s * (s / 2 ^ low s - 1) + 2 ^ low s := by
        rw [← Nat.mul_succ]
        congr 1
        omega
      omega
    have e3 : (s - 1) / 2 ^ low s = s / 2 ^ low s - 1 := by
      rw [e2, Nat.mul_add_div hpi, Nat.div_eq_of_lt (a := 2 ^ low s - 1) (b := 2 ^ low s) (by omega), Nat.add_zero]
    have t1 := Nat.testBit_div_two_pow (n := low s) (s - 1) 0
    rw [Nat.zero_add, z, e3, Nat.testBit_zero, decide_eq_true_eq] at t1
    omega
theorem pc_ones : ∀ k, k < 25 → pc_ 32 (2 ^ k - 1) = k := by decide +kernel
theorem c_Mz_lowest {d : Nat} {m : Mm} {s : Nat} (hs : s < 2 ^ 25) (h0 : s ≠ 0) : Cl (d + 1) k_Mz_lowest [(0, (s : Nat))] m (some (0, (low s : Nat)), m) := by
  obtain ⟨h1, h2, h3⟩ := low_v hs h0
  have hp := p2le (k := low s) (n := 24) (by omega)
  have hpp := Nat.two_pow_pos (low s)
  refine cl_Mz_lowest (b_Mz_lowest ?_)
  rw [neg_bit hs h0, w32n (by omega) (by omega), show ((2 ^ low s : Nat) : Int) - 1 = ((2 ^ low s - 1 : Nat) : Int) by omega]
  refine ⟨_, _, c_In_bitCount ⟨by omega, by omega⟩, ?_⟩
  rw [Int.toNat_natCast, pc_ones _ h2]
