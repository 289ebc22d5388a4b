/-! WHERE TO LOOK -/
def cntL (p : Nat → Bool) : Nat → Nat
  | 0 => 0
  | k + 1 => cntL p k + (if p k = true then 1 else 0)
theorem cntL_le (p : Nat → Bool) : ∀ k, cntL p k ≤ k := by
  intro k
  induction k with
  | zero => exact Nat.le_refl _
  | succ k ih => unfold cntL; split <;> omega
theorem cntL_mono {p q : Nat → Bool} (h : ∀ i, p i = true → q i = true) : ∀ k, cntL p k ≤ cntL q k := by
  intro k
  induction k with
  | zero => exact Nat.le_refl _
  | succ k ih =>
    unfold cntL
    by_cases hp : p k = true
    · rw [if_pos hp, if_pos (h k hp)]; omega
    · rw [if_neg hp]; omega
def lkE (X err : Nat) (f : Nat → Nat) (i : Nat) : Bool := decide (unl X (f (i / 8)) (i % 8) ≤ err)
def lkB (X err : Nat) (f : Nat → Nat) (h i : Nat) : Bool := lkE X err f i && (pat (f (i / 8)) (i % 8)).testBit h
theorem c_Ha_likePatterns {d : Nat} {m : Mm} {n X err : Nat} {f : Nat → Nat} {h : Int} (hc : HNC m n f) (hn : n ≤ 4) (hX : X < 2 ^ 40) (hh : -1 ≤ h ∧ h < 40) : Cl (d + 1) k_Ha_likePatterns [(11, 1), (0, (n : Nat)), (1, (X : Nat)), (0, (err : Nat)), (0, h)] m (some (0, ((if h = -1 then cntL (lkE X err f) (8 * n) else cntL (lkB X err f h.toNat) (8 * n) : Nat) : Int)), m) := by
  refine cl_Ha_likePatterns (b_Ha_likePatterns ?_)
  obtain ⟨p, hp⟩ : ∃ p : Nat → Bool, p = if h = -1 then lkE X err f else lkB X err f h.toNat := ⟨_, rfl⟩
  have hr : (if h = -1 then cntL (lkE X err f) (8 * n) else cntL (lkB X err f h.toNat) (8 * n) : Nat) = cntL p (8 * n) := by
    rw [hp]
    split <;> rfl
  rw [hr]
  have e8 : w32 ((n : Int) * 8) = ((8 * n : Nat) : Int) := by rw [w32n (by omega) (by omega)]; omega
  have key : ∀ (t k : Nat) (u : Vv), k + t = 8 * n → Ev (d + 1) K_Ha_likePatterns 0 4 [(11, 1), (0, (n : Nat)), (1, (X : Nat)), (9, 0), (0, (err : Nat)), (0, h), (0, (cntL p k : Nat)), (0, (k : Nat)), u] [] m (some (0, (cntL p (8 * n) : Nat)), m) := by
    intro t
    induction t with
    | zero =>
      intro k u hk
      obtain rfl : k = 8 * n := by omega
      exact b_Ha_likePatterns_4 ⟨fun _ => rfl, fun z => absurd (by rw [e8]; omega) z⟩
    | succ t ih =>
      intro k u hk
      have hg := fun u => ih (k + 1) u (by omega)
      have hkl := cntL_le p k
      have hpk := pat_lt (f (k / 8)) (k % 8)
      have hx := xor_lt hpk hX
      have hrow : m 2 (k : Nat) = (pat (f (k / 8)) (k % 8) : Nat) := by
        rw [← hc (k / 8) (k % 8) (by omega) (by omega)]
        congr 1
        omega
      have e := lxo_nat (a := pat (f (k / 8)) (k % 8)) (b := X) (by omega) (by omega)
      refine b_Ha_likePatterns_4 ⟨fun z => by rw [e8] at z; omega, fun _ => ⟨by omega, ?_⟩⟩
      rw [hrow, e]
      refine ⟨_, _, c_Lo_bitCount ⟨by omega, by omega⟩, ?_⟩
      rw [Int.toNat_natCast, w32s (by omega), w32s (by omega)]
      have hE : lkE X err f k = decide (pc_ 64 (pat (f (k / 8)) (k % 8) ^^^ X) ≤ err) := rfl
      refine ⟨fun z => ?_, fun z => ⟨fun z1 => ?_, fun z1 => ⟨by omega, ?_⟩⟩⟩
      · have hf : ¬ p k = true := by
          have : ¬ pc_ 64 (pat (f (k / 8)) (k % 8) ^^^ X) ≤ err := by omega
          rw [hp]
          split
          · rw [hE]; simp [this]
          · unfold lkB
            rw [hE]; simp [this]
        have := hg (0, 0)
        rw [cntL, if_neg hf] at this
        exact this
      · have ht : p k = true := by
          rw [hp, if_pos z1, hE]
          exact decide_eq_true (by omega)
        have := hg (0, 1)
        rw [cntL, if_pos ht] at this
        exact this
      · obtain ⟨j, rfl⟩ := Int.eq_ofNat_of_zero_le (show 0 ≤ h by omega)
        have hpp : p k = (pat (f (k / 8)) (k % 8)).testBit j := by
          rw [hp, if_neg z1]
          unfold lkB
          rw [hE, decide_eq_true (by omega), Bool.true_and]
          rfl
        rw [hrow]
        refine ⟨fun z2 => ?_, fun z2 => ?_⟩
        · rw [lbit hpk (by omega), ← hpp] at z2
          have := hg (0, 1)
          rw [cntL, if_neg z2] at this
          exact this
        · rw [Classical.not_not, lbit hpk (by omega), ← hpp] at z2
          have := hg (0, 1)
          rw [cntL, if_pos z2] at this
          exact this
  exact key (8 * n) 0 _ (by omega)
def prt (c : Nat → Nat) (n : Nat) : Nat → Nat → Int → Int → Int
  | 0, _, b, _ => b
  | t + 1, k, b, l => if ((max (c k) (n - c k) : Nat) : Int) < l then prt c n t (k + 1) k (max (c k) (n - c k) : Nat) else prt c n t (k + 1) b l
theorem c_Ha_partingHedge {d : Nat} {m : Mm} {n X err : Nat} {f : Nat → Nat} (hc : HNC m n f) (hn : n ≤ 4) (hX : X < 2 ^ 40) : Cl (d + 2) k_Ha_partingHedge [(11, 1), (0, (n : Nat)), (1, (X : Nat)), (0, (err : Nat))] m (some (0, if cntL (lkE X err f) (8 * n) < 2 then -1 else prt (fun h => cntL (lkB X err f h) (8 * n)) (cntL (lkE X err f) (8 * n)) 40 0 (-1) ((cntL (lkE X err f) (8 * n) + 1 : Nat) : Int)), m) := by
  obtain ⟨N, hN⟩ : ∃ N, N = cntL (lkE X err f) (8 * n) := ⟨_, rfl⟩
  have hNl := cntL_le (lkE X err f) (8 * n)
  have key : ∀ (t k : Nat) (b l : Int) (u1 u2 : Vv), k + t = 40 → Ev (d + 1 + 1) K_Ha_partingHedge 0 20 [(11, 1), (0, (n : Nat)), (1, (X : Nat)), (9, 0), (0, (err : Nat)), (0, (N : Nat)), (0, b), (0, l), (0, (k : Nat)), u1, u2] [] m (some (0, prt (fun h => cntL (lkB X err f h) (8 * n)) N t k b l), m) := by
    intro t
    induction t with
    | zero =>
      intro k b l u1 u2 hk
      exact b_Ha_partingHedge_20 ⟨fun _ => rfl, fun z => absurd (by omega) z⟩
    | succ t ih =>
      intro k b l u1 u2 hk
      have hle : cntL (lkB X err f k) (8 * n) ≤ N := by
        rw [hN]
        refine cntL_mono (fun i hi => ?_) _
        unfold lkB at hi
        rw [Bool.and_eq_true] at hi
        exact hi.1
      have hcl := c_Ha_likePatterns (d := d) (err := err) (h := (k : Nat)) hc hn hX (by omega)
      rw [if_neg (by omega), Int.toNat_natCast] at hcl
      refine b_Ha_partingHedge_20 ⟨fun z => by omega, fun _ => ⟨_, _, hcl, ?_⟩⟩
      have em : max ((cntL (lkB X err f k) (8 * n) : Nat) : Int) (w32 (((N : Nat) : Int) - ((cntL (lkB X err f k) (8 * n) : Nat) : Int))) = ((max (cntL (lkB X err f k) (8 * n)) (N - cntL (lkB X err f k) (8 * n)) : Nat) : Int) := by
        rw [w32n (by omega) (by omega)]
        omega
      rw [em, w32s (by omega)]
      refine ⟨fun z => ?_, fun z => ?_⟩
      · rw [prt, if_neg (by omega)]
        exact ih (k + 1) b l _ _ (by omega)
      · rw [prt, if_pos (by omega)]
        exact ih (k + 1) k _ _ _ (by omega)
  have hcl := c_Ha_likePatterns (d := d) (err := err) (h := -1) hc hn hX (by omega)
  rw [if_pos rfl, ← hN] at hcl
  rw [← hN]
  refine cl_Ha_partingHedge (b_Ha_partingHedge ⟨_, _, hcl, fun z => ?_, fun z => ?_⟩)
  · rw [if_neg (by omega), w32s (by omega)]
    exact key 40 0 _ _ _ _ rfl
  · rw [if_pos (by omega)]
theorem fil_fil {m : Mm} {o p n : Int} {f g : Int → Int} : fil (fil m o p n f) o p n g = fil m o p n g := by
  funext a b
  unfold fil
  split <;> rfl
theorem TU_row {m m' : Mm} (h : TU m) (e : m' 404 = m 404) : TU m' := by
  intro t k ht hk
  rw [e]
  exact h t k ht hk
theorem HNM_row {m m' : Mm} {n : Nat} {f : Nat → Nat} (h : HNM m 401 n f) (e : m' 401 = m 401) : HNM m' 401 n f := by
  intro j hj
  rw [e]
  exact h j hj
/-- the model's row of counts behind k patterns -/
def lkM (m : Mm) (X err : Nat) (f : Nat → Nat) (k : Nat) : Mm := fil m 417 0 40 (fun j => (cntL (lkB X err f j.toNat) k : Nat))
theorem lkM_row {m : Mm} {X err k : Nat} {f : Nat → Nat} {a : Int} (h : a ≠ 417) : lkM m X err f k a = m a := fil_row_ne h
theorem lkM_v {m : Mm} {X err k j : Nat} {f : Nat → Nat} (h : j < 40) : lkM m X err f k 417 (j : Nat) = (cntL (lkB X err f j) k : Nat) := by
  unfold lkM
  rw [fil_in (by omega), show ((j : Int) - 0).toNat = j by omega]
theorem lkB_le {X err : Nat} {f : Nat → Nat} (k j : Nat) : cntL (lkB X err f j) k ≤ cntL (lkE X err f) k := by
  refine cntL_mono (fun i hi => ?_) _
  unfold lkB at hi
  rw [Bool.and_eq_true] at hi
  exact hi.1
theorem look_95 {M : Mm} {c : Nat → Nat} {N : Nat} {e : Int} (hv : ∀ k : Nat, k < 40 → M 417 (k : Nat) = (c k : Nat)) (hc : ∀ k, c k ≤ N) (hN : N ≤ 32) (h2 : 2 ≤ N) : ∀ (t k : Nat) (b l : Int) (u1 u2 : Vv), k + t = 40 → Ev (119 + 1) K_Mo_look 0 95 [(18, 400), (0, e), (0, (N : Nat)), (0, b), (0, l), (0, (k : Nat)), u1, u2] [] M (some (0, prt c N t k b l), M) := by
  intro t
  induction t with
  | zero =>
    intro k b l u1 u2 hk
    exact b_Mo_look_95 ⟨fun _ => rfl, fun z => absurd (by omega) z⟩
  | succ t ih =>
    intro k b l u1 u2 hk
    have hc1 := hc k
    refine b_Mo_look_95 ⟨fun z => by omega, fun _ => ⟨fun z => by omega, fun _ => ⟨by omega, by omega, ?_⟩⟩⟩
    rw [hv k (by omega), w32n (x := (N : Int) - (c k : Nat)) (by omega) (by omega), w32s (by omega)]
    rw [prt]
    refine ⟨fun z => ⟨by omega, fun z1 => ?_, fun z1 => ?_⟩, fun z => ⟨by omega, fun z1 => ?_, fun z1 => ?_⟩⟩
    · have e1 : ((max (c k) (N - c k) : Nat) : Int) = (N : Int) - (c k : Nat) := by omega
      rw [e1, if_pos z1]
      exact ih (k + 1) _ _ _ _ (by omega)
    · have e1 : ((max (c k) (N - c k) : Nat) : Int) = (N : Int) - (c k : Nat) := by omega
      rw [e1, if_neg z1]
      exact ih (k + 1) _ _ _ _ (by omega)
    · have e1 : ((max (c k) (N - c k) : Nat) : Int) = (c k : Nat) := by omega
      rw [e1, if_pos z1]
      exact ih (k + 1) _ _ _ _ (by omega)
    · have e1 : ((max (c k) (N - c k) : Nat) : Int) = (c k : Nat) := by omega
      rw [e1, if_neg z1]
      exact ih (k + 1) _ _ _ _ (by omega)
def lkR (X err : Nat) (f : Nat → Nat) (n : Nat) : Int := if cntL (lkE X err f) (8 * n) < 2 then -1 else prt (fun h => cntL (lkB X err f h) (8 * n)) (cntL (lkE X err f) (8 * n)) 40 0 (-1) ((cntL (lkE X err f) (8 * n) + 1 : Nat) : Int)
theorem prt_first {c : Nat → Nat} {N : Nat} {l : Int} (h : ((max (c 0) (N - c 0) : Nat) : Int) < l) : prt c N 40 0 (-1) l = prt c N 39 1 ((0 : Nat) : Int) (max (c 0) (N - c 0) : Nat) := by
  show prt c N (39 + 1) 0 (-1) l = _
  rw [prt, if_pos h]
theorem look_end {m : Mm} {X err n : Nat} {f : Nat → Nat} {u1 u2 : Vv} (hn : n ≤ 4) : Ev (119 + 1) K_Mo_look 0 95 [(18, 400), (0, (err : Nat)), (0, (cntL (lkE X err f) (8 * n) : Nat)), (0, -1), (0, 1000000), (0, 0), u1, u2] [] (lkM m X err f (8 * n)) (some (0, lkR X err f n), lkM m X err f (8 * n)) := by
  have hNl := cntL_le (lkE X err f) (8 * n)
  unfold lkR
  by_cases h2 : cntL (lkE X err f) (8 * n) < 2
  · rw [if_pos h2]
    exact b_Mo_look_95 ⟨fun _ => by omega, fun _ => ⟨fun _ => rfl, fun z => by omega⟩⟩
  · rw [if_neg h2]
    have hc1 := lkB_le (X := X) (err := err) (f := f) (8 * n) 0
    rw [prt_first (by omega)]
    have := look_95 (M := lkM m X err f (8 * n)) (c := fun h => cntL (lkB X err f h) (8 * n)) (N := cntL (lkE X err f) (8 * n)) (e := (err : Nat)) (fun k hk => lkM_v hk) (fun k => lkB_le _ _) (by omega) (by omega) 40 0 (-1) 1000000 u1 u2 rfl
    rw [prt_first (by omega)] at this
    exact this
theorem bt_hi {p k : Nat} (h : 20 ≤ k) : bt_ ((p / 2 ^ 20 : Nat) : Int) ((k : Int) - 20) = p.testBit k := by
  show (p / 2 ^ 20).testBit ((k : Int) - 20).toNat = _
  rw [Nat.testBit_div_two_pow, show ((k : Int) - 20).toNat + 20 = k by omega]
theorem bt_lo {p k : Nat} (h : k < 20) : bt_ ((p % 2 ^ 20 : Nat) : Int) (k : Nat) = p.testBit k := by
  show (p % 2 ^ 20).testBit k = _
  rw [Nat.testBit_mod_two_pow, decide_eq_true h, Bool.true_and]
theorem look_56 {m : Mm} {X err hd tn : Nat} {f : Nat → Nat} {r : Option Vv × Mm} {N : Nat} (hhd : hd < 4) (htn : tn < 8) (hlk : lkE X err f (8 * hd + tn) = true) (hnext : ∀ (u5 u6 u7 : Vv), Ev (119 + 1) K_Mo_look 0 31 [(18, 400), (0, (err : Nat)), (0, (N : Nat)), (0, (hd : Nat)), (0, ((tn + 1 : Nat) : Int)), u5, u6, u7] [] (lkM m X err f (8 * hd + tn + 1)) r) : ∀ (t k : Nat), k + t = 40 → Ev (119 + 1) K_Mo_look 0 56 [(18, 400), (0, (err : Nat)), (0, (N : Nat)), (0, (hd : Nat)), (0, (tn : Nat)), (0, (pat (f hd) tn % 2 ^ 20 : Nat)), (0, (pat (f hd) tn / 2 ^ 20 : Nat)), (0, (k : Nat))] [] (fil (lkM m X err f (8 * hd + tn)) 417 0 k (fun j => (cntL (lkB X err f j.toNat) (8 * hd + tn + 1) : Nat))) r := by
  intro t
  induction t with
  | zero =>
    intro k hk
    obtain rfl : k = 40 := by omega
    refine b_Mo_look_56 ⟨fun _ => ?_, fun z => absurd (by omega) z⟩
    rw [w32s (by omega)]
    have : fil (lkM m X err f (8 * hd + tn)) 417 0 ((40 : Nat) : Int) (fun j => (cntL (lkB X err f j.toNat) (8 * hd + tn + 1) : Nat)) = lkM m X err f (8 * hd + tn + 1) := fil_fil
    rw [this]
    exact hnext _ _ _
  | succ t ih =>
    intro k hk
    have hp := pat_lt (f hd) tn
    have hq : lkB X err f k (8 * hd + tn) = (pat (f hd) tn).testBit k := by
      unfold lkB
      rw [hlk, Bool.true_and, show (8 * hd + tn) / 8 = hd by omega, show (8 * hd + tn) % 8 = tn by omega]
    have hcv : cntL (lkB X err f k) (8 * hd + tn + 1) = cntL (lkB X err f k) (8 * hd + tn) + (if (pat (f hd) tn).testBit k = true then 1 else 0) := by
      rw [cntL, hq]
    have hv : fil (lkM m X err f (8 * hd + tn)) 417 0 k (fun j => (cntL (lkB X err f j.toNat) (8 * hd + tn + 1) : Nat)) 417 (k : Nat) = (cntL (lkB X err f k) (8 * hd + tn) : Nat) := by
      rw [fil_out (by omega), lkM_v (by omega)]
    have hb1 := cntL_le (lkB X err f k) (8 * hd + tn)
    have hg := ih (k + 1) (by omega)
    have hup : ∀ v : Int, v = (cntL (lkB X err f k) (8 * hd + tn + 1) : Nat) → up (fil (lkM m X err f (8 * hd + tn)) 417 0 k (fun j => (cntL (lkB X err f j.toNat) (8 * hd + tn + 1) : Nat))) 417 (k : Nat) v = fil (lkM m X err f (8 * hd + tn)) 417 0 ((k + 1 : Nat) : Int) (fun j => (cntL (lkB X err f j.toNat) (8 * hd + tn + 1) : Nat)) := by
      intro v hv
      exact fil_up (by omega) (by rw [hv, Int.toNat_natCast])
    generalize hP : pat (f hd) tn = P at *
    generalize hC0 : cntL (lkB X err f k) (8 * hd + tn) = C0 at *
    generalize hC1 : cntL (lkB X err f k) (8 * hd + tn + 1) = C1 at *
    generalize hF : fil (lkM m X err f (8 * hd + tn)) 417 0 k (fun j => (cntL (lkB X err f j.toNat) (8 * hd + tn + 1) : Nat)) = M0 at *
    generalize hF1 : fil (lkM m X err f (8 * hd + tn)) 417 0 ((k + 1 : Nat) : Int) (fun j => (cntL (lkB X err f j.toNat) (8 * hd + tn + 1) : Nat)) = M1 at *
    clear hF hF1 hC0 hC1 hP hq ih hnext hlk
    refine b_Mo_look_56 ⟨fun z => by omega, fun _ => ⟨by omega, fun z => ?_, fun z => ?_⟩⟩
    · rw [w32n (x := (k : Int) - 20) (by omega) (by omega)]
      refine ⟨_, _, c_Mo_has (by omega) (by omega), ?_⟩
      rw [bt_hi (by omega), hv, w32s (by omega), w32s (by omega), w32n (x := (C0 : Int) + 0) (by omega) (by omega)]
      refine ⟨fun z1 => ⟨by omega, ?_⟩, fun z1 => ⟨by omega, ?_⟩⟩
      · rw [ite_z] at z1
        rw [if_neg z1] at hcv
        rintro m2 rfl
        rw [hup _ (by omega)]
        exact hg
      · rw [ite_z1] at z1
        rw [if_pos z1] at hcv
        rintro m2 rfl
        rw [hup _ (by omega)]
        exact hg
    · refine ⟨_, _, c_Mo_has (by omega) (by omega), ?_⟩
      rw [bt_lo (by omega), hv, w32s (by omega), w32s (by omega), w32n (x := (C0 : Int) + 0) (by omega) (by omega)]
      refine ⟨fun z1 => ⟨by omega, ?_⟩, fun z1 => ⟨by omega, ?_⟩⟩
      · rw [ite_z] at z1
        rw [if_neg z1] at hcv
        rintro m2 rfl
        rw [hup _ (by omega)]
        exact hg
      · rw [ite_z1] at z1
        rw [if_pos z1] at hcv
        rintro m2 rfl
        rw [hup _ (by omega)]
        exact hg
theorem look_31 {m : Mm} {err n hd : Nat} {f : Nat → Nat} {r : Option Vv × Mm} (hT : TU m) (hm : HNM m 401 n f) (hn : n ≤ 4) (hhd : hd < n) (v8 : hv20 (m 401 8)) (v9 : hv20 (m 401 9)) (hnext : ∀ (u4 u5 u6 u7 : Vv), Ev (119 + 1) K_Mo_look 0 23 [(18, 400), (0, (err : Nat)), (0, (cntL (lkE (LX m 401) err f) (8 * hd + 8) : Nat)), (0, ((hd + 1 : Nat) : Int)), u4, u5, u6, u7] [] (lkM m (LX m 401) err f (8 * hd + 8)) r) : ∀ (s tn : Nat) (u5 u6 u7 : Vv), tn + s = 8 → Ev (119 + 1) K_Mo_look 0 31 [(18, 400), (0, (err : Nat)), (0, (cntL (lkE (LX m 401) err f) (8 * hd + tn) : Nat)), (0, (hd : Nat)), (0, (tn : Nat)), u5, u6, u7] [] (lkM m (LX m 401) err f (8 * hd + tn)) r := by
  intro s
  induction s with
  | zero =>
    intro tn u5 u6 u7 hs
    obtain rfl : tn = 8 := by omega
    refine b_Mo_look_31 ⟨fun _ => ?_, fun z => absurd (by omega) z⟩
    rw [w32s (by omega)]
    exact hnext _ _ _ _
  | succ s ih =>
    intro tn u5 u6 u7 hs
    have hg := fun u5 u6 u7 => ih (tn + 1) u5 u6 u7 (by omega)
    have r1 : lkM m (LX m 401) err f (8 * hd + tn) 401 = m 401 := lkM_row (by omega)
    have hT' : TU (lkM m (LX m 401) err f (8 * hd + tn)) := TU_row hT (lkM_row (by omega))
    have hm' := HNM_row hm r1
    have hcl := cntL_le (lkE (LX m 401) err f) (8 * hd + tn)
    have hun := c_Mo_unlikeBy (d := 116) (t := tn) hT' hm' hn hhd (by omega) (by rw [r1]; exact v8) (by rw [r1]; exact v9)
    have rX : LX (lkM m (LX m 401) err f (8 * hd + tn)) 401 = LX m 401 := by
      generalize lkM m (LX m 401) err f (8 * hd + tn) = MM at r1
      unfold LX
      rw [r1]
    rw [rX] at hun
    have hE : lkE (LX m 401) err f (8 * hd + tn) = decide (unl (LX m 401) (f hd) tn ≤ err) := by
      unfold lkE
      rw [show (8 * hd + tn) / 8 = hd by omega, show (8 * hd + tn) % 8 = tn by omega]
    refine b_Mo_look_31 ⟨fun z => by omega, fun _ => ⟨_, _, hun, fun z => ?_, fun z => ?_⟩⟩
    · have hlk : lkE (LX m 401) err f (8 * hd + tn) = true := by rw [hE]; exact decide_eq_true (by omega)
      refine ⟨_, _, c_Mo_ofHand hT' hm' hn hhd (by omega), _, _, c_Mo_ofHand hT' hm' hn hhd (by omega), ?_⟩
      rw [if_pos rfl, if_neg (by omega), w32s (by omega)]
      have e9 : cntL (lkE (LX m 401) err f) (8 * hd + tn) + 1 = cntL (lkE (LX m 401) err f) (8 * hd + tn + 1) := by
        conv => rhs; rw [cntL, if_pos hlk]
      rw [e9]
      have := look_56 (m := m) (N := cntL (lkE (LX m 401) err f) (8 * hd + tn + 1)) (show hd < 4 by omega) (show tn < 8 by omega) hlk (fun u5 u6 u7 => hg u5 u6 u7) 40 0 rfl
      rw [show ((0 : Nat) : Int) = 0 from rfl, fil_0] at this
      exact this
    · have hlk : ¬ lkE (LX m 401) err f (8 * hd + tn) = true := by rw [hE, decide_eq_true_eq]; omega
      rw [w32s (by omega)]
      have e9 : cntL (lkE (LX m 401) err f) (8 * hd + (tn + 1)) = cntL (lkE (LX m 401) err f) (8 * hd + tn) := by
        rw [show 8 * hd + (tn + 1) = 8 * hd + tn + 1 from rfl, cntL, if_neg hlk]
        rfl
      have e10 : lkM m (LX m 401) err f (8 * hd + (tn + 1)) = lkM m (LX m 401) err f (8 * hd + tn) := by
        unfold lkM
        refine fil_con (fun j _ _ => ?_)
        rw [show 8 * hd + (tn + 1) = 8 * hd + tn + 1 from rfl, cntL, if_neg]
        · rfl
        · unfold lkB
          rw [Bool.and_eq_true]
          exact fun q => hlk q.1
      have := hg u5 u6 u7
      rw [e9, e10] at this
      exact this
theorem look_23 {m : Mm} {err n : Nat} {f : Nat → Nat} (e1 : m 401 0 = (n : Nat)) (hT : TU m) (hm : HNM m 401 n f) (hn : n ≤ 4) (v8 : hv20 (m 401 8)) (v9 : hv20 (m 401 9)) : ∀ (s hd : Nat) (u4 u5 u6 u7 : Vv), hd + s = n → Ev (119 + 1) K_Mo_look 0 23 [(18, 400), (0, (err : Nat)), (0, (cntL (lkE (LX m 401) err f) (8 * hd) : Nat)), (0, (hd : Nat)), u4, u5, u6, u7] [] (lkM m (LX m 401) err f (8 * hd)) (some (0, lkR (LX m 401) err f n), lkM m (LX m 401) err f (8 * n)) := by
  intro s
  induction s with
  | zero =>
    intro hd u4 u5 u6 u7 hs
    obtain rfl : hd = n := by omega
    refine b_Mo_look_23 ⟨fun _ => look_end hn, fun z => absurd (by rw [lkM_row (by omega), e1]; omega) z⟩
  | succ s ih =>
    intro hd u4 u5 u6 u7 hs
    refine b_Mo_look_23 ⟨fun z => by rw [lkM_row (by omega), e1] at z; omega, fun _ => ?_⟩
    exact look_31 hT hm hn (by omega) v8 v9 (fun u4 u5 u6 u7 => by
      have := ih (hd + 1) u4 u5 u6 u7 (by omega)
      rw [show 8 * (hd + 1) = 8 * hd + 8 by omega] at this
      exact this) 8 0 u5 u6 u7 rfl
theorem c_Mo_look {m : Mm} {err n : Nat} {f : Nat → Nat} (hx : err ≤ 40) (e1 : m 401 0 = (n : Nat)) (hT : TU m) (hm : HNM m 401 n f) (hn : n ≤ 4) (v8 : hv20 (m 401 8)) (v9 : hv20 (m 401 9)) : Cl 120 k_Mo_look [(18, 400), (0, (err : Nat))] m (some (0, lkR (LX m 401) err f n), lkM m (LX m 401) err f (8 * n)) := by
  have f9 : ∀ (s k : Nat) (u3 u4 u5 u6 u7 : Vv), k + s = 40 → Ev (119 + 1) K_Mo_look 0 9 [(18, 400), (0, (err : Nat)), (0, (k : Nat)), u3, u4, u5, u6, u7] [] (fil m 417 0 k (fun j => (cntL (lkB (LX m 401) err f j.toNat) 0 : Nat))) (some (0, lkR (LX m 401) err f n), lkM m (LX m 401) err f (8 * n)) := by
    intro s
    induction s with
    | zero =>
      intro k u3 u4 u5 u6 u7 hk
      obtain rfl : k = 40 := by omega
      refine b_Mo_look_9 ⟨fun _ => ?_, fun z => absurd (by omega) z⟩
      exact look_23 e1 hT hm hn v8 v9 n 0 u4 u5 u6 u7 (by omega)
    | succ s ih =>
      intro k u3 u4 u5 u6 u7 hk
      refine b_Mo_look_9 ⟨fun z => by omega, fun _ => ⟨by omega, ?_⟩⟩
      rintro m2 rfl
      have hu : up (fil m 417 0 k (fun j => (cntL (lkB (LX m 401) err f j.toNat) 0 : Nat))) 417 (k : Nat) 0 = fil m 417 0 ((k + 1 : Nat) : Int) (fun j => (cntL (lkB (LX m 401) err f j.toNat) 0 : Nat)) := fil_up (by omega) rfl
      rw [w32s (by omega), hu]
      exact ih (k + 1) u3 u4 u5 u6 u7 (by omega)
  refine cl_Mo_look (b_Mo_look ⟨_, _, c_Mo_isIn, fun _ => ?_, fun q => ?_⟩)
  · have := f9 40 0 (9, 0) (9, 0) (9, 0) (9, 0) (9, 0) rfl
    rw [show ((0 : Nat) : Int) = 0 from rfl, fil_0] at this
    exact this
  · rw [ite_z1] at q; omega
theorem op_look {m : Mm} {x : Int} (h : R m) : OP k_Th_look k_Mo_look 0 [(0, x)] m := by
  obtain ⟨n, f, e1, e2, hc, hm, hl, e3, hT⟩ := R_hand h
  obtain ⟨v40, v8, v9, hX, hXl, _⟩ := R_h h
  by_cases hx : 0 ≤ x ∧ x ≤ 40
  · obtain ⟨err, rfl⟩ := Int.eq_ofNat_of_zero_le hx.1
    have hcls : Cl 120 k_Th_look [(17, 0), (0, (err : Nat))] m (some (0, lkR (LX m 401) err f n), m) := by
      refine cl_Th_look (b_Th_look ⟨fun z => by omega, fun _ => ⟨fun _ => ?_, fun z => by omega⟩⟩)
      rw [e3, hX]
      exact ⟨_, _, c_Ha_partingHedge hc e2 hXl, rfl⟩
    refine OP_q h hcls (c_Mo_look (by omega) e1 hT hm e2 v8 v9) SM_refl (fun a b hab => ?_)
    refine fil_ne ?_
    rintro rfl
    exact hab (by unfold scr; omega)
  · refine OP_e h (v := -1) (cl_Th_look (b_Th_look ⟨fun z => rfl, fun _ => ⟨fun z => by omega, fun z => rfl⟩⟩)) (cl_Mo_look (b_Mo_look ⟨_, _, c_Mo_isIn, fun q => ?_, fun q => rfl⟩))
    rw [ite_z1] at q; exact absurd q hx
