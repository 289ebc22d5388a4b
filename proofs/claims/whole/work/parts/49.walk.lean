/-! WALKS BY THE HEDGE -/
def on4 (a0 a1 a2 a3 : Bool) (w : Nat) : Int :=
  if w = 0 then (if a1 then 1 else if a0 then 0 else if a3 then 3 else if a2 then 2 else -1)
  else if w = 1 then (if a2 then 2 else if a1 then 1 else if a0 then 0 else if a3 then 3 else -1)
  else if w = 2 then (if a3 then 3 else if a2 then 2 else if a1 then 1 else if a0 then 0 else -1)
  else (if a0 then 0 else if a3 then 3 else if a2 then 2 else if a1 then 1 else -1)
theorem onw_4 {H : Int → Bool} {c : Int} {w : Nat} (hw : w < 4) : onw H c (w : Nat) = on4 (opn H c 0) (opn H c 1) (opn H c 2) (opn H c 3) w := by
  have hw4 : w = 0 ∨ w = 1 ∨ w = 2 ∨ w = 3 := by omega
  rcases hw4 with rfl | rfl | rfl | rfl
  · rfl
  · rfl
  · rfl
  · rfl
def bk4 (a0 a1 a2 a3 : Bool) (w : Nat) : Bool := if w = 0 then a2 else if w = 1 then a3 else if w = 2 then a0 else a1
theorem bk_4 {H : Int → Bool} {c : Int} {w : Nat} (hw : w < 4) : opn H c (((w : Nat) + 2) % 4 : Int) = bk4 (opn H c 0) (opn H c 1) (opn H c 2) (opn H c 3) w := by
  have hw4 : w = 0 ∨ w = 1 ∨ w = 2 ∨ w = 3 := by omega
  rcases hw4 with rfl | rfl | rfl | rfl
  · rfl
  · rfl
  · rfl
  · rfl
theorem on4_inj : ∀ a0 a1 a2 a3 : Bool, ∀ w, w < 4 → ∀ v, v < 4 → bk4 a0 a1 a2 a3 w = true → bk4 a0 a1 a2 a3 v = true → on4 a0 a1 a2 a3 w = on4 a0 a1 a2 a3 v → w = v := by decide +kernel
theorem on4_ne : ∀ a0 a1 a2 a3 : Bool, ∀ w, w < 4 → bk4 a0 a1 a2 a3 w = true → on4 a0 a1 a2 a3 w ≠ -1 := by decide +kernel
theorem onw_v {H : Int → Bool} {c w : Int} (hw : wayI w) (h : onw H c w ≠ -1) : wayI (onw H c w) ∧ opn H c (onw H c w) = true := by
  unfold onw at h ⊢
  unfold wayI at *
  split
  · rename_i q; exact ⟨by omega, q⟩
  · split
    · rename_i q; exact ⟨by omega, q⟩
    · split
      · rename_i q; exact ⟨by omega, q⟩
      · split
        · rename_i q; exact ⟨by omega, q⟩
        · rename_i q1 q2 q3 q4
          rw [if_neg q1, if_neg q2, if_neg q3, if_neg q4] at h
          exact absurd rfl h
theorem bey_bk : ∀ c : Nat, c < 25 → ∀ w : Nat, w < 4 → bey ((c : Nat) : Int) ((w : Nat) : Int) ≠ -1 → bey (bey ((c : Nat) : Int) ((w : Nat) : Int)) ((((w : Nat) : Int) + 2) % 4) = ((c : Nat) : Int) ∧ hby (bey ((c : Nat) : Int) ((w : Nat) : Int)) ((((w : Nat) : Int) + 2) % 4) = hby ((c : Nat) : Int) ((w : Nat) : Int) := by decide +kernel
/-- come there by that way -/
def mvd (H : Int → Bool) (p : Int × Int) : Prop := cellI p.1 ∧ wayI p.2 ∧ opn H p.1 ((p.2 + 2) % 4) = true
def stp (H : Int → Bool) (p : Int × Int) : Int × Int := (bey p.1 (onw H p.1 p.2), onw H p.1 p.2)
theorem stp_m {H : Int → Bool} {p : Int × Int} (hc : cellI p.1) (hw : wayI p.2) (h : onw H p.1 p.2 ≠ -1) : mvd H (stp H p) ∧ bey (stp H p).1 (((stp H p).2 + 2) % 4) = p.1 := by
  obtain ⟨q1, q2⟩ := onw_v hw h
  unfold stp
  generalize onw H p.1 p.2 = v at *
  have hb := opn_bey q2
  have hcc := ((bey_hby (w := v) hc).2 hb).2
  unfold wayI cellI at *
  obtain ⟨c, hcn⟩ := Int.eq_ofNat_of_zero_le hc.1
  obtain ⟨u, rfl⟩ := Int.eq_ofNat_of_zero_le q1.1
  have hc25 : c < 25 := by omega
  rw [hcn] at *
  obtain ⟨b1, b2⟩ := bey_bk c hc25 u (by omega) hb
  refine ⟨⟨hcc, q1, ?_⟩, b1⟩
  rw [opn_iff]
  refine ⟨?_, ?_⟩
  · show bey (bey (c : Int) (u : Int)) (((u : Int) + 2) % 4) ≠ -1
    rw [b1]; omega
  · show ¬ H (hby (bey (c : Int) (u : Int)) (((u : Int) + 2) % 4)) = true
    rw [b2]
    exact (opn_iff.mp q2).2
theorem mvd_on {H : Int → Bool} {p : Int × Int} (h : mvd H p) : onw H p.1 p.2 ≠ -1 := by
  obtain ⟨h1, h2, h3⟩ := h
  unfold wayI at h2
  obtain ⟨w, hw⟩ := Int.eq_ofNat_of_zero_le h2.1
  rw [hw] at h3 ⊢
  rw [bk_4 (by omega)] at h3
  rw [onw_4 (by omega)]
  exact on4_ne _ _ _ _ w (by omega) h3
theorem stp_inj {H : Int → Bool} {p q : Int × Int} (hp : mvd H p) (hq : mvd H q) (h : stp H p = stp H q) : p = q := by
  have e1 := (stp_m hp.1 hp.2.1 (mvd_on hp)).2
  have e2 := (stp_m hq.1 hq.2.1 (mvd_on hq)).2
  rw [h, e2] at e1
  have hw : onw H p.1 p.2 = onw H q.1 q.2 := congrArg Prod.snd h
  obtain ⟨_, p2, p3⟩ := hp
  obtain ⟨_, q2, q3⟩ := hq
  unfold wayI at p2 q2
  obtain ⟨u, hu⟩ := Int.eq_ofNat_of_zero_le p2.1
  obtain ⟨v, hv⟩ := Int.eq_ofNat_of_zero_le q2.1
  rw [hu] at p3 hw
  rw [hv, e1] at q3 hw
  rw [bk_4 (by omega)] at p3 q3
  rw [onw_4 (by omega), onw_4 (by omega)] at hw
  have huv := on4_inj _ _ _ _ u (by omega) v (by omega) p3 q3 hw
  exact Prod.ext e1.symm (by rw [hu, hv, huv])
def wkS (H : Int → Bool) (p : Int × Int) : Nat → Int × Int
  | 0 => p
  | n + 1 => stp H (wkS H p n)
theorem wkS_v {H : Int → Bool} {p : Int × Int} (hc : cellI p.1) (hw : wayI p.2) (h : onw H p.1 p.2 ≠ -1) : ∀ n, mvd H (wkS H p (n + 1)) ∧ cellI (wkS H p n).1 ∧ wayI (wkS H p n).2 ∧ onw H (wkS H p n).1 (wkS H p n).2 ≠ -1 := by
  intro n
  induction n with
  | zero => exact ⟨(stp_m hc hw h).1, hc, hw, h⟩
  | succ n ih =>
    obtain ⟨q1, _⟩ := ih
    exact ⟨(stp_m q1.1 q1.2.1 (mvd_on q1)).1, q1.1, q1.2.1, mvd_on q1⟩
theorem wkS_add {H : Int → Bool} {p : Int × Int} {i j : Nat} (h : wkS H p i = wkS H p j) : ∀ k, wkS H p (i + k) = wkS H p (j + k) := by
  intro k
  induction k with
  | zero => exact h
  | succ k ih =>
    show stp H (wkS H p (i + k)) = stp H (wkS H p (j + k))
    rw [ih]
/-- among more than a hundred states two are the same -/
theorem pigeon {f : Nat → Nat} (hf : ∀ i, f i < 100) : ∀ n, (∀ i j, i < j → j < n → f i ≠ f j) → n ≤ 100 := by
  have key : ∀ n, (∀ i j, i < j → j < n → f i ≠ f j) → n ≤ cntL (fun x => (List.range n).any (fun i => decide (f i = x))) 100 := by
    intro n
    induction n with
    | zero => exact fun _ => Nat.zero_le _
    | succ n ih =>
      intro hd
      have q1 := ih (fun i j h1 h2 => hd i j h1 (by omega))
      have q2 := cntL_lt (p := fun x => (List.range n).any (fun i => decide (f i = x))) (q := fun x => (List.range (n + 1)).any (fun i => decide (f i = x))) (fun x hx => by
        rw [List.any_eq_true] at hx ⊢
        obtain ⟨i, h1, h2⟩ := hx
        rw [List.mem_range] at h1
        exact ⟨i, List.mem_range.mpr (by omega), h2⟩) 100 (f n) (hf n) (by
        rw [List.any_eq_true]
        exact ⟨n, List.mem_range.mpr (by omega), decide_eq_true rfl⟩) (fun hx => by
        rw [List.any_eq_true] at hx
        obtain ⟨i, h1, h2⟩ := hx
        rw [List.mem_range] at h1
        rw [decide_eq_true_eq] at h2
        exact hd i n h1 (by omega) h2)
      omega
  intro n hd
  have q1 := key n hd
  have q2 := cntL_le (fun x => (List.range n).any (fun i => decide (f i = x))) 100
  omega
def cod (p : Int × Int) : Nat := (4 * p.1 + p.2).toNat
theorem cod_v {p q : Int × Int} (h1 : cellI p.1) (h2 : wayI p.2) (h3 : cellI q.1) (h4 : wayI q.2) : cod p < 100 ∧ ((cod p : Nat) : Int) = 4 * p.1 + p.2 ∧ (cod p = cod q ↔ p = q) := by
  unfold cod cellI wayI at *
  refine ⟨by omega, by omega, fun z => Prod.ext (by omega) (by omega), fun z => by rw [z]⟩
theorem least {Q : Nat → Prop} {n : Nat} (h : Q n) : ∃ N, N ≤ n ∧ Q N ∧ ∀ k, k < N → ¬ Q k := by
  have : ∀ n, (∃ k, k ≤ n ∧ Q k) → ∃ N, N ≤ n ∧ Q N ∧ ∀ k, k < N → ¬ Q k := by
    intro n
    induction n with
    | zero =>
      rintro ⟨k, h1, h2⟩
      obtain rfl : k = 0 := by omega
      exact ⟨0, by omega, h2, fun k hk => by omega⟩
    | succ n ih =>
      rintro ⟨k, h1, h2⟩
      by_cases hex : ∃ k, k ≤ n ∧ Q k
      · obtain ⟨N, y1, y2, y3⟩ := ih hex
        exact ⟨N, by omega, y2, y3⟩
      · have hk : k = n + 1 := by
          apply Classical.byContradiction
          intro z
          exact hex ⟨k, by omega, h2⟩
        subst hk
        exact ⟨n + 1, by omega, h2, fun k hk z => hex ⟨k, by omega, z⟩⟩
  exact this n ⟨n, Nat.le_refl _, h⟩
def rep_ (s : Nat → Int × Int) (n : Nat) : Prop := ∃ j, j < n ∧ s j = s n
/-- how a walk ends: by a gate, or coming round -/
theorem walk_end {H : Int → Bool} {p : Int × Int} {g : Int → Bool} (hc : cellI p.1) (hw : wayI p.2) (h : onw H p.1 p.2 ≠ -1) : ∃ N, N ≤ 100 ∧ (∀ k, k < N → ¬ rep_ (wkS H p) k ∧ ¬ g (wkS H p (k + 1)).1 = true) ∧ ((¬ rep_ (wkS H p) N ∧ g (wkS H p (N + 1)).1 = true ∧ N + 1 ≤ 100) ∨ (∃ j, j < N ∧ wkS H p j = wkS H p N ∧ (∀ n, ¬ g (wkS H p (n + 1)).1 = true) ∧ wkS H p (1 + (N - j)) = wkS H p 1 ∧ ∀ k, 1 ≤ k → k < N - j → wkS H p (k + 1) ≠ wkS H p 1)) := by
  have hv := wkS_v hc hw h
  have hcd : ∀ i j, cod (wkS H p i) = cod (wkS H p j) ↔ wkS H p i = wkS H p j := fun i j => (cod_v (hv i).2.1 (hv i).2.2.1 (hv j).2.1 (hv j).2.2.1).2.2
  have dist : ∀ n, (∀ k, k < n → ¬ rep_ (wkS H p) k) → n ≤ 100 := fun n hn => pigeon (f := fun i => cod (wkS H p i)) (fun i => (cod_v (q := wkS H p i) (hv i).2.1 (hv i).2.2.1 (hv i).2.1 (hv i).2.2.1).1) n (fun i j h1 h2 z => hn j h2 ⟨i, h1, (hcd i j).mp z⟩)
  have hex : ∃ n, rep_ (wkS H p) n ∨ g (wkS H p (n + 1)).1 = true := by
    apply Classical.byContradiction
    intro z
    have := dist 101 (fun k _ hr => z ⟨k, Or.inl hr⟩)
    omega
  obtain ⟨n0, hn0⟩ := hex
  obtain ⟨N, _, hQ, hmin⟩ := least (Q := fun n => rep_ (wkS H p) n ∨ g (wkS H p (n + 1)).1 = true) hn0
  have hN := dist N (fun k hk hr => hmin k hk (Or.inl hr))
  refine ⟨N, hN, fun k hk => ⟨fun z => hmin k hk (Or.inl z), fun z => hmin k hk (Or.inr z)⟩, ?_⟩
  by_cases hr : rep_ (wkS H p) N
  · obtain ⟨j, hj, he⟩ := hr
    refine Or.inr ⟨j, hj, he, ?_, ?_, ?_⟩
    · have back : ∀ n, ∃ n', n' < N ∧ wkS H p (n + 1) = wkS H p (n' + 1) := by
        intro n
        induction n using Nat.strongRecOn with
        | ind n ih =>
          by_cases hn : n < N
          · exact ⟨n, hn, rfl⟩
          · have e := wkS_add he (n + 1 - N)
            rw [show N + (n + 1 - N) = n + 1 by omega, show j + (n + 1 - N) = (j + (n - N)) + 1 by omega] at e
            obtain ⟨n', y1, y2⟩ := ih (j + (n - N)) (by omega)
            exact ⟨n', y1, by rw [← e, y2]⟩
      intro n z
      obtain ⟨n', y1, y2⟩ := back n
      rw [y2] at z
      exact hmin n' y1 (Or.inr z)
    · by_cases hj0 : j = 0
      · subst hj0
        have e := wkS_add he 1
        rw [Nat.add_comm 1 (N - 0), Nat.sub_zero, ← e]
      · by_cases hj1 : j = 1
        · subst hj1
          rw [show 1 + (N - 1) = N by omega, ← he]
        · exfalso
          obtain ⟨a, rfl⟩ : ∃ a, j = a + 2 := ⟨j - 2, by omega⟩
          obtain ⟨b, rfl⟩ : ∃ b, N = b + 2 := ⟨N - 2, by omega⟩
          have e : wkS H p (a + 1) = wkS H p (b + 1) := stp_inj (hv a).1 (hv b).1 he
          exact hmin (b + 1) (by omega) (Or.inl ⟨a + 1, by omega, e⟩)
    · intro k hk1 hk2 z
      by_cases hj0 : j = 0
      · subst hj0
        obtain ⟨a, rfl⟩ : ∃ a, k = a + 1 := ⟨k - 1, by omega⟩
        obtain ⟨b, rfl⟩ : ∃ b, N = b + 1 := ⟨N - 1, by omega⟩
        have e1 : stp H (wkS H p (a + 1)) = stp H (wkS H p (b + 1)) := by
          show wkS H p (a + 1 + 1) = stp H (wkS H p (b + 1))
          rw [z, ← he]
          rfl
        have e2 := stp_inj (hv a).1 (hv b).1 e1
        exact hmin (a + 1) (by omega) (Or.inl ⟨0, by omega, by rw [e2, he]⟩)
      · exact hmin (k + 1) (by omega) (Or.inl ⟨1, by omega, z.symm⟩)
  · rcases hQ with q | q
    · exact absurd q hr
    · refine Or.inl ⟨hr, q, dist (N + 1) (fun k hk z => ?_)⟩
      by_cases hkN : k = N
      · subst hkN; exact hr z
      · exact hmin k (by omega) (Or.inl z)
/-! the class -/
theorem c_La_wbh {d : Nat} {m : Mm} {o : Int} {S : Int → Int} {c w : Int} (hT : TRI m) (h : LSd m o S) (hc : cellI c) (hw : wayI w) : Cl (d + 3) k_La_wayByHedge [(13, o), (0, c), (0, w)] m (some (0, onw (HS S) c w), m) := by
  obtain ⟨_, _, _, _, hv, hb⟩ := LSd_h h
  have := c_La_wayByHedge (d := d) hT hv hc hw
  rw [onw_con hb hc] at this
  exact this
theorem c_La_stepsHome {d : Nat} {m : Mm} {o : Int} {S : Int → Int} {c : Int} (hT : TRI m) (h : LSd m o S) (hg : 0 ≤ S 31 ∧ S 31 < 33554432) (hc : 0 ≤ c ∧ c < S 1) (hh : S (11 + 2 * c) ≠ -1) {v : Int} (hv : (onw (HS S) (S (11 + 2 * c)) (S (12 + 2 * c)) = -1 ∧ v = -1) ∨ (onw (HS S) (S (11 + 2 * c)) (S (12 + 2 * c)) ≠ -1 ∧ (∀ n, ¬ bt_ (S 31) (wkS (HS S) (S (11 + 2 * c), S (12 + 2 * c)) (n + 1)).1 = true) ∧ v = -1) ∨ (onw (HS S) (S (11 + 2 * c)) (S (12 + 2 * c)) ≠ -1 ∧ ∃ N : Nat, N + 1 ≤ 100 ∧ (∀ k, k < N → ¬ bt_ (S 31) (wkS (HS S) (S (11 + 2 * c), S (12 + 2 * c)) (k + 1)).1 = true) ∧ bt_ (S 31) (wkS (HS S) (S (11 + 2 * c), S (12 + 2 * c)) (N + 1)).1 = true ∧ v = ((N + 1 : Nat) : Int))) : Cl (d + 4) k_La_stepsHome [(13, o), (0, c), (0, S 31)] m (some (0, v), m) := by
  obtain ⟨p1, p2⟩ := LSd_hm h hc
  obtain ⟨q1, q2⟩ := p2 hh
  obtain ⟨_, _, _, s4⟩ := LSd_c h hc
  obtain ⟨_, s2, _⟩ := LSd_c h hc
  obtain ⟨⟨t1, t2, t3⟩, _⟩ := LSd_t h
  have hw : wayI (S (12 + 2 * c)) := by rw [s4]; exact s2
  refine cl_La_stepsHome (b_La_stepsHome ?_)
  rw [← q1, ← s4]
  refine ⟨by omega, by omega, _, _, c_La_wbh hT h q2 hw, ?_⟩
  by_cases hon : onw (HS S) (S (11 + 2 * c)) (S (12 + 2 * c)) = -1
  · have hv1 : v = -1 := by
      rcases hv with q | q | q
      · exact q.2
      · exact q.2.2
      · exact absurd hon q.1
    rw [hv1, hon]
    exact b_La_stepsHome_15 ⟨fun z => by omega, fun _ => ⟨fun _ => rfl, fun z => absurd rfl z⟩⟩
  · obtain ⟨p, hp⟩ : ∃ p : Int × Int, p = (S (11 + 2 * c), S (12 + 2 * c)) := ⟨_, rfl⟩
    rw [← hp] at hv
    have hwv := wkS_v (H := HS S) (p := p) (by rw [hp]; exact q2) (by rw [hp]; exact hw) (by rw [hp]; exact hon)
    have lp : ∀ (t k : Nat), k + t = 100 → (∀ i, i < k → ¬ bt_ (S 31) (wkS (HS S) p (i + 1)).1 = true) → Ev (d + 4) K_La_stepsHome 0 15 [(13, o), (0, c), (0, S 31), (0, (wkS (HS S) p k).1), (0, (wkS (HS S) p (k + 1)).2), (0, ((k + 1 : Nat) : Int))] [] m (some (0, v), m) := by
      intro t
      induction t with
      | zero =>
        intro k hk hno
        obtain rfl : k = 100 := by omega
        refine b_La_stepsHome_15 ⟨fun _ => ?_, fun z => absurd (by omega) z⟩
        rcases hv with q | q | q
        · rw [q.2]
        · rw [q.2.2]
        · obtain ⟨_, N, n1, n2, n3, n4⟩ := q
          exact absurd n3 (hno N (by omega))
      | succ t ih =>
        intro k hk hno
        obtain ⟨m1, m2, m3, m4⟩ := hwv k
        obtain ⟨k1, k2, k3, k4⟩ := hwv (k + 1)
        have hcb := c_Pl_cellBeyond (d := d + 3) (m := m) (c := (wkS (HS S) p k).1) (w := (wkS (HS S) p (k + 1)).2) m2 k3
        have ecell : bey (wkS (HS S) p k).1 (wkS (HS S) p (k + 1)).2 = (wkS (HS S) p (k + 1)).1 := rfl
        rw [ecell] at hcb
        have hgb := gate_bit hg k2
        refine b_La_stepsHome_15 ⟨fun z => by omega, fun _ => ⟨fun z => ?_, fun _ => ⟨_, _, hcb, fun z => ⟨_, _, c_La_wbh hT h k2 k3, ?_⟩, fun z => ?_⟩⟩⟩
        · unfold wayI at k3; omega
        · rw [hgb] at z
          have hng : ¬ bt_ (S 31) (wkS (HS S) p (k + 1)).1 = true := fun q => z (by rw [if_pos q])
          rw [w32s (by omega)]
          exact ih (k + 1) (by omega) (fun i hi => by
            by_cases hik : i = k
            · subst hik; exact hng
            · exact hno i (by omega))
        · rw [Classical.not_not, hgb] at z
          have hyg : bt_ (S 31) (wkS (HS S) p (k + 1)).1 = true := by
            by_cases q : bt_ (S 31) (wkS (HS S) p (k + 1)).1 = true
            · exact q
            · rw [if_neg q] at z; omega
          rcases hv with q | q | q
          · exact absurd q.1 hon
          · exact absurd hyg (q.2.1 k)
          · obtain ⟨_, N, n1, n2, n3, n4⟩ := q
            have hNk : N = k := by
              rcases Nat.lt_trichotomy N k with y | y | y
              · exact absurd n3 (hno N y)
              · exact y
              · exact absurd hyg (n2 k y)
            rw [n4, hNk]
    have := lp 100 0 rfl (fun i hi => by omega)
    rw [hp] at this
    exact this
theorem c_La_ringOf {d : Nat} {m : Mm} {o : Int} {S : Int → Int} {c : Int} (hT : TRI m) (h : LSd m o S) (hc : 0 ≤ c ∧ c < S 1) (hh : S (11 + 2 * c) ≠ -1) {v : Int} (hv : (onw (HS S) (S (11 + 2 * c)) (S (12 + 2 * c)) = -1 ∧ v = 0) ∨ (onw (HS S) (S (11 + 2 * c)) (S (12 + 2 * c)) ≠ -1 ∧ ∃ K : Nat, 1 ≤ K ∧ K ≤ 100 ∧ wkS (HS S) (S (11 + 2 * c), S (12 + 2 * c)) (1 + K) = wkS (HS S) (S (11 + 2 * c), S (12 + 2 * c)) 1 ∧ (∀ k, 1 ≤ k → k < K → wkS (HS S) (S (11 + 2 * c), S (12 + 2 * c)) (k + 1) ≠ wkS (HS S) (S (11 + 2 * c), S (12 + 2 * c)) 1) ∧ v = (K : Nat))) : Cl (d + 4) k_La_ringOf [(13, o), (0, c)] m (some (0, v), m) := by
  obtain ⟨p1, p2⟩ := LSd_hm h hc
  obtain ⟨q1, q2⟩ := p2 hh
  obtain ⟨_, s2, _, s4⟩ := LSd_c h hc
  obtain ⟨⟨t1, t2, t3⟩, _⟩ := LSd_t h
  have hw : wayI (S (12 + 2 * c)) := by rw [s4]; exact s2
  refine cl_La_ringOf (b_La_ringOf ?_)
  rw [← q1, ← s4]
  refine ⟨by omega, by omega, _, _, c_La_wbh hT h q2 hw, fun hon => ?_, fun hon => ?_⟩
  · rcases hv with q | q
    · exact absurd q.1 hon
    · obtain ⟨_, K, k1, k2, k3, k4, k5⟩ := q
      obtain ⟨p, hp⟩ : ∃ p : Int × Int, p = (S (11 + 2 * c), S (12 + 2 * c)) := ⟨_, rfl⟩
      rw [← hp] at k3 k4
      have hwv := wkS_v (H := HS S) (p := p) (by rw [hp]; exact q2) (by rw [hp]; exact hw) (by rw [hp]; exact hon)
      obtain ⟨m1, m2, m3, m4⟩ := hwv 0
      obtain ⟨n1, n2, n3, n4⟩ := hwv 1
      have e0 : onw (HS S) (S (11 + 2 * c)) (S (12 + 2 * c)) = (wkS (HS S) p 1).2 := by rw [hp]; rfl
      have e1 : bey (S (11 + 2 * c)) (wkS (HS S) p 1).2 = (wkS (HS S) p 1).1 := by rw [hp]; rfl
      rw [e0]
      have hcb := c_Pl_cellBeyond (d := d + 3) (m := m) (c := S (11 + 2 * c)) (w := (wkS (HS S) p 1).2) q2 n3
      rw [e1] at hcb
      refine ⟨by omega, ?_⟩
      rw [← q1]
      refine ⟨_, _, hcb, ?_⟩
      have lp : ∀ (t k : Nat), k + t = 101 → 1 ≤ k → k ≤ K → Ev (d + 4) K_La_ringOf 0 29 [(13, o), (0, c), (0, (wkS (HS S) p k).2), (0, (wkS (HS S) p 1).1), (0, (wkS (HS S) p 1).2), (0, (wkS (HS S) p k).1), (0, (k : Nat))] [] m (some (0, v), m) := by
        intro t
        induction t with
        | zero => intro k hk h1 h2; omega
        | succ t ih =>
          intro k hk h1 h2
          obtain ⟨_, a2, a3, a4⟩ := hwv k
          obtain ⟨_, b2, b3, b4⟩ := hwv (k + 1)
          have hwb := c_La_wbh (d := d) hT h a2 a3
          have ew : onw (HS S) (wkS (HS S) p k).1 (wkS (HS S) p k).2 = (wkS (HS S) p (k + 1)).2 := rfl
          rw [ew] at hwb
          have hcb := c_Pl_cellBeyond (d := d + 3) (m := m) (c := (wkS (HS S) p k).1) (w := (wkS (HS S) p (k + 1)).2) a2 b3
          have ecell : bey (wkS (HS S) p k).1 (wkS (HS S) p (k + 1)).2 = (wkS (HS S) p (k + 1)).1 := rfl
          rw [ecell] at hcb
          have nxt : wkS (HS S) p (k + 1) ≠ wkS (HS S) p 1 → Ev (d + 4) K_La_ringOf 0 29 [(13, o), (0, c), (0, (wkS (HS S) p (k + 1)).2), (0, (wkS (HS S) p 1).1), (0, (wkS (HS S) p 1).2), (0, (wkS (HS S) p (k + 1)).1), (0, w32 ((k : Int) + 1))] [] m (some (0, v), m) := by
            intro hne
            rw [w32s (by omega)]
            have hkK : k ≠ K := fun z => hne (by rw [z, Nat.add_comm]; exact k3)
            exact ih (k + 1) (by omega) (by omega) (by omega)
          refine b_La_ringOf_29 ⟨fun z => by omega, fun _ => ⟨_, _, hwb, _, _, hcb, fun z => nxt (fun q => z (by rw [q])), fun z => ⟨fun z2 => nxt (fun q => z2 (by rw [q])), fun z2 => ?_⟩⟩⟩
          rw [Classical.not_not] at z z2
          have heq : wkS (HS S) p (k + 1) = wkS (HS S) p 1 := Prod.ext z z2
          have hkK : k = K := by
            apply Classical.byContradiction
            intro y
            exact k4 k h1 (by omega) heq
          rw [k5, hkK]
      exact lp 100 1 rfl (by omega) k1
  · rw [Classical.not_not] at hon
    rcases hv with q | q
    · rw [q.2]
    · exact absurd hon q.1
/-! the model -/
theorem mo_walk {d : Nat} {m : Mm} {x1 x2 : Int} {p : Int × Int} {N : Nat} {R : Int} (h8 : hv20 (m 401 8)) (h9 : hv20 (m 401 9)) (hg : 0 ≤ m 401 31 ∧ m 401 31 < 33554432) (hc : cellI p.1) (hw : wayI p.2) (hon : onw (HM m 401) p.1 p.2 ≠ -1) (hN : N ≤ 100) (hpre : ∀ k, k < N → ¬ rep_ (wkS (HM m 401) p) k ∧ ¬ bt_ (m 401 31) (wkS (HM m 401) p (k + 1)).1 = true) (hend : (¬ rep_ (wkS (HM m 401) p) N ∧ bt_ (m 401 31) (wkS (HM m 401) p (N + 1)).1 = true ∧ R = if x2 = 0 then ((N + 1 : Nat) : Int) else -1) ∨ (∃ j, j < N ∧ wkS (HM m 401) p j = wkS (HM m 401) p N ∧ R = if x2 = 0 then -1 else (N : Int) - j)) : ∀ (t k : Nat) (M : Mm) (u6 : Vv), k + t = N → (∀ i : Nat, i < k → M 414 ((cod (wkS (HM m 401) p i) : Nat) : Int) = (i : Nat)) → (∀ x : Nat, x < 100 → (∀ i, i < k → cod (wkS (HM m 401) p i) ≠ x) → M 414 (x : Nat) = -1) → (∀ a b, a ≠ 414 → M a b = m a b) → ∃ m', Ev (d + 4) K_Mo_walk 0 28 [(18, 400), (0, x1), (0, x2), (0, (wkS (HM m 401) p k).1), (0, (wkS (HM m 401) p k).2), (0, (k : Nat)), u6] [] M (some (0, R), m') ∧ ∀ a b, a ≠ 414 → m' a b = m a b := by
  have hwv := wkS_v (H := HM m 401) hc hw hon
  have hcd : ∀ i j, cod (wkS (HM m 401) p i) = cod (wkS (HM m 401) p j) ↔ wkS (HM m 401) p i = wkS (HM m 401) p j := fun i j => (cod_v (hwv i).2.1 (hwv i).2.2.1 (hwv j).2.1 (hwv j).2.2.1).2.2
  have hcl : ∀ i, cod (wkS (HM m 401) p i) < 100 ∧ ((cod (wkS (HM m 401) p i) : Nat) : Int) = 4 * (wkS (HM m 401) p i).1 + (wkS (HM m 401) p i).2 := fun i => ⟨(cod_v (q := p) (hwv i).2.1 (hwv i).2.2.1 hc hw).1, (cod_v (q := p) (hwv i).2.1 (hwv i).2.2.1 hc hw).2.1⟩
  have hix : ∀ i, w32 (w32 (4 * (wkS (HM m 401) p i).1) + (wkS (HM m 401) p i).2) = ((cod (wkS (HM m 401) p i) : Nat) : Int) := fun i => by
    obtain ⟨_, a2, a3, _⟩ := hwv i
    unfold cellI wayI at *
    rw [(hcl i).2, w32n (x := 4 * (wkS (HM m 401) p i).1) (by omega) (by omega), w32n (by omega) (by omega)]
  -- one step from k, where the state is new
  have go : ∀ (k : Nat) (M : Mm) (u6 : Vv), k < 100 → ¬ rep_ (wkS (HM m 401) p) k → (∀ x : Nat, x < 100 → (∀ i, i < k → cod (wkS (HM m 401) p i) ≠ x) → M 414 (x : Nat) = -1) → (∀ a b, a ≠ 414 → M a b = m a b) → ∀ r : Option Vv × Mm, (¬ bt_ (m 401 31) (wkS (HM m 401) p (k + 1)).1 = true → Ev (d + 4) K_Mo_walk 0 28 [(18, 400), (0, x1), (0, x2), (0, (wkS (HM m 401) p (k + 1)).1), (0, (wkS (HM m 401) p (k + 1)).2), (0, ((k + 1 : Nat) : Int)), (0, (wkS (HM m 401) p (k + 1)).2)] [] (up M 414 ((cod (wkS (HM m 401) p k) : Nat) : Int) (k : Nat)) r) → (bt_ (m 401 31) (wkS (HM m 401) p (k + 1)).1 = true → r = (some (0, if x2 = 0 then ((k + 1 : Nat) : Int) else -1), up M 414 ((cod (wkS (HM m 401) p k) : Nat) : Int) (k : Nat))) → Ev (d + 4) K_Mo_walk 0 28 [(18, 400), (0, x1), (0, x2), (0, (wkS (HM m 401) p k).1), (0, (wkS (HM m 401) p k).2), (0, (k : Nat)), u6] [] M r := by
    intro k M u6 hk hnr h2 hF r g1 g2
    obtain ⟨_, a2, a3, a4⟩ := hwv k
    obtain ⟨_, b2, b3, b4⟩ := hwv (k + 1)
    have hnew : M 414 ((cod (wkS (HM m 401) p k) : Nat) : Int) = -1 := h2 _ (hcl k).1 (fun i hi z => hnr ⟨i, hi, (hcd i k).mp z⟩)
    have hcl1 := (hcl k).1
    obtain ⟨M1, hM1⟩ : ∃ M1, M1 = up M 414 ((cod (wkS (HM m 401) p k) : Nat) : Int) (k : Nat) := ⟨_, rfl⟩
    rw [← hM1] at g1 g2
    have e4 : M1 401 = m 401 := by funext b; rw [hM1, up_ne (by omega), hF _ _ (by omega)]
    have hO := c_Mo_onward (d := d) (m := M1) (c := (wkS (HM m 401) p k).1) (w := (wkS (HM m 401) p k).2) (by rw [e4]; exact h8) (by rw [e4]; exact h9) a2 a3
    rw [HM_row e4] at hO
    have ew : onw (HM m 401) (wkS (HM m 401) p k).1 (wkS (HM m 401) p k).2 = (wkS (HM m 401) p (k + 1)).2 := rfl
    rw [ew] at hO
    have hB := c_Mo_beside (d := d + 3) (m := M1) (c := (wkS (HM m 401) p k).1) (w := (wkS (HM m 401) p (k + 1)).2) a2 b3
    have ecell : bey (wkS (HM m 401) p k).1 (wkS (HM m 401) p (k + 1)).2 = (wkS (HM m 401) p (k + 1)).1 := rfl
    rw [ecell] at hB
    have hcell := a2
    have hcell1 := b2
    unfold cellI at hcell hcell1
    have hway1 := b3
    unfold wayI at hway1
    refine b_Mo_walk_28 ⟨fun z => by omega, fun _ => ?_⟩
    rw [hix k]
    refine ⟨by omega, fun z => absurd hnew z, fun _ => ⟨by omega, ?_⟩⟩
    intro m1 hm1
    rw [← hM1] at hm1
    subst hm1
    refine ⟨_, _, hO, fun _ => ⟨_, _, hB, ?_⟩, fun z => by omega⟩
    have eG : m1 401 31 = m 401 31 := by rw [e4]
    rw [eG]
    refine ⟨_, _, c_Mo_has (by omega) (by omega), fun z => ⟨_, _, hB, ?_⟩, fun z => ?_⟩
    · rw [ite_z] at z
      rw [w32s (by omega)]
      exact g1 z
    · rw [ite_z1] at z
      rw [w32s (by omega), g2 z]
      refine b_Mo_walk_28 ⟨fun _ => b_Mo_walk_83 ⟨fun y => absurd rfl y, fun _ => ⟨fun y => ?_, fun y => ?_⟩⟩, fun y => absurd rfl y⟩
      · rw [if_pos y]
      · rw [if_neg y]
  intro t
  induction t with
  | zero =>
    intro k M u6 hk h1 h2 hF
    obtain rfl : k = N := by omega
    rcases hend with ⟨e1, e2, e3⟩ | ⟨j, j1, j2, j3⟩
    · have hkl : k < 100 := by
        have := pigeon (f := fun i => cod (wkS (HM m 401) p i)) (fun i => (hcl i).1) (k + 1) (fun i j z1 z2 z3 => by
          have he := (hcd i j).mp z3
          by_cases hjk : j = k
          · subst hjk; exact e1 ⟨i, z1, he⟩
          · exact (hpre j (by omega)).1 ⟨i, z1, he⟩)
        omega
      refine ⟨_, go k M u6 hkl e1 h2 hF _ (fun z => absurd e2 z) (fun _ => by rw [e3]), fun a b hab => by rw [up_ne hab]; exact hF a b hab⟩
    · obtain ⟨_, a2, a3, a4⟩ := hwv k
      have hcell := a2
      unfold cellI at hcell
      have hv := h1 j j1
      rw [(hcd j k).mpr j2] at hv
      have hcl1 := (hcl k).1
      refine ⟨M, b_Mo_walk_28 ⟨fun z => by omega, fun _ => ?_⟩, hF⟩
      rw [hix k, hv]
      refine ⟨by omega, fun _ => b_Mo_walk_83 ⟨fun _ => ⟨fun y => ?_, fun y => ?_⟩, fun y => absurd (by omega) y⟩, fun y => absurd (by omega) y⟩
      · rw [j3, if_pos y]
      · rw [hix k, hv, j3, if_neg y, w32n (by omega) (by omega)]
        exact ⟨by omega, rfl⟩
  | succ t ih =>
    intro k M u6 hk h1 h2 hF
    obtain ⟨y1, y2⟩ := hpre k (by omega)
    obtain ⟨m', g1, g2⟩ := ih (k + 1) (up M 414 ((cod (wkS (HM m 401) p k) : Nat) : Int) (k : Nat)) (0, (wkS (HM m 401) p (k + 1)).2) (by omega) (fun i hi => by
      by_cases hik : i = k
      · subst hik; rw [up_eq]
      · rw [up_nk (fun z => y1 ⟨i, by omega, (hcd i k).mp (by omega)⟩)]
        exact h1 i (by omega)) (fun x hx hno => by
      rw [up_nk (fun z => hno k (by omega) (by omega))]
      exact h2 x hx (fun i hi => hno i (by omega))) (fun a b hab => by rw [up_ne hab]; exact hF a b hab)
    exact ⟨m', go k M u6 (by omega) y1 h2 hF _ (fun _ => g1) (fun z => absurd z y2), g2⟩
theorem mo_walk0 {d : Nat} {m : Mm} {x1 x2 : Int} {R : Int} {p : Int × Int} (hx1 : 0 ≤ x1 ∧ x1 ≤ 5) (hp : m 401 (11 + 2 * x1) = p.1 ∧ m 401 (12 + 2 * x1) = p.2) (hgo : ∀ M : Mm, (∀ x : Nat, x < 100 → M 414 (x : Nat) = -1) → (∀ a b, a ≠ 414 → M a b = m a b) → ∃ m', Ev (d + 4) K_Mo_walk 0 28 [(18, 400), (0, x1), (0, x2), (0, p.1), (0, p.2), (0, 0), (9, 0)] [] M (some (0, R), m') ∧ ∀ a b, a ≠ 414 → m' a b = m a b) : ∃ m', Ev (d + 4) K_Mo_walk 0 8 [(18, 400), (0, x1), (0, x2), (0, 0), (9, 0), (9, 0), (9, 0)] [] m (some (0, R), m') ∧ ∀ a b, a ≠ 414 → m' a b = m a b := by
  have lp : ∀ (t k : Nat) (M : Mm), k + t = 100 → (∀ x : Nat, x < k → M 414 (x : Nat) = -1) → (∀ a b, a ≠ 414 → M a b = m a b) → ∃ m', Ev (d + 4) K_Mo_walk 0 8 [(18, 400), (0, x1), (0, x2), (0, (k : Nat)), (9, 0), (9, 0), (9, 0)] [] M (some (0, R), m') ∧ ∀ a b, a ≠ 414 → m' a b = m a b := by
    intro t
    induction t with
    | zero =>
      intro k M hk h1 h2
      obtain rfl : k = 100 := by omega
      obtain ⟨m', g1, g2⟩ := hgo M h1 h2
      have c1 := c_Mo_cellOf (d := d + 3) (m := M) hx1
      have c2 := c_Mo_wayOf (d := d + 3) (m := M) hx1
      rw [h2 _ _ (by omega), hp.1] at c1
      rw [h2 _ _ (by omega), hp.2] at c2
      exact ⟨m', b_Mo_walk_8 ⟨fun _ => ⟨_, _, c1, _, _, c2, g1⟩, fun z => absurd (by omega) z⟩, g2⟩
    | succ t ih =>
      intro k M hk h1 h2
      obtain ⟨m', g1, g2⟩ := ih (k + 1) (up M 414 (k : Nat) (-1)) (by omega) (fun x hx => by
        by_cases hxk : x = k
        · subst hxk; rw [up_eq]
        · rw [up_nk (by omega)]; exact h1 x (by omega)) (fun a b hab => by rw [up_ne hab]; exact h2 a b hab)
      refine ⟨m', b_Mo_walk_8 ⟨fun z => by omega, fun _ => ⟨by omega, ?_⟩⟩, g2⟩
      rintro m3 rfl
      rw [w32s (by omega)]
      exact g1
  exact lp 100 0 m rfl (fun x hx => by omega) (fun _ _ _ => rfl)
theorem SM_414 {m m' : Mm} (h : ∀ a b, a ≠ 414 → m' a b = m a b) : SM m m' := fun a b hab => by
  by_cases ha : a = 414
  · exact absurd (by unfold scr; omega) hab
  · exact h a b ha
theorem op_walk {m : Mm} {x y : Int} (h : R m) : OP k_Th_walk k_Mo_walk 0 [(0, x), (0, y)] m := by
  obtain ⟨_, v8, v9, _⟩ := R_h h
  obtain ⟨o1, _⟩ := R_o h
  have hL : LSd m 129 (m 401) := h.1.1.1
  have hT : TRI m := h.2.2.2.2.2.2.2.1.1
  have hRC := LSd_RC hL
  obtain ⟨⟨t1, t2, t3⟩, _⟩ := LSd_t hL
  have hic := c_La_isCow (d := 119) (m := m) (o := 129) (x := x)
  rw [show m 129 1 = m 401 1 from t3] at hic
  by_cases hx : 0 ≤ x ∧ x < m 401 1
  · have nx : ¬ (if 0 ≤ x ∧ x < m 401 1 then (1 : Int) else 0) = 0 := by rw [ite_z1]; exact hx
    by_cases hh : m 401 (11 + 2 * x) = -1
    · have hhm := c_La_isHomeS (d := 119) hL hx
      rw [if_pos hh] at hhm
      obtain ⟨m', g1, g2⟩ := mo_walk0 (d := 116) (m := m) (x1 := x) (x2 := y) (R := if y = 0 then 0 else -1) (p := (m 401 (11 + 2 * x), m 401 (12 + 2 * x))) (by omega) ⟨rfl, rfl⟩ (fun M h1 h2 => ⟨M, b_Mo_walk_28 ⟨fun _ => b_Mo_walk_83 ⟨fun z => absurd hh z, fun _ => ⟨fun z => by rw [if_pos z], fun z => by rw [if_neg z]⟩⟩, fun z => absurd hh z⟩, h2⟩)
      refine OP_q h (v := if y = 0 then 0 else -1) (m1 := m) (cl_Th_walk (b_Th_walk ⟨_, _, hic, fun _ => ⟨_, _, hhm, fun z => by omega, fun _ => ⟨fun z => by rw [if_pos z], fun z => by rw [if_neg z]⟩⟩, fun z => absurd nx z⟩)) (cl_Mo_walk (b_Mo_walk ⟨_, _, c_Mo_isCow ⟨t1, t2⟩, fun _ => g1, fun z => absurd nx z⟩)) SM_refl (SM_414 g2)
    · have hhm := c_La_isHomeS (d := 119) hL hx
      rw [if_neg hh] at hhm
      have hcell : cellI (m 401 (11 + 2 * x)) := by
        rcases (hRC x hx.1 hx.2).1 with q | q
        · exact absurd q hh
        · exact q
      have hway := (hRC x hx.1 hx.2).2
      have hg : 0 ≤ m 401 31 ∧ m 401 31 < 33554432 := o1.2
      by_cases hon : onw (HS (m 401)) (m 401 (11 + 2 * x)) (m 401 (12 + 2 * x)) = -1
      · have hst := c_La_stepsHome (d := 115) hT hL hg hx hh (v := -1) (Or.inl ⟨hon, rfl⟩)
        have hri := c_La_ringOf (d := 115) hT hL hx hh (v := 0) (Or.inl ⟨hon, rfl⟩)
        rw [← o1.1] at hst
        obtain ⟨m', g1, g2⟩ := mo_walk0 (d := 116) (m := m) (x1 := x) (x2 := y) (R := if y = 0 then -1 else 0) (p := (m 401 (11 + 2 * x), m 401 (12 + 2 * x))) (by omega) ⟨rfl, rfl⟩ (fun M h1 h2 => by
          have e4 : M 401 = m 401 := by funext b; rw [h2 _ _ (by omega)]
          have hcI := hcell
          have hwI := hway
          unfold cellI at hcI
          unfold wayI at hwI
          have eix : w32 (w32 (4 * m 401 (11 + 2 * x)) + m 401 (12 + 2 * x)) = ((4 * m 401 (11 + 2 * x) + m 401 (12 + 2 * x)).toNat : Int) := by
            rw [w32n (x := 4 * m 401 (11 + 2 * x)) (by omega) (by omega), w32n (by omega) (by omega)]; omega
          have hnew := h1 (4 * m 401 (11 + 2 * x) + m 401 (12 + 2 * x)).toNat (by omega)
          obtain ⟨M1, hM1⟩ : ∃ M1, M1 = up M 414 ((4 * m 401 (11 + 2 * x) + m 401 (12 + 2 * x)).toNat : Int) 0 := ⟨_, rfl⟩
          have e5 : M1 401 = m 401 := by funext b; rw [hM1, up_ne (by omega), e4]
          have hO := c_Mo_onward (d := 116) (m := M1) (c := m 401 (11 + 2 * x)) (w := m 401 (12 + 2 * x)) (by rw [e5]; exact v8) (by rw [e5]; exact v9) hcell hway
          rw [HM_row e5] at hO
          have hon' : onw (HM m 401) (m 401 (11 + 2 * x)) (m 401 (12 + 2 * x)) = -1 := hon
          rw [hon'] at hO
          refine ⟨M1, b_Mo_walk_28 ⟨fun z => absurd z hh, fun _ => ?_⟩, fun a b hab => by rw [hM1, up_ne hab]; exact h2 a b hab⟩
          show (_ ∧ _)
          rw [eix]
          refine ⟨by omega, fun z => absurd hnew z, fun _ => ⟨by omega, ?_⟩⟩
          intro m1 hm1
          rw [← hM1] at hm1
          subst hm1
          exact ⟨_, _, hO, fun z => absurd rfl z, fun _ => ⟨fun z => by rw [if_pos z], fun z => by rw [if_neg z]⟩⟩)
        refine OP_q h (v := if y = 0 then -1 else 0) (m1 := m) (cl_Th_walk (b_Th_walk ⟨_, _, hic, fun _ => ⟨_, _, hhm, fun _ => ⟨_, _, hst, fun z => absurd rfl z, fun _ => ⟨fun z => ⟨_, _, hri, by rw [if_neg z]⟩, fun z => ⟨fun z2 => by rw [if_pos z2], fun z2 => absurd z2 z⟩⟩⟩, fun z => absurd rfl z⟩, fun z => absurd nx z⟩)) (cl_Mo_walk (b_Mo_walk ⟨_, _, c_Mo_isCow ⟨t1, t2⟩, fun _ => g1, fun z => absurd nx z⟩)) SM_refl (SM_414 g2)
      · have hon2 : onw (HM m 401) (m 401 (11 + 2 * x)) (m 401 (12 + 2 * x)) ≠ -1 := hon
        obtain ⟨N, n1, n2, n3⟩ := walk_end (H := HM m 401) (p := (m 401 (11 + 2 * x), m 401 (12 + 2 * x))) (g := bt_ (m 401 31)) hcell hway hon2
        rcases n3 with ⟨e1, e2, e3⟩ | ⟨j, j1, j2, j3, j4, j5⟩
        · have hst := c_La_stepsHome (d := 115) hT hL hg hx hh (v := ((N + 1 : Nat) : Int)) (Or.inr (Or.inr ⟨hon, N, e3, fun k hk => (n2 k hk).2, e2, rfl⟩))
          rw [← o1.1] at hst
          obtain ⟨m', g1, g2⟩ := mo_walk0 (d := 116) (m := m) (x1 := x) (x2 := y) (R := if y = 0 then ((N + 1 : Nat) : Int) else -1) (p := (m 401 (11 + 2 * x), m 401 (12 + 2 * x))) (by omega) ⟨rfl, rfl⟩ (fun M h1 h2 => by
            exact mo_walk (d := 116) (m := m) (p := (m 401 (11 + 2 * x), m 401 (12 + 2 * x))) v8 v9 hg hcell hway hon2 n1 n2 (Or.inl ⟨e1, e2, rfl⟩) N 0 M (9, 0) (by omega) (fun i hi => by omega) (fun x hx _ => h1 x hx) h2)
          refine OP_q h (v := if y = 0 then ((N + 1 : Nat) : Int) else -1) (m1 := m) (cl_Th_walk (b_Th_walk ⟨_, _, hic, fun _ => ⟨_, _, hhm, fun _ => ⟨_, _, hst, fun _ => ⟨fun z => by rw [if_pos z], fun z => by rw [if_neg z]⟩, fun z => absurd (by omega) z⟩, fun z => absurd rfl z⟩, fun z => absurd nx z⟩)) (cl_Mo_walk (b_Mo_walk ⟨_, _, c_Mo_isCow ⟨t1, t2⟩, fun _ => g1, fun z => absurd nx z⟩)) SM_refl (SM_414 g2)
        · have hst := c_La_stepsHome (d := 115) hT hL hg hx hh (v := -1) (Or.inr (Or.inl ⟨hon, j3, rfl⟩))
          have hri := c_La_ringOf (d := 115) hT hL hx hh (v := ((N - j : Nat) : Int)) (Or.inr ⟨hon, N - j, by omega, by omega, j4, j5, rfl⟩)
          rw [← o1.1] at hst
          obtain ⟨m', g1, g2⟩ := mo_walk0 (d := 116) (m := m) (x1 := x) (x2 := y) (R := if y = 0 then -1 else (N : Int) - j) (p := (m 401 (11 + 2 * x), m 401 (12 + 2 * x))) (by omega) ⟨rfl, rfl⟩ (fun M h1 h2 => by
            exact mo_walk (d := 116) (m := m) (p := (m 401 (11 + 2 * x), m 401 (12 + 2 * x))) v8 v9 hg hcell hway hon2 n1 n2 (Or.inr ⟨j, j1, j2, rfl⟩) N 0 M (9, 0) (by omega) (fun i hi => by omega) (fun x hx _ => h1 x hx) h2)
          refine OP_q h (v := if y = 0 then -1 else (N : Int) - j) (m1 := m) (cl_Th_walk (b_Th_walk ⟨_, _, hic, fun _ => ⟨_, _, hhm, fun _ => ⟨_, _, hst, fun z => absurd rfl z, fun _ => ⟨fun z => ⟨_, _, hri, ?_⟩, fun z => ⟨fun z2 => by rw [if_pos z2], fun z2 => absurd z2 z⟩⟩⟩, fun z => absurd rfl z⟩, fun z => absurd nx z⟩)) (cl_Mo_walk (b_Mo_walk ⟨_, _, c_Mo_isCow ⟨t1, t2⟩, fun _ => g1, fun z => absurd nx z⟩)) SM_refl (SM_414 g2)
          rw [if_neg z, show (N : Int) - j = ((N - j : Nat) : Int) by omega]
  · refine OP_e h (v := -1) (cl_Th_walk (b_Th_walk ⟨_, _, hic, fun z => ?_, fun _ => rfl⟩)) (cl_Mo_walk (b_Mo_walk ⟨_, _, c_Mo_isCow ⟨t1, t2⟩, fun z => ?_, fun _ => rfl⟩))
    · rw [ite_z1] at z; exact absurd z hx
    · rw [ite_z1] at z; exact absurd z hx
