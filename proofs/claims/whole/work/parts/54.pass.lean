/-! AN HOUR: rows -/
def anS (S : Int → Int) : Int → Int := ups S 7 ((S 7 * 587 + 457) % 30817)
def hrS (S : Int → Int) : Int → Int := ups S 6 (S 6 + 1)
def wr1 (S : Int → Int) : Int → Int := if S 10 = 30 then ups (fls S 1436 29 (fun j => S (1437 + j))) 10 29 else S
def wrS (S : Int → Int) (w k : Int) : Int → Int := ups (ups (wr1 S) (1436 + wr1 S 10) ((S 6 * 2 + w) * 40 + k)) 10 (wr1 S 10 + 1)
def wrF (f : Bool) (S : Int → Int) (w k : Int) : Int → Int := if f = true then wrS S w k else S
def wnS (f : Bool) (S : Int → Int) (c : Int) : Int → Int := if onw (HS S) (S (11 + 2 * c)) (S (12 + 2 * c)) = -1 then S else if gnS S c (onw (HS S) (S (11 + 2 * c)) (S (12 + 2 * c))) (11 + 2 * c) = -1 then wrF f (gnS S c (onw (HS S) (S (11 + 2 * c)) (S (12 + 2 * c)))) 1 c else gnS S c (onw (HS S) (S (11 + 2 * c)) (S (12 + 2 * c)))
def cwF (Lg : Option Ef) (f : Bool) (S : Int → Int) : Nat → Int → Int
  | 0 => S
  | k + 1 => if cwF Lg f S k (11 + 2 * k) ≠ -1 ∧ 0 < gov Lg (cwF Lg f S k) (k : Nat) then wnS f (cwF Lg f S k) (k : Nat) else cwF Lg f S k
def frS (Lf : Option Ef) (f : Bool) (S : Int → Int) : Int → Int := if HS (anS S) (S 7 % 40) = true then (if (anS S) 7 % 10 < frv Lf (anS (anS S)) (S 7 % 40) then hrS (wrF f (chS (anS (anS S)) (S 7 % 40)) 0 (S 7 % 40)) else hrS (anS (anS S))) else hrS (anS S)
def psS (Lf Lg : Option Ef) (f : Bool) (S : Int → Int) : Int → Int := frS Lf f (cwF Lg f S (S 1).toNat)
/-- a row that is in order -/
def RV (S : Int → Int) : Prop := hv20 (S 8) ∧ hv20 (S 9) ∧ (0 ≤ S 1 ∧ S 1 ≤ 5) ∧ (0 ≤ S 6 ∧ S 6 ≤ 9999) ∧ (0 ≤ S 7 ∧ S 7 < 30817) ∧ RC S ∧ (0 ≤ S 10 ∧ S 10 ≤ 30) ∧ (0 ≤ S 31 ∧ S 31 < 33554432)
theorem anS_k {S : Int → Int} {k : Int} (h : k ≠ 7) : anS S k = S k := ups_ne h
theorem hrS_k {S : Int → Int} {k : Int} (h : k ≠ 6) : hrS S k = S k := ups_ne h
theorem wr1_v {S : Int → Int} (h : 0 ≤ S 10 ∧ S 10 ≤ 30) : (0 ≤ wr1 S 10 ∧ wr1 S 10 < 30) ∧ (∀ k, k < 1436 → k ≠ 10 → wr1 S k = S k) ∧ (S 10 = 30 → wr1 S 10 = 29 ∧ ∀ j, 0 ≤ j → j < 29 → wr1 S (1436 + j) = S (1437 + j)) ∧ (S 10 ≠ 30 → wr1 S = S) := by
  unfold wr1
  by_cases h30 : S 10 = 30
  · rw [if_pos h30]
    refine ⟨by rw [ups_eq]; omega, fun k h1 h2 => by rw [ups_ne h2, fls_out (by omega)], fun _ => ⟨ups_eq, fun j h1 h2 => ?_⟩, fun z => absurd h30 z⟩
    rw [ups_ne (by omega), fls_in (by omega), show 1436 + j - 1436 = j by omega]
  · rw [if_neg h30]
    exact ⟨by omega, fun _ _ _ => rfl, fun z => absurd z h30, fun _ => rfl⟩
theorem wrS_k {S : Int → Int} {w k i : Int} (h : 0 ≤ S 10 ∧ S 10 ≤ 30) (h1 : i < 1436) (h2 : i ≠ 10) : wrS S w k i = S i := by
  obtain ⟨v1, v2, _⟩ := wr1_v h
  unfold wrS
  rw [ups_ne h2, ups_ne (by omega), v2 i h1 h2]
theorem wrF_k {f : Bool} {S : Int → Int} {w k i : Int} (h : 0 ≤ S 10 ∧ S 10 ≤ 30) (h1 : i < 1436) (h2 : i ≠ 10) : wrF f S w k i = S i := by
  unfold wrF
  split
  · exact wrS_k h h1 h2
  · rfl
theorem wrF_10 {f : Bool} {S : Int → Int} {w k : Int} (h : 0 ≤ S 10 ∧ S 10 ≤ 30) : 0 ≤ wrF f S w k 10 ∧ wrF f S w k 10 ≤ 30 := by
  obtain ⟨v1, _⟩ := wr1_v h
  unfold wrF
  split
  · unfold wrS
    rw [ups_eq]
    omega
  · exact h
theorem RC_con {S S' : Int → Int} (h : RC S) (h1 : S' 1 = S 1) (hk : ∀ k, 11 ≤ k → k < 21 → S' k = S k) (h5 : S 1 ≤ 5) : RC S' := by
  intro c c1 c2
  rw [h1] at c2
  rw [hk _ (by omega) (by omega), hk _ (by omega) (by omega)]
  exact h c c1 c2
theorem RV_an {S : Int → Int} (h : RV S) : RV (anS S) := by
  obtain ⟨h8, h9, h1, h6, h7, hc, h10, h31⟩ := h
  refine ⟨by rw [anS_k (by omega)]; exact h8, by rw [anS_k (by omega)]; exact h9, by rw [anS_k (by omega)]; exact h1, by rw [anS_k (by omega)]; exact h6, ?_, RC_con hc (anS_k (by omega)) (fun k _ _ => anS_k (by omega)) h1.2, by rw [anS_k (by omega)]; exact h10, by rw [anS_k (by omega)]; exact h31⟩
  unfold anS
  rw [ups_eq]
  omega
theorem RV_hr {S : Int → Int} (h : RV S) (h9 : S 6 < 9999) : RV (hrS S) := by
  obtain ⟨h8, h9', h1, h6, h7, hc, h10, h31⟩ := h
  refine ⟨by rw [hrS_k (by omega)]; exact h8, by rw [hrS_k (by omega)]; exact h9', by rw [hrS_k (by omega)]; exact h1, ?_, by rw [hrS_k (by omega)]; exact h7, RC_con hc (hrS_k (by omega)) (fun k _ _ => hrS_k (by omega)) h1.2, by rw [hrS_k (by omega)]; exact h10, by rw [hrS_k (by omega)]; exact h31⟩
  unfold hrS
  rw [ups_eq]
  omega
theorem RV_wr {f : Bool} {S : Int → Int} {w k : Int} (h : RV S) : RV (wrF f S w k) := by
  obtain ⟨h8, h9, h1, h6, h7, hc, h10, h31⟩ := h
  refine ⟨by rw [wrF_k h10 (by omega) (by omega)]; exact h8, by rw [wrF_k h10 (by omega) (by omega)]; exact h9, by rw [wrF_k h10 (by omega) (by omega)]; exact h1, by rw [wrF_k h10 (by omega) (by omega)]; exact h6, by rw [wrF_k h10 (by omega) (by omega)]; exact h7, RC_con hc (wrF_k h10 (by omega) (by omega)) (fun k _ _ => wrF_k h10 (by omega) (by omega)) h1.2, wrF_10 h10, by rw [wrF_k h10 (by omega) (by omega)]; exact h31⟩
theorem RV_ch {S : Int → Int} {x : Int} (h : RV S) (hx : hedI x) : RV (chS S x) := by
  obtain ⟨h8, h9, h1, h6, h7, hc, h10, h31⟩ := h
  obtain ⟨c1, c2, c3, c4⟩ := chS_v h8 h9 hx
  exact ⟨c1, c2, by rw [c3 _ (by omega) (by omega)]; exact h1, by rw [c3 _ (by omega) (by omega)]; exact h6, by rw [c3 _ (by omega) (by omega)]; exact h7, RC_con hc (c3 _ (by omega) (by omega)) (fun k _ _ => c3 _ (by omega) (by omega)) h1.2, by rw [c3 _ (by omega) (by omega)]; exact h10, by rw [c3 _ (by omega) (by omega)]; exact h31⟩
theorem RV_gn {S : Int → Int} {c w : Int} (h : RV S) (hc : 0 ≤ c ∧ c < S 1) (hh : S (11 + 2 * c) ≠ -1) (hw : wayI w) (hb : bey (S (11 + 2 * c)) w ≠ -1) : RV (gnS S c w) := by
  obtain ⟨h8, h9, h1, h6, h7, hrc, h10, h31⟩ := h
  have hcell : cellI (S (11 + 2 * c)) := by
    rcases (hrc c hc.1 hc.2).1 with q | q
    · exact absurd q hh
    · exact q
  have hbc := ((bey_hby (w := w) hcell).2 hb).2
  refine ⟨by rw [gnS_k (by omega) (by omega)]; exact h8, by rw [gnS_k (by omega) (by omega)]; exact h9, by rw [gnS_k (by omega) (by omega)]; exact h1, by rw [gnS_k (by omega) (by omega)]; exact h6, by rw [gnS_k (by omega) (by omega)]; exact h7, ?_, by rw [gnS_k (by omega) (by omega)]; exact h10, by rw [gnS_k (by omega) (by omega)]; exact h31⟩
  intro e e1 e2
  rw [gnS_k (by omega) (by omega)] at e2
  by_cases hec : e = c
  · subst hec
    rw [gnS_1.1, gnS_1.2]
    refine ⟨?_, hw⟩
    split
    · exact Or.inl rfl
    · exact Or.inr hbc
  · rw [gnS_k (by omega) (by omega), gnS_k (by omega) (by omega)]
    exact hrc e e1 e2
theorem wnS_on {S : Int → Int} {c : Int} (h : RV S) (hc : 0 ≤ c ∧ c < S 1) (hh : S (11 + 2 * c) ≠ -1) (hon : onw (HS S) (S (11 + 2 * c)) (S (12 + 2 * c)) ≠ -1) : cellI (S (11 + 2 * c)) ∧ wayI (S (12 + 2 * c)) ∧ wayI (onw (HS S) (S (11 + 2 * c)) (S (12 + 2 * c))) ∧ bey (S (11 + 2 * c)) (onw (HS S) (S (11 + 2 * c)) (S (12 + 2 * c))) ≠ -1 := by
  obtain ⟨_, _, _, _, _, hrc, _, _⟩ := h
  obtain ⟨q1, q2⟩ := hrc c hc.1 hc.2
  have hcell : cellI (S (11 + 2 * c)) := by
    rcases q1 with q | q
    · exact absurd q hh
    · exact q
  obtain ⟨v1, v2⟩ := onw_v q2 hon
  exact ⟨hcell, q2, v1, opn_bey v2⟩
theorem RV_wn {f : Bool} {S : Int → Int} {c : Int} (h : RV S) (hc : 0 ≤ c ∧ c < S 1) (hh : S (11 + 2 * c) ≠ -1) : RV (wnS f S c) := by
  unfold wnS
  split
  · exact h
  · rename_i hon
    obtain ⟨a1, a2, a3, a4⟩ := wnS_on h hc hh hon
    split
    · exact RV_wr (RV_gn h hc hh a3 a4)
    · exact RV_gn h hc hh a3 a4
theorem wnS_k {f : Bool} {S : Int → Int} {c k : Int} (h : 0 ≤ S 10 ∧ S 10 ≤ 30) (hc : 0 ≤ c ∧ c < 5) (hk : ¬ (6 ≤ k ∧ k < 21)) (hk2 : k < 1436) : wnS f S c k = S k := by
  have h10 : ∀ w, 0 ≤ gnS S c w 10 ∧ gnS S c w 10 ≤ 30 := fun w => by rw [gnS_k (by omega) (by omega)]; exact h
  unfold wnS
  split
  · rfl
  · split
    · rw [wrF_k (h10 _) hk2 (by omega), gnS_k (by omega) (by omega)]
    · rw [gnS_k (by omega) (by omega)]
theorem cwF_v {Lg : Option Ef} {f : Bool} {S : Int → Int} (h : RV S) : ∀ n : Nat, (n : Int) ≤ S 1 → RV (cwF Lg f S n) ∧ ∀ k, ¬ (6 ≤ k ∧ k < 21) → k < 1436 → cwF Lg f S n k = S k := by
  intro n
  induction n with
  | zero => exact fun _ => ⟨h, fun _ _ _ => rfl⟩
  | succ n ih =>
    intro hn
    obtain ⟨i1, i2⟩ := ih (by omega)
    have e1 := i2 1 (by omega) (by omega)
    have h1 := h.2.2.1
    unfold cwF
    split
    · rename_i hcd
      refine ⟨RV_wn i1 (by omega) hcd.1, fun k hk hk2 => ?_⟩
      rw [wnS_k i1.2.2.2.2.2.2.1 (by omega) hk hk2]
      exact i2 k hk hk2
    · exact ⟨i1, i2⟩
theorem wnS_6 {f : Bool} {S : Int → Int} {c k : Int} (h : 0 ≤ S 10 ∧ S 10 ≤ 30) (hc : 0 ≤ c ∧ c < 5) (hk : 6 ≤ k ∧ k < 10) : wnS f S c k = S k := by
  have h10 : ∀ w, 0 ≤ gnS S c w 10 ∧ gnS S c w 10 ≤ 30 := fun w => by rw [gnS_k (by omega) (by omega)]; exact h
  unfold wnS
  split
  · rfl
  · split
    · rw [wrF_k (h10 _) (by omega) (by omega), gnS_k (by omega) (by omega)]
    · rw [gnS_k (by omega) (by omega)]
theorem cwF_6 {Lg : Option Ef} {f : Bool} {S : Int → Int} (h : RV S) : ∀ n : Nat, (n : Int) ≤ S 1 → ∀ k, 6 ≤ k → k < 10 → cwF Lg f S n k = S k := by
  intro n
  induction n with
  | zero => exact fun _ _ _ _ => rfl
  | succ n ih =>
    intro hn k hk1 hk2
    have h1 := h.2.2.1
    have i1 := (cwF_v (Lg := Lg) (f := f) h n (by omega)).1
    unfold cwF
    split
    · rw [wnS_6 i1.2.2.2.2.2.2.1 (by omega) ⟨hk1, hk2⟩]
      exact ih (by omega) k hk1 hk2
    · exact ih (by omega) k hk1 hk2
theorem h40 {S : Int → Int} (h : RV S) : hedI (S 7 % 40) := by
  unfold hedI
  have := h.2.2.2.2.1
  omega
theorem frS_v {Lf : Option Ef} {f : Bool} {S : Int → Int} (h : RV S) (h9 : S 6 < 9999) : RV (frS Lf f S) ∧ ∀ k, ¬ (6 ≤ k ∧ k < 21) → k < 1436 → frS Lf f S k = S k := by
  have hx := h40 h
  have a1 := RV_an h
  have a2 := RV_an a1
  obtain ⟨c1, c2, c3, c4⟩ := chS_v (S := anS (anS S)) a2.1 a2.2.1 hx
  have a3 := RV_ch a2 hx
  have h10 := a3.2.2.2.2.2.2.1
  unfold frS
  split
  · split
    · refine ⟨RV_hr (RV_wr a3) ?_, fun k hk hk2 => ?_⟩
      · rw [wrF_k h10 (by omega) (by omega), c3 _ (by omega) (by omega), anS_k (by omega), anS_k (by omega)]; exact h9
      · rw [hrS_k (by omega), wrF_k h10 hk2 (by omega), c3 _ (by omega) (by omega), anS_k (by omega), anS_k (by omega)]
    · refine ⟨RV_hr a2 (by rw [anS_k (by omega), anS_k (by omega)]; exact h9), fun k hk hk2 => ?_⟩
      rw [hrS_k (by omega), anS_k (by omega), anS_k (by omega)]
  · refine ⟨RV_hr a1 (by rw [anS_k (by omega)]; exact h9), fun k hk hk2 => ?_⟩
    rw [hrS_k (by omega), anS_k (by omega)]
theorem psS_v {Lf Lg : Option Ef} {f : Bool} {S : Int → Int} (h : RV S) (h9 : S 6 < 9999) : RV (psS Lf Lg f S) ∧ ∀ k, ¬ (6 ≤ k ∧ k < 21) → k < 1436 → psS Lf Lg f S k = S k := by
  have h1 := h.2.2.1
  obtain ⟨i1, i2⟩ := cwF_v (Lg := Lg) (f := f) h (S 1).toNat (by omega)
  have e6 := cwF_6 (Lg := Lg) (f := f) h (S 1).toNat (by omega) 6 (by omega) (by omega)
  obtain ⟨j1, j2⟩ := frS_v (Lf := Lf) (f := f) i1 (by rw [e6]; exact h9)
  exact ⟨j1, fun k hk hk2 => by unfold psS; rw [j2 k hk hk2, i2 k hk hk2]⟩
/-! the class's land in an hour -/
theorem LSd_con {m m' : Mm} {o : Int} {S S' : Int → Int} (h : LSd m o S) (hm : ∀ a b, o ≤ a → a ≤ o + 2 → b ≠ 7 → m' a b = m a b) (hm7 : ∀ b, m' (o + 1) b = m (o + 1) b) (hm8 : ∀ b, m' (o + 2) b = m (o + 2) b) (hS : ∀ k, k = 1 ∨ (6 ≤ k ∧ k < 21 ∧ k ≠ 10) → S' k = S k) : LSd m' o S' := by
  obtain ⟨a1, a2, a3, a4, a5, a6⟩ := h
  unfold LSd
  rw [hS 1 (by omega)]
  refine ⟨?_, ?_, ?_, ?_, ?_, ?_⟩
  · show hv20 (S' (6 + 2)) ∧ hv20 (S' (6 + 3)) ∧ m' o 0 = (cmb (S' (6 + 2)) (S' (6 + 3)) : Nat)
    rw [hS _ (by omega), hS _ (by omega), hm o 0 (by omega) (by omega) (by omega)]
    exact a1
  · rw [hm o 1 (by omega) (by omega) (by omega)]; exact a2
  · show 0 ≤ S' (6 + 0) ∧ S' (6 + 0) ≤ 9999 ∧ m' o 5 = S' (6 + 0)
    rw [hS _ (by omega), hm o 5 (by omega) (by omega) (by omega)]; exact a3
  · show 0 ≤ S' (6 + 1) ∧ S' (6 + 1) < 30817 ∧ m' o 6 = S' (6 + 1)
    rw [hS _ (by omega), hm o 6 (by omega) (by omega) (by omega)]; exact a4
  · rw [hm o 4 (by omega) (by omega) (by omega)]; exact a5
  · intro c hc
    show cellI _ ∧ wayI _ ∧ S' (6 + (5 + 2 * (c : Int))) = _ ∧ S' (6 + (6 + 2 * (c : Int))) = _
    rw [hm7, hm8, hm o 4 (by omega) (by omega) (by omega), hS _ (by omega), hS _ (by omega)]
    exact a6 c hc
theorem LSd_RV {m : Mm} {o : Int} {S : Int → Int} (h : LSd m o S) (hk : LSk m o S) (hg : 0 ≤ S 31 ∧ S 31 < 33554432) : RV S := by
  obtain ⟨h8, h9, _⟩ := LSd_h h
  obtain ⟨t1, _, _, t4, t5⟩ := LSd_t h
  have h10 : 0 ≤ S 10 ∧ S 10 ≤ 30 ∧ m o 7 = S 10 := hk.1
  exact ⟨h8, h9, by omega, by omega, by omega, LSd_RC h, by omega, hg⟩
theorem c_La_draw {d : Nat} {m : Mm} {L : Int} {S : Int → Int} (h : LSd m L S) (hk : LSk m L S) : ∃ m', Cl d k_La_draw [(13, L)] m (some (0, S 7), m') ∧ LSd m' L (anS S) ∧ LSk m' L (anS S) ∧ (∀ a b, a ≠ L → m' a b = m a b) := by
  obtain ⟨t1, _, _, t4, t5⟩ := LSd_t h
  have ev : irm (w32 (w32 (S 7 * 587) + 457)) 30817 = (S 7 * 587 + 457) % 30817 := by
    rw [w32n (x := S 7 * 587) (by omega) (by omega), w32n (by omega) (by omega), irm_n (by omega) (by omega) (by omega) (by omega)]
  refine ⟨up m L 6 ((S 7 * 587 + 457) % 30817), cl_La_draw (b_La_draw ?_), ?_, ?_, fun a b hab => up_ne hab⟩
  · rintro m1 rfl
    rw [t5.2.2, ev]
  · obtain ⟨a1, a2, a3, a4, a5, a6⟩ := h
    unfold LSd
    rw [anS_k (by omega)]
    refine ⟨?_, ?_, ?_, ?_, ?_, ?_⟩
    · show hv20 (anS S (6 + 2)) ∧ hv20 (anS S (6 + 3)) ∧ _ = ((cmb (anS S (6 + 2)) (anS S (6 + 3)) : Nat) : Int)
      rw [anS_k (by omega), anS_k (by omega), up_nk (by omega)]; exact a1
    · rw [up_nk (by omega)]; exact a2
    · show 0 ≤ anS S (6 + 0) ∧ anS S (6 + 0) ≤ 9999 ∧ _ = anS S (6 + 0)
      rw [anS_k (by omega), up_nk (by omega)]; exact a3
    · show 0 ≤ anS S 7 ∧ anS S 7 < 30817 ∧ _ = anS S 7
      unfold anS
      rw [ups_eq, up_eq]
      omega
    · rw [up_nk (by omega)]; exact a5
    · intro c hc
      show cellI _ ∧ wayI _ ∧ anS S (6 + (5 + 2 * (c : Int))) = _ ∧ anS S (6 + (6 + 2 * (c : Int))) = _
      rw [up_ne (by omega), up_ne (by omega), up_nk (by omega), anS_k (by omega), anS_k (by omega)]
      exact a6 c hc
  · exact LSk_con2 hk (up_nk (by omega)) (fun b => up_ne (by omega)) ⟨anS_k (by omega), fun k hk => anS_k (by omega)⟩
theorem c_La_hr {m : Mm} {L : Int} {S : Int → Int} (h : LSd m L S) (hk : LSk m L S) (h9 : S 6 < 9999) : w32 (m L 5 + 1) = S 6 + 1 ∧ LSd (up m L 5 (S 6 + 1)) L (hrS S) ∧ LSk (up m L 5 (S 6 + 1)) L (hrS S) := by
  obtain ⟨t1, _, _, t4, t5⟩ := LSd_t h
  refine ⟨by rw [t4.2.2, w32n (by omega) (by omega)], ?_, ?_⟩
  · obtain ⟨a1, a2, a3, a4, a5, a6⟩ := h
    unfold LSd
    rw [hrS_k (by omega)]
    refine ⟨?_, ?_, ?_, ?_, ?_, ?_⟩
    · show hv20 (hrS S (6 + 2)) ∧ hv20 (hrS S (6 + 3)) ∧ _ = ((cmb (hrS S (6 + 2)) (hrS S (6 + 3)) : Nat) : Int)
      rw [hrS_k (by omega), hrS_k (by omega), up_nk (by omega)]; exact a1
    · rw [up_nk (by omega)]; exact a2
    · show 0 ≤ hrS S 6 ∧ hrS S 6 ≤ 9999 ∧ _ = hrS S 6
      unfold hrS
      rw [ups_eq, up_eq]
      omega
    · show 0 ≤ hrS S (6 + 1) ∧ hrS S (6 + 1) < 30817 ∧ _ = hrS S (6 + 1)
      rw [hrS_k (by omega), up_nk (by omega)]; exact a4
    · rw [up_nk (by omega)]; exact a5
    · intro c hc
      show cellI _ ∧ wayI _ ∧ hrS S (6 + (5 + 2 * (c : Int))) = _ ∧ hrS S (6 + (6 + 2 * (c : Int))) = _
      rw [up_ne (by omega), up_ne (by omega), up_nk (by omega), hrS_k (by omega), hrS_k (by omega)]
      exact a6 c hc
  · exact LSk_con2 hk (up_nk (by omega)) (fun b => up_ne (by omega)) ⟨hrS_k (by omega), fun k hk => hrS_k (by omega)⟩
theorem c_La_write {d : Nat} {m : Mm} {L w k : Int} {S : Int → Int} (h : LSd m L S) (hk : LSk m L S) (hw : 0 ≤ w ∧ w ≤ 1) (hkk : 0 ≤ k ∧ k < 40) : ∃ m', Cl d k_La_write [(13, L), (0, w), (0, k)] m (none, m') ∧ LSd m' L (wrS S w k) ∧ LSk m' L (wrS S w k) ∧ (∀ a b, a ≠ L → a ≠ L + 3 → m' a b = m a b) ∧ (∀ b, b ≠ 7 → m' L b = m L b) := by
  obtain ⟨t1, _, _, t4, t5⟩ := LSd_t h
  have h10 : 0 ≤ S 10 ∧ S 10 ≤ 30 ∧ m L 7 = S 10 := hk.1
  have hln : ∀ i : Nat, (i : Int) < S 10 → LN (m (L + 3) i) (S (1436 + i)) := hk.2
  obtain ⟨v1, v2, v3, v4⟩ := wr1_v (S := S) (by omega)
  -- behind the shift
  have tail : ∀ M : Mm, M L 7 = wr1 S 10 → (∀ b, b ≠ 7 → M L b = m L b) → (∀ a b, a ≠ L → a ≠ L + 3 → M a b = m a b) → (∀ i : Nat, (i : Int) < wr1 S 10 → LN (M (L + 3) i) (wr1 S (1436 + i))) → ∃ m', Ev d K_La_write 3 18 [(13, L), (0, w), (0, k)] [] M (none, m') ∧ LSd m' L (wrS S w k) ∧ LSk m' L (wrS S w k) ∧ (∀ a b, a ≠ L → a ≠ L + 3 → m' a b = m a b) ∧ (∀ b, b ≠ 7 → m' L b = m L b) := by
    intro M e7 eo ef el
    have e5 : M L 5 = S 6 := by rw [eo _ (by omega), t4.2.2]
    have ev : w32 (w32 (w32 (S 6 * 100) + w32 (w * 50)) + k) = 100 * S 6 + 50 * w + k := by
      rw [w32n (x := S 6 * 100) (by omega) (by omega), w32n (x := w * 50) (by omega) (by omega), w32n (x := S 6 * 100 + w * 50) (by omega) (by omega), w32n (by omega) (by omega)]
      omega
    obtain ⟨M', hM'⟩ : ∃ M', M' = up (up M (L + 3) (wr1 S 10) (100 * S 6 + 50 * w + k)) L 7 (wr1 S 10 + 1) := ⟨_, rfl⟩
    have o1 : ∀ b, b ≠ 7 → M' L b = m L b := fun b hb => by rw [hM', up_nk hb, up_ne (by omega), eo b hb]
    have o2 : ∀ a b, a ≠ L → a ≠ L + 3 → M' a b = m a b := fun a b z1 z2 => by rw [hM', up_ne z1, up_ne z2, ef a b z1 z2]
    refine ⟨M', b_La_write_18 ?_, ?_, ?_, o2, o1⟩
    · rw [e7, e5, ev]
      refine ⟨by omega, ?_⟩
      intro m1 hm1 m2 hm2
      have q7 : m1 L 7 = wr1 S 10 := by rw [hm1, up_ne (by omega), e7]
      rw [q7, w32n (by omega) (by omega), hm1, ← hM'] at hm2
      rw [hm2]
    · refine LSd_con h (fun a b z1 z2 z3 => ?_) (fun b => o2 _ b (by omega) (by omega)) (fun b => o2 _ b (by omega) (by omega)) (fun k' hk' => wrS_k (by omega) (by omega) (by omega))
      by_cases ha : a = L
      · rw [ha]; exact o1 b z3
      · exact o2 a b ha (by omega)
    · refine ⟨?_, ?_⟩
      · show 0 ≤ wrS S w k 10 ∧ wrS S w k 10 ≤ 30 ∧ M' L 7 = wrS S w k 10
        unfold wrS
        rw [ups_eq, hM', up_eq]
        omega
      · intro i hi
        have hi' : (i : Int) < wr1 S 10 + 1 := by
          have : wrS S w k 10 = wr1 S 10 + 1 := by unfold wrS; rw [ups_eq]
          have hi2 : (i : Int) < wrS S w k 10 := hi
          omega
        show LN (M' (L + 3) i) (wrS S w k (1436 + (i : Int)))
        unfold wrS
        rw [hM', up_ne (by omega), ups_ne (by omega)]
        by_cases hie : (i : Int) = wr1 S 10
        · rw [hie, up_eq, ups_eq]
          exact ⟨S 6, w, k, by omega, by omega, by omega, by omega, by omega, by omega, by omega, by omega⟩
        · rw [up_nk hie, ups_ne (by omega)]
          exact el i (by omega)
  by_cases h30 : S 10 = 30
  · obtain ⟨w1, w2⟩ := v3 h30
    obtain ⟨M, hM⟩ : ∃ M, M = up (cpy m (L + 3) 1 (L + 3) 0 29) L 7 29 := ⟨_, rfl⟩
    obtain ⟨m', g1, g2⟩ := tail M (by rw [hM, up_eq, w1]) (fun b hb => by rw [hM, up_nk hb, cpy_fil, fil_ne (by omega)]) (fun a b z1 z2 => by rw [hM, up_ne z1, cpy_fil, fil_ne z2]) (fun i hi => by
      rw [w1] at hi
      rw [hM, up_ne (by omega), cpy_fil, fil_in (by omega), w2 i (by omega) (by omega)]
      have := hln (i + 1) (by omega)
      rw [show ((i + 1 : Nat) : Int) = (i : Int) + 1 by omega] at this
      rw [show (1 : Int) + ((i : Int) - 0) = (i : Int) + 1 by omega, show (1437 : Int) + i = 1436 + ((i : Int) + 1) by omega]
      exact this)
    refine ⟨m', cl_La_write (b_La_write ⟨fun z => absurd (by omega) z, fun _ => ?_⟩), g2⟩
    intro m1 hm1 m2 hm2
    rw [hm1, cpy_fil, fil_ne (by omega), h10.2.2, h30, w32n (by omega) (by omega), ← cpy_fil] at hm2
    have hm3 : m2 = M := by rw [hm2, hM]; rfl
    rw [hm3]
    exact g1
  · rw [v4 h30] at tail v1
    obtain ⟨m', g1, g2⟩ := tail m h10.2.2 (fun _ _ => rfl) (fun _ _ _ _ => rfl) hln
    exact ⟨m', cl_La_write (b_La_write ⟨fun _ => g1, fun z => absurd (by omega) z⟩), g2⟩
