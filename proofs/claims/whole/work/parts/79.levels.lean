/-! THE TWO PARSERS: from one to sums; what is asked -/
def os_ (B : Int → Int) (L : Nat) (t so : Int) (q s w o : Nat) (π : List Int) (m N : Mm) (q' s' w' : Nat) (wh : Int) (m' N' : Mm) : Prop :=
  CSt B L (16 + so) m' q' s' (o : Nat) ∧ FCl s m m' ∧ MSt B L t so N' q' w' π (o : Nat) wh ∧ FMo t w N N' ∧ (q < q' ∧ q' ≤ L ∧ s' + q ≤ q' + s ∧ w' + q ≤ q' + w ∧ s ≤ s' ∧ w ≤ w') ∧ WX (cC m') (cO t N') (cV t N') so false s s' w w' ∧ ∀ (r : Option Vv × Mm) (u : Vv), RE2 4 N' r → lp_ N u r
def rO_ (B : Int → Int) (L : Nat) (t so : Int) (q s w o : Nat) (π : List Int) (m N : Mm) : Prop := (∃ q' s' w' wh m' N', Cl (dpA o) k_Rd_one [(15, 80)] m (some (0, 1), m') ∧ os_ B L t so q s w o π m N q' s' w' wh m' N') ∨ (∃ f p, 0 < f ∧ cf_ (dpA o) k_Rd_one [(15, 80)] m s f p ∧ mf_ t w N f p)
def sO_ (B : Int → Int) (L : Nat) (t so : Int) (n : Nat) : Prop := ∀ (q s w o : Nat) (π : List Int) (m N : Mm), L - q < n → pre_ B L t so q s w o π m N 0 → (tkT B L q = 42 → askA π = false) → rO_ B L t so q s w o π m N
def sS_ (B : Int → Int) (L : Nat) (t so : Int) (n : Nat) : Prop := ∀ (q s w o : Nat) (π : List Int) (m N : Mm), L - q < n → pre_ B L t so q s w o π m N 2 → (∀ x r, π = x :: r → rk x < 5 ∧ x ≠ 41) → (tkT B L q = 42 → askA π = false) → sv_ B L t so k_Rd_sum (dpA o + 2) false 5 2 (fun T => T ≠ 7 ∧ T ≠ 8 ∧ T ≠ 9 ∧ T ≠ 10) q s w o π m N
def sK_ (B : Int → Int) (L : Nat) (t so : Int) (n : Nat) : Prop := ∀ (q s w o : Nat) (π : List Int) (m N : Mm), L - q < n → pre_ B L t so q s w o π m N 3 → askA π = true → sv_ B L t so k_Rd_ask (dpA o + 3) true 3 (11 - o) (fun T => T ≠ 7 ∧ T ≠ 8 ∧ T ≠ 9 ∧ T ≠ 10) q s w o π m N
def sE_ (B : Int → Int) (L : Nat) (t so : Int) (n : Nat) : Prop := ∀ (q s w o : Nat) (π : List Int) (m N : Mm), L - q < n → pre_ B L t so q s w o (42 :: π) m N 5 → sv_ B L t so k_Rd_either (dpA o + 5) true 1 (13 - o) (fun T => T ≠ 40 ∧ T ≠ 41 ∧ T ≠ 7 ∧ T ≠ 8 ∧ T ≠ 9 ∧ T ≠ 10) q s w o (42 :: π) m N
theorem pre_le {B : Int → Int} {L : Nat} {t so : Int} {q s w o c c' : Nat} {π : List Int} {m N : Mm} (h : pre_ B L t so q s w o π m N c) (hc : c' ≤ c) : pre_ B L t so q s w o π m N c' := ⟨h.1, h.2.1, h.2.2.1, h.2.2.2.1, h.2.2.2.2.1, h.2.2.2.2.2.1, by have := h.2.2.2.2.2.2; omega⟩
theorem askA_f {x : Int} {π : List Int} (h : x ≠ 42) (h2 : ¬ (1 ≤ rk x ∧ rk x ≤ 3)) : askA (x :: π) = false := by
  show (decide (opW (x :: π) = 42) && decide (40 ≤ x ∨ (1 ≤ rk x ∧ rk x ≤ 3))) = false
  by_cases hx : 40 ≤ x
  · have e : opW (x :: π) = x := if_pos hx
    rw [e, decide_eq_false h, Bool.false_and]
  · rw [decide_eq_false (p := 40 ≤ x ∨ (1 ≤ rk x ∧ rk x ≤ 3)) (by rintro (y | y); exact hx y; exact h2 y), Bool.and_false]
theorem askA_t {π : List Int} (h : askA π = true) : ∃ x r, π = x :: r ∧ opW π = 42 ∧ (x = 42 ∨ (x < 40 ∧ 1 ≤ rk x ∧ rk x ≤ 3)) := by
  cases π with
  | nil => exact absurd h (by decide)
  | cons x r =>
    have e : (decide (opW (x :: r) = 42) && decide (40 ≤ x ∨ (1 ≤ rk x ∧ rk x ≤ 3))) = true := h
    rw [Bool.and_eq_true, decide_eq_true_eq, decide_eq_true_eq] at e
    refine ⟨x, r, rfl, e.1, ?_⟩
    rcases e.2 with y | y
    · left
      have e2 : opW (x :: r) = x := if_pos y
      rw [← e2]; exact e.1
    · exact Or.inr ⟨rk_40 y.1, y⟩
theorem askA_c {x : Int} {π : List Int} (h : opW π = 42) (hx : x < 40) (h2 : 1 ≤ rk x ∧ rk x ≤ 3) : askA (x :: π) = true := by
  show (decide (opW (x :: π) = 42) && decide (40 ≤ x ∨ (1 ≤ rk x ∧ rk x ≤ 3))) = true
  have e : opW (x :: π) = opW π := if_neg (by omega)
  rw [e, decide_eq_true h, decide_eq_true (p := 40 ≤ x ∨ (1 ≤ rk x ∧ rk x ≤ 3)) (Or.inr h2)]
  rfl
theorem askA_cm {π : List Int} (h : askA π = true) : cmpd π = false := by
  obtain ⟨x, r, rfl, _, h2⟩ := askA_t h
  have hr : rk x ≤ 3 := by
    rcases h2 with rfl | y
    · decide
    · omega
  show (if rk x ≤ 4 then decide (rk x = 4) else cmpd r) = false
  rw [if_pos (by omega), decide_eq_false (by omega)]
/-- one, then nothing waits for it -/
theorem one_w {B : Int → Int} {L : Nat} {t so : Int} {n : Nat} (hT : TPE B L) (hO : sO_ B L t so n) {q s w o : Nat} {π : List Int} {m N : Mm} (hn : L - q < n) (hp : pre_ B L t so q s w o π m N 0) (h42 : tkT B L q = 42 → askA π = false) (hπ : ∀ x r, π = x :: r → rk x < 7 ∧ x ≠ 41) : sv_ B L t so k_Rd_one (dpA o) false 7 0 (fun T => T = T) q s w o π m N := by
  have hp6 := hp.2.2
  rcases hO q s w o π m N hn hp h42 with ⟨q', s', w', wh, m', N', g1, a1, a2, a3, a4, a5, a6, a7⟩ | h
  · obtain ⟨r1, r2, r3⟩ := RE2_stop (d := 3) a3 (by omega) hπ
    refine Or.inl ⟨q', s', w', [], m', up N' 400 19 1, g1, ⟨a1, a2, ?_, a4.tr r2 a5.2.2.2.2.2, ⟨a5.1, a5.2.1, a5.2.2.1, a5.2.2.2.1, a5.2.2.2.2.1, a5.2.2.2.2.2⟩, ?_, fun x hx => absurd hx (by simp), fun z => absurd z (by decide), fun r u hr => a7 r u (r3 r hr)⟩, Nat.le_refl _, rfl⟩
    · rw [show (o : Int) + shN [] = (o : Nat) from Int.add_zero _]
      exact r1
    · refine pnd_0 (WX_ext a6 (fun _ _ _ => rfl) (fun j _ _ => ⟨up_ne (by omega), up_ne (by omega)⟩))
  · exact Or.inr h
theorem sS_of {B : Int → Int} {L : Nat} {t so : Int} {n : Nat} (hT : TPE B L) (h0 : 0 ≤ t ∧ t ≤ 2043) (hO : sO_ B L t so n) : sS_ B L t so n := by
  have hP : ∀ (q s w o : Nat) (π : List Int) (m N : Mm), L - q < n → pre_ B L t so q s w o π m N 1 → (∀ x r, π = x :: r → rk x < 6 ∧ x ≠ 41) → (tkT B L q = 42 → askA π = false) → sv_ B L t so k_Rd_product (dpA o + 1) false 6 1 (fun T => T ≠ 9 ∧ T ≠ 10) q s w o π m N := by
    intro q s w o π m N hn hp hπ h42
    refine product_of hT h0 (by unfold dpA; omega) (fun q2 s2 w2 v m2 N2 hq hp2 hv => ?_) hp (fun x r e => (hπ x r e).1) (one_w hT hO hn (pre_le hp (by omega)) h42 (fun x r e => ⟨by have := (hπ x r e).1; omega, (hπ x r e).2⟩))
    have hv2 : rk v = 6 ∧ v ≠ 41 ∧ v ≠ 42 := by rcases hv with rfl | rfl <;> decide
    exact one_w hT hO (by omega) hp2 (fun _ => askA_f hv2.2.2 (by omega)) (fun x r e => by obtain ⟨rfl, _⟩ := List.cons.inj e; exact ⟨by omega, hv2.2.1⟩)
  intro q s w o π m N hn hp hπ h42
  refine sum_of hT h0 (by unfold dpA; omega) (fun q2 s2 w2 v m2 N2 hq hp2 hv => ?_) hp (fun x r e => (hπ x r e).1) (hP q s w o π m N hn (pre_le hp (by omega)) (fun x r e => ⟨by have := (hπ x r e).1; omega, (hπ x r e).2⟩) h42)
  have hv2 : rk v = 5 ∧ v ≠ 41 ∧ v ≠ 42 := by rcases hv with rfl | rfl <;> decide
  exact hP q2 s2 w2 o (v :: π) m2 N2 (by omega) hp2 (fun x r e => by obtain ⟨rfl, _⟩ := List.cons.inj e; exact ⟨by omega, hv2.2.1⟩) (fun _ => askA_f hv2.2.2 (by omega))
theorem sE_of {B : Int → Int} {L : Nat} {t so : Int} {n : Nat} (hT : TPE B L) (h0 : 0 ≤ t ∧ t ≤ 2043) (hK : sK_ B L t so n) : sE_ B L t so n := by
  have hP : ∀ (q s w o : Nat) (π : List Int) (m N : Mm), L - q < n → pre_ B L t so q s w o π m N 4 → askA π = true → (∀ x r, π = x :: r → rk x < 2) → sv_ B L t so k_Rd_both (dpA o + 4) true 2 (12 - o) (fun T => T ≠ 41 ∧ T ≠ 7 ∧ T ≠ 8 ∧ T ≠ 9 ∧ T ≠ 10) q s w o π m N := by
    intro q s w o π m N hn hp hA hπ
    obtain ⟨x, r, e1, e2, e3⟩ := askA_t hA
    refine both_of hT h0 (by unfold dpA; omega) (fun q2 s2 w2 v m2 N2 hq hp2 hv => ?_) hp hπ e2 (hK q s w o π m N hn (pre_le hp (by omega)) hA)
    subst hv
    exact hK q2 s2 w2 o (21 :: π) m2 N2 (by omega) hp2 (askA_c e2 (by decide) (by decide))
  intro q s w o π m N hn hp
  have hA : askA (42 :: π) = true := rfl
  refine either_of hT h0 (by unfold dpA; omega) (fun q2 s2 w2 v m2 N2 hq hp2 hv => ?_) hp (fun x r e => by obtain ⟨rfl, _⟩ := List.cons.inj e; decide) rfl (hP q s w o (42 :: π) m N hn (pre_le hp (by omega)) hA (fun x r e => by obtain ⟨rfl, _⟩ := List.cons.inj e; decide))
  subst hv
  exact hP q2 s2 w2 o (22 :: 42 :: π) m2 N2 (by omega) hp2 (askA_c rfl (by decide) (by decide)) (fun x r e => by obtain ⟨rfl, _⟩ := List.cons.inj e; decide)
/-! what is open around something -/
theorem nested_8 {d L q s : Nat} {B : Int → Int} {lw : Int} {m : Mm} (h : CSt B L lw m q s ((8 : Nat) : Int)) : cf_ (d + 1) k_Rd_nested [(15, 80)] m s 3 q := by
  obtain ⟨m', c1, c2, c3⟩ := refuse_c (d := d) (f := 3) h
  have e := h.2.2.1
  exact ⟨m', cl_Rd_nested (b_Rd_nested ⟨fun z => by omega, fun _ => ⟨0, m', c1, Or.inl rfl, rfl⟩⟩), c2, c3⟩
theorem nested_c {d L q s o : Nat} {B : Int → Int} {lw : Int} {m : Mm} (hT : TPE B L) (h : CSt B L lw m q s (o : Nat)) (ho : o < 8) : ∃ m2, CSt B L lw m2 (nxQ B L q) s ((o + 1 : Nat) : Int) ∧ FCl s m m2 ∧ ∀ (v : Int) (m3 : Mm), (v = 0 ∨ v = 1) → Cl (d + 2) k_Rd_inside [(15, 80), (0, tkT B L q)] m2 (some (0, v), m3) → Cl (d + 3) k_Rd_nested [(15, 80)] m (some (0, v), up m3 80 11 (w32 (m3 80 11 - 1))) := by
  obtain ⟨h1, h2, h3, h4⟩ := h
  have e6 : m 80 6 = tkT B L q := h1.2.2.2.1
  have e1 : CTk B L (up m 80 11 ((o + 1 : Nat) : Int)) q := CTk_con h1 (fun b hb => up_nk (by omega)) (fun b => up_ne (by omega))
  obtain ⟨m2, c1, c2, c3⟩ := adv_c (d := d) hT e1
  refine ⟨m2, ⟨c2, by rw [c3 _ _ (by omega), up_ne (by omega)]; exact h2, by rw [c3 _ _ (by omega), up_eq], by rw [c3 _ _ (by omega), up_nk (by omega)]; exact h4⟩, fun a b x y z => ?_, fun v m3 hv hc => cl_Rd_nested (b_Rd_nested ⟨fun _ => ?_, fun z => by omega⟩)⟩
  · rw [c3 a b (by omega)]
    unfold up
    rw [if_neg (by omega)]
  · rintro m1 rfl
    rw [h3, w32s (by omega), e6]
    refine ⟨m2, c1, v, m3, hc, ?_⟩
    rintro m4 rfl
    exact ⟨hv, rfl⟩
theorem nest_ok {L q s o : Nat} {B : Int → Int} {lw : Int} {m : Mm} (h : CSt B L lw m q s ((o + 1 : Nat) : Int)) (ho : o < 8) : CSt B L lw (up m 80 11 (w32 (m 80 11 - 1))) q s (o : Nat) := by
  obtain ⟨h1, h2, h3, h4⟩ := h
  refine ⟨CTk_con h1 (fun b hb => up_nk (by omega)) (fun b => up_ne (by omega)), by rw [up_ne (by omega)]; exact h2, ?_, by rw [up_nk (by omega)]; exact h4⟩
  rw [up_eq, h3, w32n (by omega) (by omega)]
  omega
theorem nest_F {k : Int} {s : Nat} {m m3 : Mm} {v : Int} (h : FCk k s m m3) (hk : k ≤ 11 := by decide) : FCk k s m (up m3 80 11 v) := fun a b x y z => by
  rw [← h a b x y z]
  unfold up
  rw [if_neg (by omega)]
theorem nest_f {m : Mm} {f v : Int} {p : Nat} (h : flt_ m f p) : flt_ (up m 80 11 v) f p := ⟨by rw [up_nk (by omega)]; exact h.1, by rw [up_nk (by omega)]; exact h.2⟩
/-- a fault inside -/
theorem nested_f {d L q s p : Nat} {B : Int → Int} {f : Int} {m m2 : Mm} (hF : FCl s m m2) (hc : ∀ (v : Int) (m3 : Mm), (v = 0 ∨ v = 1) → Cl (d + 2) k_Rd_inside [(15, 80), (0, tkT B L q)] m2 (some (0, v), m3) → Cl (d + 3) k_Rd_nested [(15, 80)] m (some (0, v), up m3 80 11 (w32 (m3 80 11 - 1)))) {s2 : Nat} (hs : s ≤ s2) (h : cf_ (d + 2) k_Rd_inside [(15, 80), (0, tkT B L q)] m2 s2 f p) : cf_ (d + 3) k_Rd_nested [(15, 80)] m s f p := by
  obtain ⟨m3, h1, h2, h3⟩ := h
  exact ⟨_, hc 0 m3 (Or.inl rfl) h1, nest_f h2, nest_F (hF.tr h3 hs)⟩
theorem mo_place {B : Int → Int} {L : Nat} {t so o wh : Int} {N : Mm} {q w : Nat} {π : List Int} (h : MSt B L t so N q w π o wh) : N 400 9 = (q : Nat) := h.1.2.2.2.2.1
