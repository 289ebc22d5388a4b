/-! THE MODEL'S ROW OF HOW FAR -/
def sumF (f : Nat → Nat) : Nat → Nat
  | 0 => 0
  | k + 1 => sumF f k + f k
theorem sumF_le {f g : Nat → Nat} (h : ∀ i, f i ≤ g i) : ∀ k, sumF f k ≤ sumF g k := by
  intro k
  induction k with
  | zero => exact Nat.le_refl _
  | succ k ih => unfold sumF; have := h k; omega
theorem sumF_lt {f g : Nat → Nat} (h : ∀ i, f i ≤ g i) : ∀ k j, j < k → f j < g j → sumF f k < sumF g k := by
  intro k
  induction k with
  | zero => intro j hj; omega
  | succ k ih =>
    intro j hj hlt
    unfold sumF
    have h1 := h k
    by_cases hjk : j = k
    · subst hjk
      have := sumF_le h j
      omega
    · have := ih j (by omega) hlt
      omega
def muF (M : Mm) : Nat := sumF (fun c => (M 411 (c : Nat)).toNat) 25
/-- how far by levels: P k c: c is at most k off -/
def LVL (H : Int → Bool) (x : Int) (s : Nat) (P : Nat → Nat → Prop) : Prop :=
  P 0 s ∧ (∀ k c, P k c → P (k + 1) c) ∧ (∀ k c w e : Nat, c < 25 → w < 4 → bey (c : Nat) (w : Nat) = (e : Nat) → opn H (c : Nat) (w : Nat) = true → P k c → P (if x = 0 then k + 1 else k) e) ∧ (x ≠ 0 → ∀ k c w e : Nat, c < 25 → w < 4 → bey (c : Nat) (w : Nat) = (e : Nat) → P k c → P (k + 1) e)
def FARS (H : Int → Bool) (x : Int) (s : Nat) (P : Nat → Nat → Prop) : Prop := LVL H x s P ∧ ∀ Q : Nat → Nat → Prop, LVL H x s Q → ∀ k c, P k c → Q k c
theorem LVL_mono {H : Int → Bool} {x : Int} {s : Nat} {P : Nat → Nat → Prop} (h : LVL H x s P) {c : Nat} : ∀ j k, P k c → P (k + j) c := by
  intro j
  induction j with
  | zero => exact fun k h => h
  | succ j ih => exact fun k hk => h.2.1 _ _ (ih k hk)
def FI (m : Mm) (s : Nat) (P : Nat → Nat → Prop) (M : Mm) : Prop := (∀ c : Nat, c < 25 → (0 ≤ M 411 c ∧ M 411 c ≤ 1000000) ∧ (M 411 c < 1000000 → P (M 411 c).toNat c)) ∧ M 411 s = 0 ∧ ∀ a b, a ≠ 411 → M a b = m a b
/-- the way from c is no shorter than known -/
def RX (H : Int → Bool) (x : Int) (M : Mm) (c w : Nat) : Prop := ∀ e : Nat, bey (c : Nat) (w : Nat) = (e : Nat) → (opn H (c : Nat) (w : Nat) = true → M 411 e ≤ M 411 c + (if x = 0 then 1 else 0)) ∧ (x ≠ 0 → M 411 e ≤ M 411 c + 1)
def FIn (H : Int → Bool) (x : Int) (m : Mm) (s : Nat) (P : Nat → Nat → Prop) (M0 M : Mm) (f : Int) (c w : Nat) : Prop := FI m s P M ∧ ((f = 0 ∧ M = M0 ∧ ∀ c' w' : Nat, c' < 25 → w' < 4 → (c' < c ∨ (c' = c ∧ w' < w)) → RX H x M0 c' w') ∨ (f = 1 ∧ muF M < muF M0))
theorem FI_up {m M : Mm} {s : Nat} {P : Nat → Nat → Prop} {e : Nat} {v : Int} (h : FI m s P M) (he : e < 25) (hv : 0 ≤ v ∧ v < M 411 e) (hP : P v.toNat e) : FI m s P (up M 411 e v) ∧ muF (up M 411 e v) < muF M := by
  obtain ⟨h1, h2, h3⟩ := h
  have hes : e ≠ s := fun z => by rw [z, h2] at hv; omega
  refine ⟨⟨fun c hc => ?_, ?_, fun a b hab => by rw [up_ne hab]; exact h3 a b hab⟩, ?_⟩
  · by_cases hce : c = e
    · subst hce
      rw [up_eq]
      have := (h1 c hc).1
      exact ⟨by omega, fun _ => hP⟩
    · rw [up_nk (by omega)]
      exact h1 c hc
  · rw [up_nk (by omega)]; exact h2
  · refine sumF_lt (fun i => ?_) 25 e he ?_
    · show (up M 411 e v 411 i).toNat ≤ _
      by_cases hi : i = e
      · subst hi
        rw [up_eq]
        omega
      · rw [up_nk (by omega)]
        exact Nat.le_refl _
    · show (up M 411 e v 411 e).toNat < _
      rw [up_eq]
      omega
theorem far_pass {d : Nat} {m M0 : Mm} {x : Int} {s : Nat} {P : Nat → Nat → Prop} {Φ : Mm → Prop} (h8 : hv20 (m 401 8)) (h9 : hv20 (m 401 9)) (hx : x = 0 ∨ x = 1) (hP : LVL (HM m 401) x s P) (hs : s < 25) (hk : ∀ (M : Mm) (f : Int) (u4 u5 u6 u7 : Vv), FIn (HM m 401) x m s P M0 M f 25 0 → ∃ m', Ev (d + 3) K_Mo_layFar 3 19 [(18, 400), (0, (s : Nat)), (0, x), (0, f), u4, u5, u6, u7] [] M (none, m') ∧ Φ m') : ∀ (t c w : Nat) (M : Mm) (f : Int) (u6 u7 : Vv), c < 25 → w ≤ 4 → (25 - c) * 5 = t + w → FIn (HM m 401) x m s P M0 M f c w → ∃ m', Ev (d + 3) K_Mo_layFar 3 30 [(18, 400), (0, (s : Nat)), (0, x), (0, f), (0, (c : Nat)), (0, (w : Nat)), u6, u7] [] M (none, m') ∧ Φ m' := by
  intro t
  induction t with
  | zero =>
    intro c w M f u6 u7 hc hw ht hI
    omega
  | succ t ih =>
    intro c w M f u6 u7 hc hw ht hI
    by_cases hw4 : w = 4
    · subst hw4
      have hnext : FIn (HM m 401) x m s P M0 M f (c + 1) 0 := by
        refine ⟨hI.1, ?_⟩
        rcases hI.2 with q | q
        · exact Or.inl ⟨q.1, q.2.1, fun c' w' z1 z2 z3 => q.2.2 c' w' z1 z2 (by omega)⟩
        · exact Or.inr q
      by_cases hc25 : c + 1 = 25
      · rw [hc25] at hnext
        obtain ⟨m', q1, q2⟩ := hk M f (0, ((c + 1 : Nat) : Int)) (0, ((4 : Nat) : Int)) u6 u7 hnext
        refine ⟨m', b_Mo_layFar_30 ⟨fun _ => ?_, fun z => absurd (by omega) z⟩, q2⟩
        rw [w32s (by omega)]
        exact b_Mo_layFar_25 ⟨fun _ => q1, fun z => absurd (by omega) z⟩
      · obtain ⟨m', q1, q2⟩ := ih (c + 1) 0 M f u6 u7 (by omega) (by omega) (by omega) hnext
        refine ⟨m', b_Mo_layFar_30 ⟨fun _ => ?_, fun z => absurd (by omega) z⟩, q2⟩
        rw [w32s (by omega)]
        exact b_Mo_layFar_25 ⟨fun z => by omega, fun _ => q1⟩
    · have hcI : cellI ((c : Nat) : Int) := ⟨by omega, by omega⟩
      have hwI : wayI ((w : Nat) : Int) := ⟨by omega, by omega⟩
      have hF := hI.1
      have e401 : M 401 = m 401 := by funext b; exact hF.2.2 401 b (by omega)
      have hHM : HM M 401 = HM m 401 := by unfold HM; rw [e401]
      have h8' : hv20 (M 401 8) := by rw [e401]; exact h8
      have h9' : hv20 (M 401 9) := by rw [e401]; exact h9
      have same : ∀ (u6 u7 : Vv), RX (HM m 401) x M c w → ∃ m', Ev (d + 3) K_Mo_layFar 3 30 [(18, 400), (0, (s : Nat)), (0, x), (0, f), (0, (c : Nat)), (0, ((w + 1 : Nat) : Int)), u6, u7] [] M (none, m') ∧ Φ m' := by
        intro u6 u7 hr
        refine ih c (w + 1) M f u6 u7 hc (by omega) (by omega) ⟨hF, ?_⟩
        rcases hI.2 with q | q
        · refine Or.inl ⟨q.1, q.2.1, fun c' w' z1 z2 z3 => ?_⟩
          by_cases hcw : c' = c ∧ w' = w
          · obtain ⟨rfl, rfl⟩ := hcw
            rw [← q.2.1]; exact hr
          · exact q.2.2 c' w' z1 z2 (by omega)
        · exact Or.inr q
      by_cases hb : bey (c : Nat) (w : Nat) = -1
      · obtain ⟨m', q1, q2⟩ := same (0, bey (c : Nat) (w : Nat)) u7 (fun e he => by omega)
        refine ⟨m', b_Mo_layFar_30 ⟨fun z => by omega, fun _ => ⟨_, _, c_Mo_beside hcI hwI, fun _ => ?_, fun z => absurd hb z⟩⟩, q2⟩
        rw [w32s (by omega)]
        exact q1
      · obtain ⟨e1, e2⟩ := ((bey_hby (c := (c : Int)) (w := (w : Int)) hcI).2 hb).2
        obtain ⟨e, he⟩ := Int.eq_ofNat_of_zero_le e1
        have he25 : e < 25 := by omega
        obtain ⟨fc, gc⟩ := hF.1 c hc
        obtain ⟨fe, ge⟩ := hF.1 e he25
        have chg : ∀ (v : Int) (u6 u7 : Vv), 0 ≤ v → v < M 411 e → P v.toNat e → ∃ m', Ev (d + 3) K_Mo_layFar 3 30 [(18, 400), (0, (s : Nat)), (0, x), (0, 1), (0, (c : Nat)), (0, ((w + 1 : Nat) : Int)), u6, u7] [] (up M 411 e v) (none, m') ∧ Φ m' := by
          intro v u6 u7 hv1 hv2 hPv
          obtain ⟨q1, q2⟩ := FI_up hF he25 ⟨hv1, hv2⟩ hPv
          refine ih c (w + 1) _ 1 u6 u7 hc (by omega) (by omega) ⟨q1, Or.inr ⟨rfl, ?_⟩⟩
          rcases hI.2 with q | q
          · rw [← q.2.1]; exact q2
          · omega
        -- the way is gone along with weight g
        have go : ∀ (u7 : Vv) (Q : Prop), (opn (HM m 401) (c : Nat) (w : Nat) = true ∨ x ≠ 0) → ∃ m', Ev (d + 3) K_Mo_layFar 3 48 [(18, 400), (0, (s : Nat)), (0, x), (0, f), (0, (c : Nat)), (0, (w : Nat)), (0, (e : Nat)), u7] [] M (none, m') ∧ Φ m' := by
          intro u7 _ hgo
          by_cases hx0 : x = 0
          · have hop : opn (HM m 401) (c : Nat) (w : Nat) = true := by
              rcases hgo with q | q
              · exact q
              · exact absurd hx0 q
            by_cases hlt : M 411 (c : Nat) + 1 < M 411 (e : Nat)
            · obtain ⟨m', q1, q2⟩ := chg (M 411 (c : Nat) + 1) (0, (e : Nat)) (0, M 411 (c : Nat) + 1) (by omega) hlt (by
                have := hP.2.2.1 (M 411 (c : Nat)).toNat c w e hc (by omega) he hop (gc (by omega))
                rw [if_pos hx0] at this
                rw [show (M 411 (c : Nat) + 1).toNat = (M 411 (c : Nat)).toNat + 1 by omega]
                exact this)
              refine ⟨m', b_Mo_layFar_48 ⟨by omega, fun _ => ⟨by omega, ?_⟩, fun z => absurd hx0 z⟩, q2⟩
              rw [w32n (x := M 411 (c : Nat) + 1) (by omega) (by omega)]
              refine ⟨fun _ => ⟨by omega, ?_⟩, fun z => absurd hlt z⟩
              rintro m1 rfl
              rw [w32s (by omega)]
              exact q1
            · obtain ⟨m', q1, q2⟩ := same (0, (e : Nat)) (0, M 411 (c : Nat) + 1) (fun e' he' => by
                obtain rfl : e' = e := by omega
                rw [if_pos hx0]
                exact ⟨fun _ => by omega, fun z => absurd hx0 z⟩)
              refine ⟨m', b_Mo_layFar_48 ⟨by omega, fun _ => ⟨by omega, ?_⟩, fun z => absurd hx0 z⟩, q2⟩
              rw [w32n (x := M 411 (c : Nat) + 1) (by omega) (by omega)]
              refine ⟨fun z => absurd z hlt, fun _ => ?_⟩
              rw [w32s (by omega)]
              exact q1
          · have hop := c_Mo_isOpen (d := d) (m := M) (c := (c : Nat)) (w := (w : Nat)) h8' h9' hcI hwI
            rw [hHM] at hop
            by_cases ho : opn (HM m 401) (c : Nat) (w : Nat) = true
            · rw [if_pos ho] at hop
              by_cases hlt : M 411 (c : Nat) < M 411 (e : Nat)
              · obtain ⟨m', q1, q2⟩ := chg (M 411 (c : Nat)) (0, (e : Nat)) (0, M 411 (c : Nat)) (by omega) hlt (by
                  have := hP.2.2.1 (M 411 (c : Nat)).toNat c w e hc (by omega) he ho (gc (by omega))
                  rw [if_neg hx0] at this
                  exact this)
                refine ⟨m', b_Mo_layFar_48 ⟨by omega, fun z => absurd z hx0, fun _ => ⟨_, _, hop, fun z => by omega, fun _ => ⟨by omega, ?_⟩⟩⟩, q2⟩
                rw [w32n (x := M 411 (c : Nat) + 0) (by omega) (by omega), Int.add_zero]
                refine ⟨fun _ => ⟨by omega, ?_⟩, fun z => absurd hlt z⟩
                rintro m1 rfl
                rw [w32s (by omega)]
                exact q1
              · obtain ⟨m', q1, q2⟩ := same (0, (e : Nat)) (0, M 411 (c : Nat)) (fun e' he' => by
                  obtain rfl : e' = e := by omega
                  rw [if_neg hx0]
                  exact ⟨fun _ => by omega, fun z => by omega⟩)
                refine ⟨m', b_Mo_layFar_48 ⟨by omega, fun z => absurd z hx0, fun _ => ⟨_, _, hop, fun z => by omega, fun _ => ⟨by omega, ?_⟩⟩⟩, q2⟩
                rw [w32n (x := M 411 (c : Nat) + 0) (by omega) (by omega), Int.add_zero]
                refine ⟨fun z => absurd z hlt, fun _ => ?_⟩
                rw [w32s (by omega)]
                exact q1
            · rw [if_neg ho] at hop
              by_cases hlt : M 411 (c : Nat) + 1 < M 411 (e : Nat)
              · obtain ⟨m', q1, q2⟩ := chg (M 411 (c : Nat) + 1) (0, (e : Nat)) (0, M 411 (c : Nat) + 1) (by omega) hlt (by
                  have := hP.2.2.2 hx0 (M 411 (c : Nat)).toNat c w e hc (by omega) he (gc (by omega))
                  rw [show (M 411 (c : Nat) + 1).toNat = (M 411 (c : Nat)).toNat + 1 by omega]
                  exact this)
                refine ⟨m', b_Mo_layFar_48 ⟨by omega, fun z => absurd z hx0, fun _ => ⟨_, _, hop, fun _ => ⟨by omega, ?_⟩, fun z => absurd rfl z⟩⟩, q2⟩
                rw [w32n (x := M 411 (c : Nat) + 1) (by omega) (by omega)]
                refine ⟨fun _ => ⟨by omega, ?_⟩, fun z => absurd hlt z⟩
                rintro m1 rfl
                rw [w32s (by omega)]
                exact q1
              · obtain ⟨m', q1, q2⟩ := same (0, (e : Nat)) (0, M 411 (c : Nat) + 1) (fun e' he' => by
                  obtain rfl : e' = e := by omega
                  exact ⟨fun z => absurd z ho, fun z => by omega⟩)
                refine ⟨m', b_Mo_layFar_48 ⟨by omega, fun z => absurd z hx0, fun _ => ⟨_, _, hop, fun _ => ⟨by omega, ?_⟩, fun z => absurd rfl z⟩⟩, q2⟩
                rw [w32n (x := M 411 (c : Nat) + 1) (by omega) (by omega)]
                refine ⟨fun z => absurd z hlt, fun _ => ?_⟩
                rw [w32s (by omega)]
                exact q1
        have hbs := c_Mo_beside (d := d + 2) (m := M) (c := (c : Nat)) (w := (w : Nat)) hcI hwI
        rw [he] at hbs
        by_cases hx0 : x = 0
        · have hop := c_Mo_isOpen (d := d) (m := M) (c := (c : Nat)) (w := (w : Nat)) h8' h9' hcI hwI
          rw [hHM] at hop
          by_cases ho : opn (HM m 401) (c : Nat) (w : Nat) = true
          · rw [if_pos ho] at hop
            obtain ⟨m', q1, q2⟩ := go u7 True (Or.inl ho)
            exact ⟨m', b_Mo_layFar_30 ⟨fun z => by omega, fun _ => ⟨_, _, hbs, fun z => by omega, fun _ => ⟨fun z => absurd hx0 z, fun _ => ⟨_, _, hop, fun _ => q1, fun z => absurd (by omega) z⟩⟩⟩⟩, q2⟩
          · rw [if_neg ho] at hop
            obtain ⟨m', q1, q2⟩ := same (0, (e : Nat)) u7 (fun e' he' => ⟨fun z => absurd z ho, fun z => absurd hx0 z⟩)
            refine ⟨m', b_Mo_layFar_30 ⟨fun z => by omega, fun _ => ⟨_, _, hbs, fun z => by omega, fun _ => ⟨fun z => absurd hx0 z, fun _ => ⟨_, _, hop, fun z => absurd rfl z, fun _ => ?_⟩⟩⟩⟩, q2⟩
            rw [w32s (by omega)]
            exact q1
        · obtain ⟨m', q1, q2⟩ := go u7 True (Or.inr hx0)
          exact ⟨m', b_Mo_layFar_30 ⟨fun z => by omega, fun _ => ⟨_, _, hbs, fun z => by omega, fun _ => ⟨fun _ => q1, fun z => absurd hx0 z⟩⟩⟩, q2⟩
theorem far_loop {d : Nat} {m : Mm} {x : Int} {s : Nat} {P : Nat → Nat → Prop} (h8 : hv20 (m 401 8)) (h9 : hv20 (m 401 9)) (hx : x = 0 ∨ x = 1) (hP : LVL (HM m 401) x s P) (hs : s < 25) : ∀ (n : Nat) (M : Mm) (u4 u5 u6 u7 : Vv), muF M ≤ n → FI m s P M → ∃ m', Ev (d + 3) K_Mo_layFar 3 19 [(18, 400), (0, (s : Nat)), (0, x), (0, 1), u4, u5, u6, u7] [] M (none, m') ∧ FI m s P m' ∧ ∀ c w : Nat, c < 25 → w < 4 → RX (HM m 401) x m' c w := by
  intro n
  induction n with
  | zero =>
    intro M u4 u5 u6 u7 hn hF
    obtain ⟨m', q1, q2⟩ := far_pass (d := d) (m := m) (M0 := M) (Φ := fun m' => FI m s P m' ∧ ∀ c w : Nat, c < 25 → w < 4 → RX (HM m 401) x m' c w) h8 h9 hx hP hs (fun M' f v4 v5 v6 v7 hI => by
      rcases hI.2 with q | q
      · refine ⟨M', b_Mo_layFar_19 ⟨fun _ => rfl, fun z => absurd q.1 z⟩, hI.1, fun c w hc hw => ?_⟩
        rw [q.2.1]
        exact q.2.2 c w hc hw (by omega)
      · omega) 125 0 0 M 0 u6 u7 (by omega) (by omega) (by omega) ⟨hF, Or.inl ⟨rfl, rfl, fun c' w' _ _ z => by omega⟩⟩
    exact ⟨m', b_Mo_layFar_19 ⟨fun z => by omega, fun _ => b_Mo_layFar_25 ⟨fun z => by omega, fun _ => q1⟩⟩, q2⟩
  | succ n ih =>
    intro M u4 u5 u6 u7 hn hF
    obtain ⟨m', q1, q2⟩ := far_pass (d := d) (m := m) (M0 := M) (Φ := fun m' => FI m s P m' ∧ ∀ c w : Nat, c < 25 → w < 4 → RX (HM m 401) x m' c w) h8 h9 hx hP hs (fun M' f v4 v5 v6 v7 hI => by
      rcases hI.2 with q | q
      · refine ⟨M', b_Mo_layFar_19 ⟨fun _ => rfl, fun z => absurd q.1 z⟩, hI.1, fun c w hc hw => ?_⟩
        rw [q.2.1]
        exact q.2.2 c w hc hw (by omega)
      · obtain ⟨q1, q2⟩ := q
        subst q1
        exact ih M' v4 v5 v6 v7 (by omega) hI.1) 125 0 0 M 0 u6 u7 (by omega) (by omega) (by omega) ⟨hF, Or.inl ⟨rfl, rfl, fun c' w' _ _ z => by omega⟩⟩
    exact ⟨m', b_Mo_layFar_19 ⟨fun z => by omega, fun _ => b_Mo_layFar_25 ⟨fun z => by omega, fun _ => q1⟩⟩, q2⟩
/-- what lies in the row when it is laid -/
def FAR_ (m' : Mm) (P : Nat → Nat → Prop) : Prop := ∀ c : Nat, c < 25 → (0 ≤ m' 411 c ∧ m' 411 c ≤ 1000000) ∧ ∀ k : Nat, k < 1000000 → (m' 411 c ≤ k ↔ P k c)
theorem c_Mo_layFar {d : Nat} {m : Mm} {x : Int} {s : Nat} {P : Nat → Nat → Prop} (h8 : hv20 (m 401 8)) (h9 : hv20 (m 401 9)) (hx : x = 0 ∨ x = 1) (hP : FARS (HM m 401) x s P) (hs : s < 25) : ∃ m', Cl (d + 3) k_Mo_layFar [(18, 400), (0, (s : Nat)), (0, x)] m (none, m') ∧ FAR_ m' P ∧ ∀ a b, a ≠ 411 → m' a b = m a b := by
  have ini : ∀ (t k : Nat) (M : Mm), k + t = 25 → (∀ c : Nat, c < k → M 411 c = if c = s then 0 else 1000000) → (∀ a b, a ≠ 411 → M a b = m a b) → ∃ m', Ev (d + 3) K_Mo_layFar 3 2 [(18, 400), (0, (s : Nat)), (0, x), (0, (k : Nat)), (9, 0), (9, 0), (9, 0), (9, 0)] [] M (none, m') ∧ FI m s P m' ∧ ∀ c w : Nat, c < 25 → w < 4 → RX (HM m 401) x m' c w := by
    intro t
    induction t with
    | zero =>
      intro k M hk h1 h2
      obtain rfl : k = 25 := by omega
      obtain ⟨m', q1, q2⟩ := far_loop (d := d) h8 h9 hx hP.1 hs (muF M) M (9, 0) (9, 0) (9, 0) (9, 0) (Nat.le_refl _) ⟨fun c hc => by
        rw [h1 c hc]
        by_cases hcs : c = s
        · rw [if_pos hcs]
          refine ⟨by omega, fun _ => ?_⟩
          rw [hcs]
          exact hP.1.1
        · rw [if_neg hcs]
          exact ⟨by omega, fun z => by omega⟩, by rw [h1 s hs, if_pos rfl], h2⟩
      exact ⟨m', b_Mo_layFar_2 ⟨fun _ => q1, fun z => absurd (by omega) z⟩, q2⟩
    | succ t ih =>
      intro k M hk h1 h2
      by_cases hks : k = s
      · obtain ⟨m', q1, q2⟩ := ih (k + 1) (up M 411 (k : Nat) 0) (by omega) (fun c hc => by
          by_cases hck : c = k
          · subst hck
            rw [up_eq, if_pos hks]
          · rw [up_nk (by omega)]; exact h1 c (by omega)) (fun a b hab => by rw [up_ne hab]; exact h2 a b hab)
        refine ⟨m', b_Mo_layFar_2 ⟨fun z => by omega, fun _ => ⟨fun z => absurd (by omega) z, fun _ => ⟨by omega, ?_⟩⟩⟩, q2⟩
        rintro m2 rfl
        rw [w32s (by omega)]
        exact q1
      · obtain ⟨m', q1, q2⟩ := ih (k + 1) (up M 411 (k : Nat) 1000000) (by omega) (fun c hc => by
          by_cases hck : c = k
          · subst hck
            rw [up_eq, if_neg hks]
          · rw [up_nk (by omega)]; exact h1 c (by omega)) (fun a b hab => by rw [up_ne hab]; exact h2 a b hab)
        refine ⟨m', b_Mo_layFar_2 ⟨fun z => by omega, fun _ => ⟨fun _ => ⟨by omega, ?_⟩, fun z => absurd (by omega) z⟩⟩, q2⟩
        rintro m2 rfl
        rw [w32s (by omega)]
        exact q1
  obtain ⟨m', q1, q2, q3⟩ := ini 25 0 m rfl (fun c hc => by omega) (fun _ _ _ => rfl)
  refine ⟨m', cl_Mo_layFar (b_Mo_layFar q1), fun c hc => ⟨(q2.1 c hc).1, fun k hk => ⟨fun z => ?_, fun z => ?_⟩⟩, q2.2.2⟩
  · have hr := (q2.1 c hc).1
    have := LVL_mono hP.1 (k - (m' 411 c).toNat) _ ((q2.1 c hc).2 (by omega))
    rw [show (m' 411 c).toNat + (k - (m' 411 c).toNat) = k by omega] at this
    exact this
  · have hQ : LVL (HM m 401) x s (fun k c => c < 25 → m' 411 c ≤ k) := by
      refine ⟨fun _ => ?_, fun k c z hc => ?_, fun k c w e hc hw he ho z he25 => ?_, fun hx0 k c w e hc hw he z he25 => ?_⟩
      · rw [q2.2.1]
        exact Int.le_refl _
      · have := z hc
        omega
      · have := (q3 c w hc hw e he).1 ho
        have := z hc
        by_cases hx0 : x = 0
        · rw [if_pos hx0] at *
          omega
        · rw [if_neg hx0] at *
          omega
      · have := (q3 c w hc hw e he).2 hx0
        have := z hc
        omega
    exact hP.2 _ hQ k c z hc
/-- by open ways alone: miles -/
theorem FARS_0 {H : Int → Bool} {s : Nat} (hs : s < 25) : FARS H 0 s (fun k c => (wth H AL (2 ^ s) k).testBit c = true) := by
  obtain ⟨p1, p2, p3⟩ := p25 hs
  refine ⟨⟨pow_mem.mpr rfl, fun k c h => wth_up1 p1 p2 k c h, fun k c w e hc hw he ho h => ?_, fun z => absurd rfl z⟩, fun Q hQ => ?_⟩
  · rw [if_pos rfl]
    show (wth H AL (2 ^ s) (k + 1)).testBit e = true
    rw [wth_AL]
    obtain ⟨e', h1, h2, h3⟩ := opn_nbr hc hw ho
    obtain rfl : e' = e := by omega
    exact grw_mem.mpr ⟨h2, Or.inr ⟨c, h, h3⟩⟩
  · intro k
    induction k with
    | zero =>
      intro c h
      have h' : c = s := pow_mem.mp h
      rw [h']
      exact hQ.1
    | succ k ih =>
      intro c h
      have h' : (wth H AL (2 ^ s) (k + 1)).testBit c = true := h
      rw [wth_AL] at h'
      rcases (grw_mem.mp h').2 with q | ⟨e, q1, q2⟩
      · exact hQ.2.1 k c (ih c q)
      · have he := bit_lt (wth_lt p1 k) q1
        obtain ⟨w, w1, w2, w3⟩ := nbr_opn he q2
        have := hQ.2.2.1 k e w c he w1 w3 w2 (ih e q1)
        rw [if_pos rfl] at this
        exact this
