/-! FORETOLD: an hour with and without its lines -/
def E_ (S S' : Int → Int) : Prop := ∀ k : Int, k < 1436 → k ≠ 10 → S' k = S k
theorem E_HS {S S' : Int → Int} (e : E_ S S') : HS S' = HS S := by
  funext h
  unfold HS
  rw [e 8 (by omega) (by omega), e 9 (by omega) (by omega)]
theorem E_nm {S S' : Int → Int} {c h : Int} (e : E_ S S') (hh : 0 ≤ h ∧ h < 40) : nmS S' c h = nmS S c h := by
  unfold nmS
  rw [e 6 (by omega) (by omega), E_HS e, e 8 (by omega) (by omega), e 9 (by omega) (by omega), e (12 + 2 * h) (by omega) (by omega)]
theorem E_frv {Lf : Option Ef} {S S' : Int → Int} {h : Int} (e : E_ S S') (hh : 0 ≤ h ∧ h < 40) : frv Lf S' h = frv Lf S h := by
  cases Lf with
  | none => rfl
  | some F =>
    show max 0 (min 10 (F (nmS S' (fcell h) h) (HS S'))) = max 0 (min 10 (F (nmS S (fcell h) h) (HS S)))
    rw [E_nm e hh, E_HS e]
theorem E_gov {Lg : Option Ef} {S S' : Int → Int} {c : Int} (e : E_ S S') (hh : 0 ≤ c ∧ c < 5) : gov Lg S' c = gov Lg S c := by
  cases Lg with
  | none => rfl
  | some F =>
    show max (-99) (min 99 (F (nmS S' (S' (11 + 2 * c)) c) (HS S'))) = max (-99) (min 99 (F (nmS S (S (11 + 2 * c)) c) (HS S)))
    rw [e (11 + 2 * c) (by omega) (by omega), E_nm e (by omega), E_HS e]
theorem E_ups {S S' : Int → Int} {k v : Int} (e : E_ S S') : E_ (ups S k v) (ups S' k v) := by
  intro i hi h10
  by_cases hk : i = k
  · subst hk
    rw [ups_eq, ups_eq]
  · rw [ups_ne hk, ups_ne hk]
    exact e i hi h10
theorem E_gn {S S' : Int → Int} {c w : Int} (e : E_ S S') (hh : 0 ≤ c ∧ c < 5) : E_ (gnS S c w) (gnS S' c w) := by
  unfold gnS
  rw [e 31 (by omega) (by omega), e (11 + 2 * c) (by omega) (by omega)]
  exact E_ups (E_ups e)
theorem E_an {S S' : Int → Int} (e : E_ S S') : E_ (anS S) (anS S') := by
  unfold anS
  rw [e 7 (by omega) (by omega)]
  exact E_ups e
theorem E_hr {S S' : Int → Int} (e : E_ S S') : E_ (hrS S) (hrS S') := by
  unfold hrS
  rw [e 6 (by omega) (by omega)]
  exact E_ups e
theorem E_ch {S S' : Int → Int} {x : Int} (e : E_ S S') : E_ (chS S x) (chS S' x) := by
  unfold chS
  split
  · rw [e 9 (by omega) (by omega)]
    exact E_ups e
  · rw [e 8 (by omega) (by omega)]
    exact E_ups e
theorem E_wr {f f' : Bool} {S S' : Int → Int} {w k : Int} (e : E_ S S') (h : 0 ≤ S 10 ∧ S 10 ≤ 30) (h' : 0 ≤ S' 10 ∧ S' 10 ≤ 30) : E_ (wrF f S w k) (wrF f' S' w k) := by
  intro i hi h10
  rw [wrF_k h hi h10, wrF_k h' hi h10]
  exact e i hi h10
theorem E_wn {f f' : Bool} {S S' : Int → Int} {c : Int} (e : E_ S S') (h : 0 ≤ S 10 ∧ S 10 ≤ 30) (h' : 0 ≤ S' 10 ∧ S' 10 ≤ 30) (hh : 0 ≤ c ∧ c < 5) : E_ (wnS f S c) (wnS f' S' c) := by
  unfold wnS
  rw [E_HS e, e (11 + 2 * c) (by omega) (by omega), e (12 + 2 * c) (by omega) (by omega), E_gn e hh (11 + 2 * c) (by omega) (by omega)]
  split
  · exact e
  · split
    · exact E_wr (E_gn e hh) (by rw [gnS_k (by omega) (by omega)]; exact h) (by rw [gnS_k (by omega) (by omega)]; exact h')
    · exact E_gn e hh
theorem E_cw {Lg : Option Ef} {f f' : Bool} {S S' : Int → Int} (e : E_ S S') (h : RV S) (h' : RV S') : ∀ n : Nat, (n : Int) ≤ S 1 → E_ (cwF Lg f S n) (cwF Lg f' S' n) := by
  intro n
  induction n with
  | zero => exact fun _ => e
  | succ n ih =>
    intro hn
    have h1 := h.2.2.1
    have e1 : S' 1 = S 1 := e 1 (by omega) (by omega)
    have i := ih (by omega)
    have v1 := (cwF_v (Lg := Lg) (f := f) h n (by omega)).1
    have v2 := (cwF_v (Lg := Lg) (f := f') h' n (by omega)).1
    unfold cwF
    rw [i (11 + 2 * (n : Int)) (by omega) (by omega), E_gov i (by omega)]
    split
    · exact E_wn i v1.2.2.2.2.2.2.1 v2.2.2.2.2.2.2.1 (by omega)
    · exact i
theorem E_fr {Lf : Option Ef} {f f' : Bool} {S S' : Int → Int} (e : E_ S S') (h : RV S) (h' : RV S') : E_ (frS Lf f S) (frS Lf f' S') := by
  have hx := h40 h
  have hx' := h40 h'
  have a2 := RV_ch (RV_an (RV_an h)) hx
  have a2' := RV_ch (RV_an (RV_an h')) hx'
  have e7 : S' 7 = S 7 := e 7 (by omega) (by omega)
  unfold frS
  rw [e7] at a2' ⊢
  rw [E_HS (E_an e), E_an e 7 (by omega) (by omega), E_frv (E_an (E_an e)) hx]
  split
  · split
    · exact E_hr (E_wr (E_ch (E_an (E_an e))) a2.2.2.2.2.2.2.1 a2'.2.2.2.2.2.2.1)
    · exact E_hr (E_an (E_an e))
  · exact E_hr (E_an e)
theorem E_ps {Lf Lg : Option Ef} {f f' : Bool} {S S' : Int → Int} (e : E_ S S') (h : RV S) (h' : RV S') : E_ (psS Lf Lg f S) (psS Lf Lg f' S') := by
  have h1 := h.2.2.1
  have e1 : S' 1 = S 1 := e 1 (by omega) (by omega)
  unfold psS
  rw [e1]
  exact E_fr (E_cw e h h' _ (by omega)) (cwF_v h _ (by omega)).1 (cwF_v h' _ (by omega)).1
/-- what an hour without lines leaves -/
theorem wr_F {S : Int → Int} {w k : Int} : wrF false S w k = S := if_neg (by decide)
theorem wn_F {S : Int → Int} {c k : Int} (hh : 0 ≤ c ∧ c < 5) (hk : ¬ (6 ≤ k ∧ k < 21)) : wnS false S c k = S k := by
  unfold wnS
  rw [wr_F]
  split
  · rfl
  · split <;> exact gnS_k (by omega) (by omega)
theorem cw_F {Lg : Option Ef} {S : Int → Int} {k : Int} (hk : ¬ (6 ≤ k ∧ k < 21)) : ∀ n : Nat, n ≤ 5 → cwF Lg false S n k = S k := by
  intro n
  induction n with
  | zero => exact fun _ => rfl
  | succ n ih =>
    intro hn
    unfold cwF
    split
    · rw [wn_F (by omega) hk, ih (by omega)]
    · exact ih (by omega)
theorem ch_k {S : Int → Int} {x k : Int} (h8 : k ≠ 8) (h9 : k ≠ 9) : chS S x k = S k := by
  unfold chS
  split
  · exact ups_ne h9
  · exact ups_ne h8
theorem ps_F {Lf Lg : Option Ef} {S : Int → Int} {k : Int} (h : RV S) (hk : ¬ (6 ≤ k ∧ k < 21)) : psS Lf Lg false S k = S k := by
  have h1 := h.2.2.1
  have c := cw_F (Lg := Lg) (S := S) hk (S 1).toNat (by omega)
  unfold psS frS
  rw [wr_F]
  split
  · split
    · rw [hrS_k (by omega), ch_k (by omega) (by omega), anS_k (by omega), anS_k (by omega), c]
    · rw [hrS_k (by omega), anS_k (by omega), anS_k (by omega), c]
  · rw [hrS_k (by omega), anS_k (by omega), c]
def ftS (Lf Lg : Option Ef) (f : Bool) : Nat → (Int → Int) → Int → Int
  | 0, S => S
  | n + 1, S => if S 6 < 9999 then ftS Lf Lg f n (psS Lf Lg f S) else S
theorem ft_E {Lf Lg : Option Ef} : ∀ (n : Nat) (S S' : Int → Int), RV S → RV S' → E_ S S' → E_ (ftS Lf Lg true n S) (ftS Lf Lg false n S') := by
  intro n
  induction n with
  | zero => exact fun S S' _ _ e => e
  | succ n ih =>
    intro S S' h h' e
    unfold ftS
    rw [e 6 (by omega) (by omega)]
    split
    · rename_i h9
      exact ih _ _ (psS_v h h9).1 (psS_v h' (by rw [e 6 (by omega) (by omega)]; exact h9)).1 (E_ps e h h')
    · exact e
theorem ft_F {Lf Lg : Option Ef} {k : Int} (hk : ¬ (6 ≤ k ∧ k < 21)) : ∀ (n : Nat) (S : Int → Int), RV S → ftS Lf Lg false n S k = S k := by
  intro n
  induction n with
  | zero => exact fun S _ => rfl
  | succ n ih =>
    intro S h
    unfold ftS
    split
    · rename_i h9
      rw [ih _ (psS_v h h9).1, ps_F h hk]
    · rfl
/-- the class's -/
theorem ft_c {d n : Nat} {x : Int} {Lf Lg : Option Ef} (hn : n ≤ 60) : ∀ (t k : Nat) (M : Mm) (T : Int → Int), k + t = n → LSd M 64 T → LSk M 64 T → HX M 64 Lf Lg T → 0 ≤ x ∧ x < T 1 → ∃ m', Ev (d + 6) K_Th_foretold 0 22 [(17, 0), (0, (n : Nat)), (0, x), (0, (k : Nat))] [] M (some (0, ftS Lf Lg true t T (11 + 2 * x)), m') ∧ PF 64 M m' := by
  have en : ∀ (M : Mm) (T : Int → Int), LSd M 64 T → 0 ≤ x ∧ x < T 1 → ∃ (v1 : Int) (m1 : Mm), Cl (d + 5) k_La_isHome [(13, 64), (0, x)] M (some (0, v1), m1) ∧ ((v1 = 0 → (0 ≤ x ∧ x < 5) ∧ ((some (0, T (11 + 2 * x)), M) = ((some (0, m1 65 x), m1) : Option Vv × Mm))) ∧ (¬ (v1 = 0) → (some (0, T (11 + 2 * x)), M) = ((some (0, (-1)), m1) : Option Vv × Mm))) := by
    intro M T hd hx
    obtain ⟨t1, _⟩ := LSd_t hd
    obtain ⟨p1, p2⟩ := LSd_hm hd hx
    refine ⟨_, M, c_La_isHomeS hd hx, fun z => ⟨by omega, ?_⟩, fun z => ?_⟩
    · rw [ite_z] at z
      have q : T (11 + 2 * x) = M 65 x := (p2 z).1
      rw [q]
    · rw [ite_z1] at z
      rw [z]
  intro t
  induction t with
  | zero =>
    intro k M T hk hd hb hX hx
    exact ⟨M, b_Th_foretold_22 ⟨fun _ => en M T hd hx, fun z => absurd (by omega) z⟩, fun _ _ _ _ _ _ => rfl⟩
  | succ t ih =>
    intro k M T hk hd hb hX hx
    obtain ⟨t1, _, _, t4, _⟩ := LSd_t hd
    have hRV := LSd_RV hd hb hX.2.1.2
    by_cases h9 : T 6 < 9999
    · obtain ⟨M1, c1, c2, c3, c4⟩ := c_Th_passHour (d := d) hX hd hb h9
      obtain ⟨p1, p2⟩ := psS_v (Lf := Lf) (Lg := Lg) (f := true) hRV h9
      obtain ⟨m', g1, g2⟩ := ih (k + 1) M1 _ (by omega) c2 c3 (HX_con hX c4 (p2 31 (by omega) (by omega))) (by rw [p2 1 (by omega) (by omega)]; exact hx)
      have he : ftS Lf Lg true (t + 1) T = ftS Lf Lg true t (psS Lf Lg true T) := if_pos h9
      rw [he]
      refine ⟨m', b_Th_foretold_22 ⟨fun z => by omega, fun _ => ⟨fun z => by rw [t4.2.2] at z; omega, fun _ => ⟨_, c1, ?_⟩⟩⟩, c4.tr g2⟩
      rw [w32s (by omega)]
      exact g1
    · have he : ftS Lf Lg true (t + 1) T = T := if_neg h9
      rw [he]
      exact ⟨M, b_Th_foretold_22 ⟨fun z => by omega, fun _ => ⟨fun _ => en M T hd hx, fun z => absurd (by rw [t4.2.2]; omega) z⟩⟩, fun _ _ _ _ _ _ => rfl⟩
/-- the model's: it puts aside, passes, and puts back -/
theorem ft_m {d n : Nat} {x : Int} {m : Mm} {Lf Lg : Option Ef} (hn : n ≤ 60) (hRV : RV (m 401)) (hY : TXL m (m 401 3) Lf Lg) (h24 : m 400 24 = 1) (hx : 0 ≤ x ∧ x < m 401 1) : ∃ m', Ev (d + 7) K_Mo_foretold 0 13 [(18, 400), (0, (n : Nat)), (0, x), (0, 6), (9, 0)] [] m (some (0, ftS Lf Lg false n (m 401) (11 + 2 * x)), m') ∧ SM m m' := by
  have h1 := hRV.2.2.1
  -- put back
  have bk : ∀ (t k : Nat) (M : Mm) (v : Int), k + t = 21 → 6 ≤ k → (∀ b, 6 ≤ b → b < 21 → M 410 b = m 401 b) → (∀ b, (b < (k : Int) ∨ 21 ≤ b) → M 401 b = m 401 b) → (∀ a b, ¬ scr a b → a ≠ 401 → ¬ (a = 400 ∧ b = 24) → M a b = m a b) → ∃ m', Ev (d + 7) K_Mo_foretold 0 50 [(18, 400), (0, (n : Nat)), (0, x), (0, v), (0, (k : Nat))] [] M (some (0, v), m') ∧ SM m m' := by
    intro t
    induction t with
    | zero =>
      intro k M v hk h6 e1 e2 e3
      refine ⟨up M 400 24 1, b_Mo_foretold_50 ⟨fun _ => ?_, fun z => absurd (by omega) z⟩, fun a b hab => ?_⟩
      · rintro m1 rfl
        rfl
      · by_cases h4 : a = 400 ∧ b = 24
        · obtain ⟨rfl, rfl⟩ := h4
          rw [up_eq, h24]
        · have e4 : up M 400 24 1 a b = M a b := by
            by_cases ha : a = 400
            · exact up_nk (fun w => h4 ⟨ha, w⟩)
            · exact up_ne ha
          rw [e4]
          by_cases ha : a = 401
          · subst ha
            exact e2 b (by omega)
          · exact e3 a b hab ha h4
    | succ t ih =>
      intro k M v hk h6 e1 e2 e3
      obtain ⟨m', g1, g2⟩ := ih (k + 1) (up M 401 (k : Nat) (M 410 (k : Nat))) v (by omega) (by omega) (fun b b1 b2 => by rw [up_ne (by omega)]; exact e1 b b1 b2) (fun b hb => by
        by_cases hbk : b = (k : Nat)
        · subst hbk
          rw [up_eq]
          exact e1 _ (by omega) (by omega)
        · rw [up_nk hbk]
          exact e2 b (by omega)) (fun a b x1 x2 x3 => by rw [up_ne x2]; exact e3 a b x1 x2 x3)
      refine ⟨m', b_Mo_foretold_50 ⟨fun z => by omega, fun _ => ⟨by omega, by omega, ?_⟩⟩, g2⟩
      rintro m2 rfl
      rw [w32s (by omega)]
      exact g1
  -- pass
  have ps : ∀ (t k : Nat) (M : Mm) (T : Int → Int) (u : Vv), k + t = n → M 401 = T → RV T → T 1 = m 401 1 → T 3 = m 401 3 → flg M = false → (∀ b, 6 ≤ b → b < 21 → M 410 b = m 401 b) → (∀ b, ¬ (6 ≤ b ∧ b < 21) → T b = m 401 b) → (∀ a b, ¬ scr a b → a ≠ 401 → ¬ (a = 400 ∧ b = 24) → M a b = m a b) → ∃ m', Ev (d + 7) K_Mo_foretold 0 31 [(18, 400), (0, (n : Nat)), (0, x), (0, (k : Nat)), u] [] M (some (0, ftS Lf Lg false t T (11 + 2 * x)), m') ∧ SM m m' := by
    intro t
    induction t with
    | zero =>
      intro k M T u hk e hV e1 e3 hf a1 a2 a3
      obtain ⟨m', g1, g2⟩ := bk 15 6 M (M 401 (11 + 2 * x)) (by omega) (by omega) a1 (fun b hb => by rw [e]; exact a2 b (by omega)) a3
      refine ⟨m', b_Mo_foretold_31 ⟨fun _ => ⟨_, _, c_Mo_cellOf (by omega), ?_⟩, fun z => absurd (by omega) z⟩, g2⟩
      have he : ftS Lf Lg false 0 T = T := rfl
      rw [he, ← e]
      exact g1
    | succ t ih =>
      intro k M T u hk e hV e1 e3 hf a1 a2 a3
      by_cases h9 : T 6 < 9999
      · have hTX : TXL M (M 401 3) Lf Lg := by
          rw [e, e3]
          exact TXL_con hY (fun a b hab => a3 a b (by unfold scr; omega) (by omega) (by omega))
        obtain ⟨M1, c1, c2, c3, c4⟩ := c_Mo_pass (d := d) (m := M) hTX (by rw [e]; exact hV) (by rw [e]; exact h9)
        rw [e, hf] at c2
        obtain ⟨p1, p2⟩ := psS_v (Lf := Lf) (Lg := Lg) (f := false) hV h9
        obtain ⟨m', g1, g2⟩ := ih (k + 1) M1 _ u (by omega) c2 p1 (by rw [p2 1 (by omega) (by omega), e1]) (by rw [p2 3 (by omega) (by omega), e3]) (by rw [flg_con c4, hf]) (fun b b1 b2 => by rw [c4 _ _ (by omega) (by omega) (by omega) (by omega) (by omega)]; exact a1 b b1 b2) (fun b hb => by rw [ps_F hV hb]; exact a2 b hb) (fun a b x1 x2 x3 => by
          rw [c4 a b x2 (fun z => x1 (by unfold scr; omega)) (fun z => x1 (by unfold scr; omega)) (fun z => x1 (by unfold scr; omega)) (fun z => x1 (by unfold scr; omega))]
          exact a3 a b x1 x2 x3)
        have he : ftS Lf Lg false (t + 1) T = ftS Lf Lg false t (psS Lf Lg false T) := if_pos h9
        rw [he]
        refine ⟨m', b_Mo_foretold_31 ⟨fun z => by omega, fun _ => ⟨fun z => by rw [e] at z; omega, fun _ => ⟨_, c1, ?_⟩⟩⟩, g2⟩
        rw [w32s (by omega)]
        exact g1
      · obtain ⟨m', g1, g2⟩ := ih (k + 1) M T u (by omega) e hV e1 e3 hf a1 a2 a3
        have he : ftS Lf Lg false (t + 1) T = ftS Lf Lg false t T := by
          have q : ftS Lf Lg false (t + 1) T = T := if_neg h9
          rw [q]
          cases t with
          | zero => rfl
          | succ t => exact (if_neg h9).symm
        rw [he]
        refine ⟨m', b_Mo_foretold_31 ⟨fun z => by omega, fun _ => ⟨fun _ => ?_, fun z => absurd (by rw [e]; omega) z⟩⟩, g2⟩
        rw [w32s (by omega)]
        exact g1
  -- put aside
  have pa : ∀ (t k : Nat) (M : Mm) (u : Vv), k + t = 21 → 6 ≤ k → (∀ b, 6 ≤ b → b < (k : Int) → M 410 b = m 401 b) → (∀ a b, a ≠ 410 → M a b = m a b) → ∃ m', Ev (d + 7) K_Mo_foretold 0 13 [(18, 400), (0, (n : Nat)), (0, x), (0, (k : Nat)), u] [] M (some (0, ftS Lf Lg false n (m 401) (11 + 2 * x)), m') ∧ SM m m' := by
    intro t
    induction t with
    | zero =>
      intro k M u hk h6 e1 e2
      have e401 : up M 400 24 0 401 = m 401 := by
        funext b
        rw [up_ne (by omega)]
        exact e2 _ _ (by omega)
      obtain ⟨m', g1, g2⟩ := ps n 0 (up M 400 24 0) (m 401) u (by omega) e401 hRV rfl rfl (by unfold flg; rw [up_eq]; rfl) (fun b b1 b2 => by rw [up_ne (by omega)]; exact e1 b b1 (by omega)) (fun _ _ => rfl) (fun a b x1 x2 x3 => by
        have ha : a ≠ 410 := fun z => x1 (by unfold scr; omega)
        by_cases h4 : a = 400
        · rw [up_nk (fun w => x3 ⟨h4, w⟩)]
          exact e2 a b ha
        · rw [up_ne h4]
          exact e2 a b ha)
      refine ⟨m', b_Mo_foretold_13 ⟨fun _ => ?_, fun z => absurd (by omega) z⟩, g2⟩
      rintro m1 rfl
      exact g1
    | succ t ih =>
      intro k M u hk h6 e1 e2
      obtain ⟨m', g1, g2⟩ := ih (k + 1) (up M 410 (k : Nat) (M 401 (k : Nat))) u (by omega) (by omega) (fun b b1 b2 => by
        by_cases hbk : b = (k : Nat)
        · subst hbk
          rw [up_eq]
          exact e2 _ _ (by omega)
        · rw [up_nk hbk]
          exact e1 b b1 (by omega)) (fun a b ha => by rw [up_ne ha]; exact e2 a b ha)
      refine ⟨m', b_Mo_foretold_13 ⟨fun z => by omega, fun _ => ⟨by omega, by omega, ?_⟩⟩, g2⟩
      rintro m2 rfl
      rw [w32s (by omega)]
      exact g1
  exact pa 15 6 m (9, 0) (by omega) (by omega) (fun b b1 b2 => by omega) (fun _ _ _ => rfl)
theorem op_foretold {m : Mm} {x y : Int} (h : R m) : OP k_Th_foretold k_Mo_foretold 0 [(0, x), (0, y)] m := by
  have hL : LSd m 129 (m 401) := h.1.1.1
  have hRV := R_RV h
  obtain ⟨⟨t1, t2, t3⟩, _⟩ := LSd_t hL
  have hic := c_La_isCow (d := 119) (m := m) (o := 129) (x := y)
  rw [show m 129 1 = m 401 1 from t3] at hic
  by_cases hx : 1 ≤ x ∧ x ≤ 60
  · have nx : ¬ (if 1 ≤ x ∧ x ≤ 60 then (1 : Int) else 0) = 0 := by rw [ite_z1]; exact hx
    by_cases hy : 0 ≤ y ∧ y < m 401 1
    · have ny : ¬ (if 0 ≤ y ∧ y < m 401 1 then (1 : Int) else 0) = 0 := by rw [ite_z1]; exact hy
      obtain ⟨n, rfl⟩ := Int.eq_ofNat_of_zero_le (show 0 ≤ x by omega)
      obtain ⟨Lf, Lg, hX, hX2⟩ := R_HX h
      obtain ⟨m1, c1, c2, c3, c4⟩ := LC_copy (d := 118) (m := m) (o0 := 64) (o1 := 129) (by omega) hL h.1.1.2
      have hp : PF 64 m m1 := PF_l c4
      have hX1 : HX m1 64 Lf Lg (m 401) := by
        have hX' : HX m 64 Lf Lg (m 401) := ⟨hX.1, hX.2.1, hX.2.2.1, hX.2.2.2.1, Or.inl rfl⟩
        exact HX_con hX' hp rfl
      obtain ⟨m2, g1, g2⟩ := ft_c (d := 114) (n := n) (x := y) (by omega) n 0 m1 (m 401) (by omega) c2 c3 hX1 hy
      have hp2 : PF 64 m m2 := hp.tr g2
      have e401 : m2 401 = m 401 := by funext b; exact hp2 _ _ (by omega) (by omega) (by omega) (by omega)
      obtain ⟨m3, k1, k2⟩ := ft_m (d := 113) (n := n) (x := y) (m := m2) (Lf := Lf) (Lg := Lg) (by omega) (by rw [e401]; exact hRV) (by rw [e401]; exact TXL_con hX2 (fun a b hab => hp2 _ _ (by omega) (by omega) (by omega) (by omega))) (by rw [hp2 _ _ (by omega) (by omega) (by omega) (by omega)]; exact h.2.2.2.2.2.2.2.1.2.2) (by rw [e401]; exact hy)
      rw [e401, ft_E n (m 401) (m 401) hRV hRV (fun _ _ _ => rfl) (11 + 2 * y) (by omega) (by omega)] at k1
      have hmc := c_Mo_isCow (d := 118) (m := m2) (x := y) (by rw [e401]; exact ⟨t1, t2⟩)
      rw [e401] at hmc
      exact OP_q h (cl_Th_foretold (b_Th_foretold ⟨fun z => by omega, fun _ => ⟨fun z => by omega, fun _ => ⟨_, _, hic, fun _ => ⟨_, c1, g1⟩, fun z => absurd ny z⟩⟩⟩)) (cl_Mo_foretold (b_Mo_foretold ⟨_, _, c_Mo_isIn, fun z => absurd z nx, fun _ => ⟨_, _, hmc, fun _ => k1, fun z => absurd ny z⟩⟩)) (fun a b hab => by
        unfold scr at hab
        exact hp2 a b (by omega) (by omega) (by omega) (by omega)) k2
    · have ny : (if 0 ≤ y ∧ y < m 401 1 then (1 : Int) else 0) = 0 := if_neg hy
      exact OP_e h (v := -2) (cl_Th_foretold (b_Th_foretold ⟨fun z => by omega, fun _ => ⟨fun z => by omega, fun _ => ⟨_, _, hic, fun z => absurd ny z, fun _ => rfl⟩⟩⟩)) (cl_Mo_foretold (b_Mo_foretold ⟨_, _, c_Mo_isIn, fun z => absurd z nx, fun _ => ⟨_, _, c_Mo_isCow ⟨t1, t2⟩, fun z => absurd ny z, fun _ => rfl⟩⟩))
  · refine OP_e h (v := -2) (cl_Th_foretold (b_Th_foretold ⟨fun _ => rfl, fun z => ⟨fun _ => rfl, fun z2 => absurd ⟨by omega, by omega⟩ hx⟩⟩)) (cl_Mo_foretold (b_Mo_foretold ⟨_, _, c_Mo_isIn, fun _ => rfl, fun z => ?_⟩))
    rw [ite_z1] at z
    exact absurd z hx
