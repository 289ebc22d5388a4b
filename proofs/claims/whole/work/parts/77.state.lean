/-! THE TWO PARSERS: what stands between them -/
def cC (m : Mm) : Nat → Int := fun j => m 86 (j : Nat)
def cO (t : Int) (N : Mm) : Nat → Int := fun j => N 403 (t + 73 + 2 * (j : Nat))
def cV (t : Int) (N : Mm) : Nat → Int := fun j => N 403 (t + 74 + 2 * (j : Nat))
def lp_ (N : Mm) (u : Vv) (r : Option Vv × Mm) : Prop := Ev 7 K_Mo_summed 0 9 [(18, 400), u] [] N r
def go_ (N N' : Mm) : Prop := ∀ (r : Option Vv × Mm) (u : Vv), lp_ N' (0, 0) r → lp_ N u r
theorem go_.tr {N N1 N2 : Mm} (h : go_ N N1) (h2 : go_ N1 N2) : go_ N N2 := fun r u hr => h r u (h2 r _ hr)
/-- the model ends with a fault -/
def mf_ (t : Int) (w : Nat) (N : Mm) (f : Int) (p : Nat) : Prop := ∃ N', FMo t w N N' ∧ N' 400 9 = (p : Nat) ∧ ∀ u, lp_ N u (some (0, f), N')
/-- the class ends with a fault -/
def cf_ (d k : Nat) (a : List Vv) (m : Mm) (s : Nat) (f : Int) (p : Nat) : Prop := ∃ m', Cl d k a m (some (0, 0), m') ∧ flt_ m' f p ∧ FCf s m m'
theorem FMo_refl {t : Int} {w : Nat} {N : Mm} : FMo t w N N := fun _ _ _ _ _ => rfl
theorem FCl_refl {s : Nat} {m : Mm} : FCl s m m := fun _ _ _ _ _ => rfl
theorem FCl_adv {s : Nat} {m m' : Mm} (h : ∀ a b, ¬ (a = 80 ∧ 6 ≤ b ∧ b ≤ 9) → m' a b = m a b) : FCl s m m' := fun a b x _ _ => h a b (by omega)
theorem mf_pre {t f : Int} {w w2 p : Nat} {N N2 : Mm} (hF : FMo t w N N2) (hw : w ≤ w2) (hg : go_ N N2) (h : mf_ t w2 N2 f p) : mf_ t w N f p := by
  obtain ⟨N', h1, h2, h3⟩ := h
  exact ⟨N', hF.tr h1 hw, h2, fun u => hg _ u (h3 _)⟩
theorem cf_pre {d k k2 s s2 p : Nat} {a a2 : List Vv} {m m2 : Mm} {f : Int} (hF : FCl s m m2) (hs : s ≤ s2) (h : cf_ d k a m2 s2 f p) (hc : ∀ m', Cl d k a m2 (some (0, 0), m') → Cl (d + 1) k2 a2 m (some (0, 0), m')) : cf_ (d + 1) k2 a2 m s f p := by
  obtain ⟨m', h1, h2, h3⟩ := h
  exact ⟨m', hc m' h1, h2, hF.tr h3 hs⟩
theorem st_app {l : Int} : ∀ (pd π : List Int), (∀ x ∈ pd, l ≤ rk x) → (∀ x r, π = x :: r → rk x < l) → stE l (pd ++ π) = pd ∧ stR l (pd ++ π) = π := by
  intro pd
  induction pd with
  | nil =>
    intro π _ h
    cases π with
    | nil => exact ⟨rfl, rfl⟩
    | cons x r => exact ⟨if_pos (h x r rfl), if_pos (h x r rfl)⟩
  | cons y r ih =>
    intro π h1 h2
    obtain ⟨i1, i2⟩ := ih π (fun x hx => h1 x (List.mem_cons_of_mem _ hx)) h2
    have hy := h1 y (by simp)
    have hn : ¬ rk y < l := by omega
    constructor
    · show (if rk y < l then [] else y :: stE l (r ++ π)) = y :: r
      rw [if_neg hn, i1]
    · show (if rk y < l then y :: (r ++ π) else stR l (r ++ π)) = π
      rw [if_neg hn, i2]
theorem shN_b : ∀ l : List Int, 0 ≤ shN l ∧ shN l ≤ (l.length : Nat) := by
  intro l
  induction l with
  | nil => exact ⟨by decide, by decide⟩
  | cons x r ih =>
    have hsh : shu x = 1 ∨ shu x = 0 := by unfold shu; split <;> omega
    unfold shN
    rw [List.length_cons]
    omega
theorem shN_app : ∀ a b : List Int, shN (a ++ b) = shN a + shN b := by
  intro a b
  induction a with
  | nil => show shN b = 0 + shN b; omega
  | cons x r ih =>
    show shu x + shN (r ++ b) = shu x + shN r + shN b
    omega
theorem cmpd_app {l : List Int} : ∀ pd : List Int, (∀ x ∈ pd, 5 ≤ rk x) → cmpd (pd ++ l) = cmpd l := by
  intro pd
  induction pd with
  | nil => intro _; rfl
  | cons x r ih =>
    intro h
    have hx := h x (by simp)
    show (if rk x ≤ 4 then decide (rk x = 4) else cmpd (r ++ l)) = cmpd l
    rw [if_neg (by omega)]
    exact ih (fun y hy => h y (List.mem_cons_of_mem _ hy))
theorem rk_40 {x : Int} (h : 1 ≤ rk x) : x < 40 := by
  by_cases hx : x < 40
  · exact hx
  · unfold rk at h
    rw [if_neg hx] at h
    omega
theorem opW_app {l : List Int} : ∀ pd : List Int, (∀ x ∈ pd, 1 ≤ rk x) → opW (pd ++ l) = opW l := by
  intro pd
  induction pd with
  | nil => intro _; rfl
  | cons x r ih =>
    intro h
    have hx := rk_40 (h x (by simp))
    show (if 40 ≤ x then x else opW (r ++ l)) = opW l
    rw [if_neg (by omega)]
    exact ih (fun y hy => h y (List.mem_cons_of_mem _ hy))
theorem WRT_get {N : Mm} {t : Int} : ∀ (x : List Int) (w : Nat), WRT N t w x → ∀ (i : Nat) (y : Int), x[i]? = some y → N 403 (t + 73 + 2 * ((w + i : Nat) : Int)) = y := by
  intro x
  induction x with
  | nil => intro w _ i y h; simp at h
  | cons z r ih =>
    intro w h i y hi
    cases i with
    | zero =>
      simp at hi
      rw [← hi]
      exact h.1
    | succ i =>
      have := ih (w + 1) h.2.2 i y (by simpa using hi)
      rw [show w + (i + 1) = w + 1 + i by omega]
      exact this
/-- code alike, once what waits is written -/
def pnd_ (m N : Mm) (t so : Int) (b : Bool) (s s' w w' : Nat) (pd : List Int) : Prop := ∀ Mo Mv : Nat → Int, (∀ j, w ≤ j → j < w' → Mo j = cO t N j ∧ Mv j = cV t N j) → (∀ (i : Nat) (x : Int), pd[i]? = some x → Mo (w' + i) = x) → WX (cC m) Mo Mv so b s s' w (w' + pd.length)
theorem pnd_0 {m N : Mm} {t so : Int} {b : Bool} {s s' w w' : Nat} (h : WX (cC m) (cO t N) (cV t N) so b s s' w w') : pnd_ m N t so b s s' w w' [] := fun _ _ h1 _ => WX_ext h (fun _ _ _ => rfl) h1
/-- it is written -/
theorem pnd_w {m m' N N2 : Mm} {t so : Int} {b : Bool} {s s' w w' : Nat} {pd : List Int} (h : pnd_ m N t so b s s' w w' pd) (hm : ∀ j : Nat, s ≤ j → j < s' → m' 86 (j : Nat) = m 86 (j : Nat)) (hF : FMo t w' N N2) (hW : WRT N2 t w' pd) : WX (cC m') (cO t N2) (cV t N2) so b s s' w (w' + pd.length) := by
  refine WX_ext (h (cO t N2) (cV t N2) (fun j _ j2 => ⟨hF _ _ (by omega) (by omega) (by omega), hF _ _ (by omega) (by omega) (by omega)⟩) (fun i x hi => WRT_get pd w' hW i x hi)) (fun j j1 j2 => hm j j1 j2) (fun _ _ _ => ⟨rfl, rfl⟩)
def st_ (B : Int → Int) (L : Nat) (t so : Int) (b : Bool) (ρ : Int) (q s w o : Nat) (π : List Int) (m N : Mm) (q' s' w' : Nat) (pd : List Int) (m' N' : Mm) : Prop :=
  CSt B L (16 + so) m' q' s' (o : Nat) ∧ FCl s m m' ∧ MSt B L t so N' q' w' (pd ++ π) ((o : Nat) + shN pd) 1 ∧ FMo t w N N' ∧ (q < q' ∧ q' ≤ L ∧ s' + q ≤ q' + s ∧ w' + pd.length + q ≤ q' + w ∧ s ≤ s' ∧ w ≤ w') ∧ pnd_ m' N' t so b s s' w w' pd ∧ (∀ x ∈ pd, ρ ≤ rk x) ∧ (b = true → ∀ l, cmpd (pd ++ l) = true) ∧ go_ N N'
def pre_ (B : Int → Int) (L : Nat) (t so : Int) (q s w o : Nat) (π : List Int) (m N : Mm) (c : Nat) : Prop := CSt B L (16 + so) m q s (o : Nat) ∧ MSt B L t so N q w π (o : Nat) 0 ∧ (s ≤ q ∧ q ≤ L ∧ w + π.length ≤ q ∧ o ≤ 8 ∧ π.length + c ≤ 6 * o + 2)
/-- an act between two: the model's side -/
theorem st_op {B : Int → Int} {L : Nat} {t so ρ v : Int} {b : Bool} {q s w o q1 s1 w1 : Nat} {π pd : List Int} {m N m1 N1 : Mm} (hT : TPE B L) (h0 : 0 ≤ t ∧ t ≤ 2043) (h : st_ B L t so b ρ q s w o π m N q1 s1 w1 pd m1 N1) (hw : w + π.length ≤ q) (ho : o ≤ 8) (hl : π.length ≤ 60) (hpd : pd.length ≤ 20) (hv : btw_ (tkT B L q1) (pd ++ π) = v) (hv0 : 0 ≤ v) (hρ : lst_ v ≤ ρ) (hπ : ∀ x r, π = x :: r → rk x < lst_ v) : ∃ N2, MSt B L t so N2 (nxQ B L q1) (w1 + pd.length) (v :: π) (o : Nat) 0 ∧ WRT N2 t w1 pd ∧ FMo t w1 N1 N2 ∧ go_ N1 N2 := by
  obtain ⟨a1, a2, a3, a4, ⟨a5, a6, a7, a8, a9, a10⟩, a11, a12, a13, a14⟩ := h
  obtain ⟨e1, e2⟩ := st_app (l := lst_ v) pd π (fun x hx => by have := a12 x hx; omega) hπ
  obtain ⟨b1, b2⟩ := shN_b pd
  have hL := hT.1
  have := bo_op (d := 0) hT a3 h0 (by rw [List.length_append]; omega) (by rw [List.length_append]; omega) (by omega) (by rw [hv]; exact hv0) (by rw [hv, e2, List.length_append]; omega) (by rw [hv, e1, List.length_append]; omega)
  rw [hv, e1, e2, show (o : Int) + shN pd - shN pd = (o : Nat) by omega] at this
  obtain ⟨N2, c1, c2, c3, c4⟩ := this
  exact ⟨N2, c1, c2, c3, c4⟩
/-- two and the act between them -/
theorem st_join {B : Int → Int} {L : Nat} {t so ρ ρ1 ρ2 v c : Int} {a b : Bool} {q s w o q1 s1 w1 q2 q3 s3 w3 : Nat} {π pd1 pd2 : List Int} {m N m1 m1' N1 N2 m3 N3 m4 : Mm} (h1 : st_ B L t so a ρ1 q s w o π m N q1 s1 w1 pd1 m1 N1) (hW : WRT N2 t w1 pd1) (hF : FMo t w1 N1 N2) (hg : go_ N1 N2) (hm : FCl s1 m1 m1') (h2 : st_ B L t so a ρ2 q2 s1 (w1 + pd1.length) o (v :: π) m1' N2 q3 s3 w3 pd2 m3 N3) (hq2 : q1 < q2) (hcm : (c, v) ∈ ops a b) (hρ : ρ ≤ ρ2) (hρv : ρ ≤ rk v) (hsv : shu v = 0) (hc : b = true → a = false → 5 ≤ ρ2 ∧ rk v = 4) (hab : b = false → a = false) (e1 : CSt B L (16 + so) m4 q3 (s3 + 1) (o : Nat)) (e2 : m4 86 (s3 : Nat) = c) (e3 : FCl s3 m3 m4) : st_ B L t so b ρ q s w o π m N q3 (s3 + 1) w3 (pd2 ++ [v]) m4 N3 := by
  obtain ⟨a1, a2, a3, a4, ⟨a5, a6, a7, a8, a9, a10⟩, a11, a12, a13, a14⟩ := h1
  obtain ⟨b1, b2, b3, b4, ⟨b5, b6, b7, b8, b9, b10⟩, b11, b12, b13, b14⟩ := h2
  have el : (pd2 ++ [v]).length = pd2.length + 1 := by rw [List.length_append]; rfl
  refine ⟨e1, ((a2.tr hm a9).tr b2 a9).tr e3 (by omega), ?_, (a4.tr hF a10).tr b4 (by omega), ⟨by omega, b6, by omega, by rw [el]; omega, by omega, by omega⟩, ?_, ?_, ?_, (a14.tr hg).tr b14⟩
  · rw [List.append_assoc, List.singleton_append, shN_app, show shN [v] = shu v + 0 from rfl, hsv, Int.add_zero, Int.add_zero]
    exact b3
  · intro Mo Mv k1 k2
    have p1 := a11 Mo Mv (fun j j1 j2 => by
      obtain ⟨x1, x2⟩ := k1 j j1 (by omega)
      rw [x1, x2]
      unfold cO cV
      rw [b4 _ _ (by omega) (by omega) (by omega), b4 _ _ (by omega) (by omega) (by omega), hF _ _ (by omega) (by omega) (by omega), hF _ _ (by omega) (by omega) (by omega)]
      exact ⟨rfl, rfl⟩) (fun i x hi => by
      have hlt : i < pd1.length := (List.getElem?_eq_some_iff.mp hi).1
      rw [(k1 (w1 + i) (by omega) (by omega)).1]
      unfold cO
      rw [b4 _ _ (by omega) (by omega) (by omega)]
      exact WRT_get pd1 w1 hW i x hi)
    have p2 := b11 Mo Mv (fun j j1 j2 => k1 j (by omega) j2) (fun i x hi => by
      have hlt : i < pd2.length := (List.getElem?_eq_some_iff.mp hi).1
      exact k2 i x (by rw [List.getElem?_append_left hlt]; exact hi))
    have q1 : WX (cC m4) Mo Mv so a s s1 w (w1 + pd1.length) := WX_ext p1 (fun j _ j2 => by
      show m4 86 _ = m1 86 _
      rw [e3 _ _ (by omega) (by omega) (by omega), b2 _ _ (by omega) (by omega) (by omega), hm _ _ (by omega) (by omega) (by omega)]) (fun _ _ _ => ⟨rfl, rfl⟩)
    have q2 : WX (cC m4) Mo Mv so a s1 s3 (w1 + pd1.length) (w3 + pd2.length) := WX_ext p2 (fun j _ j2 => by
      show m4 86 _ = m3 86 _
      rw [e3 _ _ (by omega) (by omega) (by omega)]) (fun _ _ _ => ⟨rfl, rfl⟩)
    have := WX_two (cm := (c, v)) hcm q1 q2 e2 (k2 pd2.length v (by simp))
    rw [el, ← Nat.add_assoc]
    exact this
  · intro x hx
    rcases List.mem_append.mp hx with y | y
    · have := b12 x y; omega
    · rw [List.mem_singleton] at y
      rw [y]; exact hρv
  · intro hb l
    rw [List.append_assoc, List.singleton_append]
    cases a with
    | true => exact b13 rfl _
    | false =>
      obtain ⟨x1, x2⟩ := hc hb rfl
      rw [cmpd_app pd2 (fun x hx => by have := b12 x hx; omega)]
      show (if rk v ≤ 4 then decide (rk v = 4) else cmpd l) = true
      rw [if_pos (by omega), x2]
      rfl
/-- a method's end: it is whole, or a fault -/
def sv_ (B : Int → Int) (L : Nat) (t so : Int) (k A : Nat) (b : Bool) (ρ : Int) (lb : Nat) (Tk : Int → Prop) (q s w o : Nat) (π : List Int) (m N : Mm) : Prop :=
  (∃ q' s' w' pd m' N', Cl A k [(15, 80)] m (some (0, 1), m') ∧ st_ B L t so b ρ q s w o π m N q' s' w' pd m' N' ∧ pd.length ≤ lb ∧ Tk (tkT B L q')) ∨ (∃ f p, 0 < f ∧ cf_ A k [(15, 80)] m s f p ∧ mf_ t w N f p)
def dpA (o : Nat) : Nat := 9 * (8 - o) + 6
