/-! THE RELATION between the class's memory and the model's -/
/-- what two laws' codes do alike: the class's from p to p', the model's from q to q', a number (false) or what is asked (true), and what comes of it by names and hedges -/
abbrev Ef : Type := (Int → Int) → (Int → Bool) → Int
def clp (x : Int) : Int := if 1000000 < x then 1000000 else if x < -1000000 then -1000000 else x
/-- truncated division -/
def tdv (a b : Int) : Int := if b = 0 then 0 else Int.tdiv a b
def apt (a b : Int) : Int := if (0 ≤ a ∧ a < 25) ∧ 0 ≤ b ∧ b < 25 then (if b / 5 ≤ a / 5 then a / 5 - b / 5 else b / 5 - a / 5) + (if b % 5 ≤ a % 5 then a % 5 - b % 5 else b % 5 - a % 5) else 0
def bop (c : Int) (a b : Int) : Int := if c = 7 then clp (a + b) else if c = 8 then clp (a - b) else if c = 9 then clp (a * b) else if c = 10 then tdv a b else if c = 33 then apt a b else if c = 3 then (if a < b then 1 else 0) else if c = 14 then (if a ≤ b then 1 else 0) else if c = 4 then (if b < a then 1 else 0) else if c = 15 then (if b ≤ a then 1 else 0) else if c = 5 then (if a = b then 1 else 0) else if c = 6 then (if a = b then 0 else 1) else if c = 41 then (if a = 1 ∧ b = 1 then 1 else 0) else (if a = 1 ∨ b = 1 then 1 else 0)
/-- the class's word for an act of two, and the model's -/
def ops : Bool → Bool → List (Int × Int)
  | false, false => [(7, 6), (8, 7), (9, 8), (10, 9), (33, 4)]
  | false, true => [(3, 10), (14, 11), (4, 12), (15, 13), (5, 14), (6, 15)]
  | true, true => [(41, 21), (40, 22)]
  | true, false => []
/-- the names that a law of this sort may have -/
def nmo (w k : Int) : Prop := 0 ≤ k ∧ k < 7 ∧ (k < 4 ∨ (k = 4 ∧ w = 0) ∨ (4 < k ∧ w = 1))
def WE (C Mo Mv : Nat → Int) (w : Int) : Nat → Bool → Nat → Nat → Nat → Nat → Ef → Prop
  | 0, _, _, _, _, _, _ => False
  | n + 1, b, p, p', q, q', F =>
    (b = false ∧ ∃ v : Int, 0 ≤ v ∧ v ≤ 9999 ∧ C p = 2 + v * 64 ∧ Mo q = 0 ∧ Mv q = v ∧ p' = p + 1 ∧ q' = q + 1 ∧ F = fun _ _ => v)
    ∨ (b = false ∧ ∃ k : Int, nmo w k ∧ C p = 43 + k * 64 ∧ Mo q = 1 ∧ Mv q = k ∧ p' = p + 1 ∧ q' = q + 1 ∧ F = fun N _ => N k)
    ∨ (b = false ∧ ∃ (p1 q1 : Nat) (F1 : Ef), WE C Mo Mv w n false p p1 q q1 F1 ∧ C p1 = 44 ∧ Mo q1 = 5 ∧ p' = p1 + 1 ∧ q' = q1 + 1 ∧ F = fun N H => -F1 N H)
    ∨ (b = false ∧ ∃ (p1 q1 : Nat) (F1 : Ef), WE C Mo Mv w n false p p1 q q1 F1 ∧ C p1 = 35 ∧ Mo q1 = 2 ∧ p' = p1 + 1 ∧ q' = q1 + 1 ∧ F = fun N H => if (0 ≤ F1 N H ∧ F1 N H < 40) ∧ H (F1 N H) = true then 1 else 0)
    ∨ (∃ (a : Bool) (cm : Int × Int) (p1 q1 p2 q2 : Nat) (F1 F2 : Ef), cm ∈ ops a b ∧ WE C Mo Mv w n a p p1 q q1 F1 ∧ WE C Mo Mv w n a p1 p2 q1 q2 F2 ∧ C p2 = cm.1 ∧ Mo q2 = cm.2 ∧ p' = p2 + 1 ∧ q' = q2 + 1 ∧ F = fun N H => bop cm.1 (F1 N H) (F2 N H))
    ∨ (b = false ∧ ∃ (p1 q1 p2 q2 p3 q3 : Nat) (G F1 F2 : Ef), WE C Mo Mv w n true p p1 q q1 G ∧ C p1 = 45 + ((p2 : Int) + 1) * 64 ∧ WE C Mo Mv w n false (p1 + 1) p2 q1 q2 F1 ∧ C p2 = 46 + (p3 : Int) * 64 ∧ WE C Mo Mv w n false (p2 + 1) p3 q2 q3 F2 ∧ Mo q3 = 3 ∧ p' = p3 ∧ q' = q3 + 1 ∧ F = fun N H => if G N H = 0 then F2 N H else F1 N H)
    ∨ (b = true ∧ ∃ (p1 q1 : Nat) (G : Ef), WE C Mo Mv w n true p p1 q q1 G ∧ C p1 = 42 ∧ Mo q1 = 20 ∧ p' = p1 + 1 ∧ q' = q1 + 1 ∧ F = fun N H => 1 - G N H)
/-- a law: the class's at o, by the text's fields s, from s+1, to s+2; the model's text t, the clause of this sort -/
def LAW (m : Mm) (o t s w : Int) : Prop :=
  (m o s = 0 ∧ ∀ i : Nat, (i : Int) < m o 0 → m 403 (681 * t + 1 + 3 * i) ≠ w)
  ∨ (m o s = 1 ∧ ∃ (i p p' q q' n : Nat) (F : Ef), (i : Int) < m o 0 ∧ m 403 (681 * t + 1 + 3 * i) = w ∧ (∀ j : Nat, j < i → m 403 (681 * t + 1 + 3 * j) ≠ w) ∧ m o (s + 1) = p ∧ m o (s + 2) = p' ∧ m 403 (681 * t + 2 + 3 * i) = q ∧ m 403 (681 * t + 3 + 3 * i) = q' ∧ p' ≤ 300 ∧ q' ≤ 304 ∧ WE (fun j => m (o + 4) j) (fun j => m 403 (681 * t + 73 + 2 * j)) (fun j => m 403 (681 * t + 74 + 2 * j)) w n false p p' q q' F)
def TXT (m : Mm) (t : Nat) : Prop :=
  (0 ≤ m (16 + 8 * t) 0 ∧ m (16 + 8 * t) 0 ≤ 24 ∧ m 403 (681 * t) = m (16 + 8 * t) 0)
  ∧ (∀ i : Nat, (i : Int) < m (16 + 8 * t) 0 → 0 ≤ m 403 (681 * t + 1 + 3 * i) ∧ m 403 (681 * t + 1 + 3 * i) ≤ 8 ∧ m (16 + 8 * t + 1) i = 16 + m 403 (681 * t + 1 + 3 * i)
      ∧ (2 ≤ m 403 (681 * t + 1 + 3 * i) → m (16 + 8 * t + 2) i = m 403 (681 * t + 2 + 3 * i) ∧ 0 ≤ m 403 (681 * t + 2 + 3 * i) ∧ m 403 (681 * t + 2 + 3 * i) ≤ 60)
      ∧ (m 403 (681 * t + 1 + 3 * i) = 2 ∨ m 403 (681 * t + 1 + 3 * i) = 6 ∨ m 403 (681 * t + 1 + 3 * i) = 7 → m (16 + 8 * t + 3) i = m 403 (681 * t + 3 + 3 * i)))
  ∧ LAW m (16 + 8 * t) t 6 0 ∧ LAW m (16 + 8 * t) t 9 1
theorem LAW_con {m m' : Mm} {o s w : Int} {t : Nat} (h : LAW m o t s w) (h1 : ∀ b, m' o b = m o b) (h2 : ∀ b, m' (o + 4) b = m (o + 4) b) (h3 : ∀ b, m' 403 b = m 403 b) : LAW m' o t s w := by
  unfold LAW at *
  simp only [h1, h2, h3]
  exact h
theorem TXT_con {m m' : Mm} {t : Nat} (h : TXT m t) (h1 : ∀ a b, 16 + 8 * (t : Int) ≤ a → a ≤ 20 + 8 * (t : Int) → m' a b = m a b) (h3 : ∀ b, m' 403 b = m 403 b) : TXT m' t := by
  obtain ⟨q1, q2, q3, q4⟩ := h
  have e0 : ∀ b, m' (16 + 8 * (t : Int)) b = m (16 + 8 * t) b := fun b => h1 _ _ (by omega) (by omega)
  refine ⟨?_, ?_, LAW_con q3 e0 (fun b => h1 _ _ (by omega) (by omega)) h3, LAW_con q4 e0 (fun b => h1 _ _ (by omega) (by omega)) h3⟩
  · rw [e0, h3]; exact q1
  · intro i hi
    rw [e0] at hi
    have := q2 i hi
    rw [h3, h3, h3, h1 (16 + 8 * (t : Int) + 1) _ (by omega) (by omega), h1 (16 + 8 * (t : Int) + 2) _ (by omega) (by omega), h1 (16 + 8 * (t : Int) + 3) _ (by omega) (by omega)]
    exact this
def RH (m : Mm) (S : Int → Int) : Prop := ∀ h : Nat, (h : Int) < S 0 → hv20 (S (32 + 2 * h)) ∧ hv20 (S (33 + 2 * h)) ∧ ∀ t : Nat, t < 8 → m 2 (8 * h + t) = (pat (cmb (S (32 + 2 * h)) (S (33 + 2 * h))) t : Nat)
def RF (m : Mm) : Prop := (0 ≤ m 400 5 ∧ m 400 5 ≤ 300 ∧ m 80 1 = m 400 5) ∧ (∀ i : Nat, (i : Int) < m 400 5 → m 81 i = m 405 i ∧ 0 ≤ m 405 i ∧ m 405 i < 256) ∧ (m 80 3 = 0 → m 400 6 = -1 ∧ m 400 7 = -1) ∧ (m 80 3 ≠ 0 → m 80 4 = m 400 6 ∧ m 80 5 = m 400 7)
def R (m : Mm) : Prop := FC m 128 (m 401) ∧ FC m 256 (m 402) ∧ RH m (m 401) ∧ RH m (m 402) ∧ (m 402 0 ≤ m 401 0 ∧ m 402 2 ≤ m 401 2) ∧ (∀ t : Nat, (t : Int) < m 401 2 → TXT m t) ∧ RF m ∧ (TRI m ∧ TU m ∧ m 400 24 = 1) ∧ (m 48 6 = 0 ∧ m 48 9 = 0)
/-- what no call leaves anything in -/
def scr (a b : Int) : Prop := (10 ≤ a ∧ a ≤ 14) ∨ (64 ≤ a ∧ a ≤ 67) ∨ (406 ≤ a ∧ a ≤ 417) ∨ (a = 400 ∧ 8 ≤ b ∧ b ≠ 24) ∨ (a = 80 ∧ 6 ≤ b) ∨ (82 ≤ a ∧ a ≤ 86)
def SM (m m' : Mm) : Prop := ∀ a b, ¬ scr a b → m' a b = m a b
theorem SM_refl {m : Mm} : SM m m := fun _ _ _ => rfl
theorem SM.tr {m m1 m2 : Mm} (h : SM m m1) (h2 : SM m1 m2) : SM m m2 := fun a b hab => by rw [h2 a b hab, h a b hab]
theorem R_now {m m2 : Mm} (h : R m) (hF : FC m2 128 (m2 401)) (hS : m2 401 0 = m 401 0 ∧ m2 401 2 = m 401 2 ∧ ∀ k, 32 ≤ k → k < 40 → m2 401 k = m 401 k) (hfr : ∀ a b, ¬ scr a b → a ≠ 401 → (a < 128 ∨ 255 < a) → m2 a b = m a b) : R m2 ∧ m2 500 = m 500 := by
  obtain ⟨h1, h2, h3, h4, h5, h6, h7, h8, h9⟩ := h
  have ns : ∀ {a b : Int}, a ≠ 80 → a ≠ 400 → ¬ (10 ≤ a ∧ a ≤ 14) → ¬ (64 ≤ a ∧ a ≤ 67) → ¬ (406 ≤ a ∧ a ≤ 417) → ¬ (82 ≤ a ∧ a ≤ 86) → ¬ scr a b := by
    intro a b
    unfold scr
    omega
  have f402 : m2 402 = m 402 := by
    funext b
    exact hfr _ _ (ns (by omega) (by omega) (by omega) (by omega) (by omega) (by omega)) (by omega) (by omega)
  have f2 : ∀ b, m2 2 b = m 2 b := fun b => hfr _ _ (ns (by omega) (by omega) (by omega) (by omega) (by omega) (by omega)) (by omega) (by omega)
  have e400 : ∀ b, b < 8 ∨ b = 24 → m2 400 b = m 400 b := fun b hb => hfr _ _ (by unfold scr; omega) (by omega) (by omega)
  have e80 : ∀ b, b < 6 → m2 80 b = m 80 b := fun b hb => hfr _ _ (by unfold scr; omega) (by omega) (by omega)
  refine ⟨⟨hF, ?_, ?_, ?_, ?_, ?_, ⟨?_, ?_, ?_, ?_⟩, ⟨?_, ?_, ?_⟩, ?_⟩, ?_⟩
  · rw [f402]
    exact FC_con h2 (fun a b ha hb => hfr a b (ns (by omega) (by omega) (by omega) (by omega) (by omega) (by omega)) (by omega) (by omega))
  · intro j hj
    rw [hS.1] at hj
    have := (h1.2.2.2).2.1
    simp only [f2]
    rw [hS.2.2 _ (by omega) (by omega), hS.2.2 _ (by omega) (by omega)]
    exact h3 j hj
  · intro j hj
    rw [f402] at hj ⊢
    simp only [f2]
    exact h4 j hj
  · rw [f402, hS.1, hS.2.1]; exact h5
  · intro t ht
    rw [hS.2.1] at ht
    have := (h1.2.2.2).2.2.1
    exact TXT_con (h6 t ht) (fun a b ha hb => hfr a b (ns (by omega) (by omega) (by omega) (by omega) (by omega) (by omega)) (by omega) (by omega)) (fun b => hfr _ _ (ns (by omega) (by omega) (by omega) (by omega) (by omega) (by omega)) (by omega) (by omega))
  · rw [e400 5 (by omega), e80 1 (by omega)]; exact h7.1
  · intro i hi
    rw [e400 5 (by omega)] at hi
    rw [hfr 81 _ (ns (by omega) (by omega) (by omega) (by omega) (by omega) (by omega)) (by omega) (by omega), hfr 405 _ (ns (by omega) (by omega) (by omega) (by omega) (by omega) (by omega)) (by omega) (by omega)]
    exact h7.2.1 i hi
  · rw [e80 3 (by omega), e400 6 (by omega), e400 7 (by omega)]; exact h7.2.2.1
  · rw [e80 3 (by omega), e400 6 (by omega), e400 7 (by omega), e80 4 (by omega), e80 5 (by omega)]; exact h7.2.2.2
  · have f : ∀ b, m2 501 b = m 501 b := fun b => hfr _ _ (ns (by omega) (by omega) (by omega) (by omega) (by omega) (by omega)) (by omega) (by omega)
    unfold TRI
    rw [f, f, f, f]
    exact h8.1
  · intro t k ht hk
    rw [hfr 404 _ (ns (by omega) (by omega) (by omega) (by omega) (by omega) (by omega)) (by omega) (by omega)]
    exact h8.2.1 t k ht hk
  · rw [e400 24 (by omega)]; exact h8.2.2
  · rw [hfr 48 _ (ns (by omega) (by omega) (by omega) (by omega) (by omega) (by omega)) (by omega) (by omega), hfr 48 _ (ns (by omega) (by omega) (by omega) (by omega) (by omega) (by omega)) (by omega) (by omega)]
    exact h9
  · funext b
    exact hfr 500 b (ns (by omega) (by omega) (by omega) (by omega) (by omega) (by omega)) (by omega) (by omega)
theorem SM_n {m m' : Mm} (h : SM m m') {a b : Int} (h1 : a ≠ 80) (h2 : a ≠ 400) (h3 : ¬ (10 ≤ a ∧ a ≤ 14)) (h4 : ¬ (64 ≤ a ∧ a ≤ 67)) (h5 : ¬ (406 ≤ a ∧ a ≤ 417)) (h6 : ¬ (82 ≤ a ∧ a ≤ 86)) : m' a b = m a b := h a b (by unfold scr; omega)
theorem SM_row {m m' : Mm} (h : SM m m') {a : Int} (h1 : a ≠ 80) (h2 : a ≠ 400) (h3 : ¬ (10 ≤ a ∧ a ≤ 14)) (h4 : ¬ (64 ≤ a ∧ a ≤ 67)) (h5 : ¬ (406 ≤ a ∧ a ≤ 417)) (h6 : ¬ (82 ≤ a ∧ a ≤ 86)) : m' a = m a := by
  funext b
  exact SM_n h h1 h2 h3 h4 h5 h6
theorem R_same {m m2 : Mm} (h : R m) (hs : SM m m2) : R m2 ∧ m2 500 = m 500 := by
  have e : m2 401 = m 401 := SM_row hs (by omega) (by omega) (by omega) (by omega) (by omega) (by omega)
  refine R_now h ?_ ⟨by rw [e], by rw [e], fun k _ _ => by rw [e]⟩ (fun a b hab _ _ => hs a b hab)
  rw [e]
  exact FC_con h.1 (fun a b ha hb => SM_n hs (by omega) (by omega) (by omega) (by omega) (by omega) (by omega))
def OP (kc km t : Nat) (args : List Vv) (m : Mm) : Prop := ∃ v m1 m2, Cl 120 kc ((17, 0) :: args) m (some (t, v), m1) ∧ Cl 120 km ((18, 400) :: args) m1 (some (t, v), m2) ∧ R m2 ∧ m2 500 = m 500
/-- a call that asks alone -/
theorem OP_q {kc km t : Nat} {args : List Vv} {m m1 m2 : Mm} {v : Int} (h : R m) (hc : Cl 120 kc ((17, 0) :: args) m (some (t, v), m1)) (hm : Cl 120 km ((18, 400) :: args) m1 (some (t, v), m2)) (h1 : SM m m1) (h2 : SM m1 m2) : OP kc km t args m := by
  obtain ⟨q1, q2⟩ := R_same h (h1.tr h2)
  exact ⟨v, m1, m2, hc, hm, q1, q2⟩
/-- the same, where nothing at all is changed -/
theorem OP_e {kc km t : Nat} {args : List Vv} {m : Mm} {v : Int} (h : R m) (hc : Cl 120 kc ((17, 0) :: args) m (some (t, v), m)) (hm : Cl 120 km ((18, 400) :: args) m (some (t, v), m)) : OP kc km t args m := ⟨v, m, m, hc, hm, h, rfl⟩
