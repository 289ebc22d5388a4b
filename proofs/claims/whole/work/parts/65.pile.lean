/-! THE PARSERS: what they write, what waits -/
theorem c_Tx_emit {d s : Nat} {m : Mm} {x y : Int} (h5 : m 82 5 = (s : Nat)) (hs : s < 300) (hx : 0 ≤ x ∧ x < 64) (hy : 0 ≤ y ∧ y ≤ 9999) : Cl d k_Tx_emit [(16, 82), (0, x), (0, y)] m (some (0, 1), up (up m 86 (s : Nat) (x + y * 64)) 82 5 ((s + 1 : Nat) : Int)) := by
  refine cl_Tx_emit (b_Tx_emit ⟨fun z => by omega, fun _ => ⟨by omega, ?_⟩⟩)
  rintro m1 rfl
  rintro m2 rfl
  rw [h5, up_ne (by omega), h5, w32s (by omega), w32n (x := y * 64) (by omega) (by omega), w32n (by omega) (by omega)]
  rfl
theorem c_Rd_refuse {d : Nat} {m : Mm} {x : Int} : Cl d k_Rd_refuse [(15, 80), (0, x)] m (some (0, 0), up (up m 80 4 x) 80 5 (m 80 7)) := by
  refine cl_Rd_refuse (b_Rd_refuse ?_)
  rintro m1 rfl
  rintro m2 rfl
  rw [up_nk (by omega)]
def rk (x : Int) : Int := if x < 40 then (if x = 22 then 1 else if x = 21 then 2 else if x = 20 then 3 else if x < 10 then (if x = 5 then 7 else if x = 2 then 7 else if x = 4 then 7 else if x < 8 then 5 else 6) else 4) else 0
theorem c_Mo_rank {d : Nat} {m : Mm} {x : Int} : Cl d k_Mo_rank [(0, x)] m (some (0, rk x), m) := by
  unfold rk
  refine cl_Mo_rank (b_Mo_rank ⟨fun h => ⟨fun h1 => ⟨fun h2 => ⟨fun h3 => ⟨fun h4 => ⟨fun h5 => ?_, fun h5 => ⟨fun h6 => ?_, fun h6 => ⟨fun h7 => ⟨fun h8 => ?_, fun h8 => ?_⟩, fun h7 => ?_⟩⟩⟩, fun h4 => ?_⟩, fun h3 => ?_⟩, fun h2 => ?_⟩, fun h1 => ?_⟩, fun h => ?_⟩)
  · rw [if_pos h, if_neg h1, if_neg h2, if_neg h3, if_pos h4, if_pos h5]
  · rw [if_pos h, if_neg h1, if_neg h2, if_neg h3, if_pos h4, if_neg h5, if_pos h6]
  · rw [if_pos h, if_neg h1, if_neg h2, if_neg h3, if_pos h4, if_neg h5, if_neg h6, if_neg h7, if_pos h8]
  · rw [if_pos h, if_neg h1, if_neg h2, if_neg h3, if_pos h4, if_neg h5, if_neg h6, if_neg h7, if_neg h8]
  · rw [if_pos h, if_neg h1, if_neg h2, if_neg h3, if_pos h4, if_neg h5, if_neg h6, if_pos (Classical.not_not.mp h7)]
  · rw [if_pos h, if_neg h1, if_neg h2, if_neg h3, if_neg h4]
  · rw [if_pos h, if_neg h1, if_neg h2, if_pos (Classical.not_not.mp h3)]
  · rw [if_pos h, if_neg h1, if_pos (Classical.not_not.mp h2)]
  · rw [if_pos h, if_pos (Classical.not_not.mp h1)]
  · rw [if_neg h]
/-- the pile, its top first -/
def pil (N : Mm) : List Int → Prop
  | [] => True
  | x :: r => N 406 (r.length : Nat) = x ∧ pil N r
def PIL (N : Mm) (π : List Int) : Prop := N 400 17 = (π.length : Nat) ∧ pil N π
theorem pil_con {N N' : Mm} : ∀ π : List Int, pil N π → (∀ b, 0 ≤ b → b < (π.length : Nat) → N' 406 b = N 406 b) → pil N' π := by
  intro π
  induction π with
  | nil => exact fun _ _ => trivial
  | cons x r ih =>
    intro h hb
    rw [List.length_cons] at hb
    exact ⟨by rw [hb _ (by omega) (by omega)]; exact h.1, ih h.2 (fun b b0 b1 => hb b b0 (by omega))⟩
theorem PIL_con {N N' : Mm} {π : List Int} (h : PIL N π) (h1 : N' 400 17 = N 400 17) (h2 : ∀ b, N' 406 b = N 406 b) : PIL N' π := ⟨by rw [h1]; exact h.1, pil_con π h.2 (fun b _ _ => h2 b)⟩
theorem c_Mo_emit {d w : Nat} {m : Mm} {x y t : Int} (ht : m 400 13 = t) (h0 : 0 ≤ t ∧ t ≤ 2043) (hw : m 400 14 = (w : Nat)) (hs : w < 304) : Cl d k_Mo_emit [(18, 400), (0, x), (0, y)] m (none, up (up (up m 403 (t + 73 + 2 * w) x) 403 (t + 74 + 2 * w) y) 400 14 ((w + 1 : Nat) : Int)) := by
  have e1 : w32 (w32 (t + 73) + w32 (2 * (w : Int))) = t + 73 + 2 * w := by
    rw [w32n (x := t + 73) (by omega) (by omega), w32n (x := 2 * (w : Int)) (by omega) (by omega), w32n (by omega) (by omega)]
  have e2 : w32 (t + 73 + 2 * (w : Int) + 1) = t + 74 + 2 * w := by rw [w32n (by omega) (by omega)]; omega
  refine cl_Mo_emit (b_Mo_emit ?_)
  rw [ht, hw, e1]
  refine ⟨by omega, ?_⟩
  rintro m1 rfl
  rw [up_ne (by omega), up_ne (by omega), ht, hw, e1, e2]
  refine ⟨by omega, ?_⟩
  rintro m2 rfl
  rintro m3 rfl
  rw [up_ne (by omega), up_ne (by omega), hw, w32s (by omega)]
/-- what settling emits, what it leaves, how many it shuts -/
def stE (l : Int) : List Int → List Int
  | [] => []
  | x :: r => if rk x < l then [] else x :: stE l r
def stR (l : Int) : List Int → List Int
  | [] => []
  | x :: r => if rk x < l then x :: r else stR l r
def shu (x : Int) : Int := if rk x = 7 ∨ x = 20 then 1 else 0
def shN : List Int → Int
  | [] => 0
  | x :: r => shu x + shN r
/-- the words x are written from w on, with nothing -/
def WRT (N : Mm) (t : Int) : Nat → List Int → Prop
  | _, [] => True
  | w, x :: r => N 403 (t + 73 + 2 * w) = x ∧ N 403 (t + 74 + 2 * w) = 0 ∧ WRT N t (w + 1) r
theorem WRT_con {N N' : Mm} {t : Int} : ∀ (x : List Int) (w : Nat), WRT N t w x → (∀ b, t + 73 + 2 * w ≤ b → N' 403 b = N 403 b) → WRT N' t w x := by
  intro x
  induction x with
  | nil => exact fun _ _ _ => trivial
  | cons x r ih =>
    intro w h hb
    exact ⟨by rw [hb _ (by omega)]; exact h.1, by rw [hb _ (by omega)]; exact h.2.1, ih (w + 1) h.2.2 (fun b hb' => hb b (by omega))⟩
theorem c_Mo_settle {d : Nat} {l t : Int} (h0 : 0 ≤ t ∧ t ≤ 2043) : ∀ (π : List Int) (m : Mm) (w : Nat) (o : Int), PIL m π → π.length ≤ 160 → m 400 13 = t → m 400 14 = (w : Nat) → w + (stE l π).length ≤ 304 → m 400 18 = o → -1000 ≤ o - π.length → o ≤ 1000 → ∃ m', Cl (d + 1) k_Mo_settle [(18, 400), (0, l)] m (none, m') ∧ PIL m' (stR l π) ∧ m' 400 14 = ((w + (stE l π).length : Nat) : Int) ∧ m' 400 18 = o - shN (stE l π) ∧ WRT m' t w (stE l π) ∧ (∀ a b, ¬ (a = 400 ∧ (b = 14 ∨ b = 17 ∨ b = 18)) → ¬ (a = 403 ∧ t + 73 + 2 * w ≤ b) → m' a b = m a b) := by
  intro π
  induction π with
  | nil =>
    intro m w o hP hl ht hw hc ho o1 o2
    have e : m 400 17 = 0 := hP.1
    exact ⟨m, cl_Mo_settle (b_Mo_settle ⟨fun _ => rfl, fun z => absurd (by omega) z⟩), hP, hw, by rw [ho]; show o = o - 0; omega, trivial, fun _ _ _ _ => rfl⟩
  | cons x r ih =>
    intro m w o hP hl ht hw hc ho o1 o2
    obtain ⟨p1, p2, p3⟩ := hP
    rw [List.length_cons] at p1 hl o1
    have e1 : w32 (m 400 17 - 1) = (r.length : Nat) := by rw [p1, w32n (by omega) (by omega)]; omega
    by_cases hr : rk x < l
    · have sE : stE l (x :: r) = [] := if_pos hr
      have sR : stR l (x :: r) = x :: r := if_pos hr
      rw [sE, sR]
      refine ⟨m, cl_Mo_settle (b_Mo_settle ⟨fun z => by omega, fun _ => ?_⟩), ⟨by rw [List.length_cons]; exact p1, p2, p3⟩, hw, by rw [ho]; show o = o - 0; omega, trivial, fun _ _ _ _ => rfl⟩
      rw [e1, p2]
      exact ⟨by omega, _, _, c_Mo_rank, fun _ => rfl, fun z => absurd hr z⟩
    · have sE : stE l (x :: r) = x :: stE l r := if_neg hr
      have sR : stR l (x :: r) = stR l r := if_neg hr
      rw [sE, List.length_cons] at hc
      rw [sE, sR]
      obtain ⟨M2, hM2⟩ : ∃ M2, M2 = up m 400 17 (r.length : Nat) := ⟨_, rfl⟩
      have a13 : M2 400 13 = t := by rw [hM2, up_nk (by omega)]; exact ht
      have a14 : M2 400 14 = (w : Nat) := by rw [hM2, up_nk (by omega)]; exact hw
      have a17 : M2 400 17 = (r.length : Nat) := by rw [hM2, up_eq]
      have a18 : M2 400 18 = o := by rw [hM2, up_nk (by omega)]; exact ho
      have a6 : ∀ b, M2 406 b = m 406 b := fun b => by rw [hM2, up_ne (by omega)]
      have hem := c_Mo_emit (d := d) (x := x) (y := 0) a13 h0 a14 (by omega)
      obtain ⟨M3, hM3⟩ : ∃ M3, M3 = up (up (up M2 403 (t + 73 + 2 * w) x) 403 (t + 74 + 2 * w) 0) 400 14 ((w + 1 : Nat) : Int) := ⟨_, rfl⟩
      rw [← hM3] at hem
      have b13 : M3 400 13 = t := by rw [hM3, up_nk (by omega), up_ne (by omega), up_ne (by omega)]; exact a13
      have b14 : M3 400 14 = ((w + 1 : Nat) : Int) := by rw [hM3, up_eq]
      have b17 : M3 400 17 = (r.length : Nat) := by rw [hM3, up_nk (by omega), up_ne (by omega), up_ne (by omega)]; exact a17
      have b18 : M3 400 18 = o := by rw [hM3, up_nk (by omega), up_ne (by omega), up_ne (by omega)]; exact a18
      have b6 : ∀ b, M3 406 b = m 406 b := fun b => by rw [hM3, up_ne (by omega), up_ne (by omega), up_ne (by omega)]; exact a6 b
      have bF : ∀ a b, ¬ (a = 400 ∧ (b = 14 ∨ b = 17 ∨ b = 18)) → ¬ (a = 403 ∧ t + 73 + 2 * w ≤ b) → M3 a b = m a b := fun a b z1 z2 => by
        rw [hM3, hM2]
        unfold up
        rw [if_neg (by omega), if_neg (by omega), if_neg (by omega), if_neg (by omega)]
      have c1 : M3 403 (t + 73 + 2 * w) = x := by rw [hM3, up_ne (by omega), up_nk (by omega), up_eq]
      have c2 : M3 403 (t + 74 + 2 * w) = 0 := by rw [hM3, up_ne (by omega), up_eq]
      -- the rest, opens less by what is shut
      have rest : ∀ (M : Mm), M = (if shu x = 1 then up M3 400 18 (o - 1) else M3) → ∃ m', Cl (d + 1) k_Mo_settle [(18, 400), (0, l)] M (none, m') ∧ PIL m' (stR l r) ∧ m' 400 14 = ((w + (x :: stE l r).length : Nat) : Int) ∧ m' 400 18 = o - shN (x :: stE l r) ∧ WRT m' t w (x :: stE l r) ∧ (∀ a b, ¬ (a = 400 ∧ (b = 14 ∨ b = 17 ∨ b = 18)) → ¬ (a = 403 ∧ t + 73 + 2 * w ≤ b) → m' a b = m a b) := by
        intro M hM
        have hsh : shu x = 1 ∨ shu x = 0 := by unfold shu; split <;> omega
        have g : ∀ a b, ¬ (a = 400 ∧ b = 18) → M a b = M3 a b := fun a b z => by
          rw [hM]
          split
          · unfold up
            rw [if_neg z]
          · rfl
        have g18 : M 400 18 = o - shu x := by
          rw [hM]
          rcases hsh with q | q
          · rw [if_pos q, up_eq, q]
          · rw [if_neg (by omega), b18, q]; omega
        obtain ⟨m', i1, i2, i3, i4, i5, i6⟩ := ih M (w + 1) (o - shu x) ⟨by rw [g _ _ (by omega)]; exact b17, pil_con r p3 (fun b _ _ => by rw [g _ _ (by omega), b6])⟩ (by omega) (by rw [g _ _ (by omega)]; exact b13) (by rw [g _ _ (by omega)]; exact b14) (by omega) g18 (by omega) (by omega)
        refine ⟨m', i1, i2, by rw [i3, List.length_cons]; omega, by rw [i4]; show _ = o - (shu x + shN (stE l r)); omega, ⟨?_, ?_, i5⟩, fun a b z1 z2 => ?_⟩
        · rw [i6 _ _ (by omega) (by omega), g _ _ (by omega)]; exact c1
        · rw [i6 _ _ (by omega) (by omega), g _ _ (by omega)]; exact c2
        · rw [i6 a b z1 (by omega), g a b (by omega)]; exact bF a b z1 z2
      obtain ⟨m', q1, q2⟩ := rest _ rfl
      refine ⟨m', cl_Mo_settle (b_Mo_settle ⟨fun z => by omega, fun _ => ?_⟩), q2⟩
      have q1' : Ev (d + 1) K_Mo_settle 3 0 [(18, 400), (0, l)] [] (if shu x = 1 then up M3 400 18 (o - 1) else M3) (none, m') := by
        obtain ⟨M, hM1, hM2, hM3⟩ := q1
        obtain rfl := Option.some.inj hM1.symm
        exact hM3
      rw [e1, p2]
      refine ⟨by omega, _, _, c_Mo_rank, fun z => absurd z hr, fun _ => ?_⟩
      rintro m2 hm2
      rw [e1, ← hM2] at hm2
      subst hm2
      rw [a17, a6, p2]
      refine ⟨by omega, _, hem, by rw [b17]; omega, ?_⟩
      rw [b17, b6, p2]
      refine ⟨_, _, c_Mo_rank, fun z => ?_, fun z => ⟨by rw [b17]; omega, fun z2 => ?_, fun z2 => ?_⟩⟩
      · rintro m5 rfl
        rw [b18, w32n (by omega) (by omega)]
        rw [if_pos (by unfold shu; rw [if_pos (Or.inl z)])] at q1'
        exact q1'
      · rw [b17, b6, p2] at z2
        rw [if_neg (by unfold shu; rw [if_neg (by rintro (y | y); exact z y; exact z2 y)]; omega)] at q1'
        exact q1'
      · rw [b17, b6, p2, Classical.not_not] at z2
        rintro m6 rfl
        rw [b18, w32n (by omega) (by omega)]
        rw [if_pos (by unfold shu; rw [if_pos (Or.inr z2)])] at q1'
        exact q1'
