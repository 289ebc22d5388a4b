/-! TOKENS: letters, figures, words -/
def ltB (b : Int) : Bool := decide ((97 ≤ b ∧ b ≤ 122) ∨ (65 ≤ b ∧ b ≤ 90))
def dgB (b : Int) : Bool := decide (48 ≤ b ∧ b ≤ 57)
def blB (b : Int) : Bool := decide (b = 32 ∨ b = 10)
def skW (P : Int → Bool) (B : Int → Int) : Nat → Nat → Nat
  | 0, p => p
  | f + 1, p => if P (B (p : Nat)) = true then skW P B f (p + 1) else p
theorem skW_v {P : Int → Bool} {B : Int → Int} : ∀ f p, p ≤ skW P B f p ∧ skW P B f p ≤ p + f ∧ (∀ j : Nat, p ≤ j → j < skW P B f p → P (B (j : Nat)) = true) ∧ (skW P B f p < p + f → ¬ P (B (skW P B f p : Nat)) = true) := by
  intro f
  induction f with
  | zero => exact fun p => ⟨Nat.le_refl _, Nat.le_refl _, fun j h1 h2 => absurd (Nat.lt_of_le_of_lt h1 h2) (Nat.lt_irrefl _), fun h => absurd h (Nat.lt_irrefl _)⟩
  | succ f ih =>
    intro p
    unfold skW
    by_cases h : P (B (p : Nat)) = true
    · rw [if_pos h]
      obtain ⟨i1, i2, i3, i4⟩ := ih (p + 1)
      refine ⟨by omega, by omega, fun j h1 h2 => ?_, fun z => i4 (by omega)⟩
      by_cases hj : j = p
      · rw [hj]; exact h
      · exact i3 j (by omega) h2
    · rw [if_neg h]
      exact ⟨Nat.le_refl _, by omega, fun j h1 h2 => by omega, fun _ => h⟩
def rdL (B : Int → Int) : Nat → Nat → List Int
  | 0, _ => []
  | f + 1, p => if ltB (B (p : Nat)) = true then B (p : Nat) :: rdL B f (p + 1) else []
theorem rdL_v {B : Int → Int} : ∀ f p, p + (rdL B f p).length = skW ltB B f p ∧ (∀ j : Nat, j < (rdL B f p).length → (rdL B f p).getD j 0 = B ((p + j : Nat) : Int)) ∧ ∀ b ∈ rdL B f p, ltB b = true := by
  intro f
  induction f with
  | zero => exact fun p => ⟨rfl, fun j hj => absurd hj (Nat.not_lt_zero _), fun b hb => by cases hb⟩
  | succ f ih =>
    intro p
    unfold rdL skW
    by_cases h : ltB (B (p : Nat)) = true
    · rw [if_pos h, if_pos h]
      obtain ⟨i1, i2, i3⟩ := ih (p + 1)
      refine ⟨by rw [List.length_cons, ← i1]; omega, fun j hj => ?_, fun b hb => ?_⟩
      · cases j with
        | zero => rfl
        | succ j =>
          rw [List.getD_cons_succ, i2 j (by rw [List.length_cons] at hj; omega)]
          congr 1
          omega
      · rcases List.mem_cons.mp hb with rfl | hb
        · exact h
        · exact i3 b hb
    · rw [if_neg h, if_neg h]
      exact ⟨rfl, fun j hj => absurd hj (Nat.not_lt_zero _), fun b hb => by cases hb⟩
def wdl (l : List Int) : List Int → Int → Int → Int
  | [], _, _ => 1
  | c :: cs, k, j => if c = 32 then (if j = (l.length : Nat) then k else wdl l cs (k + 1) 0) else if j < 0 then wdl l cs k j else if (l.length : Int) ≤ j then wdl l cs k (-1) else if l.getD j.toNat 0 = c then wdl l cs k (j + 1) else wdl l cs k (-1)
theorem wdl_fail {l r : List Int} {k : Int} : ∀ w : List Int, (∀ c ∈ w, c ≠ 32) → wdl l (w ++ 32 :: r) k (-1) = wdl l r (k + 1) 0 := by
  intro w
  induction w with
  | nil =>
    intro _
    show wdl l (32 :: r) k (-1) = _
    conv => lhs; unfold wdl
    rw [if_pos rfl, if_neg (by omega)]
  | cons c w ih =>
    intro h
    rw [List.cons_append]
    conv => lhs; unfold wdl
    rw [if_neg (h c (List.mem_cons_self ..)), if_pos (by omega)]
    exact ih (fun b hb => h b (List.mem_cons_of_mem _ hb))
theorem wdl_w {l r : List Int} {k : Int} : ∀ (w : List Int) (j : Nat), j ≤ l.length → (∀ c ∈ w, c ≠ 32) → wdl l (w ++ 32 :: r) k (j : Nat) = if l.drop j = w then k else wdl l r (k + 1) 0 := by
  intro w
  induction w with
  | nil =>
    intro j hj _
    show wdl l (32 :: r) k (j : Nat) = _
    conv => lhs; unfold wdl
    rw [if_pos rfl]
    by_cases h : j = l.length
    · rw [if_pos (by omega), if_pos (by rw [h]; exact List.drop_length)]
    · rw [if_neg (by omega), if_neg (by
        intro z
        have := congrArg List.length z
        rw [List.length_drop, List.length_nil] at this
        omega)]
  | cons c w ih =>
    intro j hj hc
    rw [List.cons_append]
    conv => lhs; unfold wdl
    rw [if_neg (hc c (List.mem_cons_self ..)), if_neg (by omega)]
    by_cases h : j = l.length
    · rw [if_pos (by omega), wdl_fail w (fun b hb => hc b (List.mem_cons_of_mem _ hb)), if_neg (by
        intro z
        have := congrArg List.length z
        rw [List.length_drop, List.length_cons] at this
        omega)]
    · have hjl : j < l.length := by omega
      rw [if_neg (by omega), Int.toNat_natCast]
      have e : l.drop j = l.getD j 0 :: l.drop (j + 1) := by
        rw [List.getD_eq_getElem?_getD, List.getElem?_eq_getElem hjl]
        exact List.drop_eq_getElem_cons hjl
      rw [e]
      by_cases hg : l.getD j 0 = c
      · rw [if_pos hg, hg]
        have := ih (j + 1) (by omega) (fun b hb => hc b (List.mem_cons_of_mem _ hb))
        rw [show ((j + 1 : Nat) : Int) = (j : Int) + 1 by omega] at this
        rw [this]
        by_cases hd : l.drop (j + 1) = w
        · rw [if_pos hd, if_pos (by rw [hd])]
        · rw [if_neg hd, if_neg (fun z => hd (List.cons.inj z).2)]
      · rw [if_neg hg, wdl_fail w (fun b hb => hc b (List.mem_cons_of_mem _ hb)), if_neg (fun z => hg (List.cons.inj z).1)]
def wfd (l : List Int) : List (List Int) → Int → Int
  | [], _ => 1
  | w :: ws, k => if l = w then k else wfd l ws (k + 1)
def wFl : List (List Int) → List Int
  | [] => []
  | w :: ws => w ++ 32 :: wFl ws
theorem wdl_fd {l : List Int} : ∀ (ws : List (List Int)) (k : Int), (∀ w ∈ ws, ∀ c ∈ w, c ≠ 32) → wdl l (wFl ws) k 0 = wfd l ws k := by
  intro ws
  induction ws with
  | nil => intro k _; rfl
  | cons w ws ih =>
    intro k h
    unfold wFl wfd
    have := wdl_w (l := l) (r := wFl ws) (k := k) w 0 (Nat.zero_le _) (h w (List.mem_cons_self ..))
    rw [show ((0 : Nat) : Int) = 0 from rfl, List.drop_zero] at this
    rw [this, ih (k + 1) (fun v hv => h v (List.mem_cons_of_mem _ hv))]
def WDS : List (List Int) := [[102, 114, 111, 115, 116, 115], [103, 111, 101, 115], [99, 111, 119], [103, 97, 116, 101], [112, 108, 97, 110, 116], [99, 117, 116], [112, 114, 101, 115, 115], [103, 111], [104, 111, 117, 114], [99, 101, 108, 108], [97, 114, 111, 117, 110, 100], [97, 108, 108], [110, 117, 109, 98, 101, 114], [119, 104, 111], [119, 97, 121], [116, 117, 114, 110], [98, 121], [102, 97, 114], [111, 102], [104, 101, 100, 103, 101], [105, 102], [116, 104, 101, 110], [101, 108, 115, 101], [101, 110, 100], [111, 114], [97, 110, 100], [110, 111, 116]]
theorem wFl_WDS : wFl WDS = WORDSL := by decide +kernel
theorem wfd_some {l : List Int} : ∀ (ws : List (List Int)) (k : Int), wfd l ws k = 1 ∨ ∃ j : Nat, wfd l ws k = k + j ∧ ws[j]? = some l := by
  intro ws
  induction ws with
  | nil => exact fun k => Or.inl rfl
  | cons w ws ih =>
    intro k
    unfold wfd
    by_cases h : l = w
    · rw [if_pos h]
      exact Or.inr ⟨0, by omega, by rw [h]; rfl⟩
    · rw [if_neg h]
      rcases ih (k + 1) with q | ⟨j, q1, q2⟩
      · exact Or.inl q
      · exact Or.inr ⟨j + 1, by omega, q2⟩
/-- the class's token of a word -/
def tkw (l : List Int) : Int := wfd l WDS 16
theorem tkw_iff {l : List Int} {i : Nat} (hi : i < 27) : tkw l = 16 + (i : Int) ↔ WDS[i]? = some l := by
  constructor
  · intro h
    rcases wfd_some (l := l) WDS 16 with q | ⟨j, q1, q2⟩
    · unfold tkw at h; omega
    · unfold tkw at h
      have : j = i := by omega
      rw [← this]
      exact q2
  · have hd : ∀ i : Fin 27, wfd (WDS.getD i.val []) WDS 16 = 16 + (i.val : Int) := by decide +kernel
    intro h
    have := hd ⟨i, hi⟩
    rw [List.getD_eq_getElem?_getD, h] at this
    exact this
theorem tkw_v {l : List Int} : tkw l = 1 ∨ ∃ i : Nat, i < 27 ∧ tkw l = 16 + (i : Int) := by
  rcases wfd_some (l := l) WDS 16 with q | ⟨j, q1, q2⟩
  · exact Or.inl q
  · refine Or.inr ⟨j, ?_, q1⟩
    have := (List.getElem?_eq_some_iff.mp q2).1
    exact this
/-- the model's word -/
def pk1 (b : Int) (w : Nat) : Nat := if w / 2 ^ 48 ≠ 0 then 2 ^ 60 else w * 256 + b.toNat
def pkr : List Int → Nat
  | [] => 0
  | b :: r => pk1 b (pkr r)
theorem pkr_lt : ∀ x : List Int, (∀ b ∈ x, 0 ≤ b ∧ b < 256) → x.length ≤ 6 → pkr x < 256 ^ x.length := by
  intro x
  induction x with
  | nil => intro _ _; exact Nat.one_pos
  | cons b r ih =>
    intro h hl
    rw [List.length_cons] at hl ⊢
    have i := ih (fun c hc => h c (List.mem_cons_of_mem _ hc)) (by omega)
    have hb := h b (List.mem_cons_self ..)
    have h2 : 256 ^ r.length ≤ 256 ^ 5 := Nat.pow_le_pow_right (by omega) (by omega)
    have h3 : (256 : Nat) ^ 5 = 1099511627776 := rfl
    unfold pkr pk1
    rw [if_neg (by
      rw [Classical.not_not]
      apply Nat.div_eq_of_lt
      have : (2 : Nat) ^ 48 = 281474976710656 := rfl
      omega), Nat.pow_succ]
    omega
theorem pkr_inj : ∀ (y x : List Int), (∀ b ∈ x, 0 < b ∧ b < 256) → (∀ b ∈ y, 0 < b ∧ b < 256) → y.length ≤ 6 → pkr x = pkr y → x = y := by
  intro y
  induction y with
  | nil =>
    intro x hx _ _ h
    cases x with
    | nil => rfl
    | cons b r =>
      have hb := hx b (List.mem_cons_self ..)
      unfold pkr pk1 at h
      split at h
      · exact absurd h (by decide)
      · omega
  | cons c y ih =>
    intro x hx hy hl h
    have hc := hy c (List.mem_cons_self ..)
    have hy' : ∀ b ∈ y, 0 < b ∧ b < 256 := fun b hb => hy b (List.mem_cons_of_mem _ hb)
    rw [List.length_cons] at hl
    have hlt := pkr_lt y (fun b hb => by have := hy' b hb; omega) (by omega)
    have h2 : 256 ^ y.length ≤ 256 ^ 5 := Nat.pow_le_pow_right (by omega) (by omega)
    have h3 : (256 : Nat) ^ 5 = 1099511627776 := rfl
    have h48 : (2 : Nat) ^ 48 = 281474976710656 := rfl
    have h60 : (2 : Nat) ^ 60 = 1152921504606846976 := rfl
    have ey : pkr (c :: y) = pkr y * 256 + c.toNat := by
      show pk1 c (pkr y) = _
      unfold pk1
      rw [if_neg (by rw [Classical.not_not]; apply Nat.div_eq_of_lt; omega)]
    rw [ey] at h
    cases x with
    | nil =>
      have : pkr ([] : List Int) = 0 := rfl
      omega
    | cons b r =>
      have hb := hx b (List.mem_cons_self ..)
      have ex : pkr (b :: r) = pk1 b (pkr r) := rfl
      rw [ex] at h
      unfold pk1 at h
      split at h
      · omega
      · have e1 : b = c := by omega
        have e2 : pkr r = pkr y := by omega
        rw [e1, ih r (fun b hb => hx b (List.mem_cons_of_mem _ hb)) hy' (by omega) e2]
def pkw (l : List Int) : Nat := pkr l.reverse
theorem lt_pos {b : Int} (h : ltB b = true) : 0 < b ∧ b < 256 := by
  unfold ltB at h
  rw [decide_eq_true_eq] at h
  omega
theorem WDS_ok : ∀ w ∈ WDS, w.length ≤ 6 ∧ ∀ b ∈ w, 0 < b ∧ b < 256 := by decide +kernel
theorem pkw_iff {l w : List Int} (hl : ∀ b ∈ l, ltB b = true) (hw : w ∈ WDS) : pkw l = pkw w ↔ l = w := by
  obtain ⟨q1, q2⟩ := WDS_ok w hw
  constructor
  · intro h
    have := pkr_inj w.reverse l.reverse (fun b hb => lt_pos (hl b (List.mem_reverse.mp hb))) (fun b hb => q2 b (List.mem_reverse.mp hb)) (by rw [List.length_reverse]; exact q1) h
    exact List.reverse_inj.mp this
  · intro h
    rw [h]
/-- reading on -/
def wdM (B : Int → Int) : Nat → Nat → Nat → Nat
  | 0, _, w => w
  | f + 1, p, w => if ltB (B (p : Nat)) = true then wdM B f (p + 1) (pk1 (B (p : Nat)) w) else w
theorem wdM_eq {B : Int → Int} : ∀ (f p : Nat) (x : List Int), wdM B f p (pkr x) = pkr ((rdL B f p).reverse ++ x) := by
  intro f
  induction f with
  | zero => intro p x; rfl
  | succ f ih =>
    intro p x
    unfold wdM rdL
    by_cases h : ltB (B (p : Nat)) = true
    · rw [if_pos h, if_pos h]
      have := ih (p + 1) (B (p : Nat) :: x)
      rw [show pkr (B (p : Nat) :: x) = pk1 (B (p : Nat)) (pkr x) from rfl] at this
      rw [this, List.reverse_cons, List.append_assoc]
      rfl
    · rw [if_neg h, if_neg h]
      rfl
/-- figures -/
def dgC (B : Int → Int) : Nat → Nat → Int → Int
  | 0, _, v => v
  | f + 1, p, v => if dgB (B (p : Nat)) = true then dgC B f (p + 1) (min (v * 10 + B (p : Nat) - 48) 10000) else v
def dgM (B : Int → Int) : Nat → Nat → Int → Int
  | 0, _, v => v
  | f + 1, p, v => if dgB (B (p : Nat)) = true then dgM B f (p + 1) (if v ≤ 99999 then 10 * v + B (p : Nat) - 48 else v) else v
theorem dg_eq {B : Int → Int} : ∀ (f p : Nat) (n : Int), 0 ≤ n → dgC B f p (min n 10000) = min (dgM B f p n) 10000 ∧ 0 ≤ dgM B f p n := by
  intro f
  induction f with
  | zero => exact fun p n h => ⟨rfl, h⟩
  | succ f ih =>
    intro p n h
    unfold dgC dgM
    by_cases hd : dgB (B (p : Nat)) = true
    · rw [if_pos hd, if_pos hd]
      unfold dgB at hd
      rw [decide_eq_true_eq] at hd
      by_cases h9 : n ≤ 99999
      · rw [if_pos h9]
        have e : min (min n 10000 * 10 + B (p : Nat) - 48) 10000 = min (10 * n + B (p : Nat) - 48) 10000 := by omega
        rw [e]
        exact ih (p + 1) _ (by omega)
      · rw [if_neg h9]
        have e : min (min n 10000 * 10 + B (p : Nat) - 48) 10000 = min n 10000 := by omega
        rw [e]
        exact ih (p + 1) n h
    · rw [if_neg hd, if_neg hd]
      exact ⟨rfl, h⟩
