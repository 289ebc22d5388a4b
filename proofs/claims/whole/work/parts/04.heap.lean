/-! WHAT THE NUMBERS ARE IN THE HEAP -/
def in32 (x : Int) : Prop := -2147483648 ≤ x ∧ x ≤ 2147483647
def in64 (x : Int) : Prop := -9223372036854775808 ≤ x ∧ x ≤ 9223372036854775807
theorem i32_of {x : Int} (h : in32 x) : (Int32.ofInt x).toInt = x := Int32.toInt_ofInt_of_le (by unfold in32 at h; omega) (by unfold in32 at h; omega)
theorem i64_of {x : Int} (h : in64 x) : (Int64.ofInt x).toInt = x := Int64.toInt_ofInt_of_le (by unfold in64 at h; omega) (by unfold in64 at h; omega)
theorem in32_to (x : Int32) : in32 x.toInt := by
  have h1 := x.toInt_lt
  have h2 := x.le_toInt
  unfold in32
  omega
theorem in64_to (x : Int64) : in64 x.toInt := by
  have h1 := x.toInt_lt
  have h2 := x.le_toInt
  unfold in64
  omega
theorem in64_32 {x : Int} (h : in32 x) : in64 x := by unfold in32 at h; unfold in64; omega
theorem w32_of {x : Int} (h : in32 x) : w32 x = x := i32_of h
theorem w64_of {x : Int} (h : in64 x) : w64 x = x := i64_of h
theorem in32_w (x : Int) : in32 (w32 x) := in32_to _
theorem in64_w (x : Int) : in64 (w64 x) := in64_to _
theorem o32_w (x : Int) : Int32.ofInt (w32 x) = Int32.ofInt x := Int32.ofInt_toInt _
theorem o64_w (x : Int) : Int64.ofInt (w64 x) = Int64.ofInt x := Int64.ofInt_toInt _
theorem clamp_o {i : Int} (h : in32 i) : (Int32.ofInt i).toNatClampNeg = i.toNat := by rw [← Int32.toNat_toInt, i32_of h]
theorem vp_in_o {i : Int} {n : Nat} (h : in32 i) (h0 : 0 ≤ i) (h1 : i < n) : vp_in (Int32.ofInt i) n := vp_in_iff.mpr (by rw [i32_of h]; exact ⟨h0, h1⟩)
theorem o32_eq {a b : Int} (ha : in32 a) (hb : in32 b) : Int32.ofInt a = Int32.ofInt b ↔ a = b := by rw [← Int32.toInt_inj, i32_of ha, i32_of hb]
theorem o32_lt {a b : Int} (ha : in32 a) (hb : in32 b) : Int32.ofInt a < Int32.ofInt b ↔ a < b := by rw [Int32.lt_iff_toInt_lt, i32_of ha, i32_of hb]
theorem o32_le {a b : Int} (ha : in32 a) (hb : in32 b) : Int32.ofInt a ≤ Int32.ofInt b ↔ a ≤ b := by rw [Int32.le_iff_toInt_le, i32_of ha, i32_of hb]
theorem in32_lit0 : in32 0 := by unfold in32; omega
/-- the plan: every object that is made once, and never again: its id, its kind -/
def uLand (o : Int) : List (Int × Nat) := [(o, 13), (o + 1, 140), (o + 2, 140), (o + 3, 340)]
def uText (o : Int) : List (Int × Nat) := [(o, 16), (o + 1, 292), (o + 2, 292), (o + 3, 292), (o + 4, 2500)]
def uFarm (o : Int) : List (Int × Nat) := (o, 10) :: (uLand (o + 1) ++ ((o + 5, 343) :: (o + 126, 164) :: (o + 127, 164) :: (List.range 30).flatMap (fun i => uLand (o + 6 + 4 * (i : Nat)))))
def uModel (o : Int) : List (Int × Nat) := (o, 18) :: [(o + 1, 11828), (o + 2, 11828), (o + 3, 21892), (o + 4, 2660), (o + 5, 2500), (o + 6, 1380), (o + 7, 156), (o + 8, 2741), (o + 9, 2742), (o + 10, 268), (o + 11, 300), (o + 12, 308), (o + 13, 308), (o + 14, 900), (o + 15, 300), (o + 16, 132), (o + 17, 420)]
/-- the class's part, in the order of its making, and the whole -/
def uTH : List (Int × Nat) := (0, 17) :: (uFarm 128 ++ (uFarm 256 ++ ([(1, 11), (2, 357)] ++ ((3, 136) :: (uText 48 ++ ([(80, 15), (81, 2500)] ++ (uText 82 ++ ([(10, 12), (11, 156), (12, 2500)] ++ ([(13, 14), (14, 300)] ++ (uLand 64 ++ (List.range 4).flatMap (fun i => uText (16 + 8 * (i : Nat)))))))))))))
def UNI : List (Int × Nat) := uTH ++ uModel 400
theorem UNI_nd : (UNI.map (fun q => q.1)).Nodup := by decide +kernel
theorem UNI_lt : ∀ q ∈ UNI, 0 ≤ q.1 ∧ q.1 < 500 := by decide +kernel
theorem UNI_kind : ∀ q ∈ UNI, (10 ≤ q.2 ∧ q.2 < 19) ∨ (100 ≤ q.2 ∧ (q.2 - 100) % 8 < 5 ∧ (q.2 - 100) / 8 < 3000) := by decide +kernel
theorem UNI_fld : ∀ q ∈ UNI, q.2 < 19 → ∀ k, k < CN (q.2 - 10) → 10 ≤ FT (q.2 - 10) k → (q.1 + OF (q.2 - 10) k, FT (q.2 - 10) k) ∈ UNI := by decide +kernel
theorem UNI_arr3 : ∀ q ∈ UNI, aty q.2 = 3 → ∀ i, i < (q.2 - 100) / 8 → (PA 3 q.1 (i : Nat), 13) ∈ UNI := by decide +kernel
theorem UNI_arr4 : ∀ q ∈ UNI, aty q.2 = 4 → ∀ i, i < (q.2 - 100) / 8 → (PA 4 q.1 (i : Nat), 16) ∈ UNI := by decide +kernel
theorem UNI_eq {o : Int} {t t' : Nat} (h : (o, t) ∈ UNI) (h' : (o, t') ∈ UNI) : t = t' := by
  obtain ⟨i, hi⟩ := List.getElem?_of_mem h
  obtain ⟨j, hj⟩ := List.getElem?_of_mem h'
  have e1 : (UNI.map (fun q => q.1))[i]? = some o := by rw [List.getElem?_map, hi]; rfl
  have e2 : (UNI.map (fun q => q.1))[j]? = some o := by rw [List.getElem?_map, hj]; rfl
  have hl : i < (UNI.map (fun q => q.1)).length := (List.getElem?_eq_some_iff.mp e1).1
  have e : i = j := (List.getElem?_inj hl UNI_nd).mp (e1.trans e2.symm)
  subst e
  rw [hi] at hj
  cases hj
  rfl
/-- a field's value -/
def fv (ad : Int → Nat) (m : Mm) (o : Int) (c k : Nat) : Value := if FT c k = 1 then .long (Int64.ofInt (m o k)) else if FT c k = 0 ∨ FT c k = 2 then .int (Int32.ofInt (m o k)) else .ref (ad (o + OF c k))
def cellOf (ad : Int → Nat) (G : Nat → ClassId) (m : Mm) (q : Int × Nat) : va_E :=
  if q.2 < 100 then .inr (q.2 - 10, (List.range (CN (q.2 - 10))).map (fv ad m q.1 (q.2 - 10)))
  else if aty q.2 = 1 then .inl (G 1, (q.2 - 100) / 8, .inr (.inl (fun j => Int64.ofInt (m q.1 (j : Nat)))))
  else if aty q.2 = 3 then .inl (G 3, (q.2 - 100) / 8, .inr (.inr (.inr (.inr (fun j => some (ad (PA 3 q.1 (j : Nat))))))))
  else if aty q.2 = 4 then .inl (G 4, (q.2 - 100) / 8, .inr (.inr (.inr (.inr (fun j => some (ad (PA 4 q.1 (j : Nat))))))))
  else .inl (G (aty q.2), (q.2 - 100) / 8, .inl (fun j => Int32.ofInt (m q.1 (j : Nat))))
def WS (ad : Int → Nat) (G : Nat → ClassId) (m : Mm) : va_W := UNI.map (fun q => (ad q.1, cellOf ad G m q))
def TYS (G : Nat → ClassId) : List (ClassId × FieldType) := [(G 0, .int), (G 1, .long), (G 2, .boolean), (G 3, .object RX3), (G 4, .object RX7)]
theorem WS_at {ad : Int → Nat} {G : Nat → ClassId} {m : Mm} {q : Int × Nat} (h : q ∈ UNI) : ∃ j : Nat, UNI[j]? = some q ∧ (WS ad G m)[j]? = some (ad q.1, cellOf ad G m q) := by
  obtain ⟨j, hj⟩ := List.getElem?_of_mem h
  exact ⟨j, hj, by rw [WS, List.getElem?_map, hj]; rfl⟩
theorem cellOf_other {ad : Int → Nat} {G : Nat → ClassId} {m m' : Mm} {q : Int × Nat} (h : ∀ k, m' q.1 k = m q.1 k) : cellOf ad G m' q = cellOf ad G m q := by
  have e : fv ad m' q.1 = fv ad m q.1 := by funext c k; simp only [fv, h]
  simp only [cellOf, e, h]
theorem WS_set {ad : Int → Nat} {G : Nat → ClassId} {m m' : Mm} {q : Int × Nat} {j : Nat} (hj : UNI[j]? = some q) (h : ∀ a b, a ≠ q.1 → m' a b = m a b) : (WS ad G m).set j (ad q.1, cellOf ad G m' q) = WS ad G m' := by
  apply List.ext_getElem?
  intro i
  by_cases e : i = j
  · subst e
    have hl : i < (WS ad G m).length := by rw [WS, List.length_map]; exact (List.getElem?_eq_some_iff.mp hj).1
    rw [List.getElem?_set_self hl, WS, List.getElem?_map, hj]
    rfl
  · rw [List.getElem?_set_ne (fun z => e z.symm), WS, WS, List.getElem?_map, List.getElem?_map]
    cases hi : UNI[i]? with
    | none => rfl
    | some q' =>
      have hne : q'.1 ≠ q.1 := by
        intro z
        have e1 : (UNI.map (fun q => q.1))[i]? = some q.1 := by rw [List.getElem?_map, hi]; simp [z]
        have e2 : (UNI.map (fun q => q.1))[j]? = some q.1 := by rw [List.getElem?_map, hj]; rfl
        have hl : i < (UNI.map (fun q => q.1)).length := (List.getElem?_eq_some_iff.mp e1).1
        exact e ((List.getElem?_inj hl UNI_nd).mp (e1.trans e2.symm))
      simp only [Option.map_some]
      rw [cellOf_other (fun k => h _ k hne)]
theorem up_ne {m : Mm} {o k v a b : Int} (h : a ≠ o) : up m o k v a b = m a b := by simp [up, h]
theorem up_same {m : Mm} {o k v : Int} : up m o k v o k = v := by simp [up]
theorem up_nk {m : Mm} {o k v a b : Int} (h : b ≠ k) : up m o k v a b = m a b := by simp [up, h]
/-- a field is written -/
theorem cell_fld {ad : Int → Nat} {G : Nat → ClassId} {m : Mm} {o v : Int} {t k : Nat} (ht : t < 100) (hk : k < CN (t - 10)) {w : Value} (hw : fv ad (up m o k v) o (t - 10) k = w) :
    cellOf ad G (up m o k v) (o, t) = .inr (t - 10, ((List.range (CN (t - 10))).map (fv ad m o (t - 10))).set k w) := by
  simp only [cellOf, if_pos ht]
  congr 2
  apply List.ext_getElem?
  intro i
  by_cases e : i = k
  · subst e
    rw [List.getElem?_set_self (by simp; exact hk), List.getElem?_map, List.getElem?_range hk]
    simp [hw]
  · rw [List.getElem?_set_ne (fun z => e z.symm), List.getElem?_map, List.getElem?_map]
    cases hi : (List.range (CN (t - 10)))[i]? with
    | none => rfl
    | some j =>
      have hj : j = i := by
        have h2 := List.getElem?_eq_some_iff.mp hi
        obtain ⟨h3, h4⟩ := h2
        simp at h4
        omega
      subst hj
      have hne : ((j : Nat) : Int) ≠ (k : Nat) := by omega
      simp only [Option.map_some, fv, up_nk hne]
/-- an int array's cell is written -/
theorem cell_int {ad : Int → Nat} {G : Nat → ClassId} {m : Mm} {o v i : Int} {t : Nat} (ht : ¬ t < 100) (ha : aty t = 0 ∨ aty t = 2) (h0 : 0 ≤ i) :
    cellOf ad G (up m o i v) (o, t) = .inl (G (aty t), (t - 100) / 8, .inl (upd (fun j => Int32.ofInt (m o (j : Nat))) i.toNat (Int32.ofInt v))) := by
  have h1 : ¬ aty t = 1 := by omega
  have h3 : ¬ aty t = 3 := by omega
  have h4 : ¬ aty t = 4 := by omega
  simp only [cellOf, if_neg ht, if_neg h1, if_neg h3, if_neg h4]
  congr 4
  funext j
  by_cases e : j = i.toNat
  · subst e
    simp [upd, up, Int.toNat_of_nonneg h0]
  · have : ¬ ((j : Nat) : Int) = i := by omega
    simp [upd, up, e, this]
theorem cell_long {ad : Int → Nat} {G : Nat → ClassId} {m : Mm} {o v i : Int} {t : Nat} (ht : ¬ t < 100) (ha : aty t = 1) (h0 : 0 ≤ i) :
    cellOf ad G (up m o i v) (o, t) = .inl (G 1, (t - 100) / 8, .inr (.inl (vp_updL (fun j => Int64.ofInt (m o (j : Nat))) i.toNat (Int64.ofInt v)))) := by
  simp only [cellOf, if_neg ht, if_pos ha]
  congr 5
  funext j
  by_cases e : j = i.toNat
  · subst e
    simp [vp_updL, up, Int.toNat_of_nonneg h0]
  · have : ¬ ((j : Nat) : Int) = i := by omega
    simp [vp_updL, up, e, this]
theorem cell_ia {ad : Int → Nat} {G : Nat → ClassId} {m : Mm} {o : Int} {t : Nat} (ht : ¬ t < 100) (ha : aty t = 0 ∨ aty t = 2) : cellOf ad G m (o, t) = .inl (G (aty t), (t - 100) / 8, .inl (fun j => Int32.ofInt (m o (j : Nat)))) := by
  have h1 : ¬ aty t = 1 := by omega
  have h3 : ¬ aty t = 3 := by omega
  have h4 : ¬ aty t = 4 := by omega
  simp only [cellOf, if_neg ht, if_neg h1, if_neg h3, if_neg h4]
theorem cell_la {ad : Int → Nat} {G : Nat → ClassId} {m : Mm} {o : Int} {t : Nat} (ht : ¬ t < 100) (ha : aty t = 1) : cellOf ad G m (o, t) = .inl (G 1, (t - 100) / 8, .inr (.inl (fun j => Int64.ofInt (m o (j : Nat))))) := by
  simp only [cellOf, if_neg ht, if_pos ha]
theorem cell_ra {ad : Int → Nat} {G : Nat → ClassId} {m : Mm} {o : Int} {t : Nat} (ht : ¬ t < 100) (ha : aty t = 3 ∨ aty t = 4) : cellOf ad G m (o, t) = .inl (G (aty t), (t - 100) / 8, .inr (.inr (.inr (.inr (fun j => some (ad (PA (aty t) o (j : Nat)))))))) := by
  have h1 : ¬ aty t = 1 := by omega
  rcases ha with ha | ha
  · simp [cellOf, ht, ha]
  · have h3 : ¬ aty t = 3 := by omega
    simp [cellOf, ht, ha]
theorem cell_ob {ad : Int → Nat} {G : Nat → ClassId} {m : Mm} {o : Int} {t : Nat} (ht : t < 100) : cellOf ad G m (o, t) = .inr (t - 10, (List.range (CN (t - 10))).map (fv ad m o (t - 10))) := by
  simp only [cellOf, if_pos ht]
/-- what may lie in a cell -/
def sOk (t k : Nat) (v : Int) : Prop := if (t < 100 ∧ FT (t - 10) k = 1) ∨ aty t = 1 then in64 v else in32 v
def Mok (m : Mm) : Prop := ∀ q ∈ UNI, ∀ k : Nat, sOk q.2 k (m q.1 k)
/-- what a value may be -/
def Vok (v : Vv) : Prop := if v.1 = 0 then in32 v.2 else if v.1 = 1 then in64 v.2 else if v.1 = 9 ∨ v.1 = 50 ∨ v.1 = 51 ∨ v.1 = 52 ∨ v.1 = 53 then True else (v.2, v.1) ∈ UNI
def cv (ad : Int → Nat) (v : Vv) : Value := if v.1 = 0 then .int (Int32.ofInt v.2) else if v.1 = 1 then .long (Int64.ofInt v.2) else if v.1 = 50 then .ref (ad 500) else if v.1 = 51 then .ref (ad 501) else if v.1 = 52 then .ref (ad 502) else if v.1 = 53 then .ref (ad 503) else .ref (ad v.2)
theorem cv_i (ad : Int → Nat) (x : Int) : cv ad (0, x) = .int (Int32.ofInt x) := rfl
theorem cv_l (ad : Int → Nat) (x : Int) : cv ad (1, x) = .long (Int64.ofInt x) := rfl
theorem cv_r (ad : Int → Nat) (t : Nat) (x : Int) (h : 2 ≤ t) : ∃ a, cv ad (t, x) = .ref a := by
  have h0 : ¬ t = 0 := by omega
  have h1 : ¬ t = 1 := by omega
  simp only [cv, if_neg h0, if_neg h1]
  split <;> (try split) <;> (try split) <;> (try split) <;> exact ⟨_, rfl⟩
theorem cv_o (ad : Int → Nat) {t : Nat} (x : Int) (h : (x, t) ∈ UNI) : cv ad (t, x) = .ref (ad x) := by
  have hk := UNI_kind _ h
  simp only at hk
  have h0 : ¬ t = 0 := by omega
  have h1 : ¬ t = 1 := by omega
  have h2 : ¬ t = 50 := by omega
  have h3 : ¬ t = 51 := by omega
  have h4 : ¬ t = 52 := by omega
  have h5 : ¬ t = 53 := by omega
  simp only [cv, if_neg h0, if_neg h1, if_neg h2, if_neg h3, if_neg h4, if_neg h5]
theorem cv_cat (ad : Int → Nat) (v : Vv) : (cv ad v).category = catV v := by
  obtain ⟨t, x⟩ := v
  unfold catV cv
  simp only
  by_cases h0 : t = 0
  · subst h0; rfl
  · by_cases h1 : t = 1
    · subst h1; rfl
    · simp only [if_neg h0, if_neg h1]
      split <;> (try split) <;> (try split) <;> (try split) <;> rfl
theorem Vok_i {x : Int} : Vok (0, x) ↔ in32 x := Iff.rfl
theorem Vok_l {x : Int} : Vok (1, x) ↔ in64 x := Iff.rfl
theorem Vok_o {t : Nat} {x : Int} (h : (x, t) ∈ UNI) : Vok (t, x) := by
  have hk := UNI_kind _ h
  simp only at hk
  have h0 : ¬ t = 0 := by omega
  have h1 : ¬ t = 1 := by omega
  have h2 : ¬ (t = 9 ∨ t = 50 ∨ t = 51 ∨ t = 52 ∨ t = 53) := by omega
  simp only [Vok, if_neg h0, if_neg h1, if_neg h2]
  exact h
theorem Vok_ob {t : Nat} {x : Int} (h : Vok (t, x)) (ht : (10 ≤ t ∧ t < 19) ∨ 100 ≤ t) : (x, t) ∈ UNI := by
  have h0 : ¬ t = 0 := by omega
  have h1 : ¬ t = 1 := by omega
  have h2 : ¬ (t = 9 ∨ t = 50 ∨ t = 51 ∨ t = 52 ∨ t = 53) := by omega
  simpa only [Vok, if_neg h0, if_neg h1, if_neg h2] using h
theorem Mok_up {m : Mm} {o v : Int} {t k : Nat} (h : Mok m) (ho : (o, t) ∈ UNI) (hv : sOk t k v) : Mok (up m o k v) := by
  intro q hq j
  by_cases e : q.1 = o ∧ j = k
  · obtain ⟨e1, e2⟩ := e
    obtain ⟨a, b⟩ := q
    simp only at e1
    subst e1; subst e2
    have : b = t := UNI_eq hq ho
    subst this
    rw [up_same]
    exact hv
  · have : up m o k v q.1 j = m q.1 j := by
      unfold up
      rw [if_neg]
      intro z
      exact e ⟨z.1, by omega⟩
    rw [this]
    exact h q hq j
