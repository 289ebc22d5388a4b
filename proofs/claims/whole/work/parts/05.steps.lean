/-! ONE ROW AN INSTRUCTION: from the machine's row to the number machine's step -/
def WT : List Cond := lw_tbl.filter goodWord
theorem WT_in {w : Cond} (h : w ∈ lw_tbl) (g : goodWord w = true) : w ∈ WT := List.mem_filter.mpr ⟨h, g⟩
def LENS : List Nat := [125, 11]
def BYTS : List (List Int32) := [WORDSL.map Int32.ofInt, SIGNSL.map Int32.ofInt]
def TXW : String := "frosts goes cow gate plant cut press go hour cell around all number who way turn by far of hedge if then else end or and not "
def TXS : String := "<>=#+-*/();"
/-- what is there from the start, and never written: the texts, the static row, the script, the words of the nest -/
def Sc (NW : List Cond) (ad : Int → Nat) (A : Nat → Prop) (s : State) (H : Heap) (m : Mm) : Prop :=
  (∃ (Ls : Nat) (xs : Nat → Int32), va_X (ad 500) Ls xs s H ∧ ad 500 < H.size ∧ ¬ A (ad 500) ∧ m 500 (-1) = (Ls : Int) ∧ Ls < 2 ^ 31 ∧ ∀ j : Nat, j < Ls → m 500 (j : Int) = (xs j).toInt) ∧
  (∃ xs : Nat → Int32, va_X (ad 501) 4 xs s H ∧ ad 501 < H.size ∧ ¬ A (ad 501) ∧ ∀ j : Nat, j < 4 → m 501 (j : Int) = (xs j).toInt) ∧
  va_Z RX8 "TRIED" "[I" (.ref (ad 501)) A s H ∧
  (∃ adV : Nat → Nat, vk_S 2 LENS BYTS (fun i => ad (502 + (i : Int))) adV A s H) ∧ vk_R RX6 166 TXW (ad 502) s ∧ vk_R RX6 182 TXS (ad 503) s ∧
  va_Z "java/lang/String" "COMPACT_STRINGS" "Z" (.int 1) A s H ∧ va_Zq "jdk/internal/util/Preconditions" "SIOOBE_FORMATTER" "Ljava/util/function/BiFunction;" A s H ∧
  ∀ w ∈ NW, va_Nw w s
def LH (ad : Int → Nat) (ls : Array Slot) (nL : Nat) (L : List Vv) : Prop := L.length = nL ∧ ls.size = nL ∧ lv_wf ls ∧ ∀ (i : Nat) (v : Vv), L[i]? = some v → v.1 ≠ 9 → ls[i]? = some (.val (cv ad v))
/-- the listed locals, for the kit's rows -/
def lvl (ad : Int → Nat) (L : List Vv) : List (Nat × Value) := (List.range L.length).filterMap (fun i => match L[i]? with
  | some v => if v.1 = 9 then none else some (i, cv ad v)
  | none => none)
theorem lvl_in {ad : Int → Nat} {L : List Vv} {i : Nat} {v : Vv} (h : L[i]? = some v) (h9 : v.1 ≠ 9) : (i, cv ad v) ∈ lvl ad L := by
  refine List.mem_filterMap.mpr ⟨i, List.mem_range.mpr (List.getElem?_eq_some_iff.mp h).1, ?_⟩
  simp [h, h9]
theorem lvl_of {ad : Int → Nat} {L : List Vv} {q : Nat × Value} (h : q ∈ lvl ad L) : ∃ v : Vv, L[q.1]? = some v ∧ v.1 ≠ 9 ∧ q.2 = cv ad v := by
  obtain ⟨i, -, hi⟩ := List.mem_filterMap.mp h
  cases hv : L[i]? with
  | none => simp [hv] at hi
  | some v =>
    by_cases h9 : v.1 = 9
    · simp [hv, h9] at hi
    · simp [hv, h9] at hi
      subst hi
      exact ⟨v, hv, h9, rfl⟩
theorem LH_has {ad : Int → Nat} {ls : Array Slot} {nL : Nat} {L : List Vv} (h : LH ad ls nL L) : lv_has ls nL (lvl ad L) := ⟨h.2.1, h.2.2.1, fun q hq => by
  obtain ⟨v, h1, h2, h3⟩ := lvl_of hq
  rw [h3]
  exact h.2.2.2 _ _ h1 h2⟩
theorem cut1_get {L : List Vv} {i j : Nat} {w : Vv} (h : (cut1 L i)[j]? = some w) (h9 : w.1 ≠ 9) : L[j]? = some w ∧ ¬ (j + 1 = i ∧ w.1 = 1) := by
  cases i with
  | zero => exact ⟨h, fun z => by omega⟩
  | succ k =>
    cases hk : L[k]? with
    | none =>
      have e0 : cut1 L (k + 1) = L := by simp [cut1, hk]
      rw [e0] at h
      refine ⟨h, fun z => ?_⟩
      obtain rfl : j = k := by omega
      rw [hk] at h
      cases h
    | some v =>
      obtain ⟨t, x⟩ := v
      by_cases h1 : t = 1
      · subst h1
        have e0 : cut1 L (k + 1) = L.set k (9, 0) := by simp [cut1, hk]
        rw [e0] at h
        by_cases hj : j = k
        · subst hj
          have hl : j < L.length := (List.getElem?_eq_some_iff.mp hk).1
          rw [List.getElem?_set_self hl] at h
          cases h
          exact absurd rfl h9
        · rw [List.getElem?_set_ne (fun z => hj z.symm)] at h
          exact ⟨h, fun z => hj (by omega)⟩
      · have e0 : cut1 L (k + 1) = L := by
          simp only [cut1, hk]
          split
          · rename_i heq
            cases heq
            exact absurd rfl h1
          · rfl
        rw [e0] at h
        refine ⟨h, fun z => ?_⟩
        obtain rfl : j = k := by omega
        rw [hk] at h
        cases h
        exact h1 z.2
theorem cut1_len (L : List Vv) (i : Nat) : (cut1 L i).length = L.length := by
  unfold cut1
  split
  · rfl
  · split <;> simp
theorem LH_sto1 {ad : Int → Nat} {ls : Array Slot} {nL i : Nat} {L : List Vv} {v : Vv} (hL : L.length = nL) (h : lv_has ls nL ((i, cv ad v) :: (lvl ad L).filter (fun q => !(q.1 == i) && !(q.1 + 1 == i && q.2.category == 2)))) : LH ad ls nL (sto1 L i v) := by
  refine ⟨by unfold sto1; rw [List.length_set, cut1_len]; exact hL, h.1, h.2.1, fun j w hj h9 => ?_⟩
  unfold sto1 at hj
  by_cases e : j = i
  · subst e
    by_cases hl : j < (cut1 L j).length
    · rw [List.getElem?_set_self hl] at hj
      cases hj
      exact h.2.2 _ List.mem_cons_self
    · rw [List.getElem?_eq_none (by rw [List.length_set]; omega)] at hj
      cases hj
  · rw [List.getElem?_set_ne (fun z => e z.symm)] at hj
    obtain ⟨h1, h2⟩ := cut1_get hj h9
    refine h.2.2 (j, cv ad w) (List.mem_cons_of_mem _ (List.mem_filter.mpr ⟨lvl_in h1 h9, ?_⟩))
    have e2 : (cv ad w).category = catV w := cv_cat ad w
    simp only [Bool.and_eq_true, Bool.not_eq_true', beq_eq_false_iff_ne, ne_eq, Bool.and_eq_false_iff, e2]
    refine ⟨e, ?_⟩
    by_cases hz : j + 1 = i
    · right
      unfold catV
      rw [if_neg (fun q => h2 ⟨hz, q⟩)]
      decide
    · exact Or.inl hz
theorem LH_sto2 {ad : Int → Nat} {ls : Array Slot} {nL i : Nat} {L : List Vv} {v : Vv} (hL : L.length = nL) (h : lv_has ls nL ((i, cv ad v) :: (lvl ad L).filter (fun q => !(q.1 == i) && (!(q.1 == i + 1) && !(q.1 + 1 == i && q.2.category == 2))))) : LH ad ls nL (sto2 L i v) := by
  refine ⟨by unfold sto2; rw [List.length_set, List.length_set, cut1_len]; exact hL, h.1, h.2.1, fun j w hj h9 => ?_⟩
  unfold sto2 at hj
  by_cases e1 : j = i + 1
  · subst e1
    by_cases hl : i + 1 < ((cut1 L i).set i v).length
    · rw [List.getElem?_set_self hl] at hj
      cases hj
      exact absurd rfl h9
    · rw [List.getElem?_eq_none (by rw [List.length_set]; omega)] at hj
      cases hj
  · rw [List.getElem?_set_ne (fun z => e1 z.symm)] at hj
    by_cases e : j = i
    · subst e
      by_cases hl : j < (cut1 L j).length
      · rw [List.getElem?_set_self hl] at hj
        cases hj
        exact h.2.2 _ List.mem_cons_self
      · rw [List.getElem?_eq_none (by rw [List.length_set]; omega)] at hj
        cases hj
    · rw [List.getElem?_set_ne (fun z => e z.symm)] at hj
      obtain ⟨h1, h2⟩ := cut1_get hj h9
      refine h.2.2 (j, cv ad w) (List.mem_cons_of_mem _ (List.mem_filter.mpr ⟨lvl_in h1 h9, ?_⟩))
      have e2 : (cv ad w).category = catV w := cv_cat ad w
      simp only [Bool.and_eq_true, Bool.not_eq_true', beq_eq_false_iff_ne, ne_eq, Bool.and_eq_false_iff, e2]
      refine ⟨e, e1, ?_⟩
      by_cases hz : j + 1 = i
      · right
        unfold catV
        rw [if_neg (fun q => h2 ⟨hz, q⟩)]
        decide
      · exact Or.inl hz
/-- from every heap and every locals that hold the numbers, the machine comes to Q -/
def Go (p : Program) (l : Launch) (e : Env) (R : Room) (s : State) (mid : MethodId) (args : Array Value) (below : List Frame) (meth : Method) (c : Code) (Q : State → Prop) (ad : Int → Nat) (G : Nat → ClassId) (D : va_G) (A : Nat → Prop) (nL cells slots : Nat) (bp : Nat) (L st : List Vv) (m : Mm) : Prop :=
  ∀ (H : Heap) (locs : List Loc) (ls : Array Slot), va_P D vwCl (WS ad G m) H → va_D A (WS ad G m) → va_S A s.heap H locs → LH ad ls nL L → W p l e R s mid args below meth c H locs cells slots Q (F0 mid bp ls (st.map (cv ad)))
/-- what a method's frame stands on -/
def CX (NW : List Cond) (p : Program) (R : Room) (s : State) (mid : MethodId) (args : Array Value) (c : Code) (own : String) (cc : ByteArray) (ad : Int → Nat) (G : Nat → ClassId) (D : va_G) (A : Nat → Prop) (nL : Nat) : Prop :=
  p.tables.exec = Jvm.exec ∧ c.code = cc ∧ c.maxLocals = nL ∧ s.vm.findClass own = some mid.cls ∧ (∀ w ∈ WT, w.before args s = true) ∧ va_K D vwCl (TYS G) s ∧ (∀ q : Nat, s.heap.size ≤ q → A q) ∧ 1 ≤ R.frames ∧ 64 ≤ R.locals ∧ (∀ w ∈ NW, va_Nw w s)
section STEPS
variable {NW : List Cond} {p : Program} {l : Launch} {e : Env} {R : Room} {s : State} {mid : MethodId} {args : Array Value} {below : List Frame} {meth : Method} {c : Code} {Q : State → Prop} {ad : Int → Nat} {G : Nat → ClassId} {D : va_G} {A : Nat → Prop} {nL cells slots : Nat} {own : String} {cc : ByteArray} {bp : Nat} {L r : List Vv} {m : Mm}

theorem go_iadd (K : CX NW p R s mid args c own cc ad G D A nL) {a b : Int} (hd : decode cc bp = .ok (.iadd, 1)) (k : Go p l e R s mid args below meth c Q ad G D A nL cells slots (bp + 1) L ((0, w32 (a + b)) :: r) m) : Go p l e R s mid args below meth c Q ad G D A nL cells slots bp L ((0, b) :: (0, a) :: r) m := by
  intro H locs ls hP hD hS hL
  have h := k H locs ls hP hD hS hL
  show W p l e R s mid args below meth c H locs cells slots Q (F0 mid bp ls (.int (Int32.ofInt b) :: .int (Int32.ofInt a) :: r.map (cv ad)))
  have e9 : cv ad (0, w32 (a + b)) = .int (Int32.ofInt a + Int32.ofInt b) := by rw [cv_i]; rw [o32_w, Int32.ofInt_add]
  rw [List.map_cons, e9] at h
  exact lv_iadd K.1 K.2.1 hd h
theorem go_isub (K : CX NW p R s mid args c own cc ad G D A nL) {a b : Int} (hd : decode cc bp = .ok (.isub, 1)) (k : Go p l e R s mid args below meth c Q ad G D A nL cells slots (bp + 1) L ((0, w32 (a - b)) :: r) m) : Go p l e R s mid args below meth c Q ad G D A nL cells slots bp L ((0, b) :: (0, a) :: r) m := by
  intro H locs ls hP hD hS hL
  have h := k H locs ls hP hD hS hL
  show W p l e R s mid args below meth c H locs cells slots Q (F0 mid bp ls (.int (Int32.ofInt b) :: .int (Int32.ofInt a) :: r.map (cv ad)))
  have e9 : cv ad (0, w32 (a - b)) = .int (Int32.ofInt a - Int32.ofInt b) := by rw [cv_i]; rw [o32_w, Int32.ofInt_sub]
  rw [List.map_cons, e9] at h
  exact lv_isub K.1 K.2.1 hd h
theorem go_imul (K : CX NW p R s mid args c own cc ad G D A nL) {a b : Int} (hd : decode cc bp = .ok (.imul, 1)) (k : Go p l e R s mid args below meth c Q ad G D A nL cells slots (bp + 1) L ((0, w32 (a * b)) :: r) m) : Go p l e R s mid args below meth c Q ad G D A nL cells slots bp L ((0, b) :: (0, a) :: r) m := by
  intro H locs ls hP hD hS hL
  have h := k H locs ls hP hD hS hL
  show W p l e R s mid args below meth c H locs cells slots Q (F0 mid bp ls (.int (Int32.ofInt b) :: .int (Int32.ofInt a) :: r.map (cv ad)))
  have e9 : cv ad (0, w32 (a * b)) = .int (Int32.ofInt a * Int32.ofInt b) := by rw [cv_i]; rw [o32_w, Int32.ofInt_mul]
  rw [List.map_cons, e9] at h
  exact lv_imul K.1 K.2.1 hd h
theorem go_iand (K : CX NW p R s mid args c own cc ad G D A nL) {a b : Int} (hd : decode cc bp = .ok (.iand, 1)) (k : Go p l e R s mid args below meth c Q ad G D A nL cells slots (bp + 1) L ((0, ian a b) :: r) m) : Go p l e R s mid args below meth c Q ad G D A nL cells slots bp L ((0, b) :: (0, a) :: r) m := by
  intro H locs ls hP hD hS hL
  have h := k H locs ls hP hD hS hL
  show W p l e R s mid args below meth c H locs cells slots Q (F0 mid bp ls (.int (Int32.ofInt b) :: .int (Int32.ofInt a) :: r.map (cv ad)))
  have e9 : cv ad (0, ian a b) = .int (Int32.ofInt a &&& Int32.ofInt b) := by rw [cv_i]; rw [ian, Int32.ofInt_toInt]
  rw [List.map_cons, e9] at h
  exact lv_iand K.1 K.2.1 hd h
theorem go_ior (K : CX NW p R s mid args c own cc ad G D A nL) {a b : Int} (hd : decode cc bp = .ok (.ior, 1)) (k : Go p l e R s mid args below meth c Q ad G D A nL cells slots (bp + 1) L ((0, iro a b) :: r) m) : Go p l e R s mid args below meth c Q ad G D A nL cells slots bp L ((0, b) :: (0, a) :: r) m := by
  intro H locs ls hP hD hS hL
  have h := k H locs ls hP hD hS hL
  show W p l e R s mid args below meth c H locs cells slots Q (F0 mid bp ls (.int (Int32.ofInt b) :: .int (Int32.ofInt a) :: r.map (cv ad)))
  have e9 : cv ad (0, iro a b) = .int (Int32.ofInt a ||| Int32.ofInt b) := by rw [cv_i]; rw [iro, Int32.ofInt_toInt]
  rw [List.map_cons, e9] at h
  exact lv_ior K.1 K.2.1 hd h
theorem go_ixor (K : CX NW p R s mid args c own cc ad G D A nL) {a b : Int} (hd : decode cc bp = .ok (.ixor, 1)) (k : Go p l e R s mid args below meth c Q ad G D A nL cells slots (bp + 1) L ((0, ixo a b) :: r) m) : Go p l e R s mid args below meth c Q ad G D A nL cells slots bp L ((0, b) :: (0, a) :: r) m := by
  intro H locs ls hP hD hS hL
  have h := k H locs ls hP hD hS hL
  show W p l e R s mid args below meth c H locs cells slots Q (F0 mid bp ls (.int (Int32.ofInt b) :: .int (Int32.ofInt a) :: r.map (cv ad)))
  have e9 : cv ad (0, ixo a b) = .int (Int32.ofInt a ^^^ Int32.ofInt b) := by rw [cv_i]; rw [ixo, Int32.ofInt_toInt]
  rw [List.map_cons, e9] at h
  exact lv_ixor K.1 K.2.1 hd h
theorem go_ishl (K : CX NW p R s mid args c own cc ad G D A nL) {a b : Int} (hd : decode cc bp = .ok (.ishl, 1)) (k : Go p l e R s mid args below meth c Q ad G D A nL cells slots (bp + 1) L ((0, isl a b) :: r) m) : Go p l e R s mid args below meth c Q ad G D A nL cells slots bp L ((0, b) :: (0, a) :: r) m := by
  intro H locs ls hP hD hS hL
  have h := k H locs ls hP hD hS hL
  show W p l e R s mid args below meth c H locs cells slots Q (F0 mid bp ls (.int (Int32.ofInt b) :: .int (Int32.ofInt a) :: r.map (cv ad)))
  have e9 : cv ad (0, isl a b) = .int (Int32.ofInt a <<< (Int32.ofInt b &&& 31)) := by rw [cv_i]; rw [isl, Int32.ofInt_toInt]
  rw [List.map_cons, e9] at h
  exact lv_ishl K.1 K.2.1 hd h
theorem go_ishr (K : CX NW p R s mid args c own cc ad G D A nL) {a b : Int} (hd : decode cc bp = .ok (.ishr, 1)) (k : Go p l e R s mid args below meth c Q ad G D A nL cells slots (bp + 1) L ((0, isr a b) :: r) m) : Go p l e R s mid args below meth c Q ad G D A nL cells slots bp L ((0, b) :: (0, a) :: r) m := by
  intro H locs ls hP hD hS hL
  have h := k H locs ls hP hD hS hL
  show W p l e R s mid args below meth c H locs cells slots Q (F0 mid bp ls (.int (Int32.ofInt b) :: .int (Int32.ofInt a) :: r.map (cv ad)))
  have e9 : cv ad (0, isr a b) = .int (Int32.ofInt a >>> (Int32.ofInt b &&& 31)) := by rw [cv_i]; rw [isr, Int32.ofInt_toInt]
  rw [List.map_cons, e9] at h
  exact lv_ishr K.1 K.2.1 hd h
theorem go_iushr (K : CX NW p R s mid args c own cc ad G D A nL) {a b : Int} (hd : decode cc bp = .ok (.iushr, 1)) (k : Go p l e R s mid args below meth c Q ad G D A nL cells slots (bp + 1) L ((0, ius a b) :: r) m) : Go p l e R s mid args below meth c Q ad G D A nL cells slots bp L ((0, b) :: (0, a) :: r) m := by
  intro H locs ls hP hD hS hL
  have h := k H locs ls hP hD hS hL
  show W p l e R s mid args below meth c H locs cells slots Q (F0 mid bp ls (.int (Int32.ofInt b) :: .int (Int32.ofInt a) :: r.map (cv ad)))
  have e9 : cv ad (0, ius a b) = .int (Int32.ofInt (ius a b)) := by rw [cv_i]
  rw [List.map_cons, e9] at h
  exact lv_iushr K.1 K.2.1 hd (by rw [ius, Int32.ofInt_toInt]) h
theorem go_idiv (K : CX NW p R s mid args c own cc ad G D A nL) {a b : Int} (hb : in32 b) (hne : b ≠ 0) (hd : decode cc bp = .ok (.idiv, 1)) (k : Go p l e R s mid args below meth c Q ad G D A nL cells slots (bp + 1) L ((0, idv a b) :: r) m) : Go p l e R s mid args below meth c Q ad G D A nL cells slots bp L ((0, b) :: (0, a) :: r) m := by
  intro H locs ls hP hD hS hL
  have h := k H locs ls hP hD hS hL
  show W p l e R s mid args below meth c H locs cells slots Q (F0 mid bp ls (.int (Int32.ofInt b) :: .int (Int32.ofInt a) :: r.map (cv ad)))
  have e9 : cv ad (0, idv a b) = .int (Int32.ofInt a / Int32.ofInt b) := by rw [cv_i]; rw [idv, Int32.ofInt_toInt]
  rw [List.map_cons, e9] at h
  exact lv_idiv K.1 K.2.1 hd (fun z => hne ((o32_eq hb in32_lit0).mp (by rw [z]; rfl))) h
theorem go_irem (K : CX NW p R s mid args c own cc ad G D A nL) {a b : Int} (hb : in32 b) (hne : b ≠ 0) (hd : decode cc bp = .ok (.irem, 1)) (k : Go p l e R s mid args below meth c Q ad G D A nL cells slots (bp + 1) L ((0, irm a b) :: r) m) : Go p l e R s mid args below meth c Q ad G D A nL cells slots bp L ((0, b) :: (0, a) :: r) m := by
  intro H locs ls hP hD hS hL
  have h := k H locs ls hP hD hS hL
  show W p l e R s mid args below meth c H locs cells slots Q (F0 mid bp ls (.int (Int32.ofInt b) :: .int (Int32.ofInt a) :: r.map (cv ad)))
  have e9 : cv ad (0, irm a b) = .int (Int32.ofInt a - Int32.ofInt a / Int32.ofInt b * Int32.ofInt b) := by rw [cv_i]; rw [irm, Int32.ofInt_toInt]
  rw [List.map_cons, e9] at h
  exact lv_irem K.1 K.2.1 hd (fun z => hne ((o32_eq hb in32_lit0).mp (by rw [z]; rfl))) h
theorem go_ladd (K : CX NW p R s mid args c own cc ad G D A nL) {a b : Int} (hd : decode cc bp = .ok (.ladd, 1)) (k : Go p l e R s mid args below meth c Q ad G D A nL cells slots (bp + 1) L ((1, w64 (a + b)) :: r) m) : Go p l e R s mid args below meth c Q ad G D A nL cells slots bp L ((1, b) :: (1, a) :: r) m := by
  intro H locs ls hP hD hS hL
  have h := k H locs ls hP hD hS hL
  show W p l e R s mid args below meth c H locs cells slots Q (F0 mid bp ls (.long (Int64.ofInt b) :: .long (Int64.ofInt a) :: r.map (cv ad)))
  have e9 : cv ad (1, w64 (a + b)) = .long (Int64.ofInt a + Int64.ofInt b) := by rw [cv_l]; rw [o64_w, Int64.ofInt_add]
  rw [List.map_cons, e9] at h
  exact lv_ladd K.1 K.2.1 hd h
theorem go_lsub (K : CX NW p R s mid args c own cc ad G D A nL) {a b : Int} (hd : decode cc bp = .ok (.lsub, 1)) (k : Go p l e R s mid args below meth c Q ad G D A nL cells slots (bp + 1) L ((1, w64 (a - b)) :: r) m) : Go p l e R s mid args below meth c Q ad G D A nL cells slots bp L ((1, b) :: (1, a) :: r) m := by
  intro H locs ls hP hD hS hL
  have h := k H locs ls hP hD hS hL
  show W p l e R s mid args below meth c H locs cells slots Q (F0 mid bp ls (.long (Int64.ofInt b) :: .long (Int64.ofInt a) :: r.map (cv ad)))
  have e9 : cv ad (1, w64 (a - b)) = .long (Int64.ofInt a - Int64.ofInt b) := by rw [cv_l]; rw [o64_w, Int64.ofInt_sub]
  rw [List.map_cons, e9] at h
  exact lv_lsub K.1 K.2.1 hd h
theorem go_lmul (K : CX NW p R s mid args c own cc ad G D A nL) {a b : Int} (hd : decode cc bp = .ok (.lmul, 1)) (k : Go p l e R s mid args below meth c Q ad G D A nL cells slots (bp + 1) L ((1, w64 (a * b)) :: r) m) : Go p l e R s mid args below meth c Q ad G D A nL cells slots bp L ((1, b) :: (1, a) :: r) m := by
  intro H locs ls hP hD hS hL
  have h := k H locs ls hP hD hS hL
  show W p l e R s mid args below meth c H locs cells slots Q (F0 mid bp ls (.long (Int64.ofInt b) :: .long (Int64.ofInt a) :: r.map (cv ad)))
  have e9 : cv ad (1, w64 (a * b)) = .long (Int64.ofInt a * Int64.ofInt b) := by rw [cv_l]; rw [o64_w, Int64.ofInt_mul]
  rw [List.map_cons, e9] at h
  exact lv_lmul K.1 K.2.1 hd h
theorem go_land (K : CX NW p R s mid args c own cc ad G D A nL) {a b : Int} (hd : decode cc bp = .ok (.land, 1)) (k : Go p l e R s mid args below meth c Q ad G D A nL cells slots (bp + 1) L ((1, lan a b) :: r) m) : Go p l e R s mid args below meth c Q ad G D A nL cells slots bp L ((1, b) :: (1, a) :: r) m := by
  intro H locs ls hP hD hS hL
  have h := k H locs ls hP hD hS hL
  show W p l e R s mid args below meth c H locs cells slots Q (F0 mid bp ls (.long (Int64.ofInt b) :: .long (Int64.ofInt a) :: r.map (cv ad)))
  have e9 : cv ad (1, lan a b) = .long (Int64.ofInt a &&& Int64.ofInt b) := by rw [cv_l]; rw [lan, Int64.ofInt_toInt]
  rw [List.map_cons, e9] at h
  exact lv_land K.1 K.2.1 hd h
theorem go_lor (K : CX NW p R s mid args c own cc ad G D A nL) {a b : Int} (hd : decode cc bp = .ok (.lor, 1)) (k : Go p l e R s mid args below meth c Q ad G D A nL cells slots (bp + 1) L ((1, lro a b) :: r) m) : Go p l e R s mid args below meth c Q ad G D A nL cells slots bp L ((1, b) :: (1, a) :: r) m := by
  intro H locs ls hP hD hS hL
  have h := k H locs ls hP hD hS hL
  show W p l e R s mid args below meth c H locs cells slots Q (F0 mid bp ls (.long (Int64.ofInt b) :: .long (Int64.ofInt a) :: r.map (cv ad)))
  have e9 : cv ad (1, lro a b) = .long (Int64.ofInt a ||| Int64.ofInt b) := by rw [cv_l]; rw [lro, Int64.ofInt_toInt]
  rw [List.map_cons, e9] at h
  exact lv_lor K.1 K.2.1 hd h
theorem go_lxor (K : CX NW p R s mid args c own cc ad G D A nL) {a b : Int} (hd : decode cc bp = .ok (.lxor, 1)) (k : Go p l e R s mid args below meth c Q ad G D A nL cells slots (bp + 1) L ((1, lxo a b) :: r) m) : Go p l e R s mid args below meth c Q ad G D A nL cells slots bp L ((1, b) :: (1, a) :: r) m := by
  intro H locs ls hP hD hS hL
  have h := k H locs ls hP hD hS hL
  show W p l e R s mid args below meth c H locs cells slots Q (F0 mid bp ls (.long (Int64.ofInt b) :: .long (Int64.ofInt a) :: r.map (cv ad)))
  have e9 : cv ad (1, lxo a b) = .long (Int64.ofInt a ^^^ Int64.ofInt b) := by rw [cv_l]; rw [lxo, Int64.ofInt_toInt]
  rw [List.map_cons, e9] at h
  exact lv_lxor K.1 K.2.1 hd h
theorem go_lshl (K : CX NW p R s mid args c own cc ad G D A nL) {a b : Int} (hd : decode cc bp = .ok (.lshl, 1)) (k : Go p l e R s mid args below meth c Q ad G D A nL cells slots (bp + 1) L ((1, lsl a b) :: r) m) : Go p l e R s mid args below meth c Q ad G D A nL cells slots bp L ((0, b) :: (1, a) :: r) m := by
  intro H locs ls hP hD hS hL
  have h := k H locs ls hP hD hS hL
  show W p l e R s mid args below meth c H locs cells slots Q (F0 mid bp ls (.int (Int32.ofInt b) :: .long (Int64.ofInt a) :: r.map (cv ad)))
  have e9 : cv ad (1, lsl a b) = .long (Int64.ofInt (lsl a b)) := by rw [cv_l]
  rw [List.map_cons, e9] at h
  exact lv_lshl K.1 K.2.1 hd (by rw [lsl, Int64.ofInt_toInt]) h
theorem go_lshr (K : CX NW p R s mid args c own cc ad G D A nL) {a b : Int} (hd : decode cc bp = .ok (.lshr, 1)) (k : Go p l e R s mid args below meth c Q ad G D A nL cells slots (bp + 1) L ((1, lsr a b) :: r) m) : Go p l e R s mid args below meth c Q ad G D A nL cells slots bp L ((0, b) :: (1, a) :: r) m := by
  intro H locs ls hP hD hS hL
  have h := k H locs ls hP hD hS hL
  show W p l e R s mid args below meth c H locs cells slots Q (F0 mid bp ls (.int (Int32.ofInt b) :: .long (Int64.ofInt a) :: r.map (cv ad)))
  have e9 : cv ad (1, lsr a b) = .long (Int64.ofInt (lsr a b)) := by rw [cv_l]
  rw [List.map_cons, e9] at h
  exact lv_lshr K.1 K.2.1 hd (by rw [lsr, Int64.ofInt_toInt]) h
theorem go_lushr (K : CX NW p R s mid args c own cc ad G D A nL) {a b : Int} (hd : decode cc bp = .ok (.lushr, 1)) (k : Go p l e R s mid args below meth c Q ad G D A nL cells slots (bp + 1) L ((1, lus a b) :: r) m) : Go p l e R s mid args below meth c Q ad G D A nL cells slots bp L ((0, b) :: (1, a) :: r) m := by
  intro H locs ls hP hD hS hL
  have h := k H locs ls hP hD hS hL
  show W p l e R s mid args below meth c H locs cells slots Q (F0 mid bp ls (.int (Int32.ofInt b) :: .long (Int64.ofInt a) :: r.map (cv ad)))
  have e9 : cv ad (1, lus a b) = .long (Int64.ofInt (lus a b)) := by rw [cv_l]
  rw [List.map_cons, e9] at h
  exact lv_lushr K.1 K.2.1 hd (by rw [lus, Int64.ofInt_toInt]) h
theorem go_ldiv (K : CX NW p R s mid args c own cc ad G D A nL) {a b : Int} (hb : in64 b) (hne : b ≠ 0) (hd : decode cc bp = .ok (.ldiv, 1)) (k : Go p l e R s mid args below meth c Q ad G D A nL cells slots (bp + 1) L ((1, ldv a b) :: r) m) : Go p l e R s mid args below meth c Q ad G D A nL cells slots bp L ((1, b) :: (1, a) :: r) m := by
  intro H locs ls hP hD hS hL
  have h := k H locs ls hP hD hS hL
  show W p l e R s mid args below meth c H locs cells slots Q (F0 mid bp ls (.long (Int64.ofInt b) :: .long (Int64.ofInt a) :: r.map (cv ad)))
  have e9 : cv ad (1, ldv a b) = .long (Int64.ofInt a / Int64.ofInt b) := by rw [cv_l]; rw [ldv, Int64.ofInt_toInt]
  rw [List.map_cons, e9] at h
  exact lv_ldiv K.1 K.2.1 hd (fun z => hne (by have := i64_of hb; rw [z] at this; exact this.symm.trans rfl)) h
theorem go_lrem (K : CX NW p R s mid args c own cc ad G D A nL) {a b : Int} (hb : in64 b) (hne : b ≠ 0) (hd : decode cc bp = .ok (.lrem, 1)) (k : Go p l e R s mid args below meth c Q ad G D A nL cells slots (bp + 1) L ((1, lrm a b) :: r) m) : Go p l e R s mid args below meth c Q ad G D A nL cells slots bp L ((1, b) :: (1, a) :: r) m := by
  intro H locs ls hP hD hS hL
  have h := k H locs ls hP hD hS hL
  show W p l e R s mid args below meth c H locs cells slots Q (F0 mid bp ls (.long (Int64.ofInt b) :: .long (Int64.ofInt a) :: r.map (cv ad)))
  have e9 : cv ad (1, lrm a b) = .long (Int64.ofInt a - Int64.ofInt a / Int64.ofInt b * Int64.ofInt b) := by rw [cv_l]; rw [lrm, Int64.ofInt_toInt]
  rw [List.map_cons, e9] at h
  exact lv_lrem K.1 K.2.1 hd (fun z => hne (by have := i64_of hb; rw [z] at this; exact this.symm.trans rfl)) h
theorem go_ineg (K : CX NW p R s mid args c own cc ad G D A nL) {a : Int} (hd : decode cc bp = .ok (.ineg, 1)) (k : Go p l e R s mid args below meth c Q ad G D A nL cells slots (bp + 1) L ((0, w32 (-a)) :: r) m) : Go p l e R s mid args below meth c Q ad G D A nL cells slots bp L ((0, a) :: r) m := by
  intro H locs ls hP hD hS hL
  have h := k H locs ls hP hD hS hL
  show W p l e R s mid args below meth c H locs cells slots Q (F0 mid bp ls (.int (Int32.ofInt a) :: r.map (cv ad)))
  have e9 : cv ad (0, w32 (-a)) = .int (- Int32.ofInt a) := by rw [cv_i]; rw [o32_w, Int32.ofInt_neg]
  rw [List.map_cons, e9] at h
  exact lv_ineg K.1 K.2.1 hd h
theorem go_lneg (K : CX NW p R s mid args c own cc ad G D A nL) {a : Int} (hd : decode cc bp = .ok (.lneg, 1)) (k : Go p l e R s mid args below meth c Q ad G D A nL cells slots (bp + 1) L ((1, w64 (-a)) :: r) m) : Go p l e R s mid args below meth c Q ad G D A nL cells slots bp L ((1, a) :: r) m := by
  intro H locs ls hP hD hS hL
  have h := k H locs ls hP hD hS hL
  show W p l e R s mid args below meth c H locs cells slots Q (F0 mid bp ls (.long (Int64.ofInt a) :: r.map (cv ad)))
  have e9 : cv ad (1, w64 (-a)) = .long (- Int64.ofInt a) := by rw [cv_l]; rw [o64_w, Int64.ofInt_neg]
  rw [List.map_cons, e9] at h
  exact lv_lneg K.1 K.2.1 hd h
theorem go_i2l (K : CX NW p R s mid args c own cc ad G D A nL) {a : Int} (ha : in32 a) (hd : decode cc bp = .ok (.i2l, 1)) (k : Go p l e R s mid args below meth c Q ad G D A nL cells slots (bp + 1) L ((1, a) :: r) m) : Go p l e R s mid args below meth c Q ad G D A nL cells slots bp L ((0, a) :: r) m := by
  intro H locs ls hP hD hS hL
  have h := k H locs ls hP hD hS hL
  show W p l e R s mid args below meth c H locs cells slots Q (F0 mid bp ls (.int (Int32.ofInt a) :: r.map (cv ad)))
  have e9 : cv ad (1, a) = .long (Int64.ofInt a) := by rw [cv_l]
  rw [List.map_cons, e9] at h
  exact lv_i2l K.1 K.2.1 hd (by rw [← Int64.toInt_inj, Int32.toInt_toInt64, i32_of ha, i64_of (in64_32 ha)]) h
theorem go_l2i (K : CX NW p R s mid args c own cc ad G D A nL) {a : Int} (hd : decode cc bp = .ok (.l2i, 1)) (k : Go p l e R s mid args below meth c Q ad G D A nL cells slots (bp + 1) L ((0, w32 a) :: r) m) : Go p l e R s mid args below meth c Q ad G D A nL cells slots bp L ((1, a) :: r) m := by
  intro H locs ls hP hD hS hL
  have h := k H locs ls hP hD hS hL
  show W p l e R s mid args below meth c H locs cells slots Q (F0 mid bp ls (.long (Int64.ofInt a) :: r.map (cv ad)))
  have e9 : cv ad (0, w32 a) = .int (Int32.ofInt a) := by rw [cv_i]; rw [o32_w]
  rw [List.map_cons, e9] at h
  exact lv_l2i K.1 K.2.1 hd (by rw [Int64.toInt32_ofInt]) h
theorem go_i2c (K : CX NW p R s mid args c own cc ad G D A nL) {a : Int} (hd : decode cc bp = .ok (.i2c, 1)) (k : Go p l e R s mid args below meth c Q ad G D A nL cells slots (bp + 1) L ((0, i2c a) :: r) m) : Go p l e R s mid args below meth c Q ad G D A nL cells slots bp L ((0, a) :: r) m := by
  intro H locs ls hP hD hS hL
  have h := k H locs ls hP hD hS hL
  show W p l e R s mid args below meth c H locs cells slots Q (F0 mid bp ls (.int (Int32.ofInt a) :: r.map (cv ad)))
  have e9 : cv ad (0, i2c a) = .int (Int32.ofInt (i2c a)) := by rw [cv_i]
  rw [List.map_cons, e9] at h
  exact lv_i2c K.1 K.2.1 hd (by rw [i2c, Int32.ofInt_toInt]) h
theorem lcm_ok {a b : Int} (ha : in64 a) (hb : in64 b) : lg_cmp (Int64.ofInt a) (Int64.ofInt b) = Int32.ofInt (lcm a b) := by
  unfold lg_cmp lcm
  have h1 : Int64.ofInt a < Int64.ofInt b ↔ a < b := by rw [Int64.lt_iff_toInt_lt, i64_of ha, i64_of hb]
  have h2 : Int64.ofInt b < Int64.ofInt a ↔ b < a := by rw [Int64.lt_iff_toInt_lt, i64_of ha, i64_of hb]
  have h3 : Int64.ofInt a = Int64.ofInt b ↔ a = b := by rw [← Int64.toInt_inj, i64_of ha, i64_of hb]
  have h4 : Int64.ofInt a ≤ Int64.ofInt b ↔ a ≤ b := by rw [Int64.le_iff_toInt_le, i64_of ha, i64_of hb]
  simp only [gt_iff_lt, h1, h2, h3, h4]
  split <;> (try split) <;> (try split) <;> first | rfl | (exfalso; omega)
theorem go_lcmp (K : CX NW p R s mid args c own cc ad G D A nL) {a b : Int} (ha : in64 a) (hb : in64 b) (hd : decode cc bp = .ok (.lcmp, 1)) (k : Go p l e R s mid args below meth c Q ad G D A nL cells slots (bp + 1) L ((0, lcm a b) :: r) m) : Go p l e R s mid args below meth c Q ad G D A nL cells slots bp L ((1, b) :: (1, a) :: r) m := by
  intro H locs ls hP hD hS hL
  have h := k H locs ls hP hD hS hL
  show W p l e R s mid args below meth c H locs cells slots Q (F0 mid bp ls (.long (Int64.ofInt b) :: .long (Int64.ofInt a) :: r.map (cv ad)))
  refine W.lcmp K.1 K.2.1 hd ?_
  rw [lcm_ok ha hb]
  exact h
theorem go_const (K : CX NW p R s mid args c own cc ad G D A nL) {v : Int} {raw : Instr} {len : Nat} (hd : decode cc bp = .ok (raw, len)) (ho : (raw = .iconst v ∧ len = 1) ∨ (raw = .bipush v ∧ len = 2 ∧ (Int8.ofInt v).toInt32 = Int32.ofInt v) ∨ (raw = .sipush v ∧ len = 3 ∧ (Int16.ofInt v).toInt32 = Int32.ofInt v) ∨ (∃ idx, raw = .ldc idx ∧ len = 2 ∧ Jvm.Cond.constant own idx (Int32.ofInt v) ∈ WT) ∨ (∃ idx, raw = .ldc_w idx ∧ len = 3 ∧ Jvm.Cond.constant own idx (Int32.ofInt v) ∈ WT)) (k : Go p l e R s mid args below meth c Q ad G D A nL cells slots (bp + len) L ((0, v) :: r) m) : Go p l e R s mid args below meth c Q ad G D A nL cells slots bp L r m := by
  intro H locs ls hP hD hS hL
  have h := k H locs ls hP hD hS hL
  rcases ho with ⟨rfl, rfl⟩ | ⟨rfl, rfl, h2⟩ | ⟨rfl, rfl, h2⟩ | ⟨idx, rfl, rfl, h2⟩ | ⟨idx, rfl, rfl, h2⟩
  · exact lv_iconst K.1 K.2.1 hd rfl h
  · exact lv_bipush K.1 K.2.1 hd h2 h
  · exact lv_sipush K.1 K.2.1 hd h2 h
  · exact lv_ldc K.1 K.2.1 K.2.2.2.1 (K.2.2.2.2.1 _ h2) hd h
  · exact lv_ldcw K.1 K.2.1 K.2.2.2.1 (K.2.2.2.2.1 _ h2) hd h
theorem go_lconst (K : CX NW p R s mid args c own cc ad G D A nL) {v : Int} {raw : Instr} {len : Nat} (hd : decode cc bp = .ok (raw, len)) (ho : (∃ n : Fin 2, raw = .lconst n ∧ len = 1 ∧ Int64.ofNat (n : Nat) = Int64.ofInt v) ∨ (∃ idx, raw = .ldc2_w idx ∧ len = 3 ∧ Jvm.Cond.constantLong own idx (Int64.ofInt v) ∈ WT)) (k : Go p l e R s mid args below meth c Q ad G D A nL cells slots (bp + len) L ((1, v) :: r) m) : Go p l e R s mid args below meth c Q ad G D A nL cells slots bp L r m := by
  intro H locs ls hP hD hS hL
  have h := k H locs ls hP hD hS hL
  rcases ho with ⟨n, rfl, rfl, h2⟩ | ⟨idx, rfl, rfl, h2⟩
  · exact lv_lconst K.1 K.2.1 hd h2 h
  · exact lv_ldc2 K.1 K.2.1 K.2.2.2.1 (K.2.2.2.2.1 _ h2) hd h
theorem go_iload (K : CX NW p R s mid args c own cc ad G D A nL) {x : Int} {i : Nat} {raw : Instr} {len : Nat} (hd : decode cc bp = .ok (raw, len)) (ho : (raw = .iload i ∧ len = 2) ∨ (∃ n : Fin 4, raw = .iload_n n ∧ len = 1 ∧ (n : Nat) = i)) (hx : L[i]? = some (0, x)) (k : Go p l e R s mid args below meth c Q ad G D A nL cells slots (bp + len) L ((0, x) :: r) m) : Go p l e R s mid args below meth c Q ad G D A nL cells slots bp L r m := by
  intro H locs ls hP hD hS hL
  have h := k H locs ls hP hD hS hL
  have hv : ls[i]? = some (.val (.int (Int32.ofInt x))) := hL.2.2.2 i _ hx (by simp)
  rcases ho with ⟨rfl, rfl⟩ | ⟨n, rfl, rfl, h2⟩
  · exact lv_iload K.1 K.2.1 hd hv h
  · exact lv_iload_n K.1 K.2.1 hd h2 hv h
theorem go_lload (K : CX NW p R s mid args c own cc ad G D A nL) {x : Int} {i : Nat} {raw : Instr} {len : Nat} (hd : decode cc bp = .ok (raw, len)) (ho : (raw = .lload i ∧ len = 2) ∨ (∃ n : Fin 4, raw = .lload_n n ∧ len = 1 ∧ (n : Nat) = i)) (hx : L[i]? = some (1, x)) (k : Go p l e R s mid args below meth c Q ad G D A nL cells slots (bp + len) L ((1, x) :: r) m) : Go p l e R s mid args below meth c Q ad G D A nL cells slots bp L r m := by
  intro H locs ls hP hD hS hL
  have h := k H locs ls hP hD hS hL
  have hv : ls[i]? = some (.val (.long (Int64.ofInt x))) := hL.2.2.2 i _ hx (by simp)
  rcases ho with ⟨rfl, rfl⟩ | ⟨n, rfl, rfl, h2⟩
  · exact lv_lload K.1 K.2.1 hd hv h
  · exact lv_lload_n K.1 K.2.1 hd h2 hv h
theorem go_aload (K : CX NW p R s mid args c own cc ad G D A nL) {t : Nat} {x : Int} {i : Nat} {raw : Instr} {len : Nat} (hd : decode cc bp = .ok (raw, len)) (ho : (raw = .aload i ∧ len = 2) ∨ (∃ n : Fin 4, raw = .aload_n n ∧ len = 1 ∧ (n : Nat) = i)) (hx : L[i]? = some (t, x)) (ht : 10 ≤ t) (k : Go p l e R s mid args below meth c Q ad G D A nL cells slots (bp + len) L ((t, x) :: r) m) : Go p l e R s mid args below meth c Q ad G D A nL cells slots bp L r m := by
  intro H locs ls hP hD hS hL
  have h := k H locs ls hP hD hS hL
  obtain ⟨a, ha⟩ := cv_r ad t x (by omega)
  have hv : ls[i]? = some (.val (.ref a)) := by rw [← ha]; exact hL.2.2.2 i _ hx (by simp; omega)
  rw [List.map_cons, ha] at h
  rcases ho with ⟨rfl, rfl⟩ | ⟨n, rfl, rfl, h2⟩
  · exact lv_aload K.1 K.2.1 hd hv h
  · exact lv_aload_n K.1 K.2.1 hd h2 hv h
theorem go_istore (K : CX NW p R s mid args c own cc ad G D A nL) {x : Int} {i : Nat} {raw : Instr} {len : Nat} (hd : decode cc bp = .ok (raw, len)) (ho : (raw = .istore i ∧ len = 2) ∨ (∃ n : Fin 4, raw = .istore_n n ∧ len = 1 ∧ (n : Nat) = i)) (hi : i < L.length) (k : Go p l e R s mid args below meth c Q ad G D A nL cells slots (bp + len) (sto1 L i (0, x)) r m) : Go p l e R s mid args below meth c Q ad G D A nL cells slots bp L ((0, x) :: r) m := by
  intro H locs ls hP hD hS hL
  have hn : i < nL := by rw [← hL.1]; exact hi
  show W p l e R s mid args below meth c H locs cells slots Q (F0 mid bp ls (.int (Int32.ofInt x) :: r.map (cv ad)))
  rcases ho with ⟨rfl, rfl⟩ | ⟨n, rfl, rfl, h2⟩
  · exact lv_istore K.1 K.2.1 hd (LH_has hL) hn rfl (fun ls' h' => k H locs ls' hP hD hS (LH_sto1 (v := (0, x)) hL.1 h'))
  · exact lv_istore_n K.1 K.2.1 hd h2 (LH_has hL) hn rfl (fun ls' h' => k H locs ls' hP hD hS (LH_sto1 (v := (0, x)) hL.1 h'))
theorem go_lstore (K : CX NW p R s mid args c own cc ad G D A nL) {x : Int} {i : Nat} {raw : Instr} {len : Nat} (hd : decode cc bp = .ok (raw, len)) (ho : (raw = .lstore i ∧ len = 2) ∨ (∃ n : Fin 4, raw = .lstore_n n ∧ len = 1 ∧ (n : Nat) = i)) (hi : i + 1 < L.length) (k : Go p l e R s mid args below meth c Q ad G D A nL cells slots (bp + len) (sto2 L i (1, x)) r m) : Go p l e R s mid args below meth c Q ad G D A nL cells slots bp L ((1, x) :: r) m := by
  intro H locs ls hP hD hS hL
  have hn : i + 1 < nL := by rw [← hL.1]; exact hi
  show W p l e R s mid args below meth c H locs cells slots Q (F0 mid bp ls (.long (Int64.ofInt x) :: r.map (cv ad)))
  rcases ho with ⟨rfl, rfl⟩ | ⟨n, rfl, rfl, h2⟩
  · exact lv_lstore K.1 K.2.1 hd (LH_has hL) hn rfl (fun ls' h' => k H locs ls' hP hD hS (LH_sto2 (v := (1, x)) hL.1 h'))
  · exact lv_lstore_n K.1 K.2.1 hd h2 (LH_has hL) hn rfl (fun ls' h' => k H locs ls' hP hD hS (LH_sto2 (v := (1, x)) hL.1 h'))
theorem go_astore (K : CX NW p R s mid args c own cc ad G D A nL) {t : Nat} {x : Int} {i : Nat} {raw : Instr} {len : Nat} (hd : decode cc bp = .ok (raw, len)) (ho : (raw = .astore i ∧ len = 2) ∨ (∃ n : Fin 4, raw = .astore_n n ∧ len = 1 ∧ (n : Nat) = i)) (ht : 10 ≤ t) (hi : i < L.length) (k : Go p l e R s mid args below meth c Q ad G D A nL cells slots (bp + len) (sto1 L i (t, x)) r m) : Go p l e R s mid args below meth c Q ad G D A nL cells slots bp L ((t, x) :: r) m := by
  intro H locs ls hP hD hS hL
  have hn : i < nL := by rw [← hL.1]; exact hi
  obtain ⟨a, ha⟩ := cv_r ad t x (by omega)
  rw [List.map_cons, ha]
  rcases ho with ⟨rfl, rfl⟩ | ⟨n, rfl, rfl, h2⟩
  · exact lv_astore K.1 K.2.1 hd (LH_has hL) hn rfl (fun ls' h' => k H locs ls' hP hD hS (LH_sto1 (v := (t, x)) hL.1 (by rw [ha]; exact h')))
  · exact lv_astore_n K.1 K.2.1 hd h2 (LH_has hL) hn rfl (fun ls' h' => k H locs ls' hP hD hS (LH_sto1 (v := (t, x)) hL.1 (by rw [ha]; exact h')))
theorem go_iinc (K : CX NW p R s mid args c own cc ad G D A nL) {x n : Int} {i : Nat} (hd : decode cc bp = .ok (.iinc i n, 3)) (hx : L[i]? = some (0, x)) (k : Go p l e R s mid args below meth c Q ad G D A nL cells slots (bp + 3) (sto1 L i (0, w32 (x + n))) r m) : Go p l e R s mid args below meth c Q ad G D A nL cells slots bp L r m := by
  intro H locs ls hP hD hS hL
  have hn : i < nL := by rw [← hL.1]; exact (List.getElem?_eq_some_iff.mp hx).1
  obtain ⟨q, hq⟩ := List.getElem?_of_mem (lvl_in (ad := ad) hx (by simp))
  exact lv_iinc (v := Int32.ofInt (w32 (x + n))) K.1 K.2.1 hd (LH_has hL) (k := q) hq (by rw [o32_w, Int32.ofInt_add]) hn rfl (fun ls' h' => k H locs ls' hP hD hS (LH_sto1 (v := (0, w32 (x + n))) hL.1 h'))
theorem cat_1 (ad : Int → Nat) {t : Nat} {a : Int} (h : ¬ t = 1) : (cv ad (t, a)).category = 1 := by rw [cv_cat, catV, if_neg h]
theorem go_dup (K : CX NW p R s mid args c own cc ad G D A nL) {t : Nat} {a : Int} (h1 : ¬ t = 1) (hd : decode cc bp = .ok (.dup, 1)) (k : Go p l e R s mid args below meth c Q ad G D A nL cells slots (bp + 1) L ((t, a) :: (t, a) :: r) m) : Go p l e R s mid args below meth c Q ad G D A nL cells slots bp L ((t, a) :: r) m := by
  intro H locs ls hP hD hS hL
  exact lv_dup K.1 K.2.1 hd (cat_1 ad h1) (k H locs ls hP hD hS hL)
theorem go_dup2 (K : CX NW p R s mid args c own cc ad G D A nL) {t u : Nat} {a b : Int} (h1 : ¬ t = 1) (h2 : ¬ u = 1) (hd : decode cc bp = .ok (.dup2, 1)) (k : Go p l e R s mid args below meth c Q ad G D A nL cells slots (bp + 1) L ((t, a) :: (u, b) :: (t, a) :: (u, b) :: r) m) : Go p l e R s mid args below meth c Q ad G D A nL cells slots bp L ((t, a) :: (u, b) :: r) m := by
  intro H locs ls hP hD hS hL
  exact lv_dup2_11 K.1 K.2.1 hd (cat_1 ad h1) (cat_1 ad h2) (k H locs ls hP hD hS hL)
theorem go_pop (K : CX NW p R s mid args c own cc ad G D A nL) {t : Nat} {a : Int} (h1 : ¬ t = 1) (hd : decode cc bp = .ok (.pop, 1)) (k : Go p l e R s mid args below meth c Q ad G D A nL cells slots (bp + 1) L r m) : Go p l e R s mid args below meth c Q ad G D A nL cells slots bp L ((t, a) :: r) m := by
  intro H locs ls hP hD hS hL
  exact lv_pop K.1 K.2.1 hd (cat_1 ad h1) (k H locs ls hP hD hS hL)
theorem go_goto (K : CX NW p R s mid args c own cc ad G D A nL) {off : Int} {tgt : Nat} (hd : decode cc bp = .ok (.goto off, 3)) (ht : (bp : Int) + off = (tgt : Int)) (k : Go p l e R s mid args below meth c Q ad G D A nL cells slots tgt L r m) : Go p l e R s mid args below meth c Q ad G D A nL cells slots bp L r m := by
  intro H locs ls hP hD hS hL
  exact lv_goto K.1 K.2.1 hd ht (k H locs ls hP hD hS hL)
theorem go_icmp (K : CX NW p R s mid args c own cc ad G D A nL) {cd : Jvm.ClassFile.Cond} {a b off : Int} {tgt : Nat} (ha : in32 a) (hb : in32 b) (hd : decode cc bp = .ok (.if_icmp cd off, 3)) (ht : (bp : Int) + off = (tgt : Int)) (kt : cmpB cd a b = true → Go p l e R s mid args below meth c Q ad G D A nL cells slots tgt L r m) (kf : ¬ cmpB cd a b = true → Go p l e R s mid args below meth c Q ad G D A nL cells slots (bp + 3) L r m) : Go p l e R s mid args below meth c Q ad G D A nL cells slots bp L ((0, b) :: (0, a) :: r) m := by
  intro H locs ls hP hD hS hL
  show W p l e R s mid args below meth c H locs cells slots Q (F0 mid bp ls (.int (Int32.ofInt b) :: .int (Int32.ofInt a) :: r.map (cv ad)))
  have e1 := o32_eq ha hb
  have e2 := o32_lt ha hb
  have e3 := o32_le hb ha
  have e4 := o32_lt hb ha
  have e5 := o32_le ha hb
  have T : ∀ P : Prop, (P ↔ cmpB cd a b = true) → P → W p l e R s mid args below meth c H locs cells slots Q (F0 mid tgt ls (r.map (cv ad))) := fun P h q => kt (h.mp q) H locs ls hP hD hS hL
  have F : ∀ P : Prop, (P ↔ cmpB cd a b = true) → ¬ P → W p l e R s mid args below meth c H locs cells slots Q (F0 mid (bp + 3) ls (r.map (cv ad))) := fun P h q => kf (fun z => q (h.mpr z)) H locs ls hP hD hS hL
  cases cd with
  | eq => exact lv_icmp_eq K.1 K.2.1 hd ht (T _ (by simp [cmpB, e1])) (F _ (by simp [cmpB, e1]))
  | ne => exact lv_icmp_ne K.1 K.2.1 hd ht (T _ (by simp [cmpB, e1])) (fun q => kf (by simp [cmpB, e1.mp q]) H locs ls hP hD hS hL)
  | lt => exact lv_icmp_lt K.1 K.2.1 hd ht (T _ (by simp [cmpB, e2])) (F _ (by simp [cmpB, e2]))
  | ge => exact lv_icmp_ge K.1 K.2.1 hd ht (T _ (by simp [cmpB, e3])) (F _ (by simp [cmpB, e3]))
  | gt => exact lv_icmp_gt K.1 K.2.1 hd ht (T _ (by simp [cmpB, e4])) (F _ (by simp [cmpB, e4]))
  | le => exact lv_icmp_le K.1 K.2.1 hd ht (T _ (by simp [cmpB, e5])) (F _ (by simp [cmpB, e5]))
theorem go_if (K : CX NW p R s mid args c own cc ad G D A nL) {cd : Jvm.ClassFile.Cond} {a off : Int} {tgt : Nat} (ha : in32 a) (hd : decode cc bp = .ok (.ifCond cd off, 3)) (ht : (bp : Int) + off = (tgt : Int)) (kt : cmpB cd a 0 = true → Go p l e R s mid args below meth c Q ad G D A nL cells slots tgt L r m) (kf : ¬ cmpB cd a 0 = true → Go p l e R s mid args below meth c Q ad G D A nL cells slots (bp + 3) L r m) : Go p l e R s mid args below meth c Q ad G D A nL cells slots bp L ((0, a) :: r) m := by
  intro H locs ls hP hD hS hL
  show W p l e R s mid args below meth c H locs cells slots Q (F0 mid bp ls (.int (Int32.ofInt a) :: r.map (cv ad)))
  have hb : in32 0 := in32_lit0
  have e1 : Int32.ofInt a = 0 ↔ a = 0 := o32_eq ha hb
  have e2 : Int32.ofInt a < 0 ↔ a < 0 := o32_lt ha hb
  have e3 : 0 ≤ Int32.ofInt a ↔ 0 ≤ a := o32_le hb ha
  have e4 : 0 < Int32.ofInt a ↔ 0 < a := o32_lt hb ha
  have e5 : Int32.ofInt a ≤ 0 ↔ a ≤ 0 := o32_le ha hb
  have T : ∀ P : Prop, (P ↔ cmpB cd a 0 = true) → P → W p l e R s mid args below meth c H locs cells slots Q (F0 mid tgt ls (r.map (cv ad))) := fun P h q => kt (h.mp q) H locs ls hP hD hS hL
  have F : ∀ P : Prop, (P ↔ cmpB cd a 0 = true) → ¬ P → W p l e R s mid args below meth c H locs cells slots Q (F0 mid (bp + 3) ls (r.map (cv ad))) := fun P h q => kf (fun z => q (h.mpr z)) H locs ls hP hD hS hL
  cases cd with
  | eq => exact lv_if_eq K.1 K.2.1 hd ht (T _ (by simp [cmpB, e1])) (F _ (by simp [cmpB, e1]))
  | ne => exact lv_if_ne K.1 K.2.1 hd ht (T _ (by simp [cmpB, e1])) (fun q => kf (by simp [cmpB, e1.mp q]) H locs ls hP hD hS hL)
  | lt => exact lv_if_lt K.1 K.2.1 hd ht (T _ (by simp [cmpB, e2])) (F _ (by simp [cmpB, e2]))
  | ge => exact lv_if_ge K.1 K.2.1 hd ht (T _ (by simp [cmpB, e3])) (F _ (by simp [cmpB, e3]))
  | gt => exact lv_if_gt K.1 K.2.1 hd ht (T _ (by simp [cmpB, e4])) (F _ (by simp [cmpB, e4]))
  | le => exact lv_if_le K.1 K.2.1 hd ht (T _ (by simp [cmpB, e5])) (F _ (by simp [cmpB, e5]))
end STEPS
