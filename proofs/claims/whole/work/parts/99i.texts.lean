/-! what the start gives of the texts and of TRIED -/
abbrev GN : Cond := Jvm.Cond.and given_1 narrow_1
def tmS (i : Nat) : Term := .string RX6 (if i = 0 then 166 else 182)
def NR1 (i : Nat) : List Cond := (List.range (LENS.getD i 0)).map (fun j => Cond.eq (.elem (.field (tmS i) "java/lang/String" "value" "[B") (.int (Int32.ofNat j))) (.int ((BYTS.getD i []).getD j 0)))
def tmT : Term := .static RX8 "TRIED" "[I"
def yT (j : Nat) : Int32 := if j = 0 then 1 else if j = 1 then 0 else if j = 2 then 3 else 2
def NR2 : List Cond := (List.range 4).map (fun j => Cond.eq (.elem tmT (.int (Int32.ofNat j))) (.int (yT j)))
theorem NR1_0 : NR1 0 = ((flatC GN).drop 38).take 125 := by decide +kernel
theorem NR1_1 : NR1 1 = ((flatC GN).drop 167).take 11 := by decide +kernel
theorem NR2_ : NR2 = ((flatC GN).drop 12).take 4 := by decide +kernel
theorem NR1_in : ∀ i, i < 2 → ∀ w ∈ NR1 i, w ∈ flatC GN := by
  intro i hi w hw
  match i, hi with
  | 0, _ => rw [NR1_0] at hw; exact List.mem_of_mem_drop (List.mem_of_mem_take hw)
  | 1, _ => rw [NR1_1] at hw; exact List.mem_of_mem_drop (List.mem_of_mem_take hw)
theorem NR2_in : ∀ w ∈ NR2, w ∈ flatC GN := by
  intro w hw
  rw [NR2_] at hw
  exact List.mem_of_mem_drop (List.mem_of_mem_take hw)
def NR3 (i : Nat) : List Cond := [.exactly (tmS i) "java/lang/String", .eq (.field (tmS i) "java/lang/String" "coder" "B") (.int 0), .arrayOf (.field (tmS i) "java/lang/String" "value" "[B") .byte, .eq (.length (.field (tmS i) "java/lang/String" "value" "[B")) (.int (Int32.ofNat (LENS.getD i 0)))]
theorem NR3_0 : ∀ w ∈ NR3 0, w ∈ flatC GN := by decide +kernel
theorem NR3_1 : ∀ w ∈ NR3 1, w ∈ flatC GN := by decide +kernel
theorem NR3_in : ∀ i, i < 2 → ∀ w ∈ NR3 i, w ∈ flatC GN := by
  intro i hi
  match i, hi with
  | 0, _ => exact NR3_0
  | 1, _ => exact NR3_1
def NR4 : List Cond := [.arrayOf tmT .int, .eq (.length tmT) (.int (Int32.ofNat 4)), .not (.eq (tmS 0) (tmS 1)), .eq (.static "java/lang/String" "COMPACT_STRINGS" "Z") (.int 1), .isRef (.static "jdk/internal/util/Preconditions" "SIOOBE_FORMATTER" "Ljava/util/function/BiFunction;")]
theorem NR4_in : ∀ w ∈ NR4, w ∈ flatC GN := by decide +kernel
def LYW : List Cond := [.laysStatic RX8 "TRIED" "[I", .initialized RX8, .laysStatic "java/lang/String" "COMPACT_STRINGS" "Z", .initialized "java/lang/String", .laysStatic "jdk/internal/util/Preconditions" "SIOOBE_FORMATTER" "Ljava/util/function/BiFunction;", .initialized "jdk/internal/util/Preconditions", .stringRef RX6 166 TXW, .stringRef RX6 182 TXS]
theorem LYW_in : ∀ w ∈ LYW, w ∈ lw_tbl := mem_places [916, 112, 512, 122, 528, 124, 502, 565] (by decide +kernel)
theorem NWL_tab : ∀ w ∈ NWL, w.onTables = true := by
  intro w hw
  rcases List.mem_cons.mp hw with rfl | hw
  · rfl
  · obtain ⟨q, hq, rfl⟩ := List.mem_map.mp hw
    unfold FLW fword
    split <;> rfl
theorem Sc_start {s : State} {args : Array Value} {b L : Nat} {xs : Nat → Int32} (hL : L ≤ 3072) (hts : ∀ w ∈ lw_tbl, w.before args s = true) (hX : va_X b L xs s s.heap) (hb : b < s.heap.size) (hg : GN.before args s = true) : ∃ (a1 a2 a3 : Nat), ∀ ad : Int → Nat, ad 500 = b → ad 501 = a1 → ad 502 = a2 → ad 503 = a3 → Sc NWL ad (fun q => s.heap.size ≤ q) s s.heap (mZ (fun j => if j = -1 then (L : Int) else (xs j.toNat).toInt) (fun j => (yT j.toNat).toInt)) := by
  have hf := flat_of_before _ hg
  have hA : ∀ a : Nat, a < s.heap.size → ¬ (fun q => s.heap.size ≤ q) a := fun a h1 h2 => absurd h1 (Nat.not_lt.mpr h2)
  obtain ⟨t, ht, hT⟩ := va_Tof (f := fun j => .int (yT j)) (tm := tmT) (ty := .int) (N := 4) (by decide) (hf _ (NR4_in _ (by simp [NR4]))) (va_eqt (hf _ (NR4_in _ (by simp [NR4])))) (fun j hj => va_eqt (hf _ (NR2_in _ (List.mem_map.mpr ⟨j, List.mem_range.mpr hj, rfl⟩)))) hA
  obtain ⟨adK, adV, hS, hk⟩ := vk_Sof (tm := tmS) (N := 2) (len := LENS) (byt := BYTS) (args := args) (s := s) (A := fun q => s.heap.size ≤ q) (fun i hi => by match i, hi with | 0, _ => decide | 1, _ => decide) (fun i hi => hf _ (NR3_in i hi _ (by simp [NR3]))) (fun i hi => hf _ (NR3_in i hi _ (by simp [NR3]))) (fun i hi => hf _ (NR3_in i hi _ (by simp [NR3]))) (fun i hi => hf _ (NR3_in i hi _ (by simp [NR3]))) (fun i hi j hj => hf _ (NR1_in i hi _ (List.mem_map.mpr ⟨j, List.mem_range.mpr hj, rfl⟩))) (fun i j hi hj hij => by
    match i, j, hi, hj with
    | 0, 0, _, _ => exact absurd rfl hij
    | 1, 1, _, _ => exact absurd rfl hij
    | 0, 1, _, _ => exact Or.inl (hf _ (NR4_in _ (by simp [NR4])))
    | 1, 0, _, _ => exact Or.inr (hf _ (NR4_in _ (by simp [NR4])))) hA
  refine ⟨t, adK 0, adK 1, fun ad e0 e1 e2 e3 => ?_⟩
  have hz : va_Z RX8 "TRIED" "[I" (.ref t) (fun q => s.heap.size ≤ q) s s.heap := va_Zref (hts _ (LYW_in _ (by simp [LYW]))) (hts _ (LYW_in _ (by simp [LYW]))) ht hA
  have hK2 : ∀ i : Nat, i < 2 → ad (502 + (i : Int)) = adK i := fun i hi => by
    match i, hi with
    | 0, _ => exact e2
    | 1, _ => exact e3
  obtain ⟨cell, t1, t2, t3, t4, t5, t6, t7⟩ := hT
  have ts : t < s.heap.size := (Array.getElem?_eq_some_iff.mp t1).1
  refine ⟨⟨L, xs, by rw [e0]; exact hX, by rw [e0]; exact hb, by rw [e0]; exact hA _ hb, ?_, by omega, fun j hj => ?_⟩, ⟨yT, ?_, by rw [e1]; exact ts, by rw [e1]; exact hA _ ts, fun j hj => ?_⟩, by rw [e1]; exact hz, ⟨adV, fun i hi => ?_, fun i j hi hj he => ?_⟩, ?_, ?_, ?_, ?_, fun w hw => va_Nw.of (NWL_tab w hw) (hts _ (NWL_in w hw))⟩
  · unfold mZ
    rw [if_pos rfl]
    show (if (-1 : Int) = -1 then (L : Int) else _) = _
    rw [if_pos rfl]
  · unfold mZ
    rw [if_pos rfl]
    show (if (j : Int) = -1 then (L : Int) else (xs (j : Int).toNat).toInt) = _
    rw [if_neg (by omega), Int.toNat_natCast]
  · rw [e1]
    refine ⟨cell, t1, t2, t3, ?_, t6⟩
    have hv := va_eqt (hf (Cond.eq (.length tmT) (.int (Int32.ofNat 4))) (NR4_in _ (by simp [NR4])))
    obtain ⟨a', cell', h1, h2, h3⟩ := Term.length_spec hv
    cases ht.symm.trans h1
    obtain ⟨h4, -, -, -⟩ := State.arrayAt?_spec h2
    cases t1.symm.trans h4
    have hsz : cell.slots.size < 2 ^ 31 := by
      simp only [Term.eval, ht, h2, Option.bind_eq_bind, Option.bind_some] at hv
      by_cases hlt : cell.slots.size < 2147483648
      · exact hlt
      · simp [hlt] at hv
    have hq := congrArg Int32.toNatClampNeg (show Int32.ofNat cell.slots.size = Int32.ofNat 4 from t5)
    rw [Int32.toNatClampNeg_ofNat_of_lt hsz, Int32.toNatClampNeg_ofNat_of_lt (by decide)] at hq
    exact hq
  · unfold mZ
    rw [if_neg (by omega), if_pos rfl]
    show (yT (j : Int).toNat).toInt = _
    rw [Int.toNat_natCast]
  · have hj := hS.1 i hi
    rw [← hK2 i hi] at hj
    exact hj
  · have he2 : ad (502 + (i : Int)) = ad (502 + (j : Int)) := he
    rw [hK2 i hi, hK2 j hj] at he2
    exact hS.2 i j hi hj he2
  · rw [e2]
    exact vk_R.of (hts _ (LYW_in _ (by simp [LYW]))) (hk 0 (by omega))
  · rw [e3]
    exact vk_R.of (hts _ (LYW_in _ (by simp [LYW]))) (hk 1 (by omega))
  · exact va_Zof (hts _ (LYW_in _ (by simp [LYW]))) (hts _ (LYW_in _ (by simp [LYW]))) (va_eqi (hf _ (NR4_in _ (by simp [NR4])))) hA
  · exact va_Zqof (hts _ (LYW_in _ (by simp [LYW]))) (hts _ (LYW_in _ (by simp [LYW]))) (hf _ (NR4_in _ (by simp [NR4]))) hA
