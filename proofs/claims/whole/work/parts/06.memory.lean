/-! FIELDS, ARRAYS, SWITCHES -/
def fword (own : String) (idx : Nat) (nest : Bool) (c k : Nat) : Cond := if nest = true then .fieldLinkNest own idx (CR c) (CT c k).2.1 (CT c k).2.2.1 "ThumbHedges" else .fieldLink own idx (CR c) (CT c k).2.1 (CT c k).2.2.1
theorem lt9 {P : Nat → Prop} (h0 : P 0) (h1 : P 1) (h2 : P 2) (h3 : P 3) (h4 : P 4) (h5 : P 5) (h6 : P 6) (h7 : P 7) (h8 : P 8) : ∀ c, c < 9 → P c := by
  intro c hc
  match c, hc with
  | 0, _ => exact h0
  | 1, _ => exact h1
  | 2, _ => exact h2
  | 3, _ => exact h3
  | 4, _ => exact h4
  | 5, _ => exact h5
  | 6, _ => exact h6
  | 7, _ => exact h7
  | 8, _ => exact h8
  | c + 9, h => omega
theorem cl_at : ∀ c, c < 9 → vwCl[c]? = some (CR c, CT c, CN c) := lt9 rfl rfl rfl rfl rfl rfl rfl rfl rfl
theorem cl_in : ∀ c, c < 9 → ∀ w ∈ u_ws (CR c) (CT c) (CN c), w ∈ lw_tbl := lt9 inX0 inX1 inX2 inX3 inX4 inX6 inX7 inX8 inX9
theorem lay_good (C : String) (T : u_T) (k : Nat) : goodWord (u_lay C T k) = true := by
  unfold u_lay
  split <;> rfl
theorem cl_wt (c : Nat) (hc : c < 9) : ∀ w ∈ u_ws (CR c) (CT c) (CN c), w ∈ WT := fun w hw => WT_in (cl_in c hc w hw) (by
  obtain ⟨k, -, rfl⟩ := List.mem_map.mp hw
  exact lay_good _ _ _)
theorem cl_ty : ∀ c, c < 9 → ∀ k, k < CN c → parseFieldDescriptor (CT c k).2.2.1 = some (CTy c k) := lt9 tyX0_ok tyX1_ok tyX2_ok tyX3_ok tyX4_ok tyX6_ok tyX7_ok tyX8_ok tyX9_ok
theorem cl_nm : ∀ c, c < 9 → ∀ a, a < CN c → ∀ b, b < CN c → a ≠ b → (CT c a).2.1 ≠ (CT c b).2.1 := lt9 nmX0 nmX1 nmX2 nmX3 nmX4 nmX6 nmX7 nmX8 nmX9
theorem cl_own : ∀ c, c < 9 → ∀ k, k < CN c → (CT c k).1 = CR c := by decide +kernel
theorem cl_fin : ∀ c, c < 9 → ∀ k, k < CN c → FT c k < 10 → (CT c k).2.2.2 = false := by decide +kernel
theorem cl_t0 : ∀ c, c < 9 → ∀ k, k < CN c → FT c k = 0 → CTy c k = .int := by decide +kernel
theorem cl_t1 : ∀ c, c < 9 → ∀ k, k < CN c → FT c k = 1 → CTy c k = .long := by decide +kernel
theorem cl_t2 : ∀ c, c < 9 → ∀ k, k < CN c → FT c k = 2 → CTy c k = .boolean := by decide +kernel
theorem cl_ft : ∀ c, c < 9 → ∀ k, k < CN c → FT c k = 0 ∨ FT c k = 1 ∨ FT c k = 2 ∨ 10 ≤ FT c k := by decide +kernel
theorem arr_kind {t : Nat} {k : Nat} (h : aty t = k) (hk : k < 9) : ¬ t < 100 := by
  intro z
  unfold aty at h
  rw [if_pos z] at h
  omega
theorem aln_nat (t : Nat) : aln t = (((t - 100) / 8 : Nat) : Int) := rfl
section MEM
variable {NW : List Cond} {p : Program} {l : Launch} {e : Env} {R : Room} {s : State} {mid : MethodId} {args : Array Value} {below : List Frame} {meth : Method} {c : Code} {Q : State → Prop} {ad : Int → Nat} {G : Nat → ClassId} {D : va_G} {A : Nat → Prop} {nL cells slots : Nat} {own : String} {cc : ByteArray} {bp : Nat} {L r : List Vv} {m : Mm}
theorem go_getf (K : CX NW p R s mid args c own cc ad G D A nL) {ci k idx : Nat} {o : Int} {v : Vv} (nest : Bool) (hw : if nest = true then fword own idx nest ci k ∈ NW else fword own idx nest ci k ∈ WT) (hc : ci < 9) (hk : k < CN ci) (ho : (o, ci + 10) ∈ UNI) (hv : cv ad v = fv ad m o ci k) (hd : decode cc bp = .ok (.getfield idx, 3)) (kk : Go p l e R s mid args below meth c Q ad G D A nL cells slots (bp + 3) L (v :: r) m) : Go p l e R s mid args below meth c Q ad G D A nL cells slots bp L ((ci + 10, o) :: r) m := by
  intro H locs ls hP hD hS hL
  have h := kk H locs ls hP hD hS hL
  rw [List.map_cons, hv] at h
  rw [List.map_cons, cv_o ad o ho]
  obtain ⟨j, hj, hw9⟩ := WS_at (ad := ad) (G := G) (m := m) ho
  have hcell : cellOf ad G m (o, ci + 10) = .inr (ci, (List.range (CN ci)).map (fv ad m o ci)) := by
    rw [cell_ob (show ci + 10 < 100 by omega)]
    simp only [Nat.add_sub_cancel]
  simp only at hw9
  rw [hcell] at hw9
  have hf : ((List.range (CN ci)).map (fv ad m o ci))[k]? = some (fv ad m o ci k) := by rw [List.getElem?_map, List.getElem?_range hk]; rfl
  cases nest with
  | false =>
    simp only [fword, Bool.false_eq_true, if_false] at hw
    exact va_get K.1 K.2.1 K.2.2.2.2.1 (cl_wt ci hc) K.2.2.2.1 K.2.2.2.2.2.1 hP j hw9 (cl_at ci hc) k hk (K.2.2.2.2.1 _ hw) (fun x hx => by rw [cl_own ci hc k hk] at hx; exact hx) hf hd h
  | true =>
    simp only [fword, if_true] at hw
    exact va_getN K.1 K.2.1 K.2.2.2.2.1 (cl_wt ci hc) K.2.2.2.1 K.2.2.2.2.2.1 hP j hw9 (cl_at ci hc) k hk (va_Nw.use rfl (K.2.2.2.2.2.2.2.2.2 _ hw)) (fun x hx => by rw [cl_own ci hc k hk] at hx; exact hx) hf hd h
theorem go_putf (K : CX NW p R s mid args c own cc ad G D A nL) {ci k idx : Nat} {o x : Int} {tv : Nat} (nest : Bool) (hw : if nest = true then fword own idx nest ci k ∈ NW else fword own idx nest ci k ∈ WT) (hc : ci < 9) (hk : k < CN ci) (ho : (o, ci + 10) ∈ UNI) (hft : FT ci k < 10) (hv : cv ad (tv, x) = fv ad (up m o k x) o ci k) (hn : narrow (CTy ci k) (cv ad (tv, x)) = cv ad (tv, x)) (hfit : fits (CTy ci k) (cv ad (tv, x)) = true) (hd : decode cc bp = .ok (.putfield idx, 3)) (kk : Go p l e R s mid args below meth c Q ad G D A nL cells slots (bp + 3) L r (up m o k x)) : Go p l e R s mid args below meth c Q ad G D A nL cells slots bp L ((tv, x) :: (ci + 10, o) :: r) m := by
  intro H locs ls hP hD hS hL
  rw [List.map_cons, List.map_cons, cv_o ad o ho]
  obtain ⟨j, hj, hw9⟩ := WS_at (ad := ad) (G := G) (m := m) ho
  have hcell : cellOf ad G m (o, ci + 10) = .inr (ci, (List.range (CN ci)).map (fv ad m o ci)) := by
    rw [cell_ob (show ci + 10 < 100 by omega)]
    simp only [Nat.add_sub_cancel]
  simp only at hw9
  rw [hcell] at hw9
  have hset : (WS ad G m).set j (ad o, .inr (ci, ((List.range (CN ci)).map (fv ad m o ci)).set k (cv ad (tv, x)))) = WS ad G (up m o k x) := by
    have e1 := WS_set (ad := ad) (G := G) (m := m) (m' := up m o k x) hj (fun a b hab => up_ne hab)
    simp only at e1
    rw [cell_fld (t := ci + 10) (show ci + 10 < 100 by omega) (by simpa using hk) (w := cv ad (tv, x)) (by simp only [Nat.add_sub_cancel]; exact hv.symm)] at e1
    simp only [Nat.add_sub_cancel] at e1
    exact e1
  have hl : k < ((List.range (CN ci)).map (fv ad m o ci)).length := by simpa using hk
  cases nest with
  | false =>
    simp only [fword, Bool.false_eq_true, if_false] at hw
    exact va_put K.1 K.2.1 K.2.2.2.2.1 (cl_wt ci hc) (CTy ci) (cl_ty ci hc) (cl_nm ci hc) K.2.2.2.1 K.2.2.2.2.2.1 hP hD hS j hw9 (cl_at ci hc) k hk (K.2.2.2.2.1 _ hw) (fun x hx => by rw [cl_own ci hc k hk] at hx; exact hx) (cl_fin ci hc k hk hft) (cl_ty ci hc k hk) hn hfit hl hd (fun H1 locs1 h1 h2 h3 => by
      rw [hset] at h1 h2
      exact kk H1 locs1 ls h1 h2 h3 hL)
  | true =>
    simp only [fword, if_true] at hw
    exact va_putN K.1 K.2.1 K.2.2.2.2.1 (cl_wt ci hc) (CTy ci) (cl_ty ci hc) (cl_nm ci hc) K.2.2.2.1 K.2.2.2.2.2.1 hP hD hS j hw9 (cl_at ci hc) k hk (va_Nw.use rfl (K.2.2.2.2.2.2.2.2.2 _ hw)) (fun x hx => by rw [cl_own ci hc k hk] at hx; exact hx) (cl_fin ci hc k hk hft) (cl_ty ci hc k hk) hn hfit hl hd (fun H1 locs1 h1 h2 h3 => by
      rw [hset] at h1 h2
      exact kk H1 locs1 ls h1 h2 h3 hL)
theorem go_iald (K : CX NW p R s mid args c own cc ad G D A nL) {t : Nat} {o i : Int} (ho : (o, t) ∈ UNI) (ha : aty t = 0) (hi : in32 i) (h0 : 0 ≤ i) (h1 : i < aln t) (hd : decode cc bp = .ok (.iaload, 1)) (kk : Go p l e R s mid args below meth c Q ad G D A nL cells slots (bp + 1) L ((0, m o i) :: r) m) : Go p l e R s mid args below meth c Q ad G D A nL cells slots bp L ((0, i) :: (t, o) :: r) m := by
  intro H locs ls hP hD hS hL
  have h := kk H locs ls hP hD hS hL
  rw [List.map_cons, List.map_cons, cv_o ad o ho, cv_i]
  obtain ⟨j, hj, hw9⟩ := WS_at (ad := ad) (G := G) (m := m) ho
  simp only at hw9
  rw [cell_ia (arr_kind ha (by omega)) (Or.inl ha), ha] at hw9
  rw [List.map_cons, cv_i] at h
  refine va_iald K.1 K.2.1 K.2.2.2.2.2.1 hP j 0 hw9 rfl (vp_in_o hi h0 h1) hd ?_
  rw [clamp_o hi]
  simp only [Int.toNat_of_nonneg h0]
  exact h
theorem go_zald (K : CX NW p R s mid args c own cc ad G D A nL) {t : Nat} {o i : Int} (ho : (o, t) ∈ UNI) (ha : aty t = 2) (hi : in32 i) (h0 : 0 ≤ i) (h1 : i < aln t) (hd : decode cc bp = .ok (.baload, 1)) (kk : Go p l e R s mid args below meth c Q ad G D A nL cells slots (bp + 1) L ((0, m o i) :: r) m) : Go p l e R s mid args below meth c Q ad G D A nL cells slots bp L ((0, i) :: (t, o) :: r) m := by
  intro H locs ls hP hD hS hL
  have h := kk H locs ls hP hD hS hL
  rw [List.map_cons, List.map_cons, cv_o ad o ho, cv_i]
  obtain ⟨j, hj, hw9⟩ := WS_at (ad := ad) (G := G) (m := m) ho
  simp only at hw9
  rw [cell_ia (arr_kind ha (by omega)) (Or.inr ha), ha] at hw9
  rw [List.map_cons, cv_i] at h
  refine va_zald K.1 K.2.1 K.2.2.2.2.2.1 hP j 2 hw9 rfl (vp_in_o hi h0 h1) hd ?_
  rw [clamp_o hi]
  simp only [Int.toNat_of_nonneg h0]
  exact h
theorem go_lald (K : CX NW p R s mid args c own cc ad G D A nL) {t : Nat} {o i : Int} (ho : (o, t) ∈ UNI) (ha : aty t = 1) (hi : in32 i) (h0 : 0 ≤ i) (h1 : i < aln t) (hd : decode cc bp = .ok (.laload, 1)) (kk : Go p l e R s mid args below meth c Q ad G D A nL cells slots (bp + 1) L ((1, m o i) :: r) m) : Go p l e R s mid args below meth c Q ad G D A nL cells slots bp L ((0, i) :: (t, o) :: r) m := by
  intro H locs ls hP hD hS hL
  have h := kk H locs ls hP hD hS hL
  rw [List.map_cons, List.map_cons, cv_o ad o ho, cv_i]
  obtain ⟨j, hj, hw9⟩ := WS_at (ad := ad) (G := G) (m := m) ho
  simp only at hw9
  rw [cell_la (arr_kind ha (by omega)) ha] at hw9
  rw [List.map_cons, cv_l] at h
  refine va_lald K.1 K.2.1 K.2.2.2.2.2.1 hP j 1 hw9 rfl (vp_in_o hi h0 h1) hd ?_
  rw [clamp_o hi]
  simp only [Int.toNat_of_nonneg h0]
  exact h
theorem go_aald (K : CX NW p R s mid args c own cc ad G D A nL) {t tr : Nat} {o i : Int} (ho : (o, t) ∈ UNI) (ha : (aty t = 3 ∧ tr = 13) ∨ (aty t = 4 ∧ tr = 16)) (hi : in32 i) (h0 : 0 ≤ i) (h1 : i < aln t) (hd : decode cc bp = .ok (.aaload, 1)) (kk : Go p l e R s mid args below meth c Q ad G D A nL cells slots (bp + 1) L ((tr, PA (aty t) o i) :: r) m) : Go p l e R s mid args below meth c Q ad G D A nL cells slots bp L ((0, i) :: (t, o) :: r) m := by
  intro H locs ls hP hD hS hL
  have h := kk H locs ls hP hD hS hL
  rw [List.map_cons, List.map_cons, cv_o ad o ho, cv_i]
  obtain ⟨j, hj, hw9⟩ := WS_at (ad := ad) (G := G) (m := m) ho
  simp only at hw9
  have hlt : i.toNat < (t - 100) / 8 := by
    rw [aln_nat] at h1
    omega
  have hm : (PA (aty t) o i, tr) ∈ UNI := by
    have e0 : ((i.toNat : Nat) : Int) = i := Int.toNat_of_nonneg h0
    rcases ha with ⟨ha, rfl⟩ | ⟨ha, rfl⟩
    · have := UNI_arr3 _ ho ha i.toNat hlt
      simp only at this
      rw [e0] at this
      rw [ha]
      exact this
    · have := UNI_arr4 _ ho ha i.toNat hlt
      simp only at this
      rw [e0] at this
      rw [ha]
      exact this
  rw [List.map_cons, cv_o ad _ hm] at h
  rcases ha with ⟨ha, rfl⟩ | ⟨ha, rfl⟩
  · rw [cell_ra (arr_kind ha (by omega)) (Or.inl ha), ha] at hw9
    refine va_aldq K.1 K.2.1 K.2.2.2.2.2.1 hP j 3 hw9 rfl (vp_in_o hi h0 h1) hd ?_
    rw [clamp_o hi]
    simp only [Int.toNat_of_nonneg h0]
    rw [ha] at h
    exact h
  · rw [cell_ra (arr_kind ha (by omega)) (Or.inr ha), ha] at hw9
    refine va_aldq K.1 K.2.1 K.2.2.2.2.2.1 hP j 4 hw9 rfl (vp_in_o hi h0 h1) hd ?_
    rw [clamp_o hi]
    simp only [Int.toNat_of_nonneg h0]
    rw [ha] at h
    exact h
theorem go_iast (K : CX NW p R s mid args c own cc ad G D A nL) {t : Nat} {o i x : Int} (ho : (o, t) ∈ UNI) (ha : aty t = 0) (hi : in32 i) (h0 : 0 ≤ i) (h1 : i < aln t) (hd : decode cc bp = .ok (.iastore, 1)) (kk : Go p l e R s mid args below meth c Q ad G D A nL cells slots (bp + 1) L r (up m o i x)) : Go p l e R s mid args below meth c Q ad G D A nL cells slots bp L ((0, x) :: (0, i) :: (t, o) :: r) m := by
  intro H locs ls hP hD hS hL
  rw [List.map_cons, List.map_cons, List.map_cons, cv_o ad o ho, cv_i, cv_i]
  obtain ⟨j, hj, hw9⟩ := WS_at (ad := ad) (G := G) (m := m) ho
  have e1 := WS_set (ad := ad) (G := G) (m := m) (m' := up m o i x) hj (fun a b hab => up_ne hab)
  simp only at e1 hw9
  rw [cell_int (arr_kind ha (by omega)) (Or.inl ha) h0, ha] at e1
  rw [cell_ia (arr_kind ha (by omega)) (Or.inl ha), ha] at hw9
  refine va_iast K.1 K.2.1 K.2.2.2.2.2.1 hP hD hS j 0 hw9 rfl (vp_in_o hi h0 h1) hd (fun H1 locs1 h1 h2 h3 => ?_)
  rw [clamp_o hi, e1] at h1 h2
  exact kk H1 locs1 ls h1 h2 h3 hL
theorem go_last (K : CX NW p R s mid args c own cc ad G D A nL) {t : Nat} {o i x : Int} (ho : (o, t) ∈ UNI) (ha : aty t = 1) (hi : in32 i) (h0 : 0 ≤ i) (h1 : i < aln t) (hd : decode cc bp = .ok (.lastore, 1)) (kk : Go p l e R s mid args below meth c Q ad G D A nL cells slots (bp + 1) L r (up m o i x)) : Go p l e R s mid args below meth c Q ad G D A nL cells slots bp L ((1, x) :: (0, i) :: (t, o) :: r) m := by
  intro H locs ls hP hD hS hL
  rw [List.map_cons, List.map_cons, List.map_cons, cv_o ad o ho, cv_i, cv_l]
  obtain ⟨j, hj, hw9⟩ := WS_at (ad := ad) (G := G) (m := m) ho
  have e1 := WS_set (ad := ad) (G := G) (m := m) (m' := up m o i x) hj (fun a b hab => up_ne hab)
  simp only at e1 hw9
  rw [cell_long (arr_kind ha (by omega)) ha h0] at e1
  rw [cell_la (arr_kind ha (by omega)) ha] at hw9
  refine va_last K.1 K.2.1 K.2.2.2.2.2.1 hP hD hS j 1 hw9 rfl (vp_in_o hi h0 h1) hd (fun H1 locs1 h1 h2 h3 => ?_)
  rw [clamp_o hi, e1] at h1 h2
  exact kk H1 locs1 ls h1 h2 h3 hL
theorem nar_bool {x : Int} (h : x = 0 ∨ x = 1) : vp_nar .boolean (Int32.ofInt x) = Int32.ofInt x := by
  rcases h with rfl | rfl <;> rfl
theorem go_zast (K : CX NW p R s mid args c own cc ad G D A nL) {t : Nat} {o i x : Int} (ho : (o, t) ∈ UNI) (ha : aty t = 2) (hx : x = 0 ∨ x = 1) (hi : in32 i) (h0 : 0 ≤ i) (h1 : i < aln t) (hd : decode cc bp = .ok (.bastore, 1)) (kk : Go p l e R s mid args below meth c Q ad G D A nL cells slots (bp + 1) L r (up m o i x)) : Go p l e R s mid args below meth c Q ad G D A nL cells slots bp L ((0, x) :: (0, i) :: (t, o) :: r) m := by
  intro H locs ls hP hD hS hL
  rw [List.map_cons, List.map_cons, List.map_cons, cv_o ad o ho, cv_i, cv_i]
  obtain ⟨j, hj, hw9⟩ := WS_at (ad := ad) (G := G) (m := m) ho
  have e1 := WS_set (ad := ad) (G := G) (m := m) (m' := up m o i x) hj (fun a b hab => up_ne hab)
  simp only at e1 hw9
  rw [cell_int (arr_kind ha (by omega)) (Or.inr ha) h0, ha] at e1
  rw [cell_ia (arr_kind ha (by omega)) (Or.inr ha), ha] at hw9
  refine va_zast K.1 K.2.1 K.2.2.2.2.2.1 hP hD hS j 2 hw9 rfl (vp_in_o hi h0 h1) hd (fun H1 locs1 h1 h2 h3 => ?_)
  rw [clamp_o hi, nar_bool hx, e1] at h1 h2
  exact kk H1 locs1 ls h1 h2 h3 hL
theorem go_alen (K : CX NW p R s mid args c own cc ad G D A nL) {t : Nat} {o : Int} (ho : (o, t) ∈ UNI) (ha : ¬ aty t = 9) (hd : decode cc bp = .ok (.arraylength, 1)) (kk : Go p l e R s mid args below meth c Q ad G D A nL cells slots (bp + 1) L ((0, aln t) :: r) m) : Go p l e R s mid args below meth c Q ad G D A nL cells slots bp L ((t, o) :: r) m := by
  intro H locs ls hP hD hS hL
  have h := kk H locs ls hP hD hS hL
  rw [List.map_cons, cv_o ad o ho]
  obtain ⟨j, hj, hw9⟩ := WS_at (ad := ad) (G := G) (m := m) ho
  simp only at hw9
  rw [List.map_cons, cv_i, aln_nat] at h
  have ht : ¬ t < 100 := by
    intro z
    exact ha (by unfold aty; rw [if_pos z])
  have hk := UNI_kind _ ho
  simp only at hk
  have h5 : aty t < 5 := by
    unfold aty
    rw [if_neg ht]
    omega
  have hcase : aty t = 0 ∨ aty t = 1 ∨ aty t = 2 ∨ aty t = 3 ∨ aty t = 4 := by omega
  have hl : Int32.ofNat ((t - 100) / 8) = Int32.ofInt (((t - 100) / 8 : Nat) : Int) := rfl
  rcases hcase with h0 | h0 | h0 | h0 | h0
  · rw [cell_ia ht (Or.inl h0), h0] at hw9
    exact va_alen K.1 K.2.1 K.2.2.2.2.2.1 hP j 0 hw9 rfl hl hd h
  · rw [cell_la ht h0] at hw9
    exact va_alen K.1 K.2.1 K.2.2.2.2.2.1 hP j 1 hw9 rfl hl hd h
  · rw [cell_ia ht (Or.inr h0), h0] at hw9
    exact va_alen K.1 K.2.1 K.2.2.2.2.2.1 hP j 2 hw9 rfl hl hd h
  · rw [cell_ra ht (Or.inl h0), h0] at hw9
    exact va_alen K.1 K.2.1 K.2.2.2.2.2.1 hP j 3 hw9 rfl hl hd h
  · rw [cell_ra ht (Or.inr h0), h0] at hw9
    exact va_alen K.1 K.2.1 K.2.2.2.2.2.1 hP j 4 hw9 rfl hl hd h
theorem go_sld (K : CX NW p R s mid args c own cc ad G D A nL) (S : Sc NW ad A s s.heap m) {o i : Int} (hi : in32 i) (h0 : 0 ≤ i) (h1 : i < m 500 (-1)) (hd : decode cc bp = .ok (.iaload, 1)) (kk : Go p l e R s mid args below meth c Q ad G D A nL cells slots (bp + 1) L ((0, m 500 i) :: r) m) : Go p l e R s mid args below meth c Q ad G D A nL cells slots bp L ((0, i) :: (50, o) :: r) m := by
  intro H locs ls hP hD hS hL
  have h := kk H locs ls hP hD hS hL
  obtain ⟨Ls, xs, hX, hb, hA, hl, hlt, hx⟩ := S.1
  rw [hl] at h1
  refine va_sld K.1 K.2.1 hX hb hA hS (vp_in_o hi h0 h1) hd ?_
  have e0 : ((i.toNat : Nat) : Int) = i := Int.toNat_of_nonneg h0
  have e1 := hx i.toNat (by omega)
  rw [e0] at e1
  rw [List.map_cons, cv_i, e1, Int32.ofInt_toInt] at h
  rw [clamp_o hi]
  exact h
theorem go_slen (K : CX NW p R s mid args c own cc ad G D A nL) (S : Sc NW ad A s s.heap m) {o : Int} (hd : decode cc bp = .ok (.arraylength, 1)) (kk : Go p l e R s mid args below meth c Q ad G D A nL cells slots (bp + 1) L ((0, m 500 (-1)) :: r) m) : Go p l e R s mid args below meth c Q ad G D A nL cells slots bp L ((50, o) :: r) m := by
  intro H locs ls hP hD hS hL
  have h := kk H locs ls hP hD hS hL
  obtain ⟨Ls, xs, hX, hb, hA, hl, hlt, hx⟩ := S.1
  rw [List.map_cons, cv_i, hl] at h
  exact va_slen K.1 K.2.1 hX hb hA hS hd h
theorem go_tld (K : CX NW p R s mid args c own cc ad G D A nL) (S : Sc NW ad A s s.heap m) {o i : Int} (hi : in32 i) (h0 : 0 ≤ i) (h1 : i < 4) (hd : decode cc bp = .ok (.iaload, 1)) (kk : Go p l e R s mid args below meth c Q ad G D A nL cells slots (bp + 1) L ((0, m 501 i) :: r) m) : Go p l e R s mid args below meth c Q ad G D A nL cells slots bp L ((0, i) :: (51, o) :: r) m := by
  intro H locs ls hP hD hS hL
  have h := kk H locs ls hP hD hS hL
  obtain ⟨xs, hX, hb, hA, hx⟩ := S.2.1
  refine va_sld K.1 K.2.1 hX hb hA hS (vp_in_o hi h0 (by omega)) hd ?_
  have e0 : ((i.toNat : Nat) : Int) = i := Int.toNat_of_nonneg h0
  have e1 := hx i.toNat (by omega)
  rw [e0] at e1
  rw [List.map_cons, cv_i, e1, Int32.ofInt_toInt] at h
  rw [clamp_o hi]
  exact h
theorem go_tried (K : CX NW p R s mid args c own cc ad G D A nL) (S : Sc NW ad A s s.heap m) {idx : Nat} {o : Int} (hw : Cond.fieldLinkNest own idx RX8 "TRIED" "[I" "ThumbHedges" ∈ NW) (hd : decode cc bp = .ok (.getstatic idx, 3)) (kk : Go p l e R s mid args below meth c Q ad G D A nL cells slots (bp + 3) L ((51, o) :: r) m) : Go p l e R s mid args below meth c Q ad G D A nL cells slots bp L r m := by
  intro H locs ls hP hD hS hL
  have h := kk H locs ls hP hD hS hL
  exact va_getsN K.1 K.2.1 S.2.2.1 hS K.2.2.2.1 (va_Nw.use rfl (K.2.2.2.2.2.2.2.2.2 _ hw)) (fun x hx => hx) hd h
theorem cell_cpy {ad : Int → Nat} {G : Nat → ClassId} {m : Mm} {a d sp dp n : Int} {t : Nat} (ht : aty t = 0) (h0 : 0 ≤ n) (h1 : 0 ≤ sp) (h2 : 0 ≤ dp) :
    cellOf ad G (cpy m a sp d dp n) (d, t) = .inl (G 0, (t - 100) / 8, .inl (va_cpy (fun j => Int32.ofInt (m a (j : Nat))) (fun j => Int32.ofInt (m d (j : Nat))) sp.toNat dp.toNat n.toNat)) := by
  rw [cell_ia (arr_kind ht (by omega)) (Or.inl ht), ht]
  congr 4
  funext j
  unfold va_cpy cpy
  by_cases h : dp.toNat ≤ j ∧ j < dp.toNat + n.toNat
  · have h' : d = d ∧ dp ≤ (j : Int) ∧ (j : Int) < dp + n := by omega
    rw [if_pos h, if_pos h']
    have e : sp + ((j : Int) - dp) = ((sp.toNat + (j - dp.toNat) : Nat) : Int) := by omega
    rw [e]
  · have h' : ¬ (d = d ∧ dp ≤ (j : Int) ∧ (j : Int) < dp + n) := by omega
    rw [if_neg h, if_neg h']
theorem go_acp (K : CX NW p R s mid args c own cc ad G D A nL) {idx ts td : Nat} {a d sp dp n : Int} (hw : Cond.methodLink own idx arraycopyName ∈ WT) (hw2 : Cond.native arraycopyName ∈ WT) (hw3 : Cond.static arraycopyName ∈ WT) (hw4 : Cond.initialized "java/lang/System" ∈ WT) (ho : (a, ts) ∈ UNI) (ho2 : (d, td) ∈ UNI) (ha : aty ts = 0) (ha2 : aty td = 0) (i1 : in32 n) (i2 : in32 sp) (i3 : in32 dp) (h0 : 0 ≤ n) (h1 : 0 ≤ sp) (h2 : 0 ≤ dp) (h3 : sp + n ≤ aln ts) (h4 : dp + n ≤ aln td) (hd : decode cc bp = .ok (.invokestatic idx, 3))
    (kk : Go p l e R s mid args below meth c Q ad G D A nL cells slots (bp + 3) L [] (cpy m a sp d dp n)) : Go p l e R s mid args below meth c Q ad G D A nL cells slots bp L [(0, n), (0, dp), (td, d), (0, sp), (ts, a)] m := by
  intro H locs ls hP hD hS hL
  simp only [List.map_cons, List.map_nil, cv_o ad _ ho, cv_o ad _ ho2, cv_i]
  obtain ⟨j, hj, hw9⟩ := WS_at (ad := ad) (G := G) (m := m) ho
  obtain ⟨j2, hj2, hw92⟩ := WS_at (ad := ad) (G := G) (m := m) ho2
  have e1 := WS_set (ad := ad) (G := G) (m := m) (m' := cpy m a sp d dp n) hj2 (fun x b hab => by simp only at hab; simp [cpy, hab])
  simp only at e1 hw9 hw92
  rw [cell_cpy ha2 h0 h1 h2] at e1
  rw [cell_ia (arr_kind ha (by omega)) (Or.inl ha), ha] at hw9
  rw [cell_ia (arr_kind ha2 (by omega)) (Or.inl ha2), ha2] at hw92
  have neg : ∀ {z : Int}, in32 z → 0 ≤ z → ¬ Int32.ofInt z < 0 := fun hz h q => by
    have := (o32_lt hz in32_lit0).mp q
    omega
  rw [aln_nat] at h3 h4
  refine va_copyi (ty := .int) K.1 K.2.1 (by rw [K.2.2.1, hL.2.1]) K.2.2.2.1 (K.2.2.2.2.1 _ hw) (K.2.2.2.2.1 _ hw2) (K.2.2.2.2.1 _ hw3) (K.2.2.2.2.1 _ hw4) K.2.2.2.2.2.1 hP hD hS j j2 0 0 hw9 hw92 rfl rfl rfl (neg i2 h1) (neg i3 h2) (neg i1 h0) (by rw [clamp_o i2, clamp_o i1]; omega) (by rw [clamp_o i3, clamp_o i1]; omega) (fun _ _ => rfl) K.2.2.2.2.2.2.2.1 (Nat.le_trans (by decide) K.2.2.2.2.2.2.2.2.1) hd (fun H1 locs1 h1 h2 h3 => ?_)
  rw [clamp_o i1, clamp_o i2, clamp_o i3, e1] at h1 h2
  exact kk H1 locs1 ls h1 h2 h3 hL
theorem tsw_ok (d : Int) : ∀ (ts : List Int) (lo x : Int), tsw d lo ts x = if x < lo ∨ lo + ts.length ≤ x then d else ts.getD (x - lo).toNat d := by
  intro ts
  induction ts with
  | nil => intro lo x; simp [tsw]
  | cons t r ih =>
    intro lo x
    unfold tsw
    by_cases h : x = lo
    · subst h
      rw [if_pos rfl, if_neg (by simp; omega)]
      simp
    · rw [if_neg h, ih (lo + 1) x]
      by_cases h2 : x < lo
      · rw [if_pos (Or.inl (by omega)), if_pos (Or.inl h2)]
      · by_cases h3 : lo + ((t :: r).length : Int) ≤ x
        · rw [if_pos (Or.inr (by simp at h3; omega)), if_pos (Or.inr h3)]
        · rw [if_neg (by simp at h3; omega), if_neg (by omega)]
          have : (x - lo).toNat = (x - (lo + 1)).toNat + 1 := by omega
          rw [this]
          simp
theorem go_tsw (K : CX NW p R s mid args c own cc ad G D A nL) {dflt lo hi x : Int} {offs : Array Int} {len tgt : Nat} {d : Int} {ts : List Int} (hx : in32 x) (hd : decode cc bp = .ok (.tableswitch dflt lo hi offs, len)) (hhi : hi = lo + offs.size - 1) (hlen : offs.size = ts.length) (ht : ∀ (f : Int → Int) , True) (hdf : ∀ j : Nat, j < ts.length → x = lo + j → (bp : Int) + offs.getD j 0 = (tgt : Int)) (hdd : (x < lo ∨ lo + ts.length ≤ x) → (bp : Int) + dflt = (tgt : Int)) (kk : Go p l e R s mid args below meth c Q ad G D A nL cells slots tgt L r m) : Go p l e R s mid args below meth c Q ad G D A nL cells slots bp L ((0, x) :: r) m := by
  intro H locs ls hP hD hS hL
  have h := kk H locs ls hP hD hS hL
  show W p l e R s mid args below meth c H locs cells slots Q (F0 mid bp ls (.int (Int32.ofInt x) :: r.map (cv ad)))
  have e0 := i32_of hx
  by_cases hin : x < lo ∨ lo + ts.length ≤ x
  · exact lv_tableOut K.1 K.2.1 hd (by rw [e0, hhi, hlen]; omega) (hdd hin) h
  · have hj : (x - lo).toNat < offs.size := by omega
    refine lv_tableIn (off := offs.getD (x - lo).toNat 0) K.1 K.2.1 hd (by rw [e0]; omega) (by rw [e0, hhi, hlen]; omega) (by rw [e0]; simp [Array.getD, hj]) (hdf (x - lo).toNat (by omega) (by omega)) h
end MEM
