/-! MAKING: a farm, its row of thirty lands -/
theorem wc_27 : Cond.methodLink RX0 3 Lib.objectInit ∈ WT := WT_in (mem_places (ws := [Cond.methodLink RX0 3 Lib.objectInit]) [144] (by decide +kernel) _ (List.mem_singleton.mpr rfl)) rfl
theorem wc_28 : Cond.classLink RX0 9 RX3 ∈ WT := WT_in (mem_places (ws := [Cond.classLink RX0 9 RX3]) [145] (by decide +kernel) _ (List.mem_singleton.mpr rfl)) rfl
theorem wc_29 : Cond.instantiable RX3 9 ∈ WT := WT_in (mem_places (ws := [Cond.instantiable RX3 9]) [146] (by decide +kernel) _ (List.mem_singleton.mpr rfl)) rfl
theorem wc_30 : Cond.initialized RX3 ∈ WT := WT_in (mem_places (ws := [Cond.initialized RX3]) [114] (by decide +kernel) _ (List.mem_singleton.mpr rfl)) rfl
theorem wc_31 : Cond.instanceMethod (yIn RX3) ∈ WT := WT_in (mem_places (ws := [Cond.instanceMethod (yIn RX3)]) [148] (by decide +kernel) _ (List.mem_singleton.mpr rfl)) rfl
theorem wc_32 : Cond.code (yIn RX3) prog_5_method_1_code 1 none ∈ WT := WT_in (mem_places (ws := [Cond.code (yIn RX3) prog_5_method_1_code 1 none]) [149] (by decide +kernel) _ (List.mem_singleton.mpr rfl)) rfl
theorem wc_33 : Cond.fieldLink RX0 12 "ThumbHedges$Farm" "land" "LThumbHedges$Land;" ∈ WT := WT_in (mem_places (ws := [Cond.fieldLink RX0 12 "ThumbHedges$Farm" "land" "LThumbHedges$Land;"]) [193] (by decide +kernel) _ (List.mem_singleton.mpr rfl)) rfl
theorem wc_34 : Cond.fieldLink RX0 18 "ThumbHedges$Farm" "before" "[LThumbHedges$Land;" ∈ WT := WT_in (mem_places (ws := [Cond.fieldLink RX0 18 "ThumbHedges$Farm" "before" "[LThumbHedges$Land;"]) [195] (by decide +kernel) _ (List.mem_singleton.mpr rfl)) rfl
theorem wc_35 : Cond.fieldLink RX0 22 "ThumbHedges$Farm" "rule" "I" ∈ WT := WT_in (mem_places (ws := [Cond.fieldLink RX0 22 "ThumbHedges$Farm" "rule" "I"]) [205] (by decide +kernel) _ (List.mem_singleton.mpr rfl)) rfl
theorem wc_36 : Cond.fieldLink RX0 26 "ThumbHedges$Farm" "saidHedges" "[I" ∈ WT := WT_in (mem_places (ws := [Cond.fieldLink RX0 26 "ThumbHedges$Farm" "saidHedges" "[I"]) [209] (by decide +kernel) _ (List.mem_singleton.mpr rfl)) rfl
theorem wc_37 : Cond.fieldLink RX0 30 "ThumbHedges$Farm" "saidFrosts" "[I" ∈ WT := WT_in (mem_places (ws := [Cond.fieldLink RX0 30 "ThumbHedges$Farm" "saidFrosts" "[I"]) [211] (by decide +kernel) _ (List.mem_singleton.mpr rfl)) rfl
theorem wtX0 : ∀ w ∈ u_ws RX0 TX0 11, w ∈ WT := fun w hw => WT_in (inX0 w hw) ((by decide +kernel : ∀ w ∈ u_ws RX0 TX0 11, goodWord w = true) w hw)
theorem dc_Farm_0 : decode prog_2_method_1_code 0 = .ok (.aload_n 0, 1) := by decide +kernel
theorem dc_Farm_1 : decode prog_2_method_1_code 1 = .ok (.invokespecial 3, 3) := by decide +kernel
theorem dc_Farm_4 : decode prog_2_method_1_code 4 = .ok (.aload_n 0, 1) := by decide +kernel
theorem dc_Farm_5 : decode prog_2_method_1_code 5 = .ok (.new 9, 3) := by decide +kernel
theorem dc_Farm_8 : decode prog_2_method_1_code 8 = .ok (.dup, 1) := by decide +kernel
theorem dc_Farm_9 : decode prog_2_method_1_code 9 = .ok (.invokespecial 11, 3) := by decide +kernel
theorem dc_Farm_12 : decode prog_2_method_1_code 12 = .ok (.putfield 12, 3) := by decide +kernel
theorem dc_Farm_15 : decode prog_2_method_1_code 15 = .ok (.aload_n 0, 1) := by decide +kernel
theorem dc_Farm_16 : decode prog_2_method_1_code 16 = .ok (.bipush 30, 2) := by decide +kernel
theorem dc_Farm_18 : decode prog_2_method_1_code 18 = .ok (.anewarray 9, 3) := by decide +kernel
theorem dc_Farm_21 : decode prog_2_method_1_code 21 = .ok (.putfield 18, 3) := by decide +kernel
theorem dc_Farm_24 : decode prog_2_method_1_code 24 = .ok (.aload_n 0, 1) := by decide +kernel
theorem dc_Farm_25 : decode prog_2_method_1_code 25 = .ok (.iconst (-1), 1) := by decide +kernel
theorem dc_Farm_26 : decode prog_2_method_1_code 26 = .ok (.putfield 22, 3) := by decide +kernel
theorem dc_Farm_29 : decode prog_2_method_1_code 29 = .ok (.aload_n 0, 1) := by decide +kernel
theorem dc_Farm_30 : decode prog_2_method_1_code 30 = .ok (.bipush 8, 2) := by decide +kernel
theorem dc_Farm_32 : decode prog_2_method_1_code 32 = .ok (.newarray .int, 2) := by decide +kernel
theorem dc_Farm_34 : decode prog_2_method_1_code 34 = .ok (.putfield 26, 3) := by decide +kernel
theorem dc_Farm_37 : decode prog_2_method_1_code 37 = .ok (.aload_n 0, 1) := by decide +kernel
theorem dc_Farm_38 : decode prog_2_method_1_code 38 = .ok (.bipush 8, 2) := by decide +kernel
theorem dc_Farm_40 : decode prog_2_method_1_code 40 = .ok (.newarray .int, 2) := by decide +kernel
theorem dc_Farm_42 : decode prog_2_method_1_code 42 = .ok (.putfield 30, 3) := by decide +kernel
theorem dc_Farm_45 : decode prog_2_method_1_code 45 = .ok (.iconst 0, 1) := by decide +kernel
theorem dc_Farm_46 : decode prog_2_method_1_code 46 = .ok (.istore_n 1, 1) := by decide +kernel
theorem dc_Farm_47 : decode prog_2_method_1_code 47 = .ok (.iload_n 1, 1) := by decide +kernel
theorem dc_Farm_48 : decode prog_2_method_1_code 48 = .ok (.bipush 30, 2) := by decide +kernel
theorem dc_Farm_50 : decode prog_2_method_1_code 50 = .ok (.if_icmp .ge 22, 3) := by decide +kernel
theorem dc_Farm_53 : decode prog_2_method_1_code 53 = .ok (.aload_n 0, 1) := by decide +kernel
theorem dc_Farm_54 : decode prog_2_method_1_code 54 = .ok (.getfield 18, 3) := by decide +kernel
theorem dc_Farm_57 : decode prog_2_method_1_code 57 = .ok (.iload_n 1, 1) := by decide +kernel
theorem dc_Farm_58 : decode prog_2_method_1_code 58 = .ok (.new 9, 3) := by decide +kernel
theorem dc_Farm_61 : decode prog_2_method_1_code 61 = .ok (.dup, 1) := by decide +kernel
theorem dc_Farm_62 : decode prog_2_method_1_code 62 = .ok (.invokespecial 11, 3) := by decide +kernel
theorem dc_Farm_65 : decode prog_2_method_1_code 65 = .ok (.aastore, 1) := by decide +kernel
theorem dc_Farm_66 : decode prog_2_method_1_code 66 = .ok (.iinc 1 1, 3) := by decide +kernel
theorem dc_Farm_69 : decode prog_2_method_1_code 69 = .ok (.goto (-22), 3) := by decide +kernel
theorem dc_Farm_72 : decode prog_2_method_1_code 72 = .ok (.return_, 1) := by decide +kernel
def df_Farm : List Value := [.null, .null, .int 0, .int 0, .int 0, .int 0, .int 0, .int 0, .int 0, .null, .null]
theorem fs_Farm : ∀ j, j < 11 → defaultValue (tyX0 j) = vp_V df_Farm j := by
  intro j hj
  have : j = 0 ∨ j = 1 ∨ j = 2 ∨ j = 3 ∨ j = 4 ∨ j = 5 ∨ j = 6 ∨ j = 7 ∨ j = 8 ∨ j = 9 ∨ j = 10 := by omega
  rcases this with rfl | rfl | rfl | rfl | rfl | rfl | rfl | rfl | rfl | rfl | rfl <;> rfl
abbrev Ad4 : Type := Nat → Nat × Nat × Nat × Nat
def lnds (G : Nat → ClassId) (a : Ad4) : Nat → va_W
  | 0 => []
  | k + 1 => lnds G a k ++ cC_Land G (a k).1 (a k).2.1 (a k).2.2.1 (a k).2.2.2
theorem lnds_con {G : Nat → ClassId} {a b : Ad4} : ∀ k, (∀ i, i < k → a i = b i) → lnds G a k = lnds G b k := by
  intro k
  induction k with
  | zero => intro _; rfl
  | succ k ih =>
    intro h
    unfold lnds
    rw [ih (fun i hi => h i (by omega)), h k (by omega)]
theorem lnds_len {G : Nat → ClassId} {a : Ad4} : ∀ k, (lnds G a k).length = 4 * k := by
  intro k
  induction k with
  | zero => rfl
  | succ k ih =>
    unfold lnds
    rw [List.length_append, ih]
    show 4 * k + 4 = 4 * (k + 1)
    omega
def rw4 (a : Ad4) (k : Nat) : Nat → Option Nat := fun j => if j < k then some (a j).1 else none
def bC_Farm (G : Nat → ClassId) (h h5 h5_0 h5_1 h5_2 q18 q32 q40 : Nat) (f : Nat → Option Nat) : va_W := [(h, .inr (0, [.ref h5, .ref q18, .int 0, .int 0, .int 0, .int 0, .int 0, .int (-1), .int 0, .ref q32, .ref q40])), (h5, .inr (3, [.long 0, .int 0, .ref h5_0, .ref h5_1, .int 0, .int 0, .int 331, .int 0, .ref h5_2])), (h5_0, .inl (G 0, 5, .inl (fun _ => 0))), (h5_1, .inl (G 0, 5, .inl (fun _ => 0))), (h5_2, .inl (G 0, 30, .inl (fun _ => 0))), (q18, .inl (G 3, 30, .inr (.inr (.inr (.inr f))))), (q32, .inl (G 0, 8, .inl (fun _ => 0))), (q40, .inl (G 0, 8, .inl (fun _ => 0)))]
def cC_Farm (G : Nat → ClassId) (h h5 h5_0 h5_1 h5_2 q18 q32 q40 : Nat) (a : Ad4) : va_W := bC_Farm G h h5 h5_0 h5_1 h5_2 q18 q32 q40 (rw4 a 30) ++ lnds G a 30
def eC_Farm (G : Nat → ClassId) (h : Nat) (w : va_W) : Prop := ∃ (h5 h5_0 h5_1 h5_2 q18 q32 q40 : Nat) (a : Ad4), w = cC_Farm G h h5 h5_0 h5_1 h5_2 q18 q32 q40 a
abbrev rm_Farm : Room := { frames := 3, cells := 127, slots := 1565, locals := 64 }
set_option maxHeartbeats 4000000 in
set_option maxRecDepth 100000 in
theorem lp_Farm {p : Program} {l : Launch} {e : Env} {s : State} {m : MethodId} {below : List Frame} {meth : Method} {c : Code} {D : va_G} {G : Nat → ClassId} {A : Nat → Prop} {h h5 h5_0 h5_1 h5_2 q18 q32 q40 : Nat} (hx : p.tables.exec = Jvm.exec) (hb : c.code = prog_2_method_1_code) (hml : c.maxLocals = 2) (hr : meth.sig.returnType = none) (hown : s.vm.findClass RX0 = some m.cls) (hlocks : meth.locks = false) (hts : ∀ w ∈ WT, w.before #[.ref h] s = true) (hK : KC D G s) (hA : ∀ q, s.heap.size ≤ q → A q) : ∀ (n k : Nat) (a : Ad4) (H : Heap) (locs : List Loc) (ls : Array Slot), k + n = 30 → va_P D vwCl (bC_Farm G h h5 h5_0 h5_1 h5_2 q18 q32 q40 (rw4 a k) ++ lnds G a k) H → va_D A (bC_Farm G h h5 h5_0 h5_1 h5_2 q18 q32 q40 (rw4 a k) ++ lnds G a k) → va_S A s.heap H locs → lv_has ls 2 [(1, .int (nI k)), (0, .ref h)] → W p l e rm_Farm s m #[.ref h] below meth c H locs (7 + 4 * k) (95 + 49 * k) (MQ below (QCt D (eC_Farm G h) A) #[.ref h] s rm_Farm.cells rm_Farm.slots A) (F0 m 47 ls []) := by
  intro n
  induction n with
  | zero =>
    intro k a H locs ls hk hP hD hS hl
    obtain rfl : k = 30 := by omega
    refine lv_iload_n hx hb dc_Farm_47 rfl (lv_at hl 0 rfl) ?_
    refine lv_bipush (v := 30) hx hb dc_Farm_48 (by decide) ?_
    refine lv_icmp_ge (tgt := 72) hx hb dc_Farm_50 rfl (fun _ => ?_) (fun z => absurd (by decide) z)
    exact ct_ret hx hb hr hlocks hS _ ⟨h5, h5_0, h5_1, h5_2, q18, q32, q40, a, rfl⟩ hP hD dc_Farm_72
  | succ n ih =>
    intro k a H locs ls hk hP hD hS hl
    refine lv_iload_n hx hb dc_Farm_47 rfl (lv_at hl 0 rfl) ?_
    refine lv_bipush (v := 30) hx hb dc_Farm_48 (by decide) ?_
    refine lv_icmp_ge (tgt := 72) hx hb dc_Farm_50 rfl (fun z => absurd z (nI_ge (a := k) (b := 30) (by omega) (by decide))) (fun _ => ?_)
    refine lv_aload_n hx hb dc_Farm_53 rfl (lv_at hl 1 rfl) ?_
    refine va_get (D := D) (ci := 0) (v := .ref q18) (C := RX0) (T := TX0) (N := 11) hx hb hts wtX0 hown hK.1 hP 0 rfl rfl 1 (by decide) (hts _ wc_34) (fun _ h9 => h9) rfl dc_Farm_54 ?_
    refine lv_iload_n hx hb dc_Farm_57 rfl (lv_at hl 0 rfl) ?_
    refine ct_new (G := G) (ci := 3) (T := TX3) (ty := tyX3) hx hb hml hown hts hK hP hD hS hA hl.1 wtX3 tyX3_ok rfl fs_Land wc_28 wc_29 wc_30 wc_31 wc_32 (Or.inr (by decide +kernel)) (by decide) (ct_Land l) ⟨Nat.le_of_ble_eq_true rfl, Nat.le_of_ble_eq_true rfl⟩ ⟨by show 7 + 4 * k + 1 + 3 ≤ 127; omega, by show 95 + 49 * k + 9 + 40 ≤ 1565; omega⟩ (Nat.le_of_ble_eq_true rfl) dc_Farm_58 dc_Farm_61 dc_Farm_62 (fun hn wn H locs hE hP hD hS => ?_)
    obtain ⟨n1, n2, n3, rfl⟩ := hE
    have hlen : (bC_Farm G h h5 h5_0 h5_1 h5_2 q18 q32 q40 (rw4 a k) ++ lnds G a k).length = 8 + 4 * k := by
      rw [List.length_append, lnds_len]
      rfl
    have hv : ((bC_Farm G h h5 h5_0 h5_1 h5_2 q18 q32 q40 (rw4 a k) ++ lnds G a k) ++ cC_Land G hn n1 n2 n3)[8 + 4 * k]? = (cC_Land G hn n1 n2 n3)[0]? := by
      rw [List.getElem?_append_right (by omega), hlen, Nat.sub_self]
    refine va_astq (r := (RX3, TX3, 9)) hx hb hK.1 hP hD hS 5 3 (8 + 4 * k) 3 rfl rfl (hv.trans rfl) rfl (vp_in_iff.mpr (by rw [nI_toInt (by omega)]; omega)) dc_Farm_65 (fun H locs hP hD hS => ?_)
    obtain ⟨b, hbe⟩ : ∃ b : Ad4, b = fun i => if i = k then (hn, n1, n2, n3) else a i := ⟨_, rfl⟩
    have bk : b k = (hn, n1, n2, n3) := by rw [hbe]; exact if_pos rfl
    have bi : ∀ i, i < k → a i = b i := fun i hi => by rw [hbe]; exact (if_neg (by omega)).symm
    have ef : va_up (rw4 a k) (nI k).toNatClampNeg (some hn) = rw4 b (k + 1) := by
      rw [nI_clamp (by omega)]
      funext j
      unfold va_up rw4
      by_cases hj : j = k
      · subst hj
        rw [if_pos rfl, if_pos (by omega), bk]
      · rw [if_neg hj]
        by_cases hj2 : j < k
        · rw [if_pos hj2, if_pos (by omega), bi j hj2]
        · rw [if_neg hj2, if_neg (by omega)]
    have el : lnds G b (k + 1) = lnds G a k ++ cC_Land G hn n1 n2 n3 := by
      show lnds G b k ++ cC_Land G (b k).1 (b k).2.1 (b k).2.2.1 (b k).2.2.2 = _
      rw [bk, lnds_con k bi]
    have ew : bC_Farm G h h5 h5_0 h5_1 h5_2 q18 q32 q40 (rw4 b (k + 1)) ++ lnds G b (k + 1) = ((bC_Farm G h h5 h5_0 h5_1 h5_2 q18 q32 q40 (rw4 a k) ++ lnds G a k) ++ cC_Land G hn n1 n2 n3).set 5 (q18, .inl (G 3, 30, .inr (.inr (.inr (.inr (va_up (rw4 a k) (nI k).toNatClampNeg (some hn))))))) := by
      rw [ef, el, List.append_assoc]
      rfl
    rw [← ew] at hP hD
    refine W.widen (k := 7 + 4 * (k + 1)) (n := 95 + 49 * (k + 1)) (by show 7 + 4 * k + 1 + 3 ≤ _; omega) (by show 95 + 49 * k + 9 + 40 ≤ _; omega) ?_
    refine lv_iinc (v := nI (k + 1)) (lv' := [(1, .int (nI (k + 1))), (0, .ref h)]) hx hb dc_Farm_66 hl (k := 0) rfl (by rw [nI_succ]; rfl) (by decide) rfl (fun ls hl => ?_)
    refine lv_goto (tgt := 47) hx hb dc_Farm_69 rfl ?_
    exact ih (k + 1) b H locs ls (by omega) hP hD hS hl
set_option maxHeartbeats 4000000 in
set_option maxRecDepth 100000 in
theorem ct_Farm (l : Launch) : CtM l RX0 prog_2_method_1_code 2 0 df_Farm eC_Farm rm_Farm := by
  refine ct_of l (by decide +kernel) (by decide) (fun D G h p e s m below meth c ls A hx hb hml hr hown hlocks hin hts hK hP hD hA hl => ?_)
  have hS : va_S A s.heap s.heap [] := va_S.rf
  have hP : va_P D vwCl [(h, .inr (0, [.null, .null, .int 0, .int 0, .int 0, .int 0, .int 0, .int 0, .int 0, .null, .null]))] s.heap := hP
  have hD : va_D A [(h, .inr (0, [.null, .null, .int 0, .int 0, .int 0, .int 0, .int 0, .int 0, .int 0, .null, .null]))] := hD
  refine lv_aload_n hx hb dc_Farm_0 rfl (lv_at hl 0 rfl) ?_
  refine W.objInit hx hb hown (hts _ wc_27) (hts _ wc_0) (hts _ wc_1) rfl (by rw [hml]; exact hl.1) rfl dc_Farm_1 (Nat.le_of_ble_eq_true rfl) (Nat.le_of_ble_eq_true rfl) ?_
  refine W.eq (g2 := F0 m 4 ls []) rfl ?_
  refine lv_aload_n hx hb dc_Farm_4 rfl (lv_at hl 0 rfl) ?_
  refine ct_new (G := G) (ci := 3) (T := TX3) (ty := tyX3) hx hb hml hown hts hK hP hD hS hA hl.1 wtX3 tyX3_ok rfl fs_Land wc_28 wc_29 wc_30 wc_31 wc_32 (Or.inr (by decide +kernel)) (by decide) (ct_Land l) ⟨Nat.le_of_ble_eq_true rfl, Nat.le_of_ble_eq_true rfl⟩ ⟨Nat.le_of_ble_eq_true rfl, Nat.le_of_ble_eq_true rfl⟩ (Nat.le_of_ble_eq_true rfl) dc_Farm_5 dc_Farm_8 dc_Farm_9 (fun h5 wn H locs hE hP hD hS => ?_)
  obtain ⟨h5_0, h5_1, h5_2, rfl⟩ := hE
  have hP : va_P D vwCl [(h, .inr (0, [.null, .null, .int 0, .int 0, .int 0, .int 0, .int 0, .int 0, .int 0, .null, .null])), (h5, .inr (3, [.long 0, .int 0, .ref h5_0, .ref h5_1, .int 0, .int 0, .int 331, .int 0, .ref h5_2])), (h5_0, .inl (G 0, 5, .inl (fun _ => 0))), (h5_1, .inl (G 0, 5, .inl (fun _ => 0))), (h5_2, .inl (G 0, 30, .inl (fun _ => 0)))] H := hP
  have hD : va_D A [(h, .inr (0, [.null, .null, .int 0, .int 0, .int 0, .int 0, .int 0, .int 0, .int 0, .null, .null])), (h5, .inr (3, [.long 0, .int 0, .ref h5_0, .ref h5_1, .int 0, .int 0, .int 331, .int 0, .ref h5_2])), (h5_0, .inl (G 0, 5, .inl (fun _ => 0))), (h5_1, .inl (G 0, 5, .inl (fun _ => 0))), (h5_2, .inl (G 0, 30, .inl (fun _ => 0)))] := hD
  refine W.widen (k := 4) (n := 49) (Nat.le_of_ble_eq_true rfl) (Nat.le_of_ble_eq_true rfl) ?_
  refine va_putF (D := D) (ci := 0) (v := .ref h5) (ty := (.object "ThumbHedges$Land")) (C := RX0) (T := TX0) (N := 11) hx hb hts wtX0 tyX0 tyX0_ok nmX0 hown hK.1 hP hD hS 0 rfl rfl 0 (by decide) (hts _ wc_33) (fun _ h9 => h9) rfl hin rfl (by decide +kernel) rfl rfl (Nat.le_of_ble_eq_true rfl) dc_Farm_12 (fun H locs hP hD hS => ?_)
  have hP : va_P D vwCl [(h, .inr (0, [.ref h5, .null, .int 0, .int 0, .int 0, .int 0, .int 0, .int 0, .int 0, .null, .null])), (h5, .inr (3, [.long 0, .int 0, .ref h5_0, .ref h5_1, .int 0, .int 0, .int 331, .int 0, .ref h5_2])), (h5_0, .inl (G 0, 5, .inl (fun _ => 0))), (h5_1, .inl (G 0, 5, .inl (fun _ => 0))), (h5_2, .inl (G 0, 30, .inl (fun _ => 0)))] H := hP
  have hD : va_D A [(h, .inr (0, [.ref h5, .null, .int 0, .int 0, .int 0, .int 0, .int 0, .int 0, .int 0, .null, .null])), (h5, .inr (3, [.long 0, .int 0, .ref h5_0, .ref h5_1, .int 0, .int 0, .int 331, .int 0, .ref h5_2])), (h5_0, .inl (G 0, 5, .inl (fun _ => 0))), (h5_1, .inl (G 0, 5, .inl (fun _ => 0))), (h5_2, .inl (G 0, 30, .inl (fun _ => 0)))] := hD
  refine lv_aload_n hx hb dc_Farm_15 rfl (lv_at hl 0 rfl) ?_
  refine lv_bipush (v := 30) hx hb dc_Farm_16 (by decide) ?_
  refine n_row (G := G) (t := 3) hx hb hown (hts _ wc_28) hK.2.1 hK.1 (fun _ => rfl) hP hD hS hA 30 (by decide) (by decide) (Nat.le_of_ble_eq_true rfl) (Nat.le_of_ble_eq_true rfl) (Nat.le_of_ble_eq_true rfl) dc_Farm_18 (fun q18 H hP hD hS => ?_)
  have hP : va_P D vwCl [(h, .inr (0, [.ref h5, .null, .int 0, .int 0, .int 0, .int 0, .int 0, .int 0, .int 0, .null, .null])), (h5, .inr (3, [.long 0, .int 0, .ref h5_0, .ref h5_1, .int 0, .int 0, .int 331, .int 0, .ref h5_2])), (h5_0, .inl (G 0, 5, .inl (fun _ => 0))), (h5_1, .inl (G 0, 5, .inl (fun _ => 0))), (h5_2, .inl (G 0, 30, .inl (fun _ => 0))), (q18, .inl (G 3, 30, .inr (.inr (.inr (.inr (fun _ => none))))))] H := hP
  have hD : va_D A [(h, .inr (0, [.ref h5, .null, .int 0, .int 0, .int 0, .int 0, .int 0, .int 0, .int 0, .null, .null])), (h5, .inr (3, [.long 0, .int 0, .ref h5_0, .ref h5_1, .int 0, .int 0, .int 331, .int 0, .ref h5_2])), (h5_0, .inl (G 0, 5, .inl (fun _ => 0))), (h5_1, .inl (G 0, 5, .inl (fun _ => 0))), (h5_2, .inl (G 0, 30, .inl (fun _ => 0))), (q18, .inl (G 3, 30, .inr (.inr (.inr (.inr (fun _ => none))))))] := hD
  refine W.widen (k := 5) (n := 79) (Nat.le_of_ble_eq_true rfl) (Nat.le_of_ble_eq_true rfl) ?_
  refine va_putF (D := D) (ci := 0) (v := .ref q18) (ty := (.array (.object "ThumbHedges$Land"))) (C := RX0) (T := TX0) (N := 11) hx hb hts wtX0 tyX0 tyX0_ok nmX0 hown hK.1 hP hD hS 0 rfl rfl 1 (by decide) (hts _ wc_34) (fun _ h9 => h9) rfl hin rfl (by decide +kernel) rfl rfl (Nat.le_of_ble_eq_true rfl) dc_Farm_21 (fun H locs hP hD hS => ?_)
  have hP : va_P D vwCl [(h, .inr (0, [.ref h5, .ref q18, .int 0, .int 0, .int 0, .int 0, .int 0, .int 0, .int 0, .null, .null])), (h5, .inr (3, [.long 0, .int 0, .ref h5_0, .ref h5_1, .int 0, .int 0, .int 331, .int 0, .ref h5_2])), (h5_0, .inl (G 0, 5, .inl (fun _ => 0))), (h5_1, .inl (G 0, 5, .inl (fun _ => 0))), (h5_2, .inl (G 0, 30, .inl (fun _ => 0))), (q18, .inl (G 3, 30, .inr (.inr (.inr (.inr (fun _ => none))))))] H := hP
  have hD : va_D A [(h, .inr (0, [.ref h5, .ref q18, .int 0, .int 0, .int 0, .int 0, .int 0, .int 0, .int 0, .null, .null])), (h5, .inr (3, [.long 0, .int 0, .ref h5_0, .ref h5_1, .int 0, .int 0, .int 331, .int 0, .ref h5_2])), (h5_0, .inl (G 0, 5, .inl (fun _ => 0))), (h5_1, .inl (G 0, 5, .inl (fun _ => 0))), (h5_2, .inl (G 0, 30, .inl (fun _ => 0))), (q18, .inl (G 3, 30, .inr (.inr (.inr (.inr (fun _ => none))))))] := hD
  refine lv_aload_n hx hb dc_Farm_24 rfl (lv_at hl 0 rfl) ?_
  refine lv_iconst (v := (-1)) hx hb dc_Farm_25 (by decide) ?_
  refine va_put (D := D) (ci := 0) (v := .int (-1)) (ty := .int) (C := RX0) (T := TX0) (N := 11) hx hb hts wtX0 tyX0 tyX0_ok nmX0 hown hK.1 hP hD hS 0 rfl rfl 7 (by decide) (hts _ wc_35) (fun _ h9 => h9) rfl (by decide +kernel) rfl rfl (Nat.le_of_ble_eq_true rfl) dc_Farm_26 (fun H locs hP hD hS => ?_)
  have hP : va_P D vwCl [(h, .inr (0, [.ref h5, .ref q18, .int 0, .int 0, .int 0, .int 0, .int 0, .int (-1), .int 0, .null, .null])), (h5, .inr (3, [.long 0, .int 0, .ref h5_0, .ref h5_1, .int 0, .int 0, .int 331, .int 0, .ref h5_2])), (h5_0, .inl (G 0, 5, .inl (fun _ => 0))), (h5_1, .inl (G 0, 5, .inl (fun _ => 0))), (h5_2, .inl (G 0, 30, .inl (fun _ => 0))), (q18, .inl (G 3, 30, .inr (.inr (.inr (.inr (fun _ => none))))))] H := hP
  have hD : va_D A [(h, .inr (0, [.ref h5, .ref q18, .int 0, .int 0, .int 0, .int 0, .int 0, .int (-1), .int 0, .null, .null])), (h5, .inr (3, [.long 0, .int 0, .ref h5_0, .ref h5_1, .int 0, .int 0, .int 331, .int 0, .ref h5_2])), (h5_0, .inl (G 0, 5, .inl (fun _ => 0))), (h5_1, .inl (G 0, 5, .inl (fun _ => 0))), (h5_2, .inl (G 0, 30, .inl (fun _ => 0))), (q18, .inl (G 3, 30, .inr (.inr (.inr (.inr (fun _ => none))))))] := hD
  refine lv_aload_n hx hb dc_Farm_29 rfl (lv_at hl 0 rfl) ?_
  refine lv_bipush (v := 8) hx hb dc_Farm_30 (by decide) ?_
  refine n_int (G := G) hx hb hts hK.1 hP hD hS hA 8 (by decide) (by decide) (Nat.le_of_ble_eq_true rfl) (Nat.le_of_ble_eq_true rfl) (Nat.le_of_ble_eq_true rfl) dc_Farm_32 (fun q32 H hP hD hS => ?_)
  have hP : va_P D vwCl [(h, .inr (0, [.ref h5, .ref q18, .int 0, .int 0, .int 0, .int 0, .int 0, .int (-1), .int 0, .null, .null])), (h5, .inr (3, [.long 0, .int 0, .ref h5_0, .ref h5_1, .int 0, .int 0, .int 331, .int 0, .ref h5_2])), (h5_0, .inl (G 0, 5, .inl (fun _ => 0))), (h5_1, .inl (G 0, 5, .inl (fun _ => 0))), (h5_2, .inl (G 0, 30, .inl (fun _ => 0))), (q18, .inl (G 3, 30, .inr (.inr (.inr (.inr (fun _ => none)))))), (q32, .inl (G 0, 8, .inl (fun _ => 0)))] H := hP
  have hD : va_D A [(h, .inr (0, [.ref h5, .ref q18, .int 0, .int 0, .int 0, .int 0, .int 0, .int (-1), .int 0, .null, .null])), (h5, .inr (3, [.long 0, .int 0, .ref h5_0, .ref h5_1, .int 0, .int 0, .int 331, .int 0, .ref h5_2])), (h5_0, .inl (G 0, 5, .inl (fun _ => 0))), (h5_1, .inl (G 0, 5, .inl (fun _ => 0))), (h5_2, .inl (G 0, 30, .inl (fun _ => 0))), (q18, .inl (G 3, 30, .inr (.inr (.inr (.inr (fun _ => none)))))), (q32, .inl (G 0, 8, .inl (fun _ => 0)))] := hD
  refine W.widen (k := 6) (n := 87) (Nat.le_of_ble_eq_true rfl) (Nat.le_of_ble_eq_true rfl) ?_
  refine va_putF (D := D) (ci := 0) (v := .ref q32) (ty := (.array .int)) (C := RX0) (T := TX0) (N := 11) hx hb hts wtX0 tyX0 tyX0_ok nmX0 hown hK.1 hP hD hS 0 rfl rfl 9 (by decide) (hts _ wc_36) (fun _ h9 => h9) rfl hin rfl (by decide +kernel) rfl rfl (Nat.le_of_ble_eq_true rfl) dc_Farm_34 (fun H locs hP hD hS => ?_)
  have hP : va_P D vwCl [(h, .inr (0, [.ref h5, .ref q18, .int 0, .int 0, .int 0, .int 0, .int 0, .int (-1), .int 0, .ref q32, .null])), (h5, .inr (3, [.long 0, .int 0, .ref h5_0, .ref h5_1, .int 0, .int 0, .int 331, .int 0, .ref h5_2])), (h5_0, .inl (G 0, 5, .inl (fun _ => 0))), (h5_1, .inl (G 0, 5, .inl (fun _ => 0))), (h5_2, .inl (G 0, 30, .inl (fun _ => 0))), (q18, .inl (G 3, 30, .inr (.inr (.inr (.inr (fun _ => none)))))), (q32, .inl (G 0, 8, .inl (fun _ => 0)))] H := hP
  have hD : va_D A [(h, .inr (0, [.ref h5, .ref q18, .int 0, .int 0, .int 0, .int 0, .int 0, .int (-1), .int 0, .ref q32, .null])), (h5, .inr (3, [.long 0, .int 0, .ref h5_0, .ref h5_1, .int 0, .int 0, .int 331, .int 0, .ref h5_2])), (h5_0, .inl (G 0, 5, .inl (fun _ => 0))), (h5_1, .inl (G 0, 5, .inl (fun _ => 0))), (h5_2, .inl (G 0, 30, .inl (fun _ => 0))), (q18, .inl (G 3, 30, .inr (.inr (.inr (.inr (fun _ => none)))))), (q32, .inl (G 0, 8, .inl (fun _ => 0)))] := hD
  refine lv_aload_n hx hb dc_Farm_37 rfl (lv_at hl 0 rfl) ?_
  refine lv_bipush (v := 8) hx hb dc_Farm_38 (by decide) ?_
  refine n_int (G := G) hx hb hts hK.1 hP hD hS hA 8 (by decide) (by decide) (Nat.le_of_ble_eq_true rfl) (Nat.le_of_ble_eq_true rfl) (Nat.le_of_ble_eq_true rfl) dc_Farm_40 (fun q40 H hP hD hS => ?_)
  have hP : va_P D vwCl [(h, .inr (0, [.ref h5, .ref q18, .int 0, .int 0, .int 0, .int 0, .int 0, .int (-1), .int 0, .ref q32, .null])), (h5, .inr (3, [.long 0, .int 0, .ref h5_0, .ref h5_1, .int 0, .int 0, .int 331, .int 0, .ref h5_2])), (h5_0, .inl (G 0, 5, .inl (fun _ => 0))), (h5_1, .inl (G 0, 5, .inl (fun _ => 0))), (h5_2, .inl (G 0, 30, .inl (fun _ => 0))), (q18, .inl (G 3, 30, .inr (.inr (.inr (.inr (fun _ => none)))))), (q32, .inl (G 0, 8, .inl (fun _ => 0))), (q40, .inl (G 0, 8, .inl (fun _ => 0)))] H := hP
  have hD : va_D A [(h, .inr (0, [.ref h5, .ref q18, .int 0, .int 0, .int 0, .int 0, .int 0, .int (-1), .int 0, .ref q32, .null])), (h5, .inr (3, [.long 0, .int 0, .ref h5_0, .ref h5_1, .int 0, .int 0, .int 331, .int 0, .ref h5_2])), (h5_0, .inl (G 0, 5, .inl (fun _ => 0))), (h5_1, .inl (G 0, 5, .inl (fun _ => 0))), (h5_2, .inl (G 0, 30, .inl (fun _ => 0))), (q18, .inl (G 3, 30, .inr (.inr (.inr (.inr (fun _ => none)))))), (q32, .inl (G 0, 8, .inl (fun _ => 0))), (q40, .inl (G 0, 8, .inl (fun _ => 0)))] := hD
  refine W.widen (k := 7) (n := 95) (Nat.le_of_ble_eq_true rfl) (Nat.le_of_ble_eq_true rfl) ?_
  refine va_putF (D := D) (ci := 0) (v := .ref q40) (ty := (.array .int)) (C := RX0) (T := TX0) (N := 11) hx hb hts wtX0 tyX0 tyX0_ok nmX0 hown hK.1 hP hD hS 0 rfl rfl 10 (by decide) (hts _ wc_37) (fun _ h9 => h9) rfl hin rfl (by decide +kernel) rfl rfl (Nat.le_of_ble_eq_true rfl) dc_Farm_42 (fun H locs hP hD hS => ?_)
  have hP : va_P D vwCl [(h, .inr (0, [.ref h5, .ref q18, .int 0, .int 0, .int 0, .int 0, .int 0, .int (-1), .int 0, .ref q32, .ref q40])), (h5, .inr (3, [.long 0, .int 0, .ref h5_0, .ref h5_1, .int 0, .int 0, .int 331, .int 0, .ref h5_2])), (h5_0, .inl (G 0, 5, .inl (fun _ => 0))), (h5_1, .inl (G 0, 5, .inl (fun _ => 0))), (h5_2, .inl (G 0, 30, .inl (fun _ => 0))), (q18, .inl (G 3, 30, .inr (.inr (.inr (.inr (fun _ => none)))))), (q32, .inl (G 0, 8, .inl (fun _ => 0))), (q40, .inl (G 0, 8, .inl (fun _ => 0)))] H := hP
  have hD : va_D A [(h, .inr (0, [.ref h5, .ref q18, .int 0, .int 0, .int 0, .int 0, .int 0, .int (-1), .int 0, .ref q32, .ref q40])), (h5, .inr (3, [.long 0, .int 0, .ref h5_0, .ref h5_1, .int 0, .int 0, .int 331, .int 0, .ref h5_2])), (h5_0, .inl (G 0, 5, .inl (fun _ => 0))), (h5_1, .inl (G 0, 5, .inl (fun _ => 0))), (h5_2, .inl (G 0, 30, .inl (fun _ => 0))), (q18, .inl (G 3, 30, .inr (.inr (.inr (.inr (fun _ => none)))))), (q32, .inl (G 0, 8, .inl (fun _ => 0))), (q40, .inl (G 0, 8, .inl (fun _ => 0)))] := hD
  refine lv_iconst (v := 0) hx hb dc_Farm_45 (by decide) ?_
  refine lv_istore_n (lv' := [(1, .int 0), (0, .ref h)]) hx hb dc_Farm_46 rfl hl (by decide) rfl (fun ls hl => ?_)
  have e0 : bC_Farm G h h5 h5_0 h5_1 h5_2 q18 q32 q40 (rw4 (fun _ => (0, 0, 0, 0)) 0) ++ lnds G (fun _ => (0, 0, 0, 0)) 0 = [(h, .inr (0, [.ref h5, .ref q18, .int 0, .int 0, .int 0, .int 0, .int 0, .int (-1), .int 0, .ref q32, .ref q40])), (h5, .inr (3, [.long 0, .int 0, .ref h5_0, .ref h5_1, .int 0, .int 0, .int 331, .int 0, .ref h5_2])), (h5_0, .inl (G 0, 5, .inl (fun _ => 0))), (h5_1, .inl (G 0, 5, .inl (fun _ => 0))), (h5_2, .inl (G 0, 30, .inl (fun _ => 0))), (q18, .inl (G 3, 30, .inr (.inr (.inr (.inr (fun _ => none)))))), (q32, .inl (G 0, 8, .inl (fun _ => 0))), (q40, .inl (G 0, 8, .inl (fun _ => 0)))] := by
    rw [show rw4 (fun _ => (0, 0, 0, 0)) 0 = (fun _ => none) from funext (fun j => if_neg (Nat.not_lt_zero j))]
    rfl
  exact lp_Farm hx hb hml hr hown hlocks hts hK hA 30 0 (fun _ => (0, 0, 0, 0)) H _ ls (by omega) (by rw [e0]; exact hP) (by rw [e0]; exact hD) hS hl
