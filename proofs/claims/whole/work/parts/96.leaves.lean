/-! MAKING: the small ones -/
theorem wc_0 : Cond.instanceMethod Lib.objectInit ∈ WT := WT_in (mem_places (ws := [Cond.instanceMethod Lib.objectInit]) [137] (by decide +kernel) _ (List.mem_singleton.mpr rfl)) rfl
theorem wc_1 : Cond.code Lib.objectInit ⟨#[0xb1]⟩ 1 none ∈ WT := WT_in (mem_places (ws := [Cond.code Lib.objectInit ⟨#[0xb1]⟩ 1 none]) [138] (by decide +kernel) _ (List.mem_singleton.mpr rfl)) rfl
theorem wc_2 : Cond.methodLink RX3 3 Lib.objectInit ∈ WT := WT_in (mem_places (ws := [Cond.methodLink RX3 3 Lib.objectInit]) [150] (by decide +kernel) _ (List.mem_singleton.mpr rfl)) rfl
theorem wc_3 : Cond.fieldLink RX3 9 "ThumbHedges$Land" "at" "[I" ∈ WT := WT_in (mem_places (ws := [Cond.fieldLink RX3 9 "ThumbHedges$Land" "at" "[I"]) [156] (by decide +kernel) _ (List.mem_singleton.mpr rfl)) rfl
theorem wc_4 : Cond.fieldLink RX3 15 "ThumbHedges$Land" "way" "[I" ∈ WT := WT_in (mem_places (ws := [Cond.fieldLink RX3 15 "ThumbHedges$Land" "way" "[I"]) [159] (by decide +kernel) _ (List.mem_singleton.mpr rfl)) rfl
theorem wc_5 : Cond.fieldLink RX3 18 "ThumbHedges$Land" "x" "I" ∈ WT := WT_in (mem_places (ws := [Cond.fieldLink RX3 18 "ThumbHedges$Land" "x" "I"]) [167] (by decide +kernel) _ (List.mem_singleton.mpr rfl)) rfl
theorem wc_6 : Cond.fieldLink RX3 22 "ThumbHedges$Land" "book" "[I" ∈ WT := WT_in (mem_places (ws := [Cond.fieldLink RX3 22 "ThumbHedges$Land" "book" "[I"]) [171] (by decide +kernel) _ (List.mem_singleton.mpr rfl)) rfl
theorem wc_7 : Cond.methodLink RX7 3 Lib.objectInit ∈ WT := WT_in (mem_places (ws := [Cond.methodLink RX7 3 Lib.objectInit]) [253] (by decide +kernel) _ (List.mem_singleton.mpr rfl)) rfl
theorem wc_8 : Cond.fieldLink RX7 9 "ThumbHedges$Text" "kinds" "[I" ∈ WT := WT_in (mem_places (ws := [Cond.fieldLink RX7 9 "ThumbHedges$Text" "kinds" "[I"]) [257] (by decide +kernel) _ (List.mem_singleton.mpr rfl)) rfl
theorem wc_9 : Cond.fieldLink RX7 15 "ThumbHedges$Text" "firsts" "[I" ∈ WT := WT_in (mem_places (ws := [Cond.fieldLink RX7 15 "ThumbHedges$Text" "firsts" "[I"]) [259] (by decide +kernel) _ (List.mem_singleton.mpr rfl)) rfl
theorem wc_10 : Cond.fieldLink RX7 18 "ThumbHedges$Text" "seconds" "[I" ∈ WT := WT_in (mem_places (ws := [Cond.fieldLink RX7 18 "ThumbHedges$Text" "seconds" "[I"]) [261] (by decide +kernel) _ (List.mem_singleton.mpr rfl)) rfl
theorem wc_11 : Cond.fieldLink RX7 21 "ThumbHedges$Text" "code" "[I" ∈ WT := WT_in (mem_places (ws := [Cond.fieldLink RX7 21 "ThumbHedges$Text" "code" "[I"]) [264] (by decide +kernel) _ (List.mem_singleton.mpr rfl)) rfl
theorem wc_12 : Cond.methodLink RX2 3 Lib.objectInit ∈ WT := WT_in (mem_places (ws := [Cond.methodLink RX2 3 Lib.objectInit]) [360] (by decide +kernel) _ (List.mem_singleton.mpr rfl)) rfl
theorem wc_13 : Cond.fieldLink RX2 9 "ThumbHedges$Judge" "names" "[I" ∈ WT := WT_in (mem_places (ws := [Cond.fieldLink RX2 9 "ThumbHedges$Judge" "names" "[I"]) [361] (by decide +kernel) _ (List.mem_singleton.mpr rfl)) rfl
theorem wc_14 : Cond.fieldLink RX2 15 "ThumbHedges$Judge" "stack" "[I" ∈ WT := WT_in (mem_places (ws := [Cond.fieldLink RX2 15 "ThumbHedges$Judge" "stack" "[I"]) [362] (by decide +kernel) _ (List.mem_singleton.mpr rfl)) rfl
theorem wc_15 : Cond.methodLink RX1 3 Lib.objectInit ∈ WT := WT_in (mem_places (ws := [Cond.methodLink RX1 3 Lib.objectInit]) [241] (by decide +kernel) _ (List.mem_singleton.mpr rfl)) rfl
theorem wc_16 : Cond.fieldLink RX1 9 "ThumbHedges$Hands" "patterns" "[J" ∈ WT := WT_in (mem_places (ws := [Cond.fieldLink RX1 9 "ThumbHedges$Hands" "patterns" "[J"]) [242] (by decide +kernel) _ (List.mem_singleton.mpr rfl)) rfl
theorem wc_17 : Cond.methodLink RX4 3 Lib.objectInit ∈ WT := WT_in (mem_places (ws := [Cond.methodLink RX4 3 Lib.objectInit]) [376] (by decide +kernel) _ (List.mem_singleton.mpr rfl)) rfl
theorem wc_18 : Cond.fieldLink RX4 9 "ThumbHedges$Maze" "near" "[I" ∈ WT := WT_in (mem_places (ws := [Cond.fieldLink RX4 9 "ThumbHedges$Maze" "near" "[I"]) [379] (by decide +kernel) _ (List.mem_singleton.mpr rfl)) rfl
theorem wc_19 : Cond.methodLink RX6 3 Lib.objectInit ∈ WT := WT_in (mem_places (ws := [Cond.methodLink RX6 3 Lib.objectInit]) [310] (by decide +kernel) _ (List.mem_singleton.mpr rfl)) rfl
theorem wc_20 : Cond.fieldLink RX6 9 "ThumbHedges$Reader" "bytes" "[I" ∈ WT := WT_in (mem_places (ws := [Cond.fieldLink RX6 9 "ThumbHedges$Reader" "bytes" "[I"]) [313] (by decide +kernel) _ (List.mem_singleton.mpr rfl)) rfl
theorem wc_21 : Cond.classLink RX6 15 RX7 ∈ WT := WT_in (mem_places (ws := [Cond.classLink RX6 15 RX7]) [311] (by decide +kernel) _ (List.mem_singleton.mpr rfl)) rfl
theorem wc_22 : Cond.instantiable RX7 12 ∈ WT := WT_in (mem_places (ws := [Cond.instantiable RX7 12]) [249] (by decide +kernel) _ (List.mem_singleton.mpr rfl)) rfl
theorem wc_23 : Cond.initialized RX7 ∈ WT := WT_in (mem_places (ws := [Cond.initialized RX7]) [116] (by decide +kernel) _ (List.mem_singleton.mpr rfl)) rfl
theorem wc_24 : Cond.instanceMethod (yIn RX7) ∈ WT := WT_in (mem_places (ws := [Cond.instanceMethod (yIn RX7)]) [251] (by decide +kernel) _ (List.mem_singleton.mpr rfl)) rfl
theorem wc_25 : Cond.code (yIn RX7) prog_9_method_1_code 1 none ∈ WT := WT_in (mem_places (ws := [Cond.code (yIn RX7) prog_9_method_1_code 1 none]) [252] (by decide +kernel) _ (List.mem_singleton.mpr rfl)) rfl
theorem wc_26 : Cond.fieldLink RX6 18 "ThumbHedges$Reader" "draft" "LThumbHedges$Text;" ∈ WT := WT_in (mem_places (ws := [Cond.fieldLink RX6 18 "ThumbHedges$Reader" "draft" "LThumbHedges$Text;"]) [316] (by decide +kernel) _ (List.mem_singleton.mpr rfl)) rfl
theorem wtX3 : ∀ w ∈ u_ws RX3 TX3 9, w ∈ WT := fun w hw => WT_in (inX3 w hw) ((by decide +kernel : ∀ w ∈ u_ws RX3 TX3 9, goodWord w = true) w hw)
theorem dc_Land_0 : decode prog_5_method_1_code 0 = .ok (.aload_n 0, 1) := by decide +kernel
theorem dc_Land_1 : decode prog_5_method_1_code 1 = .ok (.invokespecial 3, 3) := by decide +kernel
theorem dc_Land_4 : decode prog_5_method_1_code 4 = .ok (.aload_n 0, 1) := by decide +kernel
theorem dc_Land_5 : decode prog_5_method_1_code 5 = .ok (.iconst 5, 1) := by decide +kernel
theorem dc_Land_6 : decode prog_5_method_1_code 6 = .ok (.newarray .int, 2) := by decide +kernel
theorem dc_Land_8 : decode prog_5_method_1_code 8 = .ok (.putfield 9, 3) := by decide +kernel
theorem dc_Land_11 : decode prog_5_method_1_code 11 = .ok (.aload_n 0, 1) := by decide +kernel
theorem dc_Land_12 : decode prog_5_method_1_code 12 = .ok (.iconst 5, 1) := by decide +kernel
theorem dc_Land_13 : decode prog_5_method_1_code 13 = .ok (.newarray .int, 2) := by decide +kernel
theorem dc_Land_15 : decode prog_5_method_1_code 15 = .ok (.putfield 15, 3) := by decide +kernel
theorem dc_Land_18 : decode prog_5_method_1_code 18 = .ok (.aload_n 0, 1) := by decide +kernel
theorem dc_Land_19 : decode prog_5_method_1_code 19 = .ok (.sipush 331, 3) := by decide +kernel
theorem dc_Land_22 : decode prog_5_method_1_code 22 = .ok (.putfield 18, 3) := by decide +kernel
theorem dc_Land_25 : decode prog_5_method_1_code 25 = .ok (.aload_n 0, 1) := by decide +kernel
theorem dc_Land_26 : decode prog_5_method_1_code 26 = .ok (.bipush 30, 2) := by decide +kernel
theorem dc_Land_28 : decode prog_5_method_1_code 28 = .ok (.newarray .int, 2) := by decide +kernel
theorem dc_Land_30 : decode prog_5_method_1_code 30 = .ok (.putfield 22, 3) := by decide +kernel
theorem dc_Land_33 : decode prog_5_method_1_code 33 = .ok (.return_, 1) := by decide +kernel
def df_Land : List Value := [.long 0, .int 0, .null, .null, .int 0, .int 0, .int 0, .int 0, .null]
theorem fs_Land : ∀ j, j < 9 → defaultValue (tyX3 j) = vp_V df_Land j := by
  intro j hj
  have : j = 0 ∨ j = 1 ∨ j = 2 ∨ j = 3 ∨ j = 4 ∨ j = 5 ∨ j = 6 ∨ j = 7 ∨ j = 8 := by omega
  rcases this with rfl | rfl | rfl | rfl | rfl | rfl | rfl | rfl | rfl <;> rfl
def cC_Land (G : Nat → ClassId) (h q6 q13 q28 : Nat) : va_W := [(h, .inr (3, [.long 0, .int 0, .ref q6, .ref q13, .int 0, .int 0, .int 331, .int 0, .ref q28])), (q6, .inl (G 0, 5, .inl (fun _ => 0))), (q13, .inl (G 0, 5, .inl (fun _ => 0))), (q28, .inl (G 0, 30, .inl (fun _ => 0)))]
def eC_Land (G : Nat → ClassId) (h : Nat) (w : va_W) : Prop := ∃ q6 q13 q28, w = cC_Land G h q6 q13 q28
abbrev rm_Land : Room := { frames := 1, cells := 3, slots := 40, locals := 12 }
set_option maxHeartbeats 4000000 in
set_option maxRecDepth 100000 in
theorem ct_Land (l : Launch) : CtM l RX3 prog_5_method_1_code 1 3 df_Land eC_Land rm_Land := by
  refine ct_of l (by decide +kernel) (by decide) (fun D G h p e s m below meth c ls A hx hb hml hr hown hlocks hin hts hK hP hD hA hl => ?_)
  have hS : va_S A s.heap s.heap [] := va_S.rf
  have hP : va_P D vwCl [(h, .inr (3, [.long 0, .int 0, .null, .null, .int 0, .int 0, .int 0, .int 0, .null]))] s.heap := hP
  have hD : va_D A [(h, .inr (3, [.long 0, .int 0, .null, .null, .int 0, .int 0, .int 0, .int 0, .null]))] := hD
  refine lv_aload_n hx hb dc_Land_0 rfl (lv_at hl 0 rfl) ?_
  refine W.objInit hx hb hown (hts _ wc_2) (hts _ wc_0) (hts _ wc_1) rfl (by rw [hml]; exact hl.1) rfl dc_Land_1 (Nat.le_of_ble_eq_true rfl) (Nat.le_of_ble_eq_true rfl) ?_
  refine W.eq (g2 := F0 m 4 ls []) rfl ?_
  refine lv_aload_n hx hb dc_Land_4 rfl (lv_at hl 0 rfl) ?_
  refine lv_iconst (v := 5) hx hb dc_Land_5 (by decide) ?_
  refine n_int (G := G) hx hb hts hK.1 hP hD hS hA 5 (by decide) (by decide) (Nat.le_of_ble_eq_true rfl) (Nat.le_of_ble_eq_true rfl) (Nat.le_of_ble_eq_true rfl) dc_Land_6 (fun q6 H hP hD hS => ?_)
  have hP : va_P D vwCl [(h, .inr (3, [.long 0, .int 0, .null, .null, .int 0, .int 0, .int 0, .int 0, .null])), (q6, .inl (G 0, 5, .inl (fun _ => 0)))] H := hP
  have hD : va_D A [(h, .inr (3, [.long 0, .int 0, .null, .null, .int 0, .int 0, .int 0, .int 0, .null])), (q6, .inl (G 0, 5, .inl (fun _ => 0)))] := hD
  refine W.widen (k := 1) (n := 5) (Nat.le_of_ble_eq_true rfl) (Nat.le_of_ble_eq_true rfl) ?_
  refine va_putF (D := D) (ci := 3) (v := .ref q6) (ty := (.array .int)) (C := RX3) (T := TX3) (N := 9) hx hb hts wtX3 tyX3 tyX3_ok nmX3 hown hK.1 hP hD hS 0 rfl rfl 2 (by decide) (hts _ wc_3) (fun _ h9 => h9) rfl hin rfl (by decide +kernel) rfl rfl (Nat.le_of_ble_eq_true rfl) dc_Land_8 (fun H locs hP hD hS => ?_)
  have hP : va_P D vwCl [(h, .inr (3, [.long 0, .int 0, .ref q6, .null, .int 0, .int 0, .int 0, .int 0, .null])), (q6, .inl (G 0, 5, .inl (fun _ => 0)))] H := hP
  have hD : va_D A [(h, .inr (3, [.long 0, .int 0, .ref q6, .null, .int 0, .int 0, .int 0, .int 0, .null])), (q6, .inl (G 0, 5, .inl (fun _ => 0)))] := hD
  refine lv_aload_n hx hb dc_Land_11 rfl (lv_at hl 0 rfl) ?_
  refine lv_iconst (v := 5) hx hb dc_Land_12 (by decide) ?_
  refine n_int (G := G) hx hb hts hK.1 hP hD hS hA 5 (by decide) (by decide) (Nat.le_of_ble_eq_true rfl) (Nat.le_of_ble_eq_true rfl) (Nat.le_of_ble_eq_true rfl) dc_Land_13 (fun q13 H hP hD hS => ?_)
  have hP : va_P D vwCl [(h, .inr (3, [.long 0, .int 0, .ref q6, .null, .int 0, .int 0, .int 0, .int 0, .null])), (q6, .inl (G 0, 5, .inl (fun _ => 0))), (q13, .inl (G 0, 5, .inl (fun _ => 0)))] H := hP
  have hD : va_D A [(h, .inr (3, [.long 0, .int 0, .ref q6, .null, .int 0, .int 0, .int 0, .int 0, .null])), (q6, .inl (G 0, 5, .inl (fun _ => 0))), (q13, .inl (G 0, 5, .inl (fun _ => 0)))] := hD
  refine W.widen (k := 2) (n := 10) (Nat.le_of_ble_eq_true rfl) (Nat.le_of_ble_eq_true rfl) ?_
  refine va_putF (D := D) (ci := 3) (v := .ref q13) (ty := (.array .int)) (C := RX3) (T := TX3) (N := 9) hx hb hts wtX3 tyX3 tyX3_ok nmX3 hown hK.1 hP hD hS 0 rfl rfl 3 (by decide) (hts _ wc_4) (fun _ h9 => h9) rfl hin rfl (by decide +kernel) rfl rfl (Nat.le_of_ble_eq_true rfl) dc_Land_15 (fun H locs hP hD hS => ?_)
  have hP : va_P D vwCl [(h, .inr (3, [.long 0, .int 0, .ref q6, .ref q13, .int 0, .int 0, .int 0, .int 0, .null])), (q6, .inl (G 0, 5, .inl (fun _ => 0))), (q13, .inl (G 0, 5, .inl (fun _ => 0)))] H := hP
  have hD : va_D A [(h, .inr (3, [.long 0, .int 0, .ref q6, .ref q13, .int 0, .int 0, .int 0, .int 0, .null])), (q6, .inl (G 0, 5, .inl (fun _ => 0))), (q13, .inl (G 0, 5, .inl (fun _ => 0)))] := hD
  refine lv_aload_n hx hb dc_Land_18 rfl (lv_at hl 0 rfl) ?_
  refine lv_sipush (v := 331) hx hb dc_Land_19 (by decide) ?_
  refine va_put (D := D) (ci := 3) (v := .int 331) (ty := .int) (C := RX3) (T := TX3) (N := 9) hx hb hts wtX3 tyX3 tyX3_ok nmX3 hown hK.1 hP hD hS 0 rfl rfl 6 (by decide) (hts _ wc_5) (fun _ h9 => h9) rfl (by decide +kernel) rfl rfl (Nat.le_of_ble_eq_true rfl) dc_Land_22 (fun H locs hP hD hS => ?_)
  have hP : va_P D vwCl [(h, .inr (3, [.long 0, .int 0, .ref q6, .ref q13, .int 0, .int 0, .int 331, .int 0, .null])), (q6, .inl (G 0, 5, .inl (fun _ => 0))), (q13, .inl (G 0, 5, .inl (fun _ => 0)))] H := hP
  have hD : va_D A [(h, .inr (3, [.long 0, .int 0, .ref q6, .ref q13, .int 0, .int 0, .int 331, .int 0, .null])), (q6, .inl (G 0, 5, .inl (fun _ => 0))), (q13, .inl (G 0, 5, .inl (fun _ => 0)))] := hD
  refine lv_aload_n hx hb dc_Land_25 rfl (lv_at hl 0 rfl) ?_
  refine lv_bipush (v := 30) hx hb dc_Land_26 (by decide) ?_
  refine n_int (G := G) hx hb hts hK.1 hP hD hS hA 30 (by decide) (by decide) (Nat.le_of_ble_eq_true rfl) (Nat.le_of_ble_eq_true rfl) (Nat.le_of_ble_eq_true rfl) dc_Land_28 (fun q28 H hP hD hS => ?_)
  have hP : va_P D vwCl [(h, .inr (3, [.long 0, .int 0, .ref q6, .ref q13, .int 0, .int 0, .int 331, .int 0, .null])), (q6, .inl (G 0, 5, .inl (fun _ => 0))), (q13, .inl (G 0, 5, .inl (fun _ => 0))), (q28, .inl (G 0, 30, .inl (fun _ => 0)))] H := hP
  have hD : va_D A [(h, .inr (3, [.long 0, .int 0, .ref q6, .ref q13, .int 0, .int 0, .int 331, .int 0, .null])), (q6, .inl (G 0, 5, .inl (fun _ => 0))), (q13, .inl (G 0, 5, .inl (fun _ => 0))), (q28, .inl (G 0, 30, .inl (fun _ => 0)))] := hD
  refine W.widen (k := 3) (n := 40) (Nat.le_of_ble_eq_true rfl) (Nat.le_of_ble_eq_true rfl) ?_
  refine va_putF (D := D) (ci := 3) (v := .ref q28) (ty := (.array .int)) (C := RX3) (T := TX3) (N := 9) hx hb hts wtX3 tyX3 tyX3_ok nmX3 hown hK.1 hP hD hS 0 rfl rfl 8 (by decide) (hts _ wc_6) (fun _ h9 => h9) rfl hin rfl (by decide +kernel) rfl rfl (Nat.le_of_ble_eq_true rfl) dc_Land_30 (fun H locs hP hD hS => ?_)
  have hP : va_P D vwCl [(h, .inr (3, [.long 0, .int 0, .ref q6, .ref q13, .int 0, .int 0, .int 331, .int 0, .ref q28])), (q6, .inl (G 0, 5, .inl (fun _ => 0))), (q13, .inl (G 0, 5, .inl (fun _ => 0))), (q28, .inl (G 0, 30, .inl (fun _ => 0)))] H := hP
  have hD : va_D A [(h, .inr (3, [.long 0, .int 0, .ref q6, .ref q13, .int 0, .int 0, .int 331, .int 0, .ref q28])), (q6, .inl (G 0, 5, .inl (fun _ => 0))), (q13, .inl (G 0, 5, .inl (fun _ => 0))), (q28, .inl (G 0, 30, .inl (fun _ => 0)))] := hD
  exact ct_ret hx hb hr hlocks hS _ ⟨q6, q13, q28, rfl⟩ hP hD dc_Land_33
theorem wtX7 : ∀ w ∈ u_ws RX7 TX7 12, w ∈ WT := fun w hw => WT_in (inX7 w hw) ((by decide +kernel : ∀ w ∈ u_ws RX7 TX7 12, goodWord w = true) w hw)
theorem dc_Text_0 : decode prog_9_method_1_code 0 = .ok (.aload_n 0, 1) := by decide +kernel
theorem dc_Text_1 : decode prog_9_method_1_code 1 = .ok (.invokespecial 3, 3) := by decide +kernel
theorem dc_Text_4 : decode prog_9_method_1_code 4 = .ok (.aload_n 0, 1) := by decide +kernel
theorem dc_Text_5 : decode prog_9_method_1_code 5 = .ok (.bipush 24, 2) := by decide +kernel
theorem dc_Text_7 : decode prog_9_method_1_code 7 = .ok (.newarray .int, 2) := by decide +kernel
theorem dc_Text_9 : decode prog_9_method_1_code 9 = .ok (.putfield 9, 3) := by decide +kernel
theorem dc_Text_12 : decode prog_9_method_1_code 12 = .ok (.aload_n 0, 1) := by decide +kernel
theorem dc_Text_13 : decode prog_9_method_1_code 13 = .ok (.bipush 24, 2) := by decide +kernel
theorem dc_Text_15 : decode prog_9_method_1_code 15 = .ok (.newarray .int, 2) := by decide +kernel
theorem dc_Text_17 : decode prog_9_method_1_code 17 = .ok (.putfield 15, 3) := by decide +kernel
theorem dc_Text_20 : decode prog_9_method_1_code 20 = .ok (.aload_n 0, 1) := by decide +kernel
theorem dc_Text_21 : decode prog_9_method_1_code 21 = .ok (.bipush 24, 2) := by decide +kernel
theorem dc_Text_23 : decode prog_9_method_1_code 23 = .ok (.newarray .int, 2) := by decide +kernel
theorem dc_Text_25 : decode prog_9_method_1_code 25 = .ok (.putfield 18, 3) := by decide +kernel
theorem dc_Text_28 : decode prog_9_method_1_code 28 = .ok (.aload_n 0, 1) := by decide +kernel
theorem dc_Text_29 : decode prog_9_method_1_code 29 = .ok (.sipush 300, 3) := by decide +kernel
theorem dc_Text_32 : decode prog_9_method_1_code 32 = .ok (.newarray .int, 2) := by decide +kernel
theorem dc_Text_34 : decode prog_9_method_1_code 34 = .ok (.putfield 21, 3) := by decide +kernel
theorem dc_Text_37 : decode prog_9_method_1_code 37 = .ok (.return_, 1) := by decide +kernel
def df_Text : List Value := [.int 0, .null, .null, .null, .null, .int 0, .int 0, .int 0, .int 0, .int 0, .int 0, .int 0]
theorem fs_Text : ∀ j, j < 12 → defaultValue (tyX7 j) = vp_V df_Text j := by
  intro j hj
  have : j = 0 ∨ j = 1 ∨ j = 2 ∨ j = 3 ∨ j = 4 ∨ j = 5 ∨ j = 6 ∨ j = 7 ∨ j = 8 ∨ j = 9 ∨ j = 10 ∨ j = 11 := by omega
  rcases this with rfl | rfl | rfl | rfl | rfl | rfl | rfl | rfl | rfl | rfl | rfl | rfl <;> rfl
def cC_Text (G : Nat → ClassId) (h q7 q15 q23 q32 : Nat) : va_W := [(h, .inr (6, [.int 0, .ref q7, .ref q15, .ref q23, .ref q32, .int 0, .int 0, .int 0, .int 0, .int 0, .int 0, .int 0])), (q7, .inl (G 0, 24, .inl (fun _ => 0))), (q15, .inl (G 0, 24, .inl (fun _ => 0))), (q23, .inl (G 0, 24, .inl (fun _ => 0))), (q32, .inl (G 0, 300, .inl (fun _ => 0)))]
def eC_Text (G : Nat → ClassId) (h : Nat) (w : va_W) : Prop := ∃ q7 q15 q23 q32, w = cC_Text G h q7 q15 q23 q32
abbrev rm_Text : Room := { frames := 1, cells := 4, slots := 372, locals := 12 }
set_option maxHeartbeats 4000000 in
set_option maxRecDepth 100000 in
theorem ct_Text (l : Launch) : CtM l RX7 prog_9_method_1_code 1 6 df_Text eC_Text rm_Text := by
  refine ct_of l (by decide +kernel) (by decide) (fun D G h p e s m below meth c ls A hx hb hml hr hown hlocks hin hts hK hP hD hA hl => ?_)
  have hS : va_S A s.heap s.heap [] := va_S.rf
  have hP : va_P D vwCl [(h, .inr (6, [.int 0, .null, .null, .null, .null, .int 0, .int 0, .int 0, .int 0, .int 0, .int 0, .int 0]))] s.heap := hP
  have hD : va_D A [(h, .inr (6, [.int 0, .null, .null, .null, .null, .int 0, .int 0, .int 0, .int 0, .int 0, .int 0, .int 0]))] := hD
  refine lv_aload_n hx hb dc_Text_0 rfl (lv_at hl 0 rfl) ?_
  refine W.objInit hx hb hown (hts _ wc_7) (hts _ wc_0) (hts _ wc_1) rfl (by rw [hml]; exact hl.1) rfl dc_Text_1 (Nat.le_of_ble_eq_true rfl) (Nat.le_of_ble_eq_true rfl) ?_
  refine W.eq (g2 := F0 m 4 ls []) rfl ?_
  refine lv_aload_n hx hb dc_Text_4 rfl (lv_at hl 0 rfl) ?_
  refine lv_bipush (v := 24) hx hb dc_Text_5 (by decide) ?_
  refine n_int (G := G) hx hb hts hK.1 hP hD hS hA 24 (by decide) (by decide) (Nat.le_of_ble_eq_true rfl) (Nat.le_of_ble_eq_true rfl) (Nat.le_of_ble_eq_true rfl) dc_Text_7 (fun q7 H hP hD hS => ?_)
  have hP : va_P D vwCl [(h, .inr (6, [.int 0, .null, .null, .null, .null, .int 0, .int 0, .int 0, .int 0, .int 0, .int 0, .int 0])), (q7, .inl (G 0, 24, .inl (fun _ => 0)))] H := hP
  have hD : va_D A [(h, .inr (6, [.int 0, .null, .null, .null, .null, .int 0, .int 0, .int 0, .int 0, .int 0, .int 0, .int 0])), (q7, .inl (G 0, 24, .inl (fun _ => 0)))] := hD
  refine W.widen (k := 1) (n := 24) (Nat.le_of_ble_eq_true rfl) (Nat.le_of_ble_eq_true rfl) ?_
  refine va_putF (D := D) (ci := 6) (v := .ref q7) (ty := (.array .int)) (C := RX7) (T := TX7) (N := 12) hx hb hts wtX7 tyX7 tyX7_ok nmX7 hown hK.1 hP hD hS 0 rfl rfl 1 (by decide) (hts _ wc_8) (fun _ h9 => h9) rfl hin rfl (by decide +kernel) rfl rfl (Nat.le_of_ble_eq_true rfl) dc_Text_9 (fun H locs hP hD hS => ?_)
  have hP : va_P D vwCl [(h, .inr (6, [.int 0, .ref q7, .null, .null, .null, .int 0, .int 0, .int 0, .int 0, .int 0, .int 0, .int 0])), (q7, .inl (G 0, 24, .inl (fun _ => 0)))] H := hP
  have hD : va_D A [(h, .inr (6, [.int 0, .ref q7, .null, .null, .null, .int 0, .int 0, .int 0, .int 0, .int 0, .int 0, .int 0])), (q7, .inl (G 0, 24, .inl (fun _ => 0)))] := hD
  refine lv_aload_n hx hb dc_Text_12 rfl (lv_at hl 0 rfl) ?_
  refine lv_bipush (v := 24) hx hb dc_Text_13 (by decide) ?_
  refine n_int (G := G) hx hb hts hK.1 hP hD hS hA 24 (by decide) (by decide) (Nat.le_of_ble_eq_true rfl) (Nat.le_of_ble_eq_true rfl) (Nat.le_of_ble_eq_true rfl) dc_Text_15 (fun q15 H hP hD hS => ?_)
  have hP : va_P D vwCl [(h, .inr (6, [.int 0, .ref q7, .null, .null, .null, .int 0, .int 0, .int 0, .int 0, .int 0, .int 0, .int 0])), (q7, .inl (G 0, 24, .inl (fun _ => 0))), (q15, .inl (G 0, 24, .inl (fun _ => 0)))] H := hP
  have hD : va_D A [(h, .inr (6, [.int 0, .ref q7, .null, .null, .null, .int 0, .int 0, .int 0, .int 0, .int 0, .int 0, .int 0])), (q7, .inl (G 0, 24, .inl (fun _ => 0))), (q15, .inl (G 0, 24, .inl (fun _ => 0)))] := hD
  refine W.widen (k := 2) (n := 48) (Nat.le_of_ble_eq_true rfl) (Nat.le_of_ble_eq_true rfl) ?_
  refine va_putF (D := D) (ci := 6) (v := .ref q15) (ty := (.array .int)) (C := RX7) (T := TX7) (N := 12) hx hb hts wtX7 tyX7 tyX7_ok nmX7 hown hK.1 hP hD hS 0 rfl rfl 2 (by decide) (hts _ wc_9) (fun _ h9 => h9) rfl hin rfl (by decide +kernel) rfl rfl (Nat.le_of_ble_eq_true rfl) dc_Text_17 (fun H locs hP hD hS => ?_)
  have hP : va_P D vwCl [(h, .inr (6, [.int 0, .ref q7, .ref q15, .null, .null, .int 0, .int 0, .int 0, .int 0, .int 0, .int 0, .int 0])), (q7, .inl (G 0, 24, .inl (fun _ => 0))), (q15, .inl (G 0, 24, .inl (fun _ => 0)))] H := hP
  have hD : va_D A [(h, .inr (6, [.int 0, .ref q7, .ref q15, .null, .null, .int 0, .int 0, .int 0, .int 0, .int 0, .int 0, .int 0])), (q7, .inl (G 0, 24, .inl (fun _ => 0))), (q15, .inl (G 0, 24, .inl (fun _ => 0)))] := hD
  refine lv_aload_n hx hb dc_Text_20 rfl (lv_at hl 0 rfl) ?_
  refine lv_bipush (v := 24) hx hb dc_Text_21 (by decide) ?_
  refine n_int (G := G) hx hb hts hK.1 hP hD hS hA 24 (by decide) (by decide) (Nat.le_of_ble_eq_true rfl) (Nat.le_of_ble_eq_true rfl) (Nat.le_of_ble_eq_true rfl) dc_Text_23 (fun q23 H hP hD hS => ?_)
  have hP : va_P D vwCl [(h, .inr (6, [.int 0, .ref q7, .ref q15, .null, .null, .int 0, .int 0, .int 0, .int 0, .int 0, .int 0, .int 0])), (q7, .inl (G 0, 24, .inl (fun _ => 0))), (q15, .inl (G 0, 24, .inl (fun _ => 0))), (q23, .inl (G 0, 24, .inl (fun _ => 0)))] H := hP
  have hD : va_D A [(h, .inr (6, [.int 0, .ref q7, .ref q15, .null, .null, .int 0, .int 0, .int 0, .int 0, .int 0, .int 0, .int 0])), (q7, .inl (G 0, 24, .inl (fun _ => 0))), (q15, .inl (G 0, 24, .inl (fun _ => 0))), (q23, .inl (G 0, 24, .inl (fun _ => 0)))] := hD
  refine W.widen (k := 3) (n := 72) (Nat.le_of_ble_eq_true rfl) (Nat.le_of_ble_eq_true rfl) ?_
  refine va_putF (D := D) (ci := 6) (v := .ref q23) (ty := (.array .int)) (C := RX7) (T := TX7) (N := 12) hx hb hts wtX7 tyX7 tyX7_ok nmX7 hown hK.1 hP hD hS 0 rfl rfl 3 (by decide) (hts _ wc_10) (fun _ h9 => h9) rfl hin rfl (by decide +kernel) rfl rfl (Nat.le_of_ble_eq_true rfl) dc_Text_25 (fun H locs hP hD hS => ?_)
  have hP : va_P D vwCl [(h, .inr (6, [.int 0, .ref q7, .ref q15, .ref q23, .null, .int 0, .int 0, .int 0, .int 0, .int 0, .int 0, .int 0])), (q7, .inl (G 0, 24, .inl (fun _ => 0))), (q15, .inl (G 0, 24, .inl (fun _ => 0))), (q23, .inl (G 0, 24, .inl (fun _ => 0)))] H := hP
  have hD : va_D A [(h, .inr (6, [.int 0, .ref q7, .ref q15, .ref q23, .null, .int 0, .int 0, .int 0, .int 0, .int 0, .int 0, .int 0])), (q7, .inl (G 0, 24, .inl (fun _ => 0))), (q15, .inl (G 0, 24, .inl (fun _ => 0))), (q23, .inl (G 0, 24, .inl (fun _ => 0)))] := hD
  refine lv_aload_n hx hb dc_Text_28 rfl (lv_at hl 0 rfl) ?_
  refine lv_sipush (v := 300) hx hb dc_Text_29 (by decide) ?_
  refine n_int (G := G) hx hb hts hK.1 hP hD hS hA 300 (by decide) (by decide) (Nat.le_of_ble_eq_true rfl) (Nat.le_of_ble_eq_true rfl) (Nat.le_of_ble_eq_true rfl) dc_Text_32 (fun q32 H hP hD hS => ?_)
  have hP : va_P D vwCl [(h, .inr (6, [.int 0, .ref q7, .ref q15, .ref q23, .null, .int 0, .int 0, .int 0, .int 0, .int 0, .int 0, .int 0])), (q7, .inl (G 0, 24, .inl (fun _ => 0))), (q15, .inl (G 0, 24, .inl (fun _ => 0))), (q23, .inl (G 0, 24, .inl (fun _ => 0))), (q32, .inl (G 0, 300, .inl (fun _ => 0)))] H := hP
  have hD : va_D A [(h, .inr (6, [.int 0, .ref q7, .ref q15, .ref q23, .null, .int 0, .int 0, .int 0, .int 0, .int 0, .int 0, .int 0])), (q7, .inl (G 0, 24, .inl (fun _ => 0))), (q15, .inl (G 0, 24, .inl (fun _ => 0))), (q23, .inl (G 0, 24, .inl (fun _ => 0))), (q32, .inl (G 0, 300, .inl (fun _ => 0)))] := hD
  refine W.widen (k := 4) (n := 372) (Nat.le_of_ble_eq_true rfl) (Nat.le_of_ble_eq_true rfl) ?_
  refine va_putF (D := D) (ci := 6) (v := .ref q32) (ty := (.array .int)) (C := RX7) (T := TX7) (N := 12) hx hb hts wtX7 tyX7 tyX7_ok nmX7 hown hK.1 hP hD hS 0 rfl rfl 4 (by decide) (hts _ wc_11) (fun _ h9 => h9) rfl hin rfl (by decide +kernel) rfl rfl (Nat.le_of_ble_eq_true rfl) dc_Text_34 (fun H locs hP hD hS => ?_)
  have hP : va_P D vwCl [(h, .inr (6, [.int 0, .ref q7, .ref q15, .ref q23, .ref q32, .int 0, .int 0, .int 0, .int 0, .int 0, .int 0, .int 0])), (q7, .inl (G 0, 24, .inl (fun _ => 0))), (q15, .inl (G 0, 24, .inl (fun _ => 0))), (q23, .inl (G 0, 24, .inl (fun _ => 0))), (q32, .inl (G 0, 300, .inl (fun _ => 0)))] H := hP
  have hD : va_D A [(h, .inr (6, [.int 0, .ref q7, .ref q15, .ref q23, .ref q32, .int 0, .int 0, .int 0, .int 0, .int 0, .int 0, .int 0])), (q7, .inl (G 0, 24, .inl (fun _ => 0))), (q15, .inl (G 0, 24, .inl (fun _ => 0))), (q23, .inl (G 0, 24, .inl (fun _ => 0))), (q32, .inl (G 0, 300, .inl (fun _ => 0)))] := hD
  exact ct_ret hx hb hr hlocks hS _ ⟨q7, q15, q23, q32, rfl⟩ hP hD dc_Text_37
theorem wtX2 : ∀ w ∈ u_ws RX2 TX2 3, w ∈ WT := fun w hw => WT_in (inX2 w hw) ((by decide +kernel : ∀ w ∈ u_ws RX2 TX2 3, goodWord w = true) w hw)
theorem dc_Judge_0 : decode prog_4_method_1_code 0 = .ok (.aload_n 0, 1) := by decide +kernel
theorem dc_Judge_1 : decode prog_4_method_1_code 1 = .ok (.invokespecial 3, 3) := by decide +kernel
theorem dc_Judge_4 : decode prog_4_method_1_code 4 = .ok (.aload_n 0, 1) := by decide +kernel
theorem dc_Judge_5 : decode prog_4_method_1_code 5 = .ok (.bipush 7, 2) := by decide +kernel
theorem dc_Judge_7 : decode prog_4_method_1_code 7 = .ok (.newarray .int, 2) := by decide +kernel
theorem dc_Judge_9 : decode prog_4_method_1_code 9 = .ok (.putfield 9, 3) := by decide +kernel
theorem dc_Judge_12 : decode prog_4_method_1_code 12 = .ok (.aload_n 0, 1) := by decide +kernel
theorem dc_Judge_13 : decode prog_4_method_1_code 13 = .ok (.sipush 300, 3) := by decide +kernel
theorem dc_Judge_16 : decode prog_4_method_1_code 16 = .ok (.newarray .int, 2) := by decide +kernel
theorem dc_Judge_18 : decode prog_4_method_1_code 18 = .ok (.putfield 15, 3) := by decide +kernel
theorem dc_Judge_21 : decode prog_4_method_1_code 21 = .ok (.return_, 1) := by decide +kernel
def df_Judge : List Value := [.null, .null, .int 0]
theorem fs_Judge : ∀ j, j < 3 → defaultValue (tyX2 j) = vp_V df_Judge j := by
  intro j hj
  have : j = 0 ∨ j = 1 ∨ j = 2 := by omega
  rcases this with rfl | rfl | rfl <;> rfl
def cC_Judge (G : Nat → ClassId) (h q7 q16 : Nat) : va_W := [(h, .inr (2, [.ref q7, .ref q16, .int 0])), (q7, .inl (G 0, 7, .inl (fun _ => 0))), (q16, .inl (G 0, 300, .inl (fun _ => 0)))]
def eC_Judge (G : Nat → ClassId) (h : Nat) (w : va_W) : Prop := ∃ q7 q16, w = cC_Judge G h q7 q16
abbrev rm_Judge : Room := { frames := 1, cells := 2, slots := 307, locals := 12 }
set_option maxHeartbeats 4000000 in
set_option maxRecDepth 100000 in
theorem ct_Judge (l : Launch) : CtM l RX2 prog_4_method_1_code 1 2 df_Judge eC_Judge rm_Judge := by
  refine ct_of l (by decide +kernel) (by decide) (fun D G h p e s m below meth c ls A hx hb hml hr hown hlocks hin hts hK hP hD hA hl => ?_)
  have hS : va_S A s.heap s.heap [] := va_S.rf
  have hP : va_P D vwCl [(h, .inr (2, [.null, .null, .int 0]))] s.heap := hP
  have hD : va_D A [(h, .inr (2, [.null, .null, .int 0]))] := hD
  refine lv_aload_n hx hb dc_Judge_0 rfl (lv_at hl 0 rfl) ?_
  refine W.objInit hx hb hown (hts _ wc_12) (hts _ wc_0) (hts _ wc_1) rfl (by rw [hml]; exact hl.1) rfl dc_Judge_1 (Nat.le_of_ble_eq_true rfl) (Nat.le_of_ble_eq_true rfl) ?_
  refine W.eq (g2 := F0 m 4 ls []) rfl ?_
  refine lv_aload_n hx hb dc_Judge_4 rfl (lv_at hl 0 rfl) ?_
  refine lv_bipush (v := 7) hx hb dc_Judge_5 (by decide) ?_
  refine n_int (G := G) hx hb hts hK.1 hP hD hS hA 7 (by decide) (by decide) (Nat.le_of_ble_eq_true rfl) (Nat.le_of_ble_eq_true rfl) (Nat.le_of_ble_eq_true rfl) dc_Judge_7 (fun q7 H hP hD hS => ?_)
  have hP : va_P D vwCl [(h, .inr (2, [.null, .null, .int 0])), (q7, .inl (G 0, 7, .inl (fun _ => 0)))] H := hP
  have hD : va_D A [(h, .inr (2, [.null, .null, .int 0])), (q7, .inl (G 0, 7, .inl (fun _ => 0)))] := hD
  refine W.widen (k := 1) (n := 7) (Nat.le_of_ble_eq_true rfl) (Nat.le_of_ble_eq_true rfl) ?_
  refine va_putF (D := D) (ci := 2) (v := .ref q7) (ty := (.array .int)) (C := RX2) (T := TX2) (N := 3) hx hb hts wtX2 tyX2 tyX2_ok nmX2 hown hK.1 hP hD hS 0 rfl rfl 0 (by decide) (hts _ wc_13) (fun _ h9 => h9) rfl hin rfl (by decide +kernel) rfl rfl (Nat.le_of_ble_eq_true rfl) dc_Judge_9 (fun H locs hP hD hS => ?_)
  have hP : va_P D vwCl [(h, .inr (2, [.ref q7, .null, .int 0])), (q7, .inl (G 0, 7, .inl (fun _ => 0)))] H := hP
  have hD : va_D A [(h, .inr (2, [.ref q7, .null, .int 0])), (q7, .inl (G 0, 7, .inl (fun _ => 0)))] := hD
  refine lv_aload_n hx hb dc_Judge_12 rfl (lv_at hl 0 rfl) ?_
  refine lv_sipush (v := 300) hx hb dc_Judge_13 (by decide) ?_
  refine n_int (G := G) hx hb hts hK.1 hP hD hS hA 300 (by decide) (by decide) (Nat.le_of_ble_eq_true rfl) (Nat.le_of_ble_eq_true rfl) (Nat.le_of_ble_eq_true rfl) dc_Judge_16 (fun q16 H hP hD hS => ?_)
  have hP : va_P D vwCl [(h, .inr (2, [.ref q7, .null, .int 0])), (q7, .inl (G 0, 7, .inl (fun _ => 0))), (q16, .inl (G 0, 300, .inl (fun _ => 0)))] H := hP
  have hD : va_D A [(h, .inr (2, [.ref q7, .null, .int 0])), (q7, .inl (G 0, 7, .inl (fun _ => 0))), (q16, .inl (G 0, 300, .inl (fun _ => 0)))] := hD
  refine W.widen (k := 2) (n := 307) (Nat.le_of_ble_eq_true rfl) (Nat.le_of_ble_eq_true rfl) ?_
  refine va_putF (D := D) (ci := 2) (v := .ref q16) (ty := (.array .int)) (C := RX2) (T := TX2) (N := 3) hx hb hts wtX2 tyX2 tyX2_ok nmX2 hown hK.1 hP hD hS 0 rfl rfl 1 (by decide) (hts _ wc_14) (fun _ h9 => h9) rfl hin rfl (by decide +kernel) rfl rfl (Nat.le_of_ble_eq_true rfl) dc_Judge_18 (fun H locs hP hD hS => ?_)
  have hP : va_P D vwCl [(h, .inr (2, [.ref q7, .ref q16, .int 0])), (q7, .inl (G 0, 7, .inl (fun _ => 0))), (q16, .inl (G 0, 300, .inl (fun _ => 0)))] H := hP
  have hD : va_D A [(h, .inr (2, [.ref q7, .ref q16, .int 0])), (q7, .inl (G 0, 7, .inl (fun _ => 0))), (q16, .inl (G 0, 300, .inl (fun _ => 0)))] := hD
  exact ct_ret hx hb hr hlocks hS _ ⟨q7, q16, rfl⟩ hP hD dc_Judge_21
theorem wtX1 : ∀ w ∈ u_ws RX1 TX1 1, w ∈ WT := fun w hw => WT_in (inX1 w hw) ((by decide +kernel : ∀ w ∈ u_ws RX1 TX1 1, goodWord w = true) w hw)
theorem dc_Hands_0 : decode prog_3_method_1_code 0 = .ok (.aload_n 0, 1) := by decide +kernel
theorem dc_Hands_1 : decode prog_3_method_1_code 1 = .ok (.invokespecial 3, 3) := by decide +kernel
theorem dc_Hands_4 : decode prog_3_method_1_code 4 = .ok (.aload_n 0, 1) := by decide +kernel
theorem dc_Hands_5 : decode prog_3_method_1_code 5 = .ok (.bipush 32, 2) := by decide +kernel
theorem dc_Hands_7 : decode prog_3_method_1_code 7 = .ok (.newarray .long, 2) := by decide +kernel
theorem dc_Hands_9 : decode prog_3_method_1_code 9 = .ok (.putfield 9, 3) := by decide +kernel
theorem dc_Hands_12 : decode prog_3_method_1_code 12 = .ok (.return_, 1) := by decide +kernel
def df_Hands : List Value := [.null]
theorem fs_Hands : ∀ j, j < 1 → defaultValue (tyX1 j) = vp_V df_Hands j := by
  intro j hj
  have : j = 0 := by omega
  rcases this with rfl <;> rfl
def cC_Hands (G : Nat → ClassId) (h q7 : Nat) : va_W := [(h, .inr (1, [.ref q7])), (q7, .inl (G 1, 32, .inr (.inl (fun _ => 0))))]
def eC_Hands (G : Nat → ClassId) (h : Nat) (w : va_W) : Prop := ∃ q7, w = cC_Hands G h q7
abbrev rm_Hands : Room := { frames := 1, cells := 1, slots := 32, locals := 12 }
set_option maxHeartbeats 4000000 in
set_option maxRecDepth 100000 in
theorem ct_Hands (l : Launch) : CtM l RX1 prog_3_method_1_code 1 1 df_Hands eC_Hands rm_Hands := by
  refine ct_of l (by decide +kernel) (by decide) (fun D G h p e s m below meth c ls A hx hb hml hr hown hlocks hin hts hK hP hD hA hl => ?_)
  have hS : va_S A s.heap s.heap [] := va_S.rf
  have hP : va_P D vwCl [(h, .inr (1, [.null]))] s.heap := hP
  have hD : va_D A [(h, .inr (1, [.null]))] := hD
  refine lv_aload_n hx hb dc_Hands_0 rfl (lv_at hl 0 rfl) ?_
  refine W.objInit hx hb hown (hts _ wc_15) (hts _ wc_0) (hts _ wc_1) rfl (by rw [hml]; exact hl.1) rfl dc_Hands_1 (Nat.le_of_ble_eq_true rfl) (Nat.le_of_ble_eq_true rfl) ?_
  refine W.eq (g2 := F0 m 4 ls []) rfl ?_
  refine lv_aload_n hx hb dc_Hands_4 rfl (lv_at hl 0 rfl) ?_
  refine lv_bipush (v := 32) hx hb dc_Hands_5 (by decide) ?_
  refine n_long (G := G) hx hb hts hK.1 hP hD hS hA 32 (by decide) (by decide) (Nat.le_of_ble_eq_true rfl) (Nat.le_of_ble_eq_true rfl) (Nat.le_of_ble_eq_true rfl) dc_Hands_7 (fun q7 H hP hD hS => ?_)
  have hP : va_P D vwCl [(h, .inr (1, [.null])), (q7, .inl (G 1, 32, .inr (.inl (fun _ => 0))))] H := hP
  have hD : va_D A [(h, .inr (1, [.null])), (q7, .inl (G 1, 32, .inr (.inl (fun _ => 0))))] := hD
  refine W.widen (k := 1) (n := 32) (Nat.le_of_ble_eq_true rfl) (Nat.le_of_ble_eq_true rfl) ?_
  refine va_putF (D := D) (ci := 1) (v := .ref q7) (ty := (.array .long)) (C := RX1) (T := TX1) (N := 1) hx hb hts wtX1 tyX1 tyX1_ok nmX1 hown hK.1 hP hD hS 0 rfl rfl 0 (by decide) (hts _ wc_16) (fun _ h9 => h9) rfl hin rfl (by decide +kernel) rfl rfl (Nat.le_of_ble_eq_true rfl) dc_Hands_9 (fun H locs hP hD hS => ?_)
  have hP : va_P D vwCl [(h, .inr (1, [.ref q7])), (q7, .inl (G 1, 32, .inr (.inl (fun _ => 0))))] H := hP
  have hD : va_D A [(h, .inr (1, [.ref q7])), (q7, .inl (G 1, 32, .inr (.inl (fun _ => 0))))] := hD
  exact ct_ret hx hb hr hlocks hS _ ⟨q7, rfl⟩ hP hD dc_Hands_12
theorem wtX4 : ∀ w ∈ u_ws RX4 TX4 3, w ∈ WT := fun w hw => WT_in (inX4 w hw) ((by decide +kernel : ∀ w ∈ u_ws RX4 TX4 3, goodWord w = true) w hw)
theorem dc_Maze_0 : decode prog_6_method_1_code 0 = .ok (.aload_n 0, 1) := by decide +kernel
theorem dc_Maze_1 : decode prog_6_method_1_code 1 = .ok (.invokespecial 3, 3) := by decide +kernel
theorem dc_Maze_4 : decode prog_6_method_1_code 4 = .ok (.aload_n 0, 1) := by decide +kernel
theorem dc_Maze_5 : decode prog_6_method_1_code 5 = .ok (.bipush 25, 2) := by decide +kernel
theorem dc_Maze_7 : decode prog_6_method_1_code 7 = .ok (.newarray .int, 2) := by decide +kernel
theorem dc_Maze_9 : decode prog_6_method_1_code 9 = .ok (.putfield 9, 3) := by decide +kernel
theorem dc_Maze_12 : decode prog_6_method_1_code 12 = .ok (.return_, 1) := by decide +kernel
def df_Maze : List Value := [.int 0, .int 0, .null]
theorem fs_Maze : ∀ j, j < 3 → defaultValue (tyX4 j) = vp_V df_Maze j := by
  intro j hj
  have : j = 0 ∨ j = 1 ∨ j = 2 := by omega
  rcases this with rfl | rfl | rfl <;> rfl
def cC_Maze (G : Nat → ClassId) (h q7 : Nat) : va_W := [(h, .inr (4, [.int 0, .int 0, .ref q7])), (q7, .inl (G 0, 25, .inl (fun _ => 0)))]
def eC_Maze (G : Nat → ClassId) (h : Nat) (w : va_W) : Prop := ∃ q7, w = cC_Maze G h q7
abbrev rm_Maze : Room := { frames := 1, cells := 1, slots := 25, locals := 12 }
set_option maxHeartbeats 4000000 in
set_option maxRecDepth 100000 in
theorem ct_Maze (l : Launch) : CtM l RX4 prog_6_method_1_code 1 4 df_Maze eC_Maze rm_Maze := by
  refine ct_of l (by decide +kernel) (by decide) (fun D G h p e s m below meth c ls A hx hb hml hr hown hlocks hin hts hK hP hD hA hl => ?_)
  have hS : va_S A s.heap s.heap [] := va_S.rf
  have hP : va_P D vwCl [(h, .inr (4, [.int 0, .int 0, .null]))] s.heap := hP
  have hD : va_D A [(h, .inr (4, [.int 0, .int 0, .null]))] := hD
  refine lv_aload_n hx hb dc_Maze_0 rfl (lv_at hl 0 rfl) ?_
  refine W.objInit hx hb hown (hts _ wc_17) (hts _ wc_0) (hts _ wc_1) rfl (by rw [hml]; exact hl.1) rfl dc_Maze_1 (Nat.le_of_ble_eq_true rfl) (Nat.le_of_ble_eq_true rfl) ?_
  refine W.eq (g2 := F0 m 4 ls []) rfl ?_
  refine lv_aload_n hx hb dc_Maze_4 rfl (lv_at hl 0 rfl) ?_
  refine lv_bipush (v := 25) hx hb dc_Maze_5 (by decide) ?_
  refine n_int (G := G) hx hb hts hK.1 hP hD hS hA 25 (by decide) (by decide) (Nat.le_of_ble_eq_true rfl) (Nat.le_of_ble_eq_true rfl) (Nat.le_of_ble_eq_true rfl) dc_Maze_7 (fun q7 H hP hD hS => ?_)
  have hP : va_P D vwCl [(h, .inr (4, [.int 0, .int 0, .null])), (q7, .inl (G 0, 25, .inl (fun _ => 0)))] H := hP
  have hD : va_D A [(h, .inr (4, [.int 0, .int 0, .null])), (q7, .inl (G 0, 25, .inl (fun _ => 0)))] := hD
  refine W.widen (k := 1) (n := 25) (Nat.le_of_ble_eq_true rfl) (Nat.le_of_ble_eq_true rfl) ?_
  refine va_putF (D := D) (ci := 4) (v := .ref q7) (ty := (.array .int)) (C := RX4) (T := TX4) (N := 3) hx hb hts wtX4 tyX4 tyX4_ok nmX4 hown hK.1 hP hD hS 0 rfl rfl 2 (by decide) (hts _ wc_18) (fun _ h9 => h9) rfl hin rfl (by decide +kernel) rfl rfl (Nat.le_of_ble_eq_true rfl) dc_Maze_9 (fun H locs hP hD hS => ?_)
  have hP : va_P D vwCl [(h, .inr (4, [.int 0, .int 0, .ref q7])), (q7, .inl (G 0, 25, .inl (fun _ => 0)))] H := hP
  have hD : va_D A [(h, .inr (4, [.int 0, .int 0, .ref q7])), (q7, .inl (G 0, 25, .inl (fun _ => 0)))] := hD
  exact ct_ret hx hb hr hlocks hS _ ⟨q7, rfl⟩ hP hD dc_Maze_12
theorem wtX6 : ∀ w ∈ u_ws RX6 TX6 12, w ∈ WT := fun w hw => WT_in (inX6 w hw) ((by decide +kernel : ∀ w ∈ u_ws RX6 TX6 12, goodWord w = true) w hw)
theorem dc_Reader_0 : decode prog_8_method_1_code 0 = .ok (.aload_n 0, 1) := by decide +kernel
theorem dc_Reader_1 : decode prog_8_method_1_code 1 = .ok (.invokespecial 3, 3) := by decide +kernel
theorem dc_Reader_4 : decode prog_8_method_1_code 4 = .ok (.aload_n 0, 1) := by decide +kernel
theorem dc_Reader_5 : decode prog_8_method_1_code 5 = .ok (.sipush 300, 3) := by decide +kernel
theorem dc_Reader_8 : decode prog_8_method_1_code 8 = .ok (.newarray .int, 2) := by decide +kernel
theorem dc_Reader_10 : decode prog_8_method_1_code 10 = .ok (.putfield 9, 3) := by decide +kernel
theorem dc_Reader_13 : decode prog_8_method_1_code 13 = .ok (.aload_n 0, 1) := by decide +kernel
theorem dc_Reader_14 : decode prog_8_method_1_code 14 = .ok (.new 15, 3) := by decide +kernel
theorem dc_Reader_17 : decode prog_8_method_1_code 17 = .ok (.dup, 1) := by decide +kernel
theorem dc_Reader_18 : decode prog_8_method_1_code 18 = .ok (.invokespecial 17, 3) := by decide +kernel
theorem dc_Reader_21 : decode prog_8_method_1_code 21 = .ok (.putfield 18, 3) := by decide +kernel
theorem dc_Reader_24 : decode prog_8_method_1_code 24 = .ok (.return_, 1) := by decide +kernel
def df_Reader : List Value := [.null, .int 0, .null, .int 0, .int 0, .int 0, .int 0, .int 0, .int 0, .int 0, .int 0, .int 0]
theorem fs_Reader : ∀ j, j < 12 → defaultValue (tyX6 j) = vp_V df_Reader j := by
  intro j hj
  have : j = 0 ∨ j = 1 ∨ j = 2 ∨ j = 3 ∨ j = 4 ∨ j = 5 ∨ j = 6 ∨ j = 7 ∨ j = 8 ∨ j = 9 ∨ j = 10 ∨ j = 11 := by omega
  rcases this with rfl | rfl | rfl | rfl | rfl | rfl | rfl | rfl | rfl | rfl | rfl | rfl <;> rfl
def cC_Reader (G : Nat → ClassId) (h q8 h14 h14_0 h14_1 h14_2 h14_3 : Nat) : va_W := [(h, .inr (5, [.ref q8, .int 0, .ref h14, .int 0, .int 0, .int 0, .int 0, .int 0, .int 0, .int 0, .int 0, .int 0])), (q8, .inl (G 0, 300, .inl (fun _ => 0))), (h14, .inr (6, [.int 0, .ref h14_0, .ref h14_1, .ref h14_2, .ref h14_3, .int 0, .int 0, .int 0, .int 0, .int 0, .int 0, .int 0])), (h14_0, .inl (G 0, 24, .inl (fun _ => 0))), (h14_1, .inl (G 0, 24, .inl (fun _ => 0))), (h14_2, .inl (G 0, 24, .inl (fun _ => 0))), (h14_3, .inl (G 0, 300, .inl (fun _ => 0)))]
def eC_Reader (G : Nat → ClassId) (h : Nat) (w : va_W) : Prop := ∃ q8 h14 h14_0 h14_1 h14_2 h14_3, w = cC_Reader G h q8 h14 h14_0 h14_1 h14_2 h14_3
abbrev rm_Reader : Room := { frames := 3, cells := 6, slots := 684, locals := 64 }
set_option maxHeartbeats 4000000 in
set_option maxRecDepth 100000 in
theorem ct_Reader (l : Launch) : CtM l RX6 prog_8_method_1_code 1 5 df_Reader eC_Reader rm_Reader := by
  refine ct_of l (by decide +kernel) (by decide) (fun D G h p e s m below meth c ls A hx hb hml hr hown hlocks hin hts hK hP hD hA hl => ?_)
  have hS : va_S A s.heap s.heap [] := va_S.rf
  have hP : va_P D vwCl [(h, .inr (5, [.null, .int 0, .null, .int 0, .int 0, .int 0, .int 0, .int 0, .int 0, .int 0, .int 0, .int 0]))] s.heap := hP
  have hD : va_D A [(h, .inr (5, [.null, .int 0, .null, .int 0, .int 0, .int 0, .int 0, .int 0, .int 0, .int 0, .int 0, .int 0]))] := hD
  refine lv_aload_n hx hb dc_Reader_0 rfl (lv_at hl 0 rfl) ?_
  refine W.objInit hx hb hown (hts _ wc_19) (hts _ wc_0) (hts _ wc_1) rfl (by rw [hml]; exact hl.1) rfl dc_Reader_1 (Nat.le_of_ble_eq_true rfl) (Nat.le_of_ble_eq_true rfl) ?_
  refine W.eq (g2 := F0 m 4 ls []) rfl ?_
  refine lv_aload_n hx hb dc_Reader_4 rfl (lv_at hl 0 rfl) ?_
  refine lv_sipush (v := 300) hx hb dc_Reader_5 (by decide) ?_
  refine n_int (G := G) hx hb hts hK.1 hP hD hS hA 300 (by decide) (by decide) (Nat.le_of_ble_eq_true rfl) (Nat.le_of_ble_eq_true rfl) (Nat.le_of_ble_eq_true rfl) dc_Reader_8 (fun q8 H hP hD hS => ?_)
  have hP : va_P D vwCl [(h, .inr (5, [.null, .int 0, .null, .int 0, .int 0, .int 0, .int 0, .int 0, .int 0, .int 0, .int 0, .int 0])), (q8, .inl (G 0, 300, .inl (fun _ => 0)))] H := hP
  have hD : va_D A [(h, .inr (5, [.null, .int 0, .null, .int 0, .int 0, .int 0, .int 0, .int 0, .int 0, .int 0, .int 0, .int 0])), (q8, .inl (G 0, 300, .inl (fun _ => 0)))] := hD
  refine W.widen (k := 1) (n := 300) (Nat.le_of_ble_eq_true rfl) (Nat.le_of_ble_eq_true rfl) ?_
  refine va_putF (D := D) (ci := 5) (v := .ref q8) (ty := (.array .int)) (C := RX6) (T := TX6) (N := 12) hx hb hts wtX6 tyX6 tyX6_ok nmX6 hown hK.1 hP hD hS 0 rfl rfl 0 (by decide) (hts _ wc_20) (fun _ h9 => h9) rfl hin rfl (by decide +kernel) rfl rfl (Nat.le_of_ble_eq_true rfl) dc_Reader_10 (fun H locs hP hD hS => ?_)
  have hP : va_P D vwCl [(h, .inr (5, [.ref q8, .int 0, .null, .int 0, .int 0, .int 0, .int 0, .int 0, .int 0, .int 0, .int 0, .int 0])), (q8, .inl (G 0, 300, .inl (fun _ => 0)))] H := hP
  have hD : va_D A [(h, .inr (5, [.ref q8, .int 0, .null, .int 0, .int 0, .int 0, .int 0, .int 0, .int 0, .int 0, .int 0, .int 0])), (q8, .inl (G 0, 300, .inl (fun _ => 0)))] := hD
  refine lv_aload_n hx hb dc_Reader_13 rfl (lv_at hl 0 rfl) ?_
  refine ct_new (G := G) (ci := 6) (T := TX7) (ty := tyX7) hx hb hml hown hts hK hP hD hS hA hl.1 wtX7 tyX7_ok rfl fs_Text wc_21 wc_22 wc_23 wc_24 wc_25 (Or.inr (by decide +kernel)) (by decide) (ct_Text l) ⟨Nat.le_of_ble_eq_true rfl, Nat.le_of_ble_eq_true rfl⟩ ⟨Nat.le_of_ble_eq_true rfl, Nat.le_of_ble_eq_true rfl⟩ (Nat.le_of_ble_eq_true rfl) dc_Reader_14 dc_Reader_17 dc_Reader_18 (fun h14 wn H locs hE hP hD hS => ?_)
  obtain ⟨h14_0, h14_1, h14_2, h14_3, rfl⟩ := hE
  have hP : va_P D vwCl [(h, .inr (5, [.ref q8, .int 0, .null, .int 0, .int 0, .int 0, .int 0, .int 0, .int 0, .int 0, .int 0, .int 0])), (q8, .inl (G 0, 300, .inl (fun _ => 0))), (h14, .inr (6, [.int 0, .ref h14_0, .ref h14_1, .ref h14_2, .ref h14_3, .int 0, .int 0, .int 0, .int 0, .int 0, .int 0, .int 0])), (h14_0, .inl (G 0, 24, .inl (fun _ => 0))), (h14_1, .inl (G 0, 24, .inl (fun _ => 0))), (h14_2, .inl (G 0, 24, .inl (fun _ => 0))), (h14_3, .inl (G 0, 300, .inl (fun _ => 0)))] H := hP
  have hD : va_D A [(h, .inr (5, [.ref q8, .int 0, .null, .int 0, .int 0, .int 0, .int 0, .int 0, .int 0, .int 0, .int 0, .int 0])), (q8, .inl (G 0, 300, .inl (fun _ => 0))), (h14, .inr (6, [.int 0, .ref h14_0, .ref h14_1, .ref h14_2, .ref h14_3, .int 0, .int 0, .int 0, .int 0, .int 0, .int 0, .int 0])), (h14_0, .inl (G 0, 24, .inl (fun _ => 0))), (h14_1, .inl (G 0, 24, .inl (fun _ => 0))), (h14_2, .inl (G 0, 24, .inl (fun _ => 0))), (h14_3, .inl (G 0, 300, .inl (fun _ => 0)))] := hD
  refine W.widen (k := 6) (n := 684) (Nat.le_of_ble_eq_true rfl) (Nat.le_of_ble_eq_true rfl) ?_
  refine va_putF (D := D) (ci := 5) (v := .ref h14) (ty := (.object "ThumbHedges$Text")) (C := RX6) (T := TX6) (N := 12) hx hb hts wtX6 tyX6 tyX6_ok nmX6 hown hK.1 hP hD hS 0 rfl rfl 2 (by decide) (hts _ wc_26) (fun _ h9 => h9) rfl hin rfl (by decide +kernel) rfl rfl (Nat.le_of_ble_eq_true rfl) dc_Reader_21 (fun H locs hP hD hS => ?_)
  have hP : va_P D vwCl [(h, .inr (5, [.ref q8, .int 0, .ref h14, .int 0, .int 0, .int 0, .int 0, .int 0, .int 0, .int 0, .int 0, .int 0])), (q8, .inl (G 0, 300, .inl (fun _ => 0))), (h14, .inr (6, [.int 0, .ref h14_0, .ref h14_1, .ref h14_2, .ref h14_3, .int 0, .int 0, .int 0, .int 0, .int 0, .int 0, .int 0])), (h14_0, .inl (G 0, 24, .inl (fun _ => 0))), (h14_1, .inl (G 0, 24, .inl (fun _ => 0))), (h14_2, .inl (G 0, 24, .inl (fun _ => 0))), (h14_3, .inl (G 0, 300, .inl (fun _ => 0)))] H := hP
  have hD : va_D A [(h, .inr (5, [.ref q8, .int 0, .ref h14, .int 0, .int 0, .int 0, .int 0, .int 0, .int 0, .int 0, .int 0, .int 0])), (q8, .inl (G 0, 300, .inl (fun _ => 0))), (h14, .inr (6, [.int 0, .ref h14_0, .ref h14_1, .ref h14_2, .ref h14_3, .int 0, .int 0, .int 0, .int 0, .int 0, .int 0, .int 0])), (h14_0, .inl (G 0, 24, .inl (fun _ => 0))), (h14_1, .inl (G 0, 24, .inl (fun _ => 0))), (h14_2, .inl (G 0, 24, .inl (fun _ => 0))), (h14_3, .inl (G 0, 300, .inl (fun _ => 0)))] := hD
  exact ct_ret hx hb hr hlocks hS _ ⟨q8, h14, h14_0, h14_1, h14_2, h14_3, rfl⟩ hP hD dc_Reader_24
