/-! MAKING: the model -/
theorem wm_38 : Cond.methodLink RX9 1 Lib.objectInit ∈ WT := WT_in (mem_places (ws := [Cond.methodLink RX9 1 Lib.objectInit]) [1272] (by decide +kernel) _ (List.mem_singleton.mpr rfl)) rfl
theorem wm_39 : Cond.fieldLink RX9 7 "ThumbHedgesModel" "a" "[I" ∈ WT := WT_in (mem_places (ws := [Cond.fieldLink RX9 7 "ThumbHedgesModel" "a" "[I"]) [1295] (by decide +kernel) _ (List.mem_singleton.mpr rfl)) rfl
theorem wm_40 : Cond.fieldLink RX9 13 "ThumbHedgesModel" "image" "[I" ∈ WT := WT_in (mem_places (ws := [Cond.fieldLink RX9 13 "ThumbHedgesModel" "image" "[I"]) [1296] (by decide +kernel) _ (List.mem_singleton.mpr rfl)) rfl
theorem wm_41 : Cond.fieldLink RX9 16 "ThumbHedgesModel" "texts" "[I" ∈ WT := WT_in (mem_places (ws := [Cond.fieldLink RX9 16 "ThumbHedgesModel" "texts" "[I"]) [1297] (by decide +kernel) _ (List.mem_singleton.mpr rfl)) rfl
theorem wm_42 : Cond.fieldLink RX9 19 "ThumbHedgesModel" "turns" "[I" ∈ WT := WT_in (mem_places (ws := [Cond.fieldLink RX9 19 "ThumbHedgesModel" "turns" "[I"]) [1298] (by decide +kernel) _ (List.mem_singleton.mpr rfl)) rfl
theorem wm_43 : Cond.fieldLink RX9 22 "ThumbHedgesModel" "tape" "[I" ∈ WT := WT_in (mem_places (ws := [Cond.fieldLink RX9 22 "ThumbHedgesModel" "tape" "[I"]) [1299] (by decide +kernel) _ (List.mem_singleton.mpr rfl)) rfl
theorem wm_44 : Cond.fieldLink RX9 25 "ThumbHedgesModel" "fault" "I" ∈ WT := WT_in (mem_places (ws := [Cond.fieldLink RX9 25 "ThumbHedgesModel" "fault" "I"]) [1301] (by decide +kernel) _ (List.mem_singleton.mpr rfl)) rfl
theorem wm_45 : Cond.fieldLink RX9 29 "ThumbHedgesModel" "faultPlace" "I" ∈ WT := WT_in (mem_places (ws := [Cond.fieldLink RX9 29 "ThumbHedgesModel" "faultPlace" "I"]) [1302] (by decide +kernel) _ (List.mem_singleton.mpr rfl)) rfl
theorem wm_46 : Cond.fieldLink RX9 32 "ThumbHedgesModel" "pile" "[I" ∈ WT := WT_in (mem_places (ws := [Cond.fieldLink RX9 32 "ThumbHedgesModel" "pile" "[I"]) [1311] (by decide +kernel) _ (List.mem_singleton.mpr rfl)) rfl
theorem wm_47 : Cond.fieldLink RX9 35 "ThumbHedgesModel" "named" "[I" ∈ WT := WT_in (mem_places (ws := [Cond.fieldLink RX9 35 "ThumbHedgesModel" "named" "[I"]) [1316] (by decide +kernel) _ (List.mem_singleton.mpr rfl)) rfl
theorem wm_48 : Cond.fieldLink RX9 38 "ThumbHedgesModel" "values" "[J" ∈ WT := WT_in (mem_places (ws := [Cond.fieldLink RX9 38 "ThumbHedgesModel" "values" "[J"]) [1317] (by decide +kernel) _ (List.mem_singleton.mpr rfl)) rfl
theorem wm_49 : Cond.fieldLink RX9 42 "ThumbHedgesModel" "truth" "[Z" ∈ WT := WT_in (mem_places (ws := [Cond.fieldLink RX9 42 "ThumbHedgesModel" "truth" "[Z"]) [1318] (by decide +kernel) _ (List.mem_singleton.mpr rfl)) rfl
theorem wm_50 : Cond.fieldLink RX9 46 "ThumbHedgesModel" "isWritten" "Z" ∈ WT := WT_in (mem_places (ws := [Cond.fieldLink RX9 46 "ThumbHedgesModel" "isWritten" "Z"]) [1319] (by decide +kernel) _ (List.mem_singleton.mpr rfl)) rfl
theorem wm_51 : Cond.fieldLink RX9 50 "ThumbHedgesModel" "aside" "[I" ∈ WT := WT_in (mem_places (ws := [Cond.fieldLink RX9 50 "ThumbHedgesModel" "aside" "[I"]) [1321] (by decide +kernel) _ (List.mem_singleton.mpr rfl)) rfl
theorem wm_52 : Cond.fieldLink RX9 53 "ThumbHedgesModel" "far" "[I" ∈ WT := WT_in (mem_places (ws := [Cond.fieldLink RX9 53 "ThumbHedgesModel" "far" "[I"]) [1322] (by decide +kernel) _ (List.mem_singleton.mpr rfl)) rfl
theorem wm_53 : Cond.fieldLink RX9 56 "ThumbHedgesModel" "path" "[I" ∈ WT := WT_in (mem_places (ws := [Cond.fieldLink RX9 56 "ThumbHedgesModel" "path" "[I"]) [1323] (by decide +kernel) _ (List.mem_singleton.mpr rfl)) rfl
theorem wm_54 : Cond.fieldLink RX9 59 "ThumbHedgesModel" "onBy" "[I" ∈ WT := WT_in (mem_places (ws := [Cond.fieldLink RX9 59 "ThumbHedgesModel" "onBy" "[I"]) [1324] (by decide +kernel) _ (List.mem_singleton.mpr rfl)) rfl
theorem wm_55 : Cond.fieldLink RX9 62 "ThumbHedgesModel" "behind" "[I" ∈ WT := WT_in (mem_places (ws := [Cond.fieldLink RX9 62 "ThumbHedgesModel" "behind" "[I"]) [1325] (by decide +kernel) _ (List.mem_singleton.mpr rfl)) rfl
theorem wm_56 : Cond.fieldLink RX9 65 "ThumbHedgesModel" "reach" "[I" ∈ WT := WT_in (mem_places (ws := [Cond.fieldLink RX9 65 "ThumbHedgesModel" "reach" "[I"]) [1326] (by decide +kernel) _ (List.mem_singleton.mpr rfl)) rfl
theorem wm_57 : Cond.fieldLink RX9 68 "ThumbHedgesModel" "tried" "[I" ∈ WT := WT_in (mem_places (ws := [Cond.fieldLink RX9 68 "ThumbHedgesModel" "tried" "[I"]) [1327] (by decide +kernel) _ (List.mem_singleton.mpr rfl)) rfl
theorem wm_58 : Cond.fieldLink RX9 71 "ThumbHedgesModel" "there" "[I" ∈ WT := WT_in (mem_places (ws := [Cond.fieldLink RX9 71 "ThumbHedgesModel" "there" "[I"]) [1328] (by decide +kernel) _ (List.mem_singleton.mpr rfl)) rfl
theorem wtX9 : ∀ w ∈ u_ws RX9 TX9 34, w ∈ WT := fun w hw => WT_in (inX9 w hw) ((by decide +kernel : ∀ w ∈ u_ws RX9 TX9 34, goodWord w = true) w hw)
theorem dc_Model_0 : decode prog_11_method_1_code 0 = .ok (.aload_n 0, 1) := by decide +kernel
theorem dc_Model_1 : decode prog_11_method_1_code 1 = .ok (.invokespecial 1, 3) := by decide +kernel
theorem dc_Model_4 : decode prog_11_method_1_code 4 = .ok (.aload_n 0, 1) := by decide +kernel
theorem dc_Model_5 : decode prog_11_method_1_code 5 = .ok (.sipush 1466, 3) := by decide +kernel
theorem dc_Model_8 : decode prog_11_method_1_code 8 = .ok (.newarray .int, 2) := by decide +kernel
theorem dc_Model_10 : decode prog_11_method_1_code 10 = .ok (.putfield 7, 3) := by decide +kernel
theorem dc_Model_13 : decode prog_11_method_1_code 13 = .ok (.aload_n 0, 1) := by decide +kernel
theorem dc_Model_14 : decode prog_11_method_1_code 14 = .ok (.sipush 1466, 3) := by decide +kernel
theorem dc_Model_17 : decode prog_11_method_1_code 17 = .ok (.newarray .int, 2) := by decide +kernel
theorem dc_Model_19 : decode prog_11_method_1_code 19 = .ok (.putfield 13, 3) := by decide +kernel
theorem dc_Model_22 : decode prog_11_method_1_code 22 = .ok (.aload_n 0, 1) := by decide +kernel
theorem dc_Model_23 : decode prog_11_method_1_code 23 = .ok (.sipush 2724, 3) := by decide +kernel
theorem dc_Model_26 : decode prog_11_method_1_code 26 = .ok (.newarray .int, 2) := by decide +kernel
theorem dc_Model_28 : decode prog_11_method_1_code 28 = .ok (.putfield 16, 3) := by decide +kernel
theorem dc_Model_31 : decode prog_11_method_1_code 31 = .ok (.aload_n 0, 1) := by decide +kernel
theorem dc_Model_32 : decode prog_11_method_1_code 32 = .ok (.sipush 320, 3) := by decide +kernel
theorem dc_Model_35 : decode prog_11_method_1_code 35 = .ok (.newarray .int, 2) := by decide +kernel
theorem dc_Model_37 : decode prog_11_method_1_code 37 = .ok (.putfield 19, 3) := by decide +kernel
theorem dc_Model_40 : decode prog_11_method_1_code 40 = .ok (.aload_n 0, 1) := by decide +kernel
theorem dc_Model_41 : decode prog_11_method_1_code 41 = .ok (.sipush 300, 3) := by decide +kernel
theorem dc_Model_44 : decode prog_11_method_1_code 44 = .ok (.newarray .int, 2) := by decide +kernel
theorem dc_Model_46 : decode prog_11_method_1_code 46 = .ok (.putfield 22, 3) := by decide +kernel
theorem dc_Model_49 : decode prog_11_method_1_code 49 = .ok (.aload_n 0, 1) := by decide +kernel
theorem dc_Model_50 : decode prog_11_method_1_code 50 = .ok (.iconst (-1), 1) := by decide +kernel
theorem dc_Model_51 : decode prog_11_method_1_code 51 = .ok (.putfield 25, 3) := by decide +kernel
theorem dc_Model_54 : decode prog_11_method_1_code 54 = .ok (.aload_n 0, 1) := by decide +kernel
theorem dc_Model_55 : decode prog_11_method_1_code 55 = .ok (.iconst (-1), 1) := by decide +kernel
theorem dc_Model_56 : decode prog_11_method_1_code 56 = .ok (.putfield 29, 3) := by decide +kernel
theorem dc_Model_59 : decode prog_11_method_1_code 59 = .ok (.aload_n 0, 1) := by decide +kernel
theorem dc_Model_60 : decode prog_11_method_1_code 60 = .ok (.sipush 160, 3) := by decide +kernel
theorem dc_Model_63 : decode prog_11_method_1_code 63 = .ok (.newarray .int, 2) := by decide +kernel
theorem dc_Model_65 : decode prog_11_method_1_code 65 = .ok (.putfield 32, 3) := by decide +kernel
theorem dc_Model_68 : decode prog_11_method_1_code 68 = .ok (.aload_n 0, 1) := by decide +kernel
theorem dc_Model_69 : decode prog_11_method_1_code 69 = .ok (.bipush 7, 2) := by decide +kernel
theorem dc_Model_71 : decode prog_11_method_1_code 71 = .ok (.newarray .int, 2) := by decide +kernel
theorem dc_Model_73 : decode prog_11_method_1_code 73 = .ok (.putfield 35, 3) := by decide +kernel
theorem dc_Model_76 : decode prog_11_method_1_code 76 = .ok (.aload_n 0, 1) := by decide +kernel
theorem dc_Model_77 : decode prog_11_method_1_code 77 = .ok (.sipush 330, 3) := by decide +kernel
theorem dc_Model_80 : decode prog_11_method_1_code 80 = .ok (.newarray .long, 2) := by decide +kernel
theorem dc_Model_82 : decode prog_11_method_1_code 82 = .ok (.putfield 38, 3) := by decide +kernel
theorem dc_Model_85 : decode prog_11_method_1_code 85 = .ok (.aload_n 0, 1) := by decide +kernel
theorem dc_Model_86 : decode prog_11_method_1_code 86 = .ok (.sipush 330, 3) := by decide +kernel
theorem dc_Model_89 : decode prog_11_method_1_code 89 = .ok (.newarray .boolean, 2) := by decide +kernel
theorem dc_Model_91 : decode prog_11_method_1_code 91 = .ok (.putfield 42, 3) := by decide +kernel
theorem dc_Model_94 : decode prog_11_method_1_code 94 = .ok (.aload_n 0, 1) := by decide +kernel
theorem dc_Model_95 : decode prog_11_method_1_code 95 = .ok (.iconst 1, 1) := by decide +kernel
theorem dc_Model_96 : decode prog_11_method_1_code 96 = .ok (.putfield 46, 3) := by decide +kernel
theorem dc_Model_99 : decode prog_11_method_1_code 99 = .ok (.aload_n 0, 1) := by decide +kernel
theorem dc_Model_100 : decode prog_11_method_1_code 100 = .ok (.bipush 21, 2) := by decide +kernel
theorem dc_Model_102 : decode prog_11_method_1_code 102 = .ok (.newarray .int, 2) := by decide +kernel
theorem dc_Model_104 : decode prog_11_method_1_code 104 = .ok (.putfield 50, 3) := by decide +kernel
theorem dc_Model_107 : decode prog_11_method_1_code 107 = .ok (.aload_n 0, 1) := by decide +kernel
theorem dc_Model_108 : decode prog_11_method_1_code 108 = .ok (.bipush 25, 2) := by decide +kernel
theorem dc_Model_110 : decode prog_11_method_1_code 110 = .ok (.newarray .int, 2) := by decide +kernel
theorem dc_Model_112 : decode prog_11_method_1_code 112 = .ok (.putfield 53, 3) := by decide +kernel
theorem dc_Model_115 : decode prog_11_method_1_code 115 = .ok (.aload_n 0, 1) := by decide +kernel
theorem dc_Model_116 : decode prog_11_method_1_code 116 = .ok (.bipush 26, 2) := by decide +kernel
theorem dc_Model_118 : decode prog_11_method_1_code 118 = .ok (.newarray .int, 2) := by decide +kernel
theorem dc_Model_120 : decode prog_11_method_1_code 120 = .ok (.putfield 56, 3) := by decide +kernel
theorem dc_Model_123 : decode prog_11_method_1_code 123 = .ok (.aload_n 0, 1) := by decide +kernel
theorem dc_Model_124 : decode prog_11_method_1_code 124 = .ok (.bipush 26, 2) := by decide +kernel
theorem dc_Model_126 : decode prog_11_method_1_code 126 = .ok (.newarray .int, 2) := by decide +kernel
theorem dc_Model_128 : decode prog_11_method_1_code 128 = .ok (.putfield 59, 3) := by decide +kernel
theorem dc_Model_131 : decode prog_11_method_1_code 131 = .ok (.aload_n 0, 1) := by decide +kernel
theorem dc_Model_132 : decode prog_11_method_1_code 132 = .ok (.bipush 100, 2) := by decide +kernel
theorem dc_Model_134 : decode prog_11_method_1_code 134 = .ok (.newarray .int, 2) := by decide +kernel
theorem dc_Model_136 : decode prog_11_method_1_code 136 = .ok (.putfield 62, 3) := by decide +kernel
theorem dc_Model_139 : decode prog_11_method_1_code 139 = .ok (.aload_n 0, 1) := by decide +kernel
theorem dc_Model_140 : decode prog_11_method_1_code 140 = .ok (.bipush 25, 2) := by decide +kernel
theorem dc_Model_142 : decode prog_11_method_1_code 142 = .ok (.newarray .int, 2) := by decide +kernel
theorem dc_Model_144 : decode prog_11_method_1_code 144 = .ok (.putfield 65, 3) := by decide +kernel
theorem dc_Model_147 : decode prog_11_method_1_code 147 = .ok (.aload_n 0, 1) := by decide +kernel
theorem dc_Model_148 : decode prog_11_method_1_code 148 = .ok (.iconst 4, 1) := by decide +kernel
theorem dc_Model_149 : decode prog_11_method_1_code 149 = .ok (.newarray .int, 2) := by decide +kernel
theorem dc_Model_151 : decode prog_11_method_1_code 151 = .ok (.putfield 68, 3) := by decide +kernel
theorem dc_Model_154 : decode prog_11_method_1_code 154 = .ok (.aload_n 0, 1) := by decide +kernel
theorem dc_Model_155 : decode prog_11_method_1_code 155 = .ok (.bipush 40, 2) := by decide +kernel
theorem dc_Model_157 : decode prog_11_method_1_code 157 = .ok (.newarray .int, 2) := by decide +kernel
theorem dc_Model_159 : decode prog_11_method_1_code 159 = .ok (.putfield 71, 3) := by decide +kernel
theorem dc_Model_194 : decode prog_11_method_1_code 194 = .ok (.return_, 1) := by decide +kernel
def df_Model : List Value := [.null, .null, .null, .null, .null, .int 0, .int 0, .int 0, .int 0, .int 0, .int 0, .int 0, .long 0, .int 0, .int 0, .int 0, .null, .int 0, .int 0, .int 0, .int 0, .null, .null, .null, .int 0, .int 0, .null, .null, .null, .null, .null, .null, .null, .null]
theorem fs_Model : ∀ j, j < 34 → defaultValue (tyX9 j) = vp_V df_Model j := by
  intro j hj
  have : j = 0 ∨ j = 1 ∨ j = 2 ∨ j = 3 ∨ j = 4 ∨ j = 5 ∨ j = 6 ∨ j = 7 ∨ j = 8 ∨ j = 9 ∨ j = 10 ∨ j = 11 ∨ j = 12 ∨ j = 13 ∨ j = 14 ∨ j = 15 ∨ j = 16 ∨ j = 17 ∨ j = 18 ∨ j = 19 ∨ j = 20 ∨ j = 21 ∨ j = 22 ∨ j = 23 ∨ j = 24 ∨ j = 25 ∨ j = 26 ∨ j = 27 ∨ j = 28 ∨ j = 29 ∨ j = 30 ∨ j = 31 ∨ j = 32 ∨ j = 33 := by omega
  rcases this with rfl | rfl | rfl | rfl | rfl | rfl | rfl | rfl | rfl | rfl | rfl | rfl | rfl | rfl | rfl | rfl | rfl | rfl | rfl | rfl | rfl | rfl | rfl | rfl | rfl | rfl | rfl | rfl | rfl | rfl | rfl | rfl | rfl | rfl <;> rfl
abbrev rm_Mo : Room := { frames := 20, cells := 17, slots := 7370, locals := 1400 }
def cC_Model (G : Nat → ClassId) (h q8 q17 q26 q35 q44 q63 q71 q80 q89 q102 q110 q118 q126 q134 q142 q149 q157 : Nat) : va_W := [(h, .inr (8, [.ref q8, .ref q17, .ref q26, .ref q35, .ref q44, .int 0, .int (-1), .int (-1), .int 0, .int 0, .int 0, .int 0, .long 0, .int 0, .int 0, .int 0, .ref q63, .int 0, .int 0, .int 0, .int 0, .ref q71, .ref q80, .ref q89, .int 1, .int 0, .ref q102, .ref q110, .ref q118, .ref q126, .ref q134, .ref q142, .ref q149, .ref q157])), (q8, .inl (G 0, 1466, .inl (fun _ => 0))), (q17, .inl (G 0, 1466, .inl (fun _ => 0))), (q26, .inl (G 0, 2724, .inl (fun _ => 0))), (q35, .inl (G 0, 320, .inl (fun _ => 0))), (q44, .inl (G 0, 300, .inl (fun _ => 0))), (q63, .inl (G 0, 160, .inl (fun _ => 0))), (q71, .inl (G 0, 7, .inl (fun _ => 0))), (q80, .inl (G 1, 330, .inr (.inl (fun _ => 0)))), (q89, .inl (G 2, 330, .inl (fun _ => 0))), (q102, .inl (G 0, 21, .inl (fun _ => 0))), (q110, .inl (G 0, 25, .inl (fun _ => 0))), (q118, .inl (G 0, 26, .inl (fun _ => 0))), (q126, .inl (G 0, 26, .inl (fun _ => 0))), (q134, .inl (G 0, 100, .inl (fun _ => 0))), (q142, .inl (G 0, 25, .inl (fun _ => 0))), (q149, .inl (G 0, 4, .inl (fun _ => 0))), (q157, .inl (G 0, 40, .inl (fun _ => 0)))]
def adM (ad0 : Int → Nat) (h q8 q17 q26 q35 q44 q63 q71 q80 q89 q102 q110 q118 q126 q134 q142 q149 q157 : Nat) : Int → Nat := fun i => if i = 400 then h else if i = 401 then q8 else if i = 402 then q17 else if i = 403 then q26 else if i = 404 then q35 else if i = 405 then q44 else if i = 406 then q63 else if i = 407 then q71 else if i = 408 then q80 else if i = 409 then q89 else if i = 410 then q102 else if i = 411 then q110 else if i = 412 then q118 else if i = 413 then q126 else if i = 414 then q134 else if i = 415 then q142 else if i = 416 then q149 else if i = 417 then q157 else ad0 i
set_option maxHeartbeats 4000000 in
theorem L_Model {ad : Int → Nat} {G : Nat → ClassId} {xs ys : Int → Int} : (uModel 400).map (fun q => (ad q.1, cellOf ad G (mZ xs ys) q)) = cC_Model G (ad 400) (ad (400 + 1)) (ad (400 + 2)) (ad (400 + 3)) (ad (400 + 4)) (ad (400 + 5)) (ad (400 + 6)) (ad (400 + 7)) (ad (400 + 8)) (ad (400 + 9)) (ad (400 + 10)) (ad (400 + 11)) (ad (400 + 12)) (ad (400 + 13)) (ad (400 + 14)) (ad (400 + 15)) (ad (400 + 16)) (ad (400 + 17)) := by
  have z : ∀ a b : Int, 400 < a → a < 500 → mZ xs ys a b = 0 := fun a b h1 h2 => mZ_a (by omega) (by omega) (by omega)
  have y : ∀ b : Int, b ≠ 6 → b ≠ 7 → b ≠ 24 → mZ xs ys 400 b = 0 := fun b h1 h2 h3 => mZ_0 (by omega) (by omega) (fun z => isLd_f (by omega) z.1) (by omega) (by omega) (by omega)
  have y6 : mZ xs ys 400 ((6 : Nat) : Int) = -1 := rfl
  have y7 : mZ xs ys 400 ((7 : Nat) : Int) = -1 := rfl
  have y24 : mZ xs ys 400 ((24 : Nat) : Int) = 1 := rfl
  have z1 : ∀ b, mZ xs ys (400 + 1) b = 0 := fun b => z _ _ (by omega) (by omega)
  have z2 : ∀ b, mZ xs ys (400 + 2) b = 0 := fun b => z _ _ (by omega) (by omega)
  have z3 : ∀ b, mZ xs ys (400 + 3) b = 0 := fun b => z _ _ (by omega) (by omega)
  have z4 : ∀ b, mZ xs ys (400 + 4) b = 0 := fun b => z _ _ (by omega) (by omega)
  have z5 : ∀ b, mZ xs ys (400 + 5) b = 0 := fun b => z _ _ (by omega) (by omega)
  have z6 : ∀ b, mZ xs ys (400 + 6) b = 0 := fun b => z _ _ (by omega) (by omega)
  have z7 : ∀ b, mZ xs ys (400 + 7) b = 0 := fun b => z _ _ (by omega) (by omega)
  have z8 : ∀ b, mZ xs ys (400 + 8) b = 0 := fun b => z _ _ (by omega) (by omega)
  have z9 : ∀ b, mZ xs ys (400 + 9) b = 0 := fun b => z _ _ (by omega) (by omega)
  have z10 : ∀ b, mZ xs ys (400 + 10) b = 0 := fun b => z _ _ (by omega) (by omega)
  have z11 : ∀ b, mZ xs ys (400 + 11) b = 0 := fun b => z _ _ (by omega) (by omega)
  have z12 : ∀ b, mZ xs ys (400 + 12) b = 0 := fun b => z _ _ (by omega) (by omega)
  have z13 : ∀ b, mZ xs ys (400 + 13) b = 0 := fun b => z _ _ (by omega) (by omega)
  have z14 : ∀ b, mZ xs ys (400 + 14) b = 0 := fun b => z _ _ (by omega) (by omega)
  have z15 : ∀ b, mZ xs ys (400 + 15) b = 0 := fun b => z _ _ (by omega) (by omega)
  have z16 : ∀ b, mZ xs ys (400 + 16) b = 0 := fun b => z _ _ (by omega) (by omega)
  have z17 : ∀ b, mZ xs ys (400 + 17) b = 0 := fun b => z _ _ (by omega) (by omega)
  unfold uModel
  simp only [List.map_cons, List.map_nil, ob_8, ar_132, ar_156, ar_268, ar_300, ar_308, ar_420, ar_900, ar_1380, ar_2500, ar_2660, ar_2741, ar_2742, ar_11828, ar_21892]
  rw [y6, y7, y24, y ((5 : Nat) : Int) (by decide) (by decide) (by decide), y ((8 : Nat) : Int) (by decide) (by decide) (by decide), y ((9 : Nat) : Int) (by decide) (by decide) (by decide), y ((10 : Nat) : Int) (by decide) (by decide) (by decide), y ((11 : Nat) : Int) (by decide) (by decide) (by decide), y ((12 : Nat) : Int) (by decide) (by decide) (by decide), y ((13 : Nat) : Int) (by decide) (by decide) (by decide), y ((14 : Nat) : Int) (by decide) (by decide) (by decide), y ((15 : Nat) : Int) (by decide) (by decide) (by decide), y ((17 : Nat) : Int) (by decide) (by decide) (by decide), y ((18 : Nat) : Int) (by decide) (by decide) (by decide), y ((19 : Nat) : Int) (by decide) (by decide) (by decide), y ((20 : Nat) : Int) (by decide) (by decide) (by decide), y ((25 : Nat) : Int) (by decide) (by decide) (by decide)]
  simp only [z1, z2, z3, z4, z5, z6, z7, z8, z9, z10, z11, z12, z13, z14, z15, z16, z17]
  rfl
