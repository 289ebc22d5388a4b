/-! MAKING: the whole object of the class -/
theorem wc_38 : Cond.methodLink RX8 3 Lib.objectInit ∈ WT := WT_in (mem_places (ws := [Cond.methodLink RX8 3 Lib.objectInit]) [136] (by decide +kernel) _ (List.mem_singleton.mpr rfl)) rfl
theorem wc_39 : Cond.classLink RX8 9 RX0 ∈ WT := WT_in (mem_places (ws := [Cond.classLink RX8 9 RX0]) [139] (by decide +kernel) _ (List.mem_singleton.mpr rfl)) rfl
theorem wc_40 : Cond.instantiable RX0 11 ∈ WT := WT_in (mem_places (ws := [Cond.instantiable RX0 11]) [140] (by decide +kernel) _ (List.mem_singleton.mpr rfl)) rfl
theorem wc_41 : Cond.initialized RX0 ∈ WT := WT_in (mem_places (ws := [Cond.initialized RX0]) [113] (by decide +kernel) _ (List.mem_singleton.mpr rfl)) rfl
theorem wc_42 : Cond.instanceMethod (yIn RX0) ∈ WT := WT_in (mem_places (ws := [Cond.instanceMethod (yIn RX0)]) [142] (by decide +kernel) _ (List.mem_singleton.mpr rfl)) rfl
theorem wc_43 : Cond.code (yIn RX0) prog_2_method_1_code 2 none ∈ WT := WT_in (mem_places (ws := [Cond.code (yIn RX0) prog_2_method_1_code 2 none]) [143] (by decide +kernel) _ (List.mem_singleton.mpr rfl)) rfl
theorem wc_44 : Cond.methodLink RX8 11 (yIn RX0) ∈ WT := WT_in (mem_places (ws := [Cond.methodLink RX8 11 (yIn RX0)]) [141] (by decide +kernel) _ (List.mem_singleton.mpr rfl)) rfl
theorem wc_45 : Cond.fieldLink RX8 12 "ThumbHedges" "now" "LThumbHedges$Farm;" ∈ WT := WT_in (mem_places (ws := [Cond.fieldLink RX8 12 "ThumbHedges" "now" "LThumbHedges$Farm;"]) [389] (by decide +kernel) _ (List.mem_singleton.mpr rfl)) rfl
theorem wc_46 : Cond.fieldLink RX8 16 "ThumbHedges" "kept" "LThumbHedges$Farm;" ∈ WT := WT_in (mem_places (ws := [Cond.fieldLink RX8 16 "ThumbHedges" "kept" "LThumbHedges$Farm;"]) [390] (by decide +kernel) _ (List.mem_singleton.mpr rfl)) rfl
theorem wc_47 : Cond.classLink RX8 19 RX1 ∈ WT := WT_in (mem_places (ws := [Cond.classLink RX8 19 RX1]) [236] (by decide +kernel) _ (List.mem_singleton.mpr rfl)) rfl
theorem wc_48 : Cond.instantiable RX1 1 ∈ WT := WT_in (mem_places (ws := [Cond.instantiable RX1 1]) [237] (by decide +kernel) _ (List.mem_singleton.mpr rfl)) rfl
theorem wc_49 : Cond.initialized RX1 ∈ WT := WT_in (mem_places (ws := [Cond.initialized RX1]) [115] (by decide +kernel) _ (List.mem_singleton.mpr rfl)) rfl
theorem wc_50 : Cond.instanceMethod (yIn RX1) ∈ WT := WT_in (mem_places (ws := [Cond.instanceMethod (yIn RX1)]) [239] (by decide +kernel) _ (List.mem_singleton.mpr rfl)) rfl
theorem wc_51 : Cond.code (yIn RX1) prog_3_method_1_code 1 none ∈ WT := WT_in (mem_places (ws := [Cond.code (yIn RX1) prog_3_method_1_code 1 none]) [240] (by decide +kernel) _ (List.mem_singleton.mpr rfl)) rfl
theorem wc_52 : Cond.fieldLink RX8 22 "ThumbHedges" "hands" "LThumbHedges$Hands;" ∈ WT := WT_in (mem_places (ws := [Cond.fieldLink RX8 22 "ThumbHedges" "hands" "LThumbHedges$Hands;"]) [391] (by decide +kernel) _ (List.mem_singleton.mpr rfl)) rfl
theorem wc_53 : Cond.classLink RX8 26 RX7 ∈ WT := WT_in (mem_places (ws := [Cond.classLink RX8 26 RX7]) [247] (by decide +kernel) _ (List.mem_singleton.mpr rfl)) rfl
theorem wc_54 : Cond.fieldLink RX8 28 "ThumbHedges" "texts" "[LThumbHedges$Text;" ∈ WT := WT_in (mem_places (ws := [Cond.fieldLink RX8 28 "ThumbHedges" "texts" "[LThumbHedges$Text;"]) [392] (by decide +kernel) _ (List.mem_singleton.mpr rfl)) rfl
theorem wc_55 : Cond.fieldLink RX8 33 "ThumbHedges" "lawless" "LThumbHedges$Text;" ∈ WT := WT_in (mem_places (ws := [Cond.fieldLink RX8 33 "ThumbHedges" "lawless" "LThumbHedges$Text;"]) [393] (by decide +kernel) _ (List.mem_singleton.mpr rfl)) rfl
theorem wc_56 : Cond.classLink RX8 37 RX6 ∈ WT := WT_in (mem_places (ws := [Cond.classLink RX8 37 RX6]) [305] (by decide +kernel) _ (List.mem_singleton.mpr rfl)) rfl
theorem wc_57 : Cond.instantiable RX6 12 ∈ WT := WT_in (mem_places (ws := [Cond.instantiable RX6 12]) [306] (by decide +kernel) _ (List.mem_singleton.mpr rfl)) rfl
theorem wc_58 : Cond.initialized RX6 ∈ WT := WT_in (mem_places (ws := [Cond.initialized RX6]) [117] (by decide +kernel) _ (List.mem_singleton.mpr rfl)) rfl
theorem wc_59 : Cond.instanceMethod (yIn RX6) ∈ WT := WT_in (mem_places (ws := [Cond.instanceMethod (yIn RX6)]) [308] (by decide +kernel) _ (List.mem_singleton.mpr rfl)) rfl
theorem wc_60 : Cond.code (yIn RX6) prog_8_method_1_code 1 none ∈ WT := WT_in (mem_places (ws := [Cond.code (yIn RX6) prog_8_method_1_code 1 none]) [309] (by decide +kernel) _ (List.mem_singleton.mpr rfl)) rfl
theorem wc_61 : Cond.fieldLink RX8 40 "ThumbHedges" "reader" "LThumbHedges$Reader;" ∈ WT := WT_in (mem_places (ws := [Cond.fieldLink RX8 40 "ThumbHedges" "reader" "LThumbHedges$Reader;"]) [394] (by decide +kernel) _ (List.mem_singleton.mpr rfl)) rfl
theorem wc_62 : Cond.classLink RX8 44 RX2 ∈ WT := WT_in (mem_places (ws := [Cond.classLink RX8 44 RX2]) [355] (by decide +kernel) _ (List.mem_singleton.mpr rfl)) rfl
theorem wc_63 : Cond.instantiable RX2 3 ∈ WT := WT_in (mem_places (ws := [Cond.instantiable RX2 3]) [356] (by decide +kernel) _ (List.mem_singleton.mpr rfl)) rfl
theorem wc_64 : Cond.initialized RX2 ∈ WT := WT_in (mem_places (ws := [Cond.initialized RX2]) [118] (by decide +kernel) _ (List.mem_singleton.mpr rfl)) rfl
theorem wc_65 : Cond.instanceMethod (yIn RX2) ∈ WT := WT_in (mem_places (ws := [Cond.instanceMethod (yIn RX2)]) [358] (by decide +kernel) _ (List.mem_singleton.mpr rfl)) rfl
theorem wc_66 : Cond.code (yIn RX2) prog_4_method_1_code 1 none ∈ WT := WT_in (mem_places (ws := [Cond.code (yIn RX2) prog_4_method_1_code 1 none]) [359] (by decide +kernel) _ (List.mem_singleton.mpr rfl)) rfl
theorem wc_67 : Cond.fieldLink RX8 47 "ThumbHedges" "judge" "LThumbHedges$Judge;" ∈ WT := WT_in (mem_places (ws := [Cond.fieldLink RX8 47 "ThumbHedges" "judge" "LThumbHedges$Judge;"]) [395] (by decide +kernel) _ (List.mem_singleton.mpr rfl)) rfl
theorem wc_68 : Cond.classLink RX8 51 RX4 ∈ WT := WT_in (mem_places (ws := [Cond.classLink RX8 51 RX4]) [371] (by decide +kernel) _ (List.mem_singleton.mpr rfl)) rfl
theorem wc_69 : Cond.instantiable RX4 3 ∈ WT := WT_in (mem_places (ws := [Cond.instantiable RX4 3]) [372] (by decide +kernel) _ (List.mem_singleton.mpr rfl)) rfl
theorem wc_70 : Cond.initialized RX4 ∈ WT := WT_in (mem_places (ws := [Cond.initialized RX4]) [119] (by decide +kernel) _ (List.mem_singleton.mpr rfl)) rfl
theorem wc_71 : Cond.instanceMethod (yIn RX4) ∈ WT := WT_in (mem_places (ws := [Cond.instanceMethod (yIn RX4)]) [374] (by decide +kernel) _ (List.mem_singleton.mpr rfl)) rfl
theorem wc_72 : Cond.code (yIn RX4) prog_6_method_1_code 1 none ∈ WT := WT_in (mem_places (ws := [Cond.code (yIn RX4) prog_6_method_1_code 1 none]) [375] (by decide +kernel) _ (List.mem_singleton.mpr rfl)) rfl
theorem wc_73 : Cond.fieldLink RX8 54 "ThumbHedges" "maze" "LThumbHedges$Maze;" ∈ WT := WT_in (mem_places (ws := [Cond.fieldLink RX8 54 "ThumbHedges" "maze" "LThumbHedges$Maze;"]) [396] (by decide +kernel) _ (List.mem_singleton.mpr rfl)) rfl
theorem wc_74 : Cond.classLink RX8 58 RX3 ∈ WT := WT_in (mem_places (ws := [Cond.classLink RX8 58 RX3]) [387] (by decide +kernel) _ (List.mem_singleton.mpr rfl)) rfl
theorem wc_75 : Cond.fieldLink RX8 61 "ThumbHedges" "trial" "LThumbHedges$Land;" ∈ WT := WT_in (mem_places (ws := [Cond.fieldLink RX8 61 "ThumbHedges" "trial" "LThumbHedges$Land;"]) [397] (by decide +kernel) _ (List.mem_singleton.mpr rfl)) rfl
theorem wtX8 : ∀ w ∈ u_ws RX8 TX8 9, w ∈ WT := fun w hw => WT_in (inX8 w hw) ((by decide +kernel : ∀ w ∈ u_ws RX8 TX8 9, goodWord w = true) w hw)
theorem dc_TH_0 : decode prog_1_method_1_code 0 = .ok (.aload_n 0, 1) := by decide +kernel
theorem dc_TH_1 : decode prog_1_method_1_code 1 = .ok (.invokespecial 3, 3) := by decide +kernel
theorem dc_TH_4 : decode prog_1_method_1_code 4 = .ok (.aload_n 0, 1) := by decide +kernel
theorem dc_TH_5 : decode prog_1_method_1_code 5 = .ok (.new 9, 3) := by decide +kernel
theorem dc_TH_8 : decode prog_1_method_1_code 8 = .ok (.dup, 1) := by decide +kernel
theorem dc_TH_9 : decode prog_1_method_1_code 9 = .ok (.invokespecial 11, 3) := by decide +kernel
theorem dc_TH_12 : decode prog_1_method_1_code 12 = .ok (.putfield 12, 3) := by decide +kernel
theorem dc_TH_15 : decode prog_1_method_1_code 15 = .ok (.aload_n 0, 1) := by decide +kernel
theorem dc_TH_16 : decode prog_1_method_1_code 16 = .ok (.new 9, 3) := by decide +kernel
theorem dc_TH_19 : decode prog_1_method_1_code 19 = .ok (.dup, 1) := by decide +kernel
theorem dc_TH_20 : decode prog_1_method_1_code 20 = .ok (.invokespecial 11, 3) := by decide +kernel
theorem dc_TH_23 : decode prog_1_method_1_code 23 = .ok (.putfield 16, 3) := by decide +kernel
theorem dc_TH_26 : decode prog_1_method_1_code 26 = .ok (.aload_n 0, 1) := by decide +kernel
theorem dc_TH_27 : decode prog_1_method_1_code 27 = .ok (.new 19, 3) := by decide +kernel
theorem dc_TH_30 : decode prog_1_method_1_code 30 = .ok (.dup, 1) := by decide +kernel
theorem dc_TH_31 : decode prog_1_method_1_code 31 = .ok (.invokespecial 21, 3) := by decide +kernel
theorem dc_TH_34 : decode prog_1_method_1_code 34 = .ok (.putfield 22, 3) := by decide +kernel
theorem dc_TH_37 : decode prog_1_method_1_code 37 = .ok (.aload_n 0, 1) := by decide +kernel
theorem dc_TH_38 : decode prog_1_method_1_code 38 = .ok (.iconst 4, 1) := by decide +kernel
theorem dc_TH_39 : decode prog_1_method_1_code 39 = .ok (.anewarray 26, 3) := by decide +kernel
theorem dc_TH_42 : decode prog_1_method_1_code 42 = .ok (.putfield 28, 3) := by decide +kernel
theorem dc_TH_45 : decode prog_1_method_1_code 45 = .ok (.aload_n 0, 1) := by decide +kernel
theorem dc_TH_46 : decode prog_1_method_1_code 46 = .ok (.new 26, 3) := by decide +kernel
theorem dc_TH_49 : decode prog_1_method_1_code 49 = .ok (.dup, 1) := by decide +kernel
theorem dc_TH_50 : decode prog_1_method_1_code 50 = .ok (.invokespecial 32, 3) := by decide +kernel
theorem dc_TH_53 : decode prog_1_method_1_code 53 = .ok (.putfield 33, 3) := by decide +kernel
theorem dc_TH_56 : decode prog_1_method_1_code 56 = .ok (.aload_n 0, 1) := by decide +kernel
theorem dc_TH_57 : decode prog_1_method_1_code 57 = .ok (.new 37, 3) := by decide +kernel
theorem dc_TH_60 : decode prog_1_method_1_code 60 = .ok (.dup, 1) := by decide +kernel
theorem dc_TH_61 : decode prog_1_method_1_code 61 = .ok (.invokespecial 39, 3) := by decide +kernel
theorem dc_TH_64 : decode prog_1_method_1_code 64 = .ok (.putfield 40, 3) := by decide +kernel
theorem dc_TH_67 : decode prog_1_method_1_code 67 = .ok (.aload_n 0, 1) := by decide +kernel
theorem dc_TH_68 : decode prog_1_method_1_code 68 = .ok (.new 44, 3) := by decide +kernel
theorem dc_TH_71 : decode prog_1_method_1_code 71 = .ok (.dup, 1) := by decide +kernel
theorem dc_TH_72 : decode prog_1_method_1_code 72 = .ok (.invokespecial 46, 3) := by decide +kernel
theorem dc_TH_75 : decode prog_1_method_1_code 75 = .ok (.putfield 47, 3) := by decide +kernel
theorem dc_TH_78 : decode prog_1_method_1_code 78 = .ok (.aload_n 0, 1) := by decide +kernel
theorem dc_TH_79 : decode prog_1_method_1_code 79 = .ok (.new 51, 3) := by decide +kernel
theorem dc_TH_82 : decode prog_1_method_1_code 82 = .ok (.dup, 1) := by decide +kernel
theorem dc_TH_83 : decode prog_1_method_1_code 83 = .ok (.invokespecial 53, 3) := by decide +kernel
theorem dc_TH_86 : decode prog_1_method_1_code 86 = .ok (.putfield 54, 3) := by decide +kernel
theorem dc_TH_89 : decode prog_1_method_1_code 89 = .ok (.aload_n 0, 1) := by decide +kernel
theorem dc_TH_90 : decode prog_1_method_1_code 90 = .ok (.new 58, 3) := by decide +kernel
theorem dc_TH_93 : decode prog_1_method_1_code 93 = .ok (.dup, 1) := by decide +kernel
theorem dc_TH_94 : decode prog_1_method_1_code 94 = .ok (.invokespecial 60, 3) := by decide +kernel
theorem dc_TH_97 : decode prog_1_method_1_code 97 = .ok (.putfield 61, 3) := by decide +kernel
theorem dc_TH_100 : decode prog_1_method_1_code 100 = .ok (.iconst 0, 1) := by decide +kernel
theorem dc_TH_101 : decode prog_1_method_1_code 101 = .ok (.istore_n 1, 1) := by decide +kernel
theorem dc_TH_102 : decode prog_1_method_1_code 102 = .ok (.iload_n 1, 1) := by decide +kernel
theorem dc_TH_103 : decode prog_1_method_1_code 103 = .ok (.iconst 4, 1) := by decide +kernel
theorem dc_TH_104 : decode prog_1_method_1_code 104 = .ok (.if_icmp .ge 22, 3) := by decide +kernel
theorem dc_TH_107 : decode prog_1_method_1_code 107 = .ok (.aload_n 0, 1) := by decide +kernel
theorem dc_TH_108 : decode prog_1_method_1_code 108 = .ok (.getfield 28, 3) := by decide +kernel
theorem dc_TH_111 : decode prog_1_method_1_code 111 = .ok (.iload_n 1, 1) := by decide +kernel
theorem dc_TH_112 : decode prog_1_method_1_code 112 = .ok (.new 26, 3) := by decide +kernel
theorem dc_TH_115 : decode prog_1_method_1_code 115 = .ok (.dup, 1) := by decide +kernel
theorem dc_TH_116 : decode prog_1_method_1_code 116 = .ok (.invokespecial 32, 3) := by decide +kernel
theorem dc_TH_119 : decode prog_1_method_1_code 119 = .ok (.aastore, 1) := by decide +kernel
theorem dc_TH_120 : decode prog_1_method_1_code 120 = .ok (.iinc 1 1, 3) := by decide +kernel
theorem dc_TH_123 : decode prog_1_method_1_code 123 = .ok (.goto (-21), 3) := by decide +kernel
theorem dc_TH_126 : decode prog_1_method_1_code 126 = .ok (.return_, 1) := by decide +kernel
def df_TH : List Value := [.null, .null, .null, .null, .null, .null, .null, .null, .null]
theorem fs_TH : ∀ j, j < 9 → defaultValue (tyX8 j) = vp_V df_TH j := by
  intro j hj
  have : j = 0 ∨ j = 1 ∨ j = 2 ∨ j = 3 ∨ j = 4 ∨ j = 5 ∨ j = 6 ∨ j = 7 ∨ j = 8 := by omega
  rcases this with rfl | rfl | rfl | rfl | rfl | rfl | rfl | rfl | rfl <;> rfl
abbrev Ad5 : Type := Nat → Nat × Nat × Nat × Nat × Nat
def txts (G : Nat → ClassId) (a : Ad5) : Nat → va_W
  | 0 => []
  | k + 1 => txts G a k ++ cC_Text G (a k).1 (a k).2.1 (a k).2.2.1 (a k).2.2.2.1 (a k).2.2.2.2
theorem txts_con {G : Nat → ClassId} {a b : Ad5} : ∀ k, (∀ i, i < k → a i = b i) → txts G a k = txts G b k := by
  intro k
  induction k with
  | zero => intro _; rfl
  | succ k ih =>
    intro h
    unfold txts
    rw [ih (fun i hi => h i (by omega)), h k (by omega)]
theorem txts_len {G : Nat → ClassId} {a : Ad5} : ∀ k, (txts G a k).length = 5 * k := by
  intro k
  induction k with
  | zero => rfl
  | succ k ih =>
    unfold txts
    rw [List.length_append, ih]
    show 5 * k + 5 = 5 * (k + 1)
    omega
def rw5 (a : Ad5) (k : Nat) : Nat → Option Nat := fun j => if j < k then some (a j).1 else none
def bA_TH (G : Nat → ClassId) (h : Nat) (h5 : Nat) (h5_0 : Nat) (h5_1 : Nat) (h5_2 : Nat) (h5_3 : Nat) (h5_4 : Nat) (h5_5 : Nat) (h5_6 : Nat) (a5 : Ad4) (h16 : Nat) (h16_0 : Nat) (h16_1 : Nat) (h16_2 : Nat) (h16_3 : Nat) (h16_4 : Nat) (h16_5 : Nat) (h16_6 : Nat) (a16 : Ad4) (h27 : Nat) (h27_0 : Nat) (q39 : Nat) (h46 : Nat) (h46_0 : Nat) (h46_1 : Nat) (h46_2 : Nat) (h46_3 : Nat) (h57 : Nat) (h57_0 : Nat) (h57_1 : Nat) (h57_2 : Nat) (h57_3 : Nat) (h57_4 : Nat) (h57_5 : Nat) (h68 : Nat) (h68_0 : Nat) (h68_1 : Nat) (h79 : Nat) (h79_0 : Nat) (h90 : Nat) (h90_0 : Nat) (h90_1 : Nat) (h90_2 : Nat) : va_W := (h, .inr (7, [.ref h5, .ref h16, .ref h27, .ref q39, .ref h46, .ref h57, .ref h68, .ref h79, .ref h90])) :: (cC_Farm G h5 h5_0 h5_1 h5_2 h5_3 h5_4 h5_5 h5_6 a5 ++ (cC_Farm G h16 h16_0 h16_1 h16_2 h16_3 h16_4 h16_5 h16_6 a16 ++ cC_Hands G h27 h27_0))
def bB_TH (G : Nat → ClassId) (h5 : Nat) (h5_0 : Nat) (h5_1 : Nat) (h5_2 : Nat) (h5_3 : Nat) (h5_4 : Nat) (h5_5 : Nat) (h5_6 : Nat) (a5 : Ad4) (h16 : Nat) (h16_0 : Nat) (h16_1 : Nat) (h16_2 : Nat) (h16_3 : Nat) (h16_4 : Nat) (h16_5 : Nat) (h16_6 : Nat) (a16 : Ad4) (h27 : Nat) (h27_0 : Nat) (q39 : Nat) (h46 : Nat) (h46_0 : Nat) (h46_1 : Nat) (h46_2 : Nat) (h46_3 : Nat) (h57 : Nat) (h57_0 : Nat) (h57_1 : Nat) (h57_2 : Nat) (h57_3 : Nat) (h57_4 : Nat) (h57_5 : Nat) (h68 : Nat) (h68_0 : Nat) (h68_1 : Nat) (h79 : Nat) (h79_0 : Nat) (h90 : Nat) (h90_0 : Nat) (h90_1 : Nat) (h90_2 : Nat) : va_W := cC_Text G h46 h46_0 h46_1 h46_2 h46_3 ++ (cC_Reader G h57 h57_0 h57_1 h57_2 h57_3 h57_4 h57_5 ++ (cC_Judge G h68 h68_0 h68_1 ++ (cC_Maze G h79 h79_0 ++ cC_Land G h90 h90_0 h90_1 h90_2)))
def bC_TH (G : Nat → ClassId) (h : Nat) (h5 : Nat) (h5_0 : Nat) (h5_1 : Nat) (h5_2 : Nat) (h5_3 : Nat) (h5_4 : Nat) (h5_5 : Nat) (h5_6 : Nat) (a5 : Ad4) (h16 : Nat) (h16_0 : Nat) (h16_1 : Nat) (h16_2 : Nat) (h16_3 : Nat) (h16_4 : Nat) (h16_5 : Nat) (h16_6 : Nat) (a16 : Ad4) (h27 : Nat) (h27_0 : Nat) (q39 : Nat) (h46 : Nat) (h46_0 : Nat) (h46_1 : Nat) (h46_2 : Nat) (h46_3 : Nat) (h57 : Nat) (h57_0 : Nat) (h57_1 : Nat) (h57_2 : Nat) (h57_3 : Nat) (h57_4 : Nat) (h57_5 : Nat) (h68 : Nat) (h68_0 : Nat) (h68_1 : Nat) (h79 : Nat) (h79_0 : Nat) (h90 : Nat) (h90_0 : Nat) (h90_1 : Nat) (h90_2 : Nat) (f : Nat → Option Nat) : va_W := bA_TH G h h5 h5_0 h5_1 h5_2 h5_3 h5_4 h5_5 h5_6 a5 h16 h16_0 h16_1 h16_2 h16_3 h16_4 h16_5 h16_6 a16 h27 h27_0 q39 h46 h46_0 h46_1 h46_2 h46_3 h57 h57_0 h57_1 h57_2 h57_3 h57_4 h57_5 h68 h68_0 h68_1 h79 h79_0 h90 h90_0 h90_1 h90_2 ++ ((q39, .inl (G 4, 4, .inr (.inr (.inr (.inr f))))) :: bB_TH G h5 h5_0 h5_1 h5_2 h5_3 h5_4 h5_5 h5_6 a5 h16 h16_0 h16_1 h16_2 h16_3 h16_4 h16_5 h16_6 a16 h27 h27_0 q39 h46 h46_0 h46_1 h46_2 h46_3 h57 h57_0 h57_1 h57_2 h57_3 h57_4 h57_5 h68 h68_0 h68_1 h79 h79_0 h90 h90_0 h90_1 h90_2)
def cC_TH (G : Nat → ClassId) (h : Nat) (h5 : Nat) (h5_0 : Nat) (h5_1 : Nat) (h5_2 : Nat) (h5_3 : Nat) (h5_4 : Nat) (h5_5 : Nat) (h5_6 : Nat) (a5 : Ad4) (h16 : Nat) (h16_0 : Nat) (h16_1 : Nat) (h16_2 : Nat) (h16_3 : Nat) (h16_4 : Nat) (h16_5 : Nat) (h16_6 : Nat) (a16 : Ad4) (h27 : Nat) (h27_0 : Nat) (q39 : Nat) (h46 : Nat) (h46_0 : Nat) (h46_1 : Nat) (h46_2 : Nat) (h46_3 : Nat) (h57 : Nat) (h57_0 : Nat) (h57_1 : Nat) (h57_2 : Nat) (h57_3 : Nat) (h57_4 : Nat) (h57_5 : Nat) (h68 : Nat) (h68_0 : Nat) (h68_1 : Nat) (h79 : Nat) (h79_0 : Nat) (h90 : Nat) (h90_0 : Nat) (h90_1 : Nat) (h90_2 : Nat) (tx : Ad5) : va_W := bC_TH G h h5 h5_0 h5_1 h5_2 h5_3 h5_4 h5_5 h5_6 a5 h16 h16_0 h16_1 h16_2 h16_3 h16_4 h16_5 h16_6 a16 h27 h27_0 q39 h46 h46_0 h46_1 h46_2 h46_3 h57 h57_0 h57_1 h57_2 h57_3 h57_4 h57_5 h68 h68_0 h68_1 h79 h79_0 h90 h90_0 h90_1 h90_2 (rw5 tx 4) ++ txts G tx 4
def eC_TH (G : Nat → ClassId) (h : Nat) (w : va_W) : Prop := ∃ (h5 : Nat) (h5_0 : Nat) (h5_1 : Nat) (h5_2 : Nat) (h5_3 : Nat) (h5_4 : Nat) (h5_5 : Nat) (h5_6 : Nat) (a5 : Ad4) (h16 : Nat) (h16_0 : Nat) (h16_1 : Nat) (h16_2 : Nat) (h16_3 : Nat) (h16_4 : Nat) (h16_5 : Nat) (h16_6 : Nat) (a16 : Ad4) (h27 : Nat) (h27_0 : Nat) (q39 : Nat) (h46 : Nat) (h46_0 : Nat) (h46_1 : Nat) (h46_2 : Nat) (h46_3 : Nat) (h57 : Nat) (h57_0 : Nat) (h57_1 : Nat) (h57_2 : Nat) (h57_3 : Nat) (h57_4 : Nat) (h57_5 : Nat) (h68 : Nat) (h68_0 : Nat) (h68_1 : Nat) (h79 : Nat) (h79_0 : Nat) (h90 : Nat) (h90_0 : Nat) (h90_1 : Nat) (h90_2 : Nat) (tx : Ad5), w = cC_TH G h h5 h5_0 h5_1 h5_2 h5_3 h5_4 h5_5 h5_6 a5 h16 h16_0 h16_1 h16_2 h16_3 h16_4 h16_5 h16_6 a16 h27 h27_0 q39 h46 h46_0 h46_1 h46_2 h46_3 h57 h57_0 h57_1 h57_2 h57_3 h57_4 h57_5 h68 h68_0 h68_1 h79 h79_0 h90 h90_0 h90_1 h90_2 tx
abbrev rm_TH : Room := { frames := 8, cells := 300, slots := 6192, locals := 200 }
theorem bA_len {G : Nat → ClassId} {h : Nat} {h5 : Nat} {h5_0 : Nat} {h5_1 : Nat} {h5_2 : Nat} {h5_3 : Nat} {h5_4 : Nat} {h5_5 : Nat} {h5_6 : Nat} {a5 : Ad4} {h16 : Nat} {h16_0 : Nat} {h16_1 : Nat} {h16_2 : Nat} {h16_3 : Nat} {h16_4 : Nat} {h16_5 : Nat} {h16_6 : Nat} {a16 : Ad4} {h27 : Nat} {h27_0 : Nat} {q39 : Nat} {h46 : Nat} {h46_0 : Nat} {h46_1 : Nat} {h46_2 : Nat} {h46_3 : Nat} {h57 : Nat} {h57_0 : Nat} {h57_1 : Nat} {h57_2 : Nat} {h57_3 : Nat} {h57_4 : Nat} {h57_5 : Nat} {h68 : Nat} {h68_0 : Nat} {h68_1 : Nat} {h79 : Nat} {h79_0 : Nat} {h90 : Nat} {h90_0 : Nat} {h90_1 : Nat} {h90_2 : Nat} : (bA_TH G h h5 h5_0 h5_1 h5_2 h5_3 h5_4 h5_5 h5_6 a5 h16 h16_0 h16_1 h16_2 h16_3 h16_4 h16_5 h16_6 a16 h27 h27_0 q39 h46 h46_0 h46_1 h46_2 h46_3 h57 h57_0 h57_1 h57_2 h57_3 h57_4 h57_5 h68 h68_0 h68_1 h79 h79_0 h90 h90_0 h90_1 h90_2).length = 259 := by
  unfold bA_TH cC_Farm
  simp only [List.length_cons, List.length_append, lnds_len]
  rfl
theorem bB_len {G : Nat → ClassId} {h5 : Nat} {h5_0 : Nat} {h5_1 : Nat} {h5_2 : Nat} {h5_3 : Nat} {h5_4 : Nat} {h5_5 : Nat} {h5_6 : Nat} {a5 : Ad4} {h16 : Nat} {h16_0 : Nat} {h16_1 : Nat} {h16_2 : Nat} {h16_3 : Nat} {h16_4 : Nat} {h16_5 : Nat} {h16_6 : Nat} {a16 : Ad4} {h27 : Nat} {h27_0 : Nat} {q39 : Nat} {h46 : Nat} {h46_0 : Nat} {h46_1 : Nat} {h46_2 : Nat} {h46_3 : Nat} {h57 : Nat} {h57_0 : Nat} {h57_1 : Nat} {h57_2 : Nat} {h57_3 : Nat} {h57_4 : Nat} {h57_5 : Nat} {h68 : Nat} {h68_0 : Nat} {h68_1 : Nat} {h79 : Nat} {h79_0 : Nat} {h90 : Nat} {h90_0 : Nat} {h90_1 : Nat} {h90_2 : Nat} : (bB_TH G h5 h5_0 h5_1 h5_2 h5_3 h5_4 h5_5 h5_6 a5 h16 h16_0 h16_1 h16_2 h16_3 h16_4 h16_5 h16_6 a16 h27 h27_0 q39 h46 h46_0 h46_1 h46_2 h46_3 h57 h57_0 h57_1 h57_2 h57_3 h57_4 h57_5 h68 h68_0 h68_1 h79 h79_0 h90 h90_0 h90_1 h90_2).length = 21 := rfl
set_option maxHeartbeats 4000000 in
set_option maxRecDepth 100000 in
theorem lp_TH {p : Program} {l : Launch} {e : Env} {s : State} {m : MethodId} {below : List Frame} {meth : Method} {c : Code} {D : va_G} {G : Nat → ClassId} {A : Nat → Prop} {h : Nat} {h5 : Nat} {h5_0 : Nat} {h5_1 : Nat} {h5_2 : Nat} {h5_3 : Nat} {h5_4 : Nat} {h5_5 : Nat} {h5_6 : Nat} {a5 : Ad4} {h16 : Nat} {h16_0 : Nat} {h16_1 : Nat} {h16_2 : Nat} {h16_3 : Nat} {h16_4 : Nat} {h16_5 : Nat} {h16_6 : Nat} {a16 : Ad4} {h27 : Nat} {h27_0 : Nat} {q39 : Nat} {h46 : Nat} {h46_0 : Nat} {h46_1 : Nat} {h46_2 : Nat} {h46_3 : Nat} {h57 : Nat} {h57_0 : Nat} {h57_1 : Nat} {h57_2 : Nat} {h57_3 : Nat} {h57_4 : Nat} {h57_5 : Nat} {h68 : Nat} {h68_0 : Nat} {h68_1 : Nat} {h79 : Nat} {h79_0 : Nat} {h90 : Nat} {h90_0 : Nat} {h90_1 : Nat} {h90_2 : Nat} (hx : p.tables.exec = Jvm.exec) (hb : c.code = prog_1_method_1_code) (hml : c.maxLocals = 2) (hr : meth.sig.returnType = none) (hown : s.vm.findClass RX8 = some m.cls) (hlocks : meth.locks = false) (hts : ∀ w ∈ WT, w.before #[.ref h] s = true) (hK : KC D G s) (hA : ∀ q, s.heap.size ≤ q → A q) : ∀ (n k : Nat) (a : Ad5) (H : Heap) (locs : List Loc) (ls : Array Slot), k + n = 4 → va_P D vwCl (bC_TH G h h5 h5_0 h5_1 h5_2 h5_3 h5_4 h5_5 h5_6 a5 h16 h16_0 h16_1 h16_2 h16_3 h16_4 h16_5 h16_6 a16 h27 h27_0 q39 h46 h46_0 h46_1 h46_2 h46_3 h57 h57_0 h57_1 h57_2 h57_3 h57_4 h57_5 h68 h68_0 h68_1 h79 h79_0 h90 h90_0 h90_1 h90_2 (rw5 a k) ++ txts G a k) H → va_D A (bC_TH G h h5 h5_0 h5_1 h5_2 h5_3 h5_4 h5_5 h5_6 a5 h16 h16_0 h16_1 h16_2 h16_3 h16_4 h16_5 h16_6 a16 h27 h27_0 q39 h46 h46_0 h46_1 h46_2 h46_3 h57 h57_0 h57_1 h57_2 h57_3 h57_4 h57_5 h68 h68_0 h68_1 h79 h79_0 h90 h90_0 h90_1 h90_2 (rw5 a k) ++ txts G a k) → va_S A s.heap H locs → lv_has ls 2 [(1, .int (nI k)), (0, .ref h)] → W p l e rm_TH s m #[.ref h] below meth c H locs (280 + 5 * k) (4656 + 384 * k) (MQ below (QCt D (eC_TH G h) A) #[.ref h] s rm_TH.cells rm_TH.slots A) (F0 m 102 ls []) := by
  intro n
  induction n with
  | zero =>
    intro k a H locs ls hk hP hD hS hl
    obtain rfl : k = 4 := by omega
    refine lv_iload_n hx hb dc_TH_102 rfl (lv_at hl 0 rfl) ?_
    refine lv_iconst (v := 4) hx hb dc_TH_103 (by decide) ?_
    refine lv_icmp_ge (tgt := 126) hx hb dc_TH_104 rfl (fun _ => ?_) (fun z => absurd (by decide) z)
    exact ct_ret hx hb hr hlocks hS _ ⟨h5, h5_0, h5_1, h5_2, h5_3, h5_4, h5_5, h5_6, a5, h16, h16_0, h16_1, h16_2, h16_3, h16_4, h16_5, h16_6, a16, h27, h27_0, q39, h46, h46_0, h46_1, h46_2, h46_3, h57, h57_0, h57_1, h57_2, h57_3, h57_4, h57_5, h68, h68_0, h68_1, h79, h79_0, h90, h90_0, h90_1, h90_2, a, rfl⟩ hP hD dc_TH_126
  | succ n ih =>
    intro k a H locs ls hk hP hD hS hl
    refine lv_iload_n hx hb dc_TH_102 rfl (lv_at hl 0 rfl) ?_
    refine lv_iconst (v := 4) hx hb dc_TH_103 (by decide) ?_
    refine lv_icmp_ge (tgt := 126) hx hb dc_TH_104 rfl (fun z => absurd z (nI_ge (a := k) (b := 4) (by omega) (by decide))) (fun _ => ?_)
    refine lv_aload_n hx hb dc_TH_107 rfl (lv_at hl 1 rfl) ?_
    refine va_get (D := D) (ci := 7) (v := .ref q39) (C := RX8) (T := TX8) (N := 9) hx hb hts wtX8 hown hK.1 hP 0 rfl rfl 3 (by decide) (hts _ wc_54) (fun _ h9 => h9) rfl dc_TH_108 ?_
    refine lv_iload_n hx hb dc_TH_111 rfl (lv_at hl 0 rfl) ?_
    refine ct_new (G := G) (ci := 6) (T := TX7) (ty := tyX7) hx hb hml hown hts hK hP hD hS hA hl.1 wtX7 tyX7_ok rfl fs_Text wc_53 wc_22 wc_23 wc_24 wc_25 (Or.inr (by decide +kernel)) (by decide) (ct_Text l) ⟨Nat.le_of_ble_eq_true rfl, Nat.le_of_ble_eq_true rfl⟩ ⟨by show 280 + 5 * k + 1 + 4 ≤ 300; omega, by show 4656 + 384 * k + 12 + 372 ≤ 6192; omega⟩ (Nat.le_of_ble_eq_true rfl) dc_TH_112 dc_TH_115 dc_TH_116 (fun hn wn H locs hE hP hD hS => ?_)
    obtain ⟨n1, n2, n3, n4, rfl⟩ := hE
    have hlen : (bC_TH G h h5 h5_0 h5_1 h5_2 h5_3 h5_4 h5_5 h5_6 a5 h16 h16_0 h16_1 h16_2 h16_3 h16_4 h16_5 h16_6 a16 h27 h27_0 q39 h46 h46_0 h46_1 h46_2 h46_3 h57 h57_0 h57_1 h57_2 h57_3 h57_4 h57_5 h68 h68_0 h68_1 h79 h79_0 h90 h90_0 h90_1 h90_2 (rw5 a k) ++ txts G a k).length = 281 + 5 * k := by
      unfold bC_TH
      rw [List.length_append, List.length_append, List.length_cons, bA_len, bB_len, txts_len]
    have hv : ((bC_TH G h h5 h5_0 h5_1 h5_2 h5_3 h5_4 h5_5 h5_6 a5 h16 h16_0 h16_1 h16_2 h16_3 h16_4 h16_5 h16_6 a16 h27 h27_0 q39 h46 h46_0 h46_1 h46_2 h46_3 h57 h57_0 h57_1 h57_2 h57_3 h57_4 h57_5 h68 h68_0 h68_1 h79 h79_0 h90 h90_0 h90_1 h90_2 (rw5 a k) ++ txts G a k) ++ cC_Text G hn n1 n2 n3 n4)[281 + 5 * k]? = (cC_Text G hn n1 n2 n3 n4)[0]? := by
      rw [List.getElem?_append_right (by omega), hlen, Nat.sub_self]
    have ha : ((bC_TH G h h5 h5_0 h5_1 h5_2 h5_3 h5_4 h5_5 h5_6 a5 h16 h16_0 h16_1 h16_2 h16_3 h16_4 h16_5 h16_6 a16 h27 h27_0 q39 h46 h46_0 h46_1 h46_2 h46_3 h57 h57_0 h57_1 h57_2 h57_3 h57_4 h57_5 h68 h68_0 h68_1 h79 h79_0 h90 h90_0 h90_1 h90_2 (rw5 a k) ++ txts G a k) ++ cC_Text G hn n1 n2 n3 n4)[259]? = some (q39, .inl (G 4, 4, .inr (.inr (.inr (.inr (rw5 a k)))))) := by
      unfold bC_TH
      rw [List.append_assoc, List.append_assoc, List.getElem?_append_right (Nat.le_of_eq bA_len), bA_len, Nat.sub_self]
      rfl
    refine va_astq (r := (RX7, TX7, 12)) hx hb hK.1 hP hD hS 259 4 (281 + 5 * k) 6 ha rfl (hv.trans rfl) rfl (vp_in_iff.mpr (by rw [nI_toInt (by omega)]; omega)) dc_TH_119 (fun H locs hP hD hS => ?_)
    obtain ⟨b, hbe⟩ : ∃ b : Ad5, b = fun i => if i = k then (hn, n1, n2, n3, n4) else a i := ⟨_, rfl⟩
    have bk : b k = (hn, n1, n2, n3, n4) := by rw [hbe]; exact if_pos rfl
    have bi : ∀ i, i < k → a i = b i := fun i hi => by rw [hbe]; exact (if_neg (by omega)).symm
    have ef : va_up (rw5 a k) (nI k).toNatClampNeg (some hn) = rw5 b (k + 1) := by
      rw [nI_clamp (by omega)]
      funext j
      unfold va_up rw5
      by_cases hj : j = k
      · subst hj
        rw [if_pos rfl, if_pos (by omega), bk]
      · rw [if_neg hj]
        by_cases hj2 : j < k
        · rw [if_pos hj2, if_pos (by omega), bi j hj2]
        · rw [if_neg hj2, if_neg (by omega)]
    have el : txts G b (k + 1) = txts G a k ++ cC_Text G hn n1 n2 n3 n4 := by
      show txts G b k ++ cC_Text G (b k).1 (b k).2.1 (b k).2.2.1 (b k).2.2.2.1 (b k).2.2.2.2 = _
      rw [bk, txts_con k bi]
    have ew : bC_TH G h h5 h5_0 h5_1 h5_2 h5_3 h5_4 h5_5 h5_6 a5 h16 h16_0 h16_1 h16_2 h16_3 h16_4 h16_5 h16_6 a16 h27 h27_0 q39 h46 h46_0 h46_1 h46_2 h46_3 h57 h57_0 h57_1 h57_2 h57_3 h57_4 h57_5 h68 h68_0 h68_1 h79 h79_0 h90 h90_0 h90_1 h90_2 (rw5 b (k + 1)) ++ txts G b (k + 1) = ((bC_TH G h h5 h5_0 h5_1 h5_2 h5_3 h5_4 h5_5 h5_6 a5 h16 h16_0 h16_1 h16_2 h16_3 h16_4 h16_5 h16_6 a16 h27 h27_0 q39 h46 h46_0 h46_1 h46_2 h46_3 h57 h57_0 h57_1 h57_2 h57_3 h57_4 h57_5 h68 h68_0 h68_1 h79 h79_0 h90 h90_0 h90_1 h90_2 (rw5 a k) ++ txts G a k) ++ cC_Text G hn n1 n2 n3 n4).set 259 (q39, .inl (G 4, 4, .inr (.inr (.inr (.inr (va_up (rw5 a k) (nI k).toNatClampNeg (some hn))))))) := by
      rw [ef, el]
      unfold bC_TH
      rw [List.append_assoc, List.append_assoc, List.append_assoc, List.set_append_right _ _ (Nat.le_of_eq bA_len), bA_len, Nat.sub_self]
      rfl
    rw [← ew] at hP hD
    refine W.widen (k := 280 + 5 * (k + 1)) (n := 4656 + 384 * (k + 1)) (by show 280 + 5 * k + 1 + 4 ≤ _; omega) (by show 4656 + 384 * k + 12 + 372 ≤ _; omega) ?_
    refine lv_iinc (v := nI (k + 1)) (lv' := [(1, .int (nI (k + 1))), (0, .ref h)]) hx hb dc_TH_120 hl (k := 0) rfl (by rw [nI_succ]; rfl) (by decide) rfl (fun ls hl => ?_)
    refine lv_goto (tgt := 102) hx hb dc_TH_123 rfl ?_
    exact ih (k + 1) b H locs ls (by omega) hP hD hS hl
set_option maxHeartbeats 4000000 in
set_option maxRecDepth 100000 in
theorem ct_TH (l : Launch) : CtM l RX8 prog_1_method_1_code 2 7 df_TH eC_TH rm_TH := by
  refine ct_of l (by decide +kernel) (by decide) (fun D G h p e s m below meth c ls A hx hb hml hr hown hlocks hin hts hK hP hD hA hl => ?_)
  have hS : va_S A s.heap s.heap [] := va_S.rf
  have hP : va_P D vwCl [(h, .inr (7, [.null, .null, .null, .null, .null, .null, .null, .null, .null]))] s.heap := hP
  have hD : va_D A [(h, .inr (7, [.null, .null, .null, .null, .null, .null, .null, .null, .null]))] := hD
  refine lv_aload_n hx hb dc_TH_0 rfl (lv_at hl 0 rfl) ?_
  refine W.objInit hx hb hown (hts _ wc_38) (hts _ wc_0) (hts _ wc_1) rfl (by rw [hml]; exact hl.1) rfl dc_TH_1 (Nat.le_of_ble_eq_true rfl) (Nat.le_of_ble_eq_true rfl) ?_
  refine W.eq (g2 := F0 m 4 ls []) rfl ?_
  refine lv_aload_n hx hb dc_TH_4 rfl (lv_at hl 0 rfl) ?_
  refine ct_new (G := G) (ci := 0) (T := TX0) (ty := tyX0) hx hb hml hown hts hK hP hD hS hA hl.1 wtX0 tyX0_ok rfl fs_Farm wc_39 wc_40 wc_41 wc_42 wc_43 (Or.inl wc_44) (by decide) (ct_Farm l) ⟨Nat.le_of_ble_eq_true rfl, Nat.le_of_ble_eq_true rfl⟩ ⟨Nat.le_of_ble_eq_true rfl, Nat.le_of_ble_eq_true rfl⟩ (Nat.le_of_ble_eq_true rfl) dc_TH_5 dc_TH_8 dc_TH_9 (fun h5 wn H locs hE hP hD hS => ?_)
  obtain ⟨h5_0, h5_1, h5_2, h5_3, h5_4, h5_5, h5_6, a5, rfl⟩ := hE
  have hP : va_P D vwCl ((h, .inr (7, [.null, .null, .null, .null, .null, .null, .null, .null, .null])) :: (cC_Farm G h5 h5_0 h5_1 h5_2 h5_3 h5_4 h5_5 h5_6 a5)) H := hP
  have hD : va_D A ((h, .inr (7, [.null, .null, .null, .null, .null, .null, .null, .null, .null])) :: (cC_Farm G h5 h5_0 h5_1 h5_2 h5_3 h5_4 h5_5 h5_6 a5)) := hD
  refine W.widen (k := 128) (n := 1576) (Nat.le_of_ble_eq_true rfl) (Nat.le_of_ble_eq_true rfl) ?_
  refine va_putF (D := D) (ci := 7) (v := .ref h5) (ty := (.object "ThumbHedges$Farm")) (C := RX8) (T := TX8) (N := 9) hx hb hts wtX8 tyX8 tyX8_ok nmX8 hown hK.1 hP hD hS 0 rfl rfl 0 (by decide) (hts _ wc_45) (fun _ h9 => h9) rfl hin rfl (by decide +kernel) rfl rfl (Nat.le_of_ble_eq_true rfl) dc_TH_12 (fun H locs hP hD hS => ?_)
  have hP : va_P D vwCl ((h, .inr (7, [.ref h5, .null, .null, .null, .null, .null, .null, .null, .null])) :: (cC_Farm G h5 h5_0 h5_1 h5_2 h5_3 h5_4 h5_5 h5_6 a5)) H := hP
  have hD : va_D A ((h, .inr (7, [.ref h5, .null, .null, .null, .null, .null, .null, .null, .null])) :: (cC_Farm G h5 h5_0 h5_1 h5_2 h5_3 h5_4 h5_5 h5_6 a5)) := hD
  refine lv_aload_n hx hb dc_TH_15 rfl (lv_at hl 0 rfl) ?_
  refine ct_new (G := G) (ci := 0) (T := TX0) (ty := tyX0) hx hb hml hown hts hK hP hD hS hA hl.1 wtX0 tyX0_ok rfl fs_Farm wc_39 wc_40 wc_41 wc_42 wc_43 (Or.inl wc_44) (by decide) (ct_Farm l) ⟨Nat.le_of_ble_eq_true rfl, Nat.le_of_ble_eq_true rfl⟩ ⟨Nat.le_of_ble_eq_true rfl, Nat.le_of_ble_eq_true rfl⟩ (Nat.le_of_ble_eq_true rfl) dc_TH_16 dc_TH_19 dc_TH_20 (fun h16 wn H locs hE hP hD hS => ?_)
  obtain ⟨h16_0, h16_1, h16_2, h16_3, h16_4, h16_5, h16_6, a16, rfl⟩ := hE
  have hP : va_P D vwCl ((h, .inr (7, [.ref h5, .null, .null, .null, .null, .null, .null, .null, .null])) :: (cC_Farm G h5 h5_0 h5_1 h5_2 h5_3 h5_4 h5_5 h5_6 a5 ++ cC_Farm G h16 h16_0 h16_1 h16_2 h16_3 h16_4 h16_5 h16_6 a16)) H := hP
  have hD : va_D A ((h, .inr (7, [.ref h5, .null, .null, .null, .null, .null, .null, .null, .null])) :: (cC_Farm G h5 h5_0 h5_1 h5_2 h5_3 h5_4 h5_5 h5_6 a5 ++ cC_Farm G h16 h16_0 h16_1 h16_2 h16_3 h16_4 h16_5 h16_6 a16)) := hD
  refine W.widen (k := 256) (n := 3152) (Nat.le_of_ble_eq_true rfl) (Nat.le_of_ble_eq_true rfl) ?_
  refine va_putF (D := D) (ci := 7) (v := .ref h16) (ty := (.object "ThumbHedges$Farm")) (C := RX8) (T := TX8) (N := 9) hx hb hts wtX8 tyX8 tyX8_ok nmX8 hown hK.1 hP hD hS 0 rfl rfl 1 (by decide) (hts _ wc_46) (fun _ h9 => h9) rfl hin rfl (by decide +kernel) rfl rfl (Nat.le_of_ble_eq_true rfl) dc_TH_23 (fun H locs hP hD hS => ?_)
  have hP : va_P D vwCl ((h, .inr (7, [.ref h5, .ref h16, .null, .null, .null, .null, .null, .null, .null])) :: (cC_Farm G h5 h5_0 h5_1 h5_2 h5_3 h5_4 h5_5 h5_6 a5 ++ cC_Farm G h16 h16_0 h16_1 h16_2 h16_3 h16_4 h16_5 h16_6 a16)) H := hP
  have hD : va_D A ((h, .inr (7, [.ref h5, .ref h16, .null, .null, .null, .null, .null, .null, .null])) :: (cC_Farm G h5 h5_0 h5_1 h5_2 h5_3 h5_4 h5_5 h5_6 a5 ++ cC_Farm G h16 h16_0 h16_1 h16_2 h16_3 h16_4 h16_5 h16_6 a16)) := hD
  refine lv_aload_n hx hb dc_TH_26 rfl (lv_at hl 0 rfl) ?_
  refine ct_new (G := G) (ci := 1) (T := TX1) (ty := tyX1) hx hb hml hown hts hK hP hD hS hA hl.1 wtX1 tyX1_ok rfl fs_Hands wc_47 wc_48 wc_49 wc_50 wc_51 (Or.inr (by decide +kernel)) (by decide) (ct_Hands l) ⟨Nat.le_of_ble_eq_true rfl, Nat.le_of_ble_eq_true rfl⟩ ⟨Nat.le_of_ble_eq_true rfl, Nat.le_of_ble_eq_true rfl⟩ (Nat.le_of_ble_eq_true rfl) dc_TH_27 dc_TH_30 dc_TH_31 (fun h27 wn H locs hE hP hD hS => ?_)
  obtain ⟨h27_0, rfl⟩ := hE
  have hP : va_P D vwCl ((h, .inr (7, [.ref h5, .ref h16, .null, .null, .null, .null, .null, .null, .null])) :: ((cC_Farm G h5 h5_0 h5_1 h5_2 h5_3 h5_4 h5_5 h5_6 a5 ++ cC_Farm G h16 h16_0 h16_1 h16_2 h16_3 h16_4 h16_5 h16_6 a16) ++ cC_Hands G h27 h27_0)) H := hP
  have hD : va_D A ((h, .inr (7, [.ref h5, .ref h16, .null, .null, .null, .null, .null, .null, .null])) :: ((cC_Farm G h5 h5_0 h5_1 h5_2 h5_3 h5_4 h5_5 h5_6 a5 ++ cC_Farm G h16 h16_0 h16_1 h16_2 h16_3 h16_4 h16_5 h16_6 a16) ++ cC_Hands G h27 h27_0)) := hD
  refine W.widen (k := 258) (n := 3185) (Nat.le_of_ble_eq_true rfl) (Nat.le_of_ble_eq_true rfl) ?_
  refine va_putF (D := D) (ci := 7) (v := .ref h27) (ty := (.object "ThumbHedges$Hands")) (C := RX8) (T := TX8) (N := 9) hx hb hts wtX8 tyX8 tyX8_ok nmX8 hown hK.1 hP hD hS 0 rfl rfl 2 (by decide) (hts _ wc_52) (fun _ h9 => h9) rfl hin rfl (by decide +kernel) rfl rfl (Nat.le_of_ble_eq_true rfl) dc_TH_34 (fun H locs hP hD hS => ?_)
  have hP : va_P D vwCl ((h, .inr (7, [.ref h5, .ref h16, .ref h27, .null, .null, .null, .null, .null, .null])) :: ((cC_Farm G h5 h5_0 h5_1 h5_2 h5_3 h5_4 h5_5 h5_6 a5 ++ cC_Farm G h16 h16_0 h16_1 h16_2 h16_3 h16_4 h16_5 h16_6 a16) ++ cC_Hands G h27 h27_0)) H := hP
  have hD : va_D A ((h, .inr (7, [.ref h5, .ref h16, .ref h27, .null, .null, .null, .null, .null, .null])) :: ((cC_Farm G h5 h5_0 h5_1 h5_2 h5_3 h5_4 h5_5 h5_6 a5 ++ cC_Farm G h16 h16_0 h16_1 h16_2 h16_3 h16_4 h16_5 h16_6 a16) ++ cC_Hands G h27 h27_0)) := hD
  refine lv_aload_n hx hb dc_TH_37 rfl (lv_at hl 0 rfl) ?_
  refine lv_iconst (v := 4) hx hb dc_TH_38 (by decide) ?_
  refine n_row (G := G) (t := 4) hx hb hown (hts _ wc_53) hK.2.2.1 hK.1 (fun _ => rfl) hP hD hS hA 4 (by decide) (by decide) (Nat.le_of_ble_eq_true rfl) (Nat.le_of_ble_eq_true rfl) (Nat.le_of_ble_eq_true rfl) dc_TH_39 (fun q39 H hP hD hS => ?_)
  have hP : va_P D vwCl ((h, .inr (7, [.ref h5, .ref h16, .ref h27, .null, .null, .null, .null, .null, .null])) :: (((cC_Farm G h5 h5_0 h5_1 h5_2 h5_3 h5_4 h5_5 h5_6 a5 ++ cC_Farm G h16 h16_0 h16_1 h16_2 h16_3 h16_4 h16_5 h16_6 a16) ++ cC_Hands G h27 h27_0) ++ [(q39, .inl (G 4, 4, .inr (.inr (.inr (.inr (fun _ => none))))))])) H := hP
  have hD : va_D A ((h, .inr (7, [.ref h5, .ref h16, .ref h27, .null, .null, .null, .null, .null, .null])) :: (((cC_Farm G h5 h5_0 h5_1 h5_2 h5_3 h5_4 h5_5 h5_6 a5 ++ cC_Farm G h16 h16_0 h16_1 h16_2 h16_3 h16_4 h16_5 h16_6 a16) ++ cC_Hands G h27 h27_0) ++ [(q39, .inl (G 4, 4, .inr (.inr (.inr (.inr (fun _ => none))))))])) := hD
  refine W.widen (k := 259) (n := 3189) (Nat.le_of_ble_eq_true rfl) (Nat.le_of_ble_eq_true rfl) ?_
  refine va_putF (D := D) (ci := 7) (v := .ref q39) (ty := (.array (.object "ThumbHedges$Text"))) (C := RX8) (T := TX8) (N := 9) hx hb hts wtX8 tyX8 tyX8_ok nmX8 hown hK.1 hP hD hS 0 rfl rfl 3 (by decide) (hts _ wc_54) (fun _ h9 => h9) rfl hin rfl (by decide +kernel) rfl rfl (Nat.le_of_ble_eq_true rfl) dc_TH_42 (fun H locs hP hD hS => ?_)
  have hP : va_P D vwCl ((h, .inr (7, [.ref h5, .ref h16, .ref h27, .ref q39, .null, .null, .null, .null, .null])) :: (((cC_Farm G h5 h5_0 h5_1 h5_2 h5_3 h5_4 h5_5 h5_6 a5 ++ cC_Farm G h16 h16_0 h16_1 h16_2 h16_3 h16_4 h16_5 h16_6 a16) ++ cC_Hands G h27 h27_0) ++ [(q39, .inl (G 4, 4, .inr (.inr (.inr (.inr (fun _ => none))))))])) H := hP
  have hD : va_D A ((h, .inr (7, [.ref h5, .ref h16, .ref h27, .ref q39, .null, .null, .null, .null, .null])) :: (((cC_Farm G h5 h5_0 h5_1 h5_2 h5_3 h5_4 h5_5 h5_6 a5 ++ cC_Farm G h16 h16_0 h16_1 h16_2 h16_3 h16_4 h16_5 h16_6 a16) ++ cC_Hands G h27 h27_0) ++ [(q39, .inl (G 4, 4, .inr (.inr (.inr (.inr (fun _ => none))))))])) := hD
  refine lv_aload_n hx hb dc_TH_45 rfl (lv_at hl 0 rfl) ?_
  refine ct_new (G := G) (ci := 6) (T := TX7) (ty := tyX7) hx hb hml hown hts hK hP hD hS hA hl.1 wtX7 tyX7_ok rfl fs_Text wc_53 wc_22 wc_23 wc_24 wc_25 (Or.inr (by decide +kernel)) (by decide) (ct_Text l) ⟨Nat.le_of_ble_eq_true rfl, Nat.le_of_ble_eq_true rfl⟩ ⟨Nat.le_of_ble_eq_true rfl, Nat.le_of_ble_eq_true rfl⟩ (Nat.le_of_ble_eq_true rfl) dc_TH_46 dc_TH_49 dc_TH_50 (fun h46 wn H locs hE hP hD hS => ?_)
  obtain ⟨h46_0, h46_1, h46_2, h46_3, rfl⟩ := hE
  have hP : va_P D vwCl ((h, .inr (7, [.ref h5, .ref h16, .ref h27, .ref q39, .null, .null, .null, .null, .null])) :: ((((cC_Farm G h5 h5_0 h5_1 h5_2 h5_3 h5_4 h5_5 h5_6 a5 ++ cC_Farm G h16 h16_0 h16_1 h16_2 h16_3 h16_4 h16_5 h16_6 a16) ++ cC_Hands G h27 h27_0) ++ [(q39, .inl (G 4, 4, .inr (.inr (.inr (.inr (fun _ => none))))))]) ++ cC_Text G h46 h46_0 h46_1 h46_2 h46_3)) H := hP
  have hD : va_D A ((h, .inr (7, [.ref h5, .ref h16, .ref h27, .ref q39, .null, .null, .null, .null, .null])) :: ((((cC_Farm G h5 h5_0 h5_1 h5_2 h5_3 h5_4 h5_5 h5_6 a5 ++ cC_Farm G h16 h16_0 h16_1 h16_2 h16_3 h16_4 h16_5 h16_6 a16) ++ cC_Hands G h27 h27_0) ++ [(q39, .inl (G 4, 4, .inr (.inr (.inr (.inr (fun _ => none))))))]) ++ cC_Text G h46 h46_0 h46_1 h46_2 h46_3)) := hD
  refine W.widen (k := 264) (n := 3573) (Nat.le_of_ble_eq_true rfl) (Nat.le_of_ble_eq_true rfl) ?_
  refine va_putF (D := D) (ci := 7) (v := .ref h46) (ty := (.object "ThumbHedges$Text")) (C := RX8) (T := TX8) (N := 9) hx hb hts wtX8 tyX8 tyX8_ok nmX8 hown hK.1 hP hD hS 0 rfl rfl 4 (by decide) (hts _ wc_55) (fun _ h9 => h9) rfl hin rfl (by decide +kernel) rfl rfl (Nat.le_of_ble_eq_true rfl) dc_TH_53 (fun H locs hP hD hS => ?_)
  have hP : va_P D vwCl ((h, .inr (7, [.ref h5, .ref h16, .ref h27, .ref q39, .ref h46, .null, .null, .null, .null])) :: ((((cC_Farm G h5 h5_0 h5_1 h5_2 h5_3 h5_4 h5_5 h5_6 a5 ++ cC_Farm G h16 h16_0 h16_1 h16_2 h16_3 h16_4 h16_5 h16_6 a16) ++ cC_Hands G h27 h27_0) ++ [(q39, .inl (G 4, 4, .inr (.inr (.inr (.inr (fun _ => none))))))]) ++ cC_Text G h46 h46_0 h46_1 h46_2 h46_3)) H := hP
  have hD : va_D A ((h, .inr (7, [.ref h5, .ref h16, .ref h27, .ref q39, .ref h46, .null, .null, .null, .null])) :: ((((cC_Farm G h5 h5_0 h5_1 h5_2 h5_3 h5_4 h5_5 h5_6 a5 ++ cC_Farm G h16 h16_0 h16_1 h16_2 h16_3 h16_4 h16_5 h16_6 a16) ++ cC_Hands G h27 h27_0) ++ [(q39, .inl (G 4, 4, .inr (.inr (.inr (.inr (fun _ => none))))))]) ++ cC_Text G h46 h46_0 h46_1 h46_2 h46_3)) := hD
  refine lv_aload_n hx hb dc_TH_56 rfl (lv_at hl 0 rfl) ?_
  refine ct_new (G := G) (ci := 5) (T := TX6) (ty := tyX6) hx hb hml hown hts hK hP hD hS hA hl.1 wtX6 tyX6_ok rfl fs_Reader wc_56 wc_57 wc_58 wc_59 wc_60 (Or.inr (by decide +kernel)) (by decide) (ct_Reader l) ⟨Nat.le_of_ble_eq_true rfl, Nat.le_of_ble_eq_true rfl⟩ ⟨Nat.le_of_ble_eq_true rfl, Nat.le_of_ble_eq_true rfl⟩ (Nat.le_of_ble_eq_true rfl) dc_TH_57 dc_TH_60 dc_TH_61 (fun h57 wn H locs hE hP hD hS => ?_)
  obtain ⟨h57_0, h57_1, h57_2, h57_3, h57_4, h57_5, rfl⟩ := hE
  have hP : va_P D vwCl ((h, .inr (7, [.ref h5, .ref h16, .ref h27, .ref q39, .ref h46, .null, .null, .null, .null])) :: (((((cC_Farm G h5 h5_0 h5_1 h5_2 h5_3 h5_4 h5_5 h5_6 a5 ++ cC_Farm G h16 h16_0 h16_1 h16_2 h16_3 h16_4 h16_5 h16_6 a16) ++ cC_Hands G h27 h27_0) ++ [(q39, .inl (G 4, 4, .inr (.inr (.inr (.inr (fun _ => none))))))]) ++ cC_Text G h46 h46_0 h46_1 h46_2 h46_3) ++ cC_Reader G h57 h57_0 h57_1 h57_2 h57_3 h57_4 h57_5)) H := hP
  have hD : va_D A ((h, .inr (7, [.ref h5, .ref h16, .ref h27, .ref q39, .ref h46, .null, .null, .null, .null])) :: (((((cC_Farm G h5 h5_0 h5_1 h5_2 h5_3 h5_4 h5_5 h5_6 a5 ++ cC_Farm G h16 h16_0 h16_1 h16_2 h16_3 h16_4 h16_5 h16_6 a16) ++ cC_Hands G h27 h27_0) ++ [(q39, .inl (G 4, 4, .inr (.inr (.inr (.inr (fun _ => none))))))]) ++ cC_Text G h46 h46_0 h46_1 h46_2 h46_3) ++ cC_Reader G h57 h57_0 h57_1 h57_2 h57_3 h57_4 h57_5)) := hD
  refine W.widen (k := 271) (n := 4269) (Nat.le_of_ble_eq_true rfl) (Nat.le_of_ble_eq_true rfl) ?_
  refine va_putF (D := D) (ci := 7) (v := .ref h57) (ty := (.object "ThumbHedges$Reader")) (C := RX8) (T := TX8) (N := 9) hx hb hts wtX8 tyX8 tyX8_ok nmX8 hown hK.1 hP hD hS 0 rfl rfl 5 (by decide) (hts _ wc_61) (fun _ h9 => h9) rfl hin rfl (by decide +kernel) rfl rfl (Nat.le_of_ble_eq_true rfl) dc_TH_64 (fun H locs hP hD hS => ?_)
  have hP : va_P D vwCl ((h, .inr (7, [.ref h5, .ref h16, .ref h27, .ref q39, .ref h46, .ref h57, .null, .null, .null])) :: (((((cC_Farm G h5 h5_0 h5_1 h5_2 h5_3 h5_4 h5_5 h5_6 a5 ++ cC_Farm G h16 h16_0 h16_1 h16_2 h16_3 h16_4 h16_5 h16_6 a16) ++ cC_Hands G h27 h27_0) ++ [(q39, .inl (G 4, 4, .inr (.inr (.inr (.inr (fun _ => none))))))]) ++ cC_Text G h46 h46_0 h46_1 h46_2 h46_3) ++ cC_Reader G h57 h57_0 h57_1 h57_2 h57_3 h57_4 h57_5)) H := hP
  have hD : va_D A ((h, .inr (7, [.ref h5, .ref h16, .ref h27, .ref q39, .ref h46, .ref h57, .null, .null, .null])) :: (((((cC_Farm G h5 h5_0 h5_1 h5_2 h5_3 h5_4 h5_5 h5_6 a5 ++ cC_Farm G h16 h16_0 h16_1 h16_2 h16_3 h16_4 h16_5 h16_6 a16) ++ cC_Hands G h27 h27_0) ++ [(q39, .inl (G 4, 4, .inr (.inr (.inr (.inr (fun _ => none))))))]) ++ cC_Text G h46 h46_0 h46_1 h46_2 h46_3) ++ cC_Reader G h57 h57_0 h57_1 h57_2 h57_3 h57_4 h57_5)) := hD
  refine lv_aload_n hx hb dc_TH_67 rfl (lv_at hl 0 rfl) ?_
  refine ct_new (G := G) (ci := 2) (T := TX2) (ty := tyX2) hx hb hml hown hts hK hP hD hS hA hl.1 wtX2 tyX2_ok rfl fs_Judge wc_62 wc_63 wc_64 wc_65 wc_66 (Or.inr (by decide +kernel)) (by decide) (ct_Judge l) ⟨Nat.le_of_ble_eq_true rfl, Nat.le_of_ble_eq_true rfl⟩ ⟨Nat.le_of_ble_eq_true rfl, Nat.le_of_ble_eq_true rfl⟩ (Nat.le_of_ble_eq_true rfl) dc_TH_68 dc_TH_71 dc_TH_72 (fun h68 wn H locs hE hP hD hS => ?_)
  obtain ⟨h68_0, h68_1, rfl⟩ := hE
  have hP : va_P D vwCl ((h, .inr (7, [.ref h5, .ref h16, .ref h27, .ref q39, .ref h46, .ref h57, .null, .null, .null])) :: ((((((cC_Farm G h5 h5_0 h5_1 h5_2 h5_3 h5_4 h5_5 h5_6 a5 ++ cC_Farm G h16 h16_0 h16_1 h16_2 h16_3 h16_4 h16_5 h16_6 a16) ++ cC_Hands G h27 h27_0) ++ [(q39, .inl (G 4, 4, .inr (.inr (.inr (.inr (fun _ => none))))))]) ++ cC_Text G h46 h46_0 h46_1 h46_2 h46_3) ++ cC_Reader G h57 h57_0 h57_1 h57_2 h57_3 h57_4 h57_5) ++ cC_Judge G h68 h68_0 h68_1)) H := hP
  have hD : va_D A ((h, .inr (7, [.ref h5, .ref h16, .ref h27, .ref q39, .ref h46, .ref h57, .null, .null, .null])) :: ((((((cC_Farm G h5 h5_0 h5_1 h5_2 h5_3 h5_4 h5_5 h5_6 a5 ++ cC_Farm G h16 h16_0 h16_1 h16_2 h16_3 h16_4 h16_5 h16_6 a16) ++ cC_Hands G h27 h27_0) ++ [(q39, .inl (G 4, 4, .inr (.inr (.inr (.inr (fun _ => none))))))]) ++ cC_Text G h46 h46_0 h46_1 h46_2 h46_3) ++ cC_Reader G h57 h57_0 h57_1 h57_2 h57_3 h57_4 h57_5) ++ cC_Judge G h68 h68_0 h68_1)) := hD
  refine W.widen (k := 274) (n := 4579) (Nat.le_of_ble_eq_true rfl) (Nat.le_of_ble_eq_true rfl) ?_
  refine va_putF (D := D) (ci := 7) (v := .ref h68) (ty := (.object "ThumbHedges$Judge")) (C := RX8) (T := TX8) (N := 9) hx hb hts wtX8 tyX8 tyX8_ok nmX8 hown hK.1 hP hD hS 0 rfl rfl 6 (by decide) (hts _ wc_67) (fun _ h9 => h9) rfl hin rfl (by decide +kernel) rfl rfl (Nat.le_of_ble_eq_true rfl) dc_TH_75 (fun H locs hP hD hS => ?_)
  have hP : va_P D vwCl ((h, .inr (7, [.ref h5, .ref h16, .ref h27, .ref q39, .ref h46, .ref h57, .ref h68, .null, .null])) :: ((((((cC_Farm G h5 h5_0 h5_1 h5_2 h5_3 h5_4 h5_5 h5_6 a5 ++ cC_Farm G h16 h16_0 h16_1 h16_2 h16_3 h16_4 h16_5 h16_6 a16) ++ cC_Hands G h27 h27_0) ++ [(q39, .inl (G 4, 4, .inr (.inr (.inr (.inr (fun _ => none))))))]) ++ cC_Text G h46 h46_0 h46_1 h46_2 h46_3) ++ cC_Reader G h57 h57_0 h57_1 h57_2 h57_3 h57_4 h57_5) ++ cC_Judge G h68 h68_0 h68_1)) H := hP
  have hD : va_D A ((h, .inr (7, [.ref h5, .ref h16, .ref h27, .ref q39, .ref h46, .ref h57, .ref h68, .null, .null])) :: ((((((cC_Farm G h5 h5_0 h5_1 h5_2 h5_3 h5_4 h5_5 h5_6 a5 ++ cC_Farm G h16 h16_0 h16_1 h16_2 h16_3 h16_4 h16_5 h16_6 a16) ++ cC_Hands G h27 h27_0) ++ [(q39, .inl (G 4, 4, .inr (.inr (.inr (.inr (fun _ => none))))))]) ++ cC_Text G h46 h46_0 h46_1 h46_2 h46_3) ++ cC_Reader G h57 h57_0 h57_1 h57_2 h57_3 h57_4 h57_5) ++ cC_Judge G h68 h68_0 h68_1)) := hD
  refine lv_aload_n hx hb dc_TH_78 rfl (lv_at hl 0 rfl) ?_
  refine ct_new (G := G) (ci := 4) (T := TX4) (ty := tyX4) hx hb hml hown hts hK hP hD hS hA hl.1 wtX4 tyX4_ok rfl fs_Maze wc_68 wc_69 wc_70 wc_71 wc_72 (Or.inr (by decide +kernel)) (by decide) (ct_Maze l) ⟨Nat.le_of_ble_eq_true rfl, Nat.le_of_ble_eq_true rfl⟩ ⟨Nat.le_of_ble_eq_true rfl, Nat.le_of_ble_eq_true rfl⟩ (Nat.le_of_ble_eq_true rfl) dc_TH_79 dc_TH_82 dc_TH_83 (fun h79 wn H locs hE hP hD hS => ?_)
  obtain ⟨h79_0, rfl⟩ := hE
  have hP : va_P D vwCl ((h, .inr (7, [.ref h5, .ref h16, .ref h27, .ref q39, .ref h46, .ref h57, .ref h68, .null, .null])) :: (((((((cC_Farm G h5 h5_0 h5_1 h5_2 h5_3 h5_4 h5_5 h5_6 a5 ++ cC_Farm G h16 h16_0 h16_1 h16_2 h16_3 h16_4 h16_5 h16_6 a16) ++ cC_Hands G h27 h27_0) ++ [(q39, .inl (G 4, 4, .inr (.inr (.inr (.inr (fun _ => none))))))]) ++ cC_Text G h46 h46_0 h46_1 h46_2 h46_3) ++ cC_Reader G h57 h57_0 h57_1 h57_2 h57_3 h57_4 h57_5) ++ cC_Judge G h68 h68_0 h68_1) ++ cC_Maze G h79 h79_0)) H := hP
  have hD : va_D A ((h, .inr (7, [.ref h5, .ref h16, .ref h27, .ref q39, .ref h46, .ref h57, .ref h68, .null, .null])) :: (((((((cC_Farm G h5 h5_0 h5_1 h5_2 h5_3 h5_4 h5_5 h5_6 a5 ++ cC_Farm G h16 h16_0 h16_1 h16_2 h16_3 h16_4 h16_5 h16_6 a16) ++ cC_Hands G h27 h27_0) ++ [(q39, .inl (G 4, 4, .inr (.inr (.inr (.inr (fun _ => none))))))]) ++ cC_Text G h46 h46_0 h46_1 h46_2 h46_3) ++ cC_Reader G h57 h57_0 h57_1 h57_2 h57_3 h57_4 h57_5) ++ cC_Judge G h68 h68_0 h68_1) ++ cC_Maze G h79 h79_0)) := hD
  refine W.widen (k := 276) (n := 4607) (Nat.le_of_ble_eq_true rfl) (Nat.le_of_ble_eq_true rfl) ?_
  refine va_putF (D := D) (ci := 7) (v := .ref h79) (ty := (.object "ThumbHedges$Maze")) (C := RX8) (T := TX8) (N := 9) hx hb hts wtX8 tyX8 tyX8_ok nmX8 hown hK.1 hP hD hS 0 rfl rfl 7 (by decide) (hts _ wc_73) (fun _ h9 => h9) rfl hin rfl (by decide +kernel) rfl rfl (Nat.le_of_ble_eq_true rfl) dc_TH_86 (fun H locs hP hD hS => ?_)
  have hP : va_P D vwCl ((h, .inr (7, [.ref h5, .ref h16, .ref h27, .ref q39, .ref h46, .ref h57, .ref h68, .ref h79, .null])) :: (((((((cC_Farm G h5 h5_0 h5_1 h5_2 h5_3 h5_4 h5_5 h5_6 a5 ++ cC_Farm G h16 h16_0 h16_1 h16_2 h16_3 h16_4 h16_5 h16_6 a16) ++ cC_Hands G h27 h27_0) ++ [(q39, .inl (G 4, 4, .inr (.inr (.inr (.inr (fun _ => none))))))]) ++ cC_Text G h46 h46_0 h46_1 h46_2 h46_3) ++ cC_Reader G h57 h57_0 h57_1 h57_2 h57_3 h57_4 h57_5) ++ cC_Judge G h68 h68_0 h68_1) ++ cC_Maze G h79 h79_0)) H := hP
  have hD : va_D A ((h, .inr (7, [.ref h5, .ref h16, .ref h27, .ref q39, .ref h46, .ref h57, .ref h68, .ref h79, .null])) :: (((((((cC_Farm G h5 h5_0 h5_1 h5_2 h5_3 h5_4 h5_5 h5_6 a5 ++ cC_Farm G h16 h16_0 h16_1 h16_2 h16_3 h16_4 h16_5 h16_6 a16) ++ cC_Hands G h27 h27_0) ++ [(q39, .inl (G 4, 4, .inr (.inr (.inr (.inr (fun _ => none))))))]) ++ cC_Text G h46 h46_0 h46_1 h46_2 h46_3) ++ cC_Reader G h57 h57_0 h57_1 h57_2 h57_3 h57_4 h57_5) ++ cC_Judge G h68 h68_0 h68_1) ++ cC_Maze G h79 h79_0)) := hD
  refine lv_aload_n hx hb dc_TH_89 rfl (lv_at hl 0 rfl) ?_
  refine ct_new (G := G) (ci := 3) (T := TX3) (ty := tyX3) hx hb hml hown hts hK hP hD hS hA hl.1 wtX3 tyX3_ok rfl fs_Land wc_74 wc_29 wc_30 wc_31 wc_32 (Or.inr (by decide +kernel)) (by decide) (ct_Land l) ⟨Nat.le_of_ble_eq_true rfl, Nat.le_of_ble_eq_true rfl⟩ ⟨Nat.le_of_ble_eq_true rfl, Nat.le_of_ble_eq_true rfl⟩ (Nat.le_of_ble_eq_true rfl) dc_TH_90 dc_TH_93 dc_TH_94 (fun h90 wn H locs hE hP hD hS => ?_)
  obtain ⟨h90_0, h90_1, h90_2, rfl⟩ := hE
  have hP : va_P D vwCl ((h, .inr (7, [.ref h5, .ref h16, .ref h27, .ref q39, .ref h46, .ref h57, .ref h68, .ref h79, .null])) :: ((((((((cC_Farm G h5 h5_0 h5_1 h5_2 h5_3 h5_4 h5_5 h5_6 a5 ++ cC_Farm G h16 h16_0 h16_1 h16_2 h16_3 h16_4 h16_5 h16_6 a16) ++ cC_Hands G h27 h27_0) ++ [(q39, .inl (G 4, 4, .inr (.inr (.inr (.inr (fun _ => none))))))]) ++ cC_Text G h46 h46_0 h46_1 h46_2 h46_3) ++ cC_Reader G h57 h57_0 h57_1 h57_2 h57_3 h57_4 h57_5) ++ cC_Judge G h68 h68_0 h68_1) ++ cC_Maze G h79 h79_0) ++ cC_Land G h90 h90_0 h90_1 h90_2)) H := hP
  have hD : va_D A ((h, .inr (7, [.ref h5, .ref h16, .ref h27, .ref q39, .ref h46, .ref h57, .ref h68, .ref h79, .null])) :: ((((((((cC_Farm G h5 h5_0 h5_1 h5_2 h5_3 h5_4 h5_5 h5_6 a5 ++ cC_Farm G h16 h16_0 h16_1 h16_2 h16_3 h16_4 h16_5 h16_6 a16) ++ cC_Hands G h27 h27_0) ++ [(q39, .inl (G 4, 4, .inr (.inr (.inr (.inr (fun _ => none))))))]) ++ cC_Text G h46 h46_0 h46_1 h46_2 h46_3) ++ cC_Reader G h57 h57_0 h57_1 h57_2 h57_3 h57_4 h57_5) ++ cC_Judge G h68 h68_0 h68_1) ++ cC_Maze G h79 h79_0) ++ cC_Land G h90 h90_0 h90_1 h90_2)) := hD
  refine W.widen (k := 280) (n := 4656) (Nat.le_of_ble_eq_true rfl) (Nat.le_of_ble_eq_true rfl) ?_
  refine va_putF (D := D) (ci := 7) (v := .ref h90) (ty := (.object "ThumbHedges$Land")) (C := RX8) (T := TX8) (N := 9) hx hb hts wtX8 tyX8 tyX8_ok nmX8 hown hK.1 hP hD hS 0 rfl rfl 8 (by decide) (hts _ wc_75) (fun _ h9 => h9) rfl hin rfl (by decide +kernel) rfl rfl (Nat.le_of_ble_eq_true rfl) dc_TH_97 (fun H locs hP hD hS => ?_)
  have hP : va_P D vwCl ((h, .inr (7, [.ref h5, .ref h16, .ref h27, .ref q39, .ref h46, .ref h57, .ref h68, .ref h79, .ref h90])) :: ((((((((cC_Farm G h5 h5_0 h5_1 h5_2 h5_3 h5_4 h5_5 h5_6 a5 ++ cC_Farm G h16 h16_0 h16_1 h16_2 h16_3 h16_4 h16_5 h16_6 a16) ++ cC_Hands G h27 h27_0) ++ [(q39, .inl (G 4, 4, .inr (.inr (.inr (.inr (fun _ => none))))))]) ++ cC_Text G h46 h46_0 h46_1 h46_2 h46_3) ++ cC_Reader G h57 h57_0 h57_1 h57_2 h57_3 h57_4 h57_5) ++ cC_Judge G h68 h68_0 h68_1) ++ cC_Maze G h79 h79_0) ++ cC_Land G h90 h90_0 h90_1 h90_2)) H := hP
  have hD : va_D A ((h, .inr (7, [.ref h5, .ref h16, .ref h27, .ref q39, .ref h46, .ref h57, .ref h68, .ref h79, .ref h90])) :: ((((((((cC_Farm G h5 h5_0 h5_1 h5_2 h5_3 h5_4 h5_5 h5_6 a5 ++ cC_Farm G h16 h16_0 h16_1 h16_2 h16_3 h16_4 h16_5 h16_6 a16) ++ cC_Hands G h27 h27_0) ++ [(q39, .inl (G 4, 4, .inr (.inr (.inr (.inr (fun _ => none))))))]) ++ cC_Text G h46 h46_0 h46_1 h46_2 h46_3) ++ cC_Reader G h57 h57_0 h57_1 h57_2 h57_3 h57_4 h57_5) ++ cC_Judge G h68 h68_0 h68_1) ++ cC_Maze G h79 h79_0) ++ cC_Land G h90 h90_0 h90_1 h90_2)) := hD
  refine lv_iconst (v := 0) hx hb dc_TH_100 (by decide) ?_
  refine lv_istore_n (lv' := [(1, .int 0), (0, .ref h)]) hx hb dc_TH_101 rfl hl (by decide) rfl (fun ls hl => ?_)
  have e0 : bC_TH G h h5 h5_0 h5_1 h5_2 h5_3 h5_4 h5_5 h5_6 a5 h16 h16_0 h16_1 h16_2 h16_3 h16_4 h16_5 h16_6 a16 h27 h27_0 q39 h46 h46_0 h46_1 h46_2 h46_3 h57 h57_0 h57_1 h57_2 h57_3 h57_4 h57_5 h68 h68_0 h68_1 h79 h79_0 h90 h90_0 h90_1 h90_2 (rw5 (fun _ => (0, 0, 0, 0, 0)) 0) ++ txts G (fun _ => (0, 0, 0, 0, 0)) 0 = ((h, .inr (7, [.ref h5, .ref h16, .ref h27, .ref q39, .ref h46, .ref h57, .ref h68, .ref h79, .ref h90])) :: ((((((((cC_Farm G h5 h5_0 h5_1 h5_2 h5_3 h5_4 h5_5 h5_6 a5 ++ cC_Farm G h16 h16_0 h16_1 h16_2 h16_3 h16_4 h16_5 h16_6 a16) ++ cC_Hands G h27 h27_0) ++ [(q39, .inl (G 4, 4, .inr (.inr (.inr (.inr (fun _ => none))))))]) ++ cC_Text G h46 h46_0 h46_1 h46_2 h46_3) ++ cC_Reader G h57 h57_0 h57_1 h57_2 h57_3 h57_4 h57_5) ++ cC_Judge G h68 h68_0 h68_1) ++ cC_Maze G h79 h79_0) ++ cC_Land G h90 h90_0 h90_1 h90_2)) := by
    rw [show rw5 (fun _ => (0, 0, 0, 0, 0)) 0 = (fun _ => none) from funext (fun j => if_neg (Nat.not_lt_zero j))]
    unfold bC_TH bA_TH bB_TH txts
    simp only [List.append_assoc, List.cons_append, List.nil_append, List.append_nil]
  exact lp_TH hx hb hml hr hown hlocks hts hK hA 4 0 (fun _ => (0, 0, 0, 0, 0)) H _ ls (by omega) (by rw [e0]; exact hP) (by rw [e0]; exact hD) hS hl
