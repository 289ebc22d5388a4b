section
-- ===== PART A: goes FIRST, ahead of the names: the tables' words, and 'selects' of the private methods out of them =====
/-- a private method of a class that the tables say can be made, by its rows of tables_1 -/
def lw_okq (q : MethodName × Nat) : Prop := (q.1.cls ≠ "java/lang/invoke/MethodHandle" ∧ q.1.cls ≠ "java/lang/invoke/VarHandle") ∧ Cond.instantiable q.1.cls q.2 ∈ tables_1 ∧ Cond.privateMethod q.1 ∈ tables_1 ∧ Cond.instanceMethod q.1 ∈ tables_1
theorem lw_p0 : lw_okq (⟨"ThumbHedges$Reader", "advance", "()V"⟩, 12) := ⟨⟨by decide +kernel, by decide +kernel⟩, List.mem_of_getElem? (i := 195) (by decide +kernel), List.mem_of_getElem? (i := 378) (by decide +kernel), List.mem_of_getElem? (i := 379) (by decide +kernel)⟩
theorem lw_p1 : lw_okq (⟨"ThumbHedges$Reader", "wordRead", "()I"⟩, 12) := ⟨⟨by decide +kernel, by decide +kernel⟩, List.mem_of_getElem? (i := 195) (by decide +kernel), List.mem_of_getElem? (i := 388) (by decide +kernel), List.mem_of_getElem? (i := 389) (by decide +kernel)⟩
theorem lw_p2 : lw_okq (⟨"ThumbHedges$Reader", "digitsRead", "()I"⟩, 12) := ⟨⟨by decide +kernel, by decide +kernel⟩, List.mem_of_getElem? (i := 195) (by decide +kernel), List.mem_of_getElem? (i := 444) (by decide +kernel), List.mem_of_getElem? (i := 445) (by decide +kernel)⟩
theorem lw_p3 : lw_okq (⟨"ThumbHedges$Reader", "signRead", "()I"⟩, 12) := ⟨⟨by decide +kernel, by decide +kernel⟩, List.mem_of_getElem? (i := 195) (by decide +kernel), List.mem_of_getElem? (i := 451) (by decide +kernel), List.mem_of_getElem? (i := 452) (by decide +kernel)⟩
theorem lw_p4 : lw_okq (⟨"ThumbHedges$Reader", "clause", "()Z"⟩, 12) := ⟨⟨by decide +kernel, by decide +kernel⟩, List.mem_of_getElem? (i := 195) (by decide +kernel), List.mem_of_getElem? (i := 513) (by decide +kernel), List.mem_of_getElem? (i := 514) (by decide +kernel)⟩
theorem lw_p5 : lw_okq (⟨"ThumbHedges$Reader", "refuse", "(I)Z"⟩, 12) := ⟨⟨by decide +kernel, by decide +kernel⟩, List.mem_of_getElem? (i := 195) (by decide +kernel), List.mem_of_getElem? (i := 517) (by decide +kernel), List.mem_of_getElem? (i := 518) (by decide +kernel)⟩
theorem lw_p6 : lw_okq (⟨"ThumbHedges$Reader", "deed", "(I)Z"⟩, 12) := ⟨⟨by decide +kernel, by decide +kernel⟩, List.mem_of_getElem? (i := 195) (by decide +kernel), List.mem_of_getElem? (i := 525) (by decide +kernel), List.mem_of_getElem? (i := 526) (by decide +kernel)⟩
theorem lw_p7 : lw_okq (⟨"ThumbHedges$Reader", "oneNumber", "(III)Z"⟩, 12) := ⟨⟨by decide +kernel, by decide +kernel⟩, List.mem_of_getElem? (i := 195) (by decide +kernel), List.mem_of_getElem? (i := 529) (by decide +kernel), List.mem_of_getElem? (i := 530) (by decide +kernel)⟩
theorem lw_p8 : lw_okq (⟨"ThumbHedges$Reader", "isNumber", "(II)Z"⟩, 12) := ⟨⟨by decide +kernel, by decide +kernel⟩, List.mem_of_getElem? (i := 195) (by decide +kernel), List.mem_of_getElem? (i := 533) (by decide +kernel), List.mem_of_getElem? (i := 534) (by decide +kernel)⟩
theorem lw_p9 : lw_okq (⟨"ThumbHedges$Reader", "secondNumber", "(II)Z"⟩, 12) := ⟨⟨by decide +kernel, by decide +kernel⟩, List.mem_of_getElem? (i := 195) (by decide +kernel), List.mem_of_getElem? (i := 541) (by decide +kernel), List.mem_of_getElem? (i := 542) (by decide +kernel)⟩
theorem lw_p10 : lw_okq (⟨"ThumbHedges$Reader", "take", "(I)Z"⟩, 12) := ⟨⟨by decide +kernel, by decide +kernel⟩, List.mem_of_getElem? (i := 195) (by decide +kernel), List.mem_of_getElem? (i := 545) (by decide +kernel), List.mem_of_getElem? (i := 546) (by decide +kernel)⟩
theorem lw_p11 : lw_okq (⟨"ThumbHedges$Reader", "sum", "()Z"⟩, 12) := ⟨⟨by decide +kernel, by decide +kernel⟩, List.mem_of_getElem? (i := 195) (by decide +kernel), List.mem_of_getElem? (i := 554) (by decide +kernel), List.mem_of_getElem? (i := 555) (by decide +kernel)⟩
theorem lw_p12 : lw_okq (⟨"ThumbHedges$Reader", "product", "()Z"⟩, 12) := ⟨⟨by decide +kernel, by decide +kernel⟩, List.mem_of_getElem? (i := 195) (by decide +kernel), List.mem_of_getElem? (i := 558) (by decide +kernel), List.mem_of_getElem? (i := 559) (by decide +kernel)⟩
theorem lw_p13 : lw_okq (⟨"ThumbHedges$Reader", "one", "()Z"⟩, 12) := ⟨⟨by decide +kernel, by decide +kernel⟩, List.mem_of_getElem? (i := 195) (by decide +kernel), List.mem_of_getElem? (i := 562) (by decide +kernel), List.mem_of_getElem? (i := 563) (by decide +kernel)⟩
theorem lw_p14 : lw_okq (⟨"ThumbHedges$Reader", "emitAndAdvance", "(II)Z"⟩, 12) := ⟨⟨by decide +kernel, by decide +kernel⟩, List.mem_of_getElem? (i := 195) (by decide +kernel), List.mem_of_getElem? (i := 566) (by decide +kernel), List.mem_of_getElem? (i := 567) (by decide +kernel)⟩
theorem lw_p15 : lw_okq (⟨"ThumbHedges$Reader", "isNameHere", "()Z"⟩, 12) := ⟨⟨by decide +kernel, by decide +kernel⟩, List.mem_of_getElem? (i := 195) (by decide +kernel), List.mem_of_getElem? (i := 574) (by decide +kernel), List.mem_of_getElem? (i := 575) (by decide +kernel)⟩
def lw_privs_1 : List (MethodName × Nat) := [(⟨"ThumbHedges$Reader", "advance", "()V"⟩, 12), (⟨"ThumbHedges$Reader", "wordRead", "()I"⟩, 12), (⟨"ThumbHedges$Reader", "digitsRead", "()I"⟩, 12), (⟨"ThumbHedges$Reader", "signRead", "()I"⟩, 12), (⟨"ThumbHedges$Reader", "clause", "()Z"⟩, 12), (⟨"ThumbHedges$Reader", "refuse", "(I)Z"⟩, 12), (⟨"ThumbHedges$Reader", "deed", "(I)Z"⟩, 12), (⟨"ThumbHedges$Reader", "oneNumber", "(III)Z"⟩, 12), (⟨"ThumbHedges$Reader", "isNumber", "(II)Z"⟩, 12), (⟨"ThumbHedges$Reader", "secondNumber", "(II)Z"⟩, 12), (⟨"ThumbHedges$Reader", "take", "(I)Z"⟩, 12), (⟨"ThumbHedges$Reader", "sum", "()Z"⟩, 12), (⟨"ThumbHedges$Reader", "product", "()Z"⟩, 12), (⟨"ThumbHedges$Reader", "one", "()Z"⟩, 12), (⟨"ThumbHedges$Reader", "emitAndAdvance", "(II)Z"⟩, 12), (⟨"ThumbHedges$Reader", "isNameHere", "()Z"⟩, 12)]
theorem lw_r1 : ∀ q ∈ lw_privs_1, lw_okq q := List.forall_mem_cons.mpr ⟨lw_p0, List.forall_mem_cons.mpr ⟨lw_p1, List.forall_mem_cons.mpr ⟨lw_p2, List.forall_mem_cons.mpr ⟨lw_p3, List.forall_mem_cons.mpr ⟨lw_p4, List.forall_mem_cons.mpr ⟨lw_p5, List.forall_mem_cons.mpr ⟨lw_p6, List.forall_mem_cons.mpr ⟨lw_p7, List.forall_mem_cons.mpr ⟨lw_p8, List.forall_mem_cons.mpr ⟨lw_p9, List.forall_mem_cons.mpr ⟨lw_p10, List.forall_mem_cons.mpr ⟨lw_p11, List.forall_mem_cons.mpr ⟨lw_p12, List.forall_mem_cons.mpr ⟨lw_p13, List.forall_mem_cons.mpr ⟨lw_p14, List.forall_mem_cons.mpr ⟨lw_p15, fun _ h => absurd h List.not_mem_nil⟩⟩⟩⟩⟩⟩⟩⟩⟩⟩⟩⟩⟩⟩⟩⟩
theorem lw_p16 : lw_okq (⟨"ThumbHedges$Reader", "nested", "()Z"⟩, 12) := ⟨⟨by decide +kernel, by decide +kernel⟩, List.mem_of_getElem? (i := 195) (by decide +kernel), List.mem_of_getElem? (i := 578) (by decide +kernel), List.mem_of_getElem? (i := 579) (by decide +kernel)⟩
theorem lw_p17 : lw_okq (⟨"ThumbHedges$Reader", "inside", "(I)Z"⟩, 12) := ⟨⟨by decide +kernel, by decide +kernel⟩, List.mem_of_getElem? (i := 195) (by decide +kernel), List.mem_of_getElem? (i := 582) (by decide +kernel), List.mem_of_getElem? (i := 583) (by decide +kernel)⟩
theorem lw_p18 : lw_okq (⟨"ThumbHedges$Reader", "ask", "()Z"⟩, 12) := ⟨⟨by decide +kernel, by decide +kernel⟩, List.mem_of_getElem? (i := 195) (by decide +kernel), List.mem_of_getElem? (i := 586) (by decide +kernel), List.mem_of_getElem? (i := 587) (by decide +kernel)⟩
theorem lw_p19 : lw_okq (⟨"ThumbHedges$Reader", "choice", "()Z"⟩, 12) := ⟨⟨by decide +kernel, by decide +kernel⟩, List.mem_of_getElem? (i := 195) (by decide +kernel), List.mem_of_getElem? (i := 590) (by decide +kernel), List.mem_of_getElem? (i := 591) (by decide +kernel)⟩
theorem lw_p20 : lw_okq (⟨"ThumbHedges$Reader", "either", "()Z"⟩, 12) := ⟨⟨by decide +kernel, by decide +kernel⟩, List.mem_of_getElem? (i := 195) (by decide +kernel), List.mem_of_getElem? (i := 594) (by decide +kernel), List.mem_of_getElem? (i := 595) (by decide +kernel)⟩
theorem lw_p21 : lw_okq (⟨"ThumbHedges$Reader", "both", "()Z"⟩, 12) := ⟨⟨by decide +kernel, by decide +kernel⟩, List.mem_of_getElem? (i := 195) (by decide +kernel), List.mem_of_getElem? (i := 598) (by decide +kernel), List.mem_of_getElem? (i := 599) (by decide +kernel)⟩
theorem lw_p22 : lw_okq (⟨"ThumbHedges", "isText", "(I)Z"⟩, 9) := ⟨⟨by decide +kernel, by decide +kernel⟩, List.mem_of_getElem? (i := 21) (by decide +kernel), List.mem_of_getElem? (i := 626) (by decide +kernel), List.mem_of_getElem? (i := 627) (by decide +kernel)⟩
theorem lw_p23 : lw_okq (⟨"ThumbHedges", "isHand", "(I)Z"⟩, 9) := ⟨⟨by decide +kernel, by decide +kernel⟩, List.mem_of_getElem? (i := 21) (by decide +kernel), List.mem_of_getElem? (i := 671) (by decide +kernel), List.mem_of_getElem? (i := 672) (by decide +kernel)⟩
theorem lw_p24 : lw_okq (⟨"ThumbHedges", "passHours", "(I)Z"⟩, 9) := ⟨⟨by decide +kernel, by decide +kernel⟩, List.mem_of_getElem? (i := 21) (by decide +kernel), List.mem_of_getElem? (i := 724) (by decide +kernel), List.mem_of_getElem? (i := 725) (by decide +kernel)⟩
theorem lw_p25 : lw_okq (⟨"ThumbHedges", "passHour", "(LThumbHedges$Land;)V"⟩, 9) := ⟨⟨by decide +kernel, by decide +kernel⟩, List.mem_of_getElem? (i := 21) (by decide +kernel), List.mem_of_getElem? (i := 728) (by decide +kernel), List.mem_of_getElem? (i := 729) (by decide +kernel)⟩
theorem lw_p26 : lw_okq (⟨"ThumbHedges", "ruling", "()LThumbHedges$Text;"⟩, 9) := ⟨⟨by decide +kernel, by decide +kernel⟩, List.mem_of_getElem? (i := 21) (by decide +kernel), List.mem_of_getElem? (i := 732) (by decide +kernel), List.mem_of_getElem? (i := 733) (by decide +kernel)⟩
theorem lw_p27 : lw_okq (⟨"ThumbHedges$Judge", "nameCommon", "(LThumbHedges$Land;I)V"⟩, 3) := ⟨⟨by decide +kernel, by decide +kernel⟩, List.mem_of_getElem? (i := 245) (by decide +kernel), List.mem_of_getElem? (i := 741) (by decide +kernel), List.mem_of_getElem? (i := 742) (by decide +kernel)⟩
theorem lw_p28 : lw_okq (⟨"ThumbHedges$Judge", "valueOf", "([IIILThumbHedges$Land;)I"⟩, 3) := ⟨⟨by decide +kernel, by decide +kernel⟩, List.mem_of_getElem? (i := 245) (by decide +kernel), List.mem_of_getElem? (i := 755) (by decide +kernel), List.mem_of_getElem? (i := 756) (by decide +kernel)⟩
theorem lw_p29 : lw_okq (⟨"ThumbHedges$Judge", "pop", "()I"⟩, 3) := ⟨⟨by decide +kernel, by decide +kernel⟩, List.mem_of_getElem? (i := 245) (by decide +kernel), List.mem_of_getElem? (i := 759) (by decide +kernel), List.mem_of_getElem? (i := 760) (by decide +kernel)⟩
theorem lw_p30 : lw_okq (⟨"ThumbHedges$Judge", "push", "(I)V"⟩, 3) := ⟨⟨by decide +kernel, by decide +kernel⟩, List.mem_of_getElem? (i := 245) (by decide +kernel), List.mem_of_getElem? (i := 763) (by decide +kernel), List.mem_of_getElem? (i := 764) (by decide +kernel)⟩
theorem lw_p31 : lw_okq (⟨"ThumbHedges", "does", "(III)Z"⟩, 9) := ⟨⟨by decide +kernel, by decide +kernel⟩, List.mem_of_getElem? (i := 21) (by decide +kernel), List.mem_of_getElem? (i := 826) (by decide +kernel), List.mem_of_getElem? (i := 827) (by decide +kernel)⟩
def lw_privs_2 : List (MethodName × Nat) := [(⟨"ThumbHedges$Reader", "nested", "()Z"⟩, 12), (⟨"ThumbHedges$Reader", "inside", "(I)Z"⟩, 12), (⟨"ThumbHedges$Reader", "ask", "()Z"⟩, 12), (⟨"ThumbHedges$Reader", "choice", "()Z"⟩, 12), (⟨"ThumbHedges$Reader", "either", "()Z"⟩, 12), (⟨"ThumbHedges$Reader", "both", "()Z"⟩, 12), (⟨"ThumbHedges", "isText", "(I)Z"⟩, 9), (⟨"ThumbHedges", "isHand", "(I)Z"⟩, 9), (⟨"ThumbHedges", "passHours", "(I)Z"⟩, 9), (⟨"ThumbHedges", "passHour", "(LThumbHedges$Land;)V"⟩, 9), (⟨"ThumbHedges", "ruling", "()LThumbHedges$Text;"⟩, 9), (⟨"ThumbHedges$Judge", "nameCommon", "(LThumbHedges$Land;I)V"⟩, 3), (⟨"ThumbHedges$Judge", "valueOf", "([IIILThumbHedges$Land;)I"⟩, 3), (⟨"ThumbHedges$Judge", "pop", "()I"⟩, 3), (⟨"ThumbHedges$Judge", "push", "(I)V"⟩, 3), (⟨"ThumbHedges", "does", "(III)Z"⟩, 9)]
theorem lw_r2 : ∀ q ∈ lw_privs_2, lw_okq q := List.forall_mem_cons.mpr ⟨lw_p16, List.forall_mem_cons.mpr ⟨lw_p17, List.forall_mem_cons.mpr ⟨lw_p18, List.forall_mem_cons.mpr ⟨lw_p19, List.forall_mem_cons.mpr ⟨lw_p20, List.forall_mem_cons.mpr ⟨lw_p21, List.forall_mem_cons.mpr ⟨lw_p22, List.forall_mem_cons.mpr ⟨lw_p23, List.forall_mem_cons.mpr ⟨lw_p24, List.forall_mem_cons.mpr ⟨lw_p25, List.forall_mem_cons.mpr ⟨lw_p26, List.forall_mem_cons.mpr ⟨lw_p27, List.forall_mem_cons.mpr ⟨lw_p28, List.forall_mem_cons.mpr ⟨lw_p29, List.forall_mem_cons.mpr ⟨lw_p30, List.forall_mem_cons.mpr ⟨lw_p31, fun _ h => absurd h List.not_mem_nil⟩⟩⟩⟩⟩⟩⟩⟩⟩⟩⟩⟩⟩⟩⟩⟩
theorem lw_p32 : lw_okq (⟨"ThumbHedges", "befall", "(I)V"⟩, 9) := ⟨⟨by decide +kernel, by decide +kernel⟩, List.mem_of_getElem? (i := 21) (by decide +kernel), List.mem_of_getElem? (i := 840) (by decide +kernel), List.mem_of_getElem? (i := 841) (by decide +kernel)⟩
theorem lw_p33 : lw_okq (⟨"ThumbHedges", "mazeNow", "()LThumbHedges$Maze;"⟩, 9) := ⟨⟨by decide +kernel, by decide +kernel⟩, List.mem_of_getElem? (i := 21) (by decide +kernel), List.mem_of_getElem? (i := 864) (by decide +kernel), List.mem_of_getElem? (i := 865) (by decide +kernel)⟩
theorem lw_p34 : lw_okq (⟨"ThumbHedges$Maze", "flooded", "(II)I"⟩, 3) := ⟨⟨by decide +kernel, by decide +kernel⟩, List.mem_of_getElem? (i := 261) (by decide +kernel), List.mem_of_getElem? (i := 885) (by decide +kernel), List.mem_of_getElem? (i := 886) (by decide +kernel)⟩
theorem lw_p35 : lw_okq (⟨"ThumbHedges$Maze", "grown", "(I)I"⟩, 3) := ⟨⟨by decide +kernel, by decide +kernel⟩, List.mem_of_getElem? (i := 261) (by decide +kernel), List.mem_of_getElem? (i := 889) (by decide +kernel), List.mem_of_getElem? (i := 890) (by decide +kernel)⟩
theorem lw_p36 : lw_okq (⟨"ThumbHedges$Maze", "pathsOn", "(IIII)J"⟩, 3) := ⟨⟨by decide +kernel, by decide +kernel⟩, List.mem_of_getElem? (i := 261) (by decide +kernel), List.mem_of_getElem? (i := 1025) (by decide +kernel), List.mem_of_getElem? (i := 1026) (by decide +kernel)⟩
theorem lw_p37 : lw_okq (⟨"ThumbHedges$Maze", "lowestCover", "(III)I"⟩, 3) := ⟨⟨by decide +kernel, by decide +kernel⟩, List.mem_of_getElem? (i := 261) (by decide +kernel), List.mem_of_getElem? (i := 1054) (by decide +kernel), List.mem_of_getElem? (i := 1055) (by decide +kernel)⟩
theorem lw_p38 : lw_okq (⟨"ThumbHedges$Hands", "likePatterns", "(IJII)I"⟩, 1) := ⟨⟨by decide +kernel, by decide +kernel⟩, List.mem_of_getElem? (i := 126) (by decide +kernel), List.mem_of_getElem? (i := 1115) (by decide +kernel), List.mem_of_getElem? (i := 1116) (by decide +kernel)⟩
theorem lw_p39 : lw_okq (⟨"ThumbHedges", "saysAll", "(LThumbHedges$Text;)Z"⟩, 9) := ⟨⟨by decide +kernel, by decide +kernel⟩, List.mem_of_getElem? (i := 21) (by decide +kernel), List.mem_of_getElem? (i := 1128) (by decide +kernel), List.mem_of_getElem? (i := 1129) (by decide +kernel)⟩
theorem lw_p40 : lw_okq (⟨"ThumbHedgesModel", "layTurns", "()V"⟩, 34) := ⟨⟨by decide +kernel, by decide +kernel⟩, List.mem_of_getElem? (i := 1157) (by decide +kernel), List.mem_of_getElem? (i := 1163) (by decide +kernel), List.mem_of_getElem? (i := 1164) (by decide +kernel)⟩
theorem lw_p41 : lw_okq (⟨"ThumbHedgesModel", "put", "(III)V"⟩, 34) := ⟨⟨by decide +kernel, by decide +kernel⟩, List.mem_of_getElem? (i := 1157) (by decide +kernel), List.mem_of_getElem? (i := 1304) (by decide +kernel), List.mem_of_getElem? (i := 1305) (by decide +kernel)⟩
theorem lw_p42 : lw_okq (⟨"ThumbHedgesModel", "four", "(I)V"⟩, 34) := ⟨⟨by decide +kernel, by decide +kernel⟩, List.mem_of_getElem? (i := 1157) (by decide +kernel), List.mem_of_getElem? (i := 1319) (by decide +kernel), List.mem_of_getElem? (i := 1320) (by decide +kernel)⟩
theorem lw_p43 : lw_okq (⟨"ThumbHedgesModel", "readText", "()I"⟩, 34) := ⟨⟨by decide +kernel, by decide +kernel⟩, List.mem_of_getElem? (i := 1157) (by decide +kernel), List.mem_of_getElem? (i := 1331) (by decide +kernel), List.mem_of_getElem? (i := 1332) (by decide +kernel)⟩
theorem lw_p44 : lw_okq (⟨"ThumbHedgesModel", "nextToken", "()V"⟩, 34) := ⟨⟨by decide +kernel, by decide +kernel⟩, List.mem_of_getElem? (i := 1157) (by decide +kernel), List.mem_of_getElem? (i := 1335) (by decide +kernel), List.mem_of_getElem? (i := 1336) (by decide +kernel)⟩
theorem lw_p45 : lw_okq (⟨"ThumbHedgesModel", "byteAt", "(I)I"⟩, 34) := ⟨⟨by decide +kernel, by decide +kernel⟩, List.mem_of_getElem? (i := 1157) (by decide +kernel), List.mem_of_getElem? (i := 1339) (by decide +kernel), List.mem_of_getElem? (i := 1340) (by decide +kernel)⟩
theorem lw_p46 : lw_okq (⟨"ThumbHedgesModel", "clause", "()I"⟩, 34) := ⟨⟨by decide +kernel, by decide +kernel⟩, List.mem_of_getElem? (i := 1157) (by decide +kernel), List.mem_of_getElem? (i := 1354) (by decide +kernel), List.mem_of_getElem? (i := 1355) (by decide +kernel)⟩
theorem lw_p47 : lw_okq (⟨"ThumbHedgesModel", "sortOf", "()I"⟩, 34) := ⟨⟨by decide +kernel, by decide +kernel⟩, List.mem_of_getElem? (i := 1157) (by decide +kernel), List.mem_of_getElem? (i := 1358) (by decide +kernel), List.mem_of_getElem? (i := 1359) (by decide +kernel)⟩
def lw_privs_3 : List (MethodName × Nat) := [(⟨"ThumbHedges", "befall", "(I)V"⟩, 9), (⟨"ThumbHedges", "mazeNow", "()LThumbHedges$Maze;"⟩, 9), (⟨"ThumbHedges$Maze", "flooded", "(II)I"⟩, 3), (⟨"ThumbHedges$Maze", "grown", "(I)I"⟩, 3), (⟨"ThumbHedges$Maze", "pathsOn", "(IIII)J"⟩, 3), (⟨"ThumbHedges$Maze", "lowestCover", "(III)I"⟩, 3), (⟨"ThumbHedges$Hands", "likePatterns", "(IJII)I"⟩, 1), (⟨"ThumbHedges", "saysAll", "(LThumbHedges$Text;)Z"⟩, 9), (⟨"ThumbHedgesModel", "layTurns", "()V"⟩, 34), (⟨"ThumbHedgesModel", "put", "(III)V"⟩, 34), (⟨"ThumbHedgesModel", "four", "(I)V"⟩, 34), (⟨"ThumbHedgesModel", "readText", "()I"⟩, 34), (⟨"ThumbHedgesModel", "nextToken", "()V"⟩, 34), (⟨"ThumbHedgesModel", "byteAt", "(I)I"⟩, 34), (⟨"ThumbHedgesModel", "clause", "()I"⟩, 34), (⟨"ThumbHedgesModel", "sortOf", "()I"⟩, 34)]
theorem lw_r3 : ∀ q ∈ lw_privs_3, lw_okq q := List.forall_mem_cons.mpr ⟨lw_p32, List.forall_mem_cons.mpr ⟨lw_p33, List.forall_mem_cons.mpr ⟨lw_p34, List.forall_mem_cons.mpr ⟨lw_p35, List.forall_mem_cons.mpr ⟨lw_p36, List.forall_mem_cons.mpr ⟨lw_p37, List.forall_mem_cons.mpr ⟨lw_p38, List.forall_mem_cons.mpr ⟨lw_p39, List.forall_mem_cons.mpr ⟨lw_p40, List.forall_mem_cons.mpr ⟨lw_p41, List.forall_mem_cons.mpr ⟨lw_p42, List.forall_mem_cons.mpr ⟨lw_p43, List.forall_mem_cons.mpr ⟨lw_p44, List.forall_mem_cons.mpr ⟨lw_p45, List.forall_mem_cons.mpr ⟨lw_p46, List.forall_mem_cons.mpr ⟨lw_p47, fun _ h => absurd h List.not_mem_nil⟩⟩⟩⟩⟩⟩⟩⟩⟩⟩⟩⟩⟩⟩⟩⟩
theorem lw_p48 : lw_okq (⟨"ThumbHedgesModel", "isWord", "(J)Z"⟩, 34) := ⟨⟨by decide +kernel, by decide +kernel⟩, List.mem_of_getElem? (i := 1157) (by decide +kernel), List.mem_of_getElem? (i := 1377) (by decide +kernel), List.mem_of_getElem? (i := 1378) (by decide +kernel)⟩
theorem lw_p49 : lw_okq (⟨"ThumbHedgesModel", "body", "(II)I"⟩, 34) := ⟨⟨by decide +kernel, by decide +kernel⟩, List.mem_of_getElem? (i := 1157) (by decide +kernel), List.mem_of_getElem? (i := 1384) (by decide +kernel), List.mem_of_getElem? (i := 1385) (by decide +kernel)⟩
theorem lw_p50 : lw_okq (⟨"ThumbHedgesModel", "pair", "(IIJI)I"⟩, 34) := ⟨⟨by decide +kernel, by decide +kernel⟩, List.mem_of_getElem? (i := 1157) (by decide +kernel), List.mem_of_getElem? (i := 1388) (by decide +kernel), List.mem_of_getElem? (i := 1389) (by decide +kernel)⟩
theorem lw_p51 : lw_okq (⟨"ThumbHedgesModel", "figure", "(III)I"⟩, 34) := ⟨⟨by decide +kernel, by decide +kernel⟩, List.mem_of_getElem? (i := 1157) (by decide +kernel), List.mem_of_getElem? (i := 1392) (by decide +kernel), List.mem_of_getElem? (i := 1393) (by decide +kernel)⟩
theorem lw_p52 : lw_okq (⟨"ThumbHedgesModel", "lawClause", "(I)I"⟩, 34) := ⟨⟨by decide +kernel, by decide +kernel⟩, List.mem_of_getElem? (i := 1157) (by decide +kernel), List.mem_of_getElem? (i := 1396) (by decide +kernel), List.mem_of_getElem? (i := 1397) (by decide +kernel)⟩
theorem lw_p53 : lw_okq (⟨"ThumbHedgesModel", "summed", "()I"⟩, 34) := ⟨⟨by decide +kernel, by decide +kernel⟩, List.mem_of_getElem? (i := 1157) (by decide +kernel), List.mem_of_getElem? (i := 1400) (by decide +kernel), List.mem_of_getElem? (i := 1401) (by decide +kernel)⟩
theorem lw_p54 : lw_okq (⟨"ThumbHedgesModel", "behindOne", "()I"⟩, 34) := ⟨⟨by decide +kernel, by decide +kernel⟩, List.mem_of_getElem? (i := 1157) (by decide +kernel), List.mem_of_getElem? (i := 1404) (by decide +kernel), List.mem_of_getElem? (i := 1405) (by decide +kernel)⟩
theorem lw_p55 : lw_okq (⟨"ThumbHedgesModel", "betweenOf", "()I"⟩, 34) := ⟨⟨by decide +kernel, by decide +kernel⟩, List.mem_of_getElem? (i := 1157) (by decide +kernel), List.mem_of_getElem? (i := 1408) (by decide +kernel), List.mem_of_getElem? (i := 1409) (by decide +kernel)⟩
theorem lw_p56 : lw_okq (⟨"ThumbHedgesModel", "openNow", "()I"⟩, 34) := ⟨⟨by decide +kernel, by decide +kernel⟩, List.mem_of_getElem? (i := 1157) (by decide +kernel), List.mem_of_getElem? (i := 1412) (by decide +kernel), List.mem_of_getElem? (i := 1413) (by decide +kernel)⟩
theorem lw_p57 : lw_okq (⟨"ThumbHedgesModel", "openAt", "()I"⟩, 34) := ⟨⟨by decide +kernel, by decide +kernel⟩, List.mem_of_getElem? (i := 1157) (by decide +kernel), List.mem_of_getElem? (i := 1416) (by decide +kernel), List.mem_of_getElem? (i := 1417) (by decide +kernel)⟩
theorem lw_p58 : lw_okq (⟨"ThumbHedgesModel", "isCompared", "()Z"⟩, 34) := ⟨⟨by decide +kernel, by decide +kernel⟩, List.mem_of_getElem? (i := 1157) (by decide +kernel), List.mem_of_getElem? (i := 1420) (by decide +kernel), List.mem_of_getElem? (i := 1421) (by decide +kernel)⟩
theorem lw_p59 : lw_okq (⟨"ThumbHedgesModel", "compareOf", "()I"⟩, 34) := ⟨⟨by decide +kernel, by decide +kernel⟩, List.mem_of_getElem? (i := 1157) (by decide +kernel), List.mem_of_getElem? (i := 1427) (by decide +kernel), List.mem_of_getElem? (i := 1428) (by decide +kernel)⟩
theorem lw_p60 : lw_okq (⟨"ThumbHedgesModel", "settle", "(I)V"⟩, 34) := ⟨⟨by decide +kernel, by decide +kernel⟩, List.mem_of_getElem? (i := 1157) (by decide +kernel), List.mem_of_getElem? (i := 1431) (by decide +kernel), List.mem_of_getElem? (i := 1432) (by decide +kernel)⟩
theorem lw_p61 : lw_okq (⟨"ThumbHedgesModel", "emit", "(II)V"⟩, 34) := ⟨⟨by decide +kernel, by decide +kernel⟩, List.mem_of_getElem? (i := 1157) (by decide +kernel), List.mem_of_getElem? (i := 1435) (by decide +kernel), List.mem_of_getElem? (i := 1436) (by decide +kernel)⟩
theorem lw_p62 : lw_okq (⟨"ThumbHedgesModel", "partOf", "(I)I"⟩, 34) := ⟨⟨by decide +kernel, by decide +kernel⟩, List.mem_of_getElem? (i := 1157) (by decide +kernel), List.mem_of_getElem? (i := 1439) (by decide +kernel), List.mem_of_getElem? (i := 1440) (by decide +kernel)⟩
theorem lw_p63 : lw_okq (⟨"ThumbHedgesModel", "endOne", "()I"⟩, 34) := ⟨⟨by decide +kernel, by decide +kernel⟩, List.mem_of_getElem? (i := 1157) (by decide +kernel), List.mem_of_getElem? (i := 1443) (by decide +kernel), List.mem_of_getElem? (i := 1444) (by decide +kernel)⟩
def lw_privs_4 : List (MethodName × Nat) := [(⟨"ThumbHedgesModel", "isWord", "(J)Z"⟩, 34), (⟨"ThumbHedgesModel", "body", "(II)I"⟩, 34), (⟨"ThumbHedgesModel", "pair", "(IIJI)I"⟩, 34), (⟨"ThumbHedgesModel", "figure", "(III)I"⟩, 34), (⟨"ThumbHedgesModel", "lawClause", "(I)I"⟩, 34), (⟨"ThumbHedgesModel", "summed", "()I"⟩, 34), (⟨"ThumbHedgesModel", "behindOne", "()I"⟩, 34), (⟨"ThumbHedgesModel", "betweenOf", "()I"⟩, 34), (⟨"ThumbHedgesModel", "openNow", "()I"⟩, 34), (⟨"ThumbHedgesModel", "openAt", "()I"⟩, 34), (⟨"ThumbHedgesModel", "isCompared", "()Z"⟩, 34), (⟨"ThumbHedgesModel", "compareOf", "()I"⟩, 34), (⟨"ThumbHedgesModel", "settle", "(I)V"⟩, 34), (⟨"ThumbHedgesModel", "emit", "(II)V"⟩, 34), (⟨"ThumbHedgesModel", "partOf", "(I)I"⟩, 34), (⟨"ThumbHedgesModel", "endOne", "()I"⟩, 34)]
theorem lw_r4 : ∀ q ∈ lw_privs_4, lw_okq q := List.forall_mem_cons.mpr ⟨lw_p48, List.forall_mem_cons.mpr ⟨lw_p49, List.forall_mem_cons.mpr ⟨lw_p50, List.forall_mem_cons.mpr ⟨lw_p51, List.forall_mem_cons.mpr ⟨lw_p52, List.forall_mem_cons.mpr ⟨lw_p53, List.forall_mem_cons.mpr ⟨lw_p54, List.forall_mem_cons.mpr ⟨lw_p55, List.forall_mem_cons.mpr ⟨lw_p56, List.forall_mem_cons.mpr ⟨lw_p57, List.forall_mem_cons.mpr ⟨lw_p58, List.forall_mem_cons.mpr ⟨lw_p59, List.forall_mem_cons.mpr ⟨lw_p60, List.forall_mem_cons.mpr ⟨lw_p61, List.forall_mem_cons.mpr ⟨lw_p62, List.forall_mem_cons.mpr ⟨lw_p63, fun _ h => absurd h List.not_mem_nil⟩⟩⟩⟩⟩⟩⟩⟩⟩⟩⟩⟩⟩⟩⟩⟩
theorem lw_p64 : lw_okq (⟨"ThumbHedgesModel", "beginOne", "()I"⟩, 34) := ⟨⟨by decide +kernel, by decide +kernel⟩, List.mem_of_getElem? (i := 1157) (by decide +kernel), List.mem_of_getElem? (i := 1447) (by decide +kernel), List.mem_of_getElem? (i := 1448) (by decide +kernel)⟩
theorem lw_p65 : lw_okq (⟨"ThumbHedgesModel", "nameOf", "()I"⟩, 34) := ⟨⟨by decide +kernel, by decide +kernel⟩, List.mem_of_getElem? (i := 1157) (by decide +kernel), List.mem_of_getElem? (i := 1451) (by decide +kernel), List.mem_of_getElem? (i := 1452) (by decide +kernel)⟩
theorem lw_p66 : lw_okq (⟨"ThumbHedgesModel", "isOf", "(I)Z"⟩, 34) := ⟨⟨by decide +kernel, by decide +kernel⟩, List.mem_of_getElem? (i := 1157) (by decide +kernel), List.mem_of_getElem? (i := 1455) (by decide +kernel), List.mem_of_getElem? (i := 1456) (by decide +kernel)⟩
theorem lw_p67 : lw_okq (⟨"ThumbHedgesModel", "opened", "(I)I"⟩, 34) := ⟨⟨by decide +kernel, by decide +kernel⟩, List.mem_of_getElem? (i := 1157) (by decide +kernel), List.mem_of_getElem? (i := 1459) (by decide +kernel), List.mem_of_getElem? (i := 1460) (by decide +kernel)⟩
theorem lw_p68 : lw_okq (⟨"ThumbHedgesModel", "isAskAhead", "()Z"⟩, 34) := ⟨⟨by decide +kernel, by decide +kernel⟩, List.mem_of_getElem? (i := 1157) (by decide +kernel), List.mem_of_getElem? (i := 1463) (by decide +kernel), List.mem_of_getElem? (i := 1464) (by decide +kernel)⟩
theorem lw_p69 : lw_okq (⟨"ThumbHedgesModel", "isThere", "(I)Z"⟩, 34) := ⟨⟨by decide +kernel, by decide +kernel⟩, List.mem_of_getElem? (i := 1157) (by decide +kernel), List.mem_of_getElem? (i := 1486) (by decide +kernel), List.mem_of_getElem? (i := 1487) (by decide +kernel)⟩
theorem lw_p70 : lw_okq (⟨"ThumbHedgesModel", "keep", "()V"⟩, 34) := ⟨⟨by decide +kernel, by decide +kernel⟩, List.mem_of_getElem? (i := 1157) (by decide +kernel), List.mem_of_getElem? (i := 1490) (by decide +kernel), List.mem_of_getElem? (i := 1491) (by decide +kernel)⟩
theorem lw_p71 : lw_okq (⟨"ThumbHedgesModel", "change", "(I)V"⟩, 34) := ⟨⟨by decide +kernel, by decide +kernel⟩, List.mem_of_getElem? (i := 1157) (by decide +kernel), List.mem_of_getElem? (i := 1494) (by decide +kernel), List.mem_of_getElem? (i := 1495) (by decide +kernel)⟩
theorem lw_p72 : lw_okq (⟨"ThumbHedgesModel", "isHand", "(I)Z"⟩, 34) := ⟨⟨by decide +kernel, by decide +kernel⟩, List.mem_of_getElem? (i := 1157) (by decide +kernel), List.mem_of_getElem? (i := 1506) (by decide +kernel), List.mem_of_getElem? (i := 1507) (by decide +kernel)⟩
theorem lw_p73 : lw_okq (⟨"ThumbHedgesModel", "pressNow", "(II)V"⟩, 34) := ⟨⟨by decide +kernel, by decide +kernel⟩, List.mem_of_getElem? (i := 1157) (by decide +kernel), List.mem_of_getElem? (i := 1510) (by decide +kernel), List.mem_of_getElem? (i := 1511) (by decide +kernel)⟩
theorem lw_p74 : lw_okq (⟨"ThumbHedgesModel", "ofHand", "(IIZ)I"⟩, 34) := ⟨⟨by decide +kernel, by decide +kernel⟩, List.mem_of_getElem? (i := 1157) (by decide +kernel), List.mem_of_getElem? (i := 1514) (by decide +kernel), List.mem_of_getElem? (i := 1515) (by decide +kernel)⟩
theorem lw_p75 : lw_okq (⟨"ThumbHedgesModel", "turnedBy", "(IIIZ)I"⟩, 34) := ⟨⟨by decide +kernel, by decide +kernel⟩, List.mem_of_getElem? (i := 1157) (by decide +kernel), List.mem_of_getElem? (i := 1518) (by decide +kernel), List.mem_of_getElem? (i := 1519) (by decide +kernel)⟩
theorem lw_p76 : lw_okq (⟨"ThumbHedgesModel", "canGo", "(II)Z"⟩, 34) := ⟨⟨by decide +kernel, by decide +kernel⟩, List.mem_of_getElem? (i := 1157) (by decide +kernel), List.mem_of_getElem? (i := 1526) (by decide +kernel), List.mem_of_getElem? (i := 1527) (by decide +kernel)⟩
theorem lw_p77 : lw_okq (⟨"ThumbHedgesModel", "isCow", "(I)Z"⟩, 34) := ⟨⟨by decide +kernel, by decide +kernel⟩, List.mem_of_getElem? (i := 1157) (by decide +kernel), List.mem_of_getElem? (i := 1530) (by decide +kernel), List.mem_of_getElem? (i := 1531) (by decide +kernel)⟩
theorem lw_p78 : lw_okq (⟨"ThumbHedgesModel", "isHome", "(I)Z"⟩, 34) := ⟨⟨by decide +kernel, by decide +kernel⟩, List.mem_of_getElem? (i := 1157) (by decide +kernel), List.mem_of_getElem? (i := 1534) (by decide +kernel), List.mem_of_getElem? (i := 1535) (by decide +kernel)⟩
theorem lw_p79 : lw_okq (⟨"ThumbHedgesModel", "cellOf", "(I)I"⟩, 34) := ⟨⟨by decide +kernel, by decide +kernel⟩, List.mem_of_getElem? (i := 1157) (by decide +kernel), List.mem_of_getElem? (i := 1538) (by decide +kernel), List.mem_of_getElem? (i := 1539) (by decide +kernel)⟩
def lw_privs_5 : List (MethodName × Nat) := [(⟨"ThumbHedgesModel", "beginOne", "()I"⟩, 34), (⟨"ThumbHedgesModel", "nameOf", "()I"⟩, 34), (⟨"ThumbHedgesModel", "isOf", "(I)Z"⟩, 34), (⟨"ThumbHedgesModel", "opened", "(I)I"⟩, 34), (⟨"ThumbHedgesModel", "isAskAhead", "()Z"⟩, 34), (⟨"ThumbHedgesModel", "isThere", "(I)Z"⟩, 34), (⟨"ThumbHedgesModel", "keep", "()V"⟩, 34), (⟨"ThumbHedgesModel", "change", "(I)V"⟩, 34), (⟨"ThumbHedgesModel", "isHand", "(I)Z"⟩, 34), (⟨"ThumbHedgesModel", "pressNow", "(II)V"⟩, 34), (⟨"ThumbHedgesModel", "ofHand", "(IIZ)I"⟩, 34), (⟨"ThumbHedgesModel", "turnedBy", "(IIIZ)I"⟩, 34), (⟨"ThumbHedgesModel", "canGo", "(II)Z"⟩, 34), (⟨"ThumbHedgesModel", "isCow", "(I)Z"⟩, 34), (⟨"ThumbHedgesModel", "isHome", "(I)Z"⟩, 34), (⟨"ThumbHedgesModel", "cellOf", "(I)I"⟩, 34)]
theorem lw_r5 : ∀ q ∈ lw_privs_5, lw_okq q := List.forall_mem_cons.mpr ⟨lw_p64, List.forall_mem_cons.mpr ⟨lw_p65, List.forall_mem_cons.mpr ⟨lw_p66, List.forall_mem_cons.mpr ⟨lw_p67, List.forall_mem_cons.mpr ⟨lw_p68, List.forall_mem_cons.mpr ⟨lw_p69, List.forall_mem_cons.mpr ⟨lw_p70, List.forall_mem_cons.mpr ⟨lw_p71, List.forall_mem_cons.mpr ⟨lw_p72, List.forall_mem_cons.mpr ⟨lw_p73, List.forall_mem_cons.mpr ⟨lw_p74, List.forall_mem_cons.mpr ⟨lw_p75, List.forall_mem_cons.mpr ⟨lw_p76, List.forall_mem_cons.mpr ⟨lw_p77, List.forall_mem_cons.mpr ⟨lw_p78, List.forall_mem_cons.mpr ⟨lw_p79, fun _ h => absurd h List.not_mem_nil⟩⟩⟩⟩⟩⟩⟩⟩⟩⟩⟩⟩⟩⟩⟩⟩
theorem lw_p80 : lw_okq (⟨"ThumbHedgesModel", "isOpen", "(II)Z"⟩, 34) := ⟨⟨by decide +kernel, by decide +kernel⟩, List.mem_of_getElem? (i := 1157) (by decide +kernel), List.mem_of_getElem? (i := 1542) (by decide +kernel), List.mem_of_getElem? (i := 1543) (by decide +kernel)⟩
theorem lw_p81 : lw_okq (⟨"ThumbHedgesModel", "goNow", "(II)I"⟩, 34) := ⟨⟨by decide +kernel, by decide +kernel⟩, List.mem_of_getElem? (i := 1157) (by decide +kernel), List.mem_of_getElem? (i := 1549) (by decide +kernel), List.mem_of_getElem? (i := 1550) (by decide +kernel)⟩
theorem lw_p82 : lw_okq (⟨"ThumbHedgesModel", "arePassed", "(I)Z"⟩, 34) := ⟨⟨by decide +kernel, by decide +kernel⟩, List.mem_of_getElem? (i := 1157) (by decide +kernel), List.mem_of_getElem? (i := 1557) (by decide +kernel), List.mem_of_getElem? (i := 1558) (by decide +kernel)⟩
theorem lw_p83 : lw_okq (⟨"ThumbHedgesModel", "pass", "()V"⟩, 34) := ⟨⟨by decide +kernel, by decide +kernel⟩, List.mem_of_getElem? (i := 1157) (by decide +kernel), List.mem_of_getElem? (i := 1561) (by decide +kernel), List.mem_of_getElem? (i := 1562) (by decide +kernel)⟩
theorem lw_p84 : lw_okq (⟨"ThumbHedgesModel", "goesOf", "(I)I"⟩, 34) := ⟨⟨by decide +kernel, by decide +kernel⟩, List.mem_of_getElem? (i := 1157) (by decide +kernel), List.mem_of_getElem? (i := 1565) (by decide +kernel), List.mem_of_getElem? (i := 1566) (by decide +kernel)⟩
theorem lw_p85 : lw_okq (⟨"ThumbHedgesModel", "name", "(I)V"⟩, 34) := ⟨⟨by decide +kernel, by decide +kernel⟩, List.mem_of_getElem? (i := 1157) (by decide +kernel), List.mem_of_getElem? (i := 1569) (by decide +kernel), List.mem_of_getElem? (i := 1570) (by decide +kernel)⟩
theorem lw_p86 : lw_okq (⟨"ThumbHedgesModel", "aroundOf", "(I)I"⟩, 34) := ⟨⟨by decide +kernel, by decide +kernel⟩, List.mem_of_getElem? (i := 1157) (by decide +kernel), List.mem_of_getElem? (i := 1573) (by decide +kernel), List.mem_of_getElem? (i := 1574) (by decide +kernel)⟩
theorem lw_p87 : lw_okq (⟨"ThumbHedgesModel", "allNow", "()I"⟩, 34) := ⟨⟨by decide +kernel, by decide +kernel⟩, List.mem_of_getElem? (i := 1157) (by decide +kernel), List.mem_of_getElem? (i := 1577) (by decide +kernel), List.mem_of_getElem? (i := 1578) (by decide +kernel)⟩
theorem lw_p88 : lw_okq (⟨"ThumbHedgesModel", "wayOf", "(I)I"⟩, 34) := ⟨⟨by decide +kernel, by decide +kernel⟩, List.mem_of_getElem? (i := 1157) (by decide +kernel), List.mem_of_getElem? (i := 1584) (by decide +kernel), List.mem_of_getElem? (i := 1585) (by decide +kernel)⟩
theorem lw_p89 : lw_okq (⟨"ThumbHedgesModel", "says", "(IIIII)I"⟩, 34) := ⟨⟨by decide +kernel, by decide +kernel⟩, List.mem_of_getElem? (i := 1157) (by decide +kernel), List.mem_of_getElem? (i := 1588) (by decide +kernel), List.mem_of_getElem? (i := 1589) (by decide +kernel)⟩
theorem lw_p90 : lw_okq (⟨"ThumbHedgesModel", "summedUp", "(II)J"⟩, 34) := ⟨⟨by decide +kernel, by decide +kernel⟩, List.mem_of_getElem? (i := 1157) (by decide +kernel), List.mem_of_getElem? (i := 1592) (by decide +kernel), List.mem_of_getElem? (i := 1593) (by decide +kernel)⟩
theorem lw_p91 : lw_okq (⟨"ThumbHedgesModel", "hedgeThere", "(J)J"⟩, 34) := ⟨⟨by decide +kernel, by decide +kernel⟩, List.mem_of_getElem? (i := 1157) (by decide +kernel), List.mem_of_getElem? (i := 1596) (by decide +kernel), List.mem_of_getElem? (i := 1597) (by decide +kernel)⟩
theorem lw_p92 : lw_okq (⟨"ThumbHedgesModel", "goOn", "(I)V"⟩, 34) := ⟨⟨by decide +kernel, by decide +kernel⟩, List.mem_of_getElem? (i := 1157) (by decide +kernel), List.mem_of_getElem? (i := 1625) (by decide +kernel), List.mem_of_getElem? (i := 1626) (by decide +kernel)⟩
theorem lw_p93 : lw_okq (⟨"ThumbHedgesModel", "onward", "(II)I"⟩, 34) := ⟨⟨by decide +kernel, by decide +kernel⟩, List.mem_of_getElem? (i := 1157) (by decide +kernel), List.mem_of_getElem? (i := 1629) (by decide +kernel), List.mem_of_getElem? (i := 1630) (by decide +kernel)⟩
theorem lw_p94 : lw_okq (⟨"ThumbHedgesModel", "write", "(II)V"⟩, 34) := ⟨⟨by decide +kernel, by decide +kernel⟩, List.mem_of_getElem? (i := 1157) (by decide +kernel), List.mem_of_getElem? (i := 1633) (by decide +kernel), List.mem_of_getElem? (i := 1634) (by decide +kernel)⟩
theorem lw_p95 : lw_okq (⟨"ThumbHedgesModel", "drawnBy", "(I)I"⟩, 34) := ⟨⟨by decide +kernel, by decide +kernel⟩, List.mem_of_getElem? (i := 1157) (by decide +kernel), List.mem_of_getElem? (i := 1637) (by decide +kernel), List.mem_of_getElem? (i := 1638) (by decide +kernel)⟩
def lw_privs_6 : List (MethodName × Nat) := [(⟨"ThumbHedgesModel", "isOpen", "(II)Z"⟩, 34), (⟨"ThumbHedgesModel", "goNow", "(II)I"⟩, 34), (⟨"ThumbHedgesModel", "arePassed", "(I)Z"⟩, 34), (⟨"ThumbHedgesModel", "pass", "()V"⟩, 34), (⟨"ThumbHedgesModel", "goesOf", "(I)I"⟩, 34), (⟨"ThumbHedgesModel", "name", "(I)V"⟩, 34), (⟨"ThumbHedgesModel", "aroundOf", "(I)I"⟩, 34), (⟨"ThumbHedgesModel", "allNow", "()I"⟩, 34), (⟨"ThumbHedgesModel", "wayOf", "(I)I"⟩, 34), (⟨"ThumbHedgesModel", "says", "(IIIII)I"⟩, 34), (⟨"ThumbHedgesModel", "summedUp", "(II)J"⟩, 34), (⟨"ThumbHedgesModel", "hedgeThere", "(J)J"⟩, 34), (⟨"ThumbHedgesModel", "goOn", "(I)V"⟩, 34), (⟨"ThumbHedgesModel", "onward", "(II)I"⟩, 34), (⟨"ThumbHedgesModel", "write", "(II)V"⟩, 34), (⟨"ThumbHedgesModel", "drawnBy", "(I)I"⟩, 34)]
theorem lw_r6 : ∀ q ∈ lw_privs_6, lw_okq q := List.forall_mem_cons.mpr ⟨lw_p80, List.forall_mem_cons.mpr ⟨lw_p81, List.forall_mem_cons.mpr ⟨lw_p82, List.forall_mem_cons.mpr ⟨lw_p83, List.forall_mem_cons.mpr ⟨lw_p84, List.forall_mem_cons.mpr ⟨lw_p85, List.forall_mem_cons.mpr ⟨lw_p86, List.forall_mem_cons.mpr ⟨lw_p87, List.forall_mem_cons.mpr ⟨lw_p88, List.forall_mem_cons.mpr ⟨lw_p89, List.forall_mem_cons.mpr ⟨lw_p90, List.forall_mem_cons.mpr ⟨lw_p91, List.forall_mem_cons.mpr ⟨lw_p92, List.forall_mem_cons.mpr ⟨lw_p93, List.forall_mem_cons.mpr ⟨lw_p94, List.forall_mem_cons.mpr ⟨lw_p95, fun _ h => absurd h List.not_mem_nil⟩⟩⟩⟩⟩⟩⟩⟩⟩⟩⟩⟩⟩⟩⟩⟩
theorem lw_p96 : lw_okq (⟨"ThumbHedgesModel", "anew", "()V"⟩, 34) := ⟨⟨by decide +kernel, by decide +kernel⟩, List.mem_of_getElem? (i := 1157) (by decide +kernel), List.mem_of_getElem? (i := 1641) (by decide +kernel), List.mem_of_getElem? (i := 1642) (by decide +kernel)⟩
theorem lw_p97 : lw_okq (⟨"ThumbHedgesModel", "frostsOf", "(II)I"⟩, 34) := ⟨⟨by decide +kernel, by decide +kernel⟩, List.mem_of_getElem? (i := 1157) (by decide +kernel), List.mem_of_getElem? (i := 1648) (by decide +kernel), List.mem_of_getElem? (i := 1649) (by decide +kernel)⟩
theorem lw_p98 : lw_okq (⟨"ThumbHedgesModel", "isPlayed", "(I)Z"⟩, 34) := ⟨⟨by decide +kernel, by decide +kernel⟩, List.mem_of_getElem? (i := 1157) (by decide +kernel), List.mem_of_getElem? (i := 1656) (by decide +kernel), List.mem_of_getElem? (i := 1657) (by decide +kernel)⟩
theorem lw_p99 : lw_okq (⟨"ThumbHedgesModel", "happens", "(I)V"⟩, 34) := ⟨⟨by decide +kernel, by decide +kernel⟩, List.mem_of_getElem? (i := 1157) (by decide +kernel), List.mem_of_getElem? (i := 1670) (by decide +kernel), List.mem_of_getElem? (i := 1671) (by decide +kernel)⟩
theorem lw_p100 : lw_okq (⟨"ThumbHedgesModel", "openOf", "(I)I"⟩, 34) := ⟨⟨by decide +kernel, by decide +kernel⟩, List.mem_of_getElem? (i := 1157) (by decide +kernel), List.mem_of_getElem? (i := 1682) (by decide +kernel), List.mem_of_getElem? (i := 1683) (by decide +kernel)⟩
theorem lw_p101 : lw_okq (⟨"ThumbHedgesModel", "regionOf", "(II)I"⟩, 34) := ⟨⟨by decide +kernel, by decide +kernel⟩, List.mem_of_getElem? (i := 1157) (by decide +kernel), List.mem_of_getElem? (i := 1686) (by decide +kernel), List.mem_of_getElem? (i := 1687) (by decide +kernel)⟩
theorem lw_p102 : lw_okq (⟨"ThumbHedgesModel", "entry", "(II)I"⟩, 34) := ⟨⟨by decide +kernel, by decide +kernel⟩, List.mem_of_getElem? (i := 1157) (by decide +kernel), List.mem_of_getElem? (i := 1706) (by decide +kernel), List.mem_of_getElem? (i := 1707) (by decide +kernel)⟩
theorem lw_p103 : lw_okq (⟨"ThumbHedgesModel", "layFar", "(IZ)V"⟩, 34) := ⟨⟨by decide +kernel, by decide +kernel⟩, List.mem_of_getElem? (i := 1157) (by decide +kernel), List.mem_of_getElem? (i := 1729) (by decide +kernel), List.mem_of_getElem? (i := 1730) (by decide +kernel)⟩
theorem lw_p104 : lw_okq (⟨"ThumbHedgesModel", "farthestNow", "()I"⟩, 34) := ⟨⟨by decide +kernel, by decide +kernel⟩, List.mem_of_getElem? (i := 1157) (by decide +kernel), List.mem_of_getElem? (i := 1747) (by decide +kernel), List.mem_of_getElem? (i := 1748) (by decide +kernel)⟩
theorem lw_p105 : lw_okq (⟨"ThumbHedgesModel", "isNeck", "(I)Z"⟩, 34) := ⟨⟨by decide +kernel, by decide +kernel⟩, List.mem_of_getElem? (i := 1157) (by decide +kernel), List.mem_of_getElem? (i := 1773) (by decide +kernel), List.mem_of_getElem? (i := 1774) (by decide +kernel)⟩
theorem lw_p106 : lw_okq (⟨"ThumbHedgesModel", "layReach", "(I)V"⟩, 34) := ⟨⟨by decide +kernel, by decide +kernel⟩, List.mem_of_getElem? (i := 1157) (by decide +kernel), List.mem_of_getElem? (i := 1794) (by decide +kernel), List.mem_of_getElem? (i := 1795) (by decide +kernel)⟩
theorem lw_p107 : lw_okq (⟨"ThumbHedgesModel", "lowestGates", "(I)I"⟩, 34) := ⟨⟨by decide +kernel, by decide +kernel⟩, List.mem_of_getElem? (i := 1157) (by decide +kernel), List.mem_of_getElem? (i := 1798) (by decide +kernel), List.mem_of_getElem? (i := 1799) (by decide +kernel)⟩
theorem lw_p108 : lw_okq (⟨"ThumbHedgesModel", "bestTurn", "(I)I"⟩, 34) := ⟨⟨by decide +kernel, by decide +kernel⟩, List.mem_of_getElem? (i := 1157) (by decide +kernel), List.mem_of_getElem? (i := 1810) (by decide +kernel), List.mem_of_getElem? (i := 1811) (by decide +kernel)⟩
theorem lw_p109 : lw_okq (⟨"ThumbHedgesModel", "unlikeBy", "(II)I"⟩, 34) := ⟨⟨by decide +kernel, by decide +kernel⟩, List.mem_of_getElem? (i := 1157) (by decide +kernel), List.mem_of_getElem? (i := 1814) (by decide +kernel), List.mem_of_getElem? (i := 1815) (by decide +kernel)⟩
theorem lw_p110 : lw_okq (⟨"ThumbHedgesModel", "twinBy", "(II)I"⟩, 34) := ⟨⟨by decide +kernel, by decide +kernel⟩, List.mem_of_getElem? (i := 1157) (by decide +kernel), List.mem_of_getElem? (i := 1827) (by decide +kernel), List.mem_of_getElem? (i := 1828) (by decide +kernel)⟩
def lw_privs_7 : List (MethodName × Nat) := [(⟨"ThumbHedgesModel", "anew", "()V"⟩, 34), (⟨"ThumbHedgesModel", "frostsOf", "(II)I"⟩, 34), (⟨"ThumbHedgesModel", "isPlayed", "(I)Z"⟩, 34), (⟨"ThumbHedgesModel", "happens", "(I)V"⟩, 34), (⟨"ThumbHedgesModel", "openOf", "(I)I"⟩, 34), (⟨"ThumbHedgesModel", "regionOf", "(II)I"⟩, 34), (⟨"ThumbHedgesModel", "entry", "(II)I"⟩, 34), (⟨"ThumbHedgesModel", "layFar", "(IZ)V"⟩, 34), (⟨"ThumbHedgesModel", "farthestNow", "()I"⟩, 34), (⟨"ThumbHedgesModel", "isNeck", "(I)Z"⟩, 34), (⟨"ThumbHedgesModel", "layReach", "(I)V"⟩, 34), (⟨"ThumbHedgesModel", "lowestGates", "(I)I"⟩, 34), (⟨"ThumbHedgesModel", "bestTurn", "(I)I"⟩, 34), (⟨"ThumbHedgesModel", "unlikeBy", "(II)I"⟩, 34), (⟨"ThumbHedgesModel", "twinBy", "(II)I"⟩, 34)]
theorem lw_r7 : ∀ q ∈ lw_privs_7, lw_okq q := List.forall_mem_cons.mpr ⟨lw_p96, List.forall_mem_cons.mpr ⟨lw_p97, List.forall_mem_cons.mpr ⟨lw_p98, List.forall_mem_cons.mpr ⟨lw_p99, List.forall_mem_cons.mpr ⟨lw_p100, List.forall_mem_cons.mpr ⟨lw_p101, List.forall_mem_cons.mpr ⟨lw_p102, List.forall_mem_cons.mpr ⟨lw_p103, List.forall_mem_cons.mpr ⟨lw_p104, List.forall_mem_cons.mpr ⟨lw_p105, List.forall_mem_cons.mpr ⟨lw_p106, List.forall_mem_cons.mpr ⟨lw_p107, List.forall_mem_cons.mpr ⟨lw_p108, List.forall_mem_cons.mpr ⟨lw_p109, List.forall_mem_cons.mpr ⟨lw_p110, fun _ h => absurd h List.not_mem_nil⟩⟩⟩⟩⟩⟩⟩⟩⟩⟩⟩⟩⟩⟩⟩
def lw_privs : List (MethodName × Nat) := lw_privs_1 ++ (lw_privs_2 ++ (lw_privs_3 ++ (lw_privs_4 ++ (lw_privs_5 ++ (lw_privs_6 ++ (lw_privs_7))))))
def lw_tbl : List Cond := k2_sels lw_privs ++ tables_1
theorem lw_privs_ok : ∀ q ∈ lw_privs, lw_okq q := by
  show ∀ q ∈ lw_privs_1 ++ (lw_privs_2 ++ (lw_privs_3 ++ (lw_privs_4 ++ (lw_privs_5 ++ (lw_privs_6 ++ (lw_privs_7)))))), lw_okq q
  exact List.forall_mem_append.mpr ⟨lw_r1, List.forall_mem_append.mpr ⟨lw_r2, List.forall_mem_append.mpr ⟨lw_r3, List.forall_mem_append.mpr ⟨lw_r4, List.forall_mem_append.mpr ⟨lw_r5, List.forall_mem_append.mpr ⟨lw_r6, lw_r7⟩⟩⟩⟩⟩⟩
end
section
def RX0 : String := "ThumbHedges$Farm"
def TX0 : u_T := fun k => match k with
  | 0 => ("ThumbHedges$Farm", "land", "LThumbHedges$Land;", true)
  | 1 => ("ThumbHedges$Farm", "before", "[LThumbHedges$Land;", true)
  | 2 => ("ThumbHedges$Farm", "firstStep", "I", false)
  | 3 => ("ThumbHedges$Farm", "steps", "I", false)
  | 4 => ("ThumbHedges$Farm", "gates", "I", false)
  | 5 => ("ThumbHedges$Farm", "hands", "I", false)
  | 6 => ("ThumbHedges$Farm", "texts", "I", false)
  | 7 => ("ThumbHedges$Farm", "rule", "I", false)
  | 8 => ("ThumbHedges$Farm", "saids", "I", false)
  | 9 => ("ThumbHedges$Farm", "saidHedges", "[I", true)
  | _ => ("ThumbHedges$Farm", "saidFrosts", "[I", true)
def tyX0 : Nat → FieldType := fun k => match k with
  | 0 => .object "ThumbHedges$Land"
  | 1 => .array (.object "ThumbHedges$Land")
  | 2 => .int
  | 3 => .int
  | 4 => .int
  | 5 => .int
  | 6 => .int
  | 7 => .int
  | 8 => .int
  | 9 => .array .int
  | _ => .array .int
theorem nmX0 : ∀ a, a < 11 → ∀ b, b < 11 → a ≠ b → (TX0 a).2.1 ≠ (TX0 b).2.1 := by decide +kernel
theorem tyX0_ok : ∀ k, k < 11 → parseFieldDescriptor (TX0 k).2.2.1 = some (tyX0 k) := by decide +kernel
def RX1 : String := "ThumbHedges$Hands"
def TX1 : u_T := fun k => match k with
  | _ => ("ThumbHedges$Hands", "patterns", "[J", true)
def tyX1 : Nat → FieldType := fun k => match k with
  | _ => .array .long
theorem nmX1 : ∀ a, a < 1 → ∀ b, b < 1 → a ≠ b → (TX1 a).2.1 ≠ (TX1 b).2.1 := by decide +kernel
theorem tyX1_ok : ∀ k, k < 1 → parseFieldDescriptor (TX1 k).2.2.1 = some (tyX1 k) := by decide +kernel
def RX2 : String := "ThumbHedges$Judge"
def TX2 : u_T := fun k => match k with
  | 0 => ("ThumbHedges$Judge", "names", "[I", true)
  | 1 => ("ThumbHedges$Judge", "stack", "[I", true)
  | _ => ("ThumbHedges$Judge", "height", "I", false)
def tyX2 : Nat → FieldType := fun k => match k with
  | 0 => .array .int
  | 1 => .array .int
  | _ => .int
theorem nmX2 : ∀ a, a < 3 → ∀ b, b < 3 → a ≠ b → (TX2 a).2.1 ≠ (TX2 b).2.1 := by decide +kernel
theorem tyX2_ok : ∀ k, k < 3 → parseFieldDescriptor (TX2 k).2.2.1 = some (tyX2 k) := by decide +kernel
def RX3 : String := "ThumbHedges$Land"
def TX3 : u_T := fun k => match k with
  | 0 => ("ThumbHedges$Land", "hedges", "J", false)
  | 1 => ("ThumbHedges$Land", "told", "I", false)
  | 2 => ("ThumbHedges$Land", "at", "[I", true)
  | 3 => ("ThumbHedges$Land", "way", "[I", true)
  | 4 => ("ThumbHedges$Land", "home", "I", false)
  | 5 => ("ThumbHedges$Land", "hour", "I", false)
  | 6 => ("ThumbHedges$Land", "x", "I", false)
  | 7 => ("ThumbHedges$Land", "lines", "I", false)
  | _ => ("ThumbHedges$Land", "book", "[I", true)
def tyX3 : Nat → FieldType := fun k => match k with
  | 0 => .long
  | 1 => .int
  | 2 => .array .int
  | 3 => .array .int
  | 4 => .int
  | 5 => .int
  | 6 => .int
  | 7 => .int
  | _ => .array .int
theorem nmX3 : ∀ a, a < 9 → ∀ b, b < 9 → a ≠ b → (TX3 a).2.1 ≠ (TX3 b).2.1 := by decide +kernel
theorem tyX3_ok : ∀ k, k < 9 → parseFieldDescriptor (TX3 k).2.2.1 = some (tyX3 k) := by decide +kernel
def RX4 : String := "ThumbHedges$Maze"
def TX4 : u_T := fun k => match k with
  | 0 => ("ThumbHedges$Maze", "toEast", "I", false)
  | 1 => ("ThumbHedges$Maze", "toSouth", "I", false)
  | _ => ("ThumbHedges$Maze", "near", "[I", true)
def tyX4 : Nat → FieldType := fun k => match k with
  | 0 => .int
  | 1 => .int
  | _ => .array .int
theorem nmX4 : ∀ a, a < 3 → ∀ b, b < 3 → a ≠ b → (TX4 a).2.1 ≠ (TX4 b).2.1 := by decide +kernel
theorem tyX4_ok : ∀ k, k < 3 → parseFieldDescriptor (TX4 k).2.2.1 = some (tyX4 k) := by decide +kernel
def RX6 : String := "ThumbHedges$Reader"
def TX6 : u_T := fun k => match k with
  | 0 => ("ThumbHedges$Reader", "bytes", "[I", true)
  | 1 => ("ThumbHedges$Reader", "length", "I", false)
  | 2 => ("ThumbHedges$Reader", "draft", "LThumbHedges$Text;", true)
  | 3 => ("ThumbHedges$Reader", "hasRead", "Z", false)
  | 4 => ("ThumbHedges$Reader", "fault", "I", false)
  | 5 => ("ThumbHedges$Reader", "faultPlace", "I", false)
  | 6 => ("ThumbHedges$Reader", "token", "I", false)
  | 7 => ("ThumbHedges$Reader", "place", "I", false)
  | 8 => ("ThumbHedges$Reader", "value", "I", false)
  | 9 => ("ThumbHedges$Reader", "next", "I", false)
  | 10 => ("ThumbHedges$Reader", "law", "I", false)
  | _ => ("ThumbHedges$Reader", "open", "I", false)
def tyX6 : Nat → FieldType := fun k => match k with
  | 0 => .array .int
  | 1 => .int
  | 2 => .object "ThumbHedges$Text"
  | 3 => .boolean
  | 4 => .int
  | 5 => .int
  | 6 => .int
  | 7 => .int
  | 8 => .int
  | 9 => .int
  | 10 => .int
  | _ => .int
theorem nmX6 : ∀ a, a < 12 → ∀ b, b < 12 → a ≠ b → (TX6 a).2.1 ≠ (TX6 b).2.1 := by decide +kernel
theorem tyX6_ok : ∀ k, k < 12 → parseFieldDescriptor (TX6 k).2.2.1 = some (tyX6 k) := by decide +kernel
def RX7 : String := "ThumbHedges$Text"
def TX7 : u_T := fun k => match k with
  | 0 => ("ThumbHedges$Text", "clauses", "I", false)
  | 1 => ("ThumbHedges$Text", "kinds", "[I", true)
  | 2 => ("ThumbHedges$Text", "firsts", "[I", true)
  | 3 => ("ThumbHedges$Text", "seconds", "[I", true)
  | 4 => ("ThumbHedges$Text", "code", "[I", true)
  | 5 => ("ThumbHedges$Text", "size", "I", false)
  | 6 => ("ThumbHedges$Text", "hasFrosts", "Z", false)
  | 7 => ("ThumbHedges$Text", "frostsFrom", "I", false)
  | 8 => ("ThumbHedges$Text", "frostsTo", "I", false)
  | 9 => ("ThumbHedges$Text", "hasGoes", "Z", false)
  | 10 => ("ThumbHedges$Text", "goesFrom", "I", false)
  | _ => ("ThumbHedges$Text", "goesTo", "I", false)
def tyX7 : Nat → FieldType := fun k => match k with
  | 0 => .int
  | 1 => .array .int
  | 2 => .array .int
  | 3 => .array .int
  | 4 => .array .int
  | 5 => .int
  | 6 => .boolean
  | 7 => .int
  | 8 => .int
  | 9 => .boolean
  | 10 => .int
  | _ => .int
theorem nmX7 : ∀ a, a < 12 → ∀ b, b < 12 → a ≠ b → (TX7 a).2.1 ≠ (TX7 b).2.1 := by decide +kernel
theorem tyX7_ok : ∀ k, k < 12 → parseFieldDescriptor (TX7 k).2.2.1 = some (tyX7 k) := by decide +kernel
def RX8 : String := "ThumbHedges"
def TX8 : u_T := fun k => match k with
  | 0 => ("ThumbHedges", "now", "LThumbHedges$Farm;", true)
  | 1 => ("ThumbHedges", "kept", "LThumbHedges$Farm;", true)
  | 2 => ("ThumbHedges", "hands", "LThumbHedges$Hands;", true)
  | 3 => ("ThumbHedges", "texts", "[LThumbHedges$Text;", true)
  | 4 => ("ThumbHedges", "lawless", "LThumbHedges$Text;", true)
  | 5 => ("ThumbHedges", "reader", "LThumbHedges$Reader;", true)
  | 6 => ("ThumbHedges", "judge", "LThumbHedges$Judge;", true)
  | 7 => ("ThumbHedges", "maze", "LThumbHedges$Maze;", true)
  | _ => ("ThumbHedges", "trial", "LThumbHedges$Land;", true)
def tyX8 : Nat → FieldType := fun k => match k with
  | 0 => .object "ThumbHedges$Farm"
  | 1 => .object "ThumbHedges$Farm"
  | 2 => .object "ThumbHedges$Hands"
  | 3 => .array (.object "ThumbHedges$Text")
  | 4 => .object "ThumbHedges$Text"
  | 5 => .object "ThumbHedges$Reader"
  | 6 => .object "ThumbHedges$Judge"
  | 7 => .object "ThumbHedges$Maze"
  | _ => .object "ThumbHedges$Land"
theorem nmX8 : ∀ a, a < 9 → ∀ b, b < 9 → a ≠ b → (TX8 a).2.1 ≠ (TX8 b).2.1 := by decide +kernel
theorem tyX8_ok : ∀ k, k < 9 → parseFieldDescriptor (TX8 k).2.2.1 = some (tyX8 k) := by decide +kernel
def RX9 : String := "ThumbHedgesModel"
def TX9 : u_T := fun k => match k with
  | 0 => ("ThumbHedgesModel", "a", "[I", true)
  | 1 => ("ThumbHedgesModel", "image", "[I", true)
  | 2 => ("ThumbHedgesModel", "texts", "[I", true)
  | 3 => ("ThumbHedgesModel", "turns", "[I", true)
  | 4 => ("ThumbHedgesModel", "tape", "[I", true)
  | 5 => ("ThumbHedgesModel", "taped", "I", false)
  | 6 => ("ThumbHedgesModel", "fault", "I", false)
  | 7 => ("ThumbHedgesModel", "faultPlace", "I", false)
  | 8 => ("ThumbHedgesModel", "at", "I", false)
  | 9 => ("ThumbHedgesModel", "place", "I", false)
  | 10 => ("ThumbHedgesModel", "token", "I", false)
  | 11 => ("ThumbHedgesModel", "number", "I", false)
  | 12 => ("ThumbHedgesModel", "word", "J", false)
  | 13 => ("ThumbHedgesModel", "text0", "I", false)
  | 14 => ("ThumbHedgesModel", "written", "I", false)
  | 15 => ("ThumbHedgesModel", "sort0", "I", false)
  | 16 => ("ThumbHedgesModel", "pile", "[I", true)
  | 17 => ("ThumbHedgesModel", "piled", "I", false)
  | 18 => ("ThumbHedgesModel", "opens", "I", false)
  | 19 => ("ThumbHedgesModel", "isWhole", "Z", false)
  | 20 => ("ThumbHedgesModel", "once", "I", false)
  | 21 => ("ThumbHedgesModel", "named", "[I", true)
  | 22 => ("ThumbHedgesModel", "values", "[J", true)
  | 23 => ("ThumbHedgesModel", "truth", "[Z", true)
  | 24 => ("ThumbHedgesModel", "isWritten", "Z", false)
  | 25 => ("ThumbHedgesModel", "cameHome", "I", false)
  | 26 => ("ThumbHedgesModel", "aside", "[I", true)
  | 27 => ("ThumbHedgesModel", "far", "[I", true)
  | 28 => ("ThumbHedgesModel", "path", "[I", true)
  | 29 => ("ThumbHedgesModel", "onBy", "[I", true)
  | 30 => ("ThumbHedgesModel", "behind", "[I", true)
  | 31 => ("ThumbHedgesModel", "reach", "[I", true)
  | 32 => ("ThumbHedgesModel", "tried", "[I", true)
  | _ => ("ThumbHedgesModel", "there", "[I", true)
def tyX9 : Nat → FieldType := fun k => match k with
  | 0 => .array .int
  | 1 => .array .int
  | 2 => .array .int
  | 3 => .array .int
  | 4 => .array .int
  | 5 => .int
  | 6 => .int
  | 7 => .int
  | 8 => .int
  | 9 => .int
  | 10 => .int
  | 11 => .int
  | 12 => .long
  | 13 => .int
  | 14 => .int
  | 15 => .int
  | 16 => .array .int
  | 17 => .int
  | 18 => .int
  | 19 => .boolean
  | 20 => .int
  | 21 => .array .int
  | 22 => .array .long
  | 23 => .array .boolean
  | 24 => .boolean
  | 25 => .int
  | 26 => .array .int
  | 27 => .array .int
  | 28 => .array .int
  | 29 => .array .int
  | 30 => .array .int
  | 31 => .array .int
  | 32 => .array .int
  | _ => .array .int
theorem nmX9 : ∀ a, a < 34 → ∀ b, b < 34 → a ≠ b → (TX9 a).2.1 ≠ (TX9 b).2.1 := by decide +kernel
theorem tyX9_ok : ∀ k, k < 34 → parseFieldDescriptor (TX9 k).2.2.1 = some (tyX9 k) := by decide +kernel
abbrev vwCl : List vw_C := [(RX0, TX0, 11), (RX1, TX1, 1), (RX2, TX2, 3), (RX3, TX3, 9), (RX4, TX4, 3), (RX6, TX6, 12), (RX7, TX7, 12), (RX8, TX8, 9), (RX9, TX9, 34)]
def CR (c : Nat) : String := match c with
  | 0 => RX0
  | 1 => RX1
  | 2 => RX2
  | 3 => RX3
  | 4 => RX4
  | 5 => RX6
  | 6 => RX7
  | 7 => RX8
  | _ => RX9
def CT (c : Nat) : u_T := match c with
  | 0 => TX0
  | 1 => TX1
  | 2 => TX2
  | 3 => TX3
  | 4 => TX4
  | 5 => TX6
  | 6 => TX7
  | 7 => TX8
  | _ => TX9
def CTy (c : Nat) : Nat → FieldType := match c with
  | 0 => tyX0
  | 1 => tyX1
  | 2 => tyX2
  | 3 => tyX3
  | 4 => tyX4
  | 5 => tyX6
  | 6 => tyX7
  | 7 => tyX8
  | _ => tyX9
def CN (c : Nat) : Nat := match c with
  | 0 => 11
  | 1 => 1
  | 2 => 3
  | 3 => 9
  | 4 => 3
  | 5 => 12
  | 6 => 12
  | 7 => 9
  | _ => 34
theorem mem_places {big ws : List Cond} (ps : List Nat) (hp : ws = ps.filterMap (fun i => big[i]?)) : ∀ w ∈ ws, w ∈ big := by
  intro w hw
  rw [hp] at hw
  obtain ⟨i, -, hi⟩ := List.mem_filterMap.mp hw
  exact List.mem_of_getElem? hi
theorem inX0 : ∀ w ∈ u_ws RX0 TX0 11, w ∈ lw_tbl := mem_places [213, 215, 217, 219, 221, 223, 225, 227, 229, 231, 233] (by decide +kernel)
theorem inX1 : ∀ w ∈ u_ws RX1 TX1 1, w ∈ lw_tbl := mem_places [243] (by decide +kernel)
theorem inX2 : ∀ w ∈ u_ws RX2 TX2 3, w ∈ lw_tbl := mem_places [364, 366, 368] (by decide +kernel)
theorem inX3 : ∀ w ∈ u_ws RX3 TX3 9, w ∈ lw_tbl := mem_places [172, 174, 176, 178, 180, 182, 184, 186, 188] (by decide +kernel)
theorem inX4 : ∀ w ∈ u_ws RX4 TX4 3, w ∈ lw_tbl := mem_places [380, 382, 384] (by decide +kernel)
theorem inX6 : ∀ w ∈ u_ws RX6 TX6 12, w ∈ lw_tbl := mem_places [330, 332, 334, 336, 338, 340, 342, 344, 346, 348, 350, 352] (by decide +kernel)
theorem inX7 : ∀ w ∈ u_ws RX7 TX7 12, w ∈ lw_tbl := mem_places [280, 282, 284, 286, 288, 290, 292, 294, 296, 298, 300, 302] (by decide +kernel)
theorem inX8 : ∀ w ∈ u_ws RX8 TX8 9, w ∈ lw_tbl := mem_places [398, 400, 402, 404, 406, 408, 410, 412, 414] (by decide +kernel)
theorem inX9 : ∀ w ∈ u_ws RX9 TX9 34, w ∈ lw_tbl := mem_places [1329, 1331, 1333, 1335, 1337, 1339, 1341, 1343, 1345, 1347, 1349, 1351, 1353, 1355, 1357, 1359, 1361, 1363, 1365, 1367, 1369, 1371, 1373, 1375, 1377, 1379, 1381, 1383, 1385, 1387, 1389, 1391, 1393, 1395] (by decide +kernel)
end
section
/-! THE NUMBER MACHINE: a pure machine over whole numbers that runs the resolved code of every method that makes no object. Objects are numbers (ids) of one fixed plan, references never change; memory holds numbers alone. -/
abbrev Mm : Type := Int → Int → Int
abbrev Vv : Type := Nat × Int
def up (m : Mm) (o k v : Int) : Mm := fun a b => if a = o ∧ b = k then v else m a b
def cpy (m : Mm) (s sp d dp n : Int) : Mm := fun a b => if a = d ∧ dp ≤ b ∧ b < dp + n then m s (sp + (b - dp)) else m a b
def w32 (x : Int) : Int := (Int32.ofInt x).toInt
def w64 (x : Int) : Int := (Int64.ofInt x).toInt
def idv (a b : Int) : Int := (Int32.ofInt a / Int32.ofInt b).toInt
def irm (a b : Int) : Int := (Int32.ofInt a - Int32.ofInt a / Int32.ofInt b * Int32.ofInt b).toInt
def ian (a b : Int) : Int := (Int32.ofInt a &&& Int32.ofInt b).toInt
def iro (a b : Int) : Int := (Int32.ofInt a ||| Int32.ofInt b).toInt
def ixo (a b : Int) : Int := (Int32.ofInt a ^^^ Int32.ofInt b).toInt
def isl (a b : Int) : Int := (Int32.ofInt a <<< (Int32.ofInt b &&& 31)).toInt
def isr (a b : Int) : Int := (Int32.ofInt a >>> (Int32.ofInt b &&& 31)).toInt
def ius (a b : Int) : Int := ((Int32.ofInt a).toUInt32 >>> ((Int32.ofInt b).toUInt32 &&& Int32.toUInt32 31)).toInt32.toInt
def ldv (a b : Int) : Int := (Int64.ofInt a / Int64.ofInt b).toInt
def lrm (a b : Int) : Int := (Int64.ofInt a - Int64.ofInt a / Int64.ofInt b * Int64.ofInt b).toInt
def lan (a b : Int) : Int := (Int64.ofInt a &&& Int64.ofInt b).toInt
def lro (a b : Int) : Int := (Int64.ofInt a ||| Int64.ofInt b).toInt
def lxo (a b : Int) : Int := (Int64.ofInt a ^^^ Int64.ofInt b).toInt
def lsl (a b : Int) : Int := (Int64.ofInt a <<< ((Int32.ofInt b).toInt64 &&& 63)).toInt
def lsr (a b : Int) : Int := (Int64.ofInt a >>> ((Int32.ofInt b).toInt64 &&& 63)).toInt
def lus (a b : Int) : Int := ((Int64.ofInt a).toUInt64 >>> ((Int32.ofInt b).toInt64.toUInt64 &&& Int64.toUInt64 63)).toInt64.toInt
def lcm (a b : Int) : Int := if a < b then -1 else if a = b then 0 else 1
def i2c (a : Int) : Int := ((Int32.ofInt a).toUInt32 % 65536).toInt32.toInt
/-- the two texts that the class holds as constants, byte by byte -/
def WORDSL : List Int := [102, 114, 111, 115, 116, 115, 32, 103, 111, 101, 115, 32, 99, 111, 119, 32, 103, 97, 116, 101, 32, 112, 108, 97, 110, 116, 32, 99, 117, 116, 32, 112, 114, 101, 115, 115, 32, 103, 111, 32, 104, 111, 117, 114, 32, 99, 101, 108, 108, 32, 97, 114, 111, 117, 110, 100, 32, 97, 108, 108, 32, 110, 117, 109, 98, 101, 114, 32, 119, 104, 111, 32, 119, 97, 121, 32, 116, 117, 114, 110, 32, 98, 121, 32, 102, 97, 114, 32, 111, 102, 32, 104, 101, 100, 103, 101, 32, 105, 102, 32, 116, 104, 101, 110, 32, 101, 108, 115, 101, 32, 101, 110, 100, 32, 111, 114, 32, 97, 110, 100, 32, 110, 111, 116, 32]
def SIGNSL : List Int := [60, 62, 61, 35, 43, 45, 42, 47, 40, 41, 59]
def wchar (i : Int) : Int := WORDSL.getD i.toNat 0
def idxOf : List Int → Int → Int → Int
  | [], _, _ => -1
  | x :: r, c, k => if x = c then k else idxOf r c (k + 1)
/-! kinds of values: 0 int, 1 long, 9 nothing known, 10 .. 18 objects of class 0 .. 8, 50 the script, 51 TRIED, 52 and 53 the two texts, from 100 on arrays: 100 + 8 n + (0 int, 1 long, 2 boolean, 3 Land, 4 Text) -/
def aty (t : Nat) : Nat := if t < 100 then 9 else (t - 100) % 8
def aln (t : Nat) : Int := ((t - 100) / 8 : Nat)
def FTL : List (List Nat) := [[13, 343, 0, 0, 0, 0, 0, 0, 0, 164, 164], [357], [156, 2500, 0], [1, 0, 140, 140, 0, 0, 0, 0, 340], [0, 0, 300], [2500, 0, 16, 2, 0, 0, 0, 0, 0, 0, 0, 0], [0, 292, 292, 292, 2500, 0, 2, 0, 0, 2, 0, 0], [10, 10, 11, 136, 16, 15, 12, 14, 13], [11828, 11828, 21892, 2660, 2500, 0, 0, 0, 0, 0, 0, 0, 1, 0, 0, 0, 1380, 0, 0, 2, 0, 156, 2741, 2742, 2, 0, 268, 300, 308, 308, 900, 300, 132, 420]]
def OFL : List (List Int) := [[1, 5, 0, 0, 0, 0, 0, 0, 0, 126, 127], [1], [1, 2, 0], [0, 0, 1, 2, 0, 0, 0, 0, 3], [0, 0, 1], [1, 0, 2, 0, 0, 0, 0, 0, 0, 0, 0, 0], [0, 1, 2, 3, 4, 0, 0, 0, 0, 0, 0, 0], [128, 256, 1, 3, 48, 80, 10, 13, 64], [1, 2, 3, 4, 5, 0, 0, 0, 0, 0, 0, 0, 0, 0, 0, 0, 6, 0, 0, 0, 0, 7, 8, 9, 0, 0, 10, 11, 12, 13, 14, 15, 16, 17]]
def FT (c k : Nat) : Nat := (FTL.getD c []).getD k 9
def OF (c k : Nat) : Int := (OFL.getD c []).getD k 0
def PA (t : Nat) (o i : Int) : Int := if t = 3 then o + 1 + 4 * i else o + 13 + 8 * i
def catV (v : Vv) : Nat := if v.1 = 1 then 2 else 1
def catS (l : List Vv) : Nat := (l.map catV).sum
abbrev Cf : Type := Nat × List Vv × List Vv × Mm
/-- a long whose second half is overwritten is lost -/
def cut1 (L : List Vv) (i : Nat) : List Vv := match i with
  | 0 => L
  | j + 1 => match L[j]? with
    | some (1, _) => L.set j (9, 0)
    | _ => L
def sto1 (L : List Vv) (i : Nat) (v : Vv) : List Vv := (cut1 L i).set i v
def sto2 (L : List Vv) (i : Nat) (v : Vv) : List Vv := ((cut1 L i).set i v).set (i + 1) (9, 0)
def cmpB (c : Jvm.ClassFile.Cond) (a b : Int) : Bool := match c with
  | .eq => decide (a = b)
  | .ne => decide (¬ a = b)
  | .lt => decide (a < b)
  | .ge => decide (b ≤ a)
  | .gt => decide (b < a)
  | .le => decide (a ≤ b)
def tsw (d : Int) : Int → List Int → Int → Int
  | _, [], _ => d
  | lo, t :: r, x => if x = lo then t else tsw d (lo + 1) r x
def lsw (d : Int) : List (Int × Int) → Int → Int
  | [], _ => d
  | q :: r, x => if x = q.1 then q.2 else lsw d r x
def bi2 (f : Int → Int → Int) (pc : Nat) (L st : List Vv) (m : Mm) : Option Cf := match st with
  | (0, b) :: (0, a) :: r => some (pc + 1, L, (0, f a b) :: r, m)
  | _ => none
def bl2 (f : Int → Int → Int) (pc : Nat) (L st : List Vv) (m : Mm) : Option Cf := match st with
  | (1, b) :: (1, a) :: r => some (pc + 1, L, (1, f a b) :: r, m)
  | _ => none
def bs2 (f : Int → Int → Int) (pc : Nat) (L st : List Vv) (m : Mm) : Option Cf := match st with
  | (0, b) :: (1, a) :: r => some (pc + 1, L, (1, f a b) :: r, m)
  | _ => none
def bd2 (f : Int → Int → Int) (pc : Nat) (L st : List Vv) (m : Mm) : Option Cf := match st with
  | (0, b) :: (0, a) :: r => if b = 0 then none else some (pc + 1, L, (0, f a b) :: r, m)
  | _ => none
def bq2 (f : Int → Int → Int) (pc : Nat) (L st : List Vv) (m : Mm) : Option Cf := match st with
  | (1, b) :: (1, a) :: r => if b = 0 then none else some (pc + 1, L, (1, f a b) :: r, m)
  | _ => none
/-- reading an array's cell -/
def ald (ty : Nat) (rt : Nat) (pc : Nat) (L st : List Vv) (m : Mm) : Option Cf := match st with
  | (0, i) :: (t, o) :: r => if aty t = ty then (if 0 ≤ i ∧ i < aln t then some (pc + 1, L, (rt, m o i) :: r, m) else none) else none
  | _ => none
def sld (pc : Nat) (L st : List Vv) (m : Mm) : Option Cf := match st with
  | (0, i) :: (t, o) :: r => if t = 50 then (if 0 ≤ i ∧ i < m 500 (-1) then some (pc + 1, L, (0, m 500 i) :: r, m) else none)
      else if t = 51 then (if 0 ≤ i ∧ i < 4 then some (pc + 1, L, (0, m 501 i) :: r, m) else none) else ald 0 0 pc L ((0, i) :: (t, o) :: r) m
  | _ => none
def rld (pc : Nat) (L st : List Vv) (m : Mm) : Option Cf := match st with
  | (0, i) :: (t, o) :: r => if aty t = 3 then (if 0 ≤ i ∧ i < aln t then some (pc + 1, L, (13, PA 3 o i) :: r, m) else none)
      else if aty t = 4 then (if 0 ≤ i ∧ i < aln t then some (pc + 1, L, (16, PA 4 o i) :: r, m) else none) else none
  | _ => none
def ast (ty : Nat) (vt : Nat) (pc : Nat) (L st : List Vv) (m : Mm) : Option Cf := match st with
  | (t0, v) :: (0, i) :: (t, o) :: r => if t0 = vt then if aty t = ty then (if 0 ≤ i ∧ i < aln t then some (pc + 1, L, r, up m o i v) else none) else none else none
  | _ => none
def bst (pc : Nat) (L st : List Vv) (m : Mm) : Option Cf := match st with
  | (0, v) :: (0, i) :: (t, o) :: r => if aty t = 2 then (if (v = 0 ∨ v = 1) ∧ 0 ≤ i ∧ i < aln t then some (pc + 1, L, r, up m o i v) else none) else none
  | _ => none
def gtf (c k : Nat) (pc : Nat) (L st : List Vv) (m : Mm) : Option Cf := match st with
  | (t, o) :: r => if t = c + 10 ∧ k < CN c then (if FT c k = 0 ∨ FT c k = 2 then some (pc + 1, L, (0, m o k) :: r, m) else if FT c k = 1 then some (pc + 1, L, (1, m o k) :: r, m) else some (pc + 1, L, (FT c k, o + OF c k) :: r, m)) else none
  | _ => none
def ptf (c k : Nat) (pc : Nat) (L st : List Vv) (m : Mm) : Option Cf := match st with
  | (t0, v) :: (t, o) :: r => if t = c + 10 ∧ k < CN c then (if FT c k = 0 ∧ t0 = 0 then some (pc + 1, L, r, up m o k v) else if FT c k = 1 ∧ t0 = 1 then some (pc + 1, L, r, up m o k v) else if FT c k = 2 ∧ t0 = 0 then (if v = 0 ∨ v = 1 then some (pc + 1, L, r, up m o k v) else none) else none) else none
  | _ => none
def acp (pc : Nat) (L st : List Vv) (m : Mm) : Option Cf := match st with
  | (0, n) :: (0, dp) :: (td, d) :: (0, sp) :: (ts, s) :: [] => if aty ts = 0 ∧ aty td = 0 then (if 0 ≤ n ∧ 0 ≤ sp ∧ 0 ≤ dp ∧ sp + n ≤ aln ts ∧ dp + n ≤ aln td then some (pc + 1, L, [], cpy m s sp d dp n) else none) else none
  | _ => none
/-- a step that is no call and no return -/
def st1 (i : Instr) (pc : Nat) (L st : List Vv) (m : Mm) : Option Cf := match i with
  | .iconst v => some (pc + 1, L, (0, v) :: st, m)
  | .bipush v => some (pc + 1, L, (1, v) :: st, m)
  | .iload i => match L[i]? with
    | some (0, x) => some (pc + 1, L, (0, x) :: st, m)
    | _ => none
  | .lload i => match L[i]? with
    | some (1, x) => some (pc + 1, L, (1, x) :: st, m)
    | _ => none
  | .aload i => match L[i]? with
    | some (t, x) => if 10 ≤ t then some (pc + 1, L, (t, x) :: st, m) else none
    | _ => none
  | .istore i => match st with
    | (0, x) :: r => if i < L.length then some (pc + 1, sto1 L i (0, x), r, m) else none
    | _ => none
  | .lstore i => match st with
    | (1, x) :: r => if i + 1 < L.length then some (pc + 1, sto2 L i (1, x), r, m) else none
    | _ => none
  | .astore i => match st with
    | (t, x) :: r => if 10 ≤ t ∧ i < L.length then some (pc + 1, sto1 L i (t, x), r, m) else none
    | _ => none
  | .iinc i k => match L[i]? with
    | some (0, x) => some (pc + 1, sto1 L i (0, w32 (x + k)), st, m)
    | _ => none
  | .iadd => bi2 (fun a b => w32 (a + b)) pc L st m
  | .isub => bi2 (fun a b => w32 (a - b)) pc L st m
  | .imul => bi2 (fun a b => w32 (a * b)) pc L st m
  | .iand => bi2 ian pc L st m
  | .ior => bi2 iro pc L st m
  | .ixor => bi2 ixo pc L st m
  | .ishl => bi2 isl pc L st m
  | .ishr => bi2 isr pc L st m
  | .iushr => bi2 ius pc L st m
  | .idiv => bd2 idv pc L st m
  | .irem => bd2 irm pc L st m
  | .ineg => match st with
    | (0, a) :: r => some (pc + 1, L, (0, w32 (-a)) :: r, m)
    | _ => none
  | .ladd => bl2 (fun a b => w64 (a + b)) pc L st m
  | .lsub => bl2 (fun a b => w64 (a - b)) pc L st m
  | .lmul => bl2 (fun a b => w64 (a * b)) pc L st m
  | .land => bl2 lan pc L st m
  | .lor => bl2 lro pc L st m
  | .lxor => bl2 lxo pc L st m
  | .lshl => bs2 lsl pc L st m
  | .lshr => bs2 lsr pc L st m
  | .lushr => bs2 lus pc L st m
  | .ldiv => bq2 ldv pc L st m
  | .lrem => bq2 lrm pc L st m
  | .lneg => match st with
    | (1, a) :: r => some (pc + 1, L, (1, w64 (-a)) :: r, m)
    | _ => none
  | .lcmp => match st with
    | (1, b) :: (1, a) :: r => some (pc + 1, L, (0, lcm a b) :: r, m)
    | _ => none
  | .i2l => match st with
    | (0, a) :: r => some (pc + 1, L, (1, a) :: r, m)
    | _ => none
  | .l2i => match st with
    | (1, a) :: r => some (pc + 1, L, (0, w32 a) :: r, m)
    | _ => none
  | .i2c => match st with
    | (0, a) :: r => some (pc + 1, L, (0, i2c a) :: r, m)
    | _ => none
  | .dup => match st with
    | (t, a) :: r => if t = 1 ∨ t = 9 then none else some (pc + 1, L, (t, a) :: (t, a) :: r, m)
    | _ => none
  | .dup2 => match st with
    | (t, a) :: (u, b) :: r => if t = 1 ∨ t = 9 ∨ u = 1 ∨ u = 9 then none else some (pc + 1, L, (t, a) :: (u, b) :: (t, a) :: (u, b) :: r, m)
    | _ => none
  | .pop => match st with
    | (t, _) :: r => if t = 1 ∨ t = 9 then none else some (pc + 1, L, r, m)
    | _ => none
  | .goto t => some (t.toNat, L, st, m)
  | .if_icmp c t => match st with
    | (0, b) :: (0, a) :: r => some (if cmpB c a b = true then t.toNat else pc + 1, L, r, m)
    | _ => none
  | .ifCond c t => match st with
    | (0, a) :: r => some (if cmpB c a 0 = true then t.toNat else pc + 1, L, r, m)
    | _ => none
  | .tableswitch d lo _ ts => match st with
    | (0, x) :: r => some ((tsw d lo ts.toList x).toNat, L, r, m)
    | _ => none
  | .lookupswitch d ps => match st with
    | (0, x) :: r => some ((lsw d ps.toList x).toNat, L, r, m)
    | _ => none
  | .multianewarray c k => gtf c k pc L st m
  | .invokeinterface c k => ptf c k pc L st m
  | .iaload => sld pc L st m
  | .laload => ald 1 1 pc L st m
  | .baload => ald 2 0 pc L st m
  | .aaload => rld pc L st m
  | .iastore => ast 0 0 pc L st m
  | .lastore => ast 1 1 pc L st m
  | .bastore => bst pc L st m
  | .arraylength => match st with
    | (t, _) :: r => if t = 50 then some (pc + 1, L, (0, m 500 (-1)) :: r, m) else if aty t = 9 then none else some (pc + 1, L, (0, aln t) :: r, m)
    | _ => none
  | .getstatic _ => some (pc + 1, L, (51, 501) :: st, m)
  | .ldc t => if t = 52 ∨ t = 53 then some (pc + 1, L, (t, 0) :: st, m) else none
  | .invokedynamic n => if n = 0 then acp pc L st m else if n = 1 then (match st with
      | (52, _) :: [] => some (pc + 1, L, (0, 125) :: [], m)
      | (52, _) :: (0, x) :: [] => some (pc + 1, L, (0, 125) :: (0, x) :: [], m)
      | _ => none) else if n = 2 then (match st with
      | (0, i) :: (52, _) :: [] => if 0 ≤ i ∧ i < 125 then some (pc + 1, L, (0, wchar i) :: [], m) else none
      | _ => none) else (match st with
      | (0, x) :: (53, _) :: [] => if 0 ≤ x ∧ x < 65536 then some (pc + 1, L, (0, idxOf SIGNSL x 0) :: [], m) else none
      | _ => none)
  | _ => none
/-- a method: the kinds of its arguments, of its answer (0 int, 1 long, 2 boolean, 3 none, else a reference), how many locals, its code -/
abbrev MI : Type := List Nat × Nat × Nat × List Instr
def entL : List Vv → List Vv
  | [] => []
  | (t, x) :: r => if t = 1 then (t, x) :: (9, 0) :: entL r else (t, x) :: entL r
def ent (a : List Vv) (n : Nat) : List Vv := entL a ++ List.replicate (n - (entL a).length) (9, 0)
def ret1 (i : Instr) (rt : Nat) (st : List Vv) : Option (Option Vv) := match i with
  | .ireturn => match st with
    | [(0, v)] => if rt = 0 then some (some (0, v)) else if rt = 2 then (if v = 0 ∨ v = 1 then some (some (0, v)) else none) else none
    | _ => none
  | .lreturn => match st with
    | [(1, v)] => if rt = 1 then some (some (1, v)) else none
    | _ => none
  | .areturn => match st with
    | [(t, v)] => if rt = t ∧ 10 ≤ t then some (some (t, v)) else none
    | _ => none
  | .return_ => match st with
    | [] => if rt = 3 then some none else none
    | _ => none
  | _ => none
def ex (MT : List MI) : Nat → Nat → List Instr → Nat → Nat → List Vv → List Vv → Mm → Option (Option Vv × Mm)
  | 0, _, _, _, _, _, _, _ => none
  | n + 1, d, C, rt, pc, L, st, m =>
    match C[pc]? with
    | none => none
    | some i =>
      match i with
      | .invokestatic k =>
        match d, MT[k]? with
        | d' + 1, some M =>
          if ((st.take M.1.length).reverse.map (fun v => v.1)) = M.1 ∧ catS (st.drop M.1.length) ≤ 8 then
            match ex MT n d' M.2.2.2 M.2.1 0 (ent (st.take M.1.length).reverse M.2.2.1) [] m with
            | some (v, m') => ex MT n d C rt (pc + 1) L (v.toList ++ st.drop M.1.length) m'
            | none => none
          else none
        | _, _ => none
      | i =>
        match ret1 i rt st with
        | some v => some (v, m)
        | none =>
          match st1 i pc L st m with
          | some (pc', L', st', m') => ex MT n d C rt pc' L' st' m'
          | none => none
end
section
/-! WHAT THE NUMBERS ARE IN THE HEAP -/
def in32 (x : Int) : Prop := -2147483648 ≤ x ∧ x ≤ 2147483647
def in64 (x : Int) : Prop := -9223372036854775808 ≤ x ∧ x ≤ 9223372036854775807
theorem i32_of {x : Int} (h : in32 x) : (Int32.ofInt x).toInt = x := Int32.toInt_ofInt_of_le (by unfold in32 at h; omega) (by unfold in32 at h; omega)
theorem i64_of {x : Int} (h : in64 x) : (Int64.ofInt x).toInt = x := Int64.toInt_ofInt_of_le (by unfold in64 at h; omega) (by unfold in64 at h; omega)
theorem in32_to (x : Int32) : in32 x.toInt := by
  have h1 := x.toInt_lt
  have h2 := x.le_toInt
  unfold in32
  omega
theorem in64_to (x : Int64) : in64 x.toInt := by
  have h1 := x.toInt_lt
  have h2 := x.le_toInt
  unfold in64
  omega
theorem in64_32 {x : Int} (h : in32 x) : in64 x := by unfold in32 at h; unfold in64; omega
theorem w32_of {x : Int} (h : in32 x) : w32 x = x := i32_of h
theorem w64_of {x : Int} (h : in64 x) : w64 x = x := i64_of h
theorem in32_w (x : Int) : in32 (w32 x) := in32_to _
theorem in64_w (x : Int) : in64 (w64 x) := in64_to _
theorem o32_w (x : Int) : Int32.ofInt (w32 x) = Int32.ofInt x := Int32.ofInt_toInt _
theorem o64_w (x : Int) : Int64.ofInt (w64 x) = Int64.ofInt x := Int64.ofInt_toInt _
theorem clamp_o {i : Int} (h : in32 i) : (Int32.ofInt i).toNatClampNeg = i.toNat := by rw [← Int32.toNat_toInt, i32_of h]
theorem vp_in_o {i : Int} {n : Nat} (h : in32 i) (h0 : 0 ≤ i) (h1 : i < n) : vp_in (Int32.ofInt i) n := vp_in_iff.mpr (by rw [i32_of h]; exact ⟨h0, h1⟩)
theorem o32_eq {a b : Int} (ha : in32 a) (hb : in32 b) : Int32.ofInt a = Int32.ofInt b ↔ a = b := by rw [← Int32.toInt_inj, i32_of ha, i32_of hb]
theorem o32_lt {a b : Int} (ha : in32 a) (hb : in32 b) : Int32.ofInt a < Int32.ofInt b ↔ a < b := by rw [Int32.lt_iff_toInt_lt, i32_of ha, i32_of hb]
theorem o32_le {a b : Int} (ha : in32 a) (hb : in32 b) : Int32.ofInt a ≤ Int32.ofInt b ↔ a ≤ b := by rw [Int32.le_iff_toInt_le, i32_of ha, i32_of hb]
theorem in32_lit0 : in32 0 := by unfold in32; omega
/-- the plan: every object that is made once, and never again: its id, its kind -/
def uLand (o : Int) : List (Int × Nat) := [(o, 13), (o + 1, 140), (o + 2, 140), (o + 3, 340)]
def uText (o : Int) : List (Int × Nat) := [(o, 16), (o + 1, 292), (o + 2, 292), (o + 3, 292), (o + 4, 2500)]
def uFarm (o : Int) : List (Int × Nat) := (o, 10) :: (uLand (o + 1) ++ ((o + 5, 343) :: ((List.range 30).flatMap (fun i => uLand (o + 6 + 4 * (i : Nat))) ++ [(o + 126, 164), (o + 127, 164)])))
def uModel (o : Int) : List (Int × Nat) := (o, 18) :: [(o + 1, 11828), (o + 2, 11828), (o + 3, 21892), (o + 4, 2660), (o + 5, 2500), (o + 6, 1380), (o + 7, 156), (o + 8, 2741), (o + 9, 2742), (o + 10, 268), (o + 11, 300), (o + 12, 308), (o + 13, 308), (o + 14, 900), (o + 15, 300), (o + 16, 132), (o + 17, 420)]
def UNI : List (Int × Nat) := (0, 17) :: (uFarm 128 ++ (uFarm 256 ++ ([(1, 11), (2, 357), (3, 136)] ++ (uText 48 ++ (uText 16 ++ (uText 24 ++ (uText 32 ++ (uText 40 ++ ([(80, 15), (81, 2500)] ++ (uText 82 ++ ([(10, 12), (11, 156), (12, 2500), (13, 14), (14, 300)] ++ (uLand 64 ++ uModel 400))))))))))))
theorem UNI_nd : (UNI.map (fun q => q.1)).Nodup := by decide +kernel
theorem UNI_lt : ∀ q ∈ UNI, 0 ≤ q.1 ∧ q.1 < 500 := by decide +kernel
theorem UNI_kind : ∀ q ∈ UNI, (10 ≤ q.2 ∧ q.2 < 19) ∨ (100 ≤ q.2 ∧ (q.2 - 100) % 8 < 5 ∧ (q.2 - 100) / 8 < 3000) := by decide +kernel
theorem UNI_fld : ∀ q ∈ UNI, q.2 < 19 → ∀ k, k < CN (q.2 - 10) → 10 ≤ FT (q.2 - 10) k → (q.1 + OF (q.2 - 10) k, FT (q.2 - 10) k) ∈ UNI := by decide +kernel
theorem UNI_arr3 : ∀ q ∈ UNI, aty q.2 = 3 → ∀ i, i < (q.2 - 100) / 8 → (PA 3 q.1 (i : Nat), 13) ∈ UNI := by decide +kernel
theorem UNI_arr4 : ∀ q ∈ UNI, aty q.2 = 4 → ∀ i, i < (q.2 - 100) / 8 → (PA 4 q.1 (i : Nat), 16) ∈ UNI := by decide +kernel
theorem UNI_eq {o : Int} {t t' : Nat} (h : (o, t) ∈ UNI) (h' : (o, t') ∈ UNI) : t = t' := by
  obtain ⟨i, hi⟩ := List.getElem?_of_mem h
  obtain ⟨j, hj⟩ := List.getElem?_of_mem h'
  have e1 : (UNI.map (fun q => q.1))[i]? = some o := by rw [List.getElem?_map, hi]; rfl
  have e2 : (UNI.map (fun q => q.1))[j]? = some o := by rw [List.getElem?_map, hj]; rfl
  have hl : i < (UNI.map (fun q => q.1)).length := (List.getElem?_eq_some_iff.mp e1).1
  have e : i = j := (List.getElem?_inj hl UNI_nd).mp (e1.trans e2.symm)
  subst e
  rw [hi] at hj
  cases hj
  rfl
/-- a field's value -/
def fv (ad : Int → Nat) (m : Mm) (o : Int) (c k : Nat) : Value := if FT c k = 1 then .long (Int64.ofInt (m o k)) else if FT c k = 0 ∨ FT c k = 2 then .int (Int32.ofInt (m o k)) else .ref (ad (o + OF c k))
def cellOf (ad : Int → Nat) (G : Nat → ClassId) (m : Mm) (q : Int × Nat) : va_E :=
  if q.2 < 100 then .inr (q.2 - 10, (List.range (CN (q.2 - 10))).map (fv ad m q.1 (q.2 - 10)))
  else if aty q.2 = 1 then .inl (G 1, (q.2 - 100) / 8, .inr (.inl (fun j => Int64.ofInt (m q.1 (j : Nat)))))
  else if aty q.2 = 3 then .inl (G 3, (q.2 - 100) / 8, .inr (.inr (.inr (.inr (fun j => some (ad (PA 3 q.1 (j : Nat))))))))
  else if aty q.2 = 4 then .inl (G 4, (q.2 - 100) / 8, .inr (.inr (.inr (.inr (fun j => some (ad (PA 4 q.1 (j : Nat))))))))
  else .inl (G (aty q.2), (q.2 - 100) / 8, .inl (fun j => Int32.ofInt (m q.1 (j : Nat))))
def WS (ad : Int → Nat) (G : Nat → ClassId) (m : Mm) : va_W := UNI.map (fun q => (ad q.1, cellOf ad G m q))
def TYS (G : Nat → ClassId) : List (ClassId × FieldType) := [(G 0, .int), (G 1, .long), (G 2, .boolean), (G 3, .object RX3), (G 4, .object RX7)]
theorem WS_at {ad : Int → Nat} {G : Nat → ClassId} {m : Mm} {q : Int × Nat} (h : q ∈ UNI) : ∃ j : Nat, UNI[j]? = some q ∧ (WS ad G m)[j]? = some (ad q.1, cellOf ad G m q) := by
  obtain ⟨j, hj⟩ := List.getElem?_of_mem h
  exact ⟨j, hj, by rw [WS, List.getElem?_map, hj]; rfl⟩
theorem cellOf_other {ad : Int → Nat} {G : Nat → ClassId} {m m' : Mm} {q : Int × Nat} (h : ∀ k, m' q.1 k = m q.1 k) : cellOf ad G m' q = cellOf ad G m q := by
  have e : fv ad m' q.1 = fv ad m q.1 := by funext c k; simp only [fv, h]
  simp only [cellOf, e, h]
theorem WS_set {ad : Int → Nat} {G : Nat → ClassId} {m m' : Mm} {q : Int × Nat} {j : Nat} (hj : UNI[j]? = some q) (h : ∀ a b, a ≠ q.1 → m' a b = m a b) : (WS ad G m).set j (ad q.1, cellOf ad G m' q) = WS ad G m' := by
  apply List.ext_getElem?
  intro i
  by_cases e : i = j
  · subst e
    have hl : i < (WS ad G m).length := by rw [WS, List.length_map]; exact (List.getElem?_eq_some_iff.mp hj).1
    rw [List.getElem?_set_self hl, WS, List.getElem?_map, hj]
    rfl
  · rw [List.getElem?_set_ne (fun z => e z.symm), WS, WS, List.getElem?_map, List.getElem?_map]
    cases hi : UNI[i]? with
    | none => rfl
    | some q' =>
      have hne : q'.1 ≠ q.1 := by
        intro z
        have e1 : (UNI.map (fun q => q.1))[i]? = some q.1 := by rw [List.getElem?_map, hi]; simp [z]
        have e2 : (UNI.map (fun q => q.1))[j]? = some q.1 := by rw [List.getElem?_map, hj]; rfl
        have hl : i < (UNI.map (fun q => q.1)).length := (List.getElem?_eq_some_iff.mp e1).1
        exact e ((List.getElem?_inj hl UNI_nd).mp (e1.trans e2.symm))
      simp only [Option.map_some]
      rw [cellOf_other (fun k => h _ k hne)]
theorem up_ne {m : Mm} {o k v a b : Int} (h : a ≠ o) : up m o k v a b = m a b := by simp [up, h]
theorem up_same {m : Mm} {o k v : Int} : up m o k v o k = v := by simp [up]
theorem up_nk {m : Mm} {o k v a b : Int} (h : b ≠ k) : up m o k v a b = m a b := by simp [up, h]
/-- a field is written -/
theorem cell_fld {ad : Int → Nat} {G : Nat → ClassId} {m : Mm} {o v : Int} {t k : Nat} (ht : t < 100) (hk : k < CN (t - 10)) {w : Value} (hw : fv ad (up m o k v) o (t - 10) k = w) :
    cellOf ad G (up m o k v) (o, t) = .inr (t - 10, ((List.range (CN (t - 10))).map (fv ad m o (t - 10))).set k w) := by
  simp only [cellOf, if_pos ht]
  congr 2
  apply List.ext_getElem?
  intro i
  by_cases e : i = k
  · subst e
    rw [List.getElem?_set_self (by simp; exact hk), List.getElem?_map, List.getElem?_range hk]
    simp [hw]
  · rw [List.getElem?_set_ne (fun z => e z.symm), List.getElem?_map, List.getElem?_map]
    cases hi : (List.range (CN (t - 10)))[i]? with
    | none => rfl
    | some j =>
      have hj : j = i := by
        have h2 := List.getElem?_eq_some_iff.mp hi
        obtain ⟨h3, h4⟩ := h2
        simp at h4
        omega
      subst hj
      have hne : ((j : Nat) : Int) ≠ (k : Nat) := by omega
      simp only [Option.map_some, fv, up_nk hne]
/-- an int array's cell is written -/
theorem cell_int {ad : Int → Nat} {G : Nat → ClassId} {m : Mm} {o v i : Int} {t : Nat} (ht : ¬ t < 100) (ha : aty t = 0 ∨ aty t = 2) (h0 : 0 ≤ i) :
    cellOf ad G (up m o i v) (o, t) = .inl (G (aty t), (t - 100) / 8, .inl (upd (fun j => Int32.ofInt (m o (j : Nat))) i.toNat (Int32.ofInt v))) := by
  have h1 : ¬ aty t = 1 := by omega
  have h3 : ¬ aty t = 3 := by omega
  have h4 : ¬ aty t = 4 := by omega
  simp only [cellOf, if_neg ht, if_neg h1, if_neg h3, if_neg h4]
  congr 4
  funext j
  by_cases e : j = i.toNat
  · subst e
    simp [upd, up, Int.toNat_of_nonneg h0]
  · have : ¬ ((j : Nat) : Int) = i := by omega
    simp [upd, up, e, this]
theorem cell_long {ad : Int → Nat} {G : Nat → ClassId} {m : Mm} {o v i : Int} {t : Nat} (ht : ¬ t < 100) (ha : aty t = 1) (h0 : 0 ≤ i) :
    cellOf ad G (up m o i v) (o, t) = .inl (G 1, (t - 100) / 8, .inr (.inl (vp_updL (fun j => Int64.ofInt (m o (j : Nat))) i.toNat (Int64.ofInt v)))) := by
  simp only [cellOf, if_neg ht, if_pos ha]
  congr 5
  funext j
  by_cases e : j = i.toNat
  · subst e
    simp [vp_updL, up, Int.toNat_of_nonneg h0]
  · have : ¬ ((j : Nat) : Int) = i := by omega
    simp [vp_updL, up, e, this]
theorem cell_ia {ad : Int → Nat} {G : Nat → ClassId} {m : Mm} {o : Int} {t : Nat} (ht : ¬ t < 100) (ha : aty t = 0 ∨ aty t = 2) : cellOf ad G m (o, t) = .inl (G (aty t), (t - 100) / 8, .inl (fun j => Int32.ofInt (m o (j : Nat)))) := by
  have h1 : ¬ aty t = 1 := by omega
  have h3 : ¬ aty t = 3 := by omega
  have h4 : ¬ aty t = 4 := by omega
  simp only [cellOf, if_neg ht, if_neg h1, if_neg h3, if_neg h4]
theorem cell_la {ad : Int → Nat} {G : Nat → ClassId} {m : Mm} {o : Int} {t : Nat} (ht : ¬ t < 100) (ha : aty t = 1) : cellOf ad G m (o, t) = .inl (G 1, (t - 100) / 8, .inr (.inl (fun j => Int64.ofInt (m o (j : Nat))))) := by
  simp only [cellOf, if_neg ht, if_pos ha]
theorem cell_ra {ad : Int → Nat} {G : Nat → ClassId} {m : Mm} {o : Int} {t : Nat} (ht : ¬ t < 100) (ha : aty t = 3 ∨ aty t = 4) : cellOf ad G m (o, t) = .inl (G (aty t), (t - 100) / 8, .inr (.inr (.inr (.inr (fun j => some (ad (PA (aty t) o (j : Nat)))))))) := by
  have h1 : ¬ aty t = 1 := by omega
  rcases ha with ha | ha
  · simp [cellOf, ht, ha]
  · have h3 : ¬ aty t = 3 := by omega
    simp [cellOf, ht, ha]
theorem cell_ob {ad : Int → Nat} {G : Nat → ClassId} {m : Mm} {o : Int} {t : Nat} (ht : t < 100) : cellOf ad G m (o, t) = .inr (t - 10, (List.range (CN (t - 10))).map (fv ad m o (t - 10))) := by
  simp only [cellOf, if_pos ht]
/-- what may lie in a cell -/
def sOk (t k : Nat) (v : Int) : Prop := if (t < 100 ∧ FT (t - 10) k = 1) ∨ aty t = 1 then in64 v else in32 v
def Mok (m : Mm) : Prop := ∀ q ∈ UNI, ∀ k : Nat, sOk q.2 k (m q.1 k)
/-- what a value may be -/
def Vok (v : Vv) : Prop := if v.1 = 0 then in32 v.2 else if v.1 = 1 then in64 v.2 else if v.1 = 9 ∨ v.1 = 50 ∨ v.1 = 51 ∨ v.1 = 52 ∨ v.1 = 53 then True else (v.2, v.1) ∈ UNI
def cv (ad : Int → Nat) (v : Vv) : Value := if v.1 = 0 then .int (Int32.ofInt v.2) else if v.1 = 1 then .long (Int64.ofInt v.2) else if v.1 = 50 then .ref (ad 500) else if v.1 = 51 then .ref (ad 501) else if v.1 = 52 then .ref (ad 502) else if v.1 = 53 then .ref (ad 503) else .ref (ad v.2)
theorem cv_i (ad : Int → Nat) (x : Int) : cv ad (0, x) = .int (Int32.ofInt x) := rfl
theorem cv_l (ad : Int → Nat) (x : Int) : cv ad (1, x) = .long (Int64.ofInt x) := rfl
theorem cv_r (ad : Int → Nat) (t : Nat) (x : Int) (h : 2 ≤ t) : ∃ a, cv ad (t, x) = .ref a := by
  have h0 : ¬ t = 0 := by omega
  have h1 : ¬ t = 1 := by omega
  simp only [cv, if_neg h0, if_neg h1]
  split <;> (try split) <;> (try split) <;> (try split) <;> exact ⟨_, rfl⟩
theorem cv_o (ad : Int → Nat) {t : Nat} (x : Int) (h : (x, t) ∈ UNI) : cv ad (t, x) = .ref (ad x) := by
  have hk := UNI_kind _ h
  simp only at hk
  have h0 : ¬ t = 0 := by omega
  have h1 : ¬ t = 1 := by omega
  have h2 : ¬ t = 50 := by omega
  have h3 : ¬ t = 51 := by omega
  have h4 : ¬ t = 52 := by omega
  have h5 : ¬ t = 53 := by omega
  simp only [cv, if_neg h0, if_neg h1, if_neg h2, if_neg h3, if_neg h4, if_neg h5]
theorem cv_cat (ad : Int → Nat) (v : Vv) : (cv ad v).category = catV v := by
  obtain ⟨t, x⟩ := v
  unfold catV cv
  simp only
  by_cases h0 : t = 0
  · subst h0; rfl
  · by_cases h1 : t = 1
    · subst h1; rfl
    · simp only [if_neg h0, if_neg h1]
      split <;> (try split) <;> (try split) <;> (try split) <;> rfl
theorem Vok_i {x : Int} : Vok (0, x) ↔ in32 x := Iff.rfl
theorem Vok_l {x : Int} : Vok (1, x) ↔ in64 x := Iff.rfl
theorem Vok_o {t : Nat} {x : Int} (h : (x, t) ∈ UNI) : Vok (t, x) := by
  have hk := UNI_kind _ h
  simp only at hk
  have h0 : ¬ t = 0 := by omega
  have h1 : ¬ t = 1 := by omega
  have h2 : ¬ (t = 9 ∨ t = 50 ∨ t = 51 ∨ t = 52 ∨ t = 53) := by omega
  simp only [Vok, if_neg h0, if_neg h1, if_neg h2]
  exact h
theorem Vok_ob {t : Nat} {x : Int} (h : Vok (t, x)) (ht : (10 ≤ t ∧ t < 19) ∨ 100 ≤ t) : (x, t) ∈ UNI := by
  have h0 : ¬ t = 0 := by omega
  have h1 : ¬ t = 1 := by omega
  have h2 : ¬ (t = 9 ∨ t = 50 ∨ t = 51 ∨ t = 52 ∨ t = 53) := by omega
  simpa only [Vok, if_neg h0, if_neg h1, if_neg h2] using h
theorem Mok_up {m : Mm} {o v : Int} {t k : Nat} (h : Mok m) (ho : (o, t) ∈ UNI) (hv : sOk t k v) : Mok (up m o k v) := by
  intro q hq j
  by_cases e : q.1 = o ∧ j = k
  · obtain ⟨e1, e2⟩ := e
    obtain ⟨a, b⟩ := q
    simp only at e1
    subst e1; subst e2
    have : b = t := UNI_eq hq ho
    subst this
    rw [up_same]
    exact hv
  · have : up m o k v q.1 j = m q.1 j := by
      unfold up
      rw [if_neg]
      intro z
      exact e ⟨z.1, by omega⟩
    rw [this]
    exact h q hq j
end
section
/-! ONE ROW AN INSTRUCTION: from the machine's row to the number machine's step -/
def WT : List Cond := lw_tbl.filter goodWord
theorem WT_in {w : Cond} (h : w ∈ lw_tbl) (g : goodWord w = true) : w ∈ WT := List.mem_filter.mpr ⟨h, g⟩
def LENS : List Nat := [125, 11]
def BYTS : List (List Int32) := [WORDSL.map Int32.ofInt, SIGNSL.map Int32.ofInt]
def TXW : String := "frosts goes cow gate plant cut press go hour cell around all number who way turn by far of hedge if then else end or and not "
def TXS : String := "<>=#+-*/();"
/-- what is there from the start, and never written: the texts, the static row, the script, the words of the nest -/
def Sc (NW : List Cond) (ad : Int → Nat) (A : Nat → Prop) (s : State) (H : Heap) (m : Mm) : Prop :=
  (∃ (Ls : Nat) (xs : Nat → Int32), va_X (ad 500) Ls xs s H ∧ ad 500 < H.size ∧ ¬ A (ad 500) ∧ m 500 (-1) = (Ls : Int) ∧ Ls < 2 ^ 31 ∧ ∀ j : Nat, j < Ls → m 500 (j : Int) = (xs j).toInt) ∧
  (∃ xs : Nat → Int32, va_X (ad 501) 4 xs s H ∧ ad 501 < H.size ∧ ¬ A (ad 501) ∧ ∀ j : Nat, j < 4 → m 501 (j : Int) = (xs j).toInt) ∧
  va_Z RX8 "TRIED" "[I" (.ref (ad 501)) A s H ∧
  (∃ adV : Nat → Nat, vk_S 2 LENS BYTS (fun i => ad (502 + (i : Int))) adV A s H) ∧ vk_R RX6 166 TXW (ad 502) s ∧ vk_R RX6 182 TXS (ad 503) s ∧
  va_Z "java/lang/String" "COMPACT_STRINGS" "Z" (.int 1) A s H ∧ va_Zq "jdk/internal/util/Preconditions" "SIOOBE_FORMATTER" "Ljava/util/function/BiFunction;" A s H ∧
  ∀ w ∈ NW, va_Nw w s
def LH (ad : Int → Nat) (ls : Array Slot) (nL : Nat) (L : List Vv) : Prop := L.length = nL ∧ ls.size = nL ∧ lv_wf ls ∧ ∀ (i : Nat) (v : Vv), L[i]? = some v → v.1 ≠ 9 → ls[i]? = some (.val (cv ad v))
/-- the listed locals, for the kit's rows -/
def lvl (ad : Int → Nat) (L : List Vv) : List (Nat × Value) := (List.range L.length).filterMap (fun i => match L[i]? with
  | some v => if v.1 = 9 then none else some (i, cv ad v)
  | none => none)
theorem lvl_in {ad : Int → Nat} {L : List Vv} {i : Nat} {v : Vv} (h : L[i]? = some v) (h9 : v.1 ≠ 9) : (i, cv ad v) ∈ lvl ad L := by
  refine List.mem_filterMap.mpr ⟨i, List.mem_range.mpr (List.getElem?_eq_some_iff.mp h).1, ?_⟩
  simp [h, h9]
theorem lvl_of {ad : Int → Nat} {L : List Vv} {q : Nat × Value} (h : q ∈ lvl ad L) : ∃ v : Vv, L[q.1]? = some v ∧ v.1 ≠ 9 ∧ q.2 = cv ad v := by
  obtain ⟨i, -, hi⟩ := List.mem_filterMap.mp h
  cases hv : L[i]? with
  | none => simp [hv] at hi
  | some v =>
    by_cases h9 : v.1 = 9
    · simp [hv, h9] at hi
    · simp [hv, h9] at hi
      subst hi
      exact ⟨v, hv, h9, rfl⟩
theorem LH_has {ad : Int → Nat} {ls : Array Slot} {nL : Nat} {L : List Vv} (h : LH ad ls nL L) : lv_has ls nL (lvl ad L) := ⟨h.2.1, h.2.2.1, fun q hq => by
  obtain ⟨v, h1, h2, h3⟩ := lvl_of hq
  rw [h3]
  exact h.2.2.2 _ _ h1 h2⟩
theorem cut1_get {L : List Vv} {i j : Nat} {w : Vv} (h : (cut1 L i)[j]? = some w) (h9 : w.1 ≠ 9) : L[j]? = some w ∧ ¬ (j + 1 = i ∧ w.1 = 1) := by
  cases i with
  | zero => exact ⟨h, fun z => by omega⟩
  | succ k =>
    cases hk : L[k]? with
    | none =>
      have e0 : cut1 L (k + 1) = L := by simp [cut1, hk]
      rw [e0] at h
      refine ⟨h, fun z => ?_⟩
      obtain rfl : j = k := by omega
      rw [hk] at h
      cases h
    | some v =>
      obtain ⟨t, x⟩ := v
      by_cases h1 : t = 1
      · subst h1
        have e0 : cut1 L (k + 1) = L.set k (9, 0) := by simp [cut1, hk]
        rw [e0] at h
        by_cases hj : j = k
        · subst hj
          have hl : j < L.length := (List.getElem?_eq_some_iff.mp hk).1
          rw [List.getElem?_set_self hl] at h
          cases h
          exact absurd rfl h9
        · rw [List.getElem?_set_ne (fun z => hj z.symm)] at h
          exact ⟨h, fun z => hj (by omega)⟩
      · have e0 : cut1 L (k + 1) = L := by
          simp only [cut1, hk]
          split
          · rename_i heq
            cases heq
            exact absurd rfl h1
          · rfl
        rw [e0] at h
        refine ⟨h, fun z => ?_⟩
        obtain rfl : j = k := by omega
        rw [hk] at h
        cases h
        exact h1 z.2
theorem cut1_len (L : List Vv) (i : Nat) : (cut1 L i).length = L.length := by
  unfold cut1
  split
  · rfl
  · split <;> simp
theorem LH_sto1 {ad : Int → Nat} {ls : Array Slot} {nL i : Nat} {L : List Vv} {v : Vv} (hL : L.length = nL) (h : lv_has ls nL ((i, cv ad v) :: (lvl ad L).filter (fun q => !(q.1 == i) && !(q.1 + 1 == i && q.2.category == 2)))) : LH ad ls nL (sto1 L i v) := by
  refine ⟨by unfold sto1; rw [List.length_set, cut1_len]; exact hL, h.1, h.2.1, fun j w hj h9 => ?_⟩
  unfold sto1 at hj
  by_cases e : j = i
  · subst e
    by_cases hl : j < (cut1 L j).length
    · rw [List.getElem?_set_self hl] at hj
      cases hj
      exact h.2.2 _ List.mem_cons_self
    · rw [List.getElem?_eq_none (by rw [List.length_set]; omega)] at hj
      cases hj
  · rw [List.getElem?_set_ne (fun z => e z.symm)] at hj
    obtain ⟨h1, h2⟩ := cut1_get hj h9
    refine h.2.2 (j, cv ad w) (List.mem_cons_of_mem _ (List.mem_filter.mpr ⟨lvl_in h1 h9, ?_⟩))
    have e2 : (cv ad w).category = catV w := cv_cat ad w
    simp only [Bool.and_eq_true, Bool.not_eq_true', beq_eq_false_iff_ne, ne_eq, Bool.and_eq_false_iff, e2]
    refine ⟨e, ?_⟩
    by_cases hz : j + 1 = i
    · right
      unfold catV
      rw [if_neg (fun q => h2 ⟨hz, q⟩)]
      decide
    · exact Or.inl hz
theorem LH_sto2 {ad : Int → Nat} {ls : Array Slot} {nL i : Nat} {L : List Vv} {v : Vv} (hL : L.length = nL) (h : lv_has ls nL ((i, cv ad v) :: (lvl ad L).filter (fun q => !(q.1 == i) && (!(q.1 == i + 1) && !(q.1 + 1 == i && q.2.category == 2))))) : LH ad ls nL (sto2 L i v) := by
  refine ⟨by unfold sto2; rw [List.length_set, List.length_set, cut1_len]; exact hL, h.1, h.2.1, fun j w hj h9 => ?_⟩
  unfold sto2 at hj
  by_cases e1 : j = i + 1
  · subst e1
    by_cases hl : i + 1 < ((cut1 L i).set i v).length
    · rw [List.getElem?_set_self hl] at hj
      cases hj
      exact absurd rfl h9
    · rw [List.getElem?_eq_none (by rw [List.length_set]; omega)] at hj
      cases hj
  · rw [List.getElem?_set_ne (fun z => e1 z.symm)] at hj
    by_cases e : j = i
    · subst e
      by_cases hl : j < (cut1 L j).length
      · rw [List.getElem?_set_self hl] at hj
        cases hj
        exact h.2.2 _ List.mem_cons_self
      · rw [List.getElem?_eq_none (by rw [List.length_set]; omega)] at hj
        cases hj
    · rw [List.getElem?_set_ne (fun z => e z.symm)] at hj
      obtain ⟨h1, h2⟩ := cut1_get hj h9
      refine h.2.2 (j, cv ad w) (List.mem_cons_of_mem _ (List.mem_filter.mpr ⟨lvl_in h1 h9, ?_⟩))
      have e2 : (cv ad w).category = catV w := cv_cat ad w
      simp only [Bool.and_eq_true, Bool.not_eq_true', beq_eq_false_iff_ne, ne_eq, Bool.and_eq_false_iff, e2]
      refine ⟨e, e1, ?_⟩
      by_cases hz : j + 1 = i
      · right
        unfold catV
        rw [if_neg (fun q => h2 ⟨hz, q⟩)]
        decide
      · exact Or.inl hz
/-- from every heap and every locals that hold the numbers, the machine comes to Q -/
def Go (p : Program) (l : Launch) (e : Env) (R : Room) (s : State) (mid : MethodId) (args : Array Value) (below : List Frame) (meth : Method) (c : Code) (Q : State → Prop) (ad : Int → Nat) (G : Nat → ClassId) (D : va_G) (A : Nat → Prop) (nL cells slots : Nat) (bp : Nat) (L st : List Vv) (m : Mm) : Prop :=
  ∀ (H : Heap) (locs : List Loc) (ls : Array Slot), va_P D vwCl (WS ad G m) H → va_D A (WS ad G m) → va_S A s.heap H locs → LH ad ls nL L → W p l e R s mid args below meth c H locs cells slots Q (F0 mid bp ls (st.map (cv ad)))
/-- what a method's frame stands on -/
def CX (NW : List Cond) (p : Program) (R : Room) (s : State) (mid : MethodId) (args : Array Value) (c : Code) (own : String) (cc : ByteArray) (ad : Int → Nat) (G : Nat → ClassId) (D : va_G) (A : Nat → Prop) (nL : Nat) : Prop :=
  p.tables.exec = Jvm.exec ∧ c.code = cc ∧ c.maxLocals = nL ∧ s.vm.findClass own = some mid.cls ∧ (∀ w ∈ WT, w.before args s = true) ∧ va_K D vwCl (TYS G) s ∧ (∀ q : Nat, s.heap.size ≤ q → A q) ∧ 1 ≤ R.frames ∧ 64 ≤ R.locals ∧ (∀ w ∈ NW, va_Nw w s)
section STEPS
variable {NW : List Cond} {p : Program} {l : Launch} {e : Env} {R : Room} {s : State} {mid : MethodId} {args : Array Value} {below : List Frame} {meth : Method} {c : Code} {Q : State → Prop} {ad : Int → Nat} {G : Nat → ClassId} {D : va_G} {A : Nat → Prop} {nL cells slots : Nat} {own : String} {cc : ByteArray} {bp : Nat} {L r : List Vv} {m : Mm}

theorem go_iadd (K : CX NW p R s mid args c own cc ad G D A nL) {a b : Int} (hd : decode cc bp = .ok (.iadd, 1)) (k : Go p l e R s mid args below meth c Q ad G D A nL cells slots (bp + 1) L ((0, w32 (a + b)) :: r) m) : Go p l e R s mid args below meth c Q ad G D A nL cells slots bp L ((0, b) :: (0, a) :: r) m := by
  intro H locs ls hP hD hS hL
  have h := k H locs ls hP hD hS hL
  show W p l e R s mid args below meth c H locs cells slots Q (F0 mid bp ls (.int (Int32.ofInt b) :: .int (Int32.ofInt a) :: r.map (cv ad)))
  have e9 : cv ad (0, w32 (a + b)) = .int (Int32.ofInt a + Int32.ofInt b) := by rw [cv_i]; rw [o32_w, Int32.ofInt_add]
  rw [List.map_cons, e9] at h
  exact lv_iadd K.1 K.2.1 hd h
theorem go_isub (K : CX NW p R s mid args c own cc ad G D A nL) {a b : Int} (hd : decode cc bp = .ok (.isub, 1)) (k : Go p l e R s mid args below meth c Q ad G D A nL cells slots (bp + 1) L ((0, w32 (a - b)) :: r) m) : Go p l e R s mid args below meth c Q ad G D A nL cells slots bp L ((0, b) :: (0, a) :: r) m := by
  intro H locs ls hP hD hS hL
  have h := k H locs ls hP hD hS hL
  show W p l e R s mid args below meth c H locs cells slots Q (F0 mid bp ls (.int (Int32.ofInt b) :: .int (Int32.ofInt a) :: r.map (cv ad)))
  have e9 : cv ad (0, w32 (a - b)) = .int (Int32.ofInt a - Int32.ofInt b) := by rw [cv_i]; rw [o32_w, Int32.ofInt_sub]
  rw [List.map_cons, e9] at h
  exact lv_isub K.1 K.2.1 hd h
theorem go_imul (K : CX NW p R s mid args c own cc ad G D A nL) {a b : Int} (hd : decode cc bp = .ok (.imul, 1)) (k : Go p l e R s mid args below meth c Q ad G D A nL cells slots (bp + 1) L ((0, w32 (a * b)) :: r) m) : Go p l e R s mid args below meth c Q ad G D A nL cells slots bp L ((0, b) :: (0, a) :: r) m := by
  intro H locs ls hP hD hS hL
  have h := k H locs ls hP hD hS hL
  show W p l e R s mid args below meth c H locs cells slots Q (F0 mid bp ls (.int (Int32.ofInt b) :: .int (Int32.ofInt a) :: r.map (cv ad)))
  have e9 : cv ad (0, w32 (a * b)) = .int (Int32.ofInt a * Int32.ofInt b) := by rw [cv_i]; rw [o32_w, Int32.ofInt_mul]
  rw [List.map_cons, e9] at h
  exact lv_imul K.1 K.2.1 hd h
theorem go_iand (K : CX NW p R s mid args c own cc ad G D A nL) {a b : Int} (hd : decode cc bp = .ok (.iand, 1)) (k : Go p l e R s mid args below meth c Q ad G D A nL cells slots (bp + 1) L ((0, ian a b) :: r) m) : Go p l e R s mid args below meth c Q ad G D A nL cells slots bp L ((0, b) :: (0, a) :: r) m := by
  intro H locs ls hP hD hS hL
  have h := k H locs ls hP hD hS hL
  show W p l e R s mid args below meth c H locs cells slots Q (F0 mid bp ls (.int (Int32.ofInt b) :: .int (Int32.ofInt a) :: r.map (cv ad)))
  have e9 : cv ad (0, ian a b) = .int (Int32.ofInt a &&& Int32.ofInt b) := by rw [cv_i]; rw [ian, Int32.ofInt_toInt]
  rw [List.map_cons, e9] at h
  exact lv_iand K.1 K.2.1 hd h
theorem go_ior (K : CX NW p R s mid args c own cc ad G D A nL) {a b : Int} (hd : decode cc bp = .ok (.ior, 1)) (k : Go p l e R s mid args below meth c Q ad G D A nL cells slots (bp + 1) L ((0, iro a b) :: r) m) : Go p l e R s mid args below meth c Q ad G D A nL cells slots bp L ((0, b) :: (0, a) :: r) m := by
  intro H locs ls hP hD hS hL
  have h := k H locs ls hP hD hS hL
  show W p l e R s mid args below meth c H locs cells slots Q (F0 mid bp ls (.int (Int32.ofInt b) :: .int (Int32.ofInt a) :: r.map (cv ad)))
  have e9 : cv ad (0, iro a b) = .int (Int32.ofInt a ||| Int32.ofInt b) := by rw [cv_i]; rw [iro, Int32.ofInt_toInt]
  rw [List.map_cons, e9] at h
  exact lv_ior K.1 K.2.1 hd h
theorem go_ixor (K : CX NW p R s mid args c own cc ad G D A nL) {a b : Int} (hd : decode cc bp = .ok (.ixor, 1)) (k : Go p l e R s mid args below meth c Q ad G D A nL cells slots (bp + 1) L ((0, ixo a b) :: r) m) : Go p l e R s mid args below meth c Q ad G D A nL cells slots bp L ((0, b) :: (0, a) :: r) m := by
  intro H locs ls hP hD hS hL
  have h := k H locs ls hP hD hS hL
  show W p l e R s mid args below meth c H locs cells slots Q (F0 mid bp ls (.int (Int32.ofInt b) :: .int (Int32.ofInt a) :: r.map (cv ad)))
  have e9 : cv ad (0, ixo a b) = .int (Int32.ofInt a ^^^ Int32.ofInt b) := by rw [cv_i]; rw [ixo, Int32.ofInt_toInt]
  rw [List.map_cons, e9] at h
  exact lv_ixor K.1 K.2.1 hd h
theorem go_ishl (K : CX NW p R s mid args c own cc ad G D A nL) {a b : Int} (hd : decode cc bp = .ok (.ishl, 1)) (k : Go p l e R s mid args below meth c Q ad G D A nL cells slots (bp + 1) L ((0, isl a b) :: r) m) : Go p l e R s mid args below meth c Q ad G D A nL cells slots bp L ((0, b) :: (0, a) :: r) m := by
  intro H locs ls hP hD hS hL
  have h := k H locs ls hP hD hS hL
  show W p l e R s mid args below meth c H locs cells slots Q (F0 mid bp ls (.int (Int32.ofInt b) :: .int (Int32.ofInt a) :: r.map (cv ad)))
  have e9 : cv ad (0, isl a b) = .int (Int32.ofInt a <<< (Int32.ofInt b &&& 31)) := by rw [cv_i]; rw [isl, Int32.ofInt_toInt]
  rw [List.map_cons, e9] at h
  exact lv_ishl K.1 K.2.1 hd h
theorem go_ishr (K : CX NW p R s mid args c own cc ad G D A nL) {a b : Int} (hd : decode cc bp = .ok (.ishr, 1)) (k : Go p l e R s mid args below meth c Q ad G D A nL cells slots (bp + 1) L ((0, isr a b) :: r) m) : Go p l e R s mid args below meth c Q ad G D A nL cells slots bp L ((0, b) :: (0, a) :: r) m := by
  intro H locs ls hP hD hS hL
  have h := k H locs ls hP hD hS hL
  show W p l e R s mid args below meth c H locs cells slots Q (F0 mid bp ls (.int (Int32.ofInt b) :: .int (Int32.ofInt a) :: r.map (cv ad)))
  have e9 : cv ad (0, isr a b) = .int (Int32.ofInt a >>> (Int32.ofInt b &&& 31)) := by rw [cv_i]; rw [isr, Int32.ofInt_toInt]
  rw [List.map_cons, e9] at h
  exact lv_ishr K.1 K.2.1 hd h
theorem go_iushr (K : CX NW p R s mid args c own cc ad G D A nL) {a b : Int} (hd : decode cc bp = .ok (.iushr, 1)) (k : Go p l e R s mid args below meth c Q ad G D A nL cells slots (bp + 1) L ((0, ius a b) :: r) m) : Go p l e R s mid args below meth c Q ad G D A nL cells slots bp L ((0, b) :: (0, a) :: r) m := by
  intro H locs ls hP hD hS hL
  have h := k H locs ls hP hD hS hL
  show W p l e R s mid args below meth c H locs cells slots Q (F0 mid bp ls (.int (Int32.ofInt b) :: .int (Int32.ofInt a) :: r.map (cv ad)))
  have e9 : cv ad (0, ius a b) = .int (Int32.ofInt (ius a b)) := by rw [cv_i]
  rw [List.map_cons, e9] at h
  exact lv_iushr K.1 K.2.1 hd (by rw [ius, Int32.ofInt_toInt]) h
theorem go_idiv (K : CX NW p R s mid args c own cc ad G D A nL) {a b : Int} (hb : in32 b) (hne : b ≠ 0) (hd : decode cc bp = .ok (.idiv, 1)) (k : Go p l e R s mid args below meth c Q ad G D A nL cells slots (bp + 1) L ((0, idv a b) :: r) m) : Go p l e R s mid args below meth c Q ad G D A nL cells slots bp L ((0, b) :: (0, a) :: r) m := by
  intro H locs ls hP hD hS hL
  have h := k H locs ls hP hD hS hL
  show W p l e R s mid args below meth c H locs cells slots Q (F0 mid bp ls (.int (Int32.ofInt b) :: .int (Int32.ofInt a) :: r.map (cv ad)))
  have e9 : cv ad (0, idv a b) = .int (Int32.ofInt a / Int32.ofInt b) := by rw [cv_i]; rw [idv, Int32.ofInt_toInt]
  rw [List.map_cons, e9] at h
  exact lv_idiv K.1 K.2.1 hd (fun z => hne ((o32_eq hb in32_lit0).mp (by rw [z]; rfl))) h
theorem go_irem (K : CX NW p R s mid args c own cc ad G D A nL) {a b : Int} (hb : in32 b) (hne : b ≠ 0) (hd : decode cc bp = .ok (.irem, 1)) (k : Go p l e R s mid args below meth c Q ad G D A nL cells slots (bp + 1) L ((0, irm a b) :: r) m) : Go p l e R s mid args below meth c Q ad G D A nL cells slots bp L ((0, b) :: (0, a) :: r) m := by
  intro H locs ls hP hD hS hL
  have h := k H locs ls hP hD hS hL
  show W p l e R s mid args below meth c H locs cells slots Q (F0 mid bp ls (.int (Int32.ofInt b) :: .int (Int32.ofInt a) :: r.map (cv ad)))
  have e9 : cv ad (0, irm a b) = .int (Int32.ofInt a - Int32.ofInt a / Int32.ofInt b * Int32.ofInt b) := by rw [cv_i]; rw [irm, Int32.ofInt_toInt]
  rw [List.map_cons, e9] at h
  exact lv_irem K.1 K.2.1 hd (fun z => hne ((o32_eq hb in32_lit0).mp (by rw [z]; rfl))) h
theorem go_ladd (K : CX NW p R s mid args c own cc ad G D A nL) {a b : Int} (hd : decode cc bp = .ok (.ladd, 1)) (k : Go p l e R s mid args below meth c Q ad G D A nL cells slots (bp + 1) L ((1, w64 (a + b)) :: r) m) : Go p l e R s mid args below meth c Q ad G D A nL cells slots bp L ((1, b) :: (1, a) :: r) m := by
  intro H locs ls hP hD hS hL
  have h := k H locs ls hP hD hS hL
  show W p l e R s mid args below meth c H locs cells slots Q (F0 mid bp ls (.long (Int64.ofInt b) :: .long (Int64.ofInt a) :: r.map (cv ad)))
  have e9 : cv ad (1, w64 (a + b)) = .long (Int64.ofInt a + Int64.ofInt b) := by rw [cv_l]; rw [o64_w, Int64.ofInt_add]
  rw [List.map_cons, e9] at h
  exact lv_ladd K.1 K.2.1 hd h
theorem go_lsub (K : CX NW p R s mid args c own cc ad G D A nL) {a b : Int} (hd : decode cc bp = .ok (.lsub, 1)) (k : Go p l e R s mid args below meth c Q ad G D A nL cells slots (bp + 1) L ((1, w64 (a - b)) :: r) m) : Go p l e R s mid args below meth c Q ad G D A nL cells slots bp L ((1, b) :: (1, a) :: r) m := by
  intro H locs ls hP hD hS hL
  have h := k H locs ls hP hD hS hL
  show W p l e R s mid args below meth c H locs cells slots Q (F0 mid bp ls (.long (Int64.ofInt b) :: .long (Int64.ofInt a) :: r.map (cv ad)))
  have e9 : cv ad (1, w64 (a - b)) = .long (Int64.ofInt a - Int64.ofInt b) := by rw [cv_l]; rw [o64_w, Int64.ofInt_sub]
  rw [List.map_cons, e9] at h
  exact lv_lsub K.1 K.2.1 hd h
theorem go_lmul (K : CX NW p R s mid args c own cc ad G D A nL) {a b : Int} (hd : decode cc bp = .ok (.lmul, 1)) (k : Go p l e R s mid args below meth c Q ad G D A nL cells slots (bp + 1) L ((1, w64 (a * b)) :: r) m) : Go p l e R s mid args below meth c Q ad G D A nL cells slots bp L ((1, b) :: (1, a) :: r) m := by
  intro H locs ls hP hD hS hL
  have h := k H locs ls hP hD hS hL
  show W p l e R s mid args below meth c H locs cells slots Q (F0 mid bp ls (.long (Int64.ofInt b) :: .long (Int64.ofInt a) :: r.map (cv ad)))
  have e9 : cv ad (1, w64 (a * b)) = .long (Int64.ofInt a * Int64.ofInt b) := by rw [cv_l]; rw [o64_w, Int64.ofInt_mul]
  rw [List.map_cons, e9] at h
  exact lv_lmul K.1 K.2.1 hd h
theorem go_land (K : CX NW p R s mid args c own cc ad G D A nL) {a b : Int} (hd : decode cc bp = .ok (.land, 1)) (k : Go p l e R s mid args below meth c Q ad G D A nL cells slots (bp + 1) L ((1, lan a b) :: r) m) : Go p l e R s mid args below meth c Q ad G D A nL cells slots bp L ((1, b) :: (1, a) :: r) m := by
  intro H locs ls hP hD hS hL
  have h := k H locs ls hP hD hS hL
  show W p l e R s mid args below meth c H locs cells slots Q (F0 mid bp ls (.long (Int64.ofInt b) :: .long (Int64.ofInt a) :: r.map (cv ad)))
  have e9 : cv ad (1, lan a b) = .long (Int64.ofInt a &&& Int64.ofInt b) := by rw [cv_l]; rw [lan, Int64.ofInt_toInt]
  rw [List.map_cons, e9] at h
  exact lv_land K.1 K.2.1 hd h
theorem go_lor (K : CX NW p R s mid args c own cc ad G D A nL) {a b : Int} (hd : decode cc bp = .ok (.lor, 1)) (k : Go p l e R s mid args below meth c Q ad G D A nL cells slots (bp + 1) L ((1, lro a b) :: r) m) : Go p l e R s mid args below meth c Q ad G D A nL cells slots bp L ((1, b) :: (1, a) :: r) m := by
  intro H locs ls hP hD hS hL
  have h := k H locs ls hP hD hS hL
  show W p l e R s mid args below meth c H locs cells slots Q (F0 mid bp ls (.long (Int64.ofInt b) :: .long (Int64.ofInt a) :: r.map (cv ad)))
  have e9 : cv ad (1, lro a b) = .long (Int64.ofInt a ||| Int64.ofInt b) := by rw [cv_l]; rw [lro, Int64.ofInt_toInt]
  rw [List.map_cons, e9] at h
  exact lv_lor K.1 K.2.1 hd h
theorem go_lxor (K : CX NW p R s mid args c own cc ad G D A nL) {a b : Int} (hd : decode cc bp = .ok (.lxor, 1)) (k : Go p l e R s mid args below meth c Q ad G D A nL cells slots (bp + 1) L ((1, lxo a b) :: r) m) : Go p l e R s mid args below meth c Q ad G D A nL cells slots bp L ((1, b) :: (1, a) :: r) m := by
  intro H locs ls hP hD hS hL
  have h := k H locs ls hP hD hS hL
  show W p l e R s mid args below meth c H locs cells slots Q (F0 mid bp ls (.long (Int64.ofInt b) :: .long (Int64.ofInt a) :: r.map (cv ad)))
  have e9 : cv ad (1, lxo a b) = .long (Int64.ofInt a ^^^ Int64.ofInt b) := by rw [cv_l]; rw [lxo, Int64.ofInt_toInt]
  rw [List.map_cons, e9] at h
  exact lv_lxor K.1 K.2.1 hd h
theorem go_lshl (K : CX NW p R s mid args c own cc ad G D A nL) {a b : Int} (hd : decode cc bp = .ok (.lshl, 1)) (k : Go p l e R s mid args below meth c Q ad G D A nL cells slots (bp + 1) L ((1, lsl a b) :: r) m) : Go p l e R s mid args below meth c Q ad G D A nL cells slots bp L ((0, b) :: (1, a) :: r) m := by
  intro H locs ls hP hD hS hL
  have h := k H locs ls hP hD hS hL
  show W p l e R s mid args below meth c H locs cells slots Q (F0 mid bp ls (.int (Int32.ofInt b) :: .long (Int64.ofInt a) :: r.map (cv ad)))
  have e9 : cv ad (1, lsl a b) = .long (Int64.ofInt (lsl a b)) := by rw [cv_l]
  rw [List.map_cons, e9] at h
  exact lv_lshl K.1 K.2.1 hd (by rw [lsl, Int64.ofInt_toInt]) h
theorem go_lshr (K : CX NW p R s mid args c own cc ad G D A nL) {a b : Int} (hd : decode cc bp = .ok (.lshr, 1)) (k : Go p l e R s mid args below meth c Q ad G D A nL cells slots (bp + 1) L ((1, lsr a b) :: r) m) : Go p l e R s mid args below meth c Q ad G D A nL cells slots bp L ((0, b) :: (1, a) :: r) m := by
  intro H locs ls hP hD hS hL
  have h := k H locs ls hP hD hS hL
  show W p l e R s mid args below meth c H locs cells slots Q (F0 mid bp ls (.int (Int32.ofInt b) :: .long (Int64.ofInt a) :: r.map (cv ad)))
  have e9 : cv ad (1, lsr a b) = .long (Int64.ofInt (lsr a b)) := by rw [cv_l]
  rw [List.map_cons, e9] at h
  exact lv_lshr K.1 K.2.1 hd (by rw [lsr, Int64.ofInt_toInt]) h
theorem go_lushr (K : CX NW p R s mid args c own cc ad G D A nL) {a b : Int} (hd : decode cc bp = .ok (.lushr, 1)) (k : Go p l e R s mid args below meth c Q ad G D A nL cells slots (bp + 1) L ((1, lus a b) :: r) m) : Go p l e R s mid args below meth c Q ad G D A nL cells slots bp L ((0, b) :: (1, a) :: r) m := by
  intro H locs ls hP hD hS hL
  have h := k H locs ls hP hD hS hL
  show W p l e R s mid args below meth c H locs cells slots Q (F0 mid bp ls (.int (Int32.ofInt b) :: .long (Int64.ofInt a) :: r.map (cv ad)))
  have e9 : cv ad (1, lus a b) = .long (Int64.ofInt (lus a b)) := by rw [cv_l]
  rw [List.map_cons, e9] at h
  exact lv_lushr K.1 K.2.1 hd (by rw [lus, Int64.ofInt_toInt]) h
theorem go_ldiv (K : CX NW p R s mid args c own cc ad G D A nL) {a b : Int} (hb : in64 b) (hne : b ≠ 0) (hd : decode cc bp = .ok (.ldiv, 1)) (k : Go p l e R s mid args below meth c Q ad G D A nL cells slots (bp + 1) L ((1, ldv a b) :: r) m) : Go p l e R s mid args below meth c Q ad G D A nL cells slots bp L ((1, b) :: (1, a) :: r) m := by
  intro H locs ls hP hD hS hL
  have h := k H locs ls hP hD hS hL
  show W p l e R s mid args below meth c H locs cells slots Q (F0 mid bp ls (.long (Int64.ofInt b) :: .long (Int64.ofInt a) :: r.map (cv ad)))
  have e9 : cv ad (1, ldv a b) = .long (Int64.ofInt a / Int64.ofInt b) := by rw [cv_l]; rw [ldv, Int64.ofInt_toInt]
  rw [List.map_cons, e9] at h
  exact lv_ldiv K.1 K.2.1 hd (fun z => hne (by have := i64_of hb; rw [z] at this; exact this.symm.trans rfl)) h
theorem go_lrem (K : CX NW p R s mid args c own cc ad G D A nL) {a b : Int} (hb : in64 b) (hne : b ≠ 0) (hd : decode cc bp = .ok (.lrem, 1)) (k : Go p l e R s mid args below meth c Q ad G D A nL cells slots (bp + 1) L ((1, lrm a b) :: r) m) : Go p l e R s mid args below meth c Q ad G D A nL cells slots bp L ((1, b) :: (1, a) :: r) m := by
  intro H locs ls hP hD hS hL
  have h := k H locs ls hP hD hS hL
  show W p l e R s mid args below meth c H locs cells slots Q (F0 mid bp ls (.long (Int64.ofInt b) :: .long (Int64.ofInt a) :: r.map (cv ad)))
  have e9 : cv ad (1, lrm a b) = .long (Int64.ofInt a - Int64.ofInt a / Int64.ofInt b * Int64.ofInt b) := by rw [cv_l]; rw [lrm, Int64.ofInt_toInt]
  rw [List.map_cons, e9] at h
  exact lv_lrem K.1 K.2.1 hd (fun z => hne (by have := i64_of hb; rw [z] at this; exact this.symm.trans rfl)) h
theorem go_ineg (K : CX NW p R s mid args c own cc ad G D A nL) {a : Int} (hd : decode cc bp = .ok (.ineg, 1)) (k : Go p l e R s mid args below meth c Q ad G D A nL cells slots (bp + 1) L ((0, w32 (-a)) :: r) m) : Go p l e R s mid args below meth c Q ad G D A nL cells slots bp L ((0, a) :: r) m := by
  intro H locs ls hP hD hS hL
  have h := k H locs ls hP hD hS hL
  show W p l e R s mid args below meth c H locs cells slots Q (F0 mid bp ls (.int (Int32.ofInt a) :: r.map (cv ad)))
  have e9 : cv ad (0, w32 (-a)) = .int (- Int32.ofInt a) := by rw [cv_i]; rw [o32_w, Int32.ofInt_neg]
  rw [List.map_cons, e9] at h
  exact lv_ineg K.1 K.2.1 hd h
theorem go_lneg (K : CX NW p R s mid args c own cc ad G D A nL) {a : Int} (hd : decode cc bp = .ok (.lneg, 1)) (k : Go p l e R s mid args below meth c Q ad G D A nL cells slots (bp + 1) L ((1, w64 (-a)) :: r) m) : Go p l e R s mid args below meth c Q ad G D A nL cells slots bp L ((1, a) :: r) m := by
  intro H locs ls hP hD hS hL
  have h := k H locs ls hP hD hS hL
  show W p l e R s mid args below meth c H locs cells slots Q (F0 mid bp ls (.long (Int64.ofInt a) :: r.map (cv ad)))
  have e9 : cv ad (1, w64 (-a)) = .long (- Int64.ofInt a) := by rw [cv_l]; rw [o64_w, Int64.ofInt_neg]
  rw [List.map_cons, e9] at h
  exact lv_lneg K.1 K.2.1 hd h
theorem go_i2l (K : CX NW p R s mid args c own cc ad G D A nL) {a : Int} (ha : in32 a) (hd : decode cc bp = .ok (.i2l, 1)) (k : Go p l e R s mid args below meth c Q ad G D A nL cells slots (bp + 1) L ((1, a) :: r) m) : Go p l e R s mid args below meth c Q ad G D A nL cells slots bp L ((0, a) :: r) m := by
  intro H locs ls hP hD hS hL
  have h := k H locs ls hP hD hS hL
  show W p l e R s mid args below meth c H locs cells slots Q (F0 mid bp ls (.int (Int32.ofInt a) :: r.map (cv ad)))
  have e9 : cv ad (1, a) = .long (Int64.ofInt a) := by rw [cv_l]
  rw [List.map_cons, e9] at h
  exact lv_i2l K.1 K.2.1 hd (by rw [← Int64.toInt_inj, Int32.toInt_toInt64, i32_of ha, i64_of (in64_32 ha)]) h
theorem go_l2i (K : CX NW p R s mid args c own cc ad G D A nL) {a : Int} (hd : decode cc bp = .ok (.l2i, 1)) (k : Go p l e R s mid args below meth c Q ad G D A nL cells slots (bp + 1) L ((0, w32 a) :: r) m) : Go p l e R s mid args below meth c Q ad G D A nL cells slots bp L ((1, a) :: r) m := by
  intro H locs ls hP hD hS hL
  have h := k H locs ls hP hD hS hL
  show W p l e R s mid args below meth c H locs cells slots Q (F0 mid bp ls (.long (Int64.ofInt a) :: r.map (cv ad)))
  have e9 : cv ad (0, w32 a) = .int (Int32.ofInt a) := by rw [cv_i]; rw [o32_w]
  rw [List.map_cons, e9] at h
  exact lv_l2i K.1 K.2.1 hd (by rw [Int64.toInt32_ofInt]) h
theorem go_i2c (K : CX NW p R s mid args c own cc ad G D A nL) {a : Int} (hd : decode cc bp = .ok (.i2c, 1)) (k : Go p l e R s mid args below meth c Q ad G D A nL cells slots (bp + 1) L ((0, i2c a) :: r) m) : Go p l e R s mid args below meth c Q ad G D A nL cells slots bp L ((0, a) :: r) m := by
  intro H locs ls hP hD hS hL
  have h := k H locs ls hP hD hS hL
  show W p l e R s mid args below meth c H locs cells slots Q (F0 mid bp ls (.int (Int32.ofInt a) :: r.map (cv ad)))
  have e9 : cv ad (0, i2c a) = .int (Int32.ofInt (i2c a)) := by rw [cv_i]
  rw [List.map_cons, e9] at h
  exact lv_i2c K.1 K.2.1 hd (by rw [i2c, Int32.ofInt_toInt]) h
theorem lcm_ok {a b : Int} (ha : in64 a) (hb : in64 b) : lg_cmp (Int64.ofInt a) (Int64.ofInt b) = Int32.ofInt (lcm a b) := by
  unfold lg_cmp lcm
  have h1 : Int64.ofInt a < Int64.ofInt b ↔ a < b := by rw [Int64.lt_iff_toInt_lt, i64_of ha, i64_of hb]
  have h2 : Int64.ofInt b < Int64.ofInt a ↔ b < a := by rw [Int64.lt_iff_toInt_lt, i64_of ha, i64_of hb]
  have h3 : Int64.ofInt a = Int64.ofInt b ↔ a = b := by rw [← Int64.toInt_inj, i64_of ha, i64_of hb]
  have h4 : Int64.ofInt a ≤ Int64.ofInt b ↔ a ≤ b := by rw [Int64.le_iff_toInt_le, i64_of ha, i64_of hb]
  simp only [gt_iff_lt, h1, h2, h3, h4]
  split <;> (try split) <;> (try split) <;> first | rfl | (exfalso; omega)
theorem go_lcmp (K : CX NW p R s mid args c own cc ad G D A nL) {a b : Int} (ha : in64 a) (hb : in64 b) (hd : decode cc bp = .ok (.lcmp, 1)) (k : Go p l e R s mid args below meth c Q ad G D A nL cells slots (bp + 1) L ((0, lcm a b) :: r) m) : Go p l e R s mid args below meth c Q ad G D A nL cells slots bp L ((1, b) :: (1, a) :: r) m := by
  intro H locs ls hP hD hS hL
  have h := k H locs ls hP hD hS hL
  show W p l e R s mid args below meth c H locs cells slots Q (F0 mid bp ls (.long (Int64.ofInt b) :: .long (Int64.ofInt a) :: r.map (cv ad)))
  refine W.lcmp K.1 K.2.1 hd ?_
  rw [lcm_ok ha hb]
  exact h
theorem go_const (K : CX NW p R s mid args c own cc ad G D A nL) {v : Int} {raw : Instr} {len : Nat} (hd : decode cc bp = .ok (raw, len)) (ho : (raw = .iconst v ∧ len = 1) ∨ (raw = .bipush v ∧ len = 2 ∧ (Int8.ofInt v).toInt32 = Int32.ofInt v) ∨ (raw = .sipush v ∧ len = 3 ∧ (Int16.ofInt v).toInt32 = Int32.ofInt v) ∨ (∃ idx, raw = .ldc idx ∧ len = 2 ∧ Jvm.Cond.constant own idx (Int32.ofInt v) ∈ WT) ∨ (∃ idx, raw = .ldc_w idx ∧ len = 3 ∧ Jvm.Cond.constant own idx (Int32.ofInt v) ∈ WT)) (k : Go p l e R s mid args below meth c Q ad G D A nL cells slots (bp + len) L ((0, v) :: r) m) : Go p l e R s mid args below meth c Q ad G D A nL cells slots bp L r m := by
  intro H locs ls hP hD hS hL
  have h := k H locs ls hP hD hS hL
  rcases ho with ⟨rfl, rfl⟩ | ⟨rfl, rfl, h2⟩ | ⟨rfl, rfl, h2⟩ | ⟨idx, rfl, rfl, h2⟩ | ⟨idx, rfl, rfl, h2⟩
  · exact lv_iconst K.1 K.2.1 hd rfl h
  · exact lv_bipush K.1 K.2.1 hd h2 h
  · exact lv_sipush K.1 K.2.1 hd h2 h
  · exact lv_ldc K.1 K.2.1 K.2.2.2.1 (K.2.2.2.2.1 _ h2) hd h
  · exact lv_ldcw K.1 K.2.1 K.2.2.2.1 (K.2.2.2.2.1 _ h2) hd h
theorem go_lconst (K : CX NW p R s mid args c own cc ad G D A nL) {v : Int} {raw : Instr} {len : Nat} (hd : decode cc bp = .ok (raw, len)) (ho : (∃ n : Fin 2, raw = .lconst n ∧ len = 1 ∧ Int64.ofNat (n : Nat) = Int64.ofInt v) ∨ (∃ idx, raw = .ldc2_w idx ∧ len = 3 ∧ Jvm.Cond.constantLong own idx (Int64.ofInt v) ∈ WT)) (k : Go p l e R s mid args below meth c Q ad G D A nL cells slots (bp + len) L ((1, v) :: r) m) : Go p l e R s mid args below meth c Q ad G D A nL cells slots bp L r m := by
  intro H locs ls hP hD hS hL
  have h := k H locs ls hP hD hS hL
  rcases ho with ⟨n, rfl, rfl, h2⟩ | ⟨idx, rfl, rfl, h2⟩
  · exact lv_lconst K.1 K.2.1 hd h2 h
  · exact lv_ldc2 K.1 K.2.1 K.2.2.2.1 (K.2.2.2.2.1 _ h2) hd h
theorem go_iload (K : CX NW p R s mid args c own cc ad G D A nL) {x : Int} {i : Nat} {raw : Instr} {len : Nat} (hd : decode cc bp = .ok (raw, len)) (ho : (raw = .iload i ∧ len = 2) ∨ (∃ n : Fin 4, raw = .iload_n n ∧ len = 1 ∧ (n : Nat) = i)) (hx : L[i]? = some (0, x)) (k : Go p l e R s mid args below meth c Q ad G D A nL cells slots (bp + len) L ((0, x) :: r) m) : Go p l e R s mid args below meth c Q ad G D A nL cells slots bp L r m := by
  intro H locs ls hP hD hS hL
  have h := k H locs ls hP hD hS hL
  have hv : ls[i]? = some (.val (.int (Int32.ofInt x))) := hL.2.2.2 i _ hx (by simp)
  rcases ho with ⟨rfl, rfl⟩ | ⟨n, rfl, rfl, h2⟩
  · exact lv_iload K.1 K.2.1 hd hv h
  · exact lv_iload_n K.1 K.2.1 hd h2 hv h
theorem go_lload (K : CX NW p R s mid args c own cc ad G D A nL) {x : Int} {i : Nat} {raw : Instr} {len : Nat} (hd : decode cc bp = .ok (raw, len)) (ho : (raw = .lload i ∧ len = 2) ∨ (∃ n : Fin 4, raw = .lload_n n ∧ len = 1 ∧ (n : Nat) = i)) (hx : L[i]? = some (1, x)) (k : Go p l e R s mid args below meth c Q ad G D A nL cells slots (bp + len) L ((1, x) :: r) m) : Go p l e R s mid args below meth c Q ad G D A nL cells slots bp L r m := by
  intro H locs ls hP hD hS hL
  have h := k H locs ls hP hD hS hL
  have hv : ls[i]? = some (.val (.long (Int64.ofInt x))) := hL.2.2.2 i _ hx (by simp)
  rcases ho with ⟨rfl, rfl⟩ | ⟨n, rfl, rfl, h2⟩
  · exact lv_lload K.1 K.2.1 hd hv h
  · exact lv_lload_n K.1 K.2.1 hd h2 hv h
theorem go_aload (K : CX NW p R s mid args c own cc ad G D A nL) {t : Nat} {x : Int} {i : Nat} {raw : Instr} {len : Nat} (hd : decode cc bp = .ok (raw, len)) (ho : (raw = .aload i ∧ len = 2) ∨ (∃ n : Fin 4, raw = .aload_n n ∧ len = 1 ∧ (n : Nat) = i)) (hx : L[i]? = some (t, x)) (ht : 10 ≤ t) (k : Go p l e R s mid args below meth c Q ad G D A nL cells slots (bp + len) L ((t, x) :: r) m) : Go p l e R s mid args below meth c Q ad G D A nL cells slots bp L r m := by
  intro H locs ls hP hD hS hL
  have h := k H locs ls hP hD hS hL
  obtain ⟨a, ha⟩ := cv_r ad t x (by omega)
  have hv : ls[i]? = some (.val (.ref a)) := by rw [← ha]; exact hL.2.2.2 i _ hx (by simp; omega)
  rw [List.map_cons, ha] at h
  rcases ho with ⟨rfl, rfl⟩ | ⟨n, rfl, rfl, h2⟩
  · exact lv_aload K.1 K.2.1 hd hv h
  · exact lv_aload_n K.1 K.2.1 hd h2 hv h
theorem go_istore (K : CX NW p R s mid args c own cc ad G D A nL) {x : Int} {i : Nat} {raw : Instr} {len : Nat} (hd : decode cc bp = .ok (raw, len)) (ho : (raw = .istore i ∧ len = 2) ∨ (∃ n : Fin 4, raw = .istore_n n ∧ len = 1 ∧ (n : Nat) = i)) (hi : i < L.length) (k : Go p l e R s mid args below meth c Q ad G D A nL cells slots (bp + len) (sto1 L i (0, x)) r m) : Go p l e R s mid args below meth c Q ad G D A nL cells slots bp L ((0, x) :: r) m := by
  intro H locs ls hP hD hS hL
  have hn : i < nL := by rw [← hL.1]; exact hi
  show W p l e R s mid args below meth c H locs cells slots Q (F0 mid bp ls (.int (Int32.ofInt x) :: r.map (cv ad)))
  rcases ho with ⟨rfl, rfl⟩ | ⟨n, rfl, rfl, h2⟩
  · exact lv_istore K.1 K.2.1 hd (LH_has hL) hn rfl (fun ls' h' => k H locs ls' hP hD hS (LH_sto1 (v := (0, x)) hL.1 h'))
  · exact lv_istore_n K.1 K.2.1 hd h2 (LH_has hL) hn rfl (fun ls' h' => k H locs ls' hP hD hS (LH_sto1 (v := (0, x)) hL.1 h'))
theorem go_lstore (K : CX NW p R s mid args c own cc ad G D A nL) {x : Int} {i : Nat} {raw : Instr} {len : Nat} (hd : decode cc bp = .ok (raw, len)) (ho : (raw = .lstore i ∧ len = 2) ∨ (∃ n : Fin 4, raw = .lstore_n n ∧ len = 1 ∧ (n : Nat) = i)) (hi : i + 1 < L.length) (k : Go p l e R s mid args below meth c Q ad G D A nL cells slots (bp + len) (sto2 L i (1, x)) r m) : Go p l e R s mid args below meth c Q ad G D A nL cells slots bp L ((1, x) :: r) m := by
  intro H locs ls hP hD hS hL
  have hn : i + 1 < nL := by rw [← hL.1]; exact hi
  show W p l e R s mid args below meth c H locs cells slots Q (F0 mid bp ls (.long (Int64.ofInt x) :: r.map (cv ad)))
  rcases ho with ⟨rfl, rfl⟩ | ⟨n, rfl, rfl, h2⟩
  · exact lv_lstore K.1 K.2.1 hd (LH_has hL) hn rfl (fun ls' h' => k H locs ls' hP hD hS (LH_sto2 (v := (1, x)) hL.1 h'))
  · exact lv_lstore_n K.1 K.2.1 hd h2 (LH_has hL) hn rfl (fun ls' h' => k H locs ls' hP hD hS (LH_sto2 (v := (1, x)) hL.1 h'))
theorem go_astore (K : CX NW p R s mid args c own cc ad G D A nL) {t : Nat} {x : Int} {i : Nat} {raw : Instr} {len : Nat} (hd : decode cc bp = .ok (raw, len)) (ho : (raw = .astore i ∧ len = 2) ∨ (∃ n : Fin 4, raw = .astore_n n ∧ len = 1 ∧ (n : Nat) = i)) (ht : 10 ≤ t) (hi : i < L.length) (k : Go p l e R s mid args below meth c Q ad G D A nL cells slots (bp + len) (sto1 L i (t, x)) r m) : Go p l e R s mid args below meth c Q ad G D A nL cells slots bp L ((t, x) :: r) m := by
  intro H locs ls hP hD hS hL
  have hn : i < nL := by rw [← hL.1]; exact hi
  obtain ⟨a, ha⟩ := cv_r ad t x (by omega)
  rw [List.map_cons, ha]
  rcases ho with ⟨rfl, rfl⟩ | ⟨n, rfl, rfl, h2⟩
  · exact lv_astore K.1 K.2.1 hd (LH_has hL) hn rfl (fun ls' h' => k H locs ls' hP hD hS (LH_sto1 (v := (t, x)) hL.1 (by rw [ha]; exact h')))
  · exact lv_astore_n K.1 K.2.1 hd h2 (LH_has hL) hn rfl (fun ls' h' => k H locs ls' hP hD hS (LH_sto1 (v := (t, x)) hL.1 (by rw [ha]; exact h')))
theorem go_iinc (K : CX NW p R s mid args c own cc ad G D A nL) {x n : Int} {i : Nat} (hd : decode cc bp = .ok (.iinc i n, 3)) (hx : L[i]? = some (0, x)) (k : Go p l e R s mid args below meth c Q ad G D A nL cells slots (bp + 3) (sto1 L i (0, w32 (x + n))) r m) : Go p l e R s mid args below meth c Q ad G D A nL cells slots bp L r m := by
  intro H locs ls hP hD hS hL
  have hn : i < nL := by rw [← hL.1]; exact (List.getElem?_eq_some_iff.mp hx).1
  obtain ⟨q, hq⟩ := List.getElem?_of_mem (lvl_in (ad := ad) hx (by simp))
  exact lv_iinc (v := Int32.ofInt (w32 (x + n))) K.1 K.2.1 hd (LH_has hL) (k := q) hq (by rw [o32_w, Int32.ofInt_add]) hn rfl (fun ls' h' => k H locs ls' hP hD hS (LH_sto1 (v := (0, w32 (x + n))) hL.1 h'))
theorem cat_1 (ad : Int → Nat) {t : Nat} {a : Int} (h : ¬ t = 1) : (cv ad (t, a)).category = 1 := by rw [cv_cat, catV, if_neg h]
theorem go_dup (K : CX NW p R s mid args c own cc ad G D A nL) {t : Nat} {a : Int} (h1 : ¬ t = 1) (hd : decode cc bp = .ok (.dup, 1)) (k : Go p l e R s mid args below meth c Q ad G D A nL cells slots (bp + 1) L ((t, a) :: (t, a) :: r) m) : Go p l e R s mid args below meth c Q ad G D A nL cells slots bp L ((t, a) :: r) m := by
  intro H locs ls hP hD hS hL
  exact lv_dup K.1 K.2.1 hd (cat_1 ad h1) (k H locs ls hP hD hS hL)
theorem go_dup2 (K : CX NW p R s mid args c own cc ad G D A nL) {t u : Nat} {a b : Int} (h1 : ¬ t = 1) (h2 : ¬ u = 1) (hd : decode cc bp = .ok (.dup2, 1)) (k : Go p l e R s mid args below meth c Q ad G D A nL cells slots (bp + 1) L ((t, a) :: (u, b) :: (t, a) :: (u, b) :: r) m) : Go p l e R s mid args below meth c Q ad G D A nL cells slots bp L ((t, a) :: (u, b) :: r) m := by
  intro H locs ls hP hD hS hL
  exact lv_dup2_11 K.1 K.2.1 hd (cat_1 ad h1) (cat_1 ad h2) (k H locs ls hP hD hS hL)
theorem go_pop (K : CX NW p R s mid args c own cc ad G D A nL) {t : Nat} {a : Int} (h1 : ¬ t = 1) (hd : decode cc bp = .ok (.pop, 1)) (k : Go p l e R s mid args below meth c Q ad G D A nL cells slots (bp + 1) L r m) : Go p l e R s mid args below meth c Q ad G D A nL cells slots bp L ((t, a) :: r) m := by
  intro H locs ls hP hD hS hL
  exact lv_pop K.1 K.2.1 hd (cat_1 ad h1) (k H locs ls hP hD hS hL)
theorem go_goto (K : CX NW p R s mid args c own cc ad G D A nL) {off : Int} {tgt : Nat} (hd : decode cc bp = .ok (.goto off, 3)) (ht : (bp : Int) + off = (tgt : Int)) (k : Go p l e R s mid args below meth c Q ad G D A nL cells slots tgt L r m) : Go p l e R s mid args below meth c Q ad G D A nL cells slots bp L r m := by
  intro H locs ls hP hD hS hL
  exact lv_goto K.1 K.2.1 hd ht (k H locs ls hP hD hS hL)
theorem go_icmp (K : CX NW p R s mid args c own cc ad G D A nL) {cd : Jvm.ClassFile.Cond} {a b off : Int} {tgt : Nat} (ha : in32 a) (hb : in32 b) (hd : decode cc bp = .ok (.if_icmp cd off, 3)) (ht : (bp : Int) + off = (tgt : Int)) (kt : cmpB cd a b = true → Go p l e R s mid args below meth c Q ad G D A nL cells slots tgt L r m) (kf : ¬ cmpB cd a b = true → Go p l e R s mid args below meth c Q ad G D A nL cells slots (bp + 3) L r m) : Go p l e R s mid args below meth c Q ad G D A nL cells slots bp L ((0, b) :: (0, a) :: r) m := by
  intro H locs ls hP hD hS hL
  show W p l e R s mid args below meth c H locs cells slots Q (F0 mid bp ls (.int (Int32.ofInt b) :: .int (Int32.ofInt a) :: r.map (cv ad)))
  have e1 := o32_eq ha hb
  have e2 := o32_lt ha hb
  have e3 := o32_le hb ha
  have e4 := o32_lt hb ha
  have e5 := o32_le ha hb
  have T : ∀ P : Prop, (P ↔ cmpB cd a b = true) → P → W p l e R s mid args below meth c H locs cells slots Q (F0 mid tgt ls (r.map (cv ad))) := fun P h q => kt (h.mp q) H locs ls hP hD hS hL
  have F : ∀ P : Prop, (P ↔ cmpB cd a b = true) → ¬ P → W p l e R s mid args below meth c H locs cells slots Q (F0 mid (bp + 3) ls (r.map (cv ad))) := fun P h q => kf (fun z => q (h.mpr z)) H locs ls hP hD hS hL
  cases cd with
  | eq => exact lv_icmp_eq K.1 K.2.1 hd ht (T _ (by simp [cmpB, e1])) (F _ (by simp [cmpB, e1]))
  | ne => exact lv_icmp_ne K.1 K.2.1 hd ht (T _ (by simp [cmpB, e1])) (fun q => kf (by simp [cmpB, e1.mp q]) H locs ls hP hD hS hL)
  | lt => exact lv_icmp_lt K.1 K.2.1 hd ht (T _ (by simp [cmpB, e2])) (F _ (by simp [cmpB, e2]))
  | ge => exact lv_icmp_ge K.1 K.2.1 hd ht (T _ (by simp [cmpB, e3])) (F _ (by simp [cmpB, e3]))
  | gt => exact lv_icmp_gt K.1 K.2.1 hd ht (T _ (by simp [cmpB, e4])) (F _ (by simp [cmpB, e4]))
  | le => exact lv_icmp_le K.1 K.2.1 hd ht (T _ (by simp [cmpB, e5])) (F _ (by simp [cmpB, e5]))
theorem go_if (K : CX NW p R s mid args c own cc ad G D A nL) {cd : Jvm.ClassFile.Cond} {a off : Int} {tgt : Nat} (ha : in32 a) (hd : decode cc bp = .ok (.ifCond cd off, 3)) (ht : (bp : Int) + off = (tgt : Int)) (kt : cmpB cd a 0 = true → Go p l e R s mid args below meth c Q ad G D A nL cells slots tgt L r m) (kf : ¬ cmpB cd a 0 = true → Go p l e R s mid args below meth c Q ad G D A nL cells slots (bp + 3) L r m) : Go p l e R s mid args below meth c Q ad G D A nL cells slots bp L ((0, a) :: r) m := by
  intro H locs ls hP hD hS hL
  show W p l e R s mid args below meth c H locs cells slots Q (F0 mid bp ls (.int (Int32.ofInt a) :: r.map (cv ad)))
  have hb : in32 0 := in32_lit0
  have e1 : Int32.ofInt a = 0 ↔ a = 0 := o32_eq ha hb
  have e2 : Int32.ofInt a < 0 ↔ a < 0 := o32_lt ha hb
  have e3 : 0 ≤ Int32.ofInt a ↔ 0 ≤ a := o32_le hb ha
  have e4 : 0 < Int32.ofInt a ↔ 0 < a := o32_lt hb ha
  have e5 : Int32.ofInt a ≤ 0 ↔ a ≤ 0 := o32_le ha hb
  have T : ∀ P : Prop, (P ↔ cmpB cd a 0 = true) → P → W p l e R s mid args below meth c H locs cells slots Q (F0 mid tgt ls (r.map (cv ad))) := fun P h q => kt (h.mp q) H locs ls hP hD hS hL
  have F : ∀ P : Prop, (P ↔ cmpB cd a 0 = true) → ¬ P → W p l e R s mid args below meth c H locs cells slots Q (F0 mid (bp + 3) ls (r.map (cv ad))) := fun P h q => kf (fun z => q (h.mpr z)) H locs ls hP hD hS hL
  cases cd with
  | eq => exact lv_if_eq K.1 K.2.1 hd ht (T _ (by simp [cmpB, e1])) (F _ (by simp [cmpB, e1]))
  | ne => exact lv_if_ne K.1 K.2.1 hd ht (T _ (by simp [cmpB, e1])) (fun q => kf (by simp [cmpB, e1.mp q]) H locs ls hP hD hS hL)
  | lt => exact lv_if_lt K.1 K.2.1 hd ht (T _ (by simp [cmpB, e2])) (F _ (by simp [cmpB, e2]))
  | ge => exact lv_if_ge K.1 K.2.1 hd ht (T _ (by simp [cmpB, e3])) (F _ (by simp [cmpB, e3]))
  | gt => exact lv_if_gt K.1 K.2.1 hd ht (T _ (by simp [cmpB, e4])) (F _ (by simp [cmpB, e4]))
  | le => exact lv_if_le K.1 K.2.1 hd ht (T _ (by simp [cmpB, e5])) (F _ (by simp [cmpB, e5]))
end STEPS
end
section
/-! FIELDS, ARRAYS, SWITCHES -/
def fword (own : String) (idx : Nat) (nest : Bool) (c k : Nat) : Cond := if nest = true then .fieldLinkNest own idx (CR c) (CT c k).2.1 (CT c k).2.2.1 "ThumbHedges" else .fieldLink own idx (CR c) (CT c k).2.1 (CT c k).2.2.1
theorem lt9 {P : Nat → Prop} (h0 : P 0) (h1 : P 1) (h2 : P 2) (h3 : P 3) (h4 : P 4) (h5 : P 5) (h6 : P 6) (h7 : P 7) (h8 : P 8) : ∀ c, c < 9 → P c := by
  intro c hc
  match c, hc with
  | 0, _ => exact h0
  | 1, _ => exact h1
  | 2, _ => exact h2
  | 3, _ => exact h3
  | 4, _ => exact h4
  | 5, _ => exact h5
  | 6, _ => exact h6
  | 7, _ => exact h7
  | 8, _ => exact h8
  | c + 9, h => omega
theorem cl_at : ∀ c, c < 9 → vwCl[c]? = some (CR c, CT c, CN c) := lt9 rfl rfl rfl rfl rfl rfl rfl rfl rfl
theorem cl_in : ∀ c, c < 9 → ∀ w ∈ u_ws (CR c) (CT c) (CN c), w ∈ lw_tbl := lt9 inX0 inX1 inX2 inX3 inX4 inX6 inX7 inX8 inX9
theorem lay_good (C : String) (T : u_T) (k : Nat) : goodWord (u_lay C T k) = true := by
  unfold u_lay
  split <;> rfl
theorem cl_wt (c : Nat) (hc : c < 9) : ∀ w ∈ u_ws (CR c) (CT c) (CN c), w ∈ WT := fun w hw => WT_in (cl_in c hc w hw) (by
  obtain ⟨k, -, rfl⟩ := List.mem_map.mp hw
  exact lay_good _ _ _)
theorem cl_ty : ∀ c, c < 9 → ∀ k, k < CN c → parseFieldDescriptor (CT c k).2.2.1 = some (CTy c k) := lt9 tyX0_ok tyX1_ok tyX2_ok tyX3_ok tyX4_ok tyX6_ok tyX7_ok tyX8_ok tyX9_ok
theorem cl_nm : ∀ c, c < 9 → ∀ a, a < CN c → ∀ b, b < CN c → a ≠ b → (CT c a).2.1 ≠ (CT c b).2.1 := lt9 nmX0 nmX1 nmX2 nmX3 nmX4 nmX6 nmX7 nmX8 nmX9
theorem cl_own : ∀ c, c < 9 → ∀ k, k < CN c → (CT c k).1 = CR c := by decide +kernel
theorem cl_fin : ∀ c, c < 9 → ∀ k, k < CN c → FT c k < 10 → (CT c k).2.2.2 = false := by decide +kernel
theorem cl_t0 : ∀ c, c < 9 → ∀ k, k < CN c → FT c k = 0 → CTy c k = .int := by decide +kernel
theorem cl_t1 : ∀ c, c < 9 → ∀ k, k < CN c → FT c k = 1 → CTy c k = .long := by decide +kernel
theorem cl_t2 : ∀ c, c < 9 → ∀ k, k < CN c → FT c k = 2 → CTy c k = .boolean := by decide +kernel
theorem cl_ft : ∀ c, c < 9 → ∀ k, k < CN c → FT c k = 0 ∨ FT c k = 1 ∨ FT c k = 2 ∨ 10 ≤ FT c k := by decide +kernel
theorem arr_kind {t : Nat} {k : Nat} (h : aty t = k) (hk : k < 9) : ¬ t < 100 := by
  intro z
  unfold aty at h
  rw [if_pos z] at h
  omega
theorem aln_nat (t : Nat) : aln t = (((t - 100) / 8 : Nat) : Int) := rfl
section MEM
variable {NW : List Cond} {p : Program} {l : Launch} {e : Env} {R : Room} {s : State} {mid : MethodId} {args : Array Value} {below : List Frame} {meth : Method} {c : Code} {Q : State → Prop} {ad : Int → Nat} {G : Nat → ClassId} {D : va_G} {A : Nat → Prop} {nL cells slots : Nat} {own : String} {cc : ByteArray} {bp : Nat} {L r : List Vv} {m : Mm}
theorem go_getf (K : CX NW p R s mid args c own cc ad G D A nL) {ci k idx : Nat} {o : Int} {v : Vv} (nest : Bool) (hw : if nest = true then fword own idx nest ci k ∈ NW else fword own idx nest ci k ∈ WT) (hc : ci < 9) (hk : k < CN ci) (ho : (o, ci + 10) ∈ UNI) (hv : cv ad v = fv ad m o ci k) (hd : decode cc bp = .ok (.getfield idx, 3)) (kk : Go p l e R s mid args below meth c Q ad G D A nL cells slots (bp + 3) L (v :: r) m) : Go p l e R s mid args below meth c Q ad G D A nL cells slots bp L ((ci + 10, o) :: r) m := by
  intro H locs ls hP hD hS hL
  have h := kk H locs ls hP hD hS hL
  rw [List.map_cons, hv] at h
  rw [List.map_cons, cv_o ad o ho]
  obtain ⟨j, hj, hw9⟩ := WS_at (ad := ad) (G := G) (m := m) ho
  have hcell : cellOf ad G m (o, ci + 10) = .inr (ci, (List.range (CN ci)).map (fv ad m o ci)) := by
    rw [cell_ob (show ci + 10 < 100 by omega)]
    simp only [Nat.add_sub_cancel]
  simp only at hw9
  rw [hcell] at hw9
  have hf : ((List.range (CN ci)).map (fv ad m o ci))[k]? = some (fv ad m o ci k) := by rw [List.getElem?_map, List.getElem?_range hk]; rfl
  cases nest with
  | false =>
    simp only [fword, Bool.false_eq_true, if_false] at hw
    exact va_get K.1 K.2.1 K.2.2.2.2.1 (cl_wt ci hc) K.2.2.2.1 K.2.2.2.2.2.1 hP j hw9 (cl_at ci hc) k hk (K.2.2.2.2.1 _ hw) (fun x hx => by rw [cl_own ci hc k hk] at hx; exact hx) hf hd h
  | true =>
    simp only [fword, if_true] at hw
    exact va_getN K.1 K.2.1 K.2.2.2.2.1 (cl_wt ci hc) K.2.2.2.1 K.2.2.2.2.2.1 hP j hw9 (cl_at ci hc) k hk (va_Nw.use rfl (K.2.2.2.2.2.2.2.2.2 _ hw)) (fun x hx => by rw [cl_own ci hc k hk] at hx; exact hx) hf hd h
theorem go_putf (K : CX NW p R s mid args c own cc ad G D A nL) {ci k idx : Nat} {o x : Int} {tv : Nat} (nest : Bool) (hw : if nest = true then fword own idx nest ci k ∈ NW else fword own idx nest ci k ∈ WT) (hc : ci < 9) (hk : k < CN ci) (ho : (o, ci + 10) ∈ UNI) (hft : FT ci k < 10) (hv : cv ad (tv, x) = fv ad (up m o k x) o ci k) (hn : narrow (CTy ci k) (cv ad (tv, x)) = cv ad (tv, x)) (hfit : fits (CTy ci k) (cv ad (tv, x)) = true) (hd : decode cc bp = .ok (.putfield idx, 3)) (kk : Go p l e R s mid args below meth c Q ad G D A nL cells slots (bp + 3) L r (up m o k x)) : Go p l e R s mid args below meth c Q ad G D A nL cells slots bp L ((tv, x) :: (ci + 10, o) :: r) m := by
  intro H locs ls hP hD hS hL
  rw [List.map_cons, List.map_cons, cv_o ad o ho]
  obtain ⟨j, hj, hw9⟩ := WS_at (ad := ad) (G := G) (m := m) ho
  have hcell : cellOf ad G m (o, ci + 10) = .inr (ci, (List.range (CN ci)).map (fv ad m o ci)) := by
    rw [cell_ob (show ci + 10 < 100 by omega)]
    simp only [Nat.add_sub_cancel]
  simp only at hw9
  rw [hcell] at hw9
  have hset : (WS ad G m).set j (ad o, .inr (ci, ((List.range (CN ci)).map (fv ad m o ci)).set k (cv ad (tv, x)))) = WS ad G (up m o k x) := by
    have e1 := WS_set (ad := ad) (G := G) (m := m) (m' := up m o k x) hj (fun a b hab => up_ne hab)
    simp only at e1
    rw [cell_fld (t := ci + 10) (show ci + 10 < 100 by omega) (by simpa using hk) (w := cv ad (tv, x)) (by simp only [Nat.add_sub_cancel]; exact hv.symm)] at e1
    simp only [Nat.add_sub_cancel] at e1
    exact e1
  have hl : k < ((List.range (CN ci)).map (fv ad m o ci)).length := by simpa using hk
  cases nest with
  | false =>
    simp only [fword, Bool.false_eq_true, if_false] at hw
    exact va_put K.1 K.2.1 K.2.2.2.2.1 (cl_wt ci hc) (CTy ci) (cl_ty ci hc) (cl_nm ci hc) K.2.2.2.1 K.2.2.2.2.2.1 hP hD hS j hw9 (cl_at ci hc) k hk (K.2.2.2.2.1 _ hw) (fun x hx => by rw [cl_own ci hc k hk] at hx; exact hx) (cl_fin ci hc k hk hft) (cl_ty ci hc k hk) hn hfit hl hd (fun H1 locs1 h1 h2 h3 => by
      rw [hset] at h1 h2
      exact kk H1 locs1 ls h1 h2 h3 hL)
  | true =>
    simp only [fword, if_true] at hw
    exact va_putN K.1 K.2.1 K.2.2.2.2.1 (cl_wt ci hc) (CTy ci) (cl_ty ci hc) (cl_nm ci hc) K.2.2.2.1 K.2.2.2.2.2.1 hP hD hS j hw9 (cl_at ci hc) k hk (va_Nw.use rfl (K.2.2.2.2.2.2.2.2.2 _ hw)) (fun x hx => by rw [cl_own ci hc k hk] at hx; exact hx) (cl_fin ci hc k hk hft) (cl_ty ci hc k hk) hn hfit hl hd (fun H1 locs1 h1 h2 h3 => by
      rw [hset] at h1 h2
      exact kk H1 locs1 ls h1 h2 h3 hL)
theorem go_iald (K : CX NW p R s mid args c own cc ad G D A nL) {t : Nat} {o i : Int} (ho : (o, t) ∈ UNI) (ha : aty t = 0) (hi : in32 i) (h0 : 0 ≤ i) (h1 : i < aln t) (hd : decode cc bp = .ok (.iaload, 1)) (kk : Go p l e R s mid args below meth c Q ad G D A nL cells slots (bp + 1) L ((0, m o i) :: r) m) : Go p l e R s mid args below meth c Q ad G D A nL cells slots bp L ((0, i) :: (t, o) :: r) m := by
  intro H locs ls hP hD hS hL
  have h := kk H locs ls hP hD hS hL
  rw [List.map_cons, List.map_cons, cv_o ad o ho, cv_i]
  obtain ⟨j, hj, hw9⟩ := WS_at (ad := ad) (G := G) (m := m) ho
  simp only at hw9
  rw [cell_ia (arr_kind ha (by omega)) (Or.inl ha), ha] at hw9
  rw [List.map_cons, cv_i] at h
  refine va_iald K.1 K.2.1 K.2.2.2.2.2.1 hP j 0 hw9 rfl (vp_in_o hi h0 h1) hd ?_
  rw [clamp_o hi]
  simp only [Int.toNat_of_nonneg h0]
  exact h
theorem go_zald (K : CX NW p R s mid args c own cc ad G D A nL) {t : Nat} {o i : Int} (ho : (o, t) ∈ UNI) (ha : aty t = 2) (hi : in32 i) (h0 : 0 ≤ i) (h1 : i < aln t) (hd : decode cc bp = .ok (.baload, 1)) (kk : Go p l e R s mid args below meth c Q ad G D A nL cells slots (bp + 1) L ((0, m o i) :: r) m) : Go p l e R s mid args below meth c Q ad G D A nL cells slots bp L ((0, i) :: (t, o) :: r) m := by
  intro H locs ls hP hD hS hL
  have h := kk H locs ls hP hD hS hL
  rw [List.map_cons, List.map_cons, cv_o ad o ho, cv_i]
  obtain ⟨j, hj, hw9⟩ := WS_at (ad := ad) (G := G) (m := m) ho
  simp only at hw9
  rw [cell_ia (arr_kind ha (by omega)) (Or.inr ha), ha] at hw9
  rw [List.map_cons, cv_i] at h
  refine va_zald K.1 K.2.1 K.2.2.2.2.2.1 hP j 2 hw9 rfl (vp_in_o hi h0 h1) hd ?_
  rw [clamp_o hi]
  simp only [Int.toNat_of_nonneg h0]
  exact h
theorem go_lald (K : CX NW p R s mid args c own cc ad G D A nL) {t : Nat} {o i : Int} (ho : (o, t) ∈ UNI) (ha : aty t = 1) (hi : in32 i) (h0 : 0 ≤ i) (h1 : i < aln t) (hd : decode cc bp = .ok (.laload, 1)) (kk : Go p l e R s mid args below meth c Q ad G D A nL cells slots (bp + 1) L ((1, m o i) :: r) m) : Go p l e R s mid args below meth c Q ad G D A nL cells slots bp L ((0, i) :: (t, o) :: r) m := by
  intro H locs ls hP hD hS hL
  have h := kk H locs ls hP hD hS hL
  rw [List.map_cons, List.map_cons, cv_o ad o ho, cv_i]
  obtain ⟨j, hj, hw9⟩ := WS_at (ad := ad) (G := G) (m := m) ho
  simp only at hw9
  rw [cell_la (arr_kind ha (by omega)) ha] at hw9
  rw [List.map_cons, cv_l] at h
  refine va_lald K.1 K.2.1 K.2.2.2.2.2.1 hP j 1 hw9 rfl (vp_in_o hi h0 h1) hd ?_
  rw [clamp_o hi]
  simp only [Int.toNat_of_nonneg h0]
  exact h
theorem go_aald (K : CX NW p R s mid args c own cc ad G D A nL) {t tr : Nat} {o i : Int} (ho : (o, t) ∈ UNI) (ha : (aty t = 3 ∧ tr = 13) ∨ (aty t = 4 ∧ tr = 16)) (hi : in32 i) (h0 : 0 ≤ i) (h1 : i < aln t) (hd : decode cc bp = .ok (.aaload, 1)) (kk : Go p l e R s mid args below meth c Q ad G D A nL cells slots (bp + 1) L ((tr, PA (aty t) o i) :: r) m) : Go p l e R s mid args below meth c Q ad G D A nL cells slots bp L ((0, i) :: (t, o) :: r) m := by
  intro H locs ls hP hD hS hL
  have h := kk H locs ls hP hD hS hL
  rw [List.map_cons, List.map_cons, cv_o ad o ho, cv_i]
  obtain ⟨j, hj, hw9⟩ := WS_at (ad := ad) (G := G) (m := m) ho
  simp only at hw9
  have hlt : i.toNat < (t - 100) / 8 := by
    rw [aln_nat] at h1
    omega
  have hm : (PA (aty t) o i, tr) ∈ UNI := by
    have e0 : ((i.toNat : Nat) : Int) = i := Int.toNat_of_nonneg h0
    rcases ha with ⟨ha, rfl⟩ | ⟨ha, rfl⟩
    · have := UNI_arr3 _ ho ha i.toNat hlt
      simp only at this
      rw [e0] at this
      rw [ha]
      exact this
    · have := UNI_arr4 _ ho ha i.toNat hlt
      simp only at this
      rw [e0] at this
      rw [ha]
      exact this
  rw [List.map_cons, cv_o ad _ hm] at h
  rcases ha with ⟨ha, rfl⟩ | ⟨ha, rfl⟩
  · rw [cell_ra (arr_kind ha (by omega)) (Or.inl ha), ha] at hw9
    refine va_aldq K.1 K.2.1 K.2.2.2.2.2.1 hP j 3 hw9 rfl (vp_in_o hi h0 h1) hd ?_
    rw [clamp_o hi]
    simp only [Int.toNat_of_nonneg h0]
    rw [ha] at h
    exact h
  · rw [cell_ra (arr_kind ha (by omega)) (Or.inr ha), ha] at hw9
    refine va_aldq K.1 K.2.1 K.2.2.2.2.2.1 hP j 4 hw9 rfl (vp_in_o hi h0 h1) hd ?_
    rw [clamp_o hi]
    simp only [Int.toNat_of_nonneg h0]
    rw [ha] at h
    exact h
theorem go_iast (K : CX NW p R s mid args c own cc ad G D A nL) {t : Nat} {o i x : Int} (ho : (o, t) ∈ UNI) (ha : aty t = 0) (hi : in32 i) (h0 : 0 ≤ i) (h1 : i < aln t) (hd : decode cc bp = .ok (.iastore, 1)) (kk : Go p l e R s mid args below meth c Q ad G D A nL cells slots (bp + 1) L r (up m o i x)) : Go p l e R s mid args below meth c Q ad G D A nL cells slots bp L ((0, x) :: (0, i) :: (t, o) :: r) m := by
  intro H locs ls hP hD hS hL
  rw [List.map_cons, List.map_cons, List.map_cons, cv_o ad o ho, cv_i, cv_i]
  obtain ⟨j, hj, hw9⟩ := WS_at (ad := ad) (G := G) (m := m) ho
  have e1 := WS_set (ad := ad) (G := G) (m := m) (m' := up m o i x) hj (fun a b hab => up_ne hab)
  simp only at e1 hw9
  rw [cell_int (arr_kind ha (by omega)) (Or.inl ha) h0, ha] at e1
  rw [cell_ia (arr_kind ha (by omega)) (Or.inl ha), ha] at hw9
  refine va_iast K.1 K.2.1 K.2.2.2.2.2.1 hP hD hS j 0 hw9 rfl (vp_in_o hi h0 h1) hd (fun H1 locs1 h1 h2 h3 => ?_)
  rw [clamp_o hi, e1] at h1 h2
  exact kk H1 locs1 ls h1 h2 h3 hL
theorem go_last (K : CX NW p R s mid args c own cc ad G D A nL) {t : Nat} {o i x : Int} (ho : (o, t) ∈ UNI) (ha : aty t = 1) (hi : in32 i) (h0 : 0 ≤ i) (h1 : i < aln t) (hd : decode cc bp = .ok (.lastore, 1)) (kk : Go p l e R s mid args below meth c Q ad G D A nL cells slots (bp + 1) L r (up m o i x)) : Go p l e R s mid args below meth c Q ad G D A nL cells slots bp L ((1, x) :: (0, i) :: (t, o) :: r) m := by
  intro H locs ls hP hD hS hL
  rw [List.map_cons, List.map_cons, List.map_cons, cv_o ad o ho, cv_i, cv_l]
  obtain ⟨j, hj, hw9⟩ := WS_at (ad := ad) (G := G) (m := m) ho
  have e1 := WS_set (ad := ad) (G := G) (m := m) (m' := up m o i x) hj (fun a b hab => up_ne hab)
  simp only at e1 hw9
  rw [cell_long (arr_kind ha (by omega)) ha h0] at e1
  rw [cell_la (arr_kind ha (by omega)) ha] at hw9
  refine va_last K.1 K.2.1 K.2.2.2.2.2.1 hP hD hS j 1 hw9 rfl (vp_in_o hi h0 h1) hd (fun H1 locs1 h1 h2 h3 => ?_)
  rw [clamp_o hi, e1] at h1 h2
  exact kk H1 locs1 ls h1 h2 h3 hL
theorem nar_bool {x : Int} (h : x = 0 ∨ x = 1) : vp_nar .boolean (Int32.ofInt x) = Int32.ofInt x := by
  rcases h with rfl | rfl <;> rfl
theorem go_zast (K : CX NW p R s mid args c own cc ad G D A nL) {t : Nat} {o i x : Int} (ho : (o, t) ∈ UNI) (ha : aty t = 2) (hx : x = 0 ∨ x = 1) (hi : in32 i) (h0 : 0 ≤ i) (h1 : i < aln t) (hd : decode cc bp = .ok (.bastore, 1)) (kk : Go p l e R s mid args below meth c Q ad G D A nL cells slots (bp + 1) L r (up m o i x)) : Go p l e R s mid args below meth c Q ad G D A nL cells slots bp L ((0, x) :: (0, i) :: (t, o) :: r) m := by
  intro H locs ls hP hD hS hL
  rw [List.map_cons, List.map_cons, List.map_cons, cv_o ad o ho, cv_i, cv_i]
  obtain ⟨j, hj, hw9⟩ := WS_at (ad := ad) (G := G) (m := m) ho
  have e1 := WS_set (ad := ad) (G := G) (m := m) (m' := up m o i x) hj (fun a b hab => up_ne hab)
  simp only at e1 hw9
  rw [cell_int (arr_kind ha (by omega)) (Or.inr ha) h0, ha] at e1
  rw [cell_ia (arr_kind ha (by omega)) (Or.inr ha), ha] at hw9
  refine va_zast K.1 K.2.1 K.2.2.2.2.2.1 hP hD hS j 2 hw9 rfl (vp_in_o hi h0 h1) hd (fun H1 locs1 h1 h2 h3 => ?_)
  rw [clamp_o hi, nar_bool hx, e1] at h1 h2
  exact kk H1 locs1 ls h1 h2 h3 hL
theorem go_alen (K : CX NW p R s mid args c own cc ad G D A nL) {t : Nat} {o : Int} (ho : (o, t) ∈ UNI) (ha : ¬ aty t = 9) (hd : decode cc bp = .ok (.arraylength, 1)) (kk : Go p l e R s mid args below meth c Q ad G D A nL cells slots (bp + 1) L ((0, aln t) :: r) m) : Go p l e R s mid args below meth c Q ad G D A nL cells slots bp L ((t, o) :: r) m := by
  intro H locs ls hP hD hS hL
  have h := kk H locs ls hP hD hS hL
  rw [List.map_cons, cv_o ad o ho]
  obtain ⟨j, hj, hw9⟩ := WS_at (ad := ad) (G := G) (m := m) ho
  simp only at hw9
  rw [List.map_cons, cv_i, aln_nat] at h
  have ht : ¬ t < 100 := by
    intro z
    exact ha (by unfold aty; rw [if_pos z])
  have hk := UNI_kind _ ho
  simp only at hk
  have h5 : aty t < 5 := by
    unfold aty
    rw [if_neg ht]
    omega
  have hcase : aty t = 0 ∨ aty t = 1 ∨ aty t = 2 ∨ aty t = 3 ∨ aty t = 4 := by omega
  have hl : Int32.ofNat ((t - 100) / 8) = Int32.ofInt (((t - 100) / 8 : Nat) : Int) := rfl
  rcases hcase with h0 | h0 | h0 | h0 | h0
  · rw [cell_ia ht (Or.inl h0), h0] at hw9
    exact va_alen K.1 K.2.1 K.2.2.2.2.2.1 hP j 0 hw9 rfl hl hd h
  · rw [cell_la ht h0] at hw9
    exact va_alen K.1 K.2.1 K.2.2.2.2.2.1 hP j 1 hw9 rfl hl hd h
  · rw [cell_ia ht (Or.inr h0), h0] at hw9
    exact va_alen K.1 K.2.1 K.2.2.2.2.2.1 hP j 2 hw9 rfl hl hd h
  · rw [cell_ra ht (Or.inl h0), h0] at hw9
    exact va_alen K.1 K.2.1 K.2.2.2.2.2.1 hP j 3 hw9 rfl hl hd h
  · rw [cell_ra ht (Or.inr h0), h0] at hw9
    exact va_alen K.1 K.2.1 K.2.2.2.2.2.1 hP j 4 hw9 rfl hl hd h
theorem go_sld (K : CX NW p R s mid args c own cc ad G D A nL) (S : Sc NW ad A s s.heap m) {o i : Int} (hi : in32 i) (h0 : 0 ≤ i) (h1 : i < m 500 (-1)) (hd : decode cc bp = .ok (.iaload, 1)) (kk : Go p l e R s mid args below meth c Q ad G D A nL cells slots (bp + 1) L ((0, m 500 i) :: r) m) : Go p l e R s mid args below meth c Q ad G D A nL cells slots bp L ((0, i) :: (50, o) :: r) m := by
  intro H locs ls hP hD hS hL
  have h := kk H locs ls hP hD hS hL
  obtain ⟨Ls, xs, hX, hb, hA, hl, hlt, hx⟩ := S.1
  rw [hl] at h1
  refine va_sld K.1 K.2.1 hX hb hA hS (vp_in_o hi h0 h1) hd ?_
  have e0 : ((i.toNat : Nat) : Int) = i := Int.toNat_of_nonneg h0
  have e1 := hx i.toNat (by omega)
  rw [e0] at e1
  rw [List.map_cons, cv_i, e1, Int32.ofInt_toInt] at h
  rw [clamp_o hi]
  exact h
theorem go_slen (K : CX NW p R s mid args c own cc ad G D A nL) (S : Sc NW ad A s s.heap m) {o : Int} (hd : decode cc bp = .ok (.arraylength, 1)) (kk : Go p l e R s mid args below meth c Q ad G D A nL cells slots (bp + 1) L ((0, m 500 (-1)) :: r) m) : Go p l e R s mid args below meth c Q ad G D A nL cells slots bp L ((50, o) :: r) m := by
  intro H locs ls hP hD hS hL
  have h := kk H locs ls hP hD hS hL
  obtain ⟨Ls, xs, hX, hb, hA, hl, hlt, hx⟩ := S.1
  rw [List.map_cons, cv_i, hl] at h
  exact va_slen K.1 K.2.1 hX hb hA hS hd h
theorem go_tld (K : CX NW p R s mid args c own cc ad G D A nL) (S : Sc NW ad A s s.heap m) {o i : Int} (hi : in32 i) (h0 : 0 ≤ i) (h1 : i < 4) (hd : decode cc bp = .ok (.iaload, 1)) (kk : Go p l e R s mid args below meth c Q ad G D A nL cells slots (bp + 1) L ((0, m 501 i) :: r) m) : Go p l e R s mid args below meth c Q ad G D A nL cells slots bp L ((0, i) :: (51, o) :: r) m := by
  intro H locs ls hP hD hS hL
  have h := kk H locs ls hP hD hS hL
  obtain ⟨xs, hX, hb, hA, hx⟩ := S.2.1
  refine va_sld K.1 K.2.1 hX hb hA hS (vp_in_o hi h0 (by omega)) hd ?_
  have e0 : ((i.toNat : Nat) : Int) = i := Int.toNat_of_nonneg h0
  have e1 := hx i.toNat (by omega)
  rw [e0] at e1
  rw [List.map_cons, cv_i, e1, Int32.ofInt_toInt] at h
  rw [clamp_o hi]
  exact h
theorem go_tried (K : CX NW p R s mid args c own cc ad G D A nL) (S : Sc NW ad A s s.heap m) {idx : Nat} {o : Int} (hw : Cond.fieldLinkNest own idx RX8 "TRIED" "[I" "ThumbHedges" ∈ NW) (hd : decode cc bp = .ok (.getstatic idx, 3)) (kk : Go p l e R s mid args below meth c Q ad G D A nL cells slots (bp + 3) L ((51, o) :: r) m) : Go p l e R s mid args below meth c Q ad G D A nL cells slots bp L r m := by
  intro H locs ls hP hD hS hL
  have h := kk H locs ls hP hD hS hL
  exact va_getsN K.1 K.2.1 S.2.2.1 hS K.2.2.2.1 (va_Nw.use rfl (K.2.2.2.2.2.2.2.2.2 _ hw)) (fun x hx => hx) hd h
theorem cell_cpy {ad : Int → Nat} {G : Nat → ClassId} {m : Mm} {a d sp dp n : Int} {t : Nat} (ht : aty t = 0) (h0 : 0 ≤ n) (h1 : 0 ≤ sp) (h2 : 0 ≤ dp) :
    cellOf ad G (cpy m a sp d dp n) (d, t) = .inl (G 0, (t - 100) / 8, .inl (va_cpy (fun j => Int32.ofInt (m a (j : Nat))) (fun j => Int32.ofInt (m d (j : Nat))) sp.toNat dp.toNat n.toNat)) := by
  rw [cell_ia (arr_kind ht (by omega)) (Or.inl ht), ht]
  congr 4
  funext j
  unfold va_cpy cpy
  by_cases h : dp.toNat ≤ j ∧ j < dp.toNat + n.toNat
  · have h' : d = d ∧ dp ≤ (j : Int) ∧ (j : Int) < dp + n := by omega
    rw [if_pos h, if_pos h']
    have e : sp + ((j : Int) - dp) = ((sp.toNat + (j - dp.toNat) : Nat) : Int) := by omega
    rw [e]
  · have h' : ¬ (d = d ∧ dp ≤ (j : Int) ∧ (j : Int) < dp + n) := by omega
    rw [if_neg h, if_neg h']
theorem go_acp (K : CX NW p R s mid args c own cc ad G D A nL) {idx ts td : Nat} {a d sp dp n : Int} (hw : Cond.methodLink own idx arraycopyName ∈ WT) (hw2 : Cond.native arraycopyName ∈ WT) (hw3 : Cond.static arraycopyName ∈ WT) (hw4 : Cond.initialized "java/lang/System" ∈ WT) (ho : (a, ts) ∈ UNI) (ho2 : (d, td) ∈ UNI) (ha : aty ts = 0) (ha2 : aty td = 0) (i1 : in32 n) (i2 : in32 sp) (i3 : in32 dp) (h0 : 0 ≤ n) (h1 : 0 ≤ sp) (h2 : 0 ≤ dp) (h3 : sp + n ≤ aln ts) (h4 : dp + n ≤ aln td) (hd : decode cc bp = .ok (.invokestatic idx, 3))
    (kk : Go p l e R s mid args below meth c Q ad G D A nL cells slots (bp + 3) L [] (cpy m a sp d dp n)) : Go p l e R s mid args below meth c Q ad G D A nL cells slots bp L [(0, n), (0, dp), (td, d), (0, sp), (ts, a)] m := by
  intro H locs ls hP hD hS hL
  simp only [List.map_cons, List.map_nil, cv_o ad _ ho, cv_o ad _ ho2, cv_i]
  obtain ⟨j, hj, hw9⟩ := WS_at (ad := ad) (G := G) (m := m) ho
  obtain ⟨j2, hj2, hw92⟩ := WS_at (ad := ad) (G := G) (m := m) ho2
  have e1 := WS_set (ad := ad) (G := G) (m := m) (m' := cpy m a sp d dp n) hj2 (fun x b hab => by simp only at hab; simp [cpy, hab])
  simp only at e1 hw9 hw92
  rw [cell_cpy ha2 h0 h1 h2] at e1
  rw [cell_ia (arr_kind ha (by omega)) (Or.inl ha), ha] at hw9
  rw [cell_ia (arr_kind ha2 (by omega)) (Or.inl ha2), ha2] at hw92
  have neg : ∀ {z : Int}, in32 z → 0 ≤ z → ¬ Int32.ofInt z < 0 := fun hz h q => by
    have := (o32_lt hz in32_lit0).mp q
    omega
  rw [aln_nat] at h3 h4
  refine va_copyi (ty := .int) K.1 K.2.1 (by rw [K.2.2.1, hL.2.1]) K.2.2.2.1 (K.2.2.2.2.1 _ hw) (K.2.2.2.2.1 _ hw2) (K.2.2.2.2.1 _ hw3) (K.2.2.2.2.1 _ hw4) K.2.2.2.2.2.1 hP hD hS j j2 0 0 hw9 hw92 rfl rfl rfl (neg i2 h1) (neg i3 h2) (neg i1 h0) (by rw [clamp_o i2, clamp_o i1]; omega) (by rw [clamp_o i3, clamp_o i1]; omega) (fun _ _ => rfl) K.2.2.2.2.2.2.2.1 (Nat.le_trans (by decide) K.2.2.2.2.2.2.2.2.1) hd (fun H1 locs1 h1 h2 h3 => ?_)
  rw [clamp_o i1, clamp_o i2, clamp_o i3, e1] at h1 h2
  exact kk H1 locs1 ls h1 h2 h3 hL
theorem tsw_ok (d : Int) : ∀ (ts : List Int) (lo x : Int), tsw d lo ts x = if x < lo ∨ lo + ts.length ≤ x then d else ts.getD (x - lo).toNat d := by
  intro ts
  induction ts with
  | nil => intro lo x; simp [tsw]
  | cons t r ih =>
    intro lo x
    unfold tsw
    by_cases h : x = lo
    · subst h
      rw [if_pos rfl, if_neg (by simp; omega)]
      simp
    · rw [if_neg h, ih (lo + 1) x]
      by_cases h2 : x < lo
      · rw [if_pos (Or.inl (by omega)), if_pos (Or.inl h2)]
      · by_cases h3 : lo + ((t :: r).length : Int) ≤ x
        · rw [if_pos (Or.inr (by simp at h3; omega)), if_pos (Or.inr h3)]
        · rw [if_neg (by simp at h3; omega), if_neg (by omega)]
          have : (x - lo).toNat = (x - (lo + 1)).toNat + 1 := by omega
          rw [this]
          simp
theorem go_tsw (K : CX NW p R s mid args c own cc ad G D A nL) {dflt lo hi x : Int} {offs : Array Int} {len tgt : Nat} {d : Int} {ts : List Int} (hx : in32 x) (hd : decode cc bp = .ok (.tableswitch dflt lo hi offs, len)) (hhi : hi = lo + offs.size - 1) (hlen : offs.size = ts.length) (ht : ∀ (f : Int → Int) , True) (hdf : ∀ j : Nat, j < ts.length → x = lo + j → (bp : Int) + offs.getD j 0 = (tgt : Int)) (hdd : (x < lo ∨ lo + ts.length ≤ x) → (bp : Int) + dflt = (tgt : Int)) (kk : Go p l e R s mid args below meth c Q ad G D A nL cells slots tgt L r m) : Go p l e R s mid args below meth c Q ad G D A nL cells slots bp L ((0, x) :: r) m := by
  intro H locs ls hP hD hS hL
  have h := kk H locs ls hP hD hS hL
  show W p l e R s mid args below meth c H locs cells slots Q (F0 mid bp ls (.int (Int32.ofInt x) :: r.map (cv ad)))
  have e0 := i32_of hx
  by_cases hin : x < lo ∨ lo + ts.length ≤ x
  · exact lv_tableOut K.1 K.2.1 hd (by rw [e0, hhi, hlen]; omega) (hdd hin) h
  · have hj : (x - lo).toNat < offs.size := by omega
    refine lv_tableIn (off := offs.getD (x - lo).toNat 0) K.1 K.2.1 hd (by rw [e0]; omega) (by rw [e0, hhi, hlen]; omega) (by rw [e0]; simp [Array.getD, hj]) (hdf (x - lo).toNat (by omega) (by omega)) h
end MEM
end
section
/-! LINKS: constants, fields, methods by the owner's number and the pool's index; their words by their places in the tables -/
def OWNL : List String := ["ThumbHedges$Farm", "ThumbHedges$Hands", "ThumbHedges$Judge", "ThumbHedges$Land", "ThumbHedges$Maze", "ThumbHedges$Plan", "ThumbHedges$Reader", "ThumbHedges$Text", "ThumbHedges", "ThumbHedgesModel", "ThumbHedgesLaw", "java/lang/Integer", "java/lang/Long", "java/lang/Math"]
def OWNN (i : Nat) : String := OWNL.getD i ""
def CIT : List (Nat × Nat × Int) := [(8, 65, 1048575), (8, 89, 33080895), (11, 265, 1431655765), (11, 266, 858993459), (11, 267, 252645135), (4, 28, 1048575), (4, 33, 33554431), (4, 32, 16236015), (4, 77, 33080895), (9, 119, 1048575), (9, 155, 99999), (9, 458, 1000000), (9, 472, 33554431)]
def CLT : List (Nat × Nat × Int) := [(3, 51, (-1)), (12, 314, 6148914691236517205), (12, 316, 3689348814741910323), (12, 318, 1085102592571150095), (2, 119, (-1000000)), (2, 121, 1000000), (1, 15, 1048575), (8, 320, (-1)), (9, 163, 1152921504606846976), (9, 301, 40), (9, 303, 25), (9, 293, 1000000), (9, 295, (-1000000)), (9, 356, 587), (9, 358, 457), (9, 360, 30817), (9, 480, (-1))]
theorem CIT_in : ∀ w ∈ CIT.map (fun q => Cond.constant (OWNN q.1) q.2.1 (Int32.ofInt q.2.2)), w ∈ lw_tbl := mem_places [421, 459, 831, 832, 833, 989, 994, 1079, 1168, 1403, 1456, 1843, 1869] (by decide +kernel)
theorem CLT_in : ∀ w ∈ CLT.map (fun q => Cond.constantLong (OWNN q.1) q.2.1 (Int64.ofInt q.2.2)), w ∈ lw_tbl := mem_places [776, 862, 863, 864, 884, 885, 985, 1130, 1460, 1710, 1714, 1724, 1725, 1755, 1756, 1757, 1891] (by decide +kernel)
def FLT : List (Nat × Nat × Bool × Nat × Nat) := [(3, 35, false, 3, 0), (2, 80, true, 3, 0), (8, 157, true, 3, 0), (3, 25, false, 3, 1), (8, 334, true, 3, 1), (3, 9, false, 3, 2), (2, 60, true, 3, 2), (8, 169, true, 3, 2), (3, 15, false, 3, 3), (2, 65, true, 3, 3), (8, 225, true, 3, 3), (3, 28, false, 3, 4), (8, 176, true, 3, 4), (3, 39, false, 3, 5), (2, 74, true, 3, 5), (8, 173, true, 3, 5), (3, 18, false, 3, 6), (8, 203, true, 3, 6), (3, 42, false, 3, 7), (8, 275, true, 3, 7), (3, 22, false, 3, 8), (0, 12, false, 0, 0), (8, 82, true, 0, 0), (0, 18, false, 0, 1), (0, 37, false, 0, 2), (0, 40, false, 0, 3), (8, 216, true, 0, 3), (0, 43, false, 0, 4), (8, 90, true, 0, 4), (8, 66, true, 0, 5), (0, 46, false, 0, 5), (0, 49, false, 0, 6), (8, 103, true, 0, 6), (0, 22, false, 0, 7), (8, 129, true, 0, 7), (0, 52, false, 0, 8), (8, 361, true, 0, 8), (0, 26, false, 0, 9), (8, 364, true, 0, 9), (0, 30, false, 0, 10), (8, 367, true, 0, 10), (1, 9, false, 1, 0), (7, 24, false, 6, 0), (6, 65, true, 6, 0), (8, 188, true, 6, 0), (7, 9, false, 6, 1), (8, 191, true, 6, 1), (7, 15, false, 6, 2), (8, 194, true, 6, 2), (7, 18, false, 6, 3), (6, 105, true, 6, 3), (8, 197, true, 6, 3), (7, 21, false, 6, 4), (2, 34, true, 6, 4), (7, 28, false, 6, 5), (6, 138, true, 6, 5), (2, 18, true, 6, 6), (7, 31, false, 6, 6), (2, 37, true, 6, 7), (7, 44, false, 6, 7), (2, 41, true, 6, 8), (7, 47, false, 6, 8), (7, 35, false, 6, 9), (2, 57, true, 6, 9), (2, 68, true, 6, 10), (7, 50, false, 6, 10), (2, 71, true, 6, 11), (7, 53, false, 6, 11), (6, 9, false, 5, 0), (6, 22, false, 5, 1), (8, 100, true, 5, 1), (6, 18, false, 5, 2), (8, 109, true, 5, 2), (6, 26, false, 5, 3), (8, 116, true, 5, 3), (6, 30, false, 5, 4), (8, 120, true, 5, 4), (6, 33, false, 5, 5), (8, 123, true, 5, 5), (6, 48, false, 5, 6), (6, 55, false, 5, 7), (6, 98, false, 5, 8), (6, 42, false, 5, 9), (6, 74, false, 5, 10), (6, 39, false, 5, 11), (2, 9, false, 2, 0), (2, 15, false, 2, 1), (2, 90, false, 2, 2), (4, 21, false, 4, 0), (4, 29, false, 4, 1), (4, 9, false, 4, 2), (8, 12, false, 7, 0), (8, 16, false, 7, 1), (8, 22, false, 7, 2), (8, 28, false, 7, 3), (8, 33, false, 7, 4), (8, 40, false, 7, 5), (8, 47, false, 7, 6), (8, 54, false, 7, 7), (8, 61, false, 7, 8), (9, 7, false, 8, 0), (9, 13, false, 8, 1), (9, 16, false, 8, 2), (9, 19, false, 8, 3), (9, 22, false, 8, 4), (9, 130, false, 8, 5), (9, 25, false, 8, 6), (9, 29, false, 8, 7), (9, 137, false, 8, 8), (9, 143, false, 8, 9), (9, 146, false, 8, 10), (9, 152, false, 8, 11), (9, 159, false, 8, 12), (9, 184, false, 8, 13), (9, 187, false, 8, 14), (9, 194, false, 8, 15), (9, 32, false, 8, 16), (9, 197, false, 8, 17), (9, 207, false, 8, 18), (9, 243, false, 8, 19), (9, 281, false, 8, 20), (9, 35, false, 8, 21), (9, 38, false, 8, 22), (9, 42, false, 8, 23), (9, 46, false, 8, 24), (9, 371, false, 8, 25), (9, 50, false, 8, 26), (9, 53, false, 8, 27), (9, 56, false, 8, 28), (9, 59, false, 8, 29), (9, 62, false, 8, 30), (9, 65, false, 8, 31), (9, 68, false, 8, 32), (9, 71, false, 8, 33)]
def FLW (q : Nat × Nat × Bool × Nat × Nat) : Cond := fword (OWNN q.1) q.2.1 q.2.2.1 q.2.2.2.1 q.2.2.2.2
theorem FLT_in : ∀ w ∈ FLT.map FLW, w ∈ lw_tbl := mem_places [151, 152, 153, 154, 155, 156, 157, 158, 159, 160, 161, 162, 163, 164, 165, 166, 167, 168, 169, 170, 171, 193, 194, 195, 196, 197, 198, 199, 200, 201, 202, 203, 204, 205, 206, 207, 208, 209, 210, 211, 212, 242, 254, 255, 256, 257, 258, 259, 260, 261, 262, 263, 264, 265, 266, 267, 268, 269, 270, 271, 272, 273, 274, 275, 276, 277, 278, 279, 313, 314, 315, 316, 317, 318, 319, 320, 321, 322, 323, 324, 325, 326, 327, 328, 329, 361, 362, 363, 377, 378, 379, 389, 390, 391, 392, 393, 394, 395, 396, 397, 1295, 1296, 1297, 1298, 1299, 1300, 1301, 1302, 1303, 1304, 1305, 1306, 1307, 1308, 1309, 1310, 1311, 1312, 1313, 1314, 1315, 1316, 1317, 1318, 1319, 1320, 1321, 1322, 1323, 1324, 1325, 1326, 1327, 1328] (by decide +kernel)
def TRW : Cond := .fieldLinkNest RX3 94 RX8 "TRIED" "[I" "ThumbHedges"
def NWL : List Cond := TRW :: (FLT.filter (fun q => q.2.2.1)).map FLW
theorem FLT_w {q : Nat × Nat × Bool × Nat × Nat} (h : q ∈ FLT) : if q.2.2.1 = true then FLW q ∈ NWL else FLW q ∈ WT := by
  split
  · rename_i h1
    exact List.mem_cons_of_mem _ (List.mem_map.mpr ⟨q, List.mem_filter.mpr ⟨h, h1⟩, rfl⟩)
  · rename_i h1
    refine WT_in (FLT_in _ (List.mem_map.mpr ⟨q, h, rfl⟩)) ?_
    simp only [FLW, fword, if_neg h1]
    rfl
theorem CIT_w {q : Nat × Nat × Int} (h : q ∈ CIT) : Cond.constant (OWNN q.1) q.2.1 (Int32.ofInt q.2.2) ∈ WT := WT_in (CIT_in _ (List.mem_map.mpr ⟨q, h, rfl⟩)) rfl
theorem CLT_w {q : Nat × Nat × Int} (h : q ∈ CLT) : Cond.constantLong (OWNN q.1) q.2.1 (Int64.ofInt q.2.2) ∈ WT := WT_in (CLT_in _ (List.mem_map.mpr ⟨q, h, rfl⟩)) rfl
def YL0 : List MethodName := [⟨"ThumbHedges$Farm", "copyFrom", "(LThumbHedges$Farm;)V"⟩, ⟨"ThumbHedges$Farm", "markStep", "()V"⟩, ⟨"ThumbHedges$Farm", "takeBack", "()Z"⟩, ⟨"ThumbHedges$Hands", "isTurn", "(I)Z"⟩, ⟨"ThumbHedges$Hands", "eastOf", "(J)I"⟩, ⟨"ThumbHedges$Hands", "southOf", "(J)I"⟩, ⟨"ThumbHedges$Hands", "keep", "(IJ)V"⟩, ⟨"ThumbHedges$Hands", "mirrored", "(J)J"⟩, ⟨"ThumbHedges$Hands", "mirroredHedge", "(I)I"⟩, ⟨"ThumbHedges$Hands", "quarterRight", "(J)J"⟩, ⟨"ThumbHedges$Hands", "quarterHedge", "(I)I"⟩, ⟨"ThumbHedges$Hands", "pattern", "(II)J"⟩, ⟨"ThumbHedges$Hands", "unlikeness", "(IIJ)I"⟩, ⟨"ThumbHedges$Hands", "likestTurn", "(IJ)I"⟩, ⟨"ThumbHedges$Hands", "turnInto", "(II)I"⟩, ⟨"ThumbHedges$Hands", "hasElderTwin", "(I)Z"⟩, ⟨"ThumbHedges$Hands", "selfTurns", "(I)I"⟩, ⟨"ThumbHedges$Hands", "partingHedge", "(IJI)I"⟩, ⟨"ThumbHedges$Hands", "likePatterns", "(IJII)I"⟩, ⟨"ThumbHedges$Judge", "frostsOf", "(LThumbHedges$Text;LThumbHedges$Land;I)I"⟩, ⟨"ThumbHedges$Judge", "goesOf", "(LThumbHedges$Text;LThumbHedges$Land;I)I"⟩, ⟨"ThumbHedges$Judge", "nameCommon", "(LThumbHedges$Land;I)V"⟩, ⟨"ThumbHedges$Judge", "valueOf", "([IIILThumbHedges$Land;)I"⟩, ⟨"ThumbHedges$Judge", "pop", "()I"⟩, ⟨"ThumbHedges$Judge", "push", "(I)V"⟩, ⟨"ThumbHedges$Judge", "ofTwo", "(III)I"⟩, ⟨"ThumbHedges$Judge", "bounded", "(J)I"⟩, ⟨"ThumbHedges$Judge", "compares", "(III)Z"⟩, ⟨"ThumbHedges$Land", "copyFrom", "(LThumbHedges$Land;)V"⟩, ⟨"ThumbHedges$Land", "takeBackTo", "(LThumbHedges$Land;)V"⟩, ⟨"ThumbHedges$Land", "tellCow", "(II)I"⟩, ⟨"ThumbHedges$Land", "isCow", "(I)Z"⟩, ⟨"ThumbHedges$Land", "isHome", "(I)Z"⟩, ⟨"ThumbHedges$Land", "hasHedge", "(I)Z"⟩, ⟨"ThumbHedges$Land", "addHedge", "(I)V"⟩, ⟨"ThumbHedges$Land", "removeHedge", "(I)V"⟩, ⟨"ThumbHedges$Land", "isOpen", "(II)Z"⟩, ⟨"ThumbHedges$Land", "openWays", "(I)I"⟩, ⟨"ThumbHedges$Land", "around", "(I)I"⟩, ⟨"ThumbHedges$Land", "canGo", "(II)Z"⟩, ⟨"ThumbHedges$Land", "comesHome", "(III)Z"⟩, ⟨"ThumbHedges$Land", "wander", "(II)V"⟩, ⟨"ThumbHedges$Land", "wayByHedge", "(II)I"⟩, ⟨"ThumbHedges$Land", "draw", "()I"⟩, ⟨"ThumbHedges$Land", "write", "(II)V"⟩, ⟨"ThumbHedges$Land", "lineHour", "(I)I"⟩, ⟨"ThumbHedges$Land", "lineKind", "(I)I"⟩, ⟨"ThumbHedges$Land", "lineWhich", "(I)I"⟩, ⟨"ThumbHedges$Land", "stepsHome", "(II)I"⟩, ⟨"ThumbHedges$Land", "ringOf", "(I)I"⟩, ⟨"ThumbHedges$Maze", "layOut", "(J)V"⟩, ⟨"ThumbHedges$Maze", "grown", "(I)I"⟩, ⟨"ThumbHedges$Maze", "grownOver", "(I)I"⟩, ⟨"ThumbHedges$Maze", "within", "(II)I"⟩, ⟨"ThumbHedges$Maze", "flooded", "(II)I"⟩, ⟨"ThumbHedges$Maze", "regionOf", "(I)I"⟩, ⟨"ThumbHedges$Maze", "milesTo", "(II)I"⟩, ⟨"ThumbHedges$Maze", "wayNearer", "(III)I"⟩, ⟨"ThumbHedges$Maze", "cutsTo", "(II)I"⟩, ⟨"ThumbHedges$Maze", "farthestFrom", "(I)I"⟩]
def YL1 : List MethodName := [⟨"ThumbHedges$Maze", "lowest", "(I)I"⟩, ⟨"ThumbHedges$Maze", "regionCount", "()I"⟩, ⟨"ThumbHedges$Maze", "greatestRegion", "()I"⟩, ⟨"ThumbHedges$Maze", "isNeck", "(I)Z"⟩, ⟨"ThumbHedges$Maze", "pathsTo", "(II)J"⟩, ⟨"ThumbHedges$Maze", "pathsOn", "(IIII)J"⟩, ⟨"ThumbHedges$Maze", "fewestGates", "(I)I"⟩, ⟨"ThumbHedges$Maze", "lowestCover", "(III)I"⟩, ⟨"ThumbHedges$Plan", "isCell", "(I)Z"⟩, ⟨"ThumbHedges$Plan", "isWay", "(I)Z"⟩, ⟨"ThumbHedges$Plan", "isHedge", "(I)Z"⟩, ⟨"ThumbHedges$Plan", "cellBeyond", "(II)I"⟩, ⟨"ThumbHedges$Plan", "hedgeBy", "(II)I"⟩, ⟨"ThumbHedges$Plan", "firstCell", "(I)I"⟩, ⟨"ThumbHedges$Plan", "secondCell", "(I)I"⟩, ⟨"ThumbHedges$Plan", "apart", "(II)I"⟩, ⟨"ThumbHedges$Reader", "hasRoomFor", "(I)Z"⟩, ⟨"ThumbHedges$Reader", "addFour", "(I)V"⟩, ⟨"ThumbHedges$Reader", "reads", "()Z"⟩, ⟨"ThumbHedges$Reader", "refuse", "(I)Z"⟩, ⟨"ThumbHedges$Reader", "take", "(I)Z"⟩, ⟨"ThumbHedges$Reader", "clause", "()Z"⟩, ⟨"ThumbHedges$Reader", "deed", "(I)Z"⟩, ⟨"ThumbHedges$Reader", "oneNumber", "(III)Z"⟩, ⟨"ThumbHedges$Reader", "secondNumber", "(II)Z"⟩, ⟨"ThumbHedges$Reader", "isNumber", "(II)Z"⟩, ⟨"ThumbHedges$Reader", "sum", "()Z"⟩, ⟨"ThumbHedges$Reader", "product", "()Z"⟩, ⟨"ThumbHedges$Reader", "one", "()Z"⟩, ⟨"ThumbHedges$Reader", "emitAndAdvance", "(II)Z"⟩, ⟨"ThumbHedges$Reader", "isNameHere", "()Z"⟩, ⟨"ThumbHedges$Reader", "nested", "()Z"⟩, ⟨"ThumbHedges$Reader", "inside", "(I)Z"⟩, ⟨"ThumbHedges$Reader", "choice", "()Z"⟩, ⟨"ThumbHedges$Reader", "either", "()Z"⟩, ⟨"ThumbHedges$Reader", "both", "()Z"⟩, ⟨"ThumbHedges$Reader", "ask", "()Z"⟩, ⟨"ThumbHedges$Reader", "advance", "()V"⟩, ⟨"ThumbHedges$Reader", "isBlank", "(I)Z"⟩, ⟨"ThumbHedges$Reader", "isLetter", "(I)Z"⟩, ⟨"ThumbHedges$Reader", "isDigit", "(I)Z"⟩, ⟨"ThumbHedges$Reader", "wordRead", "()I"⟩, ⟨"ThumbHedges$Reader", "digitsRead", "()I"⟩, ⟨"ThumbHedges$Reader", "signRead", "()I"⟩, ⟨"ThumbHedges$Text", "clear", "()V"⟩, ⟨"ThumbHedges$Text", "copyFrom", "(LThumbHedges$Text;)V"⟩, ⟨"ThumbHedges$Text", "addClause", "(III)V"⟩, ⟨"ThumbHedges$Text", "has", "(I)Z"⟩, ⟨"ThumbHedges$Text", "beginLaw", "(I)V"⟩, ⟨"ThumbHedges$Text", "endLaw", "(I)V"⟩, ⟨"ThumbHedges$Text", "emit", "(II)Z"⟩, ⟨"ThumbHedges$Text", "landHere", "(I)V"⟩, ⟨"ThumbHedges", "hand", "(II)I"⟩, ⟨"ThumbHedges", "cow", "(II)I"⟩, ⟨"ThumbHedges", "gate", "(IZ)Z"⟩, ⟨"ThumbHedges", "feed", "(IIIII)I"⟩, ⟨"ThumbHedges", "end", "(I)I"⟩, ⟨"ThumbHedges", "text", "()I"⟩, ⟨"ThumbHedges", "fault", "(I)I"⟩, ⟨"ThumbHedges", "by", "(I)Z"⟩]
def YL2 : List MethodName := [⟨"ThumbHedges", "plant", "(I)Z"⟩, ⟨"ThumbHedges", "cut", "(I)Z"⟩, ⟨"ThumbHedges", "press", "(II)Z"⟩, ⟨"ThumbHedges", "go", "(II)I"⟩, ⟨"ThumbHedges", "hour", "(I)I"⟩, ⟨"ThumbHedges", "played", "(I)I"⟩, ⟨"ThumbHedges", "years", "(II)I"⟩, ⟨"ThumbHedges", "undo", "()I"⟩, ⟨"ThumbHedges", "of", "(II)I"⟩, ⟨"ThumbHedges", "cell", "(II)I"⟩, ⟨"ThumbHedges", "hedge", "(II)I"⟩, ⟨"ThumbHedges", "between", "(II)I"⟩, ⟨"ThumbHedges", "is", "(I)I"⟩, ⟨"ThumbHedges", "book", "(II)I"⟩, ⟨"ThumbHedges", "foretold", "(II)I"⟩, ⟨"ThumbHedges", "miles", "(II)I"⟩, ⟨"ThumbHedges", "way", "(III)I"⟩, ⟨"ThumbHedges", "cuts", "(II)I"⟩, ⟨"ThumbHedges", "farthest", "(I)I"⟩, ⟨"ThumbHedges", "wide", "()I"⟩, ⟨"ThumbHedges", "regions", "(Z)I"⟩, ⟨"ThumbHedges", "rings", "()I"⟩, ⟨"ThumbHedges", "ends", "()I"⟩, ⟨"ThumbHedges", "necks", "()I"⟩, ⟨"ThumbHedges", "paths", "(II)J"⟩, ⟨"ThumbHedges", "walk", "(IZ)I"⟩, ⟨"ThumbHedges", "home", "(I)I"⟩, ⟨"ThumbHedges", "gates", "(IZ)I"⟩, ⟨"ThumbHedges", "turned", "(IIZ)I"⟩, ⟨"ThumbHedges", "unlike", "(IZ)I"⟩, ⟨"ThumbHedges", "owner", "(I)I"⟩, ⟨"ThumbHedges", "twins", "(II)I"⟩, ⟨"ThumbHedges", "kinds", "()I"⟩, ⟨"ThumbHedges", "selves", "(I)I"⟩, ⟨"ThumbHedges", "look", "(I)I"⟩, ⟨"ThumbHedges", "said", "(II)I"⟩, ⟨"ThumbHedges", "whose", "()I"⟩, ⟨"ThumbHedges", "thickest", "()I"⟩, ⟨"ThumbHedges", "ledger", "(I)I"⟩, ⟨"ThumbHedges", "image", "()I"⟩, ⟨"ThumbHedges", "back", "()I"⟩, ⟨"ThumbHedges", "about", "(I)I"⟩, ⟨"ThumbHedges", "isHand", "(I)Z"⟩, ⟨"ThumbHedges", "isText", "(I)Z"⟩, ⟨"ThumbHedges", "ruling", "()LThumbHedges$Text;"⟩, ⟨"ThumbHedges", "mazeNow", "()LThumbHedges$Maze;"⟩, ⟨"ThumbHedges", "passHours", "(I)Z"⟩, ⟨"ThumbHedges", "passHour", "(LThumbHedges$Land;)V"⟩, ⟨"ThumbHedges", "does", "(III)Z"⟩, ⟨"ThumbHedges", "befall", "(I)V"⟩, ⟨"ThumbHedges", "saysAll", "(LThumbHedges$Text;)Z"⟩, ⟨"ThumbHedgesModel", "copy", "([I[I)V"⟩, ⟨"ThumbHedgesModel", "isIn", "(III)Z"⟩, ⟨"ThumbHedgesModel", "held", "(JII)I"⟩, ⟨"ThumbHedgesModel", "size", "(I)I"⟩, ⟨"ThumbHedgesModel", "has", "(II)Z"⟩, ⟨"ThumbHedgesModel", "bits", "(I)I"⟩, ⟨"ThumbHedgesModel", "isCell", "(I)Z"⟩, ⟨"ThumbHedgesModel", "isHedge", "(I)Z"⟩, ⟨"ThumbHedgesModel", "isRim", "(I)Z"⟩]
def YL3 : List MethodName := [⟨"ThumbHedgesModel", "isHand", "(I)Z"⟩, ⟨"ThumbHedgesModel", "isCow", "(I)Z"⟩, ⟨"ThumbHedgesModel", "beside", "(II)I"⟩, ⟨"ThumbHedgesModel", "hedgeOf", "(II)I"⟩, ⟨"ThumbHedgesModel", "westOf", "(I)I"⟩, ⟨"ThumbHedgesModel", "eastOf", "(I)I"⟩, ⟨"ThumbHedgesModel", "cellTurned", "(II)I"⟩, ⟨"ThumbHedgesModel", "layTurns", "()V"⟩, ⟨"ThumbHedgesModel", "isThere", "(I)Z"⟩, ⟨"ThumbHedgesModel", "change", "(I)V"⟩, ⟨"ThumbHedgesModel", "isOpen", "(II)Z"⟩, ⟨"ThumbHedgesModel", "openOf", "(I)I"⟩, ⟨"ThumbHedgesModel", "aroundOf", "(I)I"⟩, ⟨"ThumbHedgesModel", "allNow", "()I"⟩, ⟨"ThumbHedgesModel", "cellOf", "(I)I"⟩, ⟨"ThumbHedgesModel", "wayOf", "(I)I"⟩, ⟨"ThumbHedgesModel", "put", "(III)V"⟩, ⟨"ThumbHedgesModel", "hand", "(II)I"⟩, ⟨"ThumbHedgesModel", "cow", "(II)I"⟩, ⟨"ThumbHedgesModel", "gate", "(IZ)Z"⟩, ⟨"ThumbHedgesModel", "four", "(I)V"⟩, ⟨"ThumbHedgesModel", "feed", "(IIIII)I"⟩, ⟨"ThumbHedgesModel", "end", "(I)I"⟩, ⟨"ThumbHedgesModel", "byteAt", "(I)I"⟩, ⟨"ThumbHedgesModel", "isLetterByte", "(I)Z"⟩, ⟨"ThumbHedgesModel", "isFigure", "(I)Z"⟩, ⟨"ThumbHedgesModel", "isSign", "(I)Z"⟩, ⟨"ThumbHedgesModel", "nextToken", "()V"⟩, ⟨"ThumbHedgesModel", "w2", "(II)J"⟩, ⟨"ThumbHedgesModel", "w3", "(III)J"⟩, ⟨"ThumbHedgesModel", "w4", "(IIII)J"⟩, ⟨"ThumbHedgesModel", "w5", "(IIIII)J"⟩, ⟨"ThumbHedgesModel", "w6", "(IIIIII)J"⟩, ⟨"ThumbHedgesModel", "isWord", "(J)Z"⟩, ⟨"ThumbHedgesModel", "emit", "(II)V"⟩, ⟨"ThumbHedgesModel", "nameOf", "()I"⟩, ⟨"ThumbHedgesModel", "isOf", "(I)Z"⟩, ⟨"ThumbHedgesModel", "rank", "(I)I"⟩, ⟨"ThumbHedgesModel", "settle", "(I)V"⟩, ⟨"ThumbHedgesModel", "openAt", "()I"⟩, ⟨"ThumbHedgesModel", "openNow", "()I"⟩, ⟨"ThumbHedgesModel", "isCompared", "()Z"⟩, ⟨"ThumbHedgesModel", "isAskAhead", "()Z"⟩, ⟨"ThumbHedgesModel", "opened", "(I)I"⟩, ⟨"ThumbHedgesModel", "beginOne", "()I"⟩, ⟨"ThumbHedgesModel", "endOne", "()I"⟩, ⟨"ThumbHedgesModel", "compareOf", "()I"⟩, ⟨"ThumbHedgesModel", "betweenOf", "()I"⟩, ⟨"ThumbHedgesModel", "partOf", "(I)I"⟩, ⟨"ThumbHedgesModel", "behindOne", "()I"⟩, ⟨"ThumbHedgesModel", "summed", "()I"⟩, ⟨"ThumbHedgesModel", "figure", "(III)I"⟩, ⟨"ThumbHedgesModel", "lawClause", "(I)I"⟩, ⟨"ThumbHedgesModel", "pair", "(IIJI)I"⟩, ⟨"ThumbHedgesModel", "body", "(II)I"⟩, ⟨"ThumbHedgesModel", "sortOf", "()I"⟩, ⟨"ThumbHedgesModel", "clause", "()I"⟩, ⟨"ThumbHedgesModel", "readText", "()I"⟩, ⟨"ThumbHedgesModel", "text", "()I"⟩, ⟨"ThumbHedgesModel", "fault", "(I)I"⟩]
def YL4 : List MethodName := [⟨"ThumbHedgesModel", "by", "(I)Z"⟩, ⟨"ThumbHedgesModel", "clip", "(J)J"⟩, ⟨"ThumbHedgesModel", "two", "(IJJ)J"⟩, ⟨"ThumbHedgesModel", "isAsked", "(IJJ)Z"⟩, ⟨"ThumbHedgesModel", "hedgeThere", "(J)J"⟩, ⟨"ThumbHedgesModel", "apart", "(II)I"⟩, ⟨"ThumbHedgesModel", "farOf", "(JJ)J"⟩, ⟨"ThumbHedgesModel", "joined", "(IZZ)Z"⟩, ⟨"ThumbHedgesModel", "summedUp", "(II)J"⟩, ⟨"ThumbHedgesModel", "says", "(IIIII)I"⟩, ⟨"ThumbHedgesModel", "name", "(I)V"⟩, ⟨"ThumbHedgesModel", "frostsOf", "(II)I"⟩, ⟨"ThumbHedgesModel", "goesOf", "(I)I"⟩, ⟨"ThumbHedgesModel", "write", "(II)V"⟩, ⟨"ThumbHedgesModel", "drawnBy", "(I)I"⟩, ⟨"ThumbHedgesModel", "anew", "()V"⟩, ⟨"ThumbHedgesModel", "isHome", "(I)Z"⟩, ⟨"ThumbHedgesModel", "goNow", "(II)I"⟩, ⟨"ThumbHedgesModel", "onward", "(II)I"⟩, ⟨"ThumbHedgesModel", "goOn", "(I)V"⟩, ⟨"ThumbHedgesModel", "pass", "()V"⟩, ⟨"ThumbHedgesModel", "turnedBy", "(IIIZ)I"⟩, ⟨"ThumbHedgesModel", "ofHand", "(IIZ)I"⟩, ⟨"ThumbHedgesModel", "pressNow", "(II)V"⟩, ⟨"ThumbHedgesModel", "keep", "()V"⟩, ⟨"ThumbHedgesModel", "undo", "()I"⟩, ⟨"ThumbHedgesModel", "plant", "(I)Z"⟩, ⟨"ThumbHedgesModel", "cut", "(I)Z"⟩, ⟨"ThumbHedgesModel", "press", "(II)Z"⟩, ⟨"ThumbHedgesModel", "canGo", "(II)Z"⟩, ⟨"ThumbHedgesModel", "go", "(II)I"⟩, ⟨"ThumbHedgesModel", "arePassed", "(I)Z"⟩, ⟨"ThumbHedgesModel", "hour", "(I)I"⟩, ⟨"ThumbHedgesModel", "isPlayed", "(I)Z"⟩, ⟨"ThumbHedgesModel", "played", "(I)I"⟩, ⟨"ThumbHedgesModel", "happens", "(I)V"⟩, ⟨"ThumbHedgesModel", "years", "(II)I"⟩, ⟨"ThumbHedgesModel", "of", "(II)I"⟩, ⟨"ThumbHedgesModel", "cell", "(II)I"⟩, ⟨"ThumbHedgesModel", "hedge", "(II)I"⟩, ⟨"ThumbHedgesModel", "between", "(II)I"⟩, ⟨"ThumbHedgesModel", "is", "(I)I"⟩, ⟨"ThumbHedgesModel", "entry", "(II)I"⟩, ⟨"ThumbHedgesModel", "book", "(II)I"⟩, ⟨"ThumbHedgesModel", "ledger", "(I)I"⟩, ⟨"ThumbHedgesModel", "thickest", "()I"⟩, ⟨"ThumbHedgesModel", "foretold", "(II)I"⟩, ⟨"ThumbHedgesModel", "layFar", "(IZ)V"⟩, ⟨"ThumbHedgesModel", "areCells", "(II)Z"⟩, ⟨"ThumbHedgesModel", "miles", "(II)I"⟩, ⟨"ThumbHedgesModel", "way", "(III)I"⟩, ⟨"ThumbHedgesModel", "cuts", "(II)I"⟩, ⟨"ThumbHedgesModel", "farthestNow", "()I"⟩, ⟨"ThumbHedgesModel", "farthest", "(I)I"⟩, ⟨"ThumbHedgesModel", "wide", "()I"⟩, ⟨"ThumbHedgesModel", "regionOf", "(II)I"⟩, ⟨"ThumbHedgesModel", "regions", "(Z)I"⟩, ⟨"ThumbHedgesModel", "rings", "()I"⟩, ⟨"ThumbHedgesModel", "ends", "()I"⟩, ⟨"ThumbHedgesModel", "isNeck", "(I)Z"⟩]
def YL5 : List MethodName := [⟨"ThumbHedgesModel", "necks", "()I"⟩, ⟨"ThumbHedgesModel", "paths", "(II)J"⟩, ⟨"ThumbHedgesModel", "walk", "(IZ)I"⟩, ⟨"ThumbHedgesModel", "home", "(I)I"⟩, ⟨"ThumbHedgesModel", "gates", "(IZ)I"⟩, ⟨"ThumbHedgesModel", "layReach", "(I)V"⟩, ⟨"ThumbHedgesModel", "lowestGates", "(I)I"⟩, ⟨"ThumbHedgesModel", "turned", "(IIZ)I"⟩, ⟨"ThumbHedgesModel", "unlikeBy", "(II)I"⟩, ⟨"ThumbHedgesModel", "bestTurn", "(I)I"⟩, ⟨"ThumbHedgesModel", "unlike", "(IZ)I"⟩, ⟨"ThumbHedgesModel", "owner", "(I)I"⟩, ⟨"ThumbHedgesModel", "twinBy", "(II)I"⟩, ⟨"ThumbHedgesModel", "twins", "(II)I"⟩, ⟨"ThumbHedgesModel", "kinds", "()I"⟩, ⟨"ThumbHedgesModel", "selves", "(I)I"⟩, ⟨"ThumbHedgesModel", "look", "(I)I"⟩, ⟨"ThumbHedgesModel", "said", "(II)I"⟩, ⟨"ThumbHedgesModel", "whose", "()I"⟩, ⟨"ThumbHedgesModel", "image", "()I"⟩, ⟨"ThumbHedgesModel", "back", "()I"⟩, ⟨"ThumbHedgesModel", "about", "(I)I"⟩, ⟨"java/lang/Integer", "bitCount", "(I)I"⟩, ⟨"java/lang/Long", "bitCount", "(J)I"⟩, ⟨"java/lang/Math", "abs", "(I)I"⟩, ⟨"java/lang/Math", "max", "(II)I"⟩, ⟨"java/lang/Math", "max", "(JJ)J"⟩, ⟨"java/lang/Math", "min", "(II)I"⟩, ⟨"java/lang/Math", "min", "(JJ)J"⟩, ⟨"ThumbHedgesLaw", "law", "([I)Z"⟩]
def YL : List MethodName := (YL0 ++ (YL1 ++ (YL2 ++ (YL3 ++ (YL4 ++ YL5)))))
def YN (k : Nat) : MethodName := YL.getD k ⟨"", "", ""⟩
def MLT0 : List (Nat × Nat × Nat) := [(10, 13, 112), (8, 69, 6), (1, 17, 7), (1, 24, 8), (1, 28, 73), (1, 21, 9), (1, 33, 10), (10, 18, 113), (8, 73, 68), (8, 79, 69), (8, 85, 30), (10, 22, 114), (10, 27, 115), (8, 93, 76), (8, 96, 77), (10, 32, 116), (10, 37, 117), (8, 105, 78), (6, 36, 104), (6, 45, 97), (6, 147, 98), (6, 150, 99), (6, 153, 101), (6, 157, 100), (6, 160, 102), (6, 176, 327), (6, 163, 103), (6, 51, 81), (6, 58, 79), (6, 62, 107), (6, 68, 82), (6, 87, 83), (6, 95, 85), (6, 101, 106), (6, 91, 84), (6, 71, 80), (6, 77, 108), (7, 56, 106), (6, 81, 86), (6, 108, 87), (6, 114, 88), (6, 117, 89), (6, 111, 110), (6, 120, 90), (6, 123, 91), (6, 126, 92), (6, 129, 96), (6, 132, 93), (6, 135, 94), (6, 144, 95), (6, 141, 111), (6, 84, 109), (8, 112, 105), (10, 42, 118), (10, 46, 119), (8, 126, 163), (10, 51, 120), (8, 132, 70), (8, 135, 33), (8, 138, 1), (0, 33, 28), (3, 31, 29), (8, 141, 34), (10, 55, 121), (8, 144, 35), (10, 59, 122), (8, 147, 162), (8, 150, 3), (8, 153, 11), (10, 64, 123)]
theorem MLT0_in : ∀ w ∈ MLT0.map (fun q => Cond.methodLink (OWNN q.1) q.2.1 (YN q.2.2)), w ∈ lw_tbl := mem_places [417, 422, 426, 429, 432, 435, 438, 441, 445, 448, 451, 455, 460, 464, 468, 472, 476, 480, 484, 488, 492, 495, 498, 551, 554, 558, 561, 623, 627, 631, 635, 639, 643, 647, 651, 655, 659, 663, 664, 668, 672, 676, 680, 684, 688, 692, 696, 700, 704, 708, 712, 716, 720, 728, 732, 736, 740, 744, 747, 751, 755, 759, 764, 768, 772, 777, 781, 785, 788, 792] (by decide +kernel)
def MLT1 : List (Nat × Nat × Nat) := [(8, 161, 39), (3, 67, 31), (3, 70, 32), (3, 73, 69), (3, 63, 36), (3, 53, 72), (3, 59, 33), (8, 165, 40), (3, 76, 71), (10, 68, 124), (8, 179, 322), (8, 185, 166), (8, 290, 167), (8, 228, 164), (8, 222, 32), (8, 232, 20), (2, 30, 21), (2, 77, 38), (2, 84, 323), (2, 44, 22), (2, 93, 23), (2, 97, 24), (2, 101, 33), (2, 105, 25), (2, 109, 26), (2, 123, 328), (2, 126, 326), (2, 112, 75), (5, 15, 324), (2, 115, 27), (2, 48, 327), (2, 54, 325), (8, 381, 41), (3, 79, 42), (3, 90, 37), (3, 82, 40), (3, 86, 44), (8, 206, 43), (8, 255, 19), (2, 24, 73), (8, 385, 44), (10, 72, 125), (8, 200, 168), (8, 388, 113), (8, 391, 114), (8, 395, 120), (8, 398, 121), (8, 401, 122), (8, 404, 123), (10, 76, 126), (8, 210, 169), (10, 80, 127), (8, 213, 2), (0, 61, 29), (10, 84, 128), (8, 219, 31), (10, 88, 129), (8, 236, 38), (8, 239, 37), (8, 242, 165), (8, 377, 50), (4, 15, 4), (4, 25, 5), (8, 246, 55), (4, 38, 54), (4, 34, 51), (10, 92, 130), (8, 249, 73), (8, 252, 74), (5, 9, 73)]
theorem MLT1_in : ∀ w ∈ MLT1.map (fun q => Cond.methodLink (OWNN q.1) q.2.1 (YN q.2.2)), w ∈ lw_tbl := mem_places [796, 800, 804, 808, 809, 813, 816, 817, 821, 824, 828, 834, 838, 842, 846, 847, 851, 855, 859, 865, 869, 873, 877, 878, 881, 886, 889, 892, 895, 898, 901, 902, 903, 907, 911, 917, 918, 922, 926, 930, 931, 932, 936, 940, 941, 942, 943, 944, 945, 946, 950, 954, 958, 962, 963, 967, 968, 972, 973, 974, 978, 982, 986, 990, 995, 999, 1003, 1007, 1008, 1011] (by decide +kernel)
def MLT2 : List (Nat × Nat × Nat) := [(10, 96, 131), (8, 258, 71), (8, 261, 72), (10, 100, 132), (8, 264, 4), (8, 268, 5), (8, 271, 323), (10, 104, 133), (8, 278, 45), (8, 281, 46), (8, 284, 47), (10, 108, 134), (8, 287, 28), (10, 112, 135), (8, 293, 56), (10, 116, 136), (8, 296, 57), (4, 42, 53), (4, 45, 71), (10, 121, 137), (8, 300, 58), (4, 50, 55), (4, 53, 52), (10, 125, 138), (8, 303, 59), (4, 56, 60), (4, 59, 322), (10, 129, 139), (8, 306, 325), (10, 133, 140), (8, 311, 62), (4, 64, 325), (8, 314, 61), (10, 138, 141), (10, 142, 142), (10, 146, 143), (8, 317, 63), (10, 150, 144), (8, 322, 64), (4, 69, 65), (10, 155, 145), (8, 325, 48), (8, 328, 49), (10, 160, 146), (8, 331, 53), (10, 164, 147), (8, 337, 66), (4, 73, 67), (10, 168, 148), (10, 173, 149), (8, 340, 13), (1, 46, 12), (1, 36, 11), (1, 40, 323), (8, 344, 12), (10, 177, 150), (10, 181, 151), (8, 348, 14), (10, 185, 152), (8, 351, 15), (1, 50, 14), (10, 189, 153), (8, 354, 16), (10, 193, 154), (8, 357, 17), (1, 54, 18), (1, 58, 325), (10, 197, 155), (10, 201, 156), (8, 370, 170)]
theorem MLT2_in : ∀ w ∈ MLT2.map (fun q => Cond.methodLink (OWNN q.1) q.2.1 (YN q.2.2)), w ∈ lw_tbl := mem_places [1012, 1016, 1017, 1018, 1022, 1023, 1024, 1025, 1029, 1033, 1037, 1041, 1045, 1046, 1050, 1054, 1058, 1062, 1066, 1067, 1071, 1075, 1076, 1080, 1084, 1088, 1091, 1092, 1096, 1097, 1101, 1105, 1106, 1110, 1114, 1118, 1122, 1126, 1131, 1135, 1139, 1143, 1147, 1151, 1155, 1156, 1160, 1164, 1169, 1173, 1177, 1181, 1185, 1186, 1187, 1188, 1192, 1196, 1200, 1204, 1208, 1209, 1213, 1217, 1221, 1225, 1229, 1230, 1234, 1238] (by decide +kernel)
def MLT3 : List (Nat × Nat × Nat) := [(10, 205, 157), (10, 209, 158), (10, 213, 159), (8, 374, 0), (10, 217, 160), (10, 221, 161), (9, 74, 187), (9, 89, 184), (9, 92, 186), (9, 96, 185), (9, 99, 183), (9, 85, 174), (9, 77, 171), (10, 17, 197), (9, 81, 172), (10, 21, 198), (9, 120, 177), (9, 123, 196), (10, 26, 199), (9, 127, 179), (10, 31, 201), (9, 133, 200), (10, 36, 202), (10, 41, 238), (9, 290, 237), (9, 217, 207), (9, 140, 203), (9, 149, 205), (9, 156, 204), (9, 165, 206), (9, 287, 236), (9, 278, 235), (9, 190, 212), (9, 180, 211), (9, 176, 210), (9, 172, 209), (9, 168, 208), (9, 232, 213), (9, 102, 175), (9, 284, 234), (9, 271, 233), (9, 267, 231), (9, 275, 232), (9, 264, 230), (9, 258, 229), (9, 252, 227), (9, 214, 220), (9, 210, 219), (9, 246, 221), (9, 200, 217), (9, 249, 226), (9, 240, 218), (9, 203, 214), (9, 255, 228), (9, 226, 225), (9, 261, 224), (9, 220, 215), (9, 223, 216), (9, 229, 223), (9, 236, 222), (10, 45, 239), (10, 50, 240), (10, 83, 265), (10, 54, 266), (9, 400, 178), (9, 109, 188), (9, 403, 264), (9, 389, 189), (10, 58, 267), (10, 63, 268)]
theorem MLT3_in : ∀ w ∈ MLT3.map (fun q => Cond.methodLink (OWNN q.1) q.2.1 (YN q.2.2)), w ∈ lw_tbl := mem_places [1242, 1246, 1250, 1254, 1259, 1263, 1273, 1277, 1280, 1283, 1286, 1289, 1292, 1399, 1404, 1407, 1411, 1414, 1418, 1422, 1425, 1429, 1433, 1437, 1441, 1445, 1449, 1453, 1457, 1461, 1464, 1468, 1472, 1475, 1478, 1481, 1484, 1487, 1491, 1494, 1498, 1502, 1506, 1510, 1514, 1518, 1522, 1526, 1530, 1534, 1537, 1541, 1545, 1549, 1553, 1557, 1561, 1565, 1569, 1573, 1577, 1581, 1585, 1589, 1593, 1596, 1600, 1604, 1608, 1612] (by decide +kernel)
def MLT4 : List (Nat × Nat × Nat) := [(9, 406, 180), (9, 409, 263), (9, 396, 262), (9, 392, 261), (10, 67, 270), (9, 415, 269), (9, 412, 181), (9, 368, 256), (9, 347, 194), (9, 113, 190), (9, 106, 182), (9, 365, 257), (10, 71, 272), (9, 421, 271), (9, 418, 260), (9, 377, 252), (9, 340, 250), (9, 334, 192), (9, 337, 193), (9, 116, 176), (9, 350, 195), (9, 343, 249), (9, 327, 248), (9, 308, 244), (9, 311, 246), (9, 305, 245), (9, 315, 242), (9, 297, 241), (9, 319, 243), (9, 323, 247), (9, 330, 173), (9, 380, 259), (9, 362, 258), (9, 374, 253), (9, 383, 254), (9, 353, 255), (9, 386, 251), (10, 75, 274), (9, 443, 273), (9, 424, 198), (9, 427, 199), (9, 431, 266), (9, 434, 267), (9, 437, 268), (9, 440, 270), (10, 79, 276), (9, 446, 275), (10, 87, 277), (10, 91, 278), (9, 449, 191), (9, 452, 295), (10, 95, 279), (10, 99, 280), (10, 103, 281), (10, 107, 283), (9, 455, 282), (10, 212, 284), (10, 208, 285), (10, 111, 286), (10, 115, 289), (9, 459, 288), (9, 462, 287), (10, 120, 290), (9, 466, 289), (10, 124, 291), (10, 128, 293), (9, 469, 292), (10, 132, 294), (10, 137, 296), (10, 141, 297)]
theorem MLT4_in : ∀ w ∈ MLT4.map (fun q => Cond.methodLink (OWNN q.1) q.2.1 (YN q.2.2)), w ∈ lw_tbl := mem_places [1616, 1620, 1624, 1628, 1632, 1636, 1640, 1644, 1648, 1652, 1656, 1659, 1663, 1667, 1671, 1675, 1679, 1683, 1687, 1691, 1694, 1698, 1702, 1706, 1711, 1715, 1718, 1721, 1726, 1729, 1732, 1735, 1739, 1743, 1747, 1751, 1758, 1762, 1766, 1770, 1771, 1772, 1773, 1774, 1775, 1776, 1780, 1784, 1788, 1792, 1796, 1800, 1804, 1808, 1812, 1816, 1820, 1824, 1828, 1832, 1836, 1839, 1844, 1848, 1849, 1853, 1857, 1861, 1865, 1870] (by decide +kernel)
def MLT5 : List (Nat × Nat × Nat) := [(9, 473, 296), (10, 145, 298), (10, 149, 300), (9, 477, 299), (10, 154, 301), (10, 159, 302), (10, 163, 303), (10, 167, 304), (9, 482, 305), (9, 485, 306), (10, 172, 307), (10, 176, 310), (9, 491, 309), (9, 488, 308), (10, 180, 311), (9, 494, 310), (10, 184, 313), (9, 498, 312), (10, 188, 314), (10, 192, 315), (10, 196, 316), (10, 200, 317), (10, 204, 318), (10, 216, 319), (10, 220, 320), (10, 224, 321)]
theorem MLT5_in : ∀ w ∈ MLT5.map (fun q => Cond.methodLink (OWNN q.1) q.2.1 (YN q.2.2)), w ∈ lw_tbl := mem_places [1874, 1875, 1879, 1883, 1887, 1892, 1896, 1900, 1904, 1908, 1912, 1916, 1920, 1924, 1928, 1932, 1933, 1937, 1941, 1945, 1949, 1953, 1957, 1961, 1965, 1969] (by decide +kernel)
def MLT : List (Nat × Nat × Nat) := MLT0 ++ (MLT1 ++ (MLT2 ++ (MLT3 ++ (MLT4 ++ (MLT5)))))
theorem MLT_w {q : Nat × Nat × Nat} (h : q ∈ MLT) : Cond.methodLink (OWNN q.1) q.2.1 (YN q.2.2) ∈ WT := by
  refine WT_in ?_ rfl
  rcases List.mem_append.mp h with h | h
  · exact MLT0_in _ (List.mem_map.mpr ⟨q, h, rfl⟩)
  rcases List.mem_append.mp h with h | h
  · exact MLT1_in _ (List.mem_map.mpr ⟨q, h, rfl⟩)
  rcases List.mem_append.mp h with h | h
  · exact MLT2_in _ (List.mem_map.mpr ⟨q, h, rfl⟩)
  rcases List.mem_append.mp h with h | h
  · exact MLT3_in _ (List.mem_map.mpr ⟨q, h, rfl⟩)
  rcases List.mem_append.mp h with h | h
  · exact MLT4_in _ (List.mem_map.mpr ⟨q, h, rfl⟩)
  exact MLT5_in _ (List.mem_map.mpr ⟨q, h, rfl⟩)
def ACT : List (Nat × Nat) := [(7, 38), (3, 45), (0, 55)]
theorem ACT_in : ∀ w ∈ ACT.map (fun q => Cond.methodLink (OWNN q.1) q.2 arraycopyName), w ∈ lw_tbl := mem_places [724, 763, 1258] (by decide +kernel)
theorem ACT_w {q : Nat × Nat} (h : q ∈ ACT) : Cond.methodLink (OWNN q.1) q.2 arraycopyName ∈ WT := WT_in (ACT_in _ (List.mem_map.mpr ⟨q, h, rfl⟩)) rfl
theorem acp_nat : Cond.native arraycopyName ∈ WT := WT_in (mem_places (ws := [Cond.native arraycopyName]) [726] (by decide +kernel) _ List.mem_cons_self) rfl
theorem acp_sta : Cond.static arraycopyName ∈ WT := WT_in (mem_places (ws := [Cond.static arraycopyName]) [725] (by decide +kernel) _ List.mem_cons_self) rfl
theorem acp_ini : Cond.initialized "java/lang/System" ∈ WT := WT_in (mem_places (ws := [Cond.initialized "java/lang/System"]) [128] (by decide +kernel) _ List.mem_cons_self) rfl
theorem NWL_in : ∀ w ∈ NWL, w ∈ lw_tbl := by
  intro w hw
  rcases List.mem_cons.mp hw with rfl | hw
  · exact mem_places (ws := [TRW]) [915] (by decide +kernel) _ List.mem_cons_self
  · obtain ⟨q, hq, rfl⟩ := List.mem_map.mp hw
    exact FLT_in _ (List.mem_map.mpr ⟨q, (List.mem_filter.mp hq).1, rfl⟩)
/-- the static methods -/
def STK : List Nat := [3, 4, 5, 7, 8, 9, 10, 25, 26, 27, 52, 60, 68, 69, 70, 71, 72, 73, 74, 75, 98, 99, 100, 171, 172, 173, 174, 175, 176, 177, 178, 179, 182, 183, 184, 185, 186, 204, 205, 206, 208, 209, 210, 211, 212, 217, 241, 242, 243, 245, 246, 247, 288, 322, 323, 324, 325, 326, 327, 328, 329]
end
section
/-! THE CHECK OF A CODE TABLE, AND ONE STEP OF IT -/
def bpOf (B : List (Nat × Instr × Nat)) (j : Nat) : Nat := (B.getD j (0, .nop, 0)).1
def okN (B : List (Nat × Instr × Nat)) (j : Nat) (b : Nat × Instr × Nat) : Bool := decide (j + 1 < B.length ∧ bpOf B (j + 1) = b.1 + b.2.2)
def okT (B : List (Nat × Instr × Nat)) (b : Nat × Instr × Nat) (off t : Int) : Bool := decide (0 ≤ t ∧ t.toNat < B.length ∧ (b.1 : Int) + off = (bpOf B t.toNat : Int))
def px (i : Instr) : Nat := match i with
  | .ldc n => n
  | .ldc_w n => n
  | .ldc2_w n => n
  | .getfield n => n
  | .putfield n => n
  | .invokestatic n => n
  | .invokevirtual n => n
  | .getstatic n => n
  | _ => 0
def brOff (i : Instr) : Int := match i with
  | .goto o => o
  | .if_icmp _ o => o
  | .ifCond _ o => o
  | _ => 0
def tsRaw (i : Instr) : Int × Int × Int × Array Int := match i with
  | .tableswitch d lo hi ts => (d, lo, hi, ts)
  | _ => (0, 0, 0, #[])
def lkRaw (i : Instr) : Int × Array (Int × Int) := match i with
  | .lookupswitch d ps => (d, ps)
  | _ => (0, #[])
/-- the texts' own methods by the reader's pool: length 1, charAt 2, indexOf 3 -/
def STT : List (Nat × Nat) := [(168, 1), (172, 2), (184, 3)]
def okE (own : Nat) (B : List (Nat × Instr × Nat)) (j : Nat) (b : Nat × Instr × Nat) (res : Instr) : Bool := match res with
  | .iconst v => okN B j b && (decide (-2147483648 ≤ v ∧ v ≤ 2147483647) && (decide (b.2.1 = .iconst v ∧ b.2.2 = 1) || (decide (b.2.1 = .bipush v ∧ b.2.2 = 2 ∧ (Int8.ofInt v).toInt32 = Int32.ofInt v) || (decide (b.2.1 = .sipush v ∧ b.2.2 = 3 ∧ (Int16.ofInt v).toInt32 = Int32.ofInt v) || (decide (b.2.1 = .ldc (px b.2.1) ∧ b.2.2 = 2 ∧ (own, px b.2.1, v) ∈ CIT) || decide (b.2.1 = .ldc_w (px b.2.1) ∧ b.2.2 = 3 ∧ (own, px b.2.1, v) ∈ CIT))))))
  | .bipush v => okN B j b && (decide (-9223372036854775808 ≤ v ∧ v ≤ 9223372036854775807) && (decide (∃ n : Fin 2, b.2.1 = .lconst n ∧ b.2.2 = 1 ∧ Int64.ofNat (n : Nat) = Int64.ofInt v) || decide (b.2.1 = .ldc2_w (px b.2.1) ∧ b.2.2 = 3 ∧ (own, px b.2.1, v) ∈ CLT)))
  | .iload i => okN B j b && (decide (b.2.1 = .iload i ∧ b.2.2 = 2) || decide (∃ n : Fin 4, b.2.1 = .iload_n n ∧ b.2.2 = 1 ∧ (n : Nat) = i))
  | .istore i => okN B j b && (decide (b.2.1 = .istore i ∧ b.2.2 = 2) || decide (∃ n : Fin 4, b.2.1 = .istore_n n ∧ b.2.2 = 1 ∧ (n : Nat) = i))
  | .lload i => okN B j b && (decide (b.2.1 = .lload i ∧ b.2.2 = 2) || decide (∃ n : Fin 4, b.2.1 = .lload_n n ∧ b.2.2 = 1 ∧ (n : Nat) = i))
  | .lstore i => okN B j b && (decide (b.2.1 = .lstore i ∧ b.2.2 = 2) || decide (∃ n : Fin 4, b.2.1 = .lstore_n n ∧ b.2.2 = 1 ∧ (n : Nat) = i))
  | .aload i => okN B j b && (decide (b.2.1 = .aload i ∧ b.2.2 = 2) || decide (∃ n : Fin 4, b.2.1 = .aload_n n ∧ b.2.2 = 1 ∧ (n : Nat) = i))
  | .astore i => okN B j b && (decide (b.2.1 = .astore i ∧ b.2.2 = 2) || decide (∃ n : Fin 4, b.2.1 = .astore_n n ∧ b.2.2 = 1 ∧ (n : Nat) = i))
  | .iinc i n => okN B j b && decide (b.2.1 = .iinc i n ∧ b.2.2 = 3)
  | .iadd => okN B j b && decide (b.2.1 = .iadd ∧ b.2.2 = 1)
  | .isub => okN B j b && decide (b.2.1 = .isub ∧ b.2.2 = 1)
  | .imul => okN B j b && decide (b.2.1 = .imul ∧ b.2.2 = 1)
  | .iand => okN B j b && decide (b.2.1 = .iand ∧ b.2.2 = 1)
  | .ior => okN B j b && decide (b.2.1 = .ior ∧ b.2.2 = 1)
  | .ixor => okN B j b && decide (b.2.1 = .ixor ∧ b.2.2 = 1)
  | .ishl => okN B j b && decide (b.2.1 = .ishl ∧ b.2.2 = 1)
  | .ishr => okN B j b && decide (b.2.1 = .ishr ∧ b.2.2 = 1)
  | .iushr => okN B j b && decide (b.2.1 = .iushr ∧ b.2.2 = 1)
  | .idiv => okN B j b && decide (b.2.1 = .idiv ∧ b.2.2 = 1)
  | .irem => okN B j b && decide (b.2.1 = .irem ∧ b.2.2 = 1)
  | .ladd => okN B j b && decide (b.2.1 = .ladd ∧ b.2.2 = 1)
  | .lsub => okN B j b && decide (b.2.1 = .lsub ∧ b.2.2 = 1)
  | .lmul => okN B j b && decide (b.2.1 = .lmul ∧ b.2.2 = 1)
  | .land => okN B j b && decide (b.2.1 = .land ∧ b.2.2 = 1)
  | .lor => okN B j b && decide (b.2.1 = .lor ∧ b.2.2 = 1)
  | .lxor => okN B j b && decide (b.2.1 = .lxor ∧ b.2.2 = 1)
  | .lshl => okN B j b && decide (b.2.1 = .lshl ∧ b.2.2 = 1)
  | .lshr => okN B j b && decide (b.2.1 = .lshr ∧ b.2.2 = 1)
  | .lushr => okN B j b && decide (b.2.1 = .lushr ∧ b.2.2 = 1)
  | .ldiv => okN B j b && decide (b.2.1 = .ldiv ∧ b.2.2 = 1)
  | .lrem => okN B j b && decide (b.2.1 = .lrem ∧ b.2.2 = 1)
  | .ineg => okN B j b && decide (b.2.1 = .ineg ∧ b.2.2 = 1)
  | .lneg => okN B j b && decide (b.2.1 = .lneg ∧ b.2.2 = 1)
  | .lcmp => okN B j b && decide (b.2.1 = .lcmp ∧ b.2.2 = 1)
  | .i2l => okN B j b && decide (b.2.1 = .i2l ∧ b.2.2 = 1)
  | .l2i => okN B j b && decide (b.2.1 = .l2i ∧ b.2.2 = 1)
  | .i2c => okN B j b && decide (b.2.1 = .i2c ∧ b.2.2 = 1)
  | .dup => okN B j b && decide (b.2.1 = .dup ∧ b.2.2 = 1)
  | .dup2 => okN B j b && decide (b.2.1 = .dup2 ∧ b.2.2 = 1)
  | .pop => okN B j b && decide (b.2.1 = .pop ∧ b.2.2 = 1)
  | .iaload => okN B j b && decide (b.2.1 = .iaload ∧ b.2.2 = 1)
  | .laload => okN B j b && decide (b.2.1 = .laload ∧ b.2.2 = 1)
  | .baload => okN B j b && decide (b.2.1 = .baload ∧ b.2.2 = 1)
  | .aaload => okN B j b && decide (b.2.1 = .aaload ∧ b.2.2 = 1)
  | .iastore => okN B j b && decide (b.2.1 = .iastore ∧ b.2.2 = 1)
  | .lastore => okN B j b && decide (b.2.1 = .lastore ∧ b.2.2 = 1)
  | .bastore => okN B j b && decide (b.2.1 = .bastore ∧ b.2.2 = 1)
  | .arraylength => okN B j b && decide (b.2.1 = .arraylength ∧ b.2.2 = 1)
  | .ireturn => decide (b.2.1 = .ireturn ∧ b.2.2 = 1)
  | .lreturn => decide (b.2.1 = .lreturn ∧ b.2.2 = 1)
  | .areturn => decide (b.2.1 = .areturn ∧ b.2.2 = 1)
  | .return_ => decide (b.2.1 = .return_ ∧ b.2.2 = 1)
  | .goto t => okT B b (brOff b.2.1) t && decide (b.2.1 = .goto (brOff b.2.1) ∧ b.2.2 = 3)
  | .if_icmp cd t => okN B j b && (okT B b (brOff b.2.1) t && decide (b.2.1 = .if_icmp cd (brOff b.2.1) ∧ b.2.2 = 3))
  | .ifCond cd t => okN B j b && (okT B b (brOff b.2.1) t && decide (b.2.1 = .ifCond cd (brOff b.2.1) ∧ b.2.2 = 3))
  | .tableswitch d lo _ ts => okT B b (tsRaw b.2.1).1 d && (decide (b.2.1 = .tableswitch (tsRaw b.2.1).1 lo (lo + (tsRaw b.2.1).2.2.2.size - 1) (tsRaw b.2.1).2.2.2 ∧ (tsRaw b.2.1).2.2.2.size = ts.toList.length) && (List.range ts.toList.length).all (fun k => okT B b ((tsRaw b.2.1).2.2.2.getD k 0) (ts.toList.getD k d)))
  | .lookupswitch d ps => okT B b (lkRaw b.2.1).1 d && (decide (b.2.1 = .lookupswitch (lkRaw b.2.1).1 (lkRaw b.2.1).2 ∧ ((lkRaw b.2.1).2.toList.zip ((lkRaw b.2.1).2.toList.drop 1)).all (fun (x, y) => x.1 < y.1) = true ∧ (lkRaw b.2.1).2.toList.map (fun q => q.1) = ps.toList.map (fun q => q.1)) && ((lkRaw b.2.1).2.toList.zip ps.toList).all (fun q => okT B b q.1.2 q.2.2))
  | .multianewarray ci k => okN B j b && (decide (b.2.1 = .getfield (px b.2.1) ∧ b.2.2 = 3 ∧ ci < 9) && (decide ((own, px b.2.1, false, ci, k) ∈ FLT) || decide ((own, px b.2.1, true, ci, k) ∈ FLT)))
  | .invokeinterface ci k => okN B j b && (decide (b.2.1 = .putfield (px b.2.1) ∧ b.2.2 = 3 ∧ ci < 9) && (decide ((own, px b.2.1, false, ci, k) ∈ FLT) || decide ((own, px b.2.1, true, ci, k) ∈ FLT)))
  | .getstatic _ => okN B j b && decide (b.2.1 = .getstatic 94 ∧ b.2.2 = 3 ∧ OWNN own = RX3)
  | .ldc t => okN B j b && (decide (OWNN own = RX6) && ((decide (t = 52 ∧ b.2.1 = .ldc 166 ∧ b.2.2 = 2)) || (decide (t = 53 ∧ b.2.1 = .ldc 182 ∧ b.2.2 = 2))))
  | .invokedynamic n => okN B j b && ((decide (n = 0 ∧ b.2.1 = .invokestatic (px b.2.1) ∧ b.2.2 = 3 ∧ (own, px b.2.1) ∈ ACT)) || (decide (OWNN own = RX6 ∧ n ≠ 0 ∧ b.2.1 = .invokevirtual (px b.2.1) ∧ b.2.2 = 3 ∧ (px b.2.1, n) ∈ STT)))
  | .invokestatic k => okN B j b && (decide (b.2.2 = 3 ∧ (own, px b.2.1, k) ∈ MLT) && (decide (b.2.1 = .invokestatic (px b.2.1) ∧ k ∈ STK) || decide (b.2.1 = .invokevirtual (px b.2.1) ∧ k ∉ STK)))
  | _ => false
theorem bpOf_at {B : List (Nat × Instr × Nat)} {j : Nat} {b : Nat × Instr × Nat} (h : B[j]? = some b) : bpOf B j = b.1 := by
  unfold bpOf
  rw [List.getD_eq_getElem?_getD, h]
  rfl
theorem bi2_inv {f : Int → Int → Int} {pc : Nat} {L st : List Vv} {m : Mm} {q : Cf} (h : bi2 f pc L st m = some q) : ∃ a b r, st = (0, b) :: (0, a) :: r ∧ q = (pc + 1, L, (0, f a b) :: r, m) := by
  unfold bi2 at h
  split at h
  · cases h; exact ⟨_, _, _, rfl, rfl⟩
  · cases h
theorem bl2_inv {f : Int → Int → Int} {pc : Nat} {L st : List Vv} {m : Mm} {q : Cf} (h : bl2 f pc L st m = some q) : ∃ a b r, st = (1, b) :: (1, a) :: r ∧ q = (pc + 1, L, (1, f a b) :: r, m) := by
  unfold bl2 at h
  split at h
  · cases h; exact ⟨_, _, _, rfl, rfl⟩
  · cases h
theorem bs2_inv {f : Int → Int → Int} {pc : Nat} {L st : List Vv} {m : Mm} {q : Cf} (h : bs2 f pc L st m = some q) : ∃ a b r, st = (0, b) :: (1, a) :: r ∧ q = (pc + 1, L, (1, f a b) :: r, m) := by
  unfold bs2 at h
  split at h
  · cases h; exact ⟨_, _, _, rfl, rfl⟩
  · cases h
theorem bd2_inv {f : Int → Int → Int} {pc : Nat} {L st : List Vv} {m : Mm} {q : Cf} (h : bd2 f pc L st m = some q) : ∃ a b r, st = (0, b) :: (0, a) :: r ∧ b ≠ 0 ∧ q = (pc + 1, L, (0, f a b) :: r, m) := by
  unfold bd2 at h
  split at h
  · split at h
    · cases h
    · rename_i hb; cases h; exact ⟨_, _, _, rfl, hb, rfl⟩
  · cases h
theorem bq2_inv {f : Int → Int → Int} {pc : Nat} {L st : List Vv} {m : Mm} {q : Cf} (h : bq2 f pc L st m = some q) : ∃ a b r, st = (1, b) :: (1, a) :: r ∧ b ≠ 0 ∧ q = (pc + 1, L, (1, f a b) :: r, m) := by
  unfold bq2 at h
  split at h
  · split at h
    · cases h
    · rename_i hb; cases h; exact ⟨_, _, _, rfl, hb, rfl⟩
  · cases h
theorem ald_inv {ty rt pc : Nat} {L st : List Vv} {m : Mm} {q : Cf} (h : ald ty rt pc L st m = some q) : ∃ i t o r, st = (0, i) :: (t, o) :: r ∧ aty t = ty ∧ 0 ≤ i ∧ i < aln t ∧ q = (pc + 1, L, (rt, m o i) :: r, m) := by
  unfold ald at h
  split at h
  · split at h
    · split at h
      · rename_i h1 h2; cases h; exact ⟨_, _, _, _, rfl, h1, h2.1, h2.2, rfl⟩
      · cases h
    · cases h
  · cases h
theorem rld_inv {pc : Nat} {L st : List Vv} {m : Mm} {q : Cf} (h : rld pc L st m = some q) : ∃ i t o r tr, st = (0, i) :: (t, o) :: r ∧ ((aty t = 3 ∧ tr = 13) ∨ (aty t = 4 ∧ tr = 16)) ∧ 0 ≤ i ∧ i < aln t ∧ q = (pc + 1, L, (tr, PA (aty t) o i) :: r, m) := by
  unfold rld at h
  split at h
  · split at h
    · split at h
      · rename_i h1 h2; cases h; exact ⟨_, _, _, _, 13, rfl, Or.inl ⟨h1, rfl⟩, h2.1, h2.2, by rw [h1]⟩
      · cases h
    · split at h
      · split at h
        · rename_i h1 h2; cases h; exact ⟨_, _, _, _, 16, rfl, Or.inr ⟨h1, rfl⟩, h2.1, h2.2, by rw [h1]⟩
        · cases h
      · cases h
  · cases h
theorem ast_inv {ty vt pc : Nat} {L st : List Vv} {m : Mm} {q : Cf} (h : ast ty vt pc L st m = some q) : ∃ v i t o r, st = (vt, v) :: (0, i) :: (t, o) :: r ∧ aty t = ty ∧ 0 ≤ i ∧ i < aln t ∧ q = (pc + 1, L, r, up m o i v) := by
  unfold ast at h
  split at h
  · split at h
    · split at h
      · split at h
        · rename_i h0 h1 h2; subst h0; cases h; exact ⟨_, _, _, _, _, rfl, h1, h2.1, h2.2, rfl⟩
        · cases h
      · cases h
    · cases h
  · cases h
theorem bst_inv {pc : Nat} {L st : List Vv} {m : Mm} {q : Cf} (h : bst pc L st m = some q) : ∃ v i t o r, st = (0, v) :: (0, i) :: (t, o) :: r ∧ aty t = 2 ∧ (v = 0 ∨ v = 1) ∧ 0 ≤ i ∧ i < aln t ∧ q = (pc + 1, L, r, up m o i v) := by
  unfold bst at h
  split at h
  · split at h
    · split at h
      · rename_i h1 h2; cases h; exact ⟨_, _, _, _, _, rfl, h1, h2.1, h2.2.1, h2.2.2, rfl⟩
      · cases h
    · cases h
  · cases h
theorem gtf_inv {ci k pc : Nat} {L st : List Vv} {m : Mm} {q : Cf} (h : gtf ci k pc L st m = some q) : ∃ o r v, st = (ci + 10, o) :: r ∧ k < CN ci ∧ ((FT ci k = 0 ∨ FT ci k = 2) ∧ v = (0, m o k) ∨ FT ci k = 1 ∧ v = (1, m o k) ∨ (¬ (FT ci k = 0 ∨ FT ci k = 2) ∧ ¬ FT ci k = 1 ∧ v = (FT ci k, o + OF ci k))) ∧ q = (pc + 1, L, v :: r, m) := by
  unfold gtf at h
  split at h
  · split at h
    · rename_i h0
      obtain ⟨h0, hk⟩ := h0
      subst h0
      split at h
      · rename_i h1; cases h; exact ⟨_, _, _, rfl, hk, Or.inl ⟨h1, rfl⟩, rfl⟩
      · split at h
        · rename_i h1 h2; cases h; exact ⟨_, _, _, rfl, hk, Or.inr (Or.inl ⟨h2, rfl⟩), rfl⟩
        · rename_i h1 h2; cases h; exact ⟨_, _, _, rfl, hk, Or.inr (Or.inr ⟨h1, h2, rfl⟩), rfl⟩
    · cases h
  · cases h
theorem ptf_inv {ci k pc : Nat} {L st : List Vv} {m : Mm} {q : Cf} (h : ptf ci k pc L st m = some q) : ∃ o r tv v, st = (tv, v) :: (ci + 10, o) :: r ∧ k < CN ci ∧ (FT ci k = 0 ∧ tv = 0 ∨ FT ci k = 1 ∧ tv = 1 ∨ FT ci k = 2 ∧ tv = 0 ∧ (v = 0 ∨ v = 1)) ∧ q = (pc + 1, L, r, up m o k v) := by
  unfold ptf at h
  split at h
  · split at h
    · rename_i h0
      obtain ⟨h0, hk⟩ := h0
      subst h0
      split at h
      · rename_i h1; cases h; exact ⟨_, _, _, _, rfl, hk, Or.inl h1, rfl⟩
      · split at h
        · rename_i h1 h2; cases h; exact ⟨_, _, _, _, rfl, hk, Or.inr (Or.inl h2), rfl⟩
        · split at h
          · split at h
            · rename_i h1 h2 h3 h4; cases h; exact ⟨_, _, _, _, rfl, hk, Or.inr (Or.inr ⟨h3.1, h3.2, h4⟩), rfl⟩
            · cases h
          · cases h
    · cases h
  · cases h
theorem acp_inv {pc : Nat} {L st : List Vv} {m : Mm} {q : Cf} (h : acp pc L st m = some q) : ∃ n dp td d sp ts s, st = [(0, n), (0, dp), (td, d), (0, sp), (ts, s)] ∧ aty ts = 0 ∧ aty td = 0 ∧ 0 ≤ n ∧ 0 ≤ sp ∧ 0 ≤ dp ∧ sp + n ≤ aln ts ∧ dp + n ≤ aln td ∧ q = (pc + 1, L, [], cpy m s sp d dp n) := by
  unfold acp at h
  split at h
  · split at h
    · split at h
      · rename_i h1 h2; cases h; exact ⟨_, _, _, _, _, _, _, rfl, h1.1, h1.2, h2.1, h2.2.1, h2.2.2.1, h2.2.2.2.1, h2.2.2.2.2, rfl⟩
      · cases h
    · cases h
  · cases h
def StOk (L st : List Vv) (m : Mm) : Prop := (∀ v ∈ L, Vok v) ∧ (∀ v ∈ st, Vok v) ∧ Mok m
theorem Vok_9 : Vok (9, 0) := trivial
theorem cut1_ok {L : List Vv} {i : Nat} (h : ∀ v ∈ L, Vok v) : ∀ v ∈ cut1 L i, Vok v := by
  intro v hv
  unfold cut1 at hv
  split at hv
  · exact h v hv
  · split at hv
    · rcases List.mem_or_eq_of_mem_set hv with z | z
      · exact h v z
      · rw [z]; exact Vok_9
    · exact h v hv
theorem sto1_ok {L : List Vv} {i : Nat} {v : Vv} (h : ∀ v ∈ L, Vok v) (hv : Vok v) : ∀ w ∈ sto1 L i v, Vok w := by
  intro w hw
  rcases List.mem_or_eq_of_mem_set hw with z | z
  · exact cut1_ok h w z
  · rw [z]; exact hv
theorem sto2_ok {L : List Vv} {i : Nat} {v : Vv} (h : ∀ v ∈ L, Vok v) (hv : Vok v) : ∀ w ∈ sto2 L i v, Vok w := by
  intro w hw
  rcases List.mem_or_eq_of_mem_set hw with z | z
  · rcases List.mem_or_eq_of_mem_set z with z | z
    · exact cut1_ok h w z
    · rw [z]; exact hv
  · rw [z]; exact Vok_9
theorem sto1_len (L : List Vv) (i : Nat) (v : Vv) : (sto1 L i v).length = L.length := by unfold sto1; rw [List.length_set, cut1_len]
theorem sto2_len (L : List Vv) (i : Nat) (v : Vv) : (sto2 L i v).length = L.length := by unfold sto2; rw [List.length_set, List.length_set, cut1_len]
theorem ok_cons {v : Vv} {r : List Vv} (hv : Vok v) (h : ∀ w ∈ r, Vok w) : ∀ w ∈ v :: r, Vok w := List.forall_mem_cons.mpr ⟨hv, h⟩
theorem in32_aln {t : Nat} {o : Int} (h : (o, t) ∈ UNI) (ha : ¬ aty t = 9) : in32 (aln t) := by
  have hk := UNI_kind _ h
  simp only at hk
  have ht : ¬ t < 100 := by
    intro z
    exact ha (by unfold aty; rw [if_pos z])
  unfold in32
  rw [aln_nat]
  omega
theorem mok_rd {m : Mm} {o i : Int} {t : Nat} (h : Mok m) (ho : (o, t) ∈ UNI) (h0 : 0 ≤ i) : sOk t i.toNat (m o i) := by
  have := h _ ho i.toNat
  simp only [Int.toNat_of_nonneg h0] at this
  exact this
theorem sOk_arr {t k : Nat} {v : Int} (ha : aty t = 0 ∨ aty t = 2) (h : sOk t k v) : in32 v := by
  have ht : ¬ t < 100 := by
    rcases ha with ha | ha <;> exact arr_kind ha (by omega)
  unfold sOk at h
  rw [if_neg (by omega)] at h
  exact h
theorem sOk_larr {t k : Nat} {v : Int} (ha : aty t = 1) (h : sOk t k v) : in64 v := by
  unfold sOk at h
  rw [if_pos (Or.inr ha)] at h
  exact h
theorem sOk_arr' {t k : Nat} {v : Int} (ha : aty t = 0 ∨ aty t = 2) (h : in32 v) : sOk t k v := by
  unfold sOk
  rw [if_neg]
  · exact h
  · have ht : ¬ t < 100 := by
      rcases ha with ha | ha <;> exact arr_kind ha (by omega)
    omega
theorem sOk_larr' {t k : Nat} {v : Int} (ha : aty t = 1) (h : in64 v) : sOk t k v := by
  unfold sOk
  rw [if_pos (Or.inr ha)]
  exact h
theorem up_nat {m : Mm} {o i v : Int} (h0 : 0 ≤ i) : up m o i v = up m o (i.toNat : Nat) v := by rw [Int.toNat_of_nonneg h0]
theorem Mok_cpy {m : Mm} {a d sp dp n : Int} {ts td : Nat} (h : Mok m) (ho : (a, ts) ∈ UNI) (ho2 : (d, td) ∈ UNI) (h1 : aty ts = 0) (h2 : aty td = 0) (hs : 0 ≤ sp) : Mok (cpy m a sp d dp n) := by
  intro q hq k
  unfold cpy
  split
  · rename_i hc
    obtain ⟨b, t⟩ := q
    simp only at hc
    obtain ⟨rfl, hc⟩ := hc
    have : t = td := UNI_eq hq ho2
    subst this
    have := mok_rd h ho (i := sp + ((k : Int) - dp)) (by omega)
    exact sOk_arr' (Or.inl h2) (sOk_arr (Or.inl h1) this)
  · exact h q hq k
theorem dec_of {cc : ByteArray} {b : Nat × Instr × Nat} {i : Instr} {n : Nat} (h : decode cc b.1 = .ok (b.2.1, b.2.2)) (h1 : b.2.1 = i) (h2 : b.2.2 = n) : decode cc b.1 = .ok (i, n) := by rw [h, h1, h2]
theorem lsw_ok {B : List (Nat × Instr × Nat)} {b : Nat × Instr × Nat} (d0 d x : Int) (hd : okT B b d0 d = true) : ∀ (ps qs : List (Int × Int)), ps.map (fun q => q.1) = qs.map (fun q => q.1) → ((ps.zip qs).all (fun q => okT B b q.1.2 q.2.2)) = true → okT B b (Op.lookupswitch.offset ps d0 x) (lsw d qs x) = true := by
  intro ps
  induction ps with
  | nil =>
    intro qs h1 h2
    cases qs with
    | nil => exact hd
    | cons q r => cases h1
  | cons p0 r ih =>
    intro qs h1 h2
    cases qs with
    | nil => cases h1
    | cons q r2 =>
      obtain ⟨a, o⟩ := p0
      obtain ⟨a2, t⟩ := q
      simp only [List.map_cons, List.cons.injEq] at h1
      simp only [List.zip_cons_cons, List.all_cons, Bool.and_eq_true] at h2
      obtain ⟨rfl, h1⟩ := h1
      rw [Op.lookupswitch.offset_cons]
      unfold lsw
      by_cases hx : a = x
      · subst hx
        rw [if_pos rfl, if_pos rfl]
        exact h2.1
      · rw [if_neg hx, if_neg (fun z => hx z.symm)]
        exact ih r2 h1 h2.2
section STEP
variable {p : Program} {l : Launch} {e : Env} {R : Room} {s : State} {mid : MethodId} {args : Array Value} {below : List Frame} {meth : Method} {c : Code} {Q : State → Prop} {ad : Int → Nat} {G : Nat → ClassId} {D : va_G} {A : Nat → Prop} {nL cells slots : Nat} {own : Nat} {cc : ByteArray} {B : List (Nat × Instr × Nat)}

theorem go_lsw (K : CX NWL p R s mid args c (OWNN own) cc ad G D A nL) {bp : Nat} {L r : List Vv} {m : Mm} {dflt x off : Int} {ps : Array (Int × Int)} {len tgt : Nat} (hx : in32 x) (hd : decode cc bp = .ok (.lookupswitch dflt ps, len)) (hp : (ps.toList.zip (ps.toList.drop 1)).all (fun (a, next) => a.1 < next.1) = true) (ho : Op.lookupswitch.offset ps.toList dflt x = off) (ht : (bp : Int) + off = (tgt : Int)) (kk : Go p l e R s mid args below meth c Q ad G D A nL cells slots tgt L r m) : Go p l e R s mid args below meth c Q ad G D A nL cells slots bp L ((0, x) :: r) m := by
  intro H locs ls hP hD hS hL
  have h := kk H locs ls hP hD hS hL
  show W p l e R s mid args below meth c H locs cells slots Q (F0 mid bp ls (.int (Int32.ofInt x) :: r.map (cv ad)))
  exact lv_lookup K.1 K.2.1 hd hp (by rw [i32_of hx]; exact ho) ht h
/-- the texts' own methods: to be proved (part 09) -/
def StrRows (p : Program) (l : Launch) (e : Env) (R : Room) (s : State) (mid : MethodId) (args : Array Value) (below : List Frame) (meth : Method) (c : Code) (Q : State → Prop) (ad : Int → Nat) (G : Nat → ClassId) (D : va_G) (A : Nat → Prop) (nL cells slots : Nat) (cc : ByteArray) : Prop :=
  ∀ (bp idx n : Nat) (pc pc' : Nat) (L L' st st' : List Vv) (m m' : Mm), decode cc bp = .ok (.invokevirtual idx, 3) → (idx, n) ∈ STT → st1 (.invokedynamic n) pc L st m = some (pc', L', st', m') → Go p l e R s mid args below meth c Q ad G D A nL cells slots (bp + 3) L' st' m' → Go p l e R s mid args below meth c Q ad G D A nL cells slots bp L st m
/-- one step of the number machine is a step of the machine -/
theorem step_sound (K : CX NWL p R s mid args c (OWNN own) cc ad G D A nL) {m : Mm} (S : Sc NWL ad A s s.heap m) (hst : OWNN own = RX6 → StrRows p l e R s mid args below meth c Q ad G D A nL cells slots cc)
    {pc pc' : Nat} {L L' st st' : List Vv} {m' : Mm} {i : Instr} {b : Nat × Instr × Nat} (hB : B[pc]? = some b) (hdec : decode cc b.1 = .ok (b.2.1, b.2.2)) (hok : okE own B pc b i = true) (hV : StOk L st m) (h : st1 i pc L st m = some (pc', L', st', m')) :
    StOk L' st' m' ∧ ((∀ z, m' 500 z = m 500 z) ∧ (∀ z, m' 501 z = m 501 z)) ∧ L'.length = L.length ∧ pc' < B.length ∧ (Go p l e R s mid args below meth c Q ad G D A nL cells slots (bpOf B pc') L' st' m' → Go p l e R s mid args below meth c Q ad G D A nL cells slots (bpOf B pc) L st m) := by
  obtain ⟨hVL, hVs, hM⟩ := hV
  have hro : (∀ z, m 500 z = m 500 z) ∧ (∀ z, m 501 z = m 501 z) := ⟨fun _ => rfl, fun _ => rfl⟩
  rw [bpOf_at hB]
  have roU : ∀ {o k v : Int} {t : Nat}, (o, t) ∈ UNI → (∀ z, up m o k v 500 z = m 500 z) ∧ (∀ z, up m o k v 501 z = m 501 z) := by
    intro o k v t ho
    have := UNI_lt _ ho
    simp only at this
    exact ⟨fun z => up_ne (by omega), fun z => up_ne (by omega)⟩
  cases i with
  | iconst v =>
    simp only [okE, okN, Bool.and_eq_true, Bool.or_eq_true, decide_eq_true_eq] at hok
    obtain ⟨⟨n1, n2⟩, hv, ho⟩ := hok
    simp only [st1, Option.some.injEq, Prod.mk.injEq] at h
    obtain ⟨rfl, rfl, rfl, rfl⟩ := h
    refine ⟨⟨hVL, ok_cons (Vok_i.mpr hv) hVs, hM⟩, hro, rfl, n1, fun k => ?_⟩
    rw [n2] at k
    refine go_const K hdec ?_ k
    rcases ho with ho | ho | ho | ⟨h1, h2, h3⟩ | ⟨h1, h2, h3⟩
    · exact Or.inl ho
    · exact Or.inr (Or.inl ho)
    · exact Or.inr (Or.inr (Or.inl ho))
    · exact Or.inr (Or.inr (Or.inr (Or.inl ⟨_, h1, h2, CIT_w h3⟩)))
    · exact Or.inr (Or.inr (Or.inr (Or.inr ⟨_, h1, h2, CIT_w h3⟩)))
  | bipush v =>
    simp only [okE, okN, Bool.and_eq_true, Bool.or_eq_true, decide_eq_true_eq] at hok
    obtain ⟨⟨n1, n2⟩, hv, ho⟩ := hok
    simp only [st1, Option.some.injEq, Prod.mk.injEq] at h
    obtain ⟨rfl, rfl, rfl, rfl⟩ := h
    refine ⟨⟨hVL, ok_cons (Vok_l.mpr hv) hVs, hM⟩, hro, rfl, n1, fun k => ?_⟩
    rw [n2] at k
    refine go_lconst K hdec ?_ k
    rcases ho with ho | ⟨h1, h2, h3⟩
    · exact Or.inl ho
    · exact Or.inr ⟨_, h1, h2, CLT_w h3⟩
  | iload i =>
    simp only [okE, okN, Bool.and_eq_true, Bool.or_eq_true, decide_eq_true_eq] at hok
    obtain ⟨⟨n1, n2⟩, ho⟩ := hok
    simp only [st1] at h
    split at h
    · rename_i x hx
      simp only [Option.some.injEq, Prod.mk.injEq] at h
      obtain ⟨rfl, rfl, rfl, rfl⟩ := h
      refine ⟨⟨hVL, ok_cons (hVL _ (List.mem_of_getElem? hx)) hVs, hM⟩, hro, rfl, n1, fun k => ?_⟩
      rw [n2] at k
      exact go_iload K hdec ho hx k
    · cases h
  | lload i =>
    simp only [okE, okN, Bool.and_eq_true, Bool.or_eq_true, decide_eq_true_eq] at hok
    obtain ⟨⟨n1, n2⟩, ho⟩ := hok
    simp only [st1] at h
    split at h
    · rename_i x hx
      simp only [Option.some.injEq, Prod.mk.injEq] at h
      obtain ⟨rfl, rfl, rfl, rfl⟩ := h
      refine ⟨⟨hVL, ok_cons (hVL _ (List.mem_of_getElem? hx)) hVs, hM⟩, hro, rfl, n1, fun k => ?_⟩
      rw [n2] at k
      exact go_lload K hdec ho hx k
    · cases h
  | aload i =>
    simp only [okE, okN, Bool.and_eq_true, Bool.or_eq_true, decide_eq_true_eq] at hok
    obtain ⟨⟨n1, n2⟩, ho⟩ := hok
    simp only [st1] at h
    split at h
    · rename_i t x hx
      split at h
      · rename_i ht
        simp only [Option.some.injEq, Prod.mk.injEq] at h
        obtain ⟨rfl, rfl, rfl, rfl⟩ := h
        refine ⟨⟨hVL, ok_cons (hVL _ (List.mem_of_getElem? hx)) hVs, hM⟩, hro, rfl, n1, fun k => ?_⟩
        rw [n2] at k
        exact go_aload K hdec ho hx ht k
      · cases h
    · cases h
  | istore i =>
    simp only [okE, okN, Bool.and_eq_true, Bool.or_eq_true, decide_eq_true_eq] at hok
    obtain ⟨⟨n1, n2⟩, ho⟩ := hok
    simp only [st1] at h
    split at h
    · rename_i x r
      split at h
      · rename_i hi
        simp only [Option.some.injEq, Prod.mk.injEq] at h
        obtain ⟨rfl, rfl, rfl, rfl⟩ := h
        obtain ⟨hv, hr⟩ := List.forall_mem_cons.mp hVs
        refine ⟨⟨sto1_ok hVL hv, hr, hM⟩, hro, sto1_len _ _ _, n1, fun k => ?_⟩
        rw [n2] at k
        exact go_istore K hdec ho hi k
      · cases h
    · cases h
  | lstore i =>
    simp only [okE, okN, Bool.and_eq_true, Bool.or_eq_true, decide_eq_true_eq] at hok
    obtain ⟨⟨n1, n2⟩, ho⟩ := hok
    simp only [st1] at h
    split at h
    · rename_i x r
      split at h
      · rename_i hi
        simp only [Option.some.injEq, Prod.mk.injEq] at h
        obtain ⟨rfl, rfl, rfl, rfl⟩ := h
        obtain ⟨hv, hr⟩ := List.forall_mem_cons.mp hVs
        refine ⟨⟨sto2_ok hVL hv, hr, hM⟩, hro, sto2_len _ _ _, n1, fun k => ?_⟩
        rw [n2] at k
        exact go_lstore K hdec ho hi k
      · cases h
    · cases h
  | astore i =>
    simp only [okE, okN, Bool.and_eq_true, Bool.or_eq_true, decide_eq_true_eq] at hok
    obtain ⟨⟨n1, n2⟩, ho⟩ := hok
    simp only [st1] at h
    split at h
    · rename_i t x r
      split at h
      · rename_i hi
        simp only [Option.some.injEq, Prod.mk.injEq] at h
        obtain ⟨rfl, rfl, rfl, rfl⟩ := h
        obtain ⟨hv, hr⟩ := List.forall_mem_cons.mp hVs
        refine ⟨⟨sto1_ok hVL hv, hr, hM⟩, hro, sto1_len _ _ _, n1, fun k => ?_⟩
        rw [n2] at k
        exact go_astore K hdec ho hi.1 hi.2 k
      · cases h
    · cases h
  | iinc i n =>
    simp only [okE, okN, Bool.and_eq_true, decide_eq_true_eq] at hok
    obtain ⟨⟨n1, n2⟩, h1, h2⟩ := hok
    simp only [st1] at h
    split at h
    · rename_i x hx
      simp only [Option.some.injEq, Prod.mk.injEq] at h
      obtain ⟨rfl, rfl, rfl, rfl⟩ := h
      refine ⟨⟨sto1_ok hVL (Vok_i.mpr (in32_w _)), hVs, hM⟩, hro, sto1_len _ _ _, n1, fun k => ?_⟩
      rw [n2, h2] at k
      exact go_iinc K (dec_of hdec h1 h2) hx k
    · cases h
  | iadd =>
    simp only [okE, okN, Bool.and_eq_true, decide_eq_true_eq] at hok
    obtain ⟨⟨n1, n2⟩, h1, h2⟩ := hok
    simp only [st1] at h
    obtain ⟨a, b', r, rfl, hq⟩ := bi2_inv h
    cases hq
    obtain ⟨vb, hr⟩ := List.forall_mem_cons.mp hVs
    obtain ⟨va, hr⟩ := List.forall_mem_cons.mp hr
    refine ⟨⟨hVL, ok_cons (Vok_i.mpr (in32_w _)) hr, hM⟩, hro, rfl, n1, fun k => ?_⟩
    rw [n2, h2] at k
    exact go_iadd K (dec_of hdec h1 h2) k
  | isub =>
    simp only [okE, okN, Bool.and_eq_true, decide_eq_true_eq] at hok
    obtain ⟨⟨n1, n2⟩, h1, h2⟩ := hok
    simp only [st1] at h
    obtain ⟨a, b', r, rfl, hq⟩ := bi2_inv h
    cases hq
    obtain ⟨vb, hr⟩ := List.forall_mem_cons.mp hVs
    obtain ⟨va, hr⟩ := List.forall_mem_cons.mp hr
    refine ⟨⟨hVL, ok_cons (Vok_i.mpr (in32_w _)) hr, hM⟩, hro, rfl, n1, fun k => ?_⟩
    rw [n2, h2] at k
    exact go_isub K (dec_of hdec h1 h2) k
  | imul =>
    simp only [okE, okN, Bool.and_eq_true, decide_eq_true_eq] at hok
    obtain ⟨⟨n1, n2⟩, h1, h2⟩ := hok
    simp only [st1] at h
    obtain ⟨a, b', r, rfl, hq⟩ := bi2_inv h
    cases hq
    obtain ⟨vb, hr⟩ := List.forall_mem_cons.mp hVs
    obtain ⟨va, hr⟩ := List.forall_mem_cons.mp hr
    refine ⟨⟨hVL, ok_cons (Vok_i.mpr (in32_w _)) hr, hM⟩, hro, rfl, n1, fun k => ?_⟩
    rw [n2, h2] at k
    exact go_imul K (dec_of hdec h1 h2) k
  | iand =>
    simp only [okE, okN, Bool.and_eq_true, decide_eq_true_eq] at hok
    obtain ⟨⟨n1, n2⟩, h1, h2⟩ := hok
    simp only [st1] at h
    obtain ⟨a, b', r, rfl, hq⟩ := bi2_inv h
    cases hq
    obtain ⟨vb, hr⟩ := List.forall_mem_cons.mp hVs
    obtain ⟨va, hr⟩ := List.forall_mem_cons.mp hr
    refine ⟨⟨hVL, ok_cons (Vok_i.mpr (in32_to _)) hr, hM⟩, hro, rfl, n1, fun k => ?_⟩
    rw [n2, h2] at k
    exact go_iand K (dec_of hdec h1 h2) k
  | ior =>
    simp only [okE, okN, Bool.and_eq_true, decide_eq_true_eq] at hok
    obtain ⟨⟨n1, n2⟩, h1, h2⟩ := hok
    simp only [st1] at h
    obtain ⟨a, b', r, rfl, hq⟩ := bi2_inv h
    cases hq
    obtain ⟨vb, hr⟩ := List.forall_mem_cons.mp hVs
    obtain ⟨va, hr⟩ := List.forall_mem_cons.mp hr
    refine ⟨⟨hVL, ok_cons (Vok_i.mpr (in32_to _)) hr, hM⟩, hro, rfl, n1, fun k => ?_⟩
    rw [n2, h2] at k
    exact go_ior K (dec_of hdec h1 h2) k
  | ixor =>
    simp only [okE, okN, Bool.and_eq_true, decide_eq_true_eq] at hok
    obtain ⟨⟨n1, n2⟩, h1, h2⟩ := hok
    simp only [st1] at h
    obtain ⟨a, b', r, rfl, hq⟩ := bi2_inv h
    cases hq
    obtain ⟨vb, hr⟩ := List.forall_mem_cons.mp hVs
    obtain ⟨va, hr⟩ := List.forall_mem_cons.mp hr
    refine ⟨⟨hVL, ok_cons (Vok_i.mpr (in32_to _)) hr, hM⟩, hro, rfl, n1, fun k => ?_⟩
    rw [n2, h2] at k
    exact go_ixor K (dec_of hdec h1 h2) k
  | ishl =>
    simp only [okE, okN, Bool.and_eq_true, decide_eq_true_eq] at hok
    obtain ⟨⟨n1, n2⟩, h1, h2⟩ := hok
    simp only [st1] at h
    obtain ⟨a, b', r, rfl, hq⟩ := bi2_inv h
    cases hq
    obtain ⟨vb, hr⟩ := List.forall_mem_cons.mp hVs
    obtain ⟨va, hr⟩ := List.forall_mem_cons.mp hr
    refine ⟨⟨hVL, ok_cons (Vok_i.mpr (in32_to _)) hr, hM⟩, hro, rfl, n1, fun k => ?_⟩
    rw [n2, h2] at k
    exact go_ishl K (dec_of hdec h1 h2) k
  | ishr =>
    simp only [okE, okN, Bool.and_eq_true, decide_eq_true_eq] at hok
    obtain ⟨⟨n1, n2⟩, h1, h2⟩ := hok
    simp only [st1] at h
    obtain ⟨a, b', r, rfl, hq⟩ := bi2_inv h
    cases hq
    obtain ⟨vb, hr⟩ := List.forall_mem_cons.mp hVs
    obtain ⟨va, hr⟩ := List.forall_mem_cons.mp hr
    refine ⟨⟨hVL, ok_cons (Vok_i.mpr (in32_to _)) hr, hM⟩, hro, rfl, n1, fun k => ?_⟩
    rw [n2, h2] at k
    exact go_ishr K (dec_of hdec h1 h2) k
  | iushr =>
    simp only [okE, okN, Bool.and_eq_true, decide_eq_true_eq] at hok
    obtain ⟨⟨n1, n2⟩, h1, h2⟩ := hok
    simp only [st1] at h
    obtain ⟨a, b', r, rfl, hq⟩ := bi2_inv h
    cases hq
    obtain ⟨vb, hr⟩ := List.forall_mem_cons.mp hVs
    obtain ⟨va, hr⟩ := List.forall_mem_cons.mp hr
    refine ⟨⟨hVL, ok_cons (Vok_i.mpr (in32_to _)) hr, hM⟩, hro, rfl, n1, fun k => ?_⟩
    rw [n2, h2] at k
    exact go_iushr K (dec_of hdec h1 h2) k
  | idiv =>
    simp only [okE, okN, Bool.and_eq_true, decide_eq_true_eq] at hok
    obtain ⟨⟨n1, n2⟩, h1, h2⟩ := hok
    simp only [st1] at h
    obtain ⟨a, b', r, rfl, hne, hq⟩ := bd2_inv h
    cases hq
    obtain ⟨vb, hr⟩ := List.forall_mem_cons.mp hVs
    obtain ⟨va, hr⟩ := List.forall_mem_cons.mp hr
    refine ⟨⟨hVL, ok_cons (Vok_i.mpr (in32_to _)) hr, hM⟩, hro, rfl, n1, fun k => ?_⟩
    rw [n2, h2] at k
    exact go_idiv K (Vok_i.mp vb) hne (dec_of hdec h1 h2) k
  | irem =>
    simp only [okE, okN, Bool.and_eq_true, decide_eq_true_eq] at hok
    obtain ⟨⟨n1, n2⟩, h1, h2⟩ := hok
    simp only [st1] at h
    obtain ⟨a, b', r, rfl, hne, hq⟩ := bd2_inv h
    cases hq
    obtain ⟨vb, hr⟩ := List.forall_mem_cons.mp hVs
    obtain ⟨va, hr⟩ := List.forall_mem_cons.mp hr
    refine ⟨⟨hVL, ok_cons (Vok_i.mpr (in32_to _)) hr, hM⟩, hro, rfl, n1, fun k => ?_⟩
    rw [n2, h2] at k
    exact go_irem K (Vok_i.mp vb) hne (dec_of hdec h1 h2) k
  | ladd =>
    simp only [okE, okN, Bool.and_eq_true, decide_eq_true_eq] at hok
    obtain ⟨⟨n1, n2⟩, h1, h2⟩ := hok
    simp only [st1] at h
    obtain ⟨a, b', r, rfl, hq⟩ := bl2_inv h
    cases hq
    obtain ⟨vb, hr⟩ := List.forall_mem_cons.mp hVs
    obtain ⟨va, hr⟩ := List.forall_mem_cons.mp hr
    refine ⟨⟨hVL, ok_cons (Vok_l.mpr (in64_w _)) hr, hM⟩, hro, rfl, n1, fun k => ?_⟩
    rw [n2, h2] at k
    exact go_ladd K (dec_of hdec h1 h2) k
  | lsub =>
    simp only [okE, okN, Bool.and_eq_true, decide_eq_true_eq] at hok
    obtain ⟨⟨n1, n2⟩, h1, h2⟩ := hok
    simp only [st1] at h
    obtain ⟨a, b', r, rfl, hq⟩ := bl2_inv h
    cases hq
    obtain ⟨vb, hr⟩ := List.forall_mem_cons.mp hVs
    obtain ⟨va, hr⟩ := List.forall_mem_cons.mp hr
    refine ⟨⟨hVL, ok_cons (Vok_l.mpr (in64_w _)) hr, hM⟩, hro, rfl, n1, fun k => ?_⟩
    rw [n2, h2] at k
    exact go_lsub K (dec_of hdec h1 h2) k
  | lmul =>
    simp only [okE, okN, Bool.and_eq_true, decide_eq_true_eq] at hok
    obtain ⟨⟨n1, n2⟩, h1, h2⟩ := hok
    simp only [st1] at h
    obtain ⟨a, b', r, rfl, hq⟩ := bl2_inv h
    cases hq
    obtain ⟨vb, hr⟩ := List.forall_mem_cons.mp hVs
    obtain ⟨va, hr⟩ := List.forall_mem_cons.mp hr
    refine ⟨⟨hVL, ok_cons (Vok_l.mpr (in64_w _)) hr, hM⟩, hro, rfl, n1, fun k => ?_⟩
    rw [n2, h2] at k
    exact go_lmul K (dec_of hdec h1 h2) k
  | land =>
    simp only [okE, okN, Bool.and_eq_true, decide_eq_true_eq] at hok
    obtain ⟨⟨n1, n2⟩, h1, h2⟩ := hok
    simp only [st1] at h
    obtain ⟨a, b', r, rfl, hq⟩ := bl2_inv h
    cases hq
    obtain ⟨vb, hr⟩ := List.forall_mem_cons.mp hVs
    obtain ⟨va, hr⟩ := List.forall_mem_cons.mp hr
    refine ⟨⟨hVL, ok_cons (Vok_l.mpr (in64_to _)) hr, hM⟩, hro, rfl, n1, fun k => ?_⟩
    rw [n2, h2] at k
    exact go_land K (dec_of hdec h1 h2) k
  | lor =>
    simp only [okE, okN, Bool.and_eq_true, decide_eq_true_eq] at hok
    obtain ⟨⟨n1, n2⟩, h1, h2⟩ := hok
    simp only [st1] at h
    obtain ⟨a, b', r, rfl, hq⟩ := bl2_inv h
    cases hq
    obtain ⟨vb, hr⟩ := List.forall_mem_cons.mp hVs
    obtain ⟨va, hr⟩ := List.forall_mem_cons.mp hr
    refine ⟨⟨hVL, ok_cons (Vok_l.mpr (in64_to _)) hr, hM⟩, hro, rfl, n1, fun k => ?_⟩
    rw [n2, h2] at k
    exact go_lor K (dec_of hdec h1 h2) k
  | lxor =>
    simp only [okE, okN, Bool.and_eq_true, decide_eq_true_eq] at hok
    obtain ⟨⟨n1, n2⟩, h1, h2⟩ := hok
    simp only [st1] at h
    obtain ⟨a, b', r, rfl, hq⟩ := bl2_inv h
    cases hq
    obtain ⟨vb, hr⟩ := List.forall_mem_cons.mp hVs
    obtain ⟨va, hr⟩ := List.forall_mem_cons.mp hr
    refine ⟨⟨hVL, ok_cons (Vok_l.mpr (in64_to _)) hr, hM⟩, hro, rfl, n1, fun k => ?_⟩
    rw [n2, h2] at k
    exact go_lxor K (dec_of hdec h1 h2) k
  | lshl =>
    simp only [okE, okN, Bool.and_eq_true, decide_eq_true_eq] at hok
    obtain ⟨⟨n1, n2⟩, h1, h2⟩ := hok
    simp only [st1] at h
    obtain ⟨a, b', r, rfl, hq⟩ := bs2_inv h
    cases hq
    obtain ⟨vb, hr⟩ := List.forall_mem_cons.mp hVs
    obtain ⟨va, hr⟩ := List.forall_mem_cons.mp hr
    refine ⟨⟨hVL, ok_cons (Vok_l.mpr (in64_to _)) hr, hM⟩, hro, rfl, n1, fun k => ?_⟩
    rw [n2, h2] at k
    exact go_lshl K (dec_of hdec h1 h2) k
  | lshr =>
    simp only [okE, okN, Bool.and_eq_true, decide_eq_true_eq] at hok
    obtain ⟨⟨n1, n2⟩, h1, h2⟩ := hok
    simp only [st1] at h
    obtain ⟨a, b', r, rfl, hq⟩ := bs2_inv h
    cases hq
    obtain ⟨vb, hr⟩ := List.forall_mem_cons.mp hVs
    obtain ⟨va, hr⟩ := List.forall_mem_cons.mp hr
    refine ⟨⟨hVL, ok_cons (Vok_l.mpr (in64_to _)) hr, hM⟩, hro, rfl, n1, fun k => ?_⟩
    rw [n2, h2] at k
    exact go_lshr K (dec_of hdec h1 h2) k
  | lushr =>
    simp only [okE, okN, Bool.and_eq_true, decide_eq_true_eq] at hok
    obtain ⟨⟨n1, n2⟩, h1, h2⟩ := hok
    simp only [st1] at h
    obtain ⟨a, b', r, rfl, hq⟩ := bs2_inv h
    cases hq
    obtain ⟨vb, hr⟩ := List.forall_mem_cons.mp hVs
    obtain ⟨va, hr⟩ := List.forall_mem_cons.mp hr
    refine ⟨⟨hVL, ok_cons (Vok_l.mpr (in64_to _)) hr, hM⟩, hro, rfl, n1, fun k => ?_⟩
    rw [n2, h2] at k
    exact go_lushr K (dec_of hdec h1 h2) k
  | ldiv =>
    simp only [okE, okN, Bool.and_eq_true, decide_eq_true_eq] at hok
    obtain ⟨⟨n1, n2⟩, h1, h2⟩ := hok
    simp only [st1] at h
    obtain ⟨a, b', r, rfl, hne, hq⟩ := bq2_inv h
    cases hq
    obtain ⟨vb, hr⟩ := List.forall_mem_cons.mp hVs
    obtain ⟨va, hr⟩ := List.forall_mem_cons.mp hr
    refine ⟨⟨hVL, ok_cons (Vok_l.mpr (in64_to _)) hr, hM⟩, hro, rfl, n1, fun k => ?_⟩
    rw [n2, h2] at k
    exact go_ldiv K (Vok_l.mp vb) hne (dec_of hdec h1 h2) k
  | lrem =>
    simp only [okE, okN, Bool.and_eq_true, decide_eq_true_eq] at hok
    obtain ⟨⟨n1, n2⟩, h1, h2⟩ := hok
    simp only [st1] at h
    obtain ⟨a, b', r, rfl, hne, hq⟩ := bq2_inv h
    cases hq
    obtain ⟨vb, hr⟩ := List.forall_mem_cons.mp hVs
    obtain ⟨va, hr⟩ := List.forall_mem_cons.mp hr
    refine ⟨⟨hVL, ok_cons (Vok_l.mpr (in64_to _)) hr, hM⟩, hro, rfl, n1, fun k => ?_⟩
    rw [n2, h2] at k
    exact go_lrem K (Vok_l.mp vb) hne (dec_of hdec h1 h2) k
  | ineg =>
    simp only [okE, okN, Bool.and_eq_true, decide_eq_true_eq] at hok
    obtain ⟨⟨n1, n2⟩, h1, h2⟩ := hok
    simp only [st1] at h
    split at h
    · rename_i a r
      simp only [Option.some.injEq, Prod.mk.injEq] at h
      obtain ⟨rfl, rfl, rfl, rfl⟩ := h
      obtain ⟨va, hr⟩ := List.forall_mem_cons.mp hVs
      refine ⟨⟨hVL, ok_cons (Vok_i.mpr (in32_w _)) hr, hM⟩, hro, rfl, n1, fun k => ?_⟩
      rw [n2, h2] at k
      exact go_ineg K (dec_of hdec h1 h2) k
    · cases h
  | lneg =>
    simp only [okE, okN, Bool.and_eq_true, decide_eq_true_eq] at hok
    obtain ⟨⟨n1, n2⟩, h1, h2⟩ := hok
    simp only [st1] at h
    split at h
    · rename_i a r
      simp only [Option.some.injEq, Prod.mk.injEq] at h
      obtain ⟨rfl, rfl, rfl, rfl⟩ := h
      obtain ⟨va, hr⟩ := List.forall_mem_cons.mp hVs
      refine ⟨⟨hVL, ok_cons (Vok_l.mpr (in64_w _)) hr, hM⟩, hro, rfl, n1, fun k => ?_⟩
      rw [n2, h2] at k
      exact go_lneg K (dec_of hdec h1 h2) k
    · cases h
  | i2l =>
    simp only [okE, okN, Bool.and_eq_true, decide_eq_true_eq] at hok
    obtain ⟨⟨n1, n2⟩, h1, h2⟩ := hok
    simp only [st1] at h
    split at h
    · rename_i a r
      simp only [Option.some.injEq, Prod.mk.injEq] at h
      obtain ⟨rfl, rfl, rfl, rfl⟩ := h
      obtain ⟨va, hr⟩ := List.forall_mem_cons.mp hVs
      refine ⟨⟨hVL, ok_cons (Vok_l.mpr (in64_32 (Vok_i.mp va))) hr, hM⟩, hro, rfl, n1, fun k => ?_⟩
      rw [n2, h2] at k
      exact go_i2l K (Vok_i.mp va) (dec_of hdec h1 h2) k
    · cases h
  | l2i =>
    simp only [okE, okN, Bool.and_eq_true, decide_eq_true_eq] at hok
    obtain ⟨⟨n1, n2⟩, h1, h2⟩ := hok
    simp only [st1] at h
    split at h
    · rename_i a r
      simp only [Option.some.injEq, Prod.mk.injEq] at h
      obtain ⟨rfl, rfl, rfl, rfl⟩ := h
      obtain ⟨va, hr⟩ := List.forall_mem_cons.mp hVs
      refine ⟨⟨hVL, ok_cons (Vok_i.mpr (in32_w _)) hr, hM⟩, hro, rfl, n1, fun k => ?_⟩
      rw [n2, h2] at k
      exact go_l2i K (dec_of hdec h1 h2) k
    · cases h
  | i2c =>
    simp only [okE, okN, Bool.and_eq_true, decide_eq_true_eq] at hok
    obtain ⟨⟨n1, n2⟩, h1, h2⟩ := hok
    simp only [st1] at h
    split at h
    · rename_i a r
      simp only [Option.some.injEq, Prod.mk.injEq] at h
      obtain ⟨rfl, rfl, rfl, rfl⟩ := h
      obtain ⟨va, hr⟩ := List.forall_mem_cons.mp hVs
      refine ⟨⟨hVL, ok_cons (Vok_i.mpr (in32_to _)) hr, hM⟩, hro, rfl, n1, fun k => ?_⟩
      rw [n2, h2] at k
      exact go_i2c K (dec_of hdec h1 h2) k
    · cases h
  | lcmp =>
    simp only [okE, okN, Bool.and_eq_true, decide_eq_true_eq] at hok
    obtain ⟨⟨n1, n2⟩, h1, h2⟩ := hok
    simp only [st1] at h
    split at h
    · rename_i b' a r
      simp only [Option.some.injEq, Prod.mk.injEq] at h
      obtain ⟨rfl, rfl, rfl, rfl⟩ := h
      obtain ⟨va, hr⟩ := List.forall_mem_cons.mp hVs
      obtain ⟨va2, hr⟩ := List.forall_mem_cons.mp hr
      refine ⟨⟨hVL, ok_cons (Vok_i.mpr (by unfold lcm in32; split <;> (try split) <;> omega)) hr, hM⟩, hro, rfl, n1, fun k => ?_⟩
      rw [n2, h2] at k
      exact go_lcmp K (Vok_l.mp va2) (Vok_l.mp va) (dec_of hdec h1 h2) k
    · cases h
  | dup =>
    simp only [okE, okN, Bool.and_eq_true, decide_eq_true_eq] at hok
    obtain ⟨⟨n1, n2⟩, h1, h2⟩ := hok
    simp only [st1] at h
    split at h
    · rename_i t a r
      split at h
      · cases h
      · rename_i ht
        simp only [Option.some.injEq, Prod.mk.injEq] at h
        obtain ⟨rfl, rfl, rfl, rfl⟩ := h
        obtain ⟨va, hr⟩ := List.forall_mem_cons.mp hVs
        refine ⟨⟨hVL, ok_cons va (ok_cons va hr), hM⟩, hro, rfl, n1, fun k => ?_⟩
        rw [n2, h2] at k
        exact go_dup K (fun z => ht (Or.inl z)) (dec_of hdec h1 h2) k
    · cases h
  | dup2 =>
    simp only [okE, okN, Bool.and_eq_true, decide_eq_true_eq] at hok
    obtain ⟨⟨n1, n2⟩, h1, h2⟩ := hok
    simp only [st1] at h
    split at h
    · rename_i t a u b' r
      split at h
      · cases h
      · rename_i ht
        simp only [Option.some.injEq, Prod.mk.injEq] at h
        obtain ⟨rfl, rfl, rfl, rfl⟩ := h
        obtain ⟨va, hr⟩ := List.forall_mem_cons.mp hVs
        obtain ⟨vb, hr⟩ := List.forall_mem_cons.mp hr
        refine ⟨⟨hVL, ok_cons va (ok_cons vb (ok_cons va (ok_cons vb hr))), hM⟩, hro, rfl, n1, fun k => ?_⟩
        rw [n2, h2] at k
        exact go_dup2 K (fun z => ht (Or.inl z)) (fun z => ht (Or.inr (Or.inr (Or.inl z)))) (dec_of hdec h1 h2) k
    · cases h
  | pop =>
    simp only [okE, okN, Bool.and_eq_true, decide_eq_true_eq] at hok
    obtain ⟨⟨n1, n2⟩, h1, h2⟩ := hok
    simp only [st1] at h
    split at h
    · rename_i t a r
      split at h
      · cases h
      · rename_i ht
        simp only [Option.some.injEq, Prod.mk.injEq] at h
        obtain ⟨rfl, rfl, rfl, rfl⟩ := h
        obtain ⟨va, hr⟩ := List.forall_mem_cons.mp hVs
        refine ⟨⟨hVL, hr, hM⟩, hro, rfl, n1, fun k => ?_⟩
        rw [n2, h2] at k
        exact go_pop K (fun z => ht (Or.inl z)) (dec_of hdec h1 h2) k
    · cases h
  | goto t =>
    simp only [okE, okT, Bool.and_eq_true, decide_eq_true_eq] at hok
    obtain ⟨⟨t1, t2, t3⟩, h1, h2⟩ := hok
    simp only [st1, Option.some.injEq, Prod.mk.injEq] at h
    obtain ⟨rfl, rfl, rfl, rfl⟩ := h
    exact ⟨⟨hVL, hVs, hM⟩, hro, rfl, t2, fun k => go_goto K (dec_of hdec h1 h2) t3 k⟩
  | if_icmp cd t =>
    simp only [okE, okN, okT, Bool.and_eq_true, decide_eq_true_eq] at hok
    obtain ⟨⟨n1, n2⟩, ⟨t1, t2, t3⟩, h1, h2⟩ := hok
    simp only [st1] at h
    split at h
    · rename_i b' a r
      simp only [Option.some.injEq, Prod.mk.injEq] at h
      obtain ⟨rfl, rfl, rfl, rfl⟩ := h
      obtain ⟨vb, hr⟩ := List.forall_mem_cons.mp hVs
      obtain ⟨va, hr⟩ := List.forall_mem_cons.mp hr
      by_cases hc : cmpB cd a b' = true
      · rw [if_pos hc]
        exact ⟨⟨hVL, hr, hM⟩, hro, rfl, t2, fun k => go_icmp K (Vok_i.mp va) (Vok_i.mp vb) (dec_of hdec h1 h2) t3 (fun _ => k) (fun z => absurd hc z)⟩
      · rw [if_neg hc]
        refine ⟨⟨hVL, hr, hM⟩, hro, rfl, n1, fun k => ?_⟩
        rw [n2, h2] at k
        exact go_icmp K (Vok_i.mp va) (Vok_i.mp vb) (dec_of hdec h1 h2) t3 (fun z => absurd z hc) (fun _ => k)
    · cases h
  | ifCond cd t =>
    simp only [okE, okN, okT, Bool.and_eq_true, decide_eq_true_eq] at hok
    obtain ⟨⟨n1, n2⟩, ⟨t1, t2, t3⟩, h1, h2⟩ := hok
    simp only [st1] at h
    split at h
    · rename_i a r
      simp only [Option.some.injEq, Prod.mk.injEq] at h
      obtain ⟨rfl, rfl, rfl, rfl⟩ := h
      obtain ⟨va, hr⟩ := List.forall_mem_cons.mp hVs
      by_cases hc : cmpB cd a 0 = true
      · rw [if_pos hc]
        exact ⟨⟨hVL, hr, hM⟩, hro, rfl, t2, fun k => go_if K (Vok_i.mp va) (dec_of hdec h1 h2) t3 (fun _ => k) (fun z => absurd hc z)⟩
      · rw [if_neg hc]
        refine ⟨⟨hVL, hr, hM⟩, hro, rfl, n1, fun k => ?_⟩
        rw [n2, h2] at k
        exact go_if K (Vok_i.mp va) (dec_of hdec h1 h2) t3 (fun z => absurd z hc) (fun _ => k)
    · cases h
  | tableswitch d lo hi ts =>
    simp only [okE, Bool.and_eq_true, decide_eq_true_eq, List.all_eq_true, List.mem_range] at hok
    obtain ⟨hd0, ⟨h1, h2⟩, hall⟩ := hok
    simp only [st1] at h
    split at h
    · rename_i x r
      simp only [Option.some.injEq, Prod.mk.injEq] at h
      obtain ⟨rfl, rfl, rfl, rfl⟩ := h
      obtain ⟨va, hr⟩ := List.forall_mem_cons.mp hVs
      have hdx := hdec
      rw [h1] at hdx
      rw [tsw_ok]
      by_cases hin : x < lo ∨ lo + ts.toList.length ≤ x
      · rw [if_pos hin]
        simp only [okT, decide_eq_true_eq] at hd0
        refine ⟨⟨hVL, hr, hM⟩, hro, rfl, hd0.2.1, fun k => go_tsw (d := d) K (Vok_i.mp va) hdx rfl h2 (fun _ => trivial) (fun j hj hz => ?_) (fun _ => hd0.2.2) k⟩
        exfalso
        omega
      · rw [if_neg hin]
        have hj : (x - lo).toNat < ts.toList.length := by omega
        have h9 := hall _ hj
        simp only [okT, decide_eq_true_eq] at h9
        refine ⟨⟨hVL, hr, hM⟩, hro, rfl, h9.2.1, fun k => go_tsw (d := d) K (Vok_i.mp va) hdx rfl h2 (fun _ => trivial) (fun j hj hz => ?_) (fun z => absurd z hin) k⟩
        have : j = (x - lo).toNat := by omega
        subst this
        exact h9.2.2
    · cases h
  | lookupswitch d ps =>
    simp only [okE, Bool.and_eq_true, decide_eq_true_eq] at hok
    obtain ⟨hd0, ⟨h1, h2, h3⟩, hall⟩ := hok
    simp only [st1] at h
    split at h
    · rename_i x r
      simp only [Option.some.injEq, Prod.mk.injEq] at h
      obtain ⟨rfl, rfl, rfl, rfl⟩ := h
      obtain ⟨va, hr⟩ := List.forall_mem_cons.mp hVs
      have hdx := hdec
      rw [h1] at hdx
      have h9 := lsw_ok (B := B) (b := b) _ _ x hd0 _ _ h3 hall
      simp only [okT, decide_eq_true_eq] at h9
      exact ⟨⟨hVL, hr, hM⟩, hro, rfl, h9.2.1, fun k => go_lsw K (Vok_i.mp va) hdx h2 rfl h9.2.2 k⟩
    · cases h
  | multianewarray ci k =>
    simp only [okE, okN, Bool.and_eq_true, Bool.or_eq_true, decide_eq_true_eq] at hok
    obtain ⟨⟨n1, n2⟩, ⟨h1, h2, hc⟩, hf⟩ := hok
    simp only [st1] at h
    obtain ⟨o, r, v, rfl, hk, hv, hq⟩ := gtf_inv h
    cases hq
    obtain ⟨vo, hr⟩ := List.forall_mem_cons.mp hVs
    have ho : (o, ci + 10) ∈ UNI := Vok_ob vo (by omega)
    have hM1 := hM _ ho k
    simp only [sOk, Nat.add_sub_cancel] at hM1
    have hvv : Vok v ∧ cv ad v = fv ad m o ci k := by
      rcases hv with ⟨hf0, rfl⟩ | ⟨hf1, rfl⟩ | ⟨hn0, hn1, rfl⟩
      · have hn1 : ¬ FT ci k = 1 := by omega
        rw [if_neg (by have : ¬ aty (ci + 10) = 1 := (fun z => arr_kind z (by omega) (by omega)); omega)] at hM1
        exact ⟨hM1, by rw [cv_i, fv, if_neg hn1, if_pos hf0]⟩
      · rw [if_pos (Or.inl ⟨by omega, hf1⟩)] at hM1
        exact ⟨hM1, by rw [cv_l, fv, if_pos hf1]⟩
      · have hft := cl_ft ci hc k hk
        have h10 : 10 ≤ FT ci k := by omega
        have hu := UNI_fld _ ho (by simp only; omega) k (by simpa using hk) (by simpa using h10)
        simp only [Nat.add_sub_cancel] at hu
        exact ⟨Vok_o hu, by rw [cv_o ad _ hu, fv, if_neg hn1, if_neg hn0]⟩
    refine ⟨⟨hVL, ok_cons hvv.1 hr, hM⟩, hro, rfl, n1, fun kk => ?_⟩
    rw [n2, h2] at kk
    rcases hf with hf | hf
    · exact go_getf K false (FLT_w hf) hc hk ho hvv.2 (dec_of hdec h1 h2) kk
    · exact go_getf K true (FLT_w hf) hc hk ho hvv.2 (dec_of hdec h1 h2) kk
  | invokeinterface ci k =>
    simp only [okE, okN, Bool.and_eq_true, Bool.or_eq_true, decide_eq_true_eq] at hok
    obtain ⟨⟨n1, n2⟩, ⟨h1, h2, hc⟩, hf⟩ := hok
    simp only [st1] at h
    obtain ⟨o, r, tv, v, rfl, hk, hv, hq⟩ := ptf_inv h
    cases hq
    obtain ⟨vv, hr⟩ := List.forall_mem_cons.mp hVs
    obtain ⟨vo, hr⟩ := List.forall_mem_cons.mp hr
    have ho : (o, ci + 10) ∈ UNI := Vok_ob vo (by omega)
    have na : ¬ aty (ci + 10) = 1 := fun z => arr_kind z (by omega) (by omega)
    have hall : sOk (ci + 10) k v ∧ FT ci k < 10 ∧ cv ad (tv, v) = fv ad (up m o k v) o ci k ∧ narrow (CTy ci k) (cv ad (tv, v)) = cv ad (tv, v) ∧ fits (CTy ci k) (cv ad (tv, v)) = true := by
      rcases hv with ⟨hf0, rfl⟩ | ⟨hf1, rfl⟩ | ⟨hf2, rfl, hb⟩
      · refine ⟨?_, by omega, ?_, ?_, ?_⟩
        · simp only [sOk, Nat.add_sub_cancel]
          rw [if_neg (by omega)]
          exact vv
        · rw [cv_i, fv, if_neg (by omega), if_pos (Or.inl hf0), up_same]
        · rw [cl_t0 ci hc k hk hf0]; rfl
        · rw [cl_t0 ci hc k hk hf0]; rfl
      · refine ⟨?_, by omega, ?_, ?_, ?_⟩
        · simp only [sOk, Nat.add_sub_cancel]
          rw [if_pos (Or.inl ⟨by omega, hf1⟩)]
          exact vv
        · rw [cv_l, fv, if_pos hf1, up_same]
        · rw [cl_t1 ci hc k hk hf1]; rfl
        · rw [cl_t1 ci hc k hk hf1]; rfl
      · refine ⟨?_, by omega, ?_, ?_, ?_⟩
        · simp only [sOk, Nat.add_sub_cancel]
          rw [if_neg (by omega)]
          exact vv
        · rw [cv_i, fv, if_neg (by omega), if_pos (Or.inr hf2), up_same]
        · rw [cl_t2 ci hc k hk hf2]; rcases hb with rfl | rfl <;> rfl
        · rw [cl_t2 ci hc k hk hf2]; rcases hb with rfl | rfl <;> rfl
    obtain ⟨s1, s2, s3, s4, s5⟩ := hall
    refine ⟨⟨hVL, hr, Mok_up hM ho s1⟩, roU ho, rfl, n1, fun kk => ?_⟩
    rw [n2, h2] at kk
    rcases hf with hf | hf
    · exact go_putf K false (FLT_w hf) hc hk ho s2 s3 s4 s5 (dec_of hdec h1 h2) kk
    · exact go_putf K true (FLT_w hf) hc hk ho s2 s3 s4 s5 (dec_of hdec h1 h2) kk
  | iaload =>
    simp only [okE, okN, Bool.and_eq_true, decide_eq_true_eq] at hok
    obtain ⟨⟨n1, n2⟩, h1, h2⟩ := hok
    simp only [st1] at h
    unfold sld at h
    split at h
    · rename_i i t o r
      obtain ⟨vi, hr1⟩ := List.forall_mem_cons.mp hVs
      obtain ⟨vo, hr⟩ := List.forall_mem_cons.mp hr1
      clear hr1
      split at h
      · rename_i ht
        subst ht
        split at h
        · rename_i hi
          simp only [Option.some.injEq, Prod.mk.injEq] at h
          obtain ⟨rfl, rfl, rfl, rfl⟩ := h
          obtain ⟨Ls, xs, -, -, -, hl, -, hx⟩ := S.1
          have e1 := hx i.toNat (by rw [hl] at hi; omega)
          rw [Int.toNat_of_nonneg hi.1] at e1
          refine ⟨⟨hVL, ok_cons (Vok_i.mpr (by rw [e1]; exact in32_to _)) hr, hM⟩, hro, rfl, n1, fun k => ?_⟩
          rw [n2, h2] at k
          exact go_sld K S (Vok_i.mp vi) hi.1 hi.2 (dec_of hdec h1 h2) k
        · cases h
      · split at h
        · rename_i ht0 ht
          subst ht
          split at h
          · rename_i hi
            simp only [Option.some.injEq, Prod.mk.injEq] at h
            obtain ⟨rfl, rfl, rfl, rfl⟩ := h
            obtain ⟨xs, -, -, -, hx⟩ := S.2.1
            have e1 := hx i.toNat (by omega)
            rw [Int.toNat_of_nonneg hi.1] at e1
            refine ⟨⟨hVL, ok_cons (Vok_i.mpr (by rw [e1]; exact in32_to _)) hr, hM⟩, hro, rfl, n1, fun k => ?_⟩
            rw [n2, h2] at k
            exact go_tld K S (Vok_i.mp vi) hi.1 hi.2 (dec_of hdec h1 h2) k
          · cases h
        · obtain ⟨i', t', o', r', he, ha, h0, hi1, hq⟩ := ald_inv h
          cases he
          cases hq
          have ho : (o, t) ∈ UNI := Vok_ob vo (by have := arr_kind ha (by omega); omega)
          refine ⟨⟨hVL, ok_cons (Vok_i.mpr (sOk_arr (Or.inl ha) (mok_rd hM ho h0))) hr, hM⟩, hro, rfl, n1, fun k => ?_⟩
          rw [n2, h2] at k
          exact go_iald K ho ha (Vok_i.mp vi) h0 hi1 (dec_of hdec h1 h2) k
    · cases h
  | laload =>
    simp only [okE, okN, Bool.and_eq_true, decide_eq_true_eq] at hok
    obtain ⟨⟨n1, n2⟩, h1, h2⟩ := hok
    simp only [st1] at h
    obtain ⟨i, t, o, r, rfl, ha, h0, hi1, hq⟩ := ald_inv h
    cases hq
    obtain ⟨vi, hr⟩ := List.forall_mem_cons.mp hVs
    obtain ⟨vo, hr⟩ := List.forall_mem_cons.mp hr
    have ho : (o, t) ∈ UNI := Vok_ob vo (by have := arr_kind ha (by omega); omega)
    refine ⟨⟨hVL, ok_cons (Vok_l.mpr (sOk_larr ha (mok_rd hM ho h0))) hr, hM⟩, hro, rfl, n1, fun k => ?_⟩
    rw [n2, h2] at k
    exact go_lald K ho ha (Vok_i.mp vi) h0 hi1 (dec_of hdec h1 h2) k
  | baload =>
    simp only [okE, okN, Bool.and_eq_true, decide_eq_true_eq] at hok
    obtain ⟨⟨n1, n2⟩, h1, h2⟩ := hok
    simp only [st1] at h
    obtain ⟨i, t, o, r, rfl, ha, h0, hi1, hq⟩ := ald_inv h
    cases hq
    obtain ⟨vi, hr⟩ := List.forall_mem_cons.mp hVs
    obtain ⟨vo, hr⟩ := List.forall_mem_cons.mp hr
    have ho : (o, t) ∈ UNI := Vok_ob vo (by have := arr_kind ha (by omega); omega)
    refine ⟨⟨hVL, ok_cons (Vok_i.mpr (sOk_arr (Or.inr ha) (mok_rd hM ho h0))) hr, hM⟩, hro, rfl, n1, fun k => ?_⟩
    rw [n2, h2] at k
    exact go_zald K ho ha (Vok_i.mp vi) h0 hi1 (dec_of hdec h1 h2) k
  | aaload =>
    simp only [okE, okN, Bool.and_eq_true, decide_eq_true_eq] at hok
    obtain ⟨⟨n1, n2⟩, h1, h2⟩ := hok
    simp only [st1] at h
    obtain ⟨i, t, o, r, tr, rfl, ha, h0, hi1, hq⟩ := rld_inv h
    cases hq
    obtain ⟨vi, hr⟩ := List.forall_mem_cons.mp hVs
    obtain ⟨vo, hr⟩ := List.forall_mem_cons.mp hr
    have ho : (o, t) ∈ UNI := Vok_ob vo (by
      rcases ha with ⟨ha, -⟩ | ⟨ha, -⟩
      · have := arr_kind ha (by omega); omega
      · have := arr_kind ha (by omega); omega)
    have hm : (PA (aty t) o i, tr) ∈ UNI := by
      have e0 : ((i.toNat : Nat) : Int) = i := Int.toNat_of_nonneg h0
      have hlt : i.toNat < (t - 100) / 8 := by
        rw [aln_nat] at hi1
        omega
      rcases ha with ⟨ha, rfl⟩ | ⟨ha, rfl⟩
      · have := UNI_arr3 _ ho ha i.toNat hlt
        simp only at this
        rw [e0] at this
        rw [ha]
        exact this
      · have := UNI_arr4 _ ho ha i.toNat hlt
        simp only at this
        rw [e0] at this
        rw [ha]
        exact this
    refine ⟨⟨hVL, ok_cons (Vok_o hm) hr, hM⟩, hro, rfl, n1, fun k => ?_⟩
    rw [n2, h2] at k
    exact go_aald K ho ha (Vok_i.mp vi) h0 hi1 (dec_of hdec h1 h2) k
  | iastore =>
    simp only [okE, okN, Bool.and_eq_true, decide_eq_true_eq] at hok
    obtain ⟨⟨n1, n2⟩, h1, h2⟩ := hok
    simp only [st1] at h
    obtain ⟨v, i, t, o, r, rfl, ha, h0, hi1, hq⟩ := ast_inv h
    cases hq
    obtain ⟨vv, hr⟩ := List.forall_mem_cons.mp hVs
    obtain ⟨vi, hr⟩ := List.forall_mem_cons.mp hr
    obtain ⟨vo, hr⟩ := List.forall_mem_cons.mp hr
    have ho : (o, t) ∈ UNI := Vok_ob vo (by have := arr_kind ha (by omega); omega)
    refine ⟨⟨hVL, hr, by rw [up_nat h0]; exact Mok_up hM ho (sOk_arr' (Or.inl ha) (Vok_i.mp vv))⟩, roU ho, rfl, n1, fun k => ?_⟩
    rw [n2, h2] at k
    exact go_iast K ho ha (Vok_i.mp vi) h0 hi1 (dec_of hdec h1 h2) k
  | lastore =>
    simp only [okE, okN, Bool.and_eq_true, decide_eq_true_eq] at hok
    obtain ⟨⟨n1, n2⟩, h1, h2⟩ := hok
    simp only [st1] at h
    obtain ⟨v, i, t, o, r, rfl, ha, h0, hi1, hq⟩ := ast_inv h
    cases hq
    obtain ⟨vv, hr⟩ := List.forall_mem_cons.mp hVs
    obtain ⟨vi, hr⟩ := List.forall_mem_cons.mp hr
    obtain ⟨vo, hr⟩ := List.forall_mem_cons.mp hr
    have ho : (o, t) ∈ UNI := Vok_ob vo (by have := arr_kind ha (by omega); omega)
    refine ⟨⟨hVL, hr, by rw [up_nat h0]; exact Mok_up hM ho (sOk_larr' ha (Vok_l.mp vv))⟩, roU ho, rfl, n1, fun k => ?_⟩
    rw [n2, h2] at k
    exact go_last K ho ha (Vok_i.mp vi) h0 hi1 (dec_of hdec h1 h2) k
  | bastore =>
    simp only [okE, okN, Bool.and_eq_true, decide_eq_true_eq] at hok
    obtain ⟨⟨n1, n2⟩, h1, h2⟩ := hok
    simp only [st1] at h
    obtain ⟨v, i, t, o, r, rfl, ha, hb, h0, hi1, hq⟩ := bst_inv h
    cases hq
    obtain ⟨vv, hr⟩ := List.forall_mem_cons.mp hVs
    obtain ⟨vi, hr⟩ := List.forall_mem_cons.mp hr
    obtain ⟨vo, hr⟩ := List.forall_mem_cons.mp hr
    have ho : (o, t) ∈ UNI := Vok_ob vo (by have := arr_kind ha (by omega); omega)
    refine ⟨⟨hVL, hr, by rw [up_nat h0]; exact Mok_up hM ho (sOk_arr' (Or.inr ha) (Vok_i.mp vv))⟩, roU ho, rfl, n1, fun k => ?_⟩
    rw [n2, h2] at k
    exact go_zast K ho ha hb (Vok_i.mp vi) h0 hi1 (dec_of hdec h1 h2) k
  | arraylength =>
    simp only [okE, okN, Bool.and_eq_true, decide_eq_true_eq] at hok
    obtain ⟨⟨n1, n2⟩, h1, h2⟩ := hok
    simp only [st1] at h
    split at h
    · rename_i t o r
      obtain ⟨vo, hr⟩ := List.forall_mem_cons.mp hVs
      split at h
      · rename_i ht
        subst ht
        simp only [Option.some.injEq, Prod.mk.injEq] at h
        obtain ⟨rfl, rfl, rfl, rfl⟩ := h
        obtain ⟨Ls, xs, -, -, -, hl, hlt, hx⟩ := S.1
        refine ⟨⟨hVL, ok_cons (Vok_i.mpr (by rw [hl]; unfold in32; omega)) hr, hM⟩, hro, rfl, n1, fun k => ?_⟩
        rw [n2, h2] at k
        exact go_slen K S (dec_of hdec h1 h2) k
      · split at h
        · cases h
        · rename_i ht0 ha
          simp only [Option.some.injEq, Prod.mk.injEq] at h
          obtain ⟨rfl, rfl, rfl, rfl⟩ := h
          have ho : (o, t) ∈ UNI := Vok_ob vo (by
            have : ¬ t < 100 := fun z => ha (by unfold aty; rw [if_pos z])
            omega)
          refine ⟨⟨hVL, ok_cons (Vok_i.mpr (in32_aln ho ha)) hr, hM⟩, hro, rfl, n1, fun k => ?_⟩
          rw [n2, h2] at k
          exact go_alen K ho ha (dec_of hdec h1 h2) k
    · cases h
  | getstatic x0 =>
    simp only [okE, okN, Bool.and_eq_true, decide_eq_true_eq] at hok
    obtain ⟨⟨n1, n2⟩, h1, h2, h3⟩ := hok
    simp only [st1, Option.some.injEq, Prod.mk.injEq] at h
    obtain ⟨rfl, rfl, rfl, rfl⟩ := h
    refine ⟨⟨hVL, ok_cons trivial hVs, hM⟩, hro, rfl, n1, fun k => ?_⟩
    rw [n2, h2] at k
    exact go_tried K S (idx := 94) (by rw [h3]; exact List.mem_cons_self) (dec_of hdec h1 h2) k
  | ldc t =>
    simp only [okE, okN, Bool.and_eq_true, Bool.or_eq_true, decide_eq_true_eq] at hok
    obtain ⟨⟨n1, n2⟩, h3, ho⟩ := hok
    simp only [st1] at h
    split at h
    · simp only [Option.some.injEq, Prod.mk.injEq] at h
      obtain ⟨rfl, rfl, rfl, rfl⟩ := h
      rcases ho with ⟨rfl, h1, h2⟩ | ⟨rfl, h1, h2⟩
      · refine ⟨⟨hVL, ok_cons trivial hVs, hM⟩, hro, rfl, n1, fun k => ?_⟩
        rw [n2, h2] at k
        intro H locs ls hP hD hS hL
        exact va_ldcS K.1 K.2.1 K.2.2.2.1 (by rw [h3]; exact S.2.2.2.2.1) (dec_of hdec h1 h2) (k H locs ls hP hD hS hL)
      · refine ⟨⟨hVL, ok_cons trivial hVs, hM⟩, hro, rfl, n1, fun k => ?_⟩
        rw [n2, h2] at k
        intro H locs ls hP hD hS hL
        exact va_ldcS K.1 K.2.1 K.2.2.2.1 (by rw [h3]; exact S.2.2.2.2.2.1) (dec_of hdec h1 h2) (k H locs ls hP hD hS hL)
    · cases h
  | invokedynamic n =>
    simp only [okE, okN, Bool.and_eq_true, Bool.or_eq_true, decide_eq_true_eq] at hok
    obtain ⟨⟨n1, n2⟩, ho⟩ := hok
    rcases ho with ⟨rfl, h1, h2, h3⟩ | ⟨h3, hn, h1, h2, h4⟩
    · simp only [st1, if_true] at h
      obtain ⟨n, dp, td, d, sp, ts, a, rfl, ha, ha2, i0, i1, i2, i3, i4, hq⟩ := acp_inv h
      cases hq
      obtain ⟨vn, hr⟩ := List.forall_mem_cons.mp hVs
      obtain ⟨vdp, hr⟩ := List.forall_mem_cons.mp hr
      obtain ⟨vd, hr⟩ := List.forall_mem_cons.mp hr
      obtain ⟨vsp, hr⟩ := List.forall_mem_cons.mp hr
      obtain ⟨vs, hr⟩ := List.forall_mem_cons.mp hr
      have ho : (a, ts) ∈ UNI := Vok_ob vs (by have := arr_kind ha (by omega); omega)
      have ho2 : (d, td) ∈ UNI := Vok_ob vd (by have := arr_kind ha2 (by omega); omega)
      have hlt := UNI_lt _ ho2
      simp only at hlt
      refine ⟨⟨hVL, hr, Mok_cpy hM ho ho2 ha ha2 i1⟩, ⟨fun z => ?_, fun z => ?_⟩, rfl, n1, fun k => ?_⟩
      · unfold cpy; rw [if_neg (by omega)]
      · unfold cpy; rw [if_neg (by omega)]
      · rw [n2, h2] at k
        exact go_acp K (ACT_w h3) acp_nat acp_sta acp_ini ho ho2 ha ha2 (Vok_i.mp vn) (Vok_i.mp vsp) (Vok_i.mp vdp) i0 i1 i2 i3 i4 (dec_of hdec h1 h2) k
    · have hs := hst h3
      have hinv : StOk L' st' m' ∧ L' = L ∧ m' = m ∧ pc' = pc + 1 := by
        have h' := h
        simp only [st1, if_neg hn] at h'
        have in32w : ∀ x : Int, in32 (wchar x) := by
          intro x
          unfold wchar
          have hall : ∀ v ∈ WORDSL, in32 v := by unfold in32; decide +kernel
          rw [List.getD_eq_getElem?_getD]
          cases hx : WORDSL[x.toNat]? with
          | none => exact in32_lit0
          | some v => exact hall v (List.mem_of_getElem? hx)
        have in32x : ∀ (l : List Int) (c k : Int), 0 ≤ k → k + l.length ≤ 1000 → in32 (idxOf l c k) := by
          intro l
          induction l with
          | nil => intro c k _ _; unfold idxOf in32; omega
          | cons x r ih =>
            intro c k h0 h1
            unfold idxOf
            simp only [List.length_cons] at h1
            split
            · unfold in32; omega
            · exact ih c (k + 1) (by omega) (by omega)
        split at h'
        · split at h'
          · simp only [Option.some.injEq, Prod.mk.injEq] at h'
            obtain ⟨rfl, rfl, rfl, rfl⟩ := h'
            exact ⟨⟨hVL, ok_cons (Vok_i.mpr (by unfold in32; omega)) (fun _ z => by cases z), hM⟩, rfl, rfl, rfl⟩
          · simp only [Option.some.injEq, Prod.mk.injEq] at h'
            obtain ⟨rfl, rfl, rfl, rfl⟩ := h'
            obtain ⟨_, hr⟩ := List.forall_mem_cons.mp hVs
            exact ⟨⟨hVL, ok_cons (Vok_i.mpr (by unfold in32; omega)) hr, hM⟩, rfl, rfl, rfl⟩
          · cases h'
        · split at h'
          · split at h'
            · split at h'
              · simp only [Option.some.injEq, Prod.mk.injEq] at h'
                obtain ⟨rfl, rfl, rfl, rfl⟩ := h'
                exact ⟨⟨hVL, ok_cons (Vok_i.mpr (in32w _)) (fun _ z => by cases z), hM⟩, rfl, rfl, rfl⟩
              · cases h'
            · cases h'
          · split at h'
            · split at h'
              · simp only [Option.some.injEq, Prod.mk.injEq] at h'
                obtain ⟨rfl, rfl, rfl, rfl⟩ := h'
                exact ⟨⟨hVL, ok_cons (Vok_i.mpr (in32x _ _ _ (by omega) (by decide))) (fun _ z => by cases z), hM⟩, rfl, rfl, rfl⟩
              · cases h'
            · cases h'
      obtain ⟨hV', rfl, rfl, rfl⟩ := hinv
      refine ⟨hV', hro, rfl, n1, fun k => ?_⟩
      rw [n2, h2] at k
      exact hs _ _ _ _ _ _ _ _ _ _ _ (dec_of hdec h1 h2) h4 h k
  | _ => simp [st1] at h
end STEP
/-- the numbers alone: what a step keeps -/
def ScP (m : Mm) : Prop := (∃ (Ls : Nat) (xs : Nat → Int32), m 500 (-1) = (Ls : Int) ∧ Ls < 2 ^ 31 ∧ ∀ j : Nat, j < Ls → m 500 (j : Int) = (xs j).toInt) ∧ (∃ xs : Nat → Int32, ∀ j : Nat, j < 4 → m 501 (j : Int) = (xs j).toInt)
theorem step_pure {own : Nat} {B : List (Nat × Instr × Nat)} {m : Mm} (S : ScP m) {pc pc' : Nat} {L L' st st' : List Vv} {m' : Mm} {i : Instr} {b : Nat × Instr × Nat} (hok : okE own B pc b i = true) (hV : StOk L st m) (h : st1 i pc L st m = some (pc', L', st', m')) :
    StOk L' st' m' ∧ ((∀ z, m' 500 z = m 500 z) ∧ (∀ z, m' 501 z = m 501 z)) ∧ L'.length = L.length ∧ pc' < B.length := by
  obtain ⟨hVL, hVs, hM⟩ := hV
  have hro : (∀ z, m 500 z = m 500 z) ∧ (∀ z, m 501 z = m 501 z) := ⟨fun _ => rfl, fun _ => rfl⟩
  have roU : ∀ {o k v : Int} {t : Nat}, (o, t) ∈ UNI → (∀ z, up m o k v 500 z = m 500 z) ∧ (∀ z, up m o k v 501 z = m 501 z) := by
    intro o k v t ho
    have := UNI_lt _ ho
    simp only at this
    exact ⟨fun z => up_ne (by omega), fun z => up_ne (by omega)⟩
  cases i with
  | iconst v =>
    simp only [okE, okN, Bool.and_eq_true, Bool.or_eq_true, decide_eq_true_eq] at hok
    obtain ⟨⟨n1, n2⟩, hv, ho⟩ := hok
    simp only [st1, Option.some.injEq, Prod.mk.injEq] at h
    obtain ⟨rfl, rfl, rfl, rfl⟩ := h
    exact ⟨⟨hVL, ok_cons (Vok_i.mpr hv) hVs, hM⟩, hro, rfl, n1⟩
  | bipush v =>
    simp only [okE, okN, Bool.and_eq_true, Bool.or_eq_true, decide_eq_true_eq] at hok
    obtain ⟨⟨n1, n2⟩, hv, ho⟩ := hok
    simp only [st1, Option.some.injEq, Prod.mk.injEq] at h
    obtain ⟨rfl, rfl, rfl, rfl⟩ := h
    exact ⟨⟨hVL, ok_cons (Vok_l.mpr hv) hVs, hM⟩, hro, rfl, n1⟩
  | iload i =>
    simp only [okE, okN, Bool.and_eq_true, Bool.or_eq_true, decide_eq_true_eq] at hok
    obtain ⟨⟨n1, n2⟩, ho⟩ := hok
    simp only [st1] at h
    split at h
    · rename_i x hx
      simp only [Option.some.injEq, Prod.mk.injEq] at h
      obtain ⟨rfl, rfl, rfl, rfl⟩ := h
      exact ⟨⟨hVL, ok_cons (hVL _ (List.mem_of_getElem? hx)) hVs, hM⟩, hro, rfl, n1⟩
    · cases h
  | lload i =>
    simp only [okE, okN, Bool.and_eq_true, Bool.or_eq_true, decide_eq_true_eq] at hok
    obtain ⟨⟨n1, n2⟩, ho⟩ := hok
    simp only [st1] at h
    split at h
    · rename_i x hx
      simp only [Option.some.injEq, Prod.mk.injEq] at h
      obtain ⟨rfl, rfl, rfl, rfl⟩ := h
      exact ⟨⟨hVL, ok_cons (hVL _ (List.mem_of_getElem? hx)) hVs, hM⟩, hro, rfl, n1⟩
    · cases h
  | aload i =>
    simp only [okE, okN, Bool.and_eq_true, Bool.or_eq_true, decide_eq_true_eq] at hok
    obtain ⟨⟨n1, n2⟩, ho⟩ := hok
    simp only [st1] at h
    split at h
    · rename_i t x hx
      split at h
      · rename_i ht
        simp only [Option.some.injEq, Prod.mk.injEq] at h
        obtain ⟨rfl, rfl, rfl, rfl⟩ := h
        exact ⟨⟨hVL, ok_cons (hVL _ (List.mem_of_getElem? hx)) hVs, hM⟩, hro, rfl, n1⟩
      · cases h
    · cases h
  | istore i =>
    simp only [okE, okN, Bool.and_eq_true, Bool.or_eq_true, decide_eq_true_eq] at hok
    obtain ⟨⟨n1, n2⟩, ho⟩ := hok
    simp only [st1] at h
    split at h
    · rename_i x r
      split at h
      · rename_i hi
        simp only [Option.some.injEq, Prod.mk.injEq] at h
        obtain ⟨rfl, rfl, rfl, rfl⟩ := h
        obtain ⟨hv, hr⟩ := List.forall_mem_cons.mp hVs
        exact ⟨⟨sto1_ok hVL hv, hr, hM⟩, hro, sto1_len _ _ _, n1⟩
      · cases h
    · cases h
  | lstore i =>
    simp only [okE, okN, Bool.and_eq_true, Bool.or_eq_true, decide_eq_true_eq] at hok
    obtain ⟨⟨n1, n2⟩, ho⟩ := hok
    simp only [st1] at h
    split at h
    · rename_i x r
      split at h
      · rename_i hi
        simp only [Option.some.injEq, Prod.mk.injEq] at h
        obtain ⟨rfl, rfl, rfl, rfl⟩ := h
        obtain ⟨hv, hr⟩ := List.forall_mem_cons.mp hVs
        exact ⟨⟨sto2_ok hVL hv, hr, hM⟩, hro, sto2_len _ _ _, n1⟩
      · cases h
    · cases h
  | astore i =>
    simp only [okE, okN, Bool.and_eq_true, Bool.or_eq_true, decide_eq_true_eq] at hok
    obtain ⟨⟨n1, n2⟩, ho⟩ := hok
    simp only [st1] at h
    split at h
    · rename_i t x r
      split at h
      · rename_i hi
        simp only [Option.some.injEq, Prod.mk.injEq] at h
        obtain ⟨rfl, rfl, rfl, rfl⟩ := h
        obtain ⟨hv, hr⟩ := List.forall_mem_cons.mp hVs
        exact ⟨⟨sto1_ok hVL hv, hr, hM⟩, hro, sto1_len _ _ _, n1⟩
      · cases h
    · cases h
  | iinc i n =>
    simp only [okE, okN, Bool.and_eq_true, decide_eq_true_eq] at hok
    obtain ⟨⟨n1, n2⟩, h1, h2⟩ := hok
    simp only [st1] at h
    split at h
    · rename_i x hx
      simp only [Option.some.injEq, Prod.mk.injEq] at h
      obtain ⟨rfl, rfl, rfl, rfl⟩ := h
      exact ⟨⟨sto1_ok hVL (Vok_i.mpr (in32_w _)), hVs, hM⟩, hro, sto1_len _ _ _, n1⟩
    · cases h
  | iadd =>
    simp only [okE, okN, Bool.and_eq_true, decide_eq_true_eq] at hok
    obtain ⟨⟨n1, n2⟩, h1, h2⟩ := hok
    simp only [st1] at h
    obtain ⟨a, b', r, rfl, hq⟩ := bi2_inv h
    cases hq
    obtain ⟨vb, hr⟩ := List.forall_mem_cons.mp hVs
    obtain ⟨va, hr⟩ := List.forall_mem_cons.mp hr
    exact ⟨⟨hVL, ok_cons (Vok_i.mpr (in32_w _)) hr, hM⟩, hro, rfl, n1⟩
  | isub =>
    simp only [okE, okN, Bool.and_eq_true, decide_eq_true_eq] at hok
    obtain ⟨⟨n1, n2⟩, h1, h2⟩ := hok
    simp only [st1] at h
    obtain ⟨a, b', r, rfl, hq⟩ := bi2_inv h
    cases hq
    obtain ⟨vb, hr⟩ := List.forall_mem_cons.mp hVs
    obtain ⟨va, hr⟩ := List.forall_mem_cons.mp hr
    exact ⟨⟨hVL, ok_cons (Vok_i.mpr (in32_w _)) hr, hM⟩, hro, rfl, n1⟩
  | imul =>
    simp only [okE, okN, Bool.and_eq_true, decide_eq_true_eq] at hok
    obtain ⟨⟨n1, n2⟩, h1, h2⟩ := hok
    simp only [st1] at h
    obtain ⟨a, b', r, rfl, hq⟩ := bi2_inv h
    cases hq
    obtain ⟨vb, hr⟩ := List.forall_mem_cons.mp hVs
    obtain ⟨va, hr⟩ := List.forall_mem_cons.mp hr
    exact ⟨⟨hVL, ok_cons (Vok_i.mpr (in32_w _)) hr, hM⟩, hro, rfl, n1⟩
  | iand =>
    simp only [okE, okN, Bool.and_eq_true, decide_eq_true_eq] at hok
    obtain ⟨⟨n1, n2⟩, h1, h2⟩ := hok
    simp only [st1] at h
    obtain ⟨a, b', r, rfl, hq⟩ := bi2_inv h
    cases hq
    obtain ⟨vb, hr⟩ := List.forall_mem_cons.mp hVs
    obtain ⟨va, hr⟩ := List.forall_mem_cons.mp hr
    exact ⟨⟨hVL, ok_cons (Vok_i.mpr (in32_to _)) hr, hM⟩, hro, rfl, n1⟩
  | ior =>
    simp only [okE, okN, Bool.and_eq_true, decide_eq_true_eq] at hok
    obtain ⟨⟨n1, n2⟩, h1, h2⟩ := hok
    simp only [st1] at h
    obtain ⟨a, b', r, rfl, hq⟩ := bi2_inv h
    cases hq
    obtain ⟨vb, hr⟩ := List.forall_mem_cons.mp hVs
    obtain ⟨va, hr⟩ := List.forall_mem_cons.mp hr
    exact ⟨⟨hVL, ok_cons (Vok_i.mpr (in32_to _)) hr, hM⟩, hro, rfl, n1⟩
  | ixor =>
    simp only [okE, okN, Bool.and_eq_true, decide_eq_true_eq] at hok
    obtain ⟨⟨n1, n2⟩, h1, h2⟩ := hok
    simp only [st1] at h
    obtain ⟨a, b', r, rfl, hq⟩ := bi2_inv h
    cases hq
    obtain ⟨vb, hr⟩ := List.forall_mem_cons.mp hVs
    obtain ⟨va, hr⟩ := List.forall_mem_cons.mp hr
    exact ⟨⟨hVL, ok_cons (Vok_i.mpr (in32_to _)) hr, hM⟩, hro, rfl, n1⟩
  | ishl =>
    simp only [okE, okN, Bool.and_eq_true, decide_eq_true_eq] at hok
    obtain ⟨⟨n1, n2⟩, h1, h2⟩ := hok
    simp only [st1] at h
    obtain ⟨a, b', r, rfl, hq⟩ := bi2_inv h
    cases hq
    obtain ⟨vb, hr⟩ := List.forall_mem_cons.mp hVs
    obtain ⟨va, hr⟩ := List.forall_mem_cons.mp hr
    exact ⟨⟨hVL, ok_cons (Vok_i.mpr (in32_to _)) hr, hM⟩, hro, rfl, n1⟩
  | ishr =>
    simp only [okE, okN, Bool.and_eq_true, decide_eq_true_eq] at hok
    obtain ⟨⟨n1, n2⟩, h1, h2⟩ := hok
    simp only [st1] at h
    obtain ⟨a, b', r, rfl, hq⟩ := bi2_inv h
    cases hq
    obtain ⟨vb, hr⟩ := List.forall_mem_cons.mp hVs
    obtain ⟨va, hr⟩ := List.forall_mem_cons.mp hr
    exact ⟨⟨hVL, ok_cons (Vok_i.mpr (in32_to _)) hr, hM⟩, hro, rfl, n1⟩
  | iushr =>
    simp only [okE, okN, Bool.and_eq_true, decide_eq_true_eq] at hok
    obtain ⟨⟨n1, n2⟩, h1, h2⟩ := hok
    simp only [st1] at h
    obtain ⟨a, b', r, rfl, hq⟩ := bi2_inv h
    cases hq
    obtain ⟨vb, hr⟩ := List.forall_mem_cons.mp hVs
    obtain ⟨va, hr⟩ := List.forall_mem_cons.mp hr
    exact ⟨⟨hVL, ok_cons (Vok_i.mpr (in32_to _)) hr, hM⟩, hro, rfl, n1⟩
  | idiv =>
    simp only [okE, okN, Bool.and_eq_true, decide_eq_true_eq] at hok
    obtain ⟨⟨n1, n2⟩, h1, h2⟩ := hok
    simp only [st1] at h
    obtain ⟨a, b', r, rfl, hne, hq⟩ := bd2_inv h
    cases hq
    obtain ⟨vb, hr⟩ := List.forall_mem_cons.mp hVs
    obtain ⟨va, hr⟩ := List.forall_mem_cons.mp hr
    exact ⟨⟨hVL, ok_cons (Vok_i.mpr (in32_to _)) hr, hM⟩, hro, rfl, n1⟩
  | irem =>
    simp only [okE, okN, Bool.and_eq_true, decide_eq_true_eq] at hok
    obtain ⟨⟨n1, n2⟩, h1, h2⟩ := hok
    simp only [st1] at h
    obtain ⟨a, b', r, rfl, hne, hq⟩ := bd2_inv h
    cases hq
    obtain ⟨vb, hr⟩ := List.forall_mem_cons.mp hVs
    obtain ⟨va, hr⟩ := List.forall_mem_cons.mp hr
    exact ⟨⟨hVL, ok_cons (Vok_i.mpr (in32_to _)) hr, hM⟩, hro, rfl, n1⟩
  | ladd =>
    simp only [okE, okN, Bool.and_eq_true, decide_eq_true_eq] at hok
    obtain ⟨⟨n1, n2⟩, h1, h2⟩ := hok
    simp only [st1] at h
    obtain ⟨a, b', r, rfl, hq⟩ := bl2_inv h
    cases hq
    obtain ⟨vb, hr⟩ := List.forall_mem_cons.mp hVs
    obtain ⟨va, hr⟩ := List.forall_mem_cons.mp hr
    exact ⟨⟨hVL, ok_cons (Vok_l.mpr (in64_w _)) hr, hM⟩, hro, rfl, n1⟩
  | lsub =>
    simp only [okE, okN, Bool.and_eq_true, decide_eq_true_eq] at hok
    obtain ⟨⟨n1, n2⟩, h1, h2⟩ := hok
    simp only [st1] at h
    obtain ⟨a, b', r, rfl, hq⟩ := bl2_inv h
    cases hq
    obtain ⟨vb, hr⟩ := List.forall_mem_cons.mp hVs
    obtain ⟨va, hr⟩ := List.forall_mem_cons.mp hr
    exact ⟨⟨hVL, ok_cons (Vok_l.mpr (in64_w _)) hr, hM⟩, hro, rfl, n1⟩
  | lmul =>
    simp only [okE, okN, Bool.and_eq_true, decide_eq_true_eq] at hok
    obtain ⟨⟨n1, n2⟩, h1, h2⟩ := hok
    simp only [st1] at h
    obtain ⟨a, b', r, rfl, hq⟩ := bl2_inv h
    cases hq
    obtain ⟨vb, hr⟩ := List.forall_mem_cons.mp hVs
    obtain ⟨va, hr⟩ := List.forall_mem_cons.mp hr
    exact ⟨⟨hVL, ok_cons (Vok_l.mpr (in64_w _)) hr, hM⟩, hro, rfl, n1⟩
  | land =>
    simp only [okE, okN, Bool.and_eq_true, decide_eq_true_eq] at hok
    obtain ⟨⟨n1, n2⟩, h1, h2⟩ := hok
    simp only [st1] at h
    obtain ⟨a, b', r, rfl, hq⟩ := bl2_inv h
    cases hq
    obtain ⟨vb, hr⟩ := List.forall_mem_cons.mp hVs
    obtain ⟨va, hr⟩ := List.forall_mem_cons.mp hr
    exact ⟨⟨hVL, ok_cons (Vok_l.mpr (in64_to _)) hr, hM⟩, hro, rfl, n1⟩
  | lor =>
    simp only [okE, okN, Bool.and_eq_true, decide_eq_true_eq] at hok
    obtain ⟨⟨n1, n2⟩, h1, h2⟩ := hok
    simp only [st1] at h
    obtain ⟨a, b', r, rfl, hq⟩ := bl2_inv h
    cases hq
    obtain ⟨vb, hr⟩ := List.forall_mem_cons.mp hVs
    obtain ⟨va, hr⟩ := List.forall_mem_cons.mp hr
    exact ⟨⟨hVL, ok_cons (Vok_l.mpr (in64_to _)) hr, hM⟩, hro, rfl, n1⟩
  | lxor =>
    simp only [okE, okN, Bool.and_eq_true, decide_eq_true_eq] at hok
    obtain ⟨⟨n1, n2⟩, h1, h2⟩ := hok
    simp only [st1] at h
    obtain ⟨a, b', r, rfl, hq⟩ := bl2_inv h
    cases hq
    obtain ⟨vb, hr⟩ := List.forall_mem_cons.mp hVs
    obtain ⟨va, hr⟩ := List.forall_mem_cons.mp hr
    exact ⟨⟨hVL, ok_cons (Vok_l.mpr (in64_to _)) hr, hM⟩, hro, rfl, n1⟩
  | lshl =>
    simp only [okE, okN, Bool.and_eq_true, decide_eq_true_eq] at hok
    obtain ⟨⟨n1, n2⟩, h1, h2⟩ := hok
    simp only [st1] at h
    obtain ⟨a, b', r, rfl, hq⟩ := bs2_inv h
    cases hq
    obtain ⟨vb, hr⟩ := List.forall_mem_cons.mp hVs
    obtain ⟨va, hr⟩ := List.forall_mem_cons.mp hr
    exact ⟨⟨hVL, ok_cons (Vok_l.mpr (in64_to _)) hr, hM⟩, hro, rfl, n1⟩
  | lshr =>
    simp only [okE, okN, Bool.and_eq_true, decide_eq_true_eq] at hok
    obtain ⟨⟨n1, n2⟩, h1, h2⟩ := hok
    simp only [st1] at h
    obtain ⟨a, b', r, rfl, hq⟩ := bs2_inv h
    cases hq
    obtain ⟨vb, hr⟩ := List.forall_mem_cons.mp hVs
    obtain ⟨va, hr⟩ := List.forall_mem_cons.mp hr
    exact ⟨⟨hVL, ok_cons (Vok_l.mpr (in64_to _)) hr, hM⟩, hro, rfl, n1⟩
  | lushr =>
    simp only [okE, okN, Bool.and_eq_true, decide_eq_true_eq] at hok
    obtain ⟨⟨n1, n2⟩, h1, h2⟩ := hok
    simp only [st1] at h
    obtain ⟨a, b', r, rfl, hq⟩ := bs2_inv h
    cases hq
    obtain ⟨vb, hr⟩ := List.forall_mem_cons.mp hVs
    obtain ⟨va, hr⟩ := List.forall_mem_cons.mp hr
    exact ⟨⟨hVL, ok_cons (Vok_l.mpr (in64_to _)) hr, hM⟩, hro, rfl, n1⟩
  | ldiv =>
    simp only [okE, okN, Bool.and_eq_true, decide_eq_true_eq] at hok
    obtain ⟨⟨n1, n2⟩, h1, h2⟩ := hok
    simp only [st1] at h
    obtain ⟨a, b', r, rfl, hne, hq⟩ := bq2_inv h
    cases hq
    obtain ⟨vb, hr⟩ := List.forall_mem_cons.mp hVs
    obtain ⟨va, hr⟩ := List.forall_mem_cons.mp hr
    exact ⟨⟨hVL, ok_cons (Vok_l.mpr (in64_to _)) hr, hM⟩, hro, rfl, n1⟩
  | lrem =>
    simp only [okE, okN, Bool.and_eq_true, decide_eq_true_eq] at hok
    obtain ⟨⟨n1, n2⟩, h1, h2⟩ := hok
    simp only [st1] at h
    obtain ⟨a, b', r, rfl, hne, hq⟩ := bq2_inv h
    cases hq
    obtain ⟨vb, hr⟩ := List.forall_mem_cons.mp hVs
    obtain ⟨va, hr⟩ := List.forall_mem_cons.mp hr
    exact ⟨⟨hVL, ok_cons (Vok_l.mpr (in64_to _)) hr, hM⟩, hro, rfl, n1⟩
  | ineg =>
    simp only [okE, okN, Bool.and_eq_true, decide_eq_true_eq] at hok
    obtain ⟨⟨n1, n2⟩, h1, h2⟩ := hok
    simp only [st1] at h
    split at h
    · rename_i a r
      simp only [Option.some.injEq, Prod.mk.injEq] at h
      obtain ⟨rfl, rfl, rfl, rfl⟩ := h
      obtain ⟨va, hr⟩ := List.forall_mem_cons.mp hVs
      exact ⟨⟨hVL, ok_cons (Vok_i.mpr (in32_w _)) hr, hM⟩, hro, rfl, n1⟩
    · cases h
  | lneg =>
    simp only [okE, okN, Bool.and_eq_true, decide_eq_true_eq] at hok
    obtain ⟨⟨n1, n2⟩, h1, h2⟩ := hok
    simp only [st1] at h
    split at h
    · rename_i a r
      simp only [Option.some.injEq, Prod.mk.injEq] at h
      obtain ⟨rfl, rfl, rfl, rfl⟩ := h
      obtain ⟨va, hr⟩ := List.forall_mem_cons.mp hVs
      exact ⟨⟨hVL, ok_cons (Vok_l.mpr (in64_w _)) hr, hM⟩, hro, rfl, n1⟩
    · cases h
  | i2l =>
    simp only [okE, okN, Bool.and_eq_true, decide_eq_true_eq] at hok
    obtain ⟨⟨n1, n2⟩, h1, h2⟩ := hok
    simp only [st1] at h
    split at h
    · rename_i a r
      simp only [Option.some.injEq, Prod.mk.injEq] at h
      obtain ⟨rfl, rfl, rfl, rfl⟩ := h
      obtain ⟨va, hr⟩ := List.forall_mem_cons.mp hVs
      exact ⟨⟨hVL, ok_cons (Vok_l.mpr (in64_32 (Vok_i.mp va))) hr, hM⟩, hro, rfl, n1⟩
    · cases h
  | l2i =>
    simp only [okE, okN, Bool.and_eq_true, decide_eq_true_eq] at hok
    obtain ⟨⟨n1, n2⟩, h1, h2⟩ := hok
    simp only [st1] at h
    split at h
    · rename_i a r
      simp only [Option.some.injEq, Prod.mk.injEq] at h
      obtain ⟨rfl, rfl, rfl, rfl⟩ := h
      obtain ⟨va, hr⟩ := List.forall_mem_cons.mp hVs
      exact ⟨⟨hVL, ok_cons (Vok_i.mpr (in32_w _)) hr, hM⟩, hro, rfl, n1⟩
    · cases h
  | i2c =>
    simp only [okE, okN, Bool.and_eq_true, decide_eq_true_eq] at hok
    obtain ⟨⟨n1, n2⟩, h1, h2⟩ := hok
    simp only [st1] at h
    split at h
    · rename_i a r
      simp only [Option.some.injEq, Prod.mk.injEq] at h
      obtain ⟨rfl, rfl, rfl, rfl⟩ := h
      obtain ⟨va, hr⟩ := List.forall_mem_cons.mp hVs
      exact ⟨⟨hVL, ok_cons (Vok_i.mpr (in32_to _)) hr, hM⟩, hro, rfl, n1⟩
    · cases h
  | lcmp =>
    simp only [okE, okN, Bool.and_eq_true, decide_eq_true_eq] at hok
    obtain ⟨⟨n1, n2⟩, h1, h2⟩ := hok
    simp only [st1] at h
    split at h
    · rename_i b' a r
      simp only [Option.some.injEq, Prod.mk.injEq] at h
      obtain ⟨rfl, rfl, rfl, rfl⟩ := h
      obtain ⟨va, hr⟩ := List.forall_mem_cons.mp hVs
      obtain ⟨va2, hr⟩ := List.forall_mem_cons.mp hr
      exact ⟨⟨hVL, ok_cons (Vok_i.mpr (by unfold lcm in32; split <;> (try split) <;> omega)) hr, hM⟩, hro, rfl, n1⟩
    · cases h
  | dup =>
    simp only [okE, okN, Bool.and_eq_true, decide_eq_true_eq] at hok
    obtain ⟨⟨n1, n2⟩, h1, h2⟩ := hok
    simp only [st1] at h
    split at h
    · rename_i t a r
      split at h
      · cases h
      · rename_i ht
        simp only [Option.some.injEq, Prod.mk.injEq] at h
        obtain ⟨rfl, rfl, rfl, rfl⟩ := h
        obtain ⟨va, hr⟩ := List.forall_mem_cons.mp hVs
        exact ⟨⟨hVL, ok_cons va (ok_cons va hr), hM⟩, hro, rfl, n1⟩
    · cases h
  | dup2 =>
    simp only [okE, okN, Bool.and_eq_true, decide_eq_true_eq] at hok
    obtain ⟨⟨n1, n2⟩, h1, h2⟩ := hok
    simp only [st1] at h
    split at h
    · rename_i t a u b' r
      split at h
      · cases h
      · rename_i ht
        simp only [Option.some.injEq, Prod.mk.injEq] at h
        obtain ⟨rfl, rfl, rfl, rfl⟩ := h
        obtain ⟨va, hr⟩ := List.forall_mem_cons.mp hVs
        obtain ⟨vb, hr⟩ := List.forall_mem_cons.mp hr
        exact ⟨⟨hVL, ok_cons va (ok_cons vb (ok_cons va (ok_cons vb hr))), hM⟩, hro, rfl, n1⟩
    · cases h
  | pop =>
    simp only [okE, okN, Bool.and_eq_true, decide_eq_true_eq] at hok
    obtain ⟨⟨n1, n2⟩, h1, h2⟩ := hok
    simp only [st1] at h
    split at h
    · rename_i t a r
      split at h
      · cases h
      · rename_i ht
        simp only [Option.some.injEq, Prod.mk.injEq] at h
        obtain ⟨rfl, rfl, rfl, rfl⟩ := h
        obtain ⟨va, hr⟩ := List.forall_mem_cons.mp hVs
        exact ⟨⟨hVL, hr, hM⟩, hro, rfl, n1⟩
    · cases h
  | goto t =>
    simp only [okE, okT, Bool.and_eq_true, decide_eq_true_eq] at hok
    obtain ⟨⟨t1, t2, t3⟩, h1, h2⟩ := hok
    simp only [st1, Option.some.injEq, Prod.mk.injEq] at h
    obtain ⟨rfl, rfl, rfl, rfl⟩ := h
    exact ⟨⟨hVL, hVs, hM⟩, hro, rfl, t2⟩
  | if_icmp cd t =>
    simp only [okE, okN, okT, Bool.and_eq_true, decide_eq_true_eq] at hok
    obtain ⟨⟨n1, n2⟩, ⟨t1, t2, t3⟩, h1, h2⟩ := hok
    simp only [st1] at h
    split at h
    · rename_i b' a r
      simp only [Option.some.injEq, Prod.mk.injEq] at h
      obtain ⟨rfl, rfl, rfl, rfl⟩ := h
      obtain ⟨vb, hr⟩ := List.forall_mem_cons.mp hVs
      obtain ⟨va, hr⟩ := List.forall_mem_cons.mp hr
      by_cases hc : cmpB cd a b' = true
      · rw [if_pos hc]
        exact ⟨⟨hVL, hr, hM⟩, hro, rfl, t2⟩
      · rw [if_neg hc]
        exact ⟨⟨hVL, hr, hM⟩, hro, rfl, n1⟩
    · cases h
  | ifCond cd t =>
    simp only [okE, okN, okT, Bool.and_eq_true, decide_eq_true_eq] at hok
    obtain ⟨⟨n1, n2⟩, ⟨t1, t2, t3⟩, h1, h2⟩ := hok
    simp only [st1] at h
    split at h
    · rename_i a r
      simp only [Option.some.injEq, Prod.mk.injEq] at h
      obtain ⟨rfl, rfl, rfl, rfl⟩ := h
      obtain ⟨va, hr⟩ := List.forall_mem_cons.mp hVs
      by_cases hc : cmpB cd a 0 = true
      · rw [if_pos hc]
        exact ⟨⟨hVL, hr, hM⟩, hro, rfl, t2⟩
      · rw [if_neg hc]
        exact ⟨⟨hVL, hr, hM⟩, hro, rfl, n1⟩
    · cases h
  | tableswitch d lo hi ts =>
    simp only [okE, Bool.and_eq_true, decide_eq_true_eq, List.all_eq_true, List.mem_range] at hok
    obtain ⟨hd0, ⟨h1, h2⟩, hall⟩ := hok
    simp only [st1] at h
    split at h
    · rename_i x r
      simp only [Option.some.injEq, Prod.mk.injEq] at h
      obtain ⟨rfl, rfl, rfl, rfl⟩ := h
      obtain ⟨va, hr⟩ := List.forall_mem_cons.mp hVs
      rw [tsw_ok]
      by_cases hin : x < lo ∨ lo + ts.toList.length ≤ x
      · rw [if_pos hin]
        simp only [okT, decide_eq_true_eq] at hd0
        exact ⟨⟨hVL, hr, hM⟩, hro, rfl, hd0.2.1⟩
      · rw [if_neg hin]
        have hj : (x - lo).toNat < ts.toList.length := by omega
        have h9 := hall _ hj
        simp only [okT, decide_eq_true_eq] at h9
        exact ⟨⟨hVL, hr, hM⟩, hro, rfl, h9.2.1⟩
    · cases h
  | lookupswitch d ps =>
    simp only [okE, Bool.and_eq_true, decide_eq_true_eq] at hok
    obtain ⟨hd0, ⟨h1, h2, h3⟩, hall⟩ := hok
    simp only [st1] at h
    split at h
    · rename_i x r
      simp only [Option.some.injEq, Prod.mk.injEq] at h
      obtain ⟨rfl, rfl, rfl, rfl⟩ := h
      obtain ⟨va, hr⟩ := List.forall_mem_cons.mp hVs
      have h9 := lsw_ok (B := B) (b := b) _ _ x hd0 _ _ h3 hall
      simp only [okT, decide_eq_true_eq] at h9
      exact ⟨⟨hVL, hr, hM⟩, hro, rfl, h9.2.1⟩
    · cases h
  | multianewarray ci k =>
    simp only [okE, okN, Bool.and_eq_true, Bool.or_eq_true, decide_eq_true_eq] at hok
    obtain ⟨⟨n1, n2⟩, ⟨h1, h2, hc⟩, hf⟩ := hok
    simp only [st1] at h
    obtain ⟨o, r, v, rfl, hk, hv, hq⟩ := gtf_inv h
    cases hq
    obtain ⟨vo, hr⟩ := List.forall_mem_cons.mp hVs
    have ho : (o, ci + 10) ∈ UNI := Vok_ob vo (by omega)
    have hM1 := hM _ ho k
    simp only [sOk, Nat.add_sub_cancel] at hM1
    have hvv : Vok v ∧ True := by
      rcases hv with ⟨hf0, rfl⟩ | ⟨hf1, rfl⟩ | ⟨hn0, hn1, rfl⟩
      · have hn1 : ¬ FT ci k = 1 := by omega
        rw [if_neg (by have : ¬ aty (ci + 10) = 1 := (fun z => arr_kind z (by omega) (by omega)); omega)] at hM1
        exact ⟨hM1, trivial⟩
      · rw [if_pos (Or.inl ⟨by omega, hf1⟩)] at hM1
        exact ⟨hM1, trivial⟩
      · have hft := cl_ft ci hc k hk
        have h10 : 10 ≤ FT ci k := by omega
        have hu := UNI_fld _ ho (by simp only; omega) k (by simpa using hk) (by simpa using h10)
        simp only [Nat.add_sub_cancel] at hu
        exact ⟨Vok_o hu, trivial⟩
    exact ⟨⟨hVL, ok_cons hvv.1 hr, hM⟩, hro, rfl, n1⟩
  | invokeinterface ci k =>
    simp only [okE, okN, Bool.and_eq_true, Bool.or_eq_true, decide_eq_true_eq] at hok
    obtain ⟨⟨n1, n2⟩, ⟨h1, h2, hc⟩, hf⟩ := hok
    simp only [st1] at h
    obtain ⟨o, r, tv, v, rfl, hk, hv, hq⟩ := ptf_inv h
    cases hq
    obtain ⟨vv, hr⟩ := List.forall_mem_cons.mp hVs
    obtain ⟨vo, hr⟩ := List.forall_mem_cons.mp hr
    have ho : (o, ci + 10) ∈ UNI := Vok_ob vo (by omega)
    have na : ¬ aty (ci + 10) = 1 := fun z => arr_kind z (by omega) (by omega)
    have s1 : sOk (ci + 10) k v := by
      simp only [sOk, Nat.add_sub_cancel]
      rcases hv with ⟨hf0, rfl⟩ | ⟨hf1, rfl⟩ | ⟨hf2, rfl, hb⟩
      · rw [if_neg (by omega)]
        exact vv
      · rw [if_pos (Or.inl ⟨by omega, hf1⟩)]
        exact vv
      · rw [if_neg (by omega)]
        exact vv
    exact ⟨⟨hVL, hr, Mok_up hM ho s1⟩, roU ho, rfl, n1⟩
  | iaload =>
    simp only [okE, okN, Bool.and_eq_true, decide_eq_true_eq] at hok
    obtain ⟨⟨n1, n2⟩, h1, h2⟩ := hok
    simp only [st1] at h
    unfold sld at h
    split at h
    · rename_i i t o r
      obtain ⟨vi, hr1⟩ := List.forall_mem_cons.mp hVs
      obtain ⟨vo, hr⟩ := List.forall_mem_cons.mp hr1
      clear hr1
      split at h
      · rename_i ht
        subst ht
        split at h
        · rename_i hi
          simp only [Option.some.injEq, Prod.mk.injEq] at h
          obtain ⟨rfl, rfl, rfl, rfl⟩ := h
          obtain ⟨Ls, xs, hl, -, hx⟩ := S.1
          have e1 := hx i.toNat (by rw [hl] at hi; omega)
          rw [Int.toNat_of_nonneg hi.1] at e1
          exact ⟨⟨hVL, ok_cons (Vok_i.mpr (by rw [e1]; exact in32_to _)) hr, hM⟩, hro, rfl, n1⟩
        · cases h
      · split at h
        · rename_i ht0 ht
          subst ht
          split at h
          · rename_i hi
            simp only [Option.some.injEq, Prod.mk.injEq] at h
            obtain ⟨rfl, rfl, rfl, rfl⟩ := h
            obtain ⟨xs, hx⟩ := S.2
            have e1 := hx i.toNat (by omega)
            rw [Int.toNat_of_nonneg hi.1] at e1
            exact ⟨⟨hVL, ok_cons (Vok_i.mpr (by rw [e1]; exact in32_to _)) hr, hM⟩, hro, rfl, n1⟩
          · cases h
        · obtain ⟨i', t', o', r', he, ha, h0, hi1, hq⟩ := ald_inv h
          cases he
          cases hq
          have ho : (o, t) ∈ UNI := Vok_ob vo (by have := arr_kind ha (by omega); omega)
          exact ⟨⟨hVL, ok_cons (Vok_i.mpr (sOk_arr (Or.inl ha) (mok_rd hM ho h0))) hr, hM⟩, hro, rfl, n1⟩
    · cases h
  | laload =>
    simp only [okE, okN, Bool.and_eq_true, decide_eq_true_eq] at hok
    obtain ⟨⟨n1, n2⟩, h1, h2⟩ := hok
    simp only [st1] at h
    obtain ⟨i, t, o, r, rfl, ha, h0, hi1, hq⟩ := ald_inv h
    cases hq
    obtain ⟨vi, hr⟩ := List.forall_mem_cons.mp hVs
    obtain ⟨vo, hr⟩ := List.forall_mem_cons.mp hr
    have ho : (o, t) ∈ UNI := Vok_ob vo (by have := arr_kind ha (by omega); omega)
    exact ⟨⟨hVL, ok_cons (Vok_l.mpr (sOk_larr ha (mok_rd hM ho h0))) hr, hM⟩, hro, rfl, n1⟩
  | baload =>
    simp only [okE, okN, Bool.and_eq_true, decide_eq_true_eq] at hok
    obtain ⟨⟨n1, n2⟩, h1, h2⟩ := hok
    simp only [st1] at h
    obtain ⟨i, t, o, r, rfl, ha, h0, hi1, hq⟩ := ald_inv h
    cases hq
    obtain ⟨vi, hr⟩ := List.forall_mem_cons.mp hVs
    obtain ⟨vo, hr⟩ := List.forall_mem_cons.mp hr
    have ho : (o, t) ∈ UNI := Vok_ob vo (by have := arr_kind ha (by omega); omega)
    exact ⟨⟨hVL, ok_cons (Vok_i.mpr (sOk_arr (Or.inr ha) (mok_rd hM ho h0))) hr, hM⟩, hro, rfl, n1⟩
  | aaload =>
    simp only [okE, okN, Bool.and_eq_true, decide_eq_true_eq] at hok
    obtain ⟨⟨n1, n2⟩, h1, h2⟩ := hok
    simp only [st1] at h
    obtain ⟨i, t, o, r, tr, rfl, ha, h0, hi1, hq⟩ := rld_inv h
    cases hq
    obtain ⟨vi, hr⟩ := List.forall_mem_cons.mp hVs
    obtain ⟨vo, hr⟩ := List.forall_mem_cons.mp hr
    have ho : (o, t) ∈ UNI := Vok_ob vo (by
      rcases ha with ⟨ha, -⟩ | ⟨ha, -⟩
      · have := arr_kind ha (by omega); omega
      · have := arr_kind ha (by omega); omega)
    have hm : (PA (aty t) o i, tr) ∈ UNI := by
      have e0 : ((i.toNat : Nat) : Int) = i := Int.toNat_of_nonneg h0
      have hlt : i.toNat < (t - 100) / 8 := by
        rw [aln_nat] at hi1
        omega
      rcases ha with ⟨ha, rfl⟩ | ⟨ha, rfl⟩
      · have := UNI_arr3 _ ho ha i.toNat hlt
        simp only at this
        rw [e0] at this
        rw [ha]
        exact this
      · have := UNI_arr4 _ ho ha i.toNat hlt
        simp only at this
        rw [e0] at this
        rw [ha]
        exact this
    exact ⟨⟨hVL, ok_cons (Vok_o hm) hr, hM⟩, hro, rfl, n1⟩
  | iastore =>
    simp only [okE, okN, Bool.and_eq_true, decide_eq_true_eq] at hok
    obtain ⟨⟨n1, n2⟩, h1, h2⟩ := hok
    simp only [st1] at h
    obtain ⟨v, i, t, o, r, rfl, ha, h0, hi1, hq⟩ := ast_inv h
    cases hq
    obtain ⟨vv, hr⟩ := List.forall_mem_cons.mp hVs
    obtain ⟨vi, hr⟩ := List.forall_mem_cons.mp hr
    obtain ⟨vo, hr⟩ := List.forall_mem_cons.mp hr
    have ho : (o, t) ∈ UNI := Vok_ob vo (by have := arr_kind ha (by omega); omega)
    exact ⟨⟨hVL, hr, by rw [up_nat h0]; exact Mok_up hM ho (sOk_arr' (Or.inl ha) (Vok_i.mp vv))⟩, roU ho, rfl, n1⟩
  | lastore =>
    simp only [okE, okN, Bool.and_eq_true, decide_eq_true_eq] at hok
    obtain ⟨⟨n1, n2⟩, h1, h2⟩ := hok
    simp only [st1] at h
    obtain ⟨v, i, t, o, r, rfl, ha, h0, hi1, hq⟩ := ast_inv h
    cases hq
    obtain ⟨vv, hr⟩ := List.forall_mem_cons.mp hVs
    obtain ⟨vi, hr⟩ := List.forall_mem_cons.mp hr
    obtain ⟨vo, hr⟩ := List.forall_mem_cons.mp hr
    have ho : (o, t) ∈ UNI := Vok_ob vo (by have := arr_kind ha (by omega); omega)
    exact ⟨⟨hVL, hr, by rw [up_nat h0]; exact Mok_up hM ho (sOk_larr' ha (Vok_l.mp vv))⟩, roU ho, rfl, n1⟩
  | bastore =>
    simp only [okE, okN, Bool.and_eq_true, decide_eq_true_eq] at hok
    obtain ⟨⟨n1, n2⟩, h1, h2⟩ := hok
    simp only [st1] at h
    obtain ⟨v, i, t, o, r, rfl, ha, hb, h0, hi1, hq⟩ := bst_inv h
    cases hq
    obtain ⟨vv, hr⟩ := List.forall_mem_cons.mp hVs
    obtain ⟨vi, hr⟩ := List.forall_mem_cons.mp hr
    obtain ⟨vo, hr⟩ := List.forall_mem_cons.mp hr
    have ho : (o, t) ∈ UNI := Vok_ob vo (by have := arr_kind ha (by omega); omega)
    exact ⟨⟨hVL, hr, by rw [up_nat h0]; exact Mok_up hM ho (sOk_arr' (Or.inr ha) (Vok_i.mp vv))⟩, roU ho, rfl, n1⟩
  | arraylength =>
    simp only [okE, okN, Bool.and_eq_true, decide_eq_true_eq] at hok
    obtain ⟨⟨n1, n2⟩, h1, h2⟩ := hok
    simp only [st1] at h
    split at h
    · rename_i t o r
      obtain ⟨vo, hr⟩ := List.forall_mem_cons.mp hVs
      split at h
      · rename_i ht
        subst ht
        simp only [Option.some.injEq, Prod.mk.injEq] at h
        obtain ⟨rfl, rfl, rfl, rfl⟩ := h
        obtain ⟨Ls, xs, hl, hlt, hx⟩ := S.1
        exact ⟨⟨hVL, ok_cons (Vok_i.mpr (by rw [hl]; unfold in32; omega)) hr, hM⟩, hro, rfl, n1⟩
      · split at h
        · cases h
        · rename_i ht0 ha
          simp only [Option.some.injEq, Prod.mk.injEq] at h
          obtain ⟨rfl, rfl, rfl, rfl⟩ := h
          have ho : (o, t) ∈ UNI := Vok_ob vo (by
            have : ¬ t < 100 := fun z => ha (by unfold aty; rw [if_pos z])
            omega)
          exact ⟨⟨hVL, ok_cons (Vok_i.mpr (in32_aln ho ha)) hr, hM⟩, hro, rfl, n1⟩
    · cases h
  | getstatic x0 =>
    simp only [okE, okN, Bool.and_eq_true, decide_eq_true_eq] at hok
    obtain ⟨⟨n1, n2⟩, h1, h2, h3⟩ := hok
    simp only [st1, Option.some.injEq, Prod.mk.injEq] at h
    obtain ⟨rfl, rfl, rfl, rfl⟩ := h
    exact ⟨⟨hVL, ok_cons trivial hVs, hM⟩, hro, rfl, n1⟩
  | ldc t =>
    simp only [okE, okN, Bool.and_eq_true, Bool.or_eq_true, decide_eq_true_eq] at hok
    obtain ⟨⟨n1, n2⟩, h3, ho⟩ := hok
    simp only [st1] at h
    split at h
    · simp only [Option.some.injEq, Prod.mk.injEq] at h
      obtain ⟨rfl, rfl, rfl, rfl⟩ := h
      rcases ho with ⟨rfl, h1, h2⟩ | ⟨rfl, h1, h2⟩
      · exact ⟨⟨hVL, ok_cons trivial hVs, hM⟩, hro, rfl, n1⟩
      · exact ⟨⟨hVL, ok_cons trivial hVs, hM⟩, hro, rfl, n1⟩
    · cases h
  | invokedynamic n =>
    simp only [okE, okN, Bool.and_eq_true, Bool.or_eq_true, decide_eq_true_eq] at hok
    obtain ⟨⟨n1, n2⟩, ho⟩ := hok
    rcases ho with ⟨rfl, h1, h2, h3⟩ | ⟨h3, hn, h1, h2, h4⟩
    · simp only [st1, if_true] at h
      obtain ⟨n, dp, td, d, sp, ts, a, rfl, ha, ha2, i0, i1, i2, i3, i4, hq⟩ := acp_inv h
      cases hq
      obtain ⟨vn, hr⟩ := List.forall_mem_cons.mp hVs
      obtain ⟨vdp, hr⟩ := List.forall_mem_cons.mp hr
      obtain ⟨vd, hr⟩ := List.forall_mem_cons.mp hr
      obtain ⟨vsp, hr⟩ := List.forall_mem_cons.mp hr
      obtain ⟨vs, hr⟩ := List.forall_mem_cons.mp hr
      have ho : (a, ts) ∈ UNI := Vok_ob vs (by have := arr_kind ha (by omega); omega)
      have ho2 : (d, td) ∈ UNI := Vok_ob vd (by have := arr_kind ha2 (by omega); omega)
      have hlt := UNI_lt _ ho2
      simp only at hlt
      refine ⟨⟨hVL, hr, Mok_cpy hM ho ho2 ha ha2 i1⟩, ⟨fun z => ?_, fun z => ?_⟩, rfl, n1⟩
      · unfold cpy; rw [if_neg (by omega)]
      · unfold cpy; rw [if_neg (by omega)]
    · have hs := h3
      have hinv : StOk L' st' m' ∧ L' = L ∧ m' = m ∧ pc' = pc + 1 := by
        have h' := h
        simp only [st1, if_neg hn] at h'
        have in32w : ∀ x : Int, in32 (wchar x) := by
          intro x
          unfold wchar
          have hall : ∀ v ∈ WORDSL, in32 v := by unfold in32; decide +kernel
          rw [List.getD_eq_getElem?_getD]
          cases hx : WORDSL[x.toNat]? with
          | none => exact in32_lit0
          | some v => exact hall v (List.mem_of_getElem? hx)
        have in32x : ∀ (l : List Int) (c k : Int), 0 ≤ k → k + l.length ≤ 1000 → in32 (idxOf l c k) := by
          intro l
          induction l with
          | nil => intro c k _ _; unfold idxOf in32; omega
          | cons x r ih =>
            intro c k h0 h1
            unfold idxOf
            simp only [List.length_cons] at h1
            split
            · unfold in32; omega
            · exact ih c (k + 1) (by omega) (by omega)
        split at h'
        · split at h'
          · simp only [Option.some.injEq, Prod.mk.injEq] at h'
            obtain ⟨rfl, rfl, rfl, rfl⟩ := h'
            exact ⟨⟨hVL, ok_cons (Vok_i.mpr (by unfold in32; omega)) (fun _ z => by cases z), hM⟩, rfl, rfl, rfl⟩
          · simp only [Option.some.injEq, Prod.mk.injEq] at h'
            obtain ⟨rfl, rfl, rfl, rfl⟩ := h'
            obtain ⟨_, hr⟩ := List.forall_mem_cons.mp hVs
            exact ⟨⟨hVL, ok_cons (Vok_i.mpr (by unfold in32; omega)) hr, hM⟩, rfl, rfl, rfl⟩
          · cases h'
        · split at h'
          · split at h'
            · split at h'
              · simp only [Option.some.injEq, Prod.mk.injEq] at h'
                obtain ⟨rfl, rfl, rfl, rfl⟩ := h'
                exact ⟨⟨hVL, ok_cons (Vok_i.mpr (in32w _)) (fun _ z => by cases z), hM⟩, rfl, rfl, rfl⟩
              · cases h'
            · cases h'
          · split at h'
            · split at h'
              · simp only [Option.some.injEq, Prod.mk.injEq] at h'
                obtain ⟨rfl, rfl, rfl, rfl⟩ := h'
                exact ⟨⟨hVL, ok_cons (Vok_i.mpr (in32x _ _ _ (by omega) (by decide))) (fun _ z => by cases z), hM⟩, rfl, rfl, rfl⟩
              · cases h'
            · cases h'
      obtain ⟨hV', rfl, rfl, rfl⟩ := hinv
      exact ⟨hV', hro, rfl, n1⟩
  | _ => simp [st1] at h
end
section
/-! A RUN OF THE NUMBER MACHINE IS A RUN OF THE MACHINE -/
/-- a method for the machine: its name, bytes, type of answer, static or not, the owner's number, its instructions as they lie in the bytes -/
abbrev MSr : Type := MethodName × ByteArray × Option FieldType × Bool × Nat × List (Nat × Instr × Nat)
def retOK (rt : Nat) (ret : Option FieldType) : Prop := (rt = 0 ∧ ret = some .int) ∨ (rt = 1 ∧ ret = some .long) ∨ (rt = 2 ∧ ret = some .boolean) ∨ (rt = 3 ∧ ret = none) ∨ (10 ≤ rt ∧ ∃ n, ret = some (.object n))
def Tab (own : Nat) (cc : ByteArray) (C : List Instr) (B : List (Nat × Instr × Nat)) : Prop := C.length = B.length ∧ ∀ (j : Nat) (i : Instr) (b : Nat × Instr × Nat), C[j]? = some i → B[j]? = some b → decode cc b.1 = .ok (b.2.1, b.2.2) ∧ okE own B j b i = true
def tagW (t : Nat) : Nat := if t = 1 then 2 else 1
def MOK (k : Nat) (M : MI) (S : MSr) : Prop :=
  (S.2.2.2.1 = true ↔ k ∈ STK) ∧ plainName S.1.cls = true ∧ YN k = S.1 ∧ OWNN S.2.2.2.2.1 = S.1.cls ∧ Cond.code S.1 S.2.1 M.2.2.1 S.2.2.1 ∈ WT ∧ Cond.initialized S.1.cls ∈ WT ∧ (S.1.cls ≠ "java/lang/invoke/MethodHandle" ∧ S.1.cls ≠ "java/lang/invoke/VarHandle") ∧
  (S.2.2.2.1 = true → Cond.static S.1 ∈ WT ∧ (parseMethodDescriptor S.1.desc).map (fun d => d.parameters.length) = some M.1.length) ∧
  (S.2.2.2.1 = false → Cond.instanceMethod S.1 ∈ WT ∧ Cond.selects S.1.cls S.1 S.1 ∈ WT ∧ ∃ (ci : Nat) (tl : List Nat), M.1 = (ci + 10) :: tl ∧ ci < 9 ∧ CR ci = S.1.cls ∧ (parseMethodDescriptor S.1.desc).map (fun d => d.parameters.length) = some tl.length) ∧
  retOK M.2.1 S.2.2.1 ∧ M.2.2.1 ≤ 40 ∧ (M.1.map tagW).sum ≤ M.2.2.1 ∧ Tab S.2.2.2.2.1 S.2.1 M.2.2.2 S.2.2.2.2.2 ∧ 0 < S.2.2.2.2.2.length ∧ bpOf S.2.2.2.2.2 0 = 0
def Tabs (MT : List MI) (MS : List MSr) : Prop := ∀ (k : Nat) (M : MI), MT[k]? = some M → ∃ S : MSr, MS[k]? = some S ∧ MOK k M S
theorem Sc_ro {ad : Int → Nat} {A : Nat → Prop} {s : State} {H : Heap} {m m' : Mm} (h : Sc NWL ad A s H m) (h0 : ∀ z, m' 500 z = m 500 z) (h1 : ∀ z, m' 501 z = m 501 z) : Sc NWL ad A s H m' := by
  obtain ⟨⟨Ls, xs, a1, a2, a3, a4, a5, a6⟩, ⟨ys, b1, b2, b3, b4⟩, r⟩ := h
  exact ⟨⟨Ls, xs, a1, a2, a3, by rw [h0]; exact a4, a5, fun j hj => by rw [h0]; exact a6 j hj⟩, ⟨ys, b1, b2, b3, fun j hj => by rw [h1]; exact b4 j hj⟩, r⟩
theorem NW_warm {s U : State} (hW : s.WarmedH U.vm) (h : ∀ w ∈ NWL, va_Nw w s) : ∀ w ∈ NWL, va_Nw w U := by
  intro w hw
  have h1 := h w hw
  rcases List.mem_cons.mp hw with rfl | hw
  · exact va_Nw.warmF hW h1
  · obtain ⟨q, hq, rfl⟩ := List.mem_map.mp hw
    have hq2 := (List.mem_filter.mp hq).2
    simp only [FLW, fword, if_pos hq2] at h1 ⊢
    exact va_Nw.warmF hW h1
theorem NW_same {u U : State} (hv : u.vm = U.vm) (h : ∀ w ∈ NWL, va_Nw w u) : ∀ w ∈ NWL, va_Nw w U := by
  intro w hw
  have h1 := h w hw
  refine va_Nw.same ?_ hv h1
  rcases List.mem_cons.mp hw with rfl | hw
  · rfl
  · obtain ⟨q, hq, rfl⟩ := List.mem_map.mp hw
    have hq2 := (List.mem_filter.mp hq).2
    simp only [FLW, fword, if_pos hq2]
    rfl
theorem Sc_warm {ad : Int → Nat} {A : Nat → Prop} {s U : State} {H : Heap} {m : Mm} (hW : s.WarmedH U.vm) (h : Sc NWL ad A s H m) : Sc NWL ad A U H m := by
  obtain ⟨⟨Ls, xs, a1, a⟩, ⟨ys, b1, b⟩, c1, ⟨adV, d1⟩, e1, e2, f1, f2, g⟩ := h
  exact ⟨⟨Ls, xs, va_X.moved hW.alike a1, a⟩, ⟨ys, va_X.moved hW.alike b1, b⟩, va_Z.moved hW.alike c1, ⟨adV, vk_S.moved hW.alike d1⟩, vk_R.warm hW e1, vk_R.warm hW e2, va_Z.moved hW.alike f1, va_Zq.moved hW.alike f2, NW_warm hW g⟩
theorem Sc_same {ad : Int → Nat} {A : Nat → Prop} {u U : State} {H : Heap} {m : Mm} (hv : u.vm = U.vm) (h : Sc NWL ad A u H m) : Sc NWL ad A U H m := by
  obtain ⟨⟨Ls, xs, a1, a⟩, ⟨ys, b1, b⟩, c1, ⟨adV, d1⟩, e1, e2, f1, f2, g⟩ := h
  have hal : u.vm.Alike U.vm := by rw [hv]; exact Vm.Alike.refl _
  exact ⟨⟨Ls, xs, va_X.moved hal a1, a⟩, ⟨ys, va_X.moved hal b1, b⟩, va_Z.moved hal c1, ⟨adV, vk_S.moved hal d1⟩, vk_R.same hv.symm e1, vk_R.same hv.symm e2, va_Z.moved hal f1, va_Zq.moved hal f2, NW_same hv g⟩
theorem Sc_kept {ad : Int → Nat} {A : Nat → Prop} {s : State} {H H1 : Heap} {m : Mm} (h : Sc NWL ad A s H m) (hz : H.size ≤ H1.size) (hq : ∀ a : Nat, a < H.size → ¬ A a → H1[a]? = H[a]?) : Sc NWL ad A s H1 m := by
  obtain ⟨⟨Ls, xs, a1, a2, a3, a⟩, ⟨ys, b1, b2, b3, b⟩, c1, ⟨adV, d1⟩, e1, e2, f1, f2, g⟩ := h
  exact ⟨⟨Ls, xs, a1.kept (hq _ a2 a3), Nat.lt_of_lt_of_le a2 hz, a3, a⟩, ⟨ys, b1.kept (hq _ b2 b3), Nat.lt_of_lt_of_le b2 hz, b3, b⟩, c1.kept hq, ⟨adV, d1.kept hq⟩, e1, e2, f1.kept hq, f2.kept hq, g⟩
theorem Sc_narrow {ad : Int → Nat} {A A' : Nat → Prop} {s : State} {H : Heap} {m : Mm} (h : Sc NWL ad A s H m) (hA : ∀ q, A' q → A q) : Sc NWL ad A' s H m := by
  obtain ⟨⟨Ls, xs, a1, a2, a3, a⟩, ⟨ys, b1, b2, b3, b⟩, c1, ⟨adV, d1⟩, e1, e2, f1, f2, g⟩ := h
  exact ⟨⟨Ls, xs, a1, a2, fun z => a3 (hA _ z), a⟩, ⟨ys, b1, b2, fun z => b3 (hA _ z), b⟩, c1.narrow hA, ⟨adV, d1.narrow hA⟩, e1, e2, f1.narrow hA, f2.narrow hA, g⟩
/-! a contract's start and end -/
def Pk (ad : Int → Nat) (G : Nat → ClassId) (D : va_G) (a : List Vv) (m : Mm) (sz : Nat) : Array Value → State → Prop := va_Pc (a.map (cv ad)) (fun U => U.heap.size = sz ∧ va_P D vwCl (WS ad G m) U.heap ∧ va_K D vwCl (TYS G) U ∧ va_D (fun _ => True) (WS ad G m) ∧ Sc NWL ad (va_A (WS ad G m) sz) U U.heap m)
def Qk (ad : Int → Nat) (G : Nat → ClassId) (D : va_G) (v : Option Vv) (m' : Mm) (A1 : Nat → Prop) : Array Value → State → Outcome → State → Prop := fun _ st oc t => oc = .returned (v.map (cv ad)) ∧ va_P D vwCl (WS ad G m') t.heap ∧ va_D A1 (WS ad G m') ∧ va_F A1 st t
theorem run_go {p : Program} {l : Launch} {e : Env} {R : Room} {s : State} {mid : MethodId} {args : Array Value} {below : List Frame} {meth : Method} {c : Code} {H : Heap} {locs : List Loc} {cells slots : Nat} {Q : State → Prop} {pc : Nat} {ls : Array Slot} {rest st0 : List Value} {a : Array Value} {A0 A1 : Nat → Prop} {H0 : Heap} {free : Addr → Prop} {ad : Int → Nat} {G : Nat → ClassId} {D : va_G} {v : Option Vv} {m1 : Mm}
    (hr : va_Run p l e R s mid args below meth c H locs cells slots 0 0 (F0 mid pc ls st0) rest (Qk ad G D v m1 A1 a) free) (hS : va_S A0 H0 H locs) (hA : ∀ q, q < H.size → A1 q → A0 q) (hf : ∀ q, free q → A0 q)
    (kk : ∀ (H1 : Heap) (locs1 : List Loc), va_P D vwCl (WS ad G m1) H1 → va_D A1 (WS ad G m1) → va_S A0 H0 H1 locs1 → W p l e R s mid args below meth c H1 locs1 cells slots Q (F0 mid (pc + 3) ls ((v.map (cv ad)).toList ++ rest))) : W p l e R s mid args below meth c H locs cells slots Q (F0 mid pc ls st0) := by
  intro T hT X
  obtain ⟨v', st₀, t, T', L, h0, X', hL, e1, e2, ⟨hv, hp, hd, hz, hk⟩, st⟩ := hr T hT X
  cases hv
  rw [h0] at hz hk
  obtain ⟨t2, a1, b1⟩ := kk T'.heap (locs ++ L) (by rw [e1]; exact hp) hd
    ⟨Nat.le_trans hS.1 (by rw [e1]; exact hz), fun q h1 h2 => by rw [e1, hk q (Nat.lt_of_lt_of_le h1 hS.1) (fun z => h2 (hA q (Nat.lt_of_lt_of_le h1 hS.1) z))]; exact hS.2.1 q h1 h2, fun q hq => by
      rcases List.mem_append.mp hq with h | h
      · exact hS.2.2 q h
      · exact hf _ (hL q h)⟩ T' rfl X'
  exact ⟨t2, st t2 a1, b1⟩
theorem ent_args (ad : Int → Nat) : ∀ (a : List Vv) (k i : Nat) (v : Vv), (entL a)[i]? = some v → v.1 ≠ 9 → (k + i, cv ad v) ∈ lv_args k (a.map (cv ad)) := by
  intro a
  induction a with
  | nil => intro k i v h; simp [entL] at h
  | cons q r ih =>
    obtain ⟨t, x⟩ := q
    intro k i v h h9
    have hcat : (cv ad (t, x)).category = catV (t, x) := cv_cat ad _
    by_cases ht : t = 1
    · subst ht
      simp only [entL, if_true] at h
      simp only [List.map_cons, lv_args, hcat]
      rw [if_pos (by simp [catV])]
      match i, h with
      | 0, h =>
        simp only [List.getElem?_cons_zero, Option.some.injEq] at h
        subst h
        exact List.mem_cons_self
      | 1, h =>
        simp only [List.getElem?_cons_succ, List.getElem?_cons_zero, Option.some.injEq] at h
        subst h
        exact absurd rfl h9
      | i + 2, h =>
        simp only [List.getElem?_cons_succ] at h
        have := ih (k + 2) i v h h9
        rw [show k + (i + 2) = k + 2 + i by omega]
        exact List.mem_cons_of_mem _ this
    · simp only [entL, if_neg ht] at h
      simp only [List.map_cons, lv_args, hcat]
      rw [if_neg (by simp [catV, ht])]
      match i, h with
      | 0, h =>
        simp only [List.getElem?_cons_zero, Option.some.injEq] at h
        subst h
        exact List.mem_cons_self
      | i + 1, h =>
        simp only [List.getElem?_cons_succ] at h
        have := ih (k + 1) i v h h9
        rw [show k + (i + 1) = k + 1 + i by omega]
        exact List.mem_cons_of_mem _ this
theorem ent_len (ad : Int → Nat) : ∀ a : List Vv, (lg_sl (a.map (cv ad))).length = (entL a).length ∧ (entL a).length = (a.map (fun v => tagW v.1)).sum := by
  intro a
  induction a with
  | nil => exact ⟨rfl, rfl⟩
  | cons q r ih =>
    obtain ⟨t, x⟩ := q
    have hcat : (cv ad (t, x)).category = catV (t, x) := cv_cat ad _
    have e1 : lg_sl ((cv ad (t, x)) :: r.map (cv ad)) = (if (cv ad (t, x)).category = 2 then [.val (cv ad (t, x)), .second] else [.val (cv ad (t, x))]) ++ lg_sl (r.map (cv ad)) := by simp [lg_sl]
    by_cases ht : t = 1
    · subst ht
      refine ⟨?_, ?_⟩
      · rw [List.map_cons, e1, hcat, if_pos (by simp [catV])]
        simp [entL, ih.1]
      · simp [entL, tagW, ih.2]; omega
    · refine ⟨?_, ?_⟩
      · rw [List.map_cons, e1, hcat, if_neg (by simp [catV, ht])]
        simp [entL, ht, ih.1]
      · simp [entL, tagW, ht, ih.2]; omega
theorem LH_ent (ad : Int → Nat) (a : List Vv) {n : Nat} (hn : (entL a).length ≤ n) : LH ad ((lg_sl (a.map (cv ad)) ++ List.replicate (n - (lg_sl (a.map (cv ad))).length) Slot.unset).toArray) n (ent a n) := by
  have h0 := (ent_len ad a).1
  obtain ⟨h1, h2, h3⟩ := lv_entry (a.map (cv ad)) (n := n) (by rw [h0]; exact hn)
  refine ⟨by simp [ent]; omega, h1, h2, fun i v hi h9 => ?_⟩
  unfold ent at hi
  by_cases hl : i < (entL a).length
  · rw [List.getElem?_append_left hl] at hi
    have := ent_args ad a 0 i v hi h9
    rw [Nat.zero_add] at this
    exact h3 _ this
  · rw [List.getElem?_append_right (by omega)] at hi
    have := List.mem_of_getElem? hi
    have := (List.mem_replicate.mp this).2
    rw [this] at h9
    exact absurd rfl h9
theorem entL_ok {a : List Vv} (h : ∀ v ∈ a, Vok v) : ∀ v ∈ entL a, Vok v := by
  induction a with
  | nil => intro v hv; cases hv
  | cons q r ih =>
    obtain ⟨t, x⟩ := q
    obtain ⟨h1, h2⟩ := List.forall_mem_cons.mp h
    intro v hv
    unfold entL at hv
    split at hv
    · rcases List.mem_cons.mp hv with rfl | hv
      · exact h1
      · rcases List.mem_cons.mp hv with rfl | hv
        · exact Vok_9
        · exact ih h2 v hv
    · rcases List.mem_cons.mp hv with rfl | hv
      · exact h1
      · exact ih h2 v hv
theorem ent_ok {a : List Vv} {n : Nat} (h : ∀ v ∈ a, Vok v) : ∀ v ∈ ent a n, Vok v := by
  intro v hv
  rcases List.mem_append.mp hv with hv | hv
  · exact entL_ok h v hv
  · rw [(List.mem_replicate.mp hv).2]
    exact Vok_9
/-- the return of a method -/
theorem ret_go {p : Program} {l : Launch} {e : Env} {R : Room} {s : State} {mid : MethodId} {args : Array Value} {below : List Frame} {meth : Method} {c : Code} {ad : Int → Nat} {G : Nat → ClassId} {D : va_G} {A : Nat → Prop} {nL : Nat} {own : Nat} {cc : ByteArray} {B : List (Nat × Instr × Nat)} {C : List Instr} {ret : Option FieldType} {rt : Nat} {v : Option Vv} {m' : Mm} {j : Nat} {i : Instr} {L st : List Vv}
    (K : CX NWL p R s mid args c (OWNN own) cc ad G D A nL) (hr : meth.sig.returnType = ret) (hlocks : meth.locks = false) (hrt : retOK rt ret) (T : Tab own cc C B) (hi : C[j]? = some i) (h : ret1 i rt st = some v) :
    Go p l e R s mid args below meth c (MQ below (Qk ad G D v m' A) args s 0 0 A) ad G D A nL 0 0 (bpOf B j) L st m' := by
  intro H locs ls hP hD hS hL
  have hjl : j < B.length := by rw [← T.1]; exact (List.getElem?_eq_some_iff.mp hi).1
  obtain ⟨b, hb⟩ : ∃ b, B[j]? = some b := ⟨B[j], List.getElem?_eq_getElem hjl⟩
  obtain ⟨hdec, hok⟩ := T.2 j i b hi hb
  rw [bpOf_at hb]
  have hq : ∀ (v9 : Option Value), v.map (cv ad) = v9 → ∀ t : State, t.heap = H → s.WarmedH t.vm → Qk ad G D v m' A args s (.returned v9) t := fun v9 hv t ht _ => ⟨by rw [hv], by rw [ht]; exact hP, hD, hS.F ht⟩
  cases i with
  | ireturn =>
    simp only [okE, decide_eq_true_eq] at hok
    simp only [ret1] at h
    split at h
    · rename_i x
      split at h
      · rename_i h0
        cases h
        have hret : ret = some .int := by rcases hrt with ⟨a1, a2⟩ | ⟨a1, a2⟩ | ⟨a1, a2⟩ | ⟨a1, a2⟩ | ⟨a1, a2⟩ <;> first | exact a2 | omega
        exact W.iret (v := Int32.ofInt x) K.1 K.2.1 (hr.trans hret) (hq _ rfl) hS.2.2 (dec_of hdec hok.1 hok.2) hlocks
      · split at h
        · split at h
          · rename_i h0 h2 hx
            cases h
            have hret : ret = some .boolean := by rcases hrt with ⟨a1, a2⟩ | ⟨a1, a2⟩ | ⟨a1, a2⟩ | ⟨a1, a2⟩ | ⟨a1, a2⟩ <;> first | exact a2 | omega
            exact W.zret (v := Int32.ofInt x) K.1 K.2.1 (hr.trans hret) (by rcases hx with rfl | rfl <;> rfl) (hq _ rfl) hS.2.2 (dec_of hdec hok.1 hok.2) hlocks
          · cases h
        · cases h
    · cases h
  | lreturn =>
    simp only [okE, decide_eq_true_eq] at hok
    simp only [ret1] at h
    split at h
    · rename_i x
      split at h
      · rename_i h0
        cases h
        have hret : ret = some .long := by rcases hrt with ⟨a1, a2⟩ | ⟨a1, a2⟩ | ⟨a1, a2⟩ | ⟨a1, a2⟩ | ⟨a1, a2⟩ <;> first | exact a2 | omega
        exact W.lret (v := Int64.ofInt x) K.1 K.2.1 (hr.trans hret) (hq _ rfl) hS.2.2 (dec_of hdec hok.1 hok.2) hlocks
      · cases h
    · cases h
  | areturn =>
    simp only [okE, decide_eq_true_eq] at hok
    simp only [ret1] at h
    split at h
    · rename_i t x
      split at h
      · rename_i h0
        cases h
        obtain ⟨h0, h10⟩ := h0
        subst h0
        obtain ⟨nm, hret⟩ : ∃ n, ret = some (.object n) := by
          rcases hrt with ⟨a1, a2⟩ | ⟨a1, a2⟩ | ⟨a1, a2⟩ | ⟨a1, a2⟩ | ⟨a1, a2⟩
          · omega
          · omega
          · omega
          · omega
          · exact a2
        obtain ⟨a, ha⟩ := cv_r ad rt x (by omega)
        show W p l e R s mid args below meth c H locs 0 0 _ (F0 mid b.1 ls [cv ad (rt, x)])
        exact W.aret K.1 K.2.1 (hr.trans hret) (Or.inl ⟨nm, rfl⟩) (Or.inr ⟨a, ha⟩) (hq _ rfl) hS.2.2 (dec_of hdec hok.1 hok.2) hlocks
      · cases h
    · cases h
  | return_ =>
    simp only [okE, decide_eq_true_eq] at hok
    simp only [ret1] at h
    split at h
    · split at h
      · rename_i h0
        cases h
        have hret : ret = none := by rcases hrt with ⟨a1, a2⟩ | ⟨a1, a2⟩ | ⟨a1, a2⟩ | ⟨a1, a2⟩ | ⟨a1, a2⟩ <;> first | exact a2 | omega
        exact W.vret K.1 K.2.1 (hr.trans hret) (hq _ rfl) hS.2.2 (dec_of hdec hok.1 hok.2) hlocks
      · cases h
    · cases h
  | _ => simp [ret1] at h
/-- what is still owed of the texts' own methods -/
def STR : Prop := ∀ (p : Program) (l : Launch) (e : Env) (R : Room) (s : State) (mid : MethodId) (args : Array Value) (below : List Frame) (meth : Method) (c : Code) (Q : State → Prop) (ad : Int → Nat) (G : Nat → ClassId) (D : va_G) (A : Nat → Prop) (nL cells slots : Nat) (cc : ByteArray) (m : Mm), CX NWL p R s mid args c RX6 cc ad G D A nL → Sc NWL ad A s s.heap m → 10 ≤ R.frames → 640 ≤ R.locals → cells ≤ R.cells → slots ≤ R.slots → StrRows p l e R s mid args below meth c Q ad G D A nL cells slots cc
/-- what a run gives: its end's numbers are right, and the machine goes along with it -/
def SND (MT : List MI) (n : Nat) : Prop := ∀ (d : Nat) (C : List Instr) (rt pc : Nat) (L st : List Vv) (m : Mm) (v : Option Vv) (m' : Mm) (p : Program) (l : Launch) (e : Env) (R : Room) (s : State) (mid : MethodId) (args : Array Value) (below : List Frame) (meth : Method) (c : Code) (Q : State → Prop) (ad : Int → Nat) (G : Nat → ClassId) (D : va_G) (A : Nat → Prop) (nL own : Nat) (cc : ByteArray) (B : List (Nat × Instr × Nat)) (cells slots : Nat),
  ex MT n d C rt pc L st m = some (v, m') → CX NWL p R s mid args c (OWNN own) cc ad G D A nL → Sc NWL ad A s s.heap m → Tab own cc C B → StOk L st m → d + 10 ≤ R.frames → 64 * (d + 10) ≤ R.locals → cells ≤ R.cells → slots ≤ R.slots →
  (Mok m' ∧ (∀ w, v = some w → Vok w) ∧ (∀ z, m' 500 z = m 500 z) ∧ (∀ z, m' 501 z = m 501 z)) ∧
  ((∀ (j : Nat) (i : Instr) (L' st' : List Vv), C[j]? = some i → ret1 i rt st' = some v → Go p l e R s mid args below meth c Q ad G D A nL cells slots (bpOf B j) L' st' m') → Go p l e R s mid args below meth c Q ad G D A nL cells slots (bpOf B pc) L st m)

theorem WT_good {w : Cond} (h : w ∈ WT) : goodWord w = true := (List.mem_filter.mp h).2
theorem goodWT {w0 : Cond} (h0 : w0 ∈ WT) : GoodIn WT (w0 :: WT) := fun w hw => by
  rcases List.mem_cons.mp hw with rfl | hw
  · exact ⟨h0, good_of_word (WT_good h0)⟩
  · exact ⟨hw, good_of_word (WT_good hw)⟩
def rmD (d : Nat) : Room := { frames := d + 10, cells := 0, slots := 0, locals := 64 * (d + 10) }
/-- a method's contract, out of what runs of its length give -/
theorem met_of {MT : List MI} {n d k sz : Nat} {M : MI} {S : MSr} {a : List Vv} {m m' : Mm} {v : Option Vv} (IH : SND MT n) (hM : MOK k M S) (l : Launch) (ad : Int → Nat) (G : Nat → ClassId) (D : va_G) (h : ex MT n d M.2.2.2 M.2.1 0 (ent a M.2.2.1) [] m = some (v, m')) (ha : a.map (fun v => v.1) = M.1) (hV : ∀ v ∈ a, Vok v) (hm : Mok m) :
    Met l S.1 (Cond.code S.1 S.2.1 M.2.2.1 S.2.2.1 :: WT) (rmD d) (Pk ad G D a m sz) (Qk ad G D v m' (va_A (WS ad G m) sz)) 0 0 (va_A (WS ad G m) sz) := by
  obtain ⟨hstk0, hp1, hy, hown, hcode, hini, hnames, hst, hin, hret, h40, hsum, hT, hB0, hb0⟩ := hM
  refine Met.ofW (cc := S.2.1) (maxL := M.2.2.1) (ret := S.2.2.1) hp1 rfl ?_
  intro p e s mid args below meth c s₁ B hml hv
  obtain ⟨rfl, hsz, hP, hK, hD0, hSc⟩ := hv
  have hts0 := atoms_spec (ws := Cond.code S.1 S.2.1 M.2.2.1 S.2.2.1 :: WT) B.pre
  have hfc : s.vm.findClass S.1.cls = some mid.cls := findClass_of_methodNamed B.named
  subst hsz
  have hD := hD0.self (sz := s.heap.size)
  have K : CX NWL p (headSpec (Cond.code S.1 S.2.1 M.2.2.1 S.2.2.1 :: WT) (rmD d)).room s mid ((a.map (cv ad)).toArray) c (OWNN S.2.2.2.2.1) S.2.1 ad G D (va_A (WS ad G m) s.heap.size) M.2.2.1 :=
    ⟨B.exec, B.bytes, hml, by rw [hown]; exact hfc, fun w hw => hts0 w (List.mem_cons_of_mem _ hw), hK, fun q hq => Or.inr hq, by show 1 ≤ d + 10; omega, by show 64 ≤ 64 * (d + 10); omega, hSc.2.2.2.2.2.2.2.2⟩
  have hlen : (entL a).length ≤ M.2.2.1 := by
    rw [(ent_len ad a).2]
    have e1 : a.map (fun v => tagW v.1) = M.1.map tagW := by rw [← ha, List.map_map]; rfl
    rw [e1]
    exact hsum
  have hfin := (IH d M.2.2.2 M.2.1 0 (ent a M.2.2.1) [] m v m' p l e _ s mid _ below meth c (MQ below (Qk ad G D v m' (va_A (WS ad G m) s.heap.size)) ((a.map (cv ad)).toArray) s 0 0 (va_A (WS ad G m) s.heap.size)) ad G D _ M.2.2.1 S.2.2.2.2.1 S.2.1 S.2.2.2.2.2 0 0 h K hSc hT ⟨ent_ok hV, (fun _ z => by cases z), hm⟩ (Nat.le_refl _) (Nat.le_refl _) (Nat.zero_le _) (Nat.zero_le _)).2
    (fun j i L' st' hj hr => ret_go K B.returns B.notSynchronized hret hT hj hr)
  have := hfin s.heap [] _ hP hD va_S.rf (LH_ent ad a hlen)
  rw [hb0] at this
  rw [lg_entry_eq]
  exact this

theorem ex_call {MT : List MI} {n d : Nat} {C : List Instr} {rt pc k : Nat} {L st : List Vv} {m : Mm} (h : C[pc]? = some (.invokestatic k)) : ex MT (n + 1) d C rt pc L st m =
    match d, MT[k]? with
        | d' + 1, some M =>
          if ((st.take M.1.length).reverse.map (fun v => v.1)) = M.1 ∧ catS (st.drop M.1.length) ≤ 8 then
            match ex MT n d' M.2.2.2 M.2.1 0 (ent (st.take M.1.length).reverse M.2.2.1) [] m with
            | some (v, m') => ex MT n d C rt (pc + 1) L (v.toList ++ st.drop M.1.length) m'
            | none => none
          else none
        | _, _ => none := by
  rw [ex, h]
  rfl
theorem ex_other {MT : List MI} {n d : Nat} {C : List Instr} {rt pc : Nat} {L st : List Vv} {m : Mm} {i : Instr} (h : C[pc]? = some i) (hi : ∀ k, i ≠ .invokestatic k) : ex MT (n + 1) d C rt pc L st m =
    match ret1 i rt st with
        | some v => some (v, m)
        | none =>
          match st1 i pc L st m with
          | some (pc', L', st', m') => ex MT n d C rt pc' L' st' m'
          | none => none := by
  rw [ex, h]
  cases i <;> first | rfl | exact absurd rfl (hi _)
theorem ret1_ok {i : Instr} {rt : Nat} {st : List Vv} {v : Option Vv} (h : ret1 i rt st = some v) (hV : ∀ w ∈ st, Vok w) : ∀ w, v = some w → Vok w := by
  intro w hw
  subst hw
  cases i with
  | ireturn =>
    simp only [ret1] at h
    split at h
    · split at h
      · cases h; exact hV _ List.mem_cons_self
      · split at h
        · split at h
          · cases h; exact hV _ List.mem_cons_self
          · cases h
        · cases h
    · cases h
  | lreturn =>
    simp only [ret1] at h
    split at h
    · split at h
      · cases h; exact hV _ List.mem_cons_self
      · cases h
    · cases h
  | areturn =>
    simp only [ret1] at h
    split at h
    · split at h
      · cases h; exact hV _ List.mem_cons_self
      · cases h
    · cases h
  | return_ =>
    simp only [ret1] at h
    split at h
    · split at h <;> cases h
    · cases h
  | _ => simp [ret1] at h
theorem catS_map (ad : Int → Nat) (l : List Vv) : ((l.map (cv ad)).map fun v => v.category).sum = catS l := by
  unfold catS
  rw [List.map_map]
  congr 1
  apply List.map_congr_left
  intro v _
  exact cv_cat ad v
theorem pure_run {MT : List MI} {MS : List MSr} (hTabs : Tabs MT MS) : ∀ (n d : Nat) (C : List Instr) (rt pc : Nat) (L st : List Vv) (m : Mm) (v : Option Vv) (m' : Mm) (own : Nat) (cc : ByteArray) (B : List (Nat × Instr × Nat)), ex MT n d C rt pc L st m = some (v, m') → Tab own cc C B → ScP m → StOk L st m → Mok m' ∧ (∀ w, v = some w → Vok w) ∧ (∀ z, m' 500 z = m 500 z) ∧ (∀ z, m' 501 z = m 501 z) := by
  intro n
  induction n with
  | zero => intro d C rt pc L st m v m' own cc B h; simp [ex] at h
  | succ n IH =>
    intro d C rt pc L st m v m' own cc B h T S hV
    cases hC : C[pc]? with
    | none => simp [ex, hC] at h
    | some i =>
      have hpl : pc < B.length := by rw [← T.1]; exact (List.getElem?_eq_some_iff.mp hC).1
      obtain ⟨b, hb⟩ : ∃ b, B[pc]? = some b := ⟨B[pc], List.getElem?_eq_getElem hpl⟩
      obtain ⟨hdec, hok⟩ := T.2 pc i b hC hb
      by_cases hcall : ∃ k, i = .invokestatic k
      · obtain ⟨k, rfl⟩ := hcall
        rw [ex_call hC] at h
        cases d with
        | zero => simp at h
        | succ d =>
          cases hMk : MT[k]? with
          | none => simp [hMk] at h
          | some M =>
            simp only [hMk] at h
            split at h
            · cases hrun : ex MT n d M.2.2.2 M.2.1 0 (ent (st.take M.1.length).reverse M.2.2.1) [] m with
              | none => simp [hrun] at h
              | some q =>
                obtain ⟨v1, m1⟩ := q
                simp only [hrun] at h
                obtain ⟨S9, hS9, hMOK⟩ := hTabs k M hMk
                obtain ⟨hVL, hVs, hM⟩ := hV
                have hVa : ∀ v ∈ (st.take M.1.length).reverse, Vok v := fun v hv => hVs v (List.mem_of_mem_take (List.mem_reverse.mp hv))
                have hVr : ∀ v ∈ st.drop M.1.length, Vok v := fun v hv => hVs v (List.mem_of_mem_drop hv)
                obtain ⟨-, -, -, -, -, -, -, -, -, -, -, -, hT9, -, -⟩ := hMOK
                obtain ⟨p1, p2, p3, p4⟩ := IH d M.2.2.2 M.2.1 0 _ [] m v1 m1 _ _ _ hrun hT9 S ⟨ent_ok hVa, (fun _ z => by cases z), hM⟩
                have hV1 : StOk L (v1.toList ++ st.drop M.1.length) m1 := ⟨hVL, fun w hw => by
                  rcases List.mem_append.mp hw with hw | hw
                  · exact p2 w (by cases v1 with
                      | none => cases hw
                      | some z => rw [List.mem_singleton.mp hw])
                  · exact hVr w hw, p1⟩
                have S1 : ScP m1 := by
                  obtain ⟨⟨Ls, xs, a4, a5, a6⟩, ⟨ys, b4⟩⟩ := S
                  exact ⟨⟨Ls, xs, by rw [p3]; exact a4, a5, fun j hj => by rw [p3]; exact a6 j hj⟩, ⟨ys, fun j hj => by rw [p4]; exact b4 j hj⟩⟩
                obtain ⟨q1, q2, q3, q4⟩ := IH (d + 1) C rt (pc + 1) L _ m1 v m' own cc B h T S1 hV1
                exact ⟨q1, q2, fun z => (q3 z).trans (p3 z), fun z => (q4 z).trans (p4 z)⟩
            · cases h
      · rw [ex_other hC (fun k z => hcall ⟨k, z⟩)] at h
        cases hr : ret1 i rt st with
        | some v0 =>
          simp only [hr, Option.some.injEq, Prod.mk.injEq] at h
          obtain ⟨rfl, rfl⟩ := h
          exact ⟨hV.2.2, ret1_ok hr hV.2.1, fun _ => rfl, fun _ => rfl⟩
        | none =>
          simp only [hr] at h
          cases hs1 : st1 i pc L st m with
          | none => simp [hs1] at h
          | some q =>
            obtain ⟨pc1, L1, st1', m1⟩ := q
            simp only [hs1] at h
            obtain ⟨a1, ⟨p3, p4⟩, a4, a5⟩ := step_pure S hok hV hs1
            have S1 : ScP m1 := by
              obtain ⟨⟨Ls, xs, a4, a5, a6⟩, ⟨ys, b4⟩⟩ := S
              exact ⟨⟨Ls, xs, by rw [p3]; exact a4, a5, fun j hj => by rw [p3]; exact a6 j hj⟩, ⟨ys, fun j hj => by rw [p4]; exact b4 j hj⟩⟩
            obtain ⟨q1, q2, q3, q4⟩ := IH d C rt pc1 L1 st1' m1 v m' own cc B h T S1 a1
            exact ⟨q1, q2, fun z => (q3 z).trans (p3 z), fun z => (q4 z).trans (p4 z)⟩
theorem Sc_P {ad : Int → Nat} {A : Nat → Prop} {s : State} {H : Heap} {m : Mm} (h : Sc NWL ad A s H m) : ScP m := by
  obtain ⟨⟨Ls, xs, a1, a2, a3, a4, a5, a6⟩, ⟨ys, b1, b2, b3, b4⟩, r⟩ := h
  exact ⟨⟨Ls, xs, a4, a5, a6⟩, ⟨ys, b4⟩⟩
set_option maxRecDepth 100000 in
set_option maxHeartbeats 4000000 in
theorem sound {MT : List MI} {MS : List MSr} (hTabs : Tabs MT MS) (hSTR : STR) : ∀ n, SND MT n := by
  intro n
  induction n with
  | zero =>
    intro d C rt pc L st m v m' p l e R s mid args below meth c Q ad G D A nL own cc B cells slots h
    simp [ex] at h
  | succ n IH =>
    intro d C rt pc L st m v m' p l e R s mid args below meth c Q ad G D A nL own cc B cells slots h K S T hV hfr hlo hce hsl
    cases hC : C[pc]? with
    | none => simp [ex, hC] at h
    | some i =>
      have hpl : pc < B.length := by rw [← T.1]; exact (List.getElem?_eq_some_iff.mp hC).1
      obtain ⟨b, hb⟩ : ∃ b, B[pc]? = some b := ⟨B[pc], List.getElem?_eq_getElem hpl⟩
      obtain ⟨hdec, hok⟩ := T.2 pc i b hC hb
      by_cases hcall : ∃ k, i = .invokestatic k
      · obtain ⟨k, rfl⟩ := hcall
        rw [ex_call hC] at h
        cases d with
        | zero => simp at h
        | succ d =>
          cases hMk : MT[k]? with
          | none => simp [hMk] at h
          | some M =>
            simp only [hMk] at h
            split at h
            · rename_i hcond
              obtain ⟨htags, hcat⟩ := hcond
              cases hrun : ex MT n d M.2.2.2 M.2.1 0 (ent (st.take M.1.length).reverse M.2.2.1) [] m with
              | none => simp [hrun] at h
              | some q =>
                obtain ⟨v1, m1⟩ := q
                simp only [hrun] at h
                obtain ⟨S9, hS9, hMOK⟩ := hTabs k M hMk
                obtain ⟨hVL, hVs, hM⟩ := hV
                have hVa : ∀ v ∈ (st.take M.1.length).reverse, Vok v := fun v hv => hVs v (List.mem_of_mem_take (List.mem_reverse.mp hv))
                have hVr : ∀ v ∈ st.drop M.1.length, Vok v := fun v hv => hVs v (List.mem_of_mem_drop hv)
                simp only [okE, okN, Bool.and_eq_true, Bool.or_eq_true, decide_eq_true_eq] at hok
                obtain ⟨⟨n1, n2⟩, ⟨h2, hml⟩, hraw⟩ := hok
                have hT9 := hMOK.2.2.2.2.2.2.2.2.2.2.2.2.1
                obtain ⟨p1, p2, p3, p4⟩ := pure_run hTabs n d M.2.2.2 M.2.1 0 _ [] m v1 m1 _ _ _ hrun hT9 (Sc_P S) ⟨ent_ok hVa, (fun _ z => by cases z), hM⟩
                have S1 : Sc NWL ad A s s.heap m1 := Sc_ro S p3 p4
                have hV1 : StOk L (v1.toList ++ st.drop M.1.length) m1 := ⟨hVL, fun w hw => by
                  rcases List.mem_append.mp hw with hw | hw
                  · exact p2 w (by cases v1 with
                      | none => cases hw
                      | some z => rw [List.mem_singleton.mp hw])
                  · exact hVr w hw, p1⟩
                obtain ⟨q1, q2⟩ := IH (d + 1) C rt (pc + 1) L (v1.toList ++ st.drop M.1.length) m1 v m' p l e R s mid args below meth c Q ad G D A nL own cc B cells slots h K S1 T hV1 hfr hlo hce hsl
                refine ⟨⟨q1.1, q1.2.1, fun z => (q1.2.2.1 z).trans (p3 z), fun z => (q1.2.2.2 z).trans (p4 z)⟩, fun fin => ?_⟩
                have g1 := q2 fin
                rw [n2, h2] at g1
                rw [bpOf_at hb]
                intro H locs ls hP hD hS hL
                have hMet := met_of (sz := H.size) IH hMOK l ad G D hrun htags hVa hM
                obtain ⟨hstk9, hp1, hy, hown9, hcode, hini, hnames, hst, hin, hret, h40, hsum, hT9, hB0, hb0⟩ := hMOK
                have hF : ∀ q, va_A (WS ad G m) H.size q → A q := fun q hq => by
                  rcases hq with ⟨k9, e9, hk9⟩ | hq
                  · exact hD.2 k9 _ hk9
                  · exact K.2.2.2.2.2.2.1 q (Nat.le_trans hS.1 hq)
                have hScH : Sc NWL ad (va_A (WS ad G m) H.size) s H m := Sc_narrow (Sc_kept S hS.1 hS.2.1) hF
                have hPk : ∀ U : State, U.heap = H → s.WarmedH U.vm → Pk ad G D (st.take M.1.length).reverse m H.size ((st.take M.1.length).reverse.map (cv ad)).toArray U := fun U hU hW => ⟨rfl, by rw [hU], by rw [hU]; exact hP, va_K.moved hW.alike K.2.2.2.2.2.1, hD.weaken (fun _ _ _ _ => trivial), by rw [hU]; exact Sc_warm hW hScH⟩
                have hblind : FrameBlind (Pk ad G D (st.take M.1.length).reverse m H.size) := fun a U g mk q => by
                  obtain ⟨z0, z1, z2, z3, z4, z5⟩ := q
                  exact ⟨z0, z1, z2, va_K.moved (u := U) (U := U.calling g mk a) (Vm.Alike.refl U.vm) z3, z4, Sc_same (u := U) (U := U.calling g mk a) rfl z5⟩
                have hfix : CallFix p mid c cc nL s args WT (OWNN own) := ⟨K.1, K.2.1, K.2.2.1, K.2.2.2.1, K.2.2.2.2.1⟩
                have hrest : 2 * (F0 mid b.1 ls (st.map (cv ad))).monitorRoom + (((st.drop M.1.length).map (cv ad)).map fun v => v.category).sum ≤ 8 := lv_room (by rw [catS_map]; exact hcat)
                have hstk : st.map (cv ad) = ((st.take M.1.length).reverse.map (cv ad)).reverse ++ (st.drop M.1.length).map (cv ad) := by
                  rw [← List.map_reverse, List.reverse_reverse, ← List.map_append, List.take_append_drop]
                have hlink : (Cond.methodLink (OWNN own) (px b.2.1) S9.1).before args s = true := by
                  have := MLT_w hml
                  simp only [hy] at this
                  exact K.2.2.2.2.1 _ this
                have hparams : ∀ {N : Nat}, (parseMethodDescriptor S9.1.desc).map (fun d => d.parameters.length) = some N → ∀ sig, parseMethodDescriptor S9.1.desc = some sig → N = sig.parameters.length := fun hN sig hs => by
                  rw [hs] at hN
                  exact (Option.some.inj hN).symm
                have hr1 : (rmD d).frames + 1 ≤ R.frames := by show d + 10 + 1 ≤ R.frames; omega
                have hr2 : 8 + (M.2.2.1 + 11) + (rmD d).locals ≤ R.locals := by show 8 + (M.2.2.1 + 11) + 64 * (d + 10) ≤ R.locals; omega
                have hCB : ∀ {N : Nat}, (parseMethodDescriptor S9.1.desc).map (fun d => d.parameters.length) = some N → CallB R s args (OWNN own) (px b.2.1) S9.1 S9.2.1 M.2.2.1 S9.2.2.1 (Cond.code S9.1 S9.2.1 M.2.2.1 S9.2.2.1 :: WT) (rmD d) 0 0 N := fun hN =>
                  ⟨rfl, rfl, hr1, hr2, pay_in K.2.2.2.2.1 (goodWT hcode), List.mem_cons_self, K.2.2.2.2.1 _ hcode, K.2.2.2.2.1 _ hini, hnames, hparams hN, hlink⟩
                have hkk : ∀ (H1 : Heap) (locs1 : List Loc), va_P D vwCl (WS ad G m1) H1 → va_D (va_A (WS ad G m) H.size) (WS ad G m1) → va_S A s.heap H1 locs1 → W p l e R s mid args below meth c H1 locs1 cells slots Q (F0 mid (b.1 + 3) ls ((v1.map (cv ad)).toList ++ (st.drop M.1.length).map (cv ad))) := fun H1 locs1 z1 z2 z3 => by
                  have := g1 H1 locs1 ls z1 (z2.weaken (fun _ _ _ z => hF _ z)) z3 hL
                  rw [List.map_append] at this
                  have e9 : v1.toList.map (cv ad) = (v1.map (cv ad)).toList := by cases v1 <;> rfl
                  rw [e9] at this
                  exact this
                cases hstatic : S9.2.2.2.1 with
                | true =>
                  obtain ⟨hsw, hN⟩ := hst hstatic
                  have hraw2 : b.2.1 = .invokestatic (px b.2.1) := by
                    rcases hraw with hraw | hraw
                    · exact hraw.1
                    · exact absurd (hstk9.mp hstatic) hraw.2
                  have hr := va_runS (R := R) (H := H) (locs := locs) (cells := cells) (slots := slots) (l := l) (e := e) (below := below) (meth := meth) (As := (st.take M.1.length).reverse.map (cv ad)) (rest := (st.drop M.1.length).map (cv ad)) (g := F0 mid b.1 ls (st.map (cv ad))) hfix hMet ⟨hCB hN, K.2.2.2.2.1 _ hsw⟩ ⟨hblind, hPk⟩ rfl (by have z9 := congrArg List.length htags; rw [List.length_map] at z9; rw [List.length_map]; exact z9) hL.2.1 hstk hrest (dec_of hdec hraw2 h2) ⟨hce, hsl⟩
                  exact run_go hr hS (fun q _ z => hF q z) hF hkk
                | false =>
                  obtain ⟨hiw, hsw, ci, tl, hM1, hc9, hCR, hN⟩ := hin hstatic
                  have hraw2 : b.2.1 = .invokevirtual (px b.2.1) := by
                    rcases hraw with hraw | hraw
                    · exact absurd (hstk9.mpr hraw.2) (by rw [hstatic]; exact Bool.false_ne_true)
                    · exact hraw.1
                  obtain ⟨o, as, hae⟩ : ∃ (o : Int) (as : List Vv), (st.take M.1.length).reverse = (ci + 10, o) :: as := by
                    cases hz : (st.take M.1.length).reverse with
                    | nil => rw [hz, hM1] at htags; cases htags
                    | cons x y =>
                      rw [hz, hM1] at htags
                      simp only [List.map_cons, List.cons.injEq] at htags
                      exact ⟨x.2, y, by rw [← htags.1]⟩
                  have hoU : (o, ci + 10) ∈ UNI := Vok_ob (hVa (ci + 10, o) (by rw [hae]; exact List.mem_cons_self)) (by omega)
                  have hao : (st.take M.1.length).reverse.map (cv ad) = .ref (ad o) :: as.map (cv ad) := by rw [hae, List.map_cons, cv_o ad o hoU]
                  obtain ⟨j9, hj9, hw9⟩ := WS_at (ad := ad) (G := G) (m := m) hoU
                  have hcell : cellOf ad G m (o, ci + 10) = .inr (ci, (List.range (CN ci)).map (fv ad m o ci)) := by
                    rw [cell_ob (show ci + 10 < 100 by omega)]
                    simp only [Nat.add_sub_cancel]
                  simp only at hw9
                  rw [hcell] at hw9
                  have hrecv := va_recv K.2.2.2.2.2.1 hP (cl_at ci hc9) hw9
                  simp only [hCR] at hrecv
                  have hlen : (as.map (cv ad)).length = tl.length := by
                    have := htags
                    rw [hae, hM1] at this
                    simp only [List.map_cons, List.cons.injEq] at this
                    rw [List.length_map, ← this.2, List.length_map]
                  have hr := va_runV (R := R) (H := H) (locs := locs) (cells := cells) (slots := slots) (l := l) (e := e) (below := below) (meth := meth) (b := ad o) (As := as.map (cv ad)) (rest := (st.drop M.1.length).map (cv ad)) (g := F0 mid b.1 ls (st.map (cv ad))) hfix hMet ⟨hCB hN, K.2.2.2.2.1 _ hiw, K.2.2.2.2.1 _ hsw⟩ ⟨hblind, hrecv, by rw [← hao]; exact hPk⟩ rfl hlen hL.2.1 (by rw [hstk, hao, List.reverse_cons, List.append_assoc]; rfl) hrest (dec_of hdec hraw2 h2) ⟨hce, hsl⟩
                  exact run_go hr hS (fun q _ z => hF q z) hF hkk
            · cases h
      · rw [ex_other hC (fun k z => hcall ⟨k, z⟩)] at h
        cases hr : ret1 i rt st with
        | some v0 =>
          simp only [hr, Option.some.injEq, Prod.mk.injEq] at h
          obtain ⟨rfl, rfl⟩ := h
          exact ⟨⟨hV.2.2, ret1_ok hr hV.2.1, fun _ => rfl, fun _ => rfl⟩, fun fin => fin pc i L st hC hr⟩
        | none =>
          simp only [hr] at h
          cases hs1 : st1 i pc L st m with
          | none => simp [hs1] at h
          | some q =>
            obtain ⟨pc1, L1, st1', m1⟩ := q
            simp only [hs1] at h
            obtain ⟨a1, ⟨a2, a3⟩, a4, a5, a6⟩ := step_sound (l := l) (e := e) (below := below) (meth := meth) (Q := Q) (cells := cells) (slots := slots) K S (fun z => hSTR p l e R s mid args below meth c Q ad G D A nL cells slots cc m (by rw [← z]; exact K) S (by omega) (by omega) hce hsl) hb hdec hok hV hs1
            obtain ⟨q1, q2⟩ := IH d C rt pc1 L1 st1' m1 v m' p l e R s mid args below meth c Q ad G D A nL own cc B cells slots h K (Sc_ro S a2 a3) T a1 hfr hlo hce hsl
            exact ⟨⟨q1.1, q1.2.1, fun z => (q1.2.2.1 z).trans (a2 z), fun z => (q1.2.2.2 z).trans (a3 z)⟩, fun fin => a6 (q2 fin)⟩
end
