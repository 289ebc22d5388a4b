section
-- ===== PART A: goes FIRST, ahead of the names: the tables' words, and 'selects' of the private methods out of them =====
/-- a private method of a class that the tables say can be made, by its rows of tables_1 -/
def lw_okq (q : MethodName × Nat) : Prop := (q.1.cls ≠ "java/lang/invoke/MethodHandle" ∧ q.1.cls ≠ "java/lang/invoke/VarHandle") ∧ Cond.instantiable q.1.cls q.2 ∈ tables_1 ∧ Cond.privateMethod q.1 ∈ tables_1 ∧ Cond.instanceMethod q.1 ∈ tables_1
theorem lw_p0 : lw_okq (⟨"ThumbHedges$Reader", "advance", "()V"⟩, 12) := ⟨⟨by decide +kernel, by decide +kernel⟩, List.mem_of_getElem? (i := 195) (by decide +kernel), List.mem_of_getElem? (i := 378) (by decide +kernel), List.mem_of_getElem? (i := 379) (by decide +kernel)⟩
theorem lw_p1 : lw_okq (⟨"ThumbHedges$Reader", "wordRead", "()I"⟩, 12) := ⟨⟨by decide +kernel, by decide +kernel⟩, List.mem_of_getElem? (i := 195) (by decide +kernel), List.mem_of_getElem? (i := 388) (by decide +kernel), List.mem_of_getElem? (i := 389) (by decide +kernel)⟩
theorem lw_p2 : lw_okq (⟨"ThumbHedges$Reader", "digitsRead", "()I"⟩, 12) := ⟨⟨by decide +kernel, by decide +kernel⟩, List.mem_of_getElem? (i := 195) (by decide +kernel), List.mem_of_getElem? (i := 444) (by decide +kernel), List.mem_of_getElem? (i := 445) (by decide +kernel)⟩
theorem lw_p3 : lw_okq (⟨"ThumbHedges$Reader", "signRead", "()I"⟩, 12) := ⟨⟨by decide +kernel, by decide +kernel⟩, List.mem_of_getElem? (i := 195) (by decide +kernel), List.mem_of_getElem? (i := 451) (by decide +kernel), List.mem_of_getElem? (i := 452) (by decide +kernel)⟩
theorem lw_p4 : lw_okq (⟨"ThumbHedges$Reader", "clause", "()Z"⟩, 12) := ⟨⟨by decide +kernel, by decide +kernel⟩, List.mem_of_getElem? (i := 195) (by decide +kernel), List.mem_of_getElem? (i := 513) (by decide +kernel), List.mem_of_getElem? (i := 514) (by decide +kernel)⟩
theorem lw_p5 : lw_okq (⟨"ThumbHedges$Reader", "refuse", "(I)Z"⟩, 12) := ⟨⟨by decide +kernel, by decide +kernel⟩, List.mem_of_getElem? (i := 195) (by decide +kernel), List.mem_of_getElem? (i := 517) (by decide +kernel), List.mem_of_getElem? (i := 518) (by decide +kernel)⟩
theorem lw_p6 : lw_okq (⟨"ThumbHedges$Reader", "deed", "(I)Z"⟩, 12) := ⟨⟨by decide +kernel, by decide +kernel⟩, List.mem_of_getElem? (i := 195) (by decide +kernel), List.mem_of_getElem? (i := 525) (by decide +kernel), List.mem_of_getElem? (i := 526) (by decide +kernel)⟩
theorem lw_p7 : lw_okq (⟨"ThumbHedges$Reader", "oneNumber", "(III)Z"⟩, 12) := ⟨⟨by decide +kernel, by decide +kernel⟩, List.mem_of_getElem? (i := 195) (by decide +kernel), List.mem_of_getElem? (i := 529) (by decide +kernel), List.mem_of_getElem? (i := 530) (by decide +kernel)⟩
theorem lw_p8 : lw_okq (⟨"ThumbHedges$Reader", "isNumber", "(II)Z"⟩, 12) := ⟨⟨by decide +kernel, by decide +kernel⟩, List.mem_of_getElem? (i := 195) (by decide +kernel), List.mem_of_getElem? (i := 533) (by decide +kernel), List.mem_of_getElem? (i := 534) (by decide +kernel)⟩
theorem lw_p9 : lw_okq (⟨"ThumbHedges$Reader", "secondNumber", "(II)Z"⟩, 12) := ⟨⟨by decide +kernel, by decide +kernel⟩, List.mem_of_getElem? (i := 195) (by decide +kernel), List.mem_of_getElem? (i := 541) (by decide +kernel), List.mem_of_getElem? (i := 542) (by decide +kernel)⟩
theorem lw_p10 : lw_okq (⟨"ThumbHedges$Reader", "take", "(I)Z"⟩, 12) := ⟨⟨by decide +kernel, by decide +kernel⟩, List.mem_of_getElem? (i := 195) (by decide +kernel), List.mem_of_getElem? (i := 545) (by decide +kernel), List.mem_of_getElem? (i := 546) (by decide +kernel)⟩
theorem lw_p11 : lw_okq (⟨"ThumbHedges$Reader", "sum", "()Z"⟩, 12) := ⟨⟨by decide +kernel, by decide +kernel⟩, List.mem_of_getElem? (i := 195) (by decide +kernel), List.mem_of_getElem? (i := 554) (by decide +kernel), List.mem_of_getElem? (i := 555) (by decide +kernel)⟩
theorem lw_p12 : lw_okq (⟨"ThumbHedges$Reader", "product", "()Z"⟩, 12) := ⟨⟨by decide +kernel, by decide +kernel⟩, List.mem_of_getElem? (i := 195) (by decide +kernel), List.mem_of_getElem? (i := 558) (by decide +kernel), List.mem_of_getElem? (i := 559) (by decide +kernel)⟩
theorem lw_p13 : lw_okq (⟨"ThumbHedges$Reader", "one", "()Z"⟩, 12) := ⟨⟨by decide +kernel, by decide +kernel⟩, List.mem_of_getElem? (i := 195) (by decide +kernel), List.mem_of_getElem? (i := 562) (by decide +kernel), List.mem_of_getElem? (i := 563) (by decide +kernel)⟩
theorem lw_p14 : lw_okq (⟨"ThumbHedges$Reader", "emitAndAdvance", "(II)Z"⟩, 12) := ⟨⟨by decide +kernel, by decide +kernel⟩, List.mem_of_getElem? (i := 195) (by decide +kernel), List.mem_of_getElem? (i := 566) (by decide +kernel), List.mem_of_getElem? (i := 567) (by decide +kernel)⟩
theorem lw_p15 : lw_okq (⟨"ThumbHedges$Reader", "isNameHere", "()Z"⟩, 12) := ⟨⟨by decide +kernel, by decide +kernel⟩, List.mem_of_getElem? (i := 195) (by decide +kernel), List.mem_of_getElem? (i := 574) (by decide +kernel), List.mem_of_getElem? (i := 575) (by decide +kernel)⟩
def lw_privs_1 : List (MethodName × Nat) := [(⟨"ThumbHedges$Reader", "advance", "()V"⟩, 12), (⟨"ThumbHedges$Reader", "wordRead", "()I"⟩, 12), (⟨"ThumbHedges$Reader", "digitsRead", "()I"⟩, 12), (⟨"ThumbHedges$Reader", "signRead", "()I"⟩, 12), (⟨"ThumbHedges$Reader", "clause", "()Z"⟩, 12), (⟨"ThumbHedges$Reader", "refuse", "(I)Z"⟩, 12), (⟨"ThumbHedges$Reader", "deed", "(I)Z"⟩, 12), (⟨"ThumbHedges$Reader", "oneNumber", "(III)Z"⟩, 12), (⟨"ThumbHedges$Reader", "isNumber", "(II)Z"⟩, 12), (⟨"ThumbHedges$Reader", "secondNumber", "(II)Z"⟩, 12), (⟨"ThumbHedges$Reader", "take", "(I)Z"⟩, 12), (⟨"ThumbHedges$Reader", "sum", "()Z"⟩, 12), (⟨"ThumbHedges$Reader", "product", "()Z"⟩, 12), (⟨"ThumbHedges$Reader", "one", "()Z"⟩, 12), (⟨"ThumbHedges$Reader", "emitAndAdvance", "(II)Z"⟩, 12), (⟨"ThumbHedges$Reader", "isNameHere", "()Z"⟩, 12)]
theorem lw_r1 : ∀ q ∈ lw_privs_1, lw_okq q := List.forall_mem_cons.mpr ⟨lw_p0, List.forall_mem_cons.mpr ⟨lw_p1, List.forall_mem_cons.mpr ⟨lw_p2, List.forall_mem_cons.mpr ⟨lw_p3, List.forall_mem_cons.mpr ⟨lw_p4, List.forall_mem_cons.mpr ⟨lw_p5, List.forall_mem_cons.mpr ⟨lw_p6, List.forall_mem_cons.mpr ⟨lw_p7, List.forall_mem_cons.mpr ⟨lw_p8, List.forall_mem_cons.mpr ⟨lw_p9, List.forall_mem_cons.mpr ⟨lw_p10, List.forall_mem_cons.mpr ⟨lw_p11, List.forall_mem_cons.mpr ⟨lw_p12, List.forall_mem_cons.mpr ⟨lw_p13, List.forall_mem_cons.mpr ⟨lw_p14, List.forall_mem_cons.mpr ⟨lw_p15, fun _ h => absurd h List.not_mem_nil⟩⟩⟩⟩⟩⟩⟩⟩⟩⟩⟩⟩⟩⟩⟩⟩
theorem lw_p16 : lw_okq (⟨"ThumbHedges$Reader", "nested", "()Z"⟩, 12) := ⟨⟨by decide +kernel, by decide +kernel⟩, List.mem_of_getElem? (i := 195) (by decide +kernel), List.mem_of_getElem? (i := 578) (by decide +kernel), List.mem_of_getElem? (i := 579) (by decide +kernel)⟩
theorem lw_p17 : lw_okq (⟨"ThumbHedges$Reader", "inside", "(I)Z"⟩, 12) := ⟨⟨by decide +kernel, by decide +kernel⟩, List.mem_of_getElem? (i := 195) (by decide +kernel), List.mem_of_getElem? (i := 582) (by decide +kernel), List.mem_of_getElem? (i := 583) (by decide +kernel)⟩
theorem lw_p18 : lw_okq (⟨"ThumbHedges$Reader", "ask", "()Z"⟩, 12) := ⟨⟨by decide +kernel, by decide +kernel⟩, List.mem_of_getElem? (i := 195) (by decide +kernel), List.mem_of_getElem? (i := 586) (by decide +kernel), List.mem_of_getElem? (i := 587) (by decide +kernel)⟩
theorem lw_p19 : lw_okq (⟨"ThumbHedges$Reader", "choice", "()Z"⟩, 12) := ⟨⟨by decide +kernel, by decide +kernel⟩, List.mem_of_getElem? (i := 195) (by decide +kernel), List.mem_of_getElem? (i := 590) (by decide +kernel), List.mem_of_getElem? (i := 591) (by decide +kernel)⟩
theorem lw_p20 : lw_okq (⟨"ThumbHedges$Reader", "either", "()Z"⟩, 12) := ⟨⟨by decide +kernel, by decide +kernel⟩, List.mem_of_getElem? (i := 195) (by decide +kernel), List.mem_of_getElem? (i := 594) (by decide +kernel), List.mem_of_getElem? (i := 595) (by decide +kernel)⟩
theorem lw_p21 : lw_okq (⟨"ThumbHedges$Reader", "both", "()Z"⟩, 12) := ⟨⟨by decide +kernel, by decide +kernel⟩, List.mem_of_getElem? (i := 195) (by decide +kernel), List.mem_of_getElem? (i := 598) (by decide +kernel), List.mem_of_getElem? (i := 599) (by decide +kernel)⟩
theorem lw_p22 : lw_okq (⟨"ThumbHedges", "isText", "(I)Z"⟩, 9) := ⟨⟨by decide +kernel, by decide +kernel⟩, List.mem_of_getElem? (i := 21) (by decide +kernel), List.mem_of_getElem? (i := 626) (by decide +kernel), List.mem_of_getElem? (i := 627) (by decide +kernel)⟩
theorem lw_p23 : lw_okq (⟨"ThumbHedges", "isHand", "(I)Z"⟩, 9) := ⟨⟨by decide +kernel, by decide +kernel⟩, List.mem_of_getElem? (i := 21) (by decide +kernel), List.mem_of_getElem? (i := 671) (by decide +kernel), List.mem_of_getElem? (i := 672) (by decide +kernel)⟩
theorem lw_p24 : lw_okq (⟨"ThumbHedges", "passHours", "(I)Z"⟩, 9) := ⟨⟨by decide +kernel, by decide +kernel⟩, List.mem_of_getElem? (i := 21) (by decide +kernel), List.mem_of_getElem? (i := 724) (by decide +kernel), List.mem_of_getElem? (i := 725) (by decide +kernel)⟩
theorem lw_p25 : lw_okq (⟨"ThumbHedges", "passHour", "(LThumbHedges$Land;)V"⟩, 9) := ⟨⟨by decide +kernel, by decide +kernel⟩, List.mem_of_getElem? (i := 21) (by decide +kernel), List.mem_of_getElem? (i := 728) (by decide +kernel), List.mem_of_getElem? (i := 729) (by decide +kernel)⟩
theorem lw_p26 : lw_okq (⟨"ThumbHedges", "ruling", "()LThumbHedges$Text;"⟩, 9) := ⟨⟨by decide +kernel, by decide +kernel⟩, List.mem_of_getElem? (i := 21) (by decide +kernel), List.mem_of_getElem? (i := 732) (by decide +kernel), List.mem_of_getElem? (i := 733) (by decide +kernel)⟩
theorem lw_p27 : lw_okq (⟨"ThumbHedges$Judge", "nameCommon", "(LThumbHedges$Land;I)V"⟩, 3) := ⟨⟨by decide +kernel, by decide +kernel⟩, List.mem_of_getElem? (i := 245) (by decide +kernel), List.mem_of_getElem? (i := 741) (by decide +kernel), List.mem_of_getElem? (i := 742) (by decide +kernel)⟩
theorem lw_p28 : lw_okq (⟨"ThumbHedges$Judge", "valueOf", "([IIILThumbHedges$Land;)I"⟩, 3) := ⟨⟨by decide +kernel, by decide +kernel⟩, List.mem_of_getElem? (i := 245) (by decide +kernel), List.mem_of_getElem? (i := 755) (by decide +kernel), List.mem_of_getElem? (i := 756) (by decide +kernel)⟩
theorem lw_p29 : lw_okq (⟨"ThumbHedges$Judge", "pop", "()I"⟩, 3) := ⟨⟨by decide +kernel, by decide +kernel⟩, List.mem_of_getElem? (i := 245) (by decide +kernel), List.mem_of_getElem? (i := 759) (by decide +kernel), List.mem_of_getElem? (i := 760) (by decide +kernel)⟩
theorem lw_p30 : lw_okq (⟨"ThumbHedges$Judge", "push", "(I)V"⟩, 3) := ⟨⟨by decide +kernel, by decide +kernel⟩, List.mem_of_getElem? (i := 245) (by decide +kernel), List.mem_of_getElem? (i := 763) (by decide +kernel), List.mem_of_getElem? (i := 764) (by decide +kernel)⟩
theorem lw_p31 : lw_okq (⟨"ThumbHedges", "does", "(III)Z"⟩, 9) := ⟨⟨by decide +kernel, by decide +kernel⟩, List.mem_of_getElem? (i := 21) (by decide +kernel), List.mem_of_getElem? (i := 826) (by decide +kernel), List.mem_of_getElem? (i := 827) (by decide +kernel)⟩
def lw_privs_2 : List (MethodName × Nat) := [(⟨"ThumbHedges$Reader", "nested", "()Z"⟩, 12), (⟨"ThumbHedges$Reader", "inside", "(I)Z"⟩, 12), (⟨"ThumbHedges$Reader", "ask", "()Z"⟩, 12), (⟨"ThumbHedges$Reader", "choice", "()Z"⟩, 12), (⟨"ThumbHedges$Reader", "either", "()Z"⟩, 12), (⟨"ThumbHedges$Reader", "both", "()Z"⟩, 12), (⟨"ThumbHedges", "isText", "(I)Z"⟩, 9), (⟨"ThumbHedges", "isHand", "(I)Z"⟩, 9), (⟨"ThumbHedges", "passHours", "(I)Z"⟩, 9), (⟨"ThumbHedges", "passHour", "(LThumbHedges$Land;)V"⟩, 9), (⟨"ThumbHedges", "ruling", "()LThumbHedges$Text;"⟩, 9), (⟨"ThumbHedges$Judge", "nameCommon", "(LThumbHedges$Land;I)V"⟩, 3), (⟨"ThumbHedges$Judge", "valueOf", "([IIILThumbHedges$Land;)I"⟩, 3), (⟨"ThumbHedges$Judge", "pop", "()I"⟩, 3), (⟨"ThumbHedges$Judge", "push", "(I)V"⟩, 3), (⟨"ThumbHedges", "does", "(III)Z"⟩, 9)]
theorem lw_r2 : ∀ q ∈ lw_privs_2, lw_okq q := List.forall_mem_cons.mpr ⟨lw_p16, List.forall_mem_cons.mpr ⟨lw_p17, List.forall_mem_cons.mpr ⟨lw_p18, List.forall_mem_cons.mpr ⟨lw_p19, List.forall_mem_cons.mpr ⟨lw_p20, List.forall_mem_cons.mpr ⟨lw_p21, List.forall_mem_cons.mpr ⟨lw_p22, List.forall_mem_cons.mpr ⟨lw_p23, List.forall_mem_cons.mpr ⟨lw_p24, List.forall_mem_cons.mpr ⟨lw_p25, List.forall_mem_cons.mpr ⟨lw_p26, List.forall_mem_cons.mpr ⟨lw_p27, List.forall_mem_cons.mpr ⟨lw_p28, List.forall_mem_cons.mpr ⟨lw_p29, List.forall_mem_cons.mpr ⟨lw_p30, List.forall_mem_cons.mpr ⟨lw_p31, fun _ h => absurd h List.not_mem_nil⟩⟩⟩⟩⟩⟩⟩⟩⟩⟩⟩⟩⟩⟩⟩⟩
theorem lw_p32 : lw_okq (⟨"ThumbHedges", "befall", "(I)V"⟩, 9) := ⟨⟨by decide +kernel, by decide +kernel⟩, List.mem_of_getElem? (i := 21) (by decide +kernel), List.mem_of_getElem? (i := 840) (by decide +kernel), List.mem_of_getElem? (i := 841) (by decide +kernel)⟩
theorem lw_p33 : lw_okq (⟨"ThumbHedges", "mazeNow", "()LThumbHedges$Maze;"⟩, 9) := ⟨⟨by decide +kernel, by decide +kernel⟩, List.mem_of_getElem? (i := 21) (by decide +kernel), List.mem_of_getElem? (i := 864) (by decide +kernel), List.mem_of_getElem? (i := 865) (by decide +kernel)⟩
theorem lw_p34 : lw_okq (⟨"ThumbHedges$Maze", "flooded", "(II)I"⟩, 3) := ⟨⟨by decide +kernel, by decide +kernel⟩, List.mem_of_getElem? (i := 261) (by decide +kernel), List.mem_of_getElem? (i := 885) (by decide +kernel), List.mem_of_getElem? (i := 886) (by decide +kernel)⟩
theorem lw_p35 : lw_okq (⟨"ThumbHedges$Maze", "grown", "(I)I"⟩, 3) := ⟨⟨by decide +kernel, by decide +kernel⟩, List.mem_of_getElem? (i := 261) (by decide +kernel), List.mem_of_getElem? (i := 889) (by decide +kernel), List.mem_of_getElem? (i := 890) (by decide +kernel)⟩
theorem lw_p36 : lw_okq (⟨"ThumbHedges$Maze", "pathsOn", "(IIII)J"⟩, 3) := ⟨⟨by decide +kernel, by decide +kernel⟩, List.mem_of_getElem? (i := 261) (by decide +kernel), List.mem_of_getElem? (i := 1025) (by decide +kernel), List.mem_of_getElem? (i := 1026) (by decide +kernel)⟩
theorem lw_p37 : lw_okq (⟨"ThumbHedges$Maze", "lowestCover", "(III)I"⟩, 3) := ⟨⟨by decide +kernel, by decide +kernel⟩, List.mem_of_getElem? (i := 261) (by decide +kernel), List.mem_of_getElem? (i := 1054) (by decide +kernel), List.mem_of_getElem? (i := 1055) (by decide +kernel)⟩
theorem lw_p38 : lw_okq (⟨"ThumbHedges$Hands", "likePatterns", "(IJII)I"⟩, 1) := ⟨⟨by decide +kernel, by decide +kernel⟩, List.mem_of_getElem? (i := 126) (by decide +kernel), List.mem_of_getElem? (i := 1115) (by decide +kernel), List.mem_of_getElem? (i := 1116) (by decide +kernel)⟩
theorem lw_p39 : lw_okq (⟨"ThumbHedges", "saysAll", "(LThumbHedges$Text;)Z"⟩, 9) := ⟨⟨by decide +kernel, by decide +kernel⟩, List.mem_of_getElem? (i := 21) (by decide +kernel), List.mem_of_getElem? (i := 1128) (by decide +kernel), List.mem_of_getElem? (i := 1129) (by decide +kernel)⟩
theorem lw_p40 : lw_okq (⟨"ThumbHedgesModel", "layTurns", "()V"⟩, 34) := ⟨⟨by decide +kernel, by decide +kernel⟩, List.mem_of_getElem? (i := 1157) (by decide +kernel), List.mem_of_getElem? (i := 1163) (by decide +kernel), List.mem_of_getElem? (i := 1164) (by decide +kernel)⟩
theorem lw_p41 : lw_okq (⟨"ThumbHedgesModel", "put", "(III)V"⟩, 34) := ⟨⟨by decide +kernel, by decide +kernel⟩, List.mem_of_getElem? (i := 1157) (by decide +kernel), List.mem_of_getElem? (i := 1304) (by decide +kernel), List.mem_of_getElem? (i := 1305) (by decide +kernel)⟩
theorem lw_p42 : lw_okq (⟨"ThumbHedgesModel", "four", "(I)V"⟩, 34) := ⟨⟨by decide +kernel, by decide +kernel⟩, List.mem_of_getElem? (i := 1157) (by decide +kernel), List.mem_of_getElem? (i := 1319) (by decide +kernel), List.mem_of_getElem? (i := 1320) (by decide +kernel)⟩
theorem lw_p43 : lw_okq (⟨"ThumbHedgesModel", "readText", "()I"⟩, 34) := ⟨⟨by decide +kernel, by decide +kernel⟩, List.mem_of_getElem? (i := 1157) (by decide +kernel), List.mem_of_getElem? (i := 1331) (by decide +kernel), List.mem_of_getElem? (i := 1332) (by decide +kernel)⟩
theorem lw_p44 : lw_okq (⟨"ThumbHedgesModel", "nextToken", "()V"⟩, 34) := ⟨⟨by decide +kernel, by decide +kernel⟩, List.mem_of_getElem? (i := 1157) (by decide +kernel), List.mem_of_getElem? (i := 1335) (by decide +kernel), List.mem_of_getElem? (i := 1336) (by decide +kernel)⟩
theorem lw_p45 : lw_okq (⟨"ThumbHedgesModel", "byteAt", "(I)I"⟩, 34) := ⟨⟨by decide +kernel, by decide +kernel⟩, List.mem_of_getElem? (i := 1157) (by decide +kernel), List.mem_of_getElem? (i := 1339) (by decide +kernel), List.mem_of_getElem? (i := 1340) (by decide +kernel)⟩
theorem lw_p46 : lw_okq (⟨"ThumbHedgesModel", "clause", "()I"⟩, 34) := ⟨⟨by decide +kernel, by decide +kernel⟩, List.mem_of_getElem? (i := 1157) (by decide +kernel), List.mem_of_getElem? (i := 1354) (by decide +kernel), List.mem_of_getElem? (i := 1355) (by decide +kernel)⟩
theorem lw_p47 : lw_okq (⟨"ThumbHedgesModel", "sortOf", "()I"⟩, 34) := ⟨⟨by decide +kernel, by decide +kernel⟩, List.mem_of_getElem? (i := 1157) (by decide +kernel), List.mem_of_getElem? (i := 1358) (by decide +kernel), List.mem_of_getElem? (i := 1359) (by decide +kernel)⟩
def lw_privs_3 : List (MethodName × Nat) := [(⟨"ThumbHedges", "befall", "(I)V"⟩, 9), (⟨"ThumbHedges", "mazeNow", "()LThumbHedges$Maze;"⟩, 9), (⟨"ThumbHedges$Maze", "flooded", "(II)I"⟩, 3), (⟨"ThumbHedges$Maze", "grown", "(I)I"⟩, 3), (⟨"ThumbHedges$Maze", "pathsOn", "(IIII)J"⟩, 3), (⟨"ThumbHedges$Maze", "lowestCover", "(III)I"⟩, 3), (⟨"ThumbHedges$Hands", "likePatterns", "(IJII)I"⟩, 1), (⟨"ThumbHedges", "saysAll", "(LThumbHedges$Text;)Z"⟩, 9), (⟨"ThumbHedgesModel", "layTurns", "()V"⟩, 34), (⟨"ThumbHedgesModel", "put", "(III)V"⟩, 34), (⟨"ThumbHedgesModel", "four", "(I)V"⟩, 34), (⟨"ThumbHedgesModel", "readText", "()I"⟩, 34), (⟨"ThumbHedgesModel", "nextToken", "()V"⟩, 34), (⟨"ThumbHedgesModel", "byteAt", "(I)I"⟩, 34), (⟨"ThumbHedgesModel", "clause", "()I"⟩, 34), (⟨"ThumbHedgesModel", "sortOf", "()I"⟩, 34)]
theorem lw_r3 : ∀ q ∈ lw_privs_3, lw_okq q := List.forall_mem_cons.mpr ⟨lw_p32, List.forall_mem_cons.mpr ⟨lw_p33, List.forall_mem_cons.mpr ⟨lw_p34, List.forall_mem_cons.mpr ⟨lw_p35, List.forall_mem_cons.mpr ⟨lw_p36, List.forall_mem_cons.mpr ⟨lw_p37, List.forall_mem_cons.mpr ⟨lw_p38, List.forall_mem_cons.mpr ⟨lw_p39, List.forall_mem_cons.mpr ⟨lw_p40, List.forall_mem_cons.mpr ⟨lw_p41, List.forall_mem_cons.mpr ⟨lw_p42, List.forall_mem_cons.mpr ⟨lw_p43, List.forall_mem_cons.mpr ⟨lw_p44, List.forall_mem_cons.mpr ⟨lw_p45, List.forall_mem_cons.mpr ⟨lw_p46, List.forall_mem_cons.mpr ⟨lw_p47, fun _ h => absurd h List.not_mem_nil⟩⟩⟩⟩⟩⟩⟩⟩⟩⟩⟩⟩⟩⟩⟩⟩
theorem lw_p48 : lw_okq (⟨"ThumbHedgesModel", "isWord", "(J)Z"⟩, 34) := ⟨⟨by decide +kernel, by decide +kernel⟩, List.mem_of_getElem? (i := 1157) (by decide +kernel), List.mem_of_getElem? (i := 1377) (by decide +kernel), List.mem_of_getElem? (i := 1378) (by decide +kernel)⟩
theorem lw_p49 : lw_okq (⟨"ThumbHedgesModel", "body", "(II)I"⟩, 34) := ⟨⟨by decide +kernel, by decide +kernel⟩, List.mem_of_getElem? (i := 1157) (by decide +kernel), List.mem_of_getElem? (i := 1384) (by decide +kernel), List.mem_of_getElem? (i := 1385) (by decide +kernel)⟩
theorem lw_p50 : lw_okq (⟨"ThumbHedgesModel", "pair", "(IIJI)I"⟩, 34) := ⟨⟨by decide +kernel, by decide +kernel⟩, List.mem_of_getElem? (i := 1157) (by decide +kernel), List.mem_of_getElem? (i := 1388) (by decide +kernel), List.mem_of_getElem? (i := 1389) (by decide +kernel)⟩
theorem lw_p51 : lw_okq (⟨"ThumbHedgesModel", "figure", "(III)I"⟩, 34) := ⟨⟨by decide +kernel, by decide +kernel⟩, List.mem_of_getElem? (i := 1157) (by decide +kernel), List.mem_of_getElem? (i := 1392) (by decide +kernel), List.mem_of_getElem? (i := 1393) (by decide +kernel)⟩
theorem lw_p52 : lw_okq (⟨"ThumbHedgesModel", "lawClause", "(I)I"⟩, 34) := ⟨⟨by decide +kernel, by decide +kernel⟩, List.mem_of_getElem? (i := 1157) (by decide +kernel), List.mem_of_getElem? (i := 1396) (by decide +kernel), List.mem_of_getElem? (i := 1397) (by decide +kernel)⟩
theorem lw_p53 : lw_okq (⟨"ThumbHedgesModel", "summed", "()I"⟩, 34) := ⟨⟨by decide +kernel, by decide +kernel⟩, List.mem_of_getElem? (i := 1157) (by decide +kernel), List.mem_of_getElem? (i := 1400) (by decide +kernel), List.mem_of_getElem? (i := 1401) (by decide +kernel)⟩
theorem lw_p54 : lw_okq (⟨"ThumbHedgesModel", "behindOne", "()I"⟩, 34) := ⟨⟨by decide +kernel, by decide +kernel⟩, List.mem_of_getElem? (i := 1157) (by decide +kernel), List.mem_of_getElem? (i := 1404) (by decide +kernel), List.mem_of_getElem? (i := 1405) (by decide +kernel)⟩
theorem lw_p55 : lw_okq (⟨"ThumbHedgesModel", "betweenOf", "()I"⟩, 34) := ⟨⟨by decide +kernel, by decide +kernel⟩, List.mem_of_getElem? (i := 1157) (by decide +kernel), List.mem_of_getElem? (i := 1408) (by decide +kernel), List.mem_of_getElem? (i := 1409) (by decide +kernel)⟩
theorem lw_p56 : lw_okq (⟨"ThumbHedgesModel", "openNow", "()I"⟩, 34) := ⟨⟨by decide +kernel, by decide +kernel⟩, List.mem_of_getElem? (i := 1157) (by decide +kernel), List.mem_of_getElem? (i := 1412) (by decide +kernel), List.mem_of_getElem? (i := 1413) (by decide +kernel)⟩
theorem lw_p57 : lw_okq (⟨"ThumbHedgesModel", "openAt", "()I"⟩, 34) := ⟨⟨by decide +kernel, by decide +kernel⟩, List.mem_of_getElem? (i := 1157) (by decide +kernel), List.mem_of_getElem? (i := 1416) (by decide +kernel), List.mem_of_getElem? (i := 1417) (by decide +kernel)⟩
theorem lw_p58 : lw_okq (⟨"ThumbHedgesModel", "isCompared", "()Z"⟩, 34) := ⟨⟨by decide +kernel, by decide +kernel⟩, List.mem_of_getElem? (i := 1157) (by decide +kernel), List.mem_of_getElem? (i := 1420) (by decide +kernel), List.mem_of_getElem? (i := 1421) (by decide +kernel)⟩
theorem lw_p59 : lw_okq (⟨"ThumbHedgesModel", "compareOf", "()I"⟩, 34) := ⟨⟨by decide +kernel, by decide +kernel⟩, List.mem_of_getElem? (i := 1157) (by decide +kernel), List.mem_of_getElem? (i := 1427) (by decide +kernel), List.mem_of_getElem? (i := 1428) (by decide +kernel)⟩
theorem lw_p60 : lw_okq (⟨"ThumbHedgesModel", "settle", "(I)V"⟩, 34) := ⟨⟨by decide +kernel, by decide +kernel⟩, List.mem_of_getElem? (i := 1157) (by decide +kernel), List.mem_of_getElem? (i := 1431) (by decide +kernel), List.mem_of_getElem? (i := 1432) (by decide +kernel)⟩
theorem lw_p61 : lw_okq (⟨"ThumbHedgesModel", "emit", "(II)V"⟩, 34) := ⟨⟨by decide +kernel, by decide +kernel⟩, List.mem_of_getElem? (i := 1157) (by decide +kernel), List.mem_of_getElem? (i := 1435) (by decide +kernel), List.mem_of_getElem? (i := 1436) (by decide +kernel)⟩
theorem lw_p62 : lw_okq (⟨"ThumbHedgesModel", "partOf", "(I)I"⟩, 34) := ⟨⟨by decide +kernel, by decide +kernel⟩, List.mem_of_getElem? (i := 1157) (by decide +kernel), List.mem_of_getElem? (i := 1439) (by decide +kernel), List.mem_of_getElem? (i := 1440) (by decide +kernel)⟩
theorem lw_p63 : lw_okq (⟨"ThumbHedgesModel", "endOne", "()I"⟩, 34) := ⟨⟨by decide +kernel, by decide +kernel⟩, List.mem_of_getElem? (i := 1157) (by decide +kernel), List.mem_of_getElem? (i := 1443) (by decide +kernel), List.mem_of_getElem? (i := 1444) (by decide +kernel)⟩
def lw_privs_4 : List (MethodName × Nat) := [(⟨"ThumbHedgesModel", "isWord", "(J)Z"⟩, 34), (⟨"ThumbHedgesModel", "body", "(II)I"⟩, 34), (⟨"ThumbHedgesModel", "pair", "(IIJI)I"⟩, 34), (⟨"ThumbHedgesModel", "figure", "(III)I"⟩, 34), (⟨"ThumbHedgesModel", "lawClause", "(I)I"⟩, 34), (⟨"ThumbHedgesModel", "summed", "()I"⟩, 34), (⟨"ThumbHedgesModel", "behindOne", "()I"⟩, 34), (⟨"ThumbHedgesModel", "betweenOf", "()I"⟩, 34), (⟨"ThumbHedgesModel", "openNow", "()I"⟩, 34), (⟨"ThumbHedgesModel", "openAt", "()I"⟩, 34), (⟨"ThumbHedgesModel", "isCompared", "()Z"⟩, 34), (⟨"ThumbHedgesModel", "compareOf", "()I"⟩, 34), (⟨"ThumbHedgesModel", "settle", "(I)V"⟩, 34), (⟨"ThumbHedgesModel", "emit", "(II)V"⟩, 34), (⟨"ThumbHedgesModel", "partOf", "(I)I"⟩, 34), (⟨"ThumbHedgesModel", "endOne", "()I"⟩, 34)]
theorem lw_r4 : ∀ q ∈ lw_privs_4, lw_okq q := List.forall_mem_cons.mpr ⟨lw_p48, List.forall_mem_cons.mpr ⟨lw_p49, List.forall_mem_cons.mpr ⟨lw_p50, List.forall_mem_cons.mpr ⟨lw_p51, List.forall_mem_cons.mpr ⟨lw_p52, List.forall_mem_cons.mpr ⟨lw_p53, List.forall_mem_cons.mpr ⟨lw_p54, List.forall_mem_cons.mpr ⟨lw_p55, List.forall_mem_cons.mpr ⟨lw_p56, List.forall_mem_cons.mpr ⟨lw_p57, List.forall_mem_cons.mpr ⟨lw_p58, List.forall_mem_cons.mpr ⟨lw_p59, List.forall_mem_cons.mpr ⟨lw_p60, List.forall_mem_cons.mpr ⟨lw_p61, List.forall_mem_cons.mpr ⟨lw_p62, List.forall_mem_cons.mpr ⟨lw_p63, fun _ h => absurd h List.not_mem_nil⟩⟩⟩⟩⟩⟩⟩⟩⟩⟩⟩⟩⟩⟩⟩⟩
theorem lw_p64 : lw_okq (⟨"ThumbHedgesModel", "beginOne", "()I"⟩, 34) := ⟨⟨by decide +kernel, by decide +kernel⟩, List.mem_of_getElem? (i := 1157) (by decide +kernel), List.mem_of_getElem? (i := 1447) (by decide +kernel), List.mem_of_getElem? (i := 1448) (by decide +kernel)⟩
theorem lw_p65 : lw_okq (⟨"ThumbHedgesModel", "nameOf", "()I"⟩, 34) := ⟨⟨by decide +kernel, by decide +kernel⟩, List.mem_of_getElem? (i := 1157) (by decide +kernel), List.mem_of_getElem? (i := 1451) (by decide +kernel), List.mem_of_getElem? (i := 1452) (by decide +kernel)⟩
theorem lw_p66 : lw_okq (⟨"ThumbHedgesModel", "isOf", "(I)Z"⟩, 34) := ⟨⟨by decide +kernel, by decide +kernel⟩, List.mem_of_getElem? (i := 1157) (by decide +kernel), List.mem_of_getElem? (i := 1455) (by decide +kernel), List.mem_of_getElem? (i := 1456) (by decide +kernel)⟩
theorem lw_p67 : lw_okq (⟨"ThumbHedgesModel", "opened", "(I)I"⟩, 34) := ⟨⟨by decide +kernel, by decide +kernel⟩, List.mem_of_getElem? (i := 1157) (by decide +kernel), List.mem_of_getElem? (i := 1459) (by decide +kernel), List.mem_of_getElem? (i := 1460) (by decide +kernel)⟩
theorem lw_p68 : lw_okq (⟨"ThumbHedgesModel", "isAskAhead", "()Z"⟩, 34) := ⟨⟨by decide +kernel, by decide +kernel⟩, List.mem_of_getElem? (i := 1157) (by decide +kernel), List.mem_of_getElem? (i := 1463) (by decide +kernel), List.mem_of_getElem? (i := 1464) (by decide +kernel)⟩
theorem lw_p69 : lw_okq (⟨"ThumbHedgesModel", "isThere", "(I)Z"⟩, 34) := ⟨⟨by decide +kernel, by decide +kernel⟩, List.mem_of_getElem? (i := 1157) (by decide +kernel), List.mem_of_getElem? (i := 1486) (by decide +kernel), List.mem_of_getElem? (i := 1487) (by decide +kernel)⟩
theorem lw_p70 : lw_okq (⟨"ThumbHedgesModel", "keep", "()V"⟩, 34) := ⟨⟨by decide +kernel, by decide +kernel⟩, List.mem_of_getElem? (i := 1157) (by decide +kernel), List.mem_of_getElem? (i := 1490) (by decide +kernel), List.mem_of_getElem? (i := 1491) (by decide +kernel)⟩
theorem lw_p71 : lw_okq (⟨"ThumbHedgesModel", "change", "(I)V"⟩, 34) := ⟨⟨by decide +kernel, by decide +kernel⟩, List.mem_of_getElem? (i := 1157) (by decide +kernel), List.mem_of_getElem? (i := 1494) (by decide +kernel), List.mem_of_getElem? (i := 1495) (by decide +kernel)⟩
theorem lw_p72 : lw_okq (⟨"ThumbHedgesModel", "isHand", "(I)Z"⟩, 34) := ⟨⟨by decide +kernel, by decide +kernel⟩, List.mem_of_getElem? (i := 1157) (by decide +kernel), List.mem_of_getElem? (i := 1506) (by decide +kernel), List.mem_of_getElem? (i := 1507) (by decide +kernel)⟩
theorem lw_p73 : lw_okq (⟨"ThumbHedgesModel", "pressNow", "(II)V"⟩, 34) := ⟨⟨by decide +kernel, by decide +kernel⟩, List.mem_of_getElem? (i := 1157) (by decide +kernel), List.mem_of_getElem? (i := 1510) (by decide +kernel), List.mem_of_getElem? (i := 1511) (by decide +kernel)⟩
theorem lw_p74 : lw_okq (⟨"ThumbHedgesModel", "ofHand", "(IIZ)I"⟩, 34) := ⟨⟨by decide +kernel, by decide +kernel⟩, List.mem_of_getElem? (i := 1157) (by decide +kernel), List.mem_of_getElem? (i := 1514) (by decide +kernel), List.mem_of_getElem? (i := 1515) (by decide +kernel)⟩
theorem lw_p75 : lw_okq (⟨"ThumbHedgesModel", "turnedBy", "(IIIZ)I"⟩, 34) := ⟨⟨by decide +kernel, by decide +kernel⟩, List.mem_of_getElem? (i := 1157) (by decide +kernel), List.mem_of_getElem? (i := 1518) (by decide +kernel), List.mem_of_getElem? (i := 1519) (by decide +kernel)⟩
theorem lw_p76 : lw_okq (⟨"ThumbHedgesModel", "canGo", "(II)Z"⟩, 34) := ⟨⟨by decide +kernel, by decide +kernel⟩, List.mem_of_getElem? (i := 1157) (by decide +kernel), List.mem_of_getElem? (i := 1526) (by decide +kernel), List.mem_of_getElem? (i := 1527) (by decide +kernel)⟩
theorem lw_p77 : lw_okq (⟨"ThumbHedgesModel", "isCow", "(I)Z"⟩, 34) := ⟨⟨by decide +kernel, by decide +kernel⟩, List.mem_of_getElem? (i := 1157) (by decide +kernel), List.mem_of_getElem? (i := 1530) (by decide +kernel), List.mem_of_getElem? (i := 1531) (by decide +kernel)⟩
theorem lw_p78 : lw_okq (⟨"ThumbHedgesModel", "isHome", "(I)Z"⟩, 34) := ⟨⟨by decide +kernel, by decide +kernel⟩, List.mem_of_getElem? (i := 1157) (by decide +kernel), List.mem_of_getElem? (i := 1534) (by decide +kernel), List.mem_of_getElem? (i := 1535) (by decide +kernel)⟩
theorem lw_p79 : lw_okq (⟨"ThumbHedgesModel", "cellOf", "(I)I"⟩, 34) := ⟨⟨by decide +kernel, by decide +kernel⟩, List.mem_of_getElem? (i := 1157) (by decide +kernel), List.mem_of_getElem? (i := 1538) (by decide +kernel), List.mem_of_getElem? (i := 1539) (by decide +kernel)⟩
def lw_privs_5 : List (MethodName × Nat) := [(⟨"ThumbHedgesModel", "beginOne", "()I"⟩, 34), (⟨"ThumbHedgesModel", "nameOf", "()I"⟩, 34), (⟨"ThumbHedgesModel", "isOf", "(I)Z"⟩, 34), (⟨"ThumbHedgesModel", "opened", "(I)I"⟩, 34), (⟨"ThumbHedgesModel", "isAskAhead", "()Z"⟩, 34), (⟨"ThumbHedgesModel", "isThere", "(I)Z"⟩, 34), (⟨"ThumbHedgesModel", "keep", "()V"⟩, 34), (⟨"ThumbHedgesModel", "change", "(I)V"⟩, 34), (⟨"ThumbHedgesModel", "isHand", "(I)Z"⟩, 34), (⟨"ThumbHedgesModel", "pressNow", "(II)V"⟩, 34), (⟨"ThumbHedgesModel", "ofHand", "(IIZ)I"⟩, 34), (⟨"ThumbHedgesModel", "turnedBy", "(IIIZ)I"⟩, 34), (⟨"ThumbHedgesModel", "canGo", "(II)Z"⟩, 34), (⟨"ThumbHedgesModel", "isCow", "(I)Z"⟩, 34), (⟨"ThumbHedgesModel", "isHome", "(I)Z"⟩, 34), (⟨"ThumbHedgesModel", "cellOf", "(I)I"⟩, 34)]
theorem lw_r5 : ∀ q ∈ lw_privs_5, lw_okq q := List.forall_mem_cons.mpr ⟨lw_p64, List.forall_mem_cons.mpr ⟨lw_p65, List.forall_mem_cons.mpr ⟨lw_p66, List.forall_mem_cons.mpr ⟨lw_p67, List.forall_mem_cons.mpr ⟨lw_p68, List.forall_mem_cons.mpr ⟨lw_p69, List.forall_mem_cons.mpr ⟨lw_p70, List.forall_mem_cons.mpr ⟨lw_p71, List.forall_mem_cons.mpr ⟨lw_p72, List.forall_mem_cons.mpr ⟨lw_p73, List.forall_mem_cons.mpr ⟨lw_p74, List.forall_mem_cons.mpr ⟨lw_p75, List.forall_mem_cons.mpr ⟨lw_p76, List.forall_mem_cons.mpr ⟨lw_p77, List.forall_mem_cons.mpr ⟨lw_p78, List.forall_mem_cons.mpr ⟨lw_p79, fun _ h => absurd h List.not_mem_nil⟩⟩⟩⟩⟩⟩⟩⟩⟩⟩⟩⟩⟩⟩⟩⟩
theorem lw_p80 : lw_okq (⟨"ThumbHedgesModel", "isOpen", "(II)Z"⟩, 34) := ⟨⟨by decide +kernel, by decide +kernel⟩, List.mem_of_getElem? (i := 1157) (by decide +kernel), List.mem_of_getElem? (i := 1542) (by decide +kernel), List.mem_of_getElem? (i := 1543) (by decide +kernel)⟩
theorem lw_p81 : lw_okq (⟨"ThumbHedgesModel", "goNow", "(II)I"⟩, 34) := ⟨⟨by decide +kernel, by decide +kernel⟩, List.mem_of_getElem? (i := 1157) (by decide +kernel), List.mem_of_getElem? (i := 1549) (by decide +kernel), List.mem_of_getElem? (i := 1550) (by decide +kernel)⟩
theorem lw_p82 : lw_okq (⟨"ThumbHedgesModel", "arePassed", "(I)Z"⟩, 34) := ⟨⟨by decide +kernel, by decide +kernel⟩, List.mem_of_getElem? (i := 1157) (by decide +kernel), List.mem_of_getElem? (i := 1557) (by decide +kernel), List.mem_of_getElem? (i := 1558) (by decide +kernel)⟩
theorem lw_p83 : lw_okq (⟨"ThumbHedgesModel", "pass", "()V"⟩, 34) := ⟨⟨by decide +kernel, by decide +kernel⟩, List.mem_of_getElem? (i := 1157) (by decide +kernel), List.mem_of_getElem? (i := 1561) (by decide +kernel), List.mem_of_getElem? (i := 1562) (by decide +kernel)⟩
theorem lw_p84 : lw_okq (⟨"ThumbHedgesModel", "goesOf", "(I)I"⟩, 34) := ⟨⟨by decide +kernel, by decide +kernel⟩, List.mem_of_getElem? (i := 1157) (by decide +kernel), List.mem_of_getElem? (i := 1565) (by decide +kernel), List.mem_of_getElem? (i := 1566) (by decide +kernel)⟩
theorem lw_p85 : lw_okq (⟨"ThumbHedgesModel", "name", "(I)V"⟩, 34) := ⟨⟨by decide +kernel, by decide +kernel⟩, List.mem_of_getElem? (i := 1157) (by decide +kernel), List.mem_of_getElem? (i := 1569) (by decide +kernel), List.mem_of_getElem? (i := 1570) (by decide +kernel)⟩
theorem lw_p86 : lw_okq (⟨"ThumbHedgesModel", "aroundOf", "(I)I"⟩, 34) := ⟨⟨by decide +kernel, by decide +kernel⟩, List.mem_of_getElem? (i := 1157) (by decide +kernel), List.mem_of_getElem? (i := 1573) (by decide +kernel), List.mem_of_getElem? (i := 1574) (by decide +kernel)⟩
theorem lw_p87 : lw_okq (⟨"ThumbHedgesModel", "allNow", "()I"⟩, 34) := ⟨⟨by decide +kernel, by decide +kernel⟩, List.mem_of_getElem? (i := 1157) (by decide +kernel), List.mem_of_getElem? (i := 1577) (by decide +kernel), List.mem_of_getElem? (i := 1578) (by decide +kernel)⟩
theorem lw_p88 : lw_okq (⟨"ThumbHedgesModel", "wayOf", "(I)I"⟩, 34) := ⟨⟨by decide +kernel, by decide +kernel⟩, List.mem_of_getElem? (i := 1157) (by decide +kernel), List.mem_of_getElem? (i := 1584) (by decide +kernel), List.mem_of_getElem? (i := 1585) (by decide +kernel)⟩
theorem lw_p89 : lw_okq (⟨"ThumbHedgesModel", "says", "(IIIII)I"⟩, 34) := ⟨⟨by decide +kernel, by decide +kernel⟩, List.mem_of_getElem? (i := 1157) (by decide +kernel), List.mem_of_getElem? (i := 1588) (by decide +kernel), List.mem_of_getElem? (i := 1589) (by decide +kernel)⟩
theorem lw_p90 : lw_okq (⟨"ThumbHedgesModel", "summedUp", "(II)J"⟩, 34) := ⟨⟨by decide +kernel, by decide +kernel⟩, List.mem_of_getElem? (i := 1157) (by decide +kernel), List.mem_of_getElem? (i := 1592) (by decide +kernel), List.mem_of_getElem? (i := 1593) (by decide +kernel)⟩
theorem lw_p91 : lw_okq (⟨"ThumbHedgesModel", "hedgeThere", "(J)J"⟩, 34) := ⟨⟨by decide +kernel, by decide +kernel⟩, List.mem_of_getElem? (i := 1157) (by decide +kernel), List.mem_of_getElem? (i := 1596) (by decide +kernel), List.mem_of_getElem? (i := 1597) (by decide +kernel)⟩
theorem lw_p92 : lw_okq (⟨"ThumbHedgesModel", "goOn", "(I)V"⟩, 34) := ⟨⟨by decide +kernel, by decide +kernel⟩, List.mem_of_getElem? (i := 1157) (by decide +kernel), List.mem_of_getElem? (i := 1625) (by decide +kernel), List.mem_of_getElem? (i := 1626) (by decide +kernel)⟩
theorem lw_p93 : lw_okq (⟨"ThumbHedgesModel", "onward", "(II)I"⟩, 34) := ⟨⟨by decide +kernel, by decide +kernel⟩, List.mem_of_getElem? (i := 1157) (by decide +kernel), List.mem_of_getElem? (i := 1629) (by decide +kernel), List.mem_of_getElem? (i := 1630) (by decide +kernel)⟩
theorem lw_p94 : lw_okq (⟨"ThumbHedgesModel", "write", "(II)V"⟩, 34) := ⟨⟨by decide +kernel, by decide +kernel⟩, List.mem_of_getElem? (i := 1157) (by decide +kernel), List.mem_of_getElem? (i := 1633) (by decide +kernel), List.mem_of_getElem? (i := 1634) (by decide +kernel)⟩
theorem lw_p95 : lw_okq (⟨"ThumbHedgesModel", "drawnBy", "(I)I"⟩, 34) := ⟨⟨by decide +kernel, by decide +kernel⟩, List.mem_of_getElem? (i := 1157) (by decide +kernel), List.mem_of_getElem? (i := 1637) (by decide +kernel), List.mem_of_getElem? (i := 1638) (by decide +kernel)⟩
def lw_privs_6 : List (MethodName × Nat) := [(⟨"ThumbHedgesModel", "isOpen", "(II)Z"⟩, 34), (⟨"ThumbHedgesModel", "goNow", "(II)I"⟩, 34), (⟨"ThumbHedgesModel", "arePassed", "(I)Z"⟩, 34), (⟨"ThumbHedgesModel", "pass", "()V"⟩, 34), (⟨"ThumbHedgesModel", "goesOf", "(I)I"⟩, 34), (⟨"ThumbHedgesModel", "name", "(I)V"⟩, 34), (⟨"ThumbHedgesModel", "aroundOf", "(I)I"⟩, 34), (⟨"ThumbHedgesModel", "allNow", "()I"⟩, 34), (⟨"ThumbHedgesModel", "wayOf", "(I)I"⟩, 34), (⟨"ThumbHedgesModel", "says", "(IIIII)I"⟩, 34), (⟨"ThumbHedgesModel", "summedUp", "(II)J"⟩, 34), (⟨"ThumbHedgesModel", "hedgeThere", "(J)J"⟩, 34), (⟨"ThumbHedgesModel", "goOn", "(I)V"⟩, 34), (⟨"ThumbHedgesModel", "onward", "(II)I"⟩, 34), (⟨"ThumbHedgesModel", "write", "(II)V"⟩, 34), (⟨"ThumbHedgesModel", "drawnBy", "(I)I"⟩, 34)]
theorem lw_r6 : ∀ q ∈ lw_privs_6, lw_okq q := List.forall_mem_cons.mpr ⟨lw_p80, List.forall_mem_cons.mpr ⟨lw_p81, List.forall_mem_cons.mpr ⟨lw_p82, List.forall_mem_cons.mpr ⟨lw_p83, List.forall_mem_cons.mpr ⟨lw_p84, List.forall_mem_cons.mpr ⟨lw_p85, List.forall_mem_cons.mpr ⟨lw_p86, List.forall_mem_cons.mpr ⟨lw_p87, List.forall_mem_cons.mpr ⟨lw_p88, List.forall_mem_cons.mpr ⟨lw_p89, List.forall_mem_cons.mpr ⟨lw_p90, List.forall_mem_cons.mpr ⟨lw_p91, List.forall_mem_cons.mpr ⟨lw_p92, List.forall_mem_cons.mpr ⟨lw_p93, List.forall_mem_cons.mpr ⟨lw_p94, List.forall_mem_cons.mpr ⟨lw_p95, fun _ h => absurd h List.not_mem_nil⟩⟩⟩⟩⟩⟩⟩⟩⟩⟩⟩⟩⟩⟩⟩⟩
theorem lw_p96 : lw_okq (⟨"ThumbHedgesModel", "anew", "()V"⟩, 34) := ⟨⟨by decide +kernel, by decide +kernel⟩, List.mem_of_getElem? (i := 1157) (by decide +kernel), List.mem_of_getElem? (i := 1641) (by decide +kernel), List.mem_of_getElem? (i := 1642) (by decide +kernel)⟩
theorem lw_p97 : lw_okq (⟨"ThumbHedgesModel", "frostsOf", "(II)I"⟩, 34) := ⟨⟨by decide +kernel, by decide +kernel⟩, List.mem_of_getElem? (i := 1157) (by decide +kernel), List.mem_of_getElem? (i := 1648) (by decide +kernel), List.mem_of_getElem? (i := 1649) (by decide +kernel)⟩
theorem lw_p98 : lw_okq (⟨"ThumbHedgesModel", "isPlayed", "(I)Z"⟩, 34) := ⟨⟨by decide +kernel, by decide +kernel⟩, List.mem_of_getElem? (i := 1157) (by decide +kernel), List.mem_of_getElem? (i := 1656) (by decide +kernel), List.mem_of_getElem? (i := 1657) (by decide +kernel)⟩
theorem lw_p99 : lw_okq (⟨"ThumbHedgesModel", "happens", "(I)V"⟩, 34) := ⟨⟨by decide +kernel, by decide +kernel⟩, List.mem_of_getElem? (i := 1157) (by decide +kernel), List.mem_of_getElem? (i := 1670) (by decide +kernel), List.mem_of_getElem? (i := 1671) (by decide +kernel)⟩
theorem lw_p100 : lw_okq (⟨"ThumbHedgesModel", "openOf", "(I)I"⟩, 34) := ⟨⟨by decide +kernel, by decide +kernel⟩, List.mem_of_getElem? (i := 1157) (by decide +kernel), List.mem_of_getElem? (i := 1682) (by decide +kernel), List.mem_of_getElem? (i := 1683) (by decide +kernel)⟩
theorem lw_p101 : lw_okq (⟨"ThumbHedgesModel", "regionOf", "(II)I"⟩, 34) := ⟨⟨by decide +kernel, by decide +kernel⟩, List.mem_of_getElem? (i := 1157) (by decide +kernel), List.mem_of_getElem? (i := 1686) (by decide +kernel), List.mem_of_getElem? (i := 1687) (by decide +kernel)⟩
theorem lw_p102 : lw_okq (⟨"ThumbHedgesModel", "entry", "(II)I"⟩, 34) := ⟨⟨by decide +kernel, by decide +kernel⟩, List.mem_of_getElem? (i := 1157) (by decide +kernel), List.mem_of_getElem? (i := 1706) (by decide +kernel), List.mem_of_getElem? (i := 1707) (by decide +kernel)⟩
theorem lw_p103 : lw_okq (⟨"ThumbHedgesModel", "layFar", "(IZ)V"⟩, 34) := ⟨⟨by decide +kernel, by decide +kernel⟩, List.mem_of_getElem? (i := 1157) (by decide +kernel), List.mem_of_getElem? (i := 1729) (by decide +kernel), List.mem_of_getElem? (i := 1730) (by decide +kernel)⟩
theorem lw_p104 : lw_okq (⟨"ThumbHedgesModel", "farthestNow", "()I"⟩, 34) := ⟨⟨by decide +kernel, by decide +kernel⟩, List.mem_of_getElem? (i := 1157) (by decide +kernel), List.mem_of_getElem? (i := 1747) (by decide +kernel), List.mem_of_getElem? (i := 1748) (by decide +kernel)⟩
theorem lw_p105 : lw_okq (⟨"ThumbHedgesModel", "isNeck", "(I)Z"⟩, 34) := ⟨⟨by decide +kernel, by decide +kernel⟩, List.mem_of_getElem? (i := 1157) (by decide +kernel), List.mem_of_getElem? (i := 1773) (by decide +kernel), List.mem_of_getElem? (i := 1774) (by decide +kernel)⟩
theorem lw_p106 : lw_okq (⟨"ThumbHedgesModel", "layReach", "(I)V"⟩, 34) := ⟨⟨by decide +kernel, by decide +kernel⟩, List.mem_of_getElem? (i := 1157) (by decide +kernel), List.mem_of_getElem? (i := 1794) (by decide +kernel), List.mem_of_getElem? (i := 1795) (by decide +kernel)⟩
theorem lw_p107 : lw_okq (⟨"ThumbHedgesModel", "lowestGates", "(I)I"⟩, 34) := ⟨⟨by decide +kernel, by decide +kernel⟩, List.mem_of_getElem? (i := 1157) (by decide +kernel), List.mem_of_getElem? (i := 1798) (by decide +kernel), List.mem_of_getElem? (i := 1799) (by decide +kernel)⟩
theorem lw_p108 : lw_okq (⟨"ThumbHedgesModel", "bestTurn", "(I)I"⟩, 34) := ⟨⟨by decide +kernel, by decide +kernel⟩, List.mem_of_getElem? (i := 1157) (by decide +kernel), List.mem_of_getElem? (i := 1810) (by decide +kernel), List.mem_of_getElem? (i := 1811) (by decide +kernel)⟩
theorem lw_p109 : lw_okq (⟨"ThumbHedgesModel", "unlikeBy", "(II)I"⟩, 34) := ⟨⟨by decide +kernel, by decide +kernel⟩, List.mem_of_getElem? (i := 1157) (by decide +kernel), List.mem_of_getElem? (i := 1814) (by decide +kernel), List.mem_of_getElem? (i := 1815) (by decide +kernel)⟩
theorem lw_p110 : lw_okq (⟨"ThumbHedgesModel", "twinBy", "(II)I"⟩, 34) := ⟨⟨by decide +kernel, by decide +kernel⟩, List.mem_of_getElem? (i := 1157) (by decide +kernel), List.mem_of_getElem? (i := 1827) (by decide +kernel), List.mem_of_getElem? (i := 1828) (by decide +kernel)⟩
def lw_privs_7 : List (MethodName × Nat) := [(⟨"ThumbHedgesModel", "anew", "()V"⟩, 34), (⟨"ThumbHedgesModel", "frostsOf", "(II)I"⟩, 34), (⟨"ThumbHedgesModel", "isPlayed", "(I)Z"⟩, 34), (⟨"ThumbHedgesModel", "happens", "(I)V"⟩, 34), (⟨"ThumbHedgesModel", "openOf", "(I)I"⟩, 34), (⟨"ThumbHedgesModel", "regionOf", "(II)I"⟩, 34), (⟨"ThumbHedgesModel", "entry", "(II)I"⟩, 34), (⟨"ThumbHedgesModel", "layFar", "(IZ)V"⟩, 34), (⟨"ThumbHedgesModel", "farthestNow", "()I"⟩, 34), (⟨"ThumbHedgesModel", "isNeck", "(I)Z"⟩, 34), (⟨"ThumbHedgesModel", "layReach", "(I)V"⟩, 34), (⟨"ThumbHedgesModel", "lowestGates", "(I)I"⟩, 34), (⟨"ThumbHedgesModel", "bestTurn", "(I)I"⟩, 34), (⟨"ThumbHedgesModel", "unlikeBy", "(II)I"⟩, 34), (⟨"ThumbHedgesModel", "twinBy", "(II)I"⟩, 34)]
theorem lw_r7 : ∀ q ∈ lw_privs_7, lw_okq q := List.forall_mem_cons.mpr ⟨lw_p96, List.forall_mem_cons.mpr ⟨lw_p97, List.forall_mem_cons.mpr ⟨lw_p98, List.forall_mem_cons.mpr ⟨lw_p99, List.forall_mem_cons.mpr ⟨lw_p100, List.forall_mem_cons.mpr ⟨lw_p101, List.forall_mem_cons.mpr ⟨lw_p102, List.forall_mem_cons.mpr ⟨lw_p103, List.forall_mem_cons.mpr ⟨lw_p104, List.forall_mem_cons.mpr ⟨lw_p105, List.forall_mem_cons.mpr ⟨lw_p106, List.forall_mem_cons.mpr ⟨lw_p107, List.forall_mem_cons.mpr ⟨lw_p108, List.forall_mem_cons.mpr ⟨lw_p109, List.forall_mem_cons.mpr ⟨lw_p110, fun _ h => absurd h List.not_mem_nil⟩⟩⟩⟩⟩⟩⟩⟩⟩⟩⟩⟩⟩⟩⟩
def lw_privs : List (MethodName × Nat) := lw_privs_1 ++ (lw_privs_2 ++ (lw_privs_3 ++ (lw_privs_4 ++ (lw_privs_5 ++ (lw_privs_6 ++ (lw_privs_7))))))
def lw_tbl : List Cond := k2_sels lw_privs ++ tables_1
theorem lw_privs_ok : ∀ q ∈ lw_privs, lw_okq q := by
  show ∀ q ∈ lw_privs_1 ++ (lw_privs_2 ++ (lw_privs_3 ++ (lw_privs_4 ++ (lw_privs_5 ++ (lw_privs_6 ++ (lw_privs_7)))))), lw_okq q
  exact List.forall_mem_append.mpr ⟨lw_r1, List.forall_mem_append.mpr ⟨lw_r2, List.forall_mem_append.mpr ⟨lw_r3, List.forall_mem_append.mpr ⟨lw_r4, List.forall_mem_append.mpr ⟨lw_r5, List.forall_mem_append.mpr ⟨lw_r6, lw_r7⟩⟩⟩⟩⟩⟩
end
section
def RX0 : String := "ThumbHedges$Farm"
def TX0 : u_T := fun k => match k with
  | 0 => ("ThumbHedges$Farm", "land", "LThumbHedges$Land;", true)
  | 1 => ("ThumbHedges$Farm", "before", "[LThumbHedges$Land;", true)
  | 2 => ("ThumbHedges$Farm", "firstStep", "I", false)
  | 3 => ("ThumbHedges$Farm", "steps", "I", false)
  | 4 => ("ThumbHedges$Farm", "gates", "I", false)
  | 5 => ("ThumbHedges$Farm", "hands", "I", false)
  | 6 => ("ThumbHedges$Farm", "texts", "I", false)
  | 7 => ("ThumbHedges$Farm", "rule", "I", false)
  | 8 => ("ThumbHedges$Farm", "saids", "I", false)
  | 9 => ("ThumbHedges$Farm", "saidHedges", "[I", true)
  | _ => ("ThumbHedges$Farm", "saidFrosts", "[I", true)
def tyX0 : Nat → FieldType := fun k => match k with
  | 0 => .object "ThumbHedges$Land"
  | 1 => .array (.object "ThumbHedges$Land")
  | 2 => .int
  | 3 => .int
  | 4 => .int
  | 5 => .int
  | 6 => .int
  | 7 => .int
  | 8 => .int
  | 9 => .array .int
  | _ => .array .int
theorem nmX0 : ∀ a, a < 11 → ∀ b, b < 11 → a ≠ b → (TX0 a).2.1 ≠ (TX0 b).2.1 := by decide +kernel
theorem tyX0_ok : ∀ k, k < 11 → parseFieldDescriptor (TX0 k).2.2.1 = some (tyX0 k) := by decide +kernel
def RX1 : String := "ThumbHedges$Hands"
def TX1 : u_T := fun k => match k with
  | _ => ("ThumbHedges$Hands", "patterns", "[J", true)
def tyX1 : Nat → FieldType := fun k => match k with
  | _ => .array .long
theorem nmX1 : ∀ a, a < 1 → ∀ b, b < 1 → a ≠ b → (TX1 a).2.1 ≠ (TX1 b).2.1 := by decide +kernel
theorem tyX1_ok : ∀ k, k < 1 → parseFieldDescriptor (TX1 k).2.2.1 = some (tyX1 k) := by decide +kernel
def RX2 : String := "ThumbHedges$Judge"
def TX2 : u_T := fun k => match k with
  | 0 => ("ThumbHedges$Judge", "names", "[I", true)
  | 1 => ("ThumbHedges$Judge", "stack", "[I", true)
  | _ => ("ThumbHedges$Judge", "height", "I", false)
def tyX2 : Nat → FieldType := fun k => match k with
  | 0 => .array .int
  | 1 => .array .int
  | _ => .int
theorem nmX2 : ∀ a, a < 3 → ∀ b, b < 3 → a ≠ b → (TX2 a).2.1 ≠ (TX2 b).2.1 := by decide +kernel
theorem tyX2_ok : ∀ k, k < 3 → parseFieldDescriptor (TX2 k).2.2.1 = some (tyX2 k) := by decide +kernel
def RX3 : String := "ThumbHedges$Land"
def TX3 : u_T := fun k => match k with
  | 0 => ("ThumbHedges$Land", "hedges", "J", false)
  | 1 => ("ThumbHedges$Land", "told", "I", false)
  | 2 => ("ThumbHedges$Land", "at", "[I", true)
  | 3 => ("ThumbHedges$Land", "way", "[I", true)
  | 4 => ("ThumbHedges$Land", "home", "I", false)
  | 5 => ("ThumbHedges$Land", "hour", "I", false)
  | 6 => ("ThumbHedges$Land", "x", "I", false)
  | 7 => ("ThumbHedges$Land", "lines", "I", false)
  | _ => ("ThumbHedges$Land", "book", "[I", true)
def tyX3 : Nat → FieldType := fun k => match k with
  | 0 => .long
  | 1 => .int
  | 2 => .array .int
  | 3 => .array .int
  | 4 => .int
  | 5 => .int
  | 6 => .int
  | 7 => .int
  | _ => .array .int
theorem nmX3 : ∀ a, a < 9 → ∀ b, b < 9 → a ≠ b → (TX3 a).2.1 ≠ (TX3 b).2.1 := by decide +kernel
theorem tyX3_ok : ∀ k, k < 9 → parseFieldDescriptor (TX3 k).2.2.1 = some (tyX3 k) := by decide +kernel
def RX4 : String := "ThumbHedges$Maze"
def TX4 : u_T := fun k => match k with
  | 0 => ("ThumbHedges$Maze", "toEast", "I", false)
  | 1 => ("ThumbHedges$Maze", "toSouth", "I", false)
  | _ => ("ThumbHedges$Maze", "near", "[I", true)
def tyX4 : Nat → FieldType := fun k => match k with
  | 0 => .int
  | 1 => .int
  | _ => .array .int
theorem nmX4 : ∀ a, a < 3 → ∀ b, b < 3 → a ≠ b → (TX4 a).2.1 ≠ (TX4 b).2.1 := by decide +kernel
theorem tyX4_ok : ∀ k, k < 3 → parseFieldDescriptor (TX4 k).2.2.1 = some (tyX4 k) := by decide +kernel
def RX6 : String := "ThumbHedges$Reader"
def TX6 : u_T := fun k => match k with
  | 0 => ("ThumbHedges$Reader", "bytes", "[I", true)
  | 1 => ("ThumbHedges$Reader", "length", "I", false)
  | 2 => ("ThumbHedges$Reader", "draft", "LThumbHedges$Text;", true)
  | 3 => ("ThumbHedges$Reader", "hasRead", "Z", false)
  | 4 => ("ThumbHedges$Reader", "fault", "I", false)
  | 5 => ("ThumbHedges$Reader", "faultPlace", "I", false)
  | 6 => ("ThumbHedges$Reader", "token", "I", false)
  | 7 => ("ThumbHedges$Reader", "place", "I", false)
  | 8 => ("ThumbHedges$Reader", "value", "I", false)
  | 9 => ("ThumbHedges$Reader", "next", "I", false)
  | 10 => ("ThumbHedges$Reader", "law", "I", false)
  | _ => ("ThumbHedges$Reader", "open", "I", false)
def tyX6 : Nat → FieldType := fun k => match k with
  | 0 => .array .int
  | 1 => .int
  | 2 => .object "ThumbHedges$Text"
  | 3 => .boolean
  | 4 => .int
  | 5 => .int
  | 6 => .int
  | 7 => .int
  | 8 => .int
  | 9 => .int
  | 10 => .int
  | _ => .int
theorem nmX6 : ∀ a, a < 12 → ∀ b, b < 12 → a ≠ b → (TX6 a).2.1 ≠ (TX6 b).2.1 := by decide +kernel
theorem tyX6_ok : ∀ k, k < 12 → parseFieldDescriptor (TX6 k).2.2.1 = some (tyX6 k) := by decide +kernel
def RX7 : String := "ThumbHedges$Text"
def TX7 : u_T := fun k => match k with
  | 0 => ("ThumbHedges$Text", "clauses", "I", false)
  | 1 => ("ThumbHedges$Text", "kinds", "[I", true)
  | 2 => ("ThumbHedges$Text", "firsts", "[I", true)
  | 3 => ("ThumbHedges$Text", "seconds", "[I", true)
  | 4 => ("ThumbHedges$Text", "code", "[I", true)
  | 5 => ("ThumbHedges$Text", "size", "I", false)
  | 6 => ("ThumbHedges$Text", "hasFrosts", "Z", false)
  | 7 => ("ThumbHedges$Text", "frostsFrom", "I", false)
  | 8 => ("ThumbHedges$Text", "frostsTo", "I", false)
  | 9 => ("ThumbHedges$Text", "hasGoes", "Z", false)
  | 10 => ("ThumbHedges$Text", "goesFrom", "I", false)
  | _ => ("ThumbHedges$Text", "goesTo", "I", false)
def tyX7 : Nat → FieldType := fun k => match k with
  | 0 => .int
  | 1 => .array .int
  | 2 => .array .int
  | 3 => .array .int
  | 4 => .array .int
  | 5 => .int
  | 6 => .boolean
  | 7 => .int
  | 8 => .int
  | 9 => .boolean
  | 10 => .int
  | _ => .int
theorem nmX7 : ∀ a, a < 12 → ∀ b, b < 12 → a ≠ b → (TX7 a).2.1 ≠ (TX7 b).2.1 := by decide +kernel
theorem tyX7_ok : ∀ k, k < 12 → parseFieldDescriptor (TX7 k).2.2.1 = some (tyX7 k) := by decide +kernel
def RX8 : String := "ThumbHedges"
def TX8 : u_T := fun k => match k with
  | 0 => ("ThumbHedges", "now", "LThumbHedges$Farm;", true)
  | 1 => ("ThumbHedges", "kept", "LThumbHedges$Farm;", true)
  | 2 => ("ThumbHedges", "hands", "LThumbHedges$Hands;", true)
  | 3 => ("ThumbHedges", "texts", "[LThumbHedges$Text;", true)
  | 4 => ("ThumbHedges", "lawless", "LThumbHedges$Text;", true)
  | 5 => ("ThumbHedges", "reader", "LThumbHedges$Reader;", true)
  | 6 => ("ThumbHedges", "judge", "LThumbHedges$Judge;", true)
  | 7 => ("ThumbHedges", "maze", "LThumbHedges$Maze;", true)
  | _ => ("ThumbHedges", "trial", "LThumbHedges$Land;", true)
def tyX8 : Nat → FieldType := fun k => match k with
  | 0 => .object "ThumbHedges$Farm"
  | 1 => .object "ThumbHedges$Farm"
  | 2 => .object "ThumbHedges$Hands"
  | 3 => .array (.object "ThumbHedges$Text")
  | 4 => .object "ThumbHedges$Text"
  | 5 => .object "ThumbHedges$Reader"
  | 6 => .object "ThumbHedges$Judge"
  | 7 => .object "ThumbHedges$Maze"
  | _ => .object "ThumbHedges$Land"
theorem nmX8 : ∀ a, a < 9 → ∀ b, b < 9 → a ≠ b → (TX8 a).2.1 ≠ (TX8 b).2.1 := by decide +kernel
theorem tyX8_ok : ∀ k, k < 9 → parseFieldDescriptor (TX8 k).2.2.1 = some (tyX8 k) := by decide +kernel
def RX9 : String := "ThumbHedgesModel"
def TX9 : u_T := fun k => match k with
  | 0 => ("ThumbHedgesModel", "a", "[I", true)
  | 1 => ("ThumbHedgesModel", "image", "[I", true)
  | 2 => ("ThumbHedgesModel", "texts", "[I", true)
  | 3 => ("ThumbHedgesModel", "turns", "[I", true)
  | 4 => ("ThumbHedgesModel", "tape", "[I", true)
  | 5 => ("ThumbHedgesModel", "taped", "I", false)
  | 6 => ("ThumbHedgesModel", "fault", "I", false)
  | 7 => ("ThumbHedgesModel", "faultPlace", "I", false)
  | 8 => ("ThumbHedgesModel", "at", "I", false)
  | 9 => ("ThumbHedgesModel", "place", "I", false)
  | 10 => ("ThumbHedgesModel", "token", "I", false)
  | 11 => ("ThumbHedgesModel", "number", "I", false)
  | 12 => ("ThumbHedgesModel", "word", "J", false)
  | 13 => ("ThumbHedgesModel", "text0", "I", false)
  | 14 => ("ThumbHedgesModel", "written", "I", false)
  | 15 => ("ThumbHedgesModel", "sort0", "I", false)
  | 16 => ("ThumbHedgesModel", "pile", "[I", true)
  | 17 => ("ThumbHedgesModel", "piled", "I", false)
  | 18 => ("ThumbHedgesModel", "opens", "I", false)
  | 19 => ("ThumbHedgesModel", "isWhole", "Z", false)
  | 20 => ("ThumbHedgesModel", "once", "I", false)
  | 21 => ("ThumbHedgesModel", "named", "[I", true)
  | 22 => ("ThumbHedgesModel", "values", "[J", true)
  | 23 => ("ThumbHedgesModel", "truth", "[Z", true)
  | 24 => ("ThumbHedgesModel", "isWritten", "Z", false)
  | 25 => ("ThumbHedgesModel", "cameHome", "I", false)
  | 26 => ("ThumbHedgesModel", "aside", "[I", true)
  | 27 => ("ThumbHedgesModel", "far", "[I", true)
  | 28 => ("ThumbHedgesModel", "path", "[I", true)
  | 29 => ("ThumbHedgesModel", "onBy", "[I", true)
  | 30 => ("ThumbHedgesModel", "behind", "[I", true)
  | 31 => ("ThumbHedgesModel", "reach", "[I", true)
  | 32 => ("ThumbHedgesModel", "tried", "[I", true)
  | _ => ("ThumbHedgesModel", "there", "[I", true)
def tyX9 : Nat → FieldType := fun k => match k with
  | 0 => .array .int
  | 1 => .array .int
  | 2 => .array .int
  | 3 => .array .int
  | 4 => .array .int
  | 5 => .int
  | 6 => .int
  | 7 => .int
  | 8 => .int
  | 9 => .int
  | 10 => .int
  | 11 => .int
  | 12 => .long
  | 13 => .int
  | 14 => .int
  | 15 => .int
  | 16 => .array .int
  | 17 => .int
  | 18 => .int
  | 19 => .boolean
  | 20 => .int
  | 21 => .array .int
  | 22 => .array .long
  | 23 => .array .boolean
  | 24 => .boolean
  | 25 => .int
  | 26 => .array .int
  | 27 => .array .int
  | 28 => .array .int
  | 29 => .array .int
  | 30 => .array .int
  | 31 => .array .int
  | 32 => .array .int
  | _ => .array .int
theorem nmX9 : ∀ a, a < 34 → ∀ b, b < 34 → a ≠ b → (TX9 a).2.1 ≠ (TX9 b).2.1 := by decide +kernel
theorem tyX9_ok : ∀ k, k < 34 → parseFieldDescriptor (TX9 k).2.2.1 = some (tyX9 k) := by decide +kernel
abbrev vwCl : List vw_C := [(RX0, TX0, 11), (RX1, TX1, 1), (RX2, TX2, 3), (RX3, TX3, 9), (RX4, TX4, 3), (RX6, TX6, 12), (RX7, TX7, 12), (RX8, TX8, 9), (RX9, TX9, 34)]
def CR (c : Nat) : String := match c with
  | 0 => RX0
  | 1 => RX1
  | 2 => RX2
  | 3 => RX3
  | 4 => RX4
  | 5 => RX6
  | 6 => RX7
  | 7 => RX8
  | _ => RX9
def CT (c : Nat) : u_T := match c with
  | 0 => TX0
  | 1 => TX1
  | 2 => TX2
  | 3 => TX3
  | 4 => TX4
  | 5 => TX6
  | 6 => TX7
  | 7 => TX8
  | _ => TX9
def CTy (c : Nat) : Nat → FieldType := match c with
  | 0 => tyX0
  | 1 => tyX1
  | 2 => tyX2
  | 3 => tyX3
  | 4 => tyX4
  | 5 => tyX6
  | 6 => tyX7
  | 7 => tyX8
  | _ => tyX9
def CN (c : Nat) : Nat := match c with
  | 0 => 11
  | 1 => 1
  | 2 => 3
  | 3 => 9
  | 4 => 3
  | 5 => 12
  | 6 => 12
  | 7 => 9
  | _ => 34
theorem mem_places {big ws : List Cond} (ps : List Nat) (hp : ws = ps.filterMap (fun i => big[i]?)) : ∀ w ∈ ws, w ∈ big := by
  intro w hw
  rw [hp] at hw
  obtain ⟨i, -, hi⟩ := List.mem_filterMap.mp hw
  exact List.mem_of_getElem? hi
theorem inX0 : ∀ w ∈ u_ws RX0 TX0 11, w ∈ lw_tbl := mem_places [213, 215, 217, 219, 221, 223, 225, 227, 229, 231, 233] (by decide +kernel)
theorem inX1 : ∀ w ∈ u_ws RX1 TX1 1, w ∈ lw_tbl := mem_places [243] (by decide +kernel)
theorem inX2 : ∀ w ∈ u_ws RX2 TX2 3, w ∈ lw_tbl := mem_places [364, 366, 368] (by decide +kernel)
theorem inX3 : ∀ w ∈ u_ws RX3 TX3 9, w ∈ lw_tbl := mem_places [172, 174, 176, 178, 180, 182, 184, 186, 188] (by decide +kernel)
theorem inX4 : ∀ w ∈ u_ws RX4 TX4 3, w ∈ lw_tbl := mem_places [380, 382, 384] (by decide +kernel)
theorem inX6 : ∀ w ∈ u_ws RX6 TX6 12, w ∈ lw_tbl := mem_places [330, 332, 334, 336, 338, 340, 342, 344, 346, 348, 350, 352] (by decide +kernel)
theorem inX7 : ∀ w ∈ u_ws RX7 TX7 12, w ∈ lw_tbl := mem_places [280, 282, 284, 286, 288, 290, 292, 294, 296, 298, 300, 302] (by decide +kernel)
theorem inX8 : ∀ w ∈ u_ws RX8 TX8 9, w ∈ lw_tbl := mem_places [398, 400, 402, 404, 406, 408, 410, 412, 414] (by decide +kernel)
theorem inX9 : ∀ w ∈ u_ws RX9 TX9 34, w ∈ lw_tbl := mem_places [1329, 1331, 1333, 1335, 1337, 1339, 1341, 1343, 1345, 1347, 1349, 1351, 1353, 1355, 1357, 1359, 1361, 1363, 1365, 1367, 1369, 1371, 1373, 1375, 1377, 1379, 1381, 1383, 1385, 1387, 1389, 1391, 1393, 1395] (by decide +kernel)
end
section
/-! THE NUMBER MACHINE: a pure machine over whole numbers that runs the resolved code of every method that makes no object. Objects are numbers (ids) of one fixed plan, references never change; memory holds numbers alone. -/
abbrev Mm : Type := Int → Int → Int
abbrev Vv : Type := Nat × Int
def up (m : Mm) (o k v : Int) : Mm := fun a b => if a = o ∧ b = k then v else m a b
def cpy (m : Mm) (s sp d dp n : Int) : Mm := fun a b => if a = d ∧ dp ≤ b ∧ b < dp + n then m s (sp + (b - dp)) else m a b
def w32 (x : Int) : Int := (Int32.ofInt x).toInt
def w64 (x : Int) : Int := (Int64.ofInt x).toInt
def idv (a b : Int) : Int := (Int32.ofInt a / Int32.ofInt b).toInt
def irm (a b : Int) : Int := (Int32.ofInt a - Int32.ofInt a / Int32.ofInt b * Int32.ofInt b).toInt
def ian (a b : Int) : Int := (Int32.ofInt a &&& Int32.ofInt b).toInt
def iro (a b : Int) : Int := (Int32.ofInt a ||| Int32.ofInt b).toInt
def ixo (a b : Int) : Int := (Int32.ofInt a ^^^ Int32.ofInt b).toInt
def isl (a b : Int) : Int := (Int32.ofInt a <<< (Int32.ofInt b &&& 31)).toInt
def isr (a b : Int) : Int := (Int32.ofInt a >>> (Int32.ofInt b &&& 31)).toInt
def ius (a b : Int) : Int := ((Int32.ofInt a).toUInt32 >>> ((Int32.ofInt b).toUInt32 &&& Int32.toUInt32 31)).toInt32.toInt
def ldv (a b : Int) : Int := (Int64.ofInt a / Int64.ofInt b).toInt
def lrm (a b : Int) : Int := (Int64.ofInt a - Int64.ofInt a / Int64.ofInt b * Int64.ofInt b).toInt
def lan (a b : Int) : Int := (Int64.ofInt a &&& Int64.ofInt b).toInt
def lro (a b : Int) : Int := (Int64.ofInt a ||| Int64.ofInt b).toInt
def lxo (a b : Int) : Int := (Int64.ofInt a ^^^ Int64.ofInt b).toInt
def lsl (a b : Int) : Int := (Int64.ofInt a <<< ((Int32.ofInt b).toInt64 &&& 63)).toInt
def lsr (a b : Int) : Int := (Int64.ofInt a >>> ((Int32.ofInt b).toInt64 &&& 63)).toInt
def lus (a b : Int) : Int := ((Int64.ofInt a).toUInt64 >>> ((Int32.ofInt b).toInt64.toUInt64 &&& Int64.toUInt64 63)).toInt64.toInt
def lcm (a b : Int) : Int := if a < b then -1 else if a = b then 0 else 1
def i2c (a : Int) : Int := ((Int32.ofInt a).toUInt32 % 65536).toInt32.toInt
/-- the two texts that the class holds as constants, byte by byte -/
def WORDSL : List Int := [102, 114, 111, 115, 116, 115, 32, 103, 111, 101, 115, 32, 99, 111, 119, 32, 103, 97, 116, 101, 32, 112, 108, 97, 110, 116, 32, 99, 117, 116, 32, 112, 114, 101, 115, 115, 32, 103, 111, 32, 104, 111, 117, 114, 32, 99, 101, 108, 108, 32, 97, 114, 111, 117, 110, 100, 32, 97, 108, 108, 32, 110, 117, 109, 98, 101, 114, 32, 119, 104, 111, 32, 119, 97, 121, 32, 116, 117, 114, 110, 32, 98, 121, 32, 102, 97, 114, 32, 111, 102, 32, 104, 101, 100, 103, 101, 32, 105, 102, 32, 116, 104, 101, 110, 32, 101, 108, 115, 101, 32, 101, 110, 100, 32, 111, 114, 32, 97, 110, 100, 32, 110, 111, 116, 32]
def SIGNSL : List Int := [60, 62, 61, 35, 43, 45, 42, 47, 40, 41, 59]
def wchar (i : Int) : Int := WORDSL.getD i.toNat 0
def idxOf : List Int → Int → Int → Int
  | [], _, _ => -1
  | x :: r, c, k => if x = c then k else idxOf r c (k + 1)
/-! kinds of values: 0 int, 1 long, 9 nothing known, 10 .. 18 objects of class 0 .. 8, 50 the script, 51 TRIED, 52 and 53 the two texts, from 100 on arrays: 100 + 8 n + (0 int, 1 long, 2 boolean, 3 Land, 4 Text) -/
def aty (t : Nat) : Nat := if t < 100 then 9 else (t - 100) % 8
def aln (t : Nat) : Int := ((t - 100) / 8 : Nat)
def FTL : List (List Nat) := [[13, 343, 0, 0, 0, 0, 0, 0, 0, 164, 164], [357], [156, 2500, 0], [1, 0, 140, 140, 0, 0, 0, 0, 340], [0, 0, 300], [2500, 0, 16, 2, 0, 0, 0, 0, 0, 0, 0, 0], [0, 292, 292, 292, 2500, 0, 2, 0, 0, 2, 0, 0], [10, 10, 11, 136, 16, 15, 12, 14, 13], [11828, 11828, 21892, 2660, 2500, 0, 0, 0, 0, 0, 0, 0, 1, 0, 0, 0, 1380, 0, 0, 2, 0, 156, 2741, 2742, 2, 0, 268, 300, 308, 308, 900, 300, 132, 420]]
def OFL : List (List Int) := [[1, 5, 0, 0, 0, 0, 0, 0, 0, 126, 127], [1], [1, 2, 0], [0, 0, 1, 2, 0, 0, 0, 0, 3], [0, 0, 1], [1, 0, 2, 0, 0, 0, 0, 0, 0, 0, 0, 0], [0, 1, 2, 3, 4, 0, 0, 0, 0, 0, 0, 0], [128, 256, 1, 3, 48, 80, 10, 13, 64], [1, 2, 3, 4, 5, 0, 0, 0, 0, 0, 0, 0, 0, 0, 0, 0, 6, 0, 0, 0, 0, 7, 8, 9, 0, 0, 10, 11, 12, 13, 14, 15, 16, 17]]
def FT (c k : Nat) : Nat := (FTL.getD c []).getD k 9
def OF (c k : Nat) : Int := (OFL.getD c []).getD k 0
def PA (t : Nat) (o i : Int) : Int := if t = 3 then o + 1 + 4 * i else o + 13 + 8 * i
def catV (v : Vv) : Nat := if v.1 = 1 then 2 else 1
def catS (l : List Vv) : Nat := (l.map catV).sum
abbrev Cf : Type := Nat × List Vv × List Vv × Mm
/-- a long whose second half is overwritten is lost -/
def cut1 (L : List Vv) (i : Nat) : List Vv := match i with
  | 0 => L
  | j + 1 => match L[j]? with
    | some (1, _) => L.set j (9, 0)
    | _ => L
def sto1 (L : List Vv) (i : Nat) (v : Vv) : List Vv := (cut1 L i).set i v
def sto2 (L : List Vv) (i : Nat) (v : Vv) : List Vv := ((cut1 L i).set i v).set (i + 1) (9, 0)
def cmpB (c : Jvm.ClassFile.Cond) (a b : Int) : Bool := match c with
  | .eq => decide (a = b)
  | .ne => decide (¬ a = b)
  | .lt => decide (a < b)
  | .ge => decide (b ≤ a)
  | .gt => decide (b < a)
  | .le => decide (a ≤ b)
def tsw (d : Int) : Int → List Int → Int → Int
  | _, [], _ => d
  | lo, t :: r, x => if x = lo then t else tsw d (lo + 1) r x
def lsw (d : Int) : List (Int × Int) → Int → Int
  | [], _ => d
  | q :: r, x => if x = q.1 then q.2 else lsw d r x
def bi2 (f : Int → Int → Int) (pc : Nat) (L st : List Vv) (m : Mm) : Option Cf := match st with
  | (0, b) :: (0, a) :: r => some (pc + 1, L, (0, f a b) :: r, m)
  | _ => none
def bl2 (f : Int → Int → Int) (pc : Nat) (L st : List Vv) (m : Mm) : Option Cf := match st with
  | (1, b) :: (1, a) :: r => some (pc + 1, L, (1, f a b) :: r, m)
  | _ => none
def bs2 (f : Int → Int → Int) (pc : Nat) (L st : List Vv) (m : Mm) : Option Cf := match st with
  | (0, b) :: (1, a) :: r => some (pc + 1, L, (1, f a b) :: r, m)
  | _ => none
def bd2 (f : Int → Int → Int) (pc : Nat) (L st : List Vv) (m : Mm) : Option Cf := match st with
  | (0, b) :: (0, a) :: r => if b = 0 then none else some (pc + 1, L, (0, f a b) :: r, m)
  | _ => none
def bq2 (f : Int → Int → Int) (pc : Nat) (L st : List Vv) (m : Mm) : Option Cf := match st with
  | (1, b) :: (1, a) :: r => if b = 0 then none else some (pc + 1, L, (1, f a b) :: r, m)
  | _ => none
/-- reading an array's cell -/
def ald (ty : Nat) (rt : Nat) (pc : Nat) (L st : List Vv) (m : Mm) : Option Cf := match st with
  | (0, i) :: (t, o) :: r => if aty t = ty then (if 0 ≤ i ∧ i < aln t then some (pc + 1, L, (rt, m o i) :: r, m) else none) else none
  | _ => none
def sld (pc : Nat) (L st : List Vv) (m : Mm) : Option Cf := match st with
  | (0, i) :: (t, o) :: r => if t = 50 then (if 0 ≤ i ∧ i < m 500 (-1) then some (pc + 1, L, (0, m 500 i) :: r, m) else none)
      else if t = 51 then (if 0 ≤ i ∧ i < 4 then some (pc + 1, L, (0, m 501 i) :: r, m) else none) else ald 0 0 pc L ((0, i) :: (t, o) :: r) m
  | _ => none
def rld (pc : Nat) (L st : List Vv) (m : Mm) : Option Cf := match st with
  | (0, i) :: (t, o) :: r => if aty t = 3 then (if 0 ≤ i ∧ i < aln t then some (pc + 1, L, (13, PA 3 o i) :: r, m) else none)
      else if aty t = 4 then (if 0 ≤ i ∧ i < aln t then some (pc + 1, L, (16, PA 4 o i) :: r, m) else none) else none
  | _ => none
def ast (ty : Nat) (vt : Nat) (pc : Nat) (L st : List Vv) (m : Mm) : Option Cf := match st with
  | (t0, v) :: (0, i) :: (t, o) :: r => if t0 = vt then if aty t = ty then (if 0 ≤ i ∧ i < aln t then some (pc + 1, L, r, up m o i v) else none) else none else none
  | _ => none
def bst (pc : Nat) (L st : List Vv) (m : Mm) : Option Cf := match st with
  | (0, v) :: (0, i) :: (t, o) :: r => if aty t = 2 then (if (v = 0 ∨ v = 1) ∧ 0 ≤ i ∧ i < aln t then some (pc + 1, L, r, up m o i v) else none) else none
  | _ => none
def gtf (c k : Nat) (pc : Nat) (L st : List Vv) (m : Mm) : Option Cf := match st with
  | (t, o) :: r => if t = c + 10 ∧ k < CN c then (if FT c k = 0 ∨ FT c k = 2 then some (pc + 1, L, (0, m o k) :: r, m) else if FT c k = 1 then some (pc + 1, L, (1, m o k) :: r, m) else some (pc + 1, L, (FT c k, o + OF c k) :: r, m)) else none
  | _ => none
def ptf (c k : Nat) (pc : Nat) (L st : List Vv) (m : Mm) : Option Cf := match st with
  | (t0, v) :: (t, o) :: r => if t = c + 10 ∧ k < CN c then (if FT c k = 0 ∧ t0 = 0 then some (pc + 1, L, r, up m o k v) else if FT c k = 1 ∧ t0 = 1 then some (pc + 1, L, r, up m o k v) else if FT c k = 2 ∧ t0 = 0 then (if v = 0 ∨ v = 1 then some (pc + 1, L, r, up m o k v) else none) else none) else none
  | _ => none
def acp (pc : Nat) (L st : List Vv) (m : Mm) : Option Cf := match st with
  | (0, n) :: (0, dp) :: (td, d) :: (0, sp) :: (ts, s) :: [] => if aty ts = 0 ∧ aty td = 0 then (if 0 ≤ n ∧ 0 ≤ sp ∧ 0 ≤ dp ∧ sp + n ≤ aln ts ∧ dp + n ≤ aln td then some (pc + 1, L, [], cpy m s sp d dp n) else none) else none
  | _ => none
/-- Math.max, min, abs of ints, max, min of longs -/
def mth (n pc : Nat) (L st : List Vv) (m : Mm) : Option Cf := match n, st with
  | 0, (0, b) :: (0, a) :: r => if catS r ≤ 8 then some (pc + 1, L, (0, max a b) :: r, m) else none
  | 1, (0, b) :: (0, a) :: r => if catS r ≤ 8 then some (pc + 1, L, (0, min a b) :: r, m) else none
  | 2, (0, a) :: r => if catS r ≤ 8 then some (pc + 1, L, (0, if 0 ≤ a then a else w32 (0 - a)) :: r, m) else none
  | 3, (1, b) :: (1, a) :: r => if catS r ≤ 8 then some (pc + 1, L, (1, max a b) :: r, m) else none
  | 4, (1, b) :: (1, a) :: r => if catS r ≤ 8 then some (pc + 1, L, (1, min a b) :: r, m) else none
  | _, _ => none
/-- a step that is no call and no return -/
def st1 (i : Instr) (pc : Nat) (L st : List Vv) (m : Mm) : Option Cf := match i with
  | .iconst v => some (pc + 1, L, (0, v) :: st, m)
  | .bipush v => some (pc + 1, L, (1, v) :: st, m)
  | .iload i => match L[i]? with
    | some (0, x) => some (pc + 1, L, (0, x) :: st, m)
    | _ => none
  | .lload i => match L[i]? with
    | some (1, x) => some (pc + 1, L, (1, x) :: st, m)
    | _ => none
  | .aload i => match L[i]? with
    | some (t, x) => if 10 ≤ t then some (pc + 1, L, (t, x) :: st, m) else none
    | _ => none
  | .istore i => match st with
    | (0, x) :: r => if i < L.length then some (pc + 1, sto1 L i (0, x), r, m) else none
    | _ => none
  | .lstore i => match st with
    | (1, x) :: r => if i + 1 < L.length then some (pc + 1, sto2 L i (1, x), r, m) else none
    | _ => none
  | .astore i => match st with
    | (t, x) :: r => if 10 ≤ t ∧ i < L.length then some (pc + 1, sto1 L i (t, x), r, m) else none
    | _ => none
  | .iinc i k => match L[i]? with
    | some (0, x) => some (pc + 1, sto1 L i (0, w32 (x + k)), st, m)
    | _ => none
  | .iadd => bi2 (fun a b => w32 (a + b)) pc L st m
  | .isub => bi2 (fun a b => w32 (a - b)) pc L st m
  | .imul => bi2 (fun a b => w32 (a * b)) pc L st m
  | .iand => bi2 ian pc L st m
  | .ior => bi2 iro pc L st m
  | .ixor => bi2 ixo pc L st m
  | .ishl => bi2 isl pc L st m
  | .ishr => bi2 isr pc L st m
  | .iushr => bi2 ius pc L st m
  | .idiv => bd2 idv pc L st m
  | .irem => bd2 irm pc L st m
  | .ineg => match st with
    | (0, a) :: r => some (pc + 1, L, (0, w32 (-a)) :: r, m)
    | _ => none
  | .ladd => bl2 (fun a b => w64 (a + b)) pc L st m
  | .lsub => bl2 (fun a b => w64 (a - b)) pc L st m
  | .lmul => bl2 (fun a b => w64 (a * b)) pc L st m
  | .land => bl2 lan pc L st m
  | .lor => bl2 lro pc L st m
  | .lxor => bl2 lxo pc L st m
  | .lshl => bs2 lsl pc L st m
  | .lshr => bs2 lsr pc L st m
  | .lushr => bs2 lus pc L st m
  | .ldiv => bq2 ldv pc L st m
  | .lrem => bq2 lrm pc L st m
  | .lneg => match st with
    | (1, a) :: r => some (pc + 1, L, (1, w64 (-a)) :: r, m)
    | _ => none
  | .lcmp => match st with
    | (1, b) :: (1, a) :: r => some (pc + 1, L, (0, lcm a b) :: r, m)
    | _ => none
  | .i2l => match st with
    | (0, a) :: r => some (pc + 1, L, (1, a) :: r, m)
    | _ => none
  | .l2i => match st with
    | (1, a) :: r => some (pc + 1, L, (0, w32 a) :: r, m)
    | _ => none
  | .i2c => match st with
    | (0, a) :: r => some (pc + 1, L, (0, i2c a) :: r, m)
    | _ => none
  | .dup => match st with
    | (t, a) :: r => if t = 1 ∨ t = 9 then none else some (pc + 1, L, (t, a) :: (t, a) :: r, m)
    | _ => none
  | .dup2 => match st with
    | (t, a) :: (u, b) :: r => if t = 1 ∨ t = 9 ∨ u = 1 ∨ u = 9 then none else some (pc + 1, L, (t, a) :: (u, b) :: (t, a) :: (u, b) :: r, m)
    | _ => none
  | .pop => match st with
    | (t, _) :: r => if t = 1 ∨ t = 9 then none else some (pc + 1, L, r, m)
    | _ => none
  | .goto t => some (t.toNat, L, st, m)
  | .if_icmp c t => match st with
    | (0, b) :: (0, a) :: r => some (if cmpB c a b = true then t.toNat else pc + 1, L, r, m)
    | _ => none
  | .ifCond c t => match st with
    | (0, a) :: r => some (if cmpB c a 0 = true then t.toNat else pc + 1, L, r, m)
    | _ => none
  | .tableswitch d lo _ ts => match st with
    | (0, x) :: r => some ((tsw d lo ts.toList x).toNat, L, r, m)
    | _ => none
  | .lookupswitch d ps => match st with
    | (0, x) :: r => some ((lsw d ps.toList x).toNat, L, r, m)
    | _ => none
  | .multianewarray c k => gtf c k pc L st m
  | .invokeinterface c k => ptf c k pc L st m
  | .iaload => sld pc L st m
  | .laload => ald 1 1 pc L st m
  | .baload => ald 2 0 pc L st m
  | .aaload => rld pc L st m
  | .iastore => ast 0 0 pc L st m
  | .lastore => ast 1 1 pc L st m
  | .bastore => bst pc L st m
  | .arraylength => match st with
    | (t, _) :: r => if t = 50 then some (pc + 1, L, (0, m 500 (-1)) :: r, m) else if aty t = 9 then none else some (pc + 1, L, (0, aln t) :: r, m)
    | _ => none
  | .getstatic _ => some (pc + 1, L, (51, 501) :: st, m)
  | .ret n => mth n pc L st m
  | .ldc t => if t = 52 ∨ t = 53 then some (pc + 1, L, (t, 0) :: st, m) else none
  | .invokedynamic n => if n = 0 then acp pc L st m else if n = 1 then (match st with
      | (52, _) :: [] => some (pc + 1, L, (0, 125) :: [], m)
      | (52, _) :: (0, x) :: [] => some (pc + 1, L, (0, 125) :: (0, x) :: [], m)
      | _ => none) else if n = 2 then (match st with
      | (0, i) :: (52, _) :: [] => if 0 ≤ i ∧ i < 125 then some (pc + 1, L, (0, wchar i) :: [], m) else none
      | _ => none) else (match st with
      | (0, x) :: (53, _) :: [] => if 0 ≤ x ∧ x < 65536 then some (pc + 1, L, (0, idxOf SIGNSL x 0) :: [], m) else none
      | _ => none)
  | _ => none
/-- a method: the kinds of its arguments, of its answer (0 int, 1 long, 2 boolean, 3 none, else a reference), how many locals, its code -/
abbrev MI : Type := List Nat × Nat × Nat × List Instr
def entL : List Vv → List Vv
  | [] => []
  | (t, x) :: r => if t = 1 then (t, x) :: (9, 0) :: entL r else (t, x) :: entL r
def ent (a : List Vv) (n : Nat) : List Vv := entL a ++ List.replicate (n - (entL a).length) (9, 0)
def ret1 (i : Instr) (rt : Nat) (st : List Vv) : Option (Option Vv) := match i with
  | .ireturn => match st with
    | [(0, v)] => if rt = 0 then some (some (0, v)) else if rt = 2 then (if v = 0 ∨ v = 1 then some (some (0, v)) else none) else none
    | _ => none
  | .lreturn => match st with
    | [(1, v)] => if rt = 1 then some (some (1, v)) else none
    | _ => none
  | .areturn => match st with
    | [(t, v)] => if rt = t ∧ 10 ≤ t then some (some (t, v)) else none
    | _ => none
  | .return_ => match st with
    | [] => if rt = 3 then some none else none
    | _ => none
  | _ => none
def ex (MT : List MI) : Nat → Nat → List Instr → Nat → Nat → List Vv → List Vv → Mm → Option (Option Vv × Mm)
  | 0, _, _, _, _, _, _, _ => none
  | n + 1, d, C, rt, pc, L, st, m =>
    match C[pc]? with
    | none => none
    | some i =>
      match i with
      | .invokestatic k =>
        match d, MT[k]? with
        | d' + 1, some M =>
          if ((st.take M.1.length).reverse.map (fun v => v.1)) = M.1 ∧ catS (st.drop M.1.length) ≤ 8 then
            match ex MT n d' M.2.2.2 M.2.1 0 (ent (st.take M.1.length).reverse M.2.2.1) [] m with
            | some (v, m') => ex MT n d C rt (pc + 1) L (v.toList ++ st.drop M.1.length) m'
            | none => none
          else none
        | _, _ => none
      | i =>
        match ret1 i rt st with
        | some v => some (v, m)
        | none =>
          match st1 i pc L st m with
          | some (pc', L', st', m') => ex MT n d C rt pc' L' st' m'
          | none => none
end
section
/-! WHAT THE NUMBERS ARE IN THE HEAP -/
def in32 (x : Int) : Prop := -2147483648 ≤ x ∧ x ≤ 2147483647
def in64 (x : Int) : Prop := -9223372036854775808 ≤ x ∧ x ≤ 9223372036854775807
theorem i32_of {x : Int} (h : in32 x) : (Int32.ofInt x).toInt = x := Int32.toInt_ofInt_of_le (by unfold in32 at h; omega) (by unfold in32 at h; omega)
theorem i64_of {x : Int} (h : in64 x) : (Int64.ofInt x).toInt = x := Int64.toInt_ofInt_of_le (by unfold in64 at h; omega) (by unfold in64 at h; omega)
theorem in32_to (x : Int32) : in32 x.toInt := by
  have h1 := x.toInt_lt
  have h2 := x.le_toInt
  unfold in32
  omega
theorem in64_to (x : Int64) : in64 x.toInt := by
  have h1 := x.toInt_lt
  have h2 := x.le_toInt
  unfold in64
  omega
theorem in64_32 {x : Int} (h : in32 x) : in64 x := by unfold in32 at h; unfold in64; omega
theorem w32_of {x : Int} (h : in32 x) : w32 x = x := i32_of h
theorem w64_of {x : Int} (h : in64 x) : w64 x = x := i64_of h
theorem in32_w (x : Int) : in32 (w32 x) := in32_to _
theorem in64_w (x : Int) : in64 (w64 x) := in64_to _
theorem o32_w (x : Int) : Int32.ofInt (w32 x) = Int32.ofInt x := Int32.ofInt_toInt _
theorem o64_w (x : Int) : Int64.ofInt (w64 x) = Int64.ofInt x := Int64.ofInt_toInt _
theorem clamp_o {i : Int} (h : in32 i) : (Int32.ofInt i).toNatClampNeg = i.toNat := by rw [← Int32.toNat_toInt, i32_of h]
theorem vp_in_o {i : Int} {n : Nat} (h : in32 i) (h0 : 0 ≤ i) (h1 : i < n) : vp_in (Int32.ofInt i) n := vp_in_iff.mpr (by rw [i32_of h]; exact ⟨h0, h1⟩)
theorem o32_eq {a b : Int} (ha : in32 a) (hb : in32 b) : Int32.ofInt a = Int32.ofInt b ↔ a = b := by rw [← Int32.toInt_inj, i32_of ha, i32_of hb]
theorem o32_lt {a b : Int} (ha : in32 a) (hb : in32 b) : Int32.ofInt a < Int32.ofInt b ↔ a < b := by rw [Int32.lt_iff_toInt_lt, i32_of ha, i32_of hb]
theorem o32_le {a b : Int} (ha : in32 a) (hb : in32 b) : Int32.ofInt a ≤ Int32.ofInt b ↔ a ≤ b := by rw [Int32.le_iff_toInt_le, i32_of ha, i32_of hb]
theorem in32_lit0 : in32 0 := by unfold in32; omega
/-- the plan: every object that is made once, and never again: its id, its kind -/
def uLand (o : Int) : List (Int × Nat) := [(o, 13), (o + 1, 140), (o + 2, 140), (o + 3, 340)]
def uText (o : Int) : List (Int × Nat) := [(o, 16), (o + 1, 292), (o + 2, 292), (o + 3, 292), (o + 4, 2500)]
def uFarm (o : Int) : List (Int × Nat) := (o, 10) :: (uLand (o + 1) ++ ((o + 5, 343) :: ((List.range 30).flatMap (fun i => uLand (o + 6 + 4 * (i : Nat))) ++ [(o + 126, 164), (o + 127, 164)])))
def uModel (o : Int) : List (Int × Nat) := (o, 18) :: [(o + 1, 11828), (o + 2, 11828), (o + 3, 21892), (o + 4, 2660), (o + 5, 2500), (o + 6, 1380), (o + 7, 156), (o + 8, 2741), (o + 9, 2742), (o + 10, 268), (o + 11, 300), (o + 12, 308), (o + 13, 308), (o + 14, 900), (o + 15, 300), (o + 16, 132), (o + 17, 420)]
def UNI : List (Int × Nat) := (0, 17) :: (uFarm 128 ++ (uFarm 256 ++ ([(1, 11), (2, 357), (3, 136)] ++ (uText 48 ++ (uText 16 ++ (uText 24 ++ (uText 32 ++ (uText 40 ++ ([(80, 15), (81, 2500)] ++ (uText 82 ++ ([(10, 12), (11, 156), (12, 2500), (13, 14), (14, 300)] ++ (uLand 64 ++ uModel 400))))))))))))
theorem UNI_nd : (UNI.map (fun q => q.1)).Nodup := by decide +kernel
theorem UNI_lt : ∀ q ∈ UNI, 0 ≤ q.1 ∧ q.1 < 500 := by decide +kernel
theorem UNI_kind : ∀ q ∈ UNI, (10 ≤ q.2 ∧ q.2 < 19) ∨ (100 ≤ q.2 ∧ (q.2 - 100) % 8 < 5 ∧ (q.2 - 100) / 8 < 3000) := by decide +kernel
theorem UNI_fld : ∀ q ∈ UNI, q.2 < 19 → ∀ k, k < CN (q.2 - 10) → 10 ≤ FT (q.2 - 10) k → (q.1 + OF (q.2 - 10) k, FT (q.2 - 10) k) ∈ UNI := by decide +kernel
theorem UNI_arr3 : ∀ q ∈ UNI, aty q.2 = 3 → ∀ i, i < (q.2 - 100) / 8 → (PA 3 q.1 (i : Nat), 13) ∈ UNI := by decide +kernel
theorem UNI_arr4 : ∀ q ∈ UNI, aty q.2 = 4 → ∀ i, i < (q.2 - 100) / 8 → (PA 4 q.1 (i : Nat), 16) ∈ UNI := by decide +kernel
theorem UNI_eq {o : Int} {t t' : Nat} (h : (o, t) ∈ UNI) (h' : (o, t') ∈ UNI) : t = t' := by
  obtain ⟨i, hi⟩ := List.getElem?_of_mem h
  obtain ⟨j, hj⟩ := List.getElem?_of_mem h'
  have e1 : (UNI.map (fun q => q.1))[i]? = some o := by rw [List.getElem?_map, hi]; rfl
  have e2 : (UNI.map (fun q => q.1))[j]? = some o := by rw [List.getElem?_map, hj]; rfl
  have hl : i < (UNI.map (fun q => q.1)).length := (List.getElem?_eq_some_iff.mp e1).1
  have e : i = j := (List.getElem?_inj hl UNI_nd).mp (e1.trans e2.symm)
  subst e
  rw [hi] at hj
  cases hj
  rfl
/-- a field's value -/
def fv (ad : Int → Nat) (m : Mm) (o : Int) (c k : Nat) : Value := if FT c k = 1 then .long (Int64.ofInt (m o k)) else if FT c k = 0 ∨ FT c k = 2 then .int (Int32.ofInt (m o k)) else .ref (ad (o + OF c k))
def cellOf (ad : Int → Nat) (G : Nat → ClassId) (m : Mm) (q : Int × Nat) : va_E :=
  if q.2 < 100 then .inr (q.2 - 10, (List.range (CN (q.2 - 10))).map (fv ad m q.1 (q.2 - 10)))
  else if aty q.2 = 1 then .inl (G 1, (q.2 - 100) / 8, .inr (.inl (fun j => Int64.ofInt (m q.1 (j : Nat)))))
  else if aty q.2 = 3 then .inl (G 3, (q.2 - 100) / 8, .inr (.inr (.inr (.inr (fun j => some (ad (PA 3 q.1 (j : Nat))))))))
  else if aty q.2 = 4 then .inl (G 4, (q.2 - 100) / 8, .inr (.inr (.inr (.inr (fun j => some (ad (PA 4 q.1 (j : Nat))))))))
  else .inl (G (aty q.2), (q.2 - 100) / 8, .inl (fun j => Int32.ofInt (m q.1 (j : Nat))))
def WS (ad : Int → Nat) (G : Nat → ClassId) (m : Mm) : va_W := UNI.map (fun q => (ad q.1, cellOf ad G m q))
def TYS (G : Nat → ClassId) : List (ClassId × FieldType) := [(G 0, .int), (G 1, .long), (G 2, .boolean), (G 3, .object RX3), (G 4, .object RX7)]
theorem WS_at {ad : Int → Nat} {G : Nat → ClassId} {m : Mm} {q : Int × Nat} (h : q ∈ UNI) : ∃ j : Nat, UNI[j]? = some q ∧ (WS ad G m)[j]? = some (ad q.1, cellOf ad G m q) := by
  obtain ⟨j, hj⟩ := List.getElem?_of_mem h
  exact ⟨j, hj, by rw [WS, List.getElem?_map, hj]; rfl⟩
theorem cellOf_other {ad : Int → Nat} {G : Nat → ClassId} {m m' : Mm} {q : Int × Nat} (h : ∀ k, m' q.1 k = m q.1 k) : cellOf ad G m' q = cellOf ad G m q := by
  have e : fv ad m' q.1 = fv ad m q.1 := by funext c k; simp only [fv, h]
  simp only [cellOf, e, h]
theorem WS_set {ad : Int → Nat} {G : Nat → ClassId} {m m' : Mm} {q : Int × Nat} {j : Nat} (hj : UNI[j]? = some q) (h : ∀ a b, a ≠ q.1 → m' a b = m a b) : (WS ad G m).set j (ad q.1, cellOf ad G m' q) = WS ad G m' := by
  apply List.ext_getElem?
  intro i
  by_cases e : i = j
  · subst e
    have hl : i < (WS ad G m).length := by rw [WS, List.length_map]; exact (List.getElem?_eq_some_iff.mp hj).1
    rw [List.getElem?_set_self hl, WS, List.getElem?_map, hj]
    rfl
  · rw [List.getElem?_set_ne (fun z => e z.symm), WS, WS, List.getElem?_map, List.getElem?_map]
    cases hi : UNI[i]? with
    | none => rfl
    | some q' =>
      have hne : q'.1 ≠ q.1 := by
        intro z
        have e1 : (UNI.map (fun q => q.1))[i]? = some q.1 := by rw [List.getElem?_map, hi]; simp [z]
        have e2 : (UNI.map (fun q => q.1))[j]? = some q.1 := by rw [List.getElem?_map, hj]; rfl
        have hl : i < (UNI.map (fun q => q.1)).length := (List.getElem?_eq_some_iff.mp e1).1
        exact e ((List.getElem?_inj hl UNI_nd).mp (e1.trans e2.symm))
      simp only [Option.map_some]
      rw [cellOf_other (fun k => h _ k hne)]
theorem up_ne {m : Mm} {o k v a b : Int} (h : a ≠ o) : up m o k v a b = m a b := by simp [up, h]
theorem up_same {m : Mm} {o k v : Int} : up m o k v o k = v := by simp [up]
theorem up_nk {m : Mm} {o k v a b : Int} (h : b ≠ k) : up m o k v a b = m a b := by simp [up, h]
/-- a field is written -/
theorem cell_fld {ad : Int → Nat} {G : Nat → ClassId} {m : Mm} {o v : Int} {t k : Nat} (ht : t < 100) (hk : k < CN (t - 10)) {w : Value} (hw : fv ad (up m o k v) o (t - 10) k = w) :
    cellOf ad G (up m o k v) (o, t) = .inr (t - 10, ((List.range (CN (t - 10))).map (fv ad m o (t - 10))).set k w) := by
  simp only [cellOf, if_pos ht]
  congr 2
  apply List.ext_getElem?
  intro i
  by_cases e : i = k
  · subst e
    rw [List.getElem?_set_self (by simp; exact hk), List.getElem?_map, List.getElem?_range hk]
    simp [hw]
  · rw [List.getElem?_set_ne (fun z => e z.symm), List.getElem?_map, List.getElem?_map]
    cases hi : (List.range (CN (t - 10)))[i]? with
    | none => rfl
    | some j =>
      have hj : j = i := by
        have h2 := List.getElem?_eq_some_iff.mp hi
        obtain ⟨h3, h4⟩ := h2
        simp at h4
        omega
      subst hj
      have hne : ((j : Nat) : Int) ≠ (k : Nat) := by omega
      simp only [Option.map_some, fv, up_nk hne]
/-- an int array's cell is written -/
theorem cell_int {ad : Int → Nat} {G : Nat → ClassId} {m : Mm} {o v i : Int} {t : Nat} (ht : ¬ t < 100) (ha : aty t = 0 ∨ aty t = 2) (h0 : 0 ≤ i) :
    cellOf ad G (up m o i v) (o, t) = .inl (G (aty t), (t - 100) / 8, .inl (upd (fun j => Int32.ofInt (m o (j : Nat))) i.toNat (Int32.ofInt v))) := by
  have h1 : ¬ aty t = 1 := by omega
  have h3 : ¬ aty t = 3 := by omega
  have h4 : ¬ aty t = 4 := by omega
  simp only [cellOf, if_neg ht, if_neg h1, if_neg h3, if_neg h4]
  congr 4
  funext j
  by_cases e : j = i.toNat
  · subst e
    simp [upd, up, Int.toNat_of_nonneg h0]
  · have : ¬ ((j : Nat) : Int) = i := by omega
    simp [upd, up, e, this]
theorem cell_long {ad : Int → Nat} {G : Nat → ClassId} {m : Mm} {o v i : Int} {t : Nat} (ht : ¬ t < 100) (ha : aty t = 1) (h0 : 0 ≤ i) :
    cellOf ad G (up m o i v) (o, t) = .inl (G 1, (t - 100) / 8, .inr (.inl (vp_updL (fun j => Int64.ofInt (m o (j : Nat))) i.toNat (Int64.ofInt v)))) := by
  simp only [cellOf, if_neg ht, if_pos ha]
  congr 5
  funext j
  by_cases e : j = i.toNat
  · subst e
    simp [vp_updL, up, Int.toNat_of_nonneg h0]
  · have : ¬ ((j : Nat) : Int) = i := by omega
    simp [vp_updL, up, e, this]
theorem cell_ia {ad : Int → Nat} {G : Nat → ClassId} {m : Mm} {o : Int} {t : Nat} (ht : ¬ t < 100) (ha : aty t = 0 ∨ aty t = 2) : cellOf ad G m (o, t) = .inl (G (aty t), (t - 100) / 8, .inl (fun j => Int32.ofInt (m o (j : Nat)))) := by
  have h1 : ¬ aty t = 1 := by omega
  have h3 : ¬ aty t = 3 := by omega
  have h4 : ¬ aty t = 4 := by omega
  simp only [cellOf, if_neg ht, if_neg h1, if_neg h3, if_neg h4]
theorem cell_la {ad : Int → Nat} {G : Nat → ClassId} {m : Mm} {o : Int} {t : Nat} (ht : ¬ t < 100) (ha : aty t = 1) : cellOf ad G m (o, t) = .inl (G 1, (t - 100) / 8, .inr (.inl (fun j => Int64.ofInt (m o (j : Nat))))) := by
  simp only [cellOf, if_neg ht, if_pos ha]
theorem cell_ra {ad : Int → Nat} {G : Nat → ClassId} {m : Mm} {o : Int} {t : Nat} (ht : ¬ t < 100) (ha : aty t = 3 ∨ aty t = 4) : cellOf ad G m (o, t) = .inl (G (aty t), (t - 100) / 8, .inr (.inr (.inr (.inr (fun j => some (ad (PA (aty t) o (j : Nat)))))))) := by
  have h1 : ¬ aty t = 1 := by omega
  rcases ha with ha | ha
  · simp [cellOf, ht, ha]
  · have h3 : ¬ aty t = 3 := by omega
    simp [cellOf, ht, ha]
theorem cell_ob {ad : Int → Nat} {G : Nat → ClassId} {m : Mm} {o : Int} {t : Nat} (ht : t < 100) : cellOf ad G m (o, t) = .inr (t - 10, (List.range (CN (t - 10))).map (fv ad m o (t - 10))) := by
  simp only [cellOf, if_pos ht]
/-- what may lie in a cell -/
def sOk (t k : Nat) (v : Int) : Prop := if (t < 100 ∧ FT (t - 10) k = 1) ∨ aty t = 1 then in64 v else in32 v
def Mok (m : Mm) : Prop := ∀ q ∈ UNI, ∀ k : Nat, sOk q.2 k (m q.1 k)
/-- what a value may be -/
def Vok (v : Vv) : Prop := if v.1 = 0 then in32 v.2 else if v.1 = 1 then in64 v.2 else if v.1 = 9 ∨ v.1 = 50 ∨ v.1 = 51 ∨ v.1 = 52 ∨ v.1 = 53 then True else (v.2, v.1) ∈ UNI
def cv (ad : Int → Nat) (v : Vv) : Value := if v.1 = 0 then .int (Int32.ofInt v.2) else if v.1 = 1 then .long (Int64.ofInt v.2) else if v.1 = 50 then .ref (ad 500) else if v.1 = 51 then .ref (ad 501) else if v.1 = 52 then .ref (ad 502) else if v.1 = 53 then .ref (ad 503) else .ref (ad v.2)
theorem cv_i (ad : Int → Nat) (x : Int) : cv ad (0, x) = .int (Int32.ofInt x) := rfl
theorem cv_l (ad : Int → Nat) (x : Int) : cv ad (1, x) = .long (Int64.ofInt x) := rfl
theorem cv_r (ad : Int → Nat) (t : Nat) (x : Int) (h : 2 ≤ t) : ∃ a, cv ad (t, x) = .ref a := by
  have h0 : ¬ t = 0 := by omega
  have h1 : ¬ t = 1 := by omega
  simp only [cv, if_neg h0, if_neg h1]
  split <;> (try split) <;> (try split) <;> (try split) <;> exact ⟨_, rfl⟩
theorem cv_o (ad : Int → Nat) {t : Nat} (x : Int) (h : (x, t) ∈ UNI) : cv ad (t, x) = .ref (ad x) := by
  have hk := UNI_kind _ h
  simp only at hk
  have h0 : ¬ t = 0 := by omega
  have h1 : ¬ t = 1 := by omega
  have h2 : ¬ t = 50 := by omega
  have h3 : ¬ t = 51 := by omega
  have h4 : ¬ t = 52 := by omega
  have h5 : ¬ t = 53 := by omega
  simp only [cv, if_neg h0, if_neg h1, if_neg h2, if_neg h3, if_neg h4, if_neg h5]
theorem cv_cat (ad : Int → Nat) (v : Vv) : (cv ad v).category = catV v := by
  obtain ⟨t, x⟩ := v
  unfold catV cv
  simp only
  by_cases h0 : t = 0
  · subst h0; rfl
  · by_cases h1 : t = 1
    · subst h1; rfl
    · simp only [if_neg h0, if_neg h1]
      split <;> (try split) <;> (try split) <;> (try split) <;> rfl
theorem Vok_i {x : Int} : Vok (0, x) ↔ in32 x := Iff.rfl
theorem Vok_l {x : Int} : Vok (1, x) ↔ in64 x := Iff.rfl
theorem Vok_o {t : Nat} {x : Int} (h : (x, t) ∈ UNI) : Vok (t, x) := by
  have hk := UNI_kind _ h
  simp only at hk
  have h0 : ¬ t = 0 := by omega
  have h1 : ¬ t = 1 := by omega
  have h2 : ¬ (t = 9 ∨ t = 50 ∨ t = 51 ∨ t = 52 ∨ t = 53) := by omega
  simp only [Vok, if_neg h0, if_neg h1, if_neg h2]
  exact h
theorem Vok_ob {t : Nat} {x : Int} (h : Vok (t, x)) (ht : (10 ≤ t ∧ t < 19) ∨ 100 ≤ t) : (x, t) ∈ UNI := by
  have h0 : ¬ t = 0 := by omega
  have h1 : ¬ t = 1 := by omega
  have h2 : ¬ (t = 9 ∨ t = 50 ∨ t = 51 ∨ t = 52 ∨ t = 53) := by omega
  simpa only [Vok, if_neg h0, if_neg h1, if_neg h2] using h
theorem Mok_up {m : Mm} {o v : Int} {t k : Nat} (h : Mok m) (ho : (o, t) ∈ UNI) (hv : sOk t k v) : Mok (up m o k v) := by
  intro q hq j
  by_cases e : q.1 = o ∧ j = k
  · obtain ⟨e1, e2⟩ := e
    obtain ⟨a, b⟩ := q
    simp only at e1
    subst e1; subst e2
    have : b = t := UNI_eq hq ho
    subst this
    rw [up_same]
    exact hv
  · have : up m o k v q.1 j = m q.1 j := by
      unfold up
      rw [if_neg]
      intro z
      exact e ⟨z.1, by omega⟩
    rw [this]
    exact h q hq j
end
section
/-! ONE ROW AN INSTRUCTION: from the machine's row to the number machine's step -/
def WT : List Cond := lw_tbl.filter goodWord
theorem WT_in {w : Cond} (h : w ∈ lw_tbl) (g : goodWord w = true) : w ∈ WT := List.mem_filter.mpr ⟨h, g⟩
def LENS : List Nat := [125, 11]
def BYTS : List (List Int32) := [WORDSL.map Int32.ofInt, SIGNSL.map Int32.ofInt]
def TXW : String := "frosts goes cow gate plant cut press go hour cell around all number who way turn by far of hedge if then else end or and not "
def TXS : String := "<>=#+-*/();"
/-- what is there from the start, and never written: the texts, the static row, the script, the words of the nest -/
def Sc (NW : List Cond) (ad : Int → Nat) (A : Nat → Prop) (s : State) (H : Heap) (m : Mm) : Prop :=
  (∃ (Ls : Nat) (xs : Nat → Int32), va_X (ad 500) Ls xs s H ∧ ad 500 < H.size ∧ ¬ A (ad 500) ∧ m 500 (-1) = (Ls : Int) ∧ Ls < 2 ^ 31 ∧ ∀ j : Nat, j < Ls → m 500 (j : Int) = (xs j).toInt) ∧
  (∃ xs : Nat → Int32, va_X (ad 501) 4 xs s H ∧ ad 501 < H.size ∧ ¬ A (ad 501) ∧ ∀ j : Nat, j < 4 → m 501 (j : Int) = (xs j).toInt) ∧
  va_Z RX8 "TRIED" "[I" (.ref (ad 501)) A s H ∧
  (∃ adV : Nat → Nat, vk_S 2 LENS BYTS (fun i => ad (502 + (i : Int))) adV A s H) ∧ vk_R RX6 166 TXW (ad 502) s ∧ vk_R RX6 182 TXS (ad 503) s ∧
  va_Z "java/lang/String" "COMPACT_STRINGS" "Z" (.int 1) A s H ∧ va_Zq "jdk/internal/util/Preconditions" "SIOOBE_FORMATTER" "Ljava/util/function/BiFunction;" A s H ∧
  ∀ w ∈ NW, va_Nw w s
def LH (ad : Int → Nat) (ls : Array Slot) (nL : Nat) (L : List Vv) : Prop := L.length = nL ∧ ls.size = nL ∧ lv_wf ls ∧ ∀ (i : Nat) (v : Vv), L[i]? = some v → v.1 ≠ 9 → ls[i]? = some (.val (cv ad v))
/-- the listed locals, for the kit's rows -/
def lvl (ad : Int → Nat) (L : List Vv) : List (Nat × Value) := (List.range L.length).filterMap (fun i => match L[i]? with
  | some v => if v.1 = 9 then none else some (i, cv ad v)
  | none => none)
theorem lvl_in {ad : Int → Nat} {L : List Vv} {i : Nat} {v : Vv} (h : L[i]? = some v) (h9 : v.1 ≠ 9) : (i, cv ad v) ∈ lvl ad L := by
  refine List.mem_filterMap.mpr ⟨i, List.mem_range.mpr (List.getElem?_eq_some_iff.mp h).1, ?_⟩
  simp [h, h9]
theorem lvl_of {ad : Int → Nat} {L : List Vv} {q : Nat × Value} (h : q ∈ lvl ad L) : ∃ v : Vv, L[q.1]? = some v ∧ v.1 ≠ 9 ∧ q.2 = cv ad v := by
  obtain ⟨i, -, hi⟩ := List.mem_filterMap.mp h
  cases hv : L[i]? with
  | none => simp [hv] at hi
  | some v =>
    by_cases h9 : v.1 = 9
    · simp [hv, h9] at hi
    · simp [hv, h9] at hi
      subst hi
      exact ⟨v, hv, h9, rfl⟩
theorem LH_has {ad : Int → Nat} {ls : Array Slot} {nL : Nat} {L : List Vv} (h : LH ad ls nL L) : lv_has ls nL (lvl ad L) := ⟨h.2.1, h.2.2.1, fun q hq => by
  obtain ⟨v, h1, h2, h3⟩ := lvl_of hq
  rw [h3]
  exact h.2.2.2 _ _ h1 h2⟩
theorem cut1_get {L : List Vv} {i j : Nat} {w : Vv} (h : (cut1 L i)[j]? = some w) (h9 : w.1 ≠ 9) : L[j]? = some w ∧ ¬ (j + 1 = i ∧ w.1 = 1) := by
  cases i with
  | zero => exact ⟨h, fun z => by omega⟩
  | succ k =>
    cases hk : L[k]? with
    | none =>
      have e0 : cut1 L (k + 1) = L := by simp [cut1, hk]
      rw [e0] at h
      refine ⟨h, fun z => ?_⟩
      obtain rfl : j = k := by omega
      rw [hk] at h
      cases h
    | some v =>
      obtain ⟨t, x⟩ := v
      by_cases h1 : t = 1
      · subst h1
        have e0 : cut1 L (k + 1) = L.set k (9, 0) := by simp [cut1, hk]
        rw [e0] at h
        by_cases hj : j = k
        · subst hj
          have hl : j < L.length := (List.getElem?_eq_some_iff.mp hk).1
          rw [List.getElem?_set_self hl] at h
          cases h
          exact absurd rfl h9
        · rw [List.getElem?_set_ne (fun z => hj z.symm)] at h
          exact ⟨h, fun z => hj (by omega)⟩
      · have e0 : cut1 L (k + 1) = L := by
          simp only [cut1, hk]
          split
          · rename_i heq
            cases heq
            exact absurd rfl h1
          · rfl
        rw [e0] at h
        refine ⟨h, fun z => ?_⟩
        obtain rfl : j = k := by omega
        rw [hk] at h
        cases h
        exact h1 z.2
theorem cut1_len (L : List Vv) (i : Nat) : (cut1 L i).length = L.length := by
  unfold cut1
  split
  · rfl
  · split <;> simp
theorem LH_sto1 {ad : Int → Nat} {ls : Array Slot} {nL i : Nat} {L : List Vv} {v : Vv} (hL : L.length = nL) (h : lv_has ls nL ((i, cv ad v) :: (lvl ad L).filter (fun q => !(q.1 == i) && !(q.1 + 1 == i && q.2.category == 2)))) : LH ad ls nL (sto1 L i v) := by
  refine ⟨by unfold sto1; rw [List.length_set, cut1_len]; exact hL, h.1, h.2.1, fun j w hj h9 => ?_⟩
  unfold sto1 at hj
  by_cases e : j = i
  · subst e
    by_cases hl : j < (cut1 L j).length
    · rw [List.getElem?_set_self hl] at hj
      cases hj
      exact h.2.2 _ List.mem_cons_self
    · rw [List.getElem?_eq_none (by rw [List.length_set]; omega)] at hj
      cases hj
  · rw [List.getElem?_set_ne (fun z => e z.symm)] at hj
    obtain ⟨h1, h2⟩ := cut1_get hj h9
    refine h.2.2 (j, cv ad w) (List.mem_cons_of_mem _ (List.mem_filter.mpr ⟨lvl_in h1 h9, ?_⟩))
    have e2 : (cv ad w).category = catV w := cv_cat ad w
    simp only [Bool.and_eq_true, Bool.not_eq_true', beq_eq_false_iff_ne, ne_eq, Bool.and_eq_false_iff, e2]
    refine ⟨e, ?_⟩
    by_cases hz : j + 1 = i
    · right
      unfold catV
      rw [if_neg (fun q => h2 ⟨hz, q⟩)]
      decide
    · exact Or.inl hz
theorem LH_sto2 {ad : Int → Nat} {ls : Array Slot} {nL i : Nat} {L : List Vv} {v : Vv} (hL : L.length = nL) (h : lv_has ls nL ((i, cv ad v) :: (lvl ad L).filter (fun q => !(q.1 == i) && (!(q.1 == i + 1) && !(q.1 + 1 == i && q.2.category == 2))))) : LH ad ls nL (sto2 L i v) := by
  refine ⟨by unfold sto2; rw [List.length_set, List.length_set, cut1_len]; exact hL, h.1, h.2.1, fun j w hj h9 => ?_⟩
  unfold sto2 at hj
  by_cases e1 : j = i + 1
  · subst e1
    by_cases hl : i + 1 < ((cut1 L i).set i v).length
    · rw [List.getElem?_set_self hl] at hj
      cases hj
      exact absurd rfl h9
    · rw [List.getElem?_eq_none (by rw [List.length_set]; omega)] at hj
      cases hj
  · rw [List.getElem?_set_ne (fun z => e1 z.symm)] at hj
    by_cases e : j = i
    · subst e
      by_cases hl : j < (cut1 L j).length
      · rw [List.getElem?_set_self hl] at hj
        cases hj
        exact h.2.2 _ List.mem_cons_self
      · rw [List.getElem?_eq_none (by rw [List.length_set]; omega)] at hj
        cases hj
    · rw [List.getElem?_set_ne (fun z => e z.symm)] at hj
      obtain ⟨h1, h2⟩ := cut1_get hj h9
      refine h.2.2 (j, cv ad w) (List.mem_cons_of_mem _ (List.mem_filter.mpr ⟨lvl_in h1 h9, ?_⟩))
      have e2 : (cv ad w).category = catV w := cv_cat ad w
      simp only [Bool.and_eq_true, Bool.not_eq_true', beq_eq_false_iff_ne, ne_eq, Bool.and_eq_false_iff, e2]
      refine ⟨e, e1, ?_⟩
      by_cases hz : j + 1 = i
      · right
        unfold catV
        rw [if_neg (fun q => h2 ⟨hz, q⟩)]
        decide
      · exact Or.inl hz
/-- from every heap and every locals that hold the numbers, the machine comes to Q -/
def Go (p : Program) (l : Launch) (e : Env) (R : Room) (s : State) (mid : MethodId) (args : Array Value) (below : List Frame) (meth : Method) (c : Code) (Q : State → Prop) (ad : Int → Nat) (G : Nat → ClassId) (D : va_G) (A : Nat → Prop) (nL cells slots : Nat) (bp : Nat) (L st : List Vv) (m : Mm) : Prop :=
  ∀ (H : Heap) (locs : List Loc) (ls : Array Slot), va_P D vwCl (WS ad G m) H → va_D A (WS ad G m) → va_S A s.heap H locs → LH ad ls nL L → W p l e R s mid args below meth c H locs cells slots Q (F0 mid bp ls (st.map (cv ad)))
/-- what a method's frame stands on -/
def CX (NW : List Cond) (p : Program) (R : Room) (s : State) (mid : MethodId) (args : Array Value) (c : Code) (own : String) (cc : ByteArray) (ad : Int → Nat) (G : Nat → ClassId) (D : va_G) (A : Nat → Prop) (nL : Nat) : Prop :=
  p.tables.exec = Jvm.exec ∧ c.code = cc ∧ c.maxLocals = nL ∧ s.vm.findClass own = some mid.cls ∧ (∀ w ∈ WT, w.before args s = true) ∧ va_K D vwCl (TYS G) s ∧ (∀ q : Nat, s.heap.size ≤ q → A q) ∧ 1 ≤ R.frames ∧ 64 ≤ R.locals ∧ (∀ w ∈ NW, va_Nw w s)
section STEPS
variable {NW : List Cond} {p : Program} {l : Launch} {e : Env} {R : Room} {s : State} {mid : MethodId} {args : Array Value} {below : List Frame} {meth : Method} {c : Code} {Q : State → Prop} {ad : Int → Nat} {G : Nat → ClassId} {D : va_G} {A : Nat → Prop} {nL cells slots : Nat} {own : String} {cc : ByteArray} {bp : Nat} {L r : List Vv} {m : Mm}

theorem go_iadd (K : CX NW p R s mid args c own cc ad G D A nL) {a b : Int} (hd : decode cc bp = .ok (.iadd, 1)) (k : Go p l e R s mid args below meth c Q ad G D A nL cells slots (bp + 1) L ((0, w32 (a + b)) :: r) m) : Go p l e R s mid args below meth c Q ad G D A nL cells slots bp L ((0, b) :: (0, a) :: r) m := by
  intro H locs ls hP hD hS hL
  have h := k H locs ls hP hD hS hL
  show W p l e R s mid args below meth c H locs cells slots Q (F0 mid bp ls (.int (Int32.ofInt b) :: .int (Int32.ofInt a) :: r.map (cv ad)))
  have e9 : cv ad (0, w32 (a + b)) = .int (Int32.ofInt a + Int32.ofInt b) := by rw [cv_i]; rw [o32_w, Int32.ofInt_add]
  rw [List.map_cons, e9] at h
  exact lv_iadd K.1 K.2.1 hd h
theorem go_isub (K : CX NW p R s mid args c own cc ad G D A nL) {a b : Int} (hd : decode cc bp = .ok (.isub, 1)) (k : Go p l e R s mid args below meth c Q ad G D A nL cells slots (bp + 1) L ((0, w32 (a - b)) :: r) m) : Go p l e R s mid args below meth c Q ad G D A nL cells slots bp L ((0, b) :: (0, a) :: r) m := by
  intro H locs ls hP hD hS hL
  have h := k H locs ls hP hD hS hL
  show W p l e R s mid args below meth c H locs cells slots Q (F0 mid bp ls (.int (Int32.ofInt b) :: .int (Int32.ofInt a) :: r.map (cv ad)))
  have e9 : cv ad (0, w32 (a - b)) = .int (Int32.ofInt a - Int32.ofInt b) := by rw [cv_i]; rw [o32_w, Int32.ofInt_sub]
  rw [List.map_cons, e9] at h
  exact lv_isub K.1 K.2.1 hd h
theorem go_imul (K : CX NW p R s mid args c own cc ad G D A nL) {a b : Int} (hd : decode cc bp = .ok (.imul, 1)) (k : Go p l e R s mid args below meth c Q ad G D A nL cells slots (bp + 1) L ((0, w32 (a * b)) :: r) m) : Go p l e R s mid args below meth c Q ad G D A nL cells slots bp L ((0, b) :: (0, a) :: r) m := by
  intro H locs ls hP hD hS hL
  have h := k H locs ls hP hD hS hL
  show W p l e R s mid args below meth c H locs cells slots Q (F0 mid bp ls (.int (Int32.ofInt b) :: .int (Int32.ofInt a) :: r.map (cv ad)))
  have e9 : cv ad (0, w32 (a * b)) = .int (Int32.ofInt a * Int32.ofInt b) := by rw [cv_i]; rw [o32_w, Int32.ofInt_mul]
  rw [List.map_cons, e9] at h
  exact lv_imul K.1 K.2.1 hd h
theorem go_iand (K : CX NW p R s mid args c own cc ad G D A nL) {a b : Int} (hd : decode cc bp = .ok (.iand, 1)) (k : Go p l e R s mid args below meth c Q ad G D A nL cells slots (bp + 1) L ((0, ian a b) :: r) m) : Go p l e R s mid args below meth c Q ad G D A nL cells slots bp L ((0, b) :: (0, a) :: r) m := by
  intro H locs ls hP hD hS hL
  have h := k H locs ls hP hD hS hL
  show W p l e R s mid args below meth c H locs cells slots Q (F0 mid bp ls (.int (Int32.ofInt b) :: .int (Int32.ofInt a) :: r.map (cv ad)))
  have e9 : cv ad (0, ian a b) = .int (Int32.ofInt a &&& Int32.ofInt b) := by rw [cv_i]; rw [ian, Int32.ofInt_toInt]
  rw [List.map_cons, e9] at h
  exact lv_iand K.1 K.2.1 hd h
theorem go_ior (K : CX NW p R s mid args c own cc ad G D A nL) {a b : Int} (hd : decode cc bp = .ok (.ior, 1)) (k : Go p l e R s mid args below meth c Q ad G D A nL cells slots (bp + 1) L ((0, iro a b) :: r) m) : Go p l e R s mid args below meth c Q ad G D A nL cells slots bp L ((0, b) :: (0, a) :: r) m := by
  intro H locs ls hP hD hS hL
  have h := k H locs ls hP hD hS hL
  show W p l e R s mid args below meth c H locs cells slots Q (F0 mid bp ls (.int (Int32.ofInt b) :: .int (Int32.ofInt a) :: r.map (cv ad)))
  have e9 : cv ad (0, iro a b) = .int (Int32.ofInt a ||| Int32.ofInt b) := by rw [cv_i]; rw [iro, Int32.ofInt_toInt]
  rw [List.map_cons, e9] at h
  exact lv_ior K.1 K.2.1 hd h
theorem go_ixor (K : CX NW p R s mid args c own cc ad G D A nL) {a b : Int} (hd : decode cc bp = .ok (.ixor, 1)) (k : Go p l e R s mid args below meth c Q ad G D A nL cells slots (bp + 1) L ((0, ixo a b) :: r) m) : Go p l e R s mid args below meth c Q ad G D A nL cells slots bp L ((0, b) :: (0, a) :: r) m := by
  intro H locs ls hP hD hS hL
  have h := k H locs ls hP hD hS hL
  show W p l e R s mid args below meth c H locs cells slots Q (F0 mid bp ls (.int (Int32.ofInt b) :: .int (Int32.ofInt a) :: r.map (cv ad)))
  have e9 : cv ad (0, ixo a b) = .int (Int32.ofInt a ^^^ Int32.ofInt b) := by rw [cv_i]; rw [ixo, Int32.ofInt_toInt]
  rw [List.map_cons, e9] at h
  exact lv_ixor K.1 K.2.1 hd h
theorem go_ishl (K : CX NW p R s mid args c own cc ad G D A nL) {a b : Int} (hd : decode cc bp = .ok (.ishl, 1)) (k : Go p l e R s mid args below meth c Q ad G D A nL cells slots (bp + 1) L ((0, isl a b) :: r) m) : Go p l e R s mid args below meth c Q ad G D A nL cells slots bp L ((0, b) :: (0, a) :: r) m := by
  intro H locs ls hP hD hS hL
  have h := k H locs ls hP hD hS hL
  show W p l e R s mid args below meth c H locs cells slots Q (F0 mid bp ls (.int (Int32.ofInt b) :: .int (Int32.ofInt a) :: r.map (cv ad)))
  have e9 : cv ad (0, isl a b) = .int (Int32.ofInt a <<< (Int32.ofInt b &&& 31)) := by rw [cv_i]; rw [isl, Int32.ofInt_toInt]
  rw [List.map_cons, e9] at h
  exact lv_ishl K.1 K.2.1 hd h
theorem go_ishr (K : CX NW p R s mid args c own cc ad G D A nL) {a b : Int} (hd : decode cc bp = .ok (.ishr, 1)) (k : Go p l e R s mid args below meth c Q ad G D A nL cells slots (bp + 1) L ((0, isr a b) :: r) m) : Go p l e R s mid args below meth c Q ad G D A nL cells slots bp L ((0, b) :: (0, a) :: r) m := by
  intro H locs ls hP hD hS hL
  have h := k H locs ls hP hD hS hL
  show W p l e R s mid args below meth c H locs cells slots Q (F0 mid bp ls (.int (Int32.ofInt b) :: .int (Int32.ofInt a) :: r.map (cv ad)))
  have e9 : cv ad (0, isr a b) = .int (Int32.ofInt a >>> (Int32.ofInt b &&& 31)) := by rw [cv_i]; rw [isr, Int32.ofInt_toInt]
  rw [List.map_cons, e9] at h
  exact lv_ishr K.1 K.2.1 hd h
theorem go_iushr (K : CX NW p R s mid args c own cc ad G D A nL) {a b : Int} (hd : decode cc bp = .ok (.iushr, 1)) (k : Go p l e R s mid args below meth c Q ad G D A nL cells slots (bp + 1) L ((0, ius a b) :: r) m) : Go p l e R s mid args below meth c Q ad G D A nL cells slots bp L ((0, b) :: (0, a) :: r) m := by
  intro H locs ls hP hD hS hL
  have h := k H locs ls hP hD hS hL
  show W p l e R s mid args below meth c H locs cells slots Q (F0 mid bp ls (.int (Int32.ofInt b) :: .int (Int32.ofInt a) :: r.map (cv ad)))
  have e9 : cv ad (0, ius a b) = .int (Int32.ofInt (ius a b)) := by rw [cv_i]
  rw [List.map_cons, e9] at h
  exact lv_iushr K.1 K.2.1 hd (by rw [ius, Int32.ofInt_toInt]) h
theorem go_idiv (K : CX NW p R s mid args c own cc ad G D A nL) {a b : Int} (hb : in32 b) (hne : b ≠ 0) (hd : decode cc bp = .ok (.idiv, 1)) (k : Go p l e R s mid args below meth c Q ad G D A nL cells slots (bp + 1) L ((0, idv a b) :: r) m) : Go p l e R s mid args below meth c Q ad G D A nL cells slots bp L ((0, b) :: (0, a) :: r) m := by
  intro H locs ls hP hD hS hL
  have h := k H locs ls hP hD hS hL
  show W p l e R s mid args below meth c H locs cells slots Q (F0 mid bp ls (.int (Int32.ofInt b) :: .int (Int32.ofInt a) :: r.map (cv ad)))
  have e9 : cv ad (0, idv a b) = .int (Int32.ofInt a / Int32.ofInt b) := by rw [cv_i]; rw [idv, Int32.ofInt_toInt]
  rw [List.map_cons, e9] at h
  exact lv_idiv K.1 K.2.1 hd (fun z => hne ((o32_eq hb in32_lit0).mp (by rw [z]; rfl))) h
theorem go_irem (K : CX NW p R s mid args c own cc ad G D A nL) {a b : Int} (hb : in32 b) (hne : b ≠ 0) (hd : decode cc bp = .ok (.irem, 1)) (k : Go p l e R s mid args below meth c Q ad G D A nL cells slots (bp + 1) L ((0, irm a b) :: r) m) : Go p l e R s mid args below meth c Q ad G D A nL cells slots bp L ((0, b) :: (0, a) :: r) m := by
  intro H locs ls hP hD hS hL
  have h := k H locs ls hP hD hS hL
  show W p l e R s mid args below meth c H locs cells slots Q (F0 mid bp ls (.int (Int32.ofInt b) :: .int (Int32.ofInt a) :: r.map (cv ad)))
  have e9 : cv ad (0, irm a b) = .int (Int32.ofInt a - Int32.ofInt a / Int32.ofInt b * Int32.ofInt b) := by rw [cv_i]; rw [irm, Int32.ofInt_toInt]
  rw [List.map_cons, e9] at h
  exact lv_irem K.1 K.2.1 hd (fun z => hne ((o32_eq hb in32_lit0).mp (by rw [z]; rfl))) h
theorem go_ladd (K : CX NW p R s mid args c own cc ad G D A nL) {a b : Int} (hd : decode cc bp = .ok (.ladd, 1)) (k : Go p l e R s mid args below meth c Q ad G D A nL cells slots (bp + 1) L ((1, w64 (a + b)) :: r) m) : Go p l e R s mid args below meth c Q ad G D A nL cells slots bp L ((1, b) :: (1, a) :: r) m := by
  intro H locs ls hP hD hS hL
  have h := k H locs ls hP hD hS hL
  show W p l e R s mid args below meth c H locs cells slots Q (F0 mid bp ls (.long (Int64.ofInt b) :: .long (Int64.ofInt a) :: r.map (cv ad)))
  have e9 : cv ad (1, w64 (a + b)) = .long (Int64.ofInt a + Int64.ofInt b) := by rw [cv_l]; rw [o64_w, Int64.ofInt_add]
  rw [List.map_cons, e9] at h
  exact lv_ladd K.1 K.2.1 hd h
theorem go_lsub (K : CX NW p R s mid args c own cc ad G D A nL) {a b : Int} (hd : decode cc bp = .ok (.lsub, 1)) (k : Go p l e R s mid args below meth c Q ad G D A nL cells slots (bp + 1) L ((1, w64 (a - b)) :: r) m) : Go p l e R s mid args below meth c Q ad G D A nL cells slots bp L ((1, b) :: (1, a) :: r) m := by
  intro H locs ls hP hD hS hL
  have h := k H locs ls hP hD hS hL
  show W p l e R s mid args below meth c H locs cells slots Q (F0 mid bp ls (.long (Int64.ofInt b) :: .long (Int64.ofInt a) :: r.map (cv ad)))
  have e9 : cv ad (1, w64 (a - b)) = .long (Int64.ofInt a - Int64.ofInt b) := by rw [cv_l]; rw [o64_w, Int64.ofInt_sub]
  rw [List.map_cons, e9] at h
  exact lv_lsub K.1 K.2.1 hd h
theorem go_lmul (K : CX NW p R s mid args c own cc ad G D A nL) {a b : Int} (hd : decode cc bp = .ok (.lmul, 1)) (k : Go p l e R s mid args below meth c Q ad G D A nL cells slots (bp + 1) L ((1, w64 (a * b)) :: r) m) : Go p l e R s mid args below meth c Q ad G D A nL cells slots bp L ((1, b) :: (1, a) :: r) m := by
  intro H locs ls hP hD hS hL
  have h := k H locs ls hP hD hS hL
  show W p l e R s mid args below meth c H locs cells slots Q (F0 mid bp ls (.long (Int64.ofInt b) :: .long (Int64.ofInt a) :: r.map (cv ad)))
  have e9 : cv ad (1, w64 (a * b)) = .long (Int64.ofInt a * Int64.ofInt b) := by rw [cv_l]; rw [o64_w, Int64.ofInt_mul]
  rw [List.map_cons, e9] at h
  exact lv_lmul K.1 K.2.1 hd h
theorem go_land (K : CX NW p R s mid args c own cc ad G D A nL) {a b : Int} (hd : decode cc bp = .ok (.land, 1)) (k : Go p l e R s mid args below meth c Q ad G D A nL cells slots (bp + 1) L ((1, lan a b) :: r) m) : Go p l e R s mid args below meth c Q ad G D A nL cells slots bp L ((1, b) :: (1, a) :: r) m := by
  intro H locs ls hP hD hS hL
  have h := k H locs ls hP hD hS hL
  show W p l e R s mid args below meth c H locs cells slots Q (F0 mid bp ls (.long (Int64.ofInt b) :: .long (Int64.ofInt a) :: r.map (cv ad)))
  have e9 : cv ad (1, lan a b) = .long (Int64.ofInt a &&& Int64.ofInt b) := by rw [cv_l]; rw [lan, Int64.ofInt_toInt]
  rw [List.map_cons, e9] at h
  exact lv_land K.1 K.2.1 hd h
theorem go_lor (K : CX NW p R s mid args c own cc ad G D A nL) {a b : Int} (hd : decode cc bp = .ok (.lor, 1)) (k : Go p l e R s mid args below meth c Q ad G D A nL cells slots (bp + 1) L ((1, lro a b) :: r) m) : Go p l e R s mid args below meth c Q ad G D A nL cells slots bp L ((1, b) :: (1, a) :: r) m := by
  intro H locs ls hP hD hS hL
  have h := k H locs ls hP hD hS hL
  show W p l e R s mid args below meth c H locs cells slots Q (F0 mid bp ls (.long (Int64.ofInt b) :: .long (Int64.ofInt a) :: r.map (cv ad)))
  have e9 : cv ad (1, lro a b) = .long (Int64.ofInt a ||| Int64.ofInt b) := by rw [cv_l]; rw [lro, Int64.ofInt_toInt]
  rw [List.map_cons, e9] at h
  exact lv_lor K.1 K.2.1 hd h
theorem go_lxor (K : CX NW p R s mid args c own cc ad G D A nL) {a b : Int} (hd : decode cc bp = .ok (.lxor, 1)) (k : Go p l e R s mid args below meth c Q ad G D A nL cells slots (bp + 1) L ((1, lxo a b) :: r) m) : Go p l e R s mid args below meth c Q ad G D A nL cells slots bp L ((1, b) :: (1, a) :: r) m := by
  intro H locs ls hP hD hS hL
  have h := k H locs ls hP hD hS hL
  show W p l e R s mid args below meth c H locs cells slots Q (F0 mid bp ls (.long (Int64.ofInt b) :: .long (Int64.ofInt a) :: r.map (cv ad)))
  have e9 : cv ad (1, lxo a b) = .long (Int64.ofInt a ^^^ Int64.ofInt b) := by rw [cv_l]; rw [lxo, Int64.ofInt_toInt]
  rw [List.map_cons, e9] at h
  exact lv_lxor K.1 K.2.1 hd h
theorem go_lshl (K : CX NW p R s mid args c own cc ad G D A nL) {a b : Int} (hd : decode cc bp = .ok (.lshl, 1)) (k : Go p l e R s mid args below meth c Q ad G D A nL cells slots (bp + 1) L ((1, lsl a b) :: r) m) : Go p l e R s mid args below meth c Q ad G D A nL cells slots bp L ((0, b) :: (1, a) :: r) m := by
  intro H locs ls hP hD hS hL
  have h := k H locs ls hP hD hS hL
  show W p l e R s mid args below meth c H locs cells slots Q (F0 mid bp ls (.int (Int32.ofInt b) :: .long (Int64.ofInt a) :: r.map (cv ad)))
  have e9 : cv ad (1, lsl a b) = .long (Int64.ofInt (lsl a b)) := by rw [cv_l]
  rw [List.map_cons, e9] at h
  exact lv_lshl K.1 K.2.1 hd (by rw [lsl, Int64.ofInt_toInt]) h
theorem go_lshr (K : CX NW p R s mid args c own cc ad G D A nL) {a b : Int} (hd : decode cc bp = .ok (.lshr, 1)) (k : Go p l e R s mid args below meth c Q ad G D A nL cells slots (bp + 1) L ((1, lsr a b) :: r) m) : Go p l e R s mid args below meth c Q ad G D A nL cells slots bp L ((0, b) :: (1, a) :: r) m := by
  intro H locs ls hP hD hS hL
  have h := k H locs ls hP hD hS hL
  show W p l e R s mid args below meth c H locs cells slots Q (F0 mid bp ls (.int (Int32.ofInt b) :: .long (Int64.ofInt a) :: r.map (cv ad)))
  have e9 : cv ad (1, lsr a b) = .long (Int64.ofInt (lsr a b)) := by rw [cv_l]
  rw [List.map_cons, e9] at h
  exact lv_lshr K.1 K.2.1 hd (by rw [lsr, Int64.ofInt_toInt]) h
theorem go_lushr (K : CX NW p R s mid args c own cc ad G D A nL) {a b : Int} (hd : decode cc bp = .ok (.lushr, 1)) (k : Go p l e R s mid args below meth c Q ad G D A nL cells slots (bp + 1) L ((1, lus a b) :: r) m) : Go p l e R s mid args below meth c Q ad G D A nL cells slots bp L ((0, b) :: (1, a) :: r) m := by
  intro H locs ls hP hD hS hL
  have h := k H locs ls hP hD hS hL
  show W p l e R s mid args below meth c H locs cells slots Q (F0 mid bp ls (.int (Int32.ofInt b) :: .long (Int64.ofInt a) :: r.map (cv ad)))
  have e9 : cv ad (1, lus a b) = .long (Int64.ofInt (lus a b)) := by rw [cv_l]
  rw [List.map_cons, e9] at h
  exact lv_lushr K.1 K.2.1 hd (by rw [lus, Int64.ofInt_toInt]) h
theorem go_ldiv (K : CX NW p R s mid args c own cc ad G D A nL) {a b : Int} (hb : in64 b) (hne : b ≠ 0) (hd : decode cc bp = .ok (.ldiv, 1)) (k : Go p l e R s mid args below meth c Q ad G D A nL cells slots (bp + 1) L ((1, ldv a b) :: r) m) : Go p l e R s mid args below meth c Q ad G D A nL cells slots bp L ((1, b) :: (1, a) :: r) m := by
  intro H locs ls hP hD hS hL
  have h := k H locs ls hP hD hS hL
  show W p l e R s mid args below meth c H locs cells slots Q (F0 mid bp ls (.long (Int64.ofInt b) :: .long (Int64.ofInt a) :: r.map (cv ad)))
  have e9 : cv ad (1, ldv a b) = .long (Int64.ofInt a / Int64.ofInt b) := by rw [cv_l]; rw [ldv, Int64.ofInt_toInt]
  rw [List.map_cons, e9] at h
  exact lv_ldiv K.1 K.2.1 hd (fun z => hne (by have := i64_of hb; rw [z] at this; exact this.symm.trans rfl)) h
theorem go_lrem (K : CX NW p R s mid args c own cc ad G D A nL) {a b : Int} (hb : in64 b) (hne : b ≠ 0) (hd : decode cc bp = .ok (.lrem, 1)) (k : Go p l e R s mid args below meth c Q ad G D A nL cells slots (bp + 1) L ((1, lrm a b) :: r) m) : Go p l e R s mid args below meth c Q ad G D A nL cells slots bp L ((1, b) :: (1, a) :: r) m := by
  intro H locs ls hP hD hS hL
  have h := k H locs ls hP hD hS hL
  show W p l e R s mid args below meth c H locs cells slots Q (F0 mid bp ls (.long (Int64.ofInt b) :: .long (Int64.ofInt a) :: r.map (cv ad)))
  have e9 : cv ad (1, lrm a b) = .long (Int64.ofInt a - Int64.ofInt a / Int64.ofInt b * Int64.ofInt b) := by rw [cv_l]; rw [lrm, Int64.ofInt_toInt]
  rw [List.map_cons, e9] at h
  exact lv_lrem K.1 K.2.1 hd (fun z => hne (by have := i64_of hb; rw [z] at this; exact this.symm.trans rfl)) h
theorem go_ineg (K : CX NW p R s mid args c own cc ad G D A nL) {a : Int} (hd : decode cc bp = .ok (.ineg, 1)) (k : Go p l e R s mid args below meth c Q ad G D A nL cells slots (bp + 1) L ((0, w32 (-a)) :: r) m) : Go p l e R s mid args below meth c Q ad G D A nL cells slots bp L ((0, a) :: r) m := by
  intro H locs ls hP hD hS hL
  have h := k H locs ls hP hD hS hL
  show W p l e R s mid args below meth c H locs cells slots Q (F0 mid bp ls (.int (Int32.ofInt a) :: r.map (cv ad)))
  have e9 : cv ad (0, w32 (-a)) = .int (- Int32.ofInt a) := by rw [cv_i]; rw [o32_w, Int32.ofInt_neg]
  rw [List.map_cons, e9] at h
  exact lv_ineg K.1 K.2.1 hd h
theorem go_lneg (K : CX NW p R s mid args c own cc ad G D A nL) {a : Int} (hd : decode cc bp = .ok (.lneg, 1)) (k : Go p l e R s mid args below meth c Q ad G D A nL cells slots (bp + 1) L ((1, w64 (-a)) :: r) m) : Go p l e R s mid args below meth c Q ad G D A nL cells slots bp L ((1, a) :: r) m := by
  intro H locs ls hP hD hS hL
  have h := k H locs ls hP hD hS hL
  show W p l e R s mid args below meth c H locs cells slots Q (F0 mid bp ls (.long (Int64.ofInt a) :: r.map (cv ad)))
  have e9 : cv ad (1, w64 (-a)) = .long (- Int64.ofInt a) := by rw [cv_l]; rw [o64_w, Int64.ofInt_neg]
  rw [List.map_cons, e9] at h
  exact lv_lneg K.1 K.2.1 hd h
theorem go_i2l (K : CX NW p R s mid args c own cc ad G D A nL) {a : Int} (ha : in32 a) (hd : decode cc bp = .ok (.i2l, 1)) (k : Go p l e R s mid args below meth c Q ad G D A nL cells slots (bp + 1) L ((1, a) :: r) m) : Go p l e R s mid args below meth c Q ad G D A nL cells slots bp L ((0, a) :: r) m := by
  intro H locs ls hP hD hS hL
  have h := k H locs ls hP hD hS hL
  show W p l e R s mid args below meth c H locs cells slots Q (F0 mid bp ls (.int (Int32.ofInt a) :: r.map (cv ad)))
  have e9 : cv ad (1, a) = .long (Int64.ofInt a) := by rw [cv_l]
  rw [List.map_cons, e9] at h
  exact lv_i2l K.1 K.2.1 hd (by rw [← Int64.toInt_inj, Int32.toInt_toInt64, i32_of ha, i64_of (in64_32 ha)]) h
theorem go_l2i (K : CX NW p R s mid args c own cc ad G D A nL) {a : Int} (hd : decode cc bp = .ok (.l2i, 1)) (k : Go p l e R s mid args below meth c Q ad G D A nL cells slots (bp + 1) L ((0, w32 a) :: r) m) : Go p l e R s mid args below meth c Q ad G D A nL cells slots bp L ((1, a) :: r) m := by
  intro H locs ls hP hD hS hL
  have h := k H locs ls hP hD hS hL
  show W p l e R s mid args below meth c H locs cells slots Q (F0 mid bp ls (.long (Int64.ofInt a) :: r.map (cv ad)))
  have e9 : cv ad (0, w32 a) = .int (Int32.ofInt a) := by rw [cv_i]; rw [o32_w]
  rw [List.map_cons, e9] at h
  exact lv_l2i K.1 K.2.1 hd (by rw [Int64.toInt32_ofInt]) h
theorem go_i2c (K : CX NW p R s mid args c own cc ad G D A nL) {a : Int} (hd : decode cc bp = .ok (.i2c, 1)) (k : Go p l e R s mid args below meth c Q ad G D A nL cells slots (bp + 1) L ((0, i2c a) :: r) m) : Go p l e R s mid args below meth c Q ad G D A nL cells slots bp L ((0, a) :: r) m := by
  intro H locs ls hP hD hS hL
  have h := k H locs ls hP hD hS hL
  show W p l e R s mid args below meth c H locs cells slots Q (F0 mid bp ls (.int (Int32.ofInt a) :: r.map (cv ad)))
  have e9 : cv ad (0, i2c a) = .int (Int32.ofInt (i2c a)) := by rw [cv_i]
  rw [List.map_cons, e9] at h
  exact lv_i2c K.1 K.2.1 hd (by rw [i2c, Int32.ofInt_toInt]) h
theorem lcm_ok {a b : Int} (ha : in64 a) (hb : in64 b) : lg_cmp (Int64.ofInt a) (Int64.ofInt b) = Int32.ofInt (lcm a b) := by
  unfold lg_cmp lcm
  have h1 : Int64.ofInt a < Int64.ofInt b ↔ a < b := by rw [Int64.lt_iff_toInt_lt, i64_of ha, i64_of hb]
  have h2 : Int64.ofInt b < Int64.ofInt a ↔ b < a := by rw [Int64.lt_iff_toInt_lt, i64_of ha, i64_of hb]
  have h3 : Int64.ofInt a = Int64.ofInt b ↔ a = b := by rw [← Int64.toInt_inj, i64_of ha, i64_of hb]
  have h4 : Int64.ofInt a ≤ Int64.ofInt b ↔ a ≤ b := by rw [Int64.le_iff_toInt_le, i64_of ha, i64_of hb]
  simp only [gt_iff_lt, h1, h2, h3, h4]
  split <;> (try split) <;> (try split) <;> first | rfl | (exfalso; omega)
theorem go_lcmp (K : CX NW p R s mid args c own cc ad G D A nL) {a b : Int} (ha : in64 a) (hb : in64 b) (hd : decode cc bp = .ok (.lcmp, 1)) (k : Go p l e R s mid args below meth c Q ad G D A nL cells slots (bp + 1) L ((0, lcm a b) :: r) m) : Go p l e R s mid args below meth c Q ad G D A nL cells slots bp L ((1, b) :: (1, a) :: r) m := by
  intro H locs ls hP hD hS hL
  have h := k H locs ls hP hD hS hL
  show W p l e R s mid args below meth c H locs cells slots Q (F0 mid bp ls (.long (Int64.ofInt b) :: .long (Int64.ofInt a) :: r.map (cv ad)))
  refine W.lcmp K.1 K.2.1 hd ?_
  rw [lcm_ok ha hb]
  exact h
theorem go_const (K : CX NW p R s mid args c own cc ad G D A nL) {v : Int} {raw : Instr} {len : Nat} (hd : decode cc bp = .ok (raw, len)) (ho : (raw = .iconst v ∧ len = 1) ∨ (raw = .bipush v ∧ len = 2 ∧ (Int8.ofInt v).toInt32 = Int32.ofInt v) ∨ (raw = .sipush v ∧ len = 3 ∧ (Int16.ofInt v).toInt32 = Int32.ofInt v) ∨ (∃ idx, raw = .ldc idx ∧ len = 2 ∧ Jvm.Cond.constant own idx (Int32.ofInt v) ∈ WT) ∨ (∃ idx, raw = .ldc_w idx ∧ len = 3 ∧ Jvm.Cond.constant own idx (Int32.ofInt v) ∈ WT)) (k : Go p l e R s mid args below meth c Q ad G D A nL cells slots (bp + len) L ((0, v) :: r) m) : Go p l e R s mid args below meth c Q ad G D A nL cells slots bp L r m := by
  intro H locs ls hP hD hS hL
  have h := k H locs ls hP hD hS hL
  rcases ho with ⟨rfl, rfl⟩ | ⟨rfl, rfl, h2⟩ | ⟨rfl, rfl, h2⟩ | ⟨idx, rfl, rfl, h2⟩ | ⟨idx, rfl, rfl, h2⟩
  · exact lv_iconst K.1 K.2.1 hd rfl h
  · exact lv_bipush K.1 K.2.1 hd h2 h
  · exact lv_sipush K.1 K.2.1 hd h2 h
  · exact lv_ldc K.1 K.2.1 K.2.2.2.1 (K.2.2.2.2.1 _ h2) hd h
  · exact lv_ldcw K.1 K.2.1 K.2.2.2.1 (K.2.2.2.2.1 _ h2) hd h
theorem go_lconst (K : CX NW p R s mid args c own cc ad G D A nL) {v : Int} {raw : Instr} {len : Nat} (hd : decode cc bp = .ok (raw, len)) (ho : (∃ n : Fin 2, raw = .lconst n ∧ len = 1 ∧ Int64.ofNat (n : Nat) = Int64.ofInt v) ∨ (∃ idx, raw = .ldc2_w idx ∧ len = 3 ∧ Jvm.Cond.constantLong own idx (Int64.ofInt v) ∈ WT)) (k : Go p l e R s mid args below meth c Q ad G D A nL cells slots (bp + len) L ((1, v) :: r) m) : Go p l e R s mid args below meth c Q ad G D A nL cells slots bp L r m := by
  intro H locs ls hP hD hS hL
  have h := k H locs ls hP hD hS hL
  rcases ho with ⟨n, rfl, rfl, h2⟩ | ⟨idx, rfl, rfl, h2⟩
  · exact lv_lconst K.1 K.2.1 hd h2 h
  · exact lv_ldc2 K.1 K.2.1 K.2.2.2.1 (K.2.2.2.2.1 _ h2) hd h
theorem go_iload (K : CX NW p R s mid args c own cc ad G D A nL) {x : Int} {i : Nat} {raw : Instr} {len : Nat} (hd : decode cc bp = .ok (raw, len)) (ho : (raw = .iload i ∧ len = 2) ∨ (∃ n : Fin 4, raw = .iload_n n ∧ len = 1 ∧ (n : Nat) = i)) (hx : L[i]? = some (0, x)) (k : Go p l e R s mid args below meth c Q ad G D A nL cells slots (bp + len) L ((0, x) :: r) m) : Go p l e R s mid args below meth c Q ad G D A nL cells slots bp L r m := by
  intro H locs ls hP hD hS hL
  have h := k H locs ls hP hD hS hL
  have hv : ls[i]? = some (.val (.int (Int32.ofInt x))) := hL.2.2.2 i _ hx (by simp)
  rcases ho with ⟨rfl, rfl⟩ | ⟨n, rfl, rfl, h2⟩
  · exact lv_iload K.1 K.2.1 hd hv h
  · exact lv_iload_n K.1 K.2.1 hd h2 hv h
theorem go_lload (K : CX NW p R s mid args c own cc ad G D A nL) {x : Int} {i : Nat} {raw : Instr} {len : Nat} (hd : decode cc bp = .ok (raw, len)) (ho : (raw = .lload i ∧ len = 2) ∨ (∃ n : Fin 4, raw = .lload_n n ∧ len = 1 ∧ (n : Nat) = i)) (hx : L[i]? = some (1, x)) (k : Go p l e R s mid args below meth c Q ad G D A nL cells slots (bp + len) L ((1, x) :: r) m) : Go p l e R s mid args below meth c Q ad G D A nL cells slots bp L r m := by
  intro H locs ls hP hD hS hL
  have h := k H locs ls hP hD hS hL
  have hv : ls[i]? = some (.val (.long (Int64.ofInt x))) := hL.2.2.2 i _ hx (by simp)
  rcases ho with ⟨rfl, rfl⟩ | ⟨n, rfl, rfl, h2⟩
  · exact lv_lload K.1 K.2.1 hd hv h
  · exact lv_lload_n K.1 K.2.1 hd h2 hv h
theorem go_aload (K : CX NW p R s mid args c own cc ad G D A nL) {t : Nat} {x : Int} {i : Nat} {raw : Instr} {len : Nat} (hd : decode cc bp = .ok (raw, len)) (ho : (raw = .aload i ∧ len = 2) ∨ (∃ n : Fin 4, raw = .aload_n n ∧ len = 1 ∧ (n : Nat) = i)) (hx : L[i]? = some (t, x)) (ht : 10 ≤ t) (k : Go p l e R s mid args below meth c Q ad G D A nL cells slots (bp + len) L ((t, x) :: r) m) : Go p l e R s mid args below meth c Q ad G D A nL cells slots bp L r m := by
  intro H locs ls hP hD hS hL
  have h := k H locs ls hP hD hS hL
  obtain ⟨a, ha⟩ := cv_r ad t x (by omega)
  have hv : ls[i]? = some (.val (.ref a)) := by rw [← ha]; exact hL.2.2.2 i _ hx (by simp; omega)
  rw [List.map_cons, ha] at h
  rcases ho with ⟨rfl, rfl⟩ | ⟨n, rfl, rfl, h2⟩
  · exact lv_aload K.1 K.2.1 hd hv h
  · exact lv_aload_n K.1 K.2.1 hd h2 hv h
theorem go_istore (K : CX NW p R s mid args c own cc ad G D A nL) {x : Int} {i : Nat} {raw : Instr} {len : Nat} (hd : decode cc bp = .ok (raw, len)) (ho : (raw = .istore i ∧ len = 2) ∨ (∃ n : Fin 4, raw = .istore_n n ∧ len = 1 ∧ (n : Nat) = i)) (hi : i < L.length) (k : Go p l e R s mid args below meth c Q ad G D A nL cells slots (bp + len) (sto1 L i (0, x)) r m) : Go p l e R s mid args below meth c Q ad G D A nL cells slots bp L ((0, x) :: r) m := by
  intro H locs ls hP hD hS hL
  have hn : i < nL := by rw [← hL.1]; exact hi
  show W p l e R s mid args below meth c H locs cells slots Q (F0 mid bp ls (.int (Int32.ofInt x) :: r.map (cv ad)))
  rcases ho with ⟨rfl, rfl⟩ | ⟨n, rfl, rfl, h2⟩
  · exact lv_istore K.1 K.2.1 hd (LH_has hL) hn rfl (fun ls' h' => k H locs ls' hP hD hS (LH_sto1 (v := (0, x)) hL.1 h'))
  · exact lv_istore_n K.1 K.2.1 hd h2 (LH_has hL) hn rfl (fun ls' h' => k H locs ls' hP hD hS (LH_sto1 (v := (0, x)) hL.1 h'))
theorem go_lstore (K : CX NW p R s mid args c own cc ad G D A nL) {x : Int} {i : Nat} {raw : Instr} {len : Nat} (hd : decode cc bp = .ok (raw, len)) (ho : (raw = .lstore i ∧ len = 2) ∨ (∃ n : Fin 4, raw = .lstore_n n ∧ len = 1 ∧ (n : Nat) = i)) (hi : i + 1 < L.length) (k : Go p l e R s mid args below meth c Q ad G D A nL cells slots (bp + len) (sto2 L i (1, x)) r m) : Go p l e R s mid args below meth c Q ad G D A nL cells slots bp L ((1, x) :: r) m := by
  intro H locs ls hP hD hS hL
  have hn : i + 1 < nL := by rw [← hL.1]; exact hi
  show W p l e R s mid args below meth c H locs cells slots Q (F0 mid bp ls (.long (Int64.ofInt x) :: r.map (cv ad)))
  rcases ho with ⟨rfl, rfl⟩ | ⟨n, rfl, rfl, h2⟩
  · exact lv_lstore K.1 K.2.1 hd (LH_has hL) hn rfl (fun ls' h' => k H locs ls' hP hD hS (LH_sto2 (v := (1, x)) hL.1 h'))
  · exact lv_lstore_n K.1 K.2.1 hd h2 (LH_has hL) hn rfl (fun ls' h' => k H locs ls' hP hD hS (LH_sto2 (v := (1, x)) hL.1 h'))
theorem go_astore (K : CX NW p R s mid args c own cc ad G D A nL) {t : Nat} {x : Int} {i : Nat} {raw : Instr} {len : Nat} (hd : decode cc bp = .ok (raw, len)) (ho : (raw = .astore i ∧ len = 2) ∨ (∃ n : Fin 4, raw = .astore_n n ∧ len = 1 ∧ (n : Nat) = i)) (ht : 10 ≤ t) (hi : i < L.length) (k : Go p l e R s mid args below meth c Q ad G D A nL cells slots (bp + len) (sto1 L i (t, x)) r m) : Go p l e R s mid args below meth c Q ad G D A nL cells slots bp L ((t, x) :: r) m := by
  intro H locs ls hP hD hS hL
  have hn : i < nL := by rw [← hL.1]; exact hi
  obtain ⟨a, ha⟩ := cv_r ad t x (by omega)
  rw [List.map_cons, ha]
  rcases ho with ⟨rfl, rfl⟩ | ⟨n, rfl, rfl, h2⟩
  · exact lv_astore K.1 K.2.1 hd (LH_has hL) hn rfl (fun ls' h' => k H locs ls' hP hD hS (LH_sto1 (v := (t, x)) hL.1 (by rw [ha]; exact h')))
  · exact lv_astore_n K.1 K.2.1 hd h2 (LH_has hL) hn rfl (fun ls' h' => k H locs ls' hP hD hS (LH_sto1 (v := (t, x)) hL.1 (by rw [ha]; exact h')))
theorem go_iinc (K : CX NW p R s mid args c own cc ad G D A nL) {x n : Int} {i : Nat} (hd : decode cc bp = .ok (.iinc i n, 3)) (hx : L[i]? = some (0, x)) (k : Go p l e R s mid args below meth c Q ad G D A nL cells slots (bp + 3) (sto1 L i (0, w32 (x + n))) r m) : Go p l e R s mid args below meth c Q ad G D A nL cells slots bp L r m := by
  intro H locs ls hP hD hS hL
  have hn : i < nL := by rw [← hL.1]; exact (List.getElem?_eq_some_iff.mp hx).1
  obtain ⟨q, hq⟩ := List.getElem?_of_mem (lvl_in (ad := ad) hx (by simp))
  exact lv_iinc (v := Int32.ofInt (w32 (x + n))) K.1 K.2.1 hd (LH_has hL) (k := q) hq (by rw [o32_w, Int32.ofInt_add]) hn rfl (fun ls' h' => k H locs ls' hP hD hS (LH_sto1 (v := (0, w32 (x + n))) hL.1 h'))
theorem cat_1 (ad : Int → Nat) {t : Nat} {a : Int} (h : ¬ t = 1) : (cv ad (t, a)).category = 1 := by rw [cv_cat, catV, if_neg h]
theorem go_dup (K : CX NW p R s mid args c own cc ad G D A nL) {t : Nat} {a : Int} (h1 : ¬ t = 1) (hd : decode cc bp = .ok (.dup, 1)) (k : Go p l e R s mid args below meth c Q ad G D A nL cells slots (bp + 1) L ((t, a) :: (t, a) :: r) m) : Go p l e R s mid args below meth c Q ad G D A nL cells slots bp L ((t, a) :: r) m := by
  intro H locs ls hP hD hS hL
  exact lv_dup K.1 K.2.1 hd (cat_1 ad h1) (k H locs ls hP hD hS hL)
theorem go_dup2 (K : CX NW p R s mid args c own cc ad G D A nL) {t u : Nat} {a b : Int} (h1 : ¬ t = 1) (h2 : ¬ u = 1) (hd : decode cc bp = .ok (.dup2, 1)) (k : Go p l e R s mid args below meth c Q ad G D A nL cells slots (bp + 1) L ((t, a) :: (u, b) :: (t, a) :: (u, b) :: r) m) : Go p l e R s mid args below meth c Q ad G D A nL cells slots bp L ((t, a) :: (u, b) :: r) m := by
  intro H locs ls hP hD hS hL
  exact lv_dup2_11 K.1 K.2.1 hd (cat_1 ad h1) (cat_1 ad h2) (k H locs ls hP hD hS hL)
theorem go_pop (K : CX NW p R s mid args c own cc ad G D A nL) {t : Nat} {a : Int} (h1 : ¬ t = 1) (hd : decode cc bp = .ok (.pop, 1)) (k : Go p l e R s mid args below meth c Q ad G D A nL cells slots (bp + 1) L r m) : Go p l e R s mid args below meth c Q ad G D A nL cells slots bp L ((t, a) :: r) m := by
  intro H locs ls hP hD hS hL
  exact lv_pop K.1 K.2.1 hd (cat_1 ad h1) (k H locs ls hP hD hS hL)
theorem go_goto (K : CX NW p R s mid args c own cc ad G D A nL) {off : Int} {tgt : Nat} (hd : decode cc bp = .ok (.goto off, 3)) (ht : (bp : Int) + off = (tgt : Int)) (k : Go p l e R s mid args below meth c Q ad G D A nL cells slots tgt L r m) : Go p l e R s mid args below meth c Q ad G D A nL cells slots bp L r m := by
  intro H locs ls hP hD hS hL
  exact lv_goto K.1 K.2.1 hd ht (k H locs ls hP hD hS hL)
theorem go_icmp (K : CX NW p R s mid args c own cc ad G D A nL) {cd : Jvm.ClassFile.Cond} {a b off : Int} {tgt : Nat} (ha : in32 a) (hb : in32 b) (hd : decode cc bp = .ok (.if_icmp cd off, 3)) (ht : (bp : Int) + off = (tgt : Int)) (kt : cmpB cd a b = true → Go p l e R s mid args below meth c Q ad G D A nL cells slots tgt L r m) (kf : ¬ cmpB cd a b = true → Go p l e R s mid args below meth c Q ad G D A nL cells slots (bp + 3) L r m) : Go p l e R s mid args below meth c Q ad G D A nL cells slots bp L ((0, b) :: (0, a) :: r) m := by
  intro H locs ls hP hD hS hL
  show W p l e R s mid args below meth c H locs cells slots Q (F0 mid bp ls (.int (Int32.ofInt b) :: .int (Int32.ofInt a) :: r.map (cv ad)))
  have e1 := o32_eq ha hb
  have e2 := o32_lt ha hb
  have e3 := o32_le hb ha
  have e4 := o32_lt hb ha
  have e5 := o32_le ha hb
  have T : ∀ P : Prop, (P ↔ cmpB cd a b = true) → P → W p l e R s mid args below meth c H locs cells slots Q (F0 mid tgt ls (r.map (cv ad))) := fun P h q => kt (h.mp q) H locs ls hP hD hS hL
  have F : ∀ P : Prop, (P ↔ cmpB cd a b = true) → ¬ P → W p l e R s mid args below meth c H locs cells slots Q (F0 mid (bp + 3) ls (r.map (cv ad))) := fun P h q => kf (fun z => q (h.mpr z)) H locs ls hP hD hS hL
  cases cd with
  | eq => exact lv_icmp_eq K.1 K.2.1 hd ht (T _ (by simp [cmpB, e1])) (F _ (by simp [cmpB, e1]))
  | ne => exact lv_icmp_ne K.1 K.2.1 hd ht (T _ (by simp [cmpB, e1])) (fun q => kf (by simp [cmpB, e1.mp q]) H locs ls hP hD hS hL)
  | lt => exact lv_icmp_lt K.1 K.2.1 hd ht (T _ (by simp [cmpB, e2])) (F _ (by simp [cmpB, e2]))
  | ge => exact lv_icmp_ge K.1 K.2.1 hd ht (T _ (by simp [cmpB, e3])) (F _ (by simp [cmpB, e3]))
  | gt => exact lv_icmp_gt K.1 K.2.1 hd ht (T _ (by simp [cmpB, e4])) (F _ (by simp [cmpB, e4]))
  | le => exact lv_icmp_le K.1 K.2.1 hd ht (T _ (by simp [cmpB, e5])) (F _ (by simp [cmpB, e5]))
theorem go_if (K : CX NW p R s mid args c own cc ad G D A nL) {cd : Jvm.ClassFile.Cond} {a off : Int} {tgt : Nat} (ha : in32 a) (hd : decode cc bp = .ok (.ifCond cd off, 3)) (ht : (bp : Int) + off = (tgt : Int)) (kt : cmpB cd a 0 = true → Go p l e R s mid args below meth c Q ad G D A nL cells slots tgt L r m) (kf : ¬ cmpB cd a 0 = true → Go p l e R s mid args below meth c Q ad G D A nL cells slots (bp + 3) L r m) : Go p l e R s mid args below meth c Q ad G D A nL cells slots bp L ((0, a) :: r) m := by
  intro H locs ls hP hD hS hL
  show W p l e R s mid args below meth c H locs cells slots Q (F0 mid bp ls (.int (Int32.ofInt a) :: r.map (cv ad)))
  have hb : in32 0 := in32_lit0
  have e1 : Int32.ofInt a = 0 ↔ a = 0 := o32_eq ha hb
  have e2 : Int32.ofInt a < 0 ↔ a < 0 := o32_lt ha hb
  have e3 : 0 ≤ Int32.ofInt a ↔ 0 ≤ a := o32_le hb ha
  have e4 : 0 < Int32.ofInt a ↔ 0 < a := o32_lt hb ha
  have e5 : Int32.ofInt a ≤ 0 ↔ a ≤ 0 := o32_le ha hb
  have T : ∀ P : Prop, (P ↔ cmpB cd a 0 = true) → P → W p l e R s mid args below meth c H locs cells slots Q (F0 mid tgt ls (r.map (cv ad))) := fun P h q => kt (h.mp q) H locs ls hP hD hS hL
  have F : ∀ P : Prop, (P ↔ cmpB cd a 0 = true) → ¬ P → W p l e R s mid args below meth c H locs cells slots Q (F0 mid (bp + 3) ls (r.map (cv ad))) := fun P h q => kf (fun z => q (h.mpr z)) H locs ls hP hD hS hL
  cases cd with
  | eq => exact lv_if_eq K.1 K.2.1 hd ht (T _ (by simp [cmpB, e1])) (F _ (by simp [cmpB, e1]))
  | ne => exact lv_if_ne K.1 K.2.1 hd ht (T _ (by simp [cmpB, e1])) (fun q => kf (by simp [cmpB, e1.mp q]) H locs ls hP hD hS hL)
  | lt => exact lv_if_lt K.1 K.2.1 hd ht (T _ (by simp [cmpB, e2])) (F _ (by simp [cmpB, e2]))
  | ge => exact lv_if_ge K.1 K.2.1 hd ht (T _ (by simp [cmpB, e3])) (F _ (by simp [cmpB, e3]))
  | gt => exact lv_if_gt K.1 K.2.1 hd ht (T _ (by simp [cmpB, e4])) (F _ (by simp [cmpB, e4]))
  | le => exact lv_if_le K.1 K.2.1 hd ht (T _ (by simp [cmpB, e5])) (F _ (by simp [cmpB, e5]))
end STEPS
end
section
/-! FIELDS, ARRAYS, SWITCHES -/
def fword (own : String) (idx : Nat) (nest : Bool) (c k : Nat) : Cond := if nest = true then .fieldLinkNest own idx (CR c) (CT c k).2.1 (CT c k).2.2.1 "ThumbHedges" else .fieldLink own idx (CR c) (CT c k).2.1 (CT c k).2.2.1
theorem lt9 {P : Nat → Prop} (h0 : P 0) (h1 : P 1) (h2 : P 2) (h3 : P 3) (h4 : P 4) (h5 : P 5) (h6 : P 6) (h7 : P 7) (h8 : P 8) : ∀ c, c < 9 → P c := by
  intro c hc
  match c, hc with
  | 0, _ => exact h0
  | 1, _ => exact h1
  | 2, _ => exact h2
  | 3, _ => exact h3
  | 4, _ => exact h4
  | 5, _ => exact h5
  | 6, _ => exact h6
  | 7, _ => exact h7
  | 8, _ => exact h8
  | c + 9, h => omega
theorem cl_at : ∀ c, c < 9 → vwCl[c]? = some (CR c, CT c, CN c) := lt9 rfl rfl rfl rfl rfl rfl rfl rfl rfl
theorem cl_in : ∀ c, c < 9 → ∀ w ∈ u_ws (CR c) (CT c) (CN c), w ∈ lw_tbl := lt9 inX0 inX1 inX2 inX3 inX4 inX6 inX7 inX8 inX9
theorem lay_good (C : String) (T : u_T) (k : Nat) : goodWord (u_lay C T k) = true := by
  unfold u_lay
  split <;> rfl
theorem cl_wt (c : Nat) (hc : c < 9) : ∀ w ∈ u_ws (CR c) (CT c) (CN c), w ∈ WT := fun w hw => WT_in (cl_in c hc w hw) (by
  obtain ⟨k, -, rfl⟩ := List.mem_map.mp hw
  exact lay_good _ _ _)
theorem cl_ty : ∀ c, c < 9 → ∀ k, k < CN c → parseFieldDescriptor (CT c k).2.2.1 = some (CTy c k) := lt9 tyX0_ok tyX1_ok tyX2_ok tyX3_ok tyX4_ok tyX6_ok tyX7_ok tyX8_ok tyX9_ok
theorem cl_nm : ∀ c, c < 9 → ∀ a, a < CN c → ∀ b, b < CN c → a ≠ b → (CT c a).2.1 ≠ (CT c b).2.1 := lt9 nmX0 nmX1 nmX2 nmX3 nmX4 nmX6 nmX7 nmX8 nmX9
theorem cl_own : ∀ c, c < 9 → ∀ k, k < CN c → (CT c k).1 = CR c := by decide +kernel
theorem cl_fin : ∀ c, c < 9 → ∀ k, k < CN c → FT c k < 10 → (CT c k).2.2.2 = false := by decide +kernel
theorem cl_t0 : ∀ c, c < 9 → ∀ k, k < CN c → FT c k = 0 → CTy c k = .int := by decide +kernel
theorem cl_t1 : ∀ c, c < 9 → ∀ k, k < CN c → FT c k = 1 → CTy c k = .long := by decide +kernel
theorem cl_t2 : ∀ c, c < 9 → ∀ k, k < CN c → FT c k = 2 → CTy c k = .boolean := by decide +kernel
theorem cl_ft : ∀ c, c < 9 → ∀ k, k < CN c → FT c k = 0 ∨ FT c k = 1 ∨ FT c k = 2 ∨ 10 ≤ FT c k := by decide +kernel
theorem arr_kind {t : Nat} {k : Nat} (h : aty t = k) (hk : k < 9) : ¬ t < 100 := by
  intro z
  unfold aty at h
  rw [if_pos z] at h
  omega
theorem aln_nat (t : Nat) : aln t = (((t - 100) / 8 : Nat) : Int) := rfl
section MEM
variable {NW : List Cond} {p : Program} {l : Launch} {e : Env} {R : Room} {s : State} {mid : MethodId} {args : Array Value} {below : List Frame} {meth : Method} {c : Code} {Q : State → Prop} {ad : Int → Nat} {G : Nat → ClassId} {D : va_G} {A : Nat → Prop} {nL cells slots : Nat} {own : String} {cc : ByteArray} {bp : Nat} {L r : List Vv} {m : Mm}
theorem go_getf (K : CX NW p R s mid args c own cc ad G D A nL) {ci k idx : Nat} {o : Int} {v : Vv} (nest : Bool) (hw : if nest = true then fword own idx nest ci k ∈ NW else fword own idx nest ci k ∈ WT) (hc : ci < 9) (hk : k < CN ci) (ho : (o, ci + 10) ∈ UNI) (hv : cv ad v = fv ad m o ci k) (hd : decode cc bp = .ok (.getfield idx, 3)) (kk : Go p l e R s mid args below meth c Q ad G D A nL cells slots (bp + 3) L (v :: r) m) : Go p l e R s mid args below meth c Q ad G D A nL cells slots bp L ((ci + 10, o) :: r) m := by
  intro H locs ls hP hD hS hL
  have h := kk H locs ls hP hD hS hL
  rw [List.map_cons, hv] at h
  rw [List.map_cons, cv_o ad o ho]
  obtain ⟨j, hj, hw9⟩ := WS_at (ad := ad) (G := G) (m := m) ho
  have hcell : cellOf ad G m (o, ci + 10) = .inr (ci, (List.range (CN ci)).map (fv ad m o ci)) := by
    rw [cell_ob (show ci + 10 < 100 by omega)]
    simp only [Nat.add_sub_cancel]
  simp only at hw9
  rw [hcell] at hw9
  have hf : ((List.range (CN ci)).map (fv ad m o ci))[k]? = some (fv ad m o ci k) := by rw [List.getElem?_map, List.getElem?_range hk]; rfl
  cases nest with
  | false =>
    simp only [fword, Bool.false_eq_true, if_false] at hw
    exact va_get K.1 K.2.1 K.2.2.2.2.1 (cl_wt ci hc) K.2.2.2.1 K.2.2.2.2.2.1 hP j hw9 (cl_at ci hc) k hk (K.2.2.2.2.1 _ hw) (fun x hx => by rw [cl_own ci hc k hk] at hx; exact hx) hf hd h
  | true =>
    simp only [fword, if_true] at hw
    exact va_getN K.1 K.2.1 K.2.2.2.2.1 (cl_wt ci hc) K.2.2.2.1 K.2.2.2.2.2.1 hP j hw9 (cl_at ci hc) k hk (va_Nw.use rfl (K.2.2.2.2.2.2.2.2.2 _ hw)) (fun x hx => by rw [cl_own ci hc k hk] at hx; exact hx) hf hd h
theorem go_putf (K : CX NW p R s mid args c own cc ad G D A nL) {ci k idx : Nat} {o x : Int} {tv : Nat} (nest : Bool) (hw : if nest = true then fword own idx nest ci k ∈ NW else fword own idx nest ci k ∈ WT) (hc : ci < 9) (hk : k < CN ci) (ho : (o, ci + 10) ∈ UNI) (hft : FT ci k < 10) (hv : cv ad (tv, x) = fv ad (up m o k x) o ci k) (hn : narrow (CTy ci k) (cv ad (tv, x)) = cv ad (tv, x)) (hfit : fits (CTy ci k) (cv ad (tv, x)) = true) (hd : decode cc bp = .ok (.putfield idx, 3)) (kk : Go p l e R s mid args below meth c Q ad G D A nL cells slots (bp + 3) L r (up m o k x)) : Go p l e R s mid args below meth c Q ad G D A nL cells slots bp L ((tv, x) :: (ci + 10, o) :: r) m := by
  intro H locs ls hP hD hS hL
  rw [List.map_cons, List.map_cons, cv_o ad o ho]
  obtain ⟨j, hj, hw9⟩ := WS_at (ad := ad) (G := G) (m := m) ho
  have hcell : cellOf ad G m (o, ci + 10) = .inr (ci, (List.range (CN ci)).map (fv ad m o ci)) := by
    rw [cell_ob (show ci + 10 < 100 by omega)]
    simp only [Nat.add_sub_cancel]
  simp only at hw9
  rw [hcell] at hw9
  have hset : (WS ad G m).set j (ad o, .inr (ci, ((List.range (CN ci)).map (fv ad m o ci)).set k (cv ad (tv, x)))) = WS ad G (up m o k x) := by
    have e1 := WS_set (ad := ad) (G := G) (m := m) (m' := up m o k x) hj (fun a b hab => up_ne hab)
    simp only at e1
    rw [cell_fld (t := ci + 10) (show ci + 10 < 100 by omega) (by simpa using hk) (w := cv ad (tv, x)) (by simp only [Nat.add_sub_cancel]; exact hv.symm)] at e1
    simp only [Nat.add_sub_cancel] at e1
    exact e1
  have hl : k < ((List.range (CN ci)).map (fv ad m o ci)).length := by simpa using hk
  cases nest with
  | false =>
    simp only [fword, Bool.false_eq_true, if_false] at hw
    exact va_put K.1 K.2.1 K.2.2.2.2.1 (cl_wt ci hc) (CTy ci) (cl_ty ci hc) (cl_nm ci hc) K.2.2.2.1 K.2.2.2.2.2.1 hP hD hS j hw9 (cl_at ci hc) k hk (K.2.2.2.2.1 _ hw) (fun x hx => by rw [cl_own ci hc k hk] at hx; exact hx) (cl_fin ci hc k hk hft) (cl_ty ci hc k hk) hn hfit hl hd (fun H1 locs1 h1 h2 h3 => by
      rw [hset] at h1 h2
      exact kk H1 locs1 ls h1 h2 h3 hL)
  | true =>
    simp only [fword, if_true] at hw
    exact va_putN K.1 K.2.1 K.2.2.2.2.1 (cl_wt ci hc) (CTy ci) (cl_ty ci hc) (cl_nm ci hc) K.2.2.2.1 K.2.2.2.2.2.1 hP hD hS j hw9 (cl_at ci hc) k hk (va_Nw.use rfl (K.2.2.2.2.2.2.2.2.2 _ hw)) (fun x hx => by rw [cl_own ci hc k hk] at hx; exact hx) (cl_fin ci hc k hk hft) (cl_ty ci hc k hk) hn hfit hl hd (fun H1 locs1 h1 h2 h3 => by
      rw [hset] at h1 h2
      exact kk H1 locs1 ls h1 h2 h3 hL)
theorem go_iald (K : CX NW p R s mid args c own cc ad G D A nL) {t : Nat} {o i : Int} (ho : (o, t) ∈ UNI) (ha : aty t = 0) (hi : in32 i) (h0 : 0 ≤ i) (h1 : i < aln t) (hd : decode cc bp = .ok (.iaload, 1)) (kk : Go p l e R s mid args below meth c Q ad G D A nL cells slots (bp + 1) L ((0, m o i) :: r) m) : Go p l e R s mid args below meth c Q ad G D A nL cells slots bp L ((0, i) :: (t, o) :: r) m := by
  intro H locs ls hP hD hS hL
  have h := kk H locs ls hP hD hS hL
  rw [List.map_cons, List.map_cons, cv_o ad o ho, cv_i]
  obtain ⟨j, hj, hw9⟩ := WS_at (ad := ad) (G := G) (m := m) ho
  simp only at hw9
  rw [cell_ia (arr_kind ha (by omega)) (Or.inl ha), ha] at hw9
  rw [List.map_cons, cv_i] at h
  refine va_iald K.1 K.2.1 K.2.2.2.2.2.1 hP j 0 hw9 rfl (vp_in_o hi h0 h1) hd ?_
  rw [clamp_o hi]
  simp only [Int.toNat_of_nonneg h0]
  exact h
theorem go_zald (K : CX NW p R s mid args c own cc ad G D A nL) {t : Nat} {o i : Int} (ho : (o, t) ∈ UNI) (ha : aty t = 2) (hi : in32 i) (h0 : 0 ≤ i) (h1 : i < aln t) (hd : decode cc bp = .ok (.baload, 1)) (kk : Go p l e R s mid args below meth c Q ad G D A nL cells slots (bp + 1) L ((0, m o i) :: r) m) : Go p l e R s mid args below meth c Q ad G D A nL cells slots bp L ((0, i) :: (t, o) :: r) m := by
  intro H locs ls hP hD hS hL
  have h := kk H locs ls hP hD hS hL
  rw [List.map_cons, List.map_cons, cv_o ad o ho, cv_i]
  obtain ⟨j, hj, hw9⟩ := WS_at (ad := ad) (G := G) (m := m) ho
  simp only at hw9
  rw [cell_ia (arr_kind ha (by omega)) (Or.inr ha), ha] at hw9
  rw [List.map_cons, cv_i] at h
  refine va_zald K.1 K.2.1 K.2.2.2.2.2.1 hP j 2 hw9 rfl (vp_in_o hi h0 h1) hd ?_
  rw [clamp_o hi]
  simp only [Int.toNat_of_nonneg h0]
  exact h
theorem go_lald (K : CX NW p R s mid args c own cc ad G D A nL) {t : Nat} {o i : Int} (ho : (o, t) ∈ UNI) (ha : aty t = 1) (hi : in32 i) (h0 : 0 ≤ i) (h1 : i < aln t) (hd : decode cc bp = .ok (.laload, 1)) (kk : Go p l e R s mid args below meth c Q ad G D A nL cells slots (bp + 1) L ((1, m o i) :: r) m) : Go p l e R s mid args below meth c Q ad G D A nL cells slots bp L ((0, i) :: (t, o) :: r) m := by
  intro H locs ls hP hD hS hL
  have h := kk H locs ls hP hD hS hL
  rw [List.map_cons, List.map_cons, cv_o ad o ho, cv_i]
  obtain ⟨j, hj, hw9⟩ := WS_at (ad := ad) (G := G) (m := m) ho
  simp only at hw9
  rw [cell_la (arr_kind ha (by omega)) ha] at hw9
  rw [List.map_cons, cv_l] at h
  refine va_lald K.1 K.2.1 K.2.2.2.2.2.1 hP j 1 hw9 rfl (vp_in_o hi h0 h1) hd ?_
  rw [clamp_o hi]
  simp only [Int.toNat_of_nonneg h0]
  exact h
theorem go_aald (K : CX NW p R s mid args c own cc ad G D A nL) {t tr : Nat} {o i : Int} (ho : (o, t) ∈ UNI) (ha : (aty t = 3 ∧ tr = 13) ∨ (aty t = 4 ∧ tr = 16)) (hi : in32 i) (h0 : 0 ≤ i) (h1 : i < aln t) (hd : decode cc bp = .ok (.aaload, 1)) (kk : Go p l e R s mid args below meth c Q ad G D A nL cells slots (bp + 1) L ((tr, PA (aty t) o i) :: r) m) : Go p l e R s mid args below meth c Q ad G D A nL cells slots bp L ((0, i) :: (t, o) :: r) m := by
  intro H locs ls hP hD hS hL
  have h := kk H locs ls hP hD hS hL
  rw [List.map_cons, List.map_cons, cv_o ad o ho, cv_i]
  obtain ⟨j, hj, hw9⟩ := WS_at (ad := ad) (G := G) (m := m) ho
  simp only at hw9
  have hlt : i.toNat < (t - 100) / 8 := by
    rw [aln_nat] at h1
    omega
  have hm : (PA (aty t) o i, tr) ∈ UNI := by
    have e0 : ((i.toNat : Nat) : Int) = i := Int.toNat_of_nonneg h0
    rcases ha with ⟨ha, rfl⟩ | ⟨ha, rfl⟩
    · have := UNI_arr3 _ ho ha i.toNat hlt
      simp only at this
      rw [e0] at this
      rw [ha]
      exact this
    · have := UNI_arr4 _ ho ha i.toNat hlt
      simp only at this
      rw [e0] at this
      rw [ha]
      exact this
  rw [List.map_cons, cv_o ad _ hm] at h
  rcases ha with ⟨ha, rfl⟩ | ⟨ha, rfl⟩
  · rw [cell_ra (arr_kind ha (by omega)) (Or.inl ha), ha] at hw9
    refine va_aldq K.1 K.2.1 K.2.2.2.2.2.1 hP j 3 hw9 rfl (vp_in_o hi h0 h1) hd ?_
    rw [clamp_o hi]
    simp only [Int.toNat_of_nonneg h0]
    rw [ha] at h
    exact h
  · rw [cell_ra (arr_kind ha (by omega)) (Or.inr ha), ha] at hw9
    refine va_aldq K.1 K.2.1 K.2.2.2.2.2.1 hP j 4 hw9 rfl (vp_in_o hi h0 h1) hd ?_
    rw [clamp_o hi]
    simp only [Int.toNat_of_nonneg h0]
    rw [ha] at h
    exact h
theorem go_iast (K : CX NW p R s mid args c own cc ad G D A nL) {t : Nat} {o i x : Int} (ho : (o, t) ∈ UNI) (ha : aty t = 0) (hi : in32 i) (h0 : 0 ≤ i) (h1 : i < aln t) (hd : decode cc bp = .ok (.iastore, 1)) (kk : Go p l e R s mid args below meth c Q ad G D A nL cells slots (bp + 1) L r (up m o i x)) : Go p l e R s mid args below meth c Q ad G D A nL cells slots bp L ((0, x) :: (0, i) :: (t, o) :: r) m := by
  intro H locs ls hP hD hS hL
  rw [List.map_cons, List.map_cons, List.map_cons, cv_o ad o ho, cv_i, cv_i]
  obtain ⟨j, hj, hw9⟩ := WS_at (ad := ad) (G := G) (m := m) ho
  have e1 := WS_set (ad := ad) (G := G) (m := m) (m' := up m o i x) hj (fun a b hab => up_ne hab)
  simp only at e1 hw9
  rw [cell_int (arr_kind ha (by omega)) (Or.inl ha) h0, ha] at e1
  rw [cell_ia (arr_kind ha (by omega)) (Or.inl ha), ha] at hw9
  refine va_iast K.1 K.2.1 K.2.2.2.2.2.1 hP hD hS j 0 hw9 rfl (vp_in_o hi h0 h1) hd (fun H1 locs1 h1 h2 h3 => ?_)
  rw [clamp_o hi, e1] at h1 h2
  exact kk H1 locs1 ls h1 h2 h3 hL
theorem go_last (K : CX NW p R s mid args c own cc ad G D A nL) {t : Nat} {o i x : Int} (ho : (o, t) ∈ UNI) (ha : aty t = 1) (hi : in32 i) (h0 : 0 ≤ i) (h1 : i < aln t) (hd : decode cc bp = .ok (.lastore, 1)) (kk : Go p l e R s mid args below meth c Q ad G D A nL cells slots (bp + 1) L r (up m o i x)) : Go p l e R s mid args below meth c Q ad G D A nL cells slots bp L ((1, x) :: (0, i) :: (t, o) :: r) m := by
  intro H locs ls hP hD hS hL
  rw [List.map_cons, List.map_cons, List.map_cons, cv_o ad o ho, cv_i, cv_l]
  obtain ⟨j, hj, hw9⟩ := WS_at (ad := ad) (G := G) (m := m) ho
  have e1 := WS_set (ad := ad) (G := G) (m := m) (m' := up m o i x) hj (fun a b hab => up_ne hab)
  simp only at e1 hw9
  rw [cell_long (arr_kind ha (by omega)) ha h0] at e1
  rw [cell_la (arr_kind ha (by omega)) ha] at hw9
  refine va_last K.1 K.2.1 K.2.2.2.2.2.1 hP hD hS j 1 hw9 rfl (vp_in_o hi h0 h1) hd (fun H1 locs1 h1 h2 h3 => ?_)
  rw [clamp_o hi, e1] at h1 h2
  exact kk H1 locs1 ls h1 h2 h3 hL
theorem nar_bool {x : Int} (h : x = 0 ∨ x = 1) : vp_nar .boolean (Int32.ofInt x) = Int32.ofInt x := by
  rcases h with rfl | rfl <;> rfl
theorem go_zast (K : CX NW p R s mid args c own cc ad G D A nL) {t : Nat} {o i x : Int} (ho : (o, t) ∈ UNI) (ha : aty t = 2) (hx : x = 0 ∨ x = 1) (hi : in32 i) (h0 : 0 ≤ i) (h1 : i < aln t) (hd : decode cc bp = .ok (.bastore, 1)) (kk : Go p l e R s mid args below meth c Q ad G D A nL cells slots (bp + 1) L r (up m o i x)) : Go p l e R s mid args below meth c Q ad G D A nL cells slots bp L ((0, x) :: (0, i) :: (t, o) :: r) m := by
  intro H locs ls hP hD hS hL
  rw [List.map_cons, List.map_cons, List.map_cons, cv_o ad o ho, cv_i, cv_i]
  obtain ⟨j, hj, hw9⟩ := WS_at (ad := ad) (G := G) (m := m) ho
  have e1 := WS_set (ad := ad) (G := G) (m := m) (m' := up m o i x) hj (fun a b hab => up_ne hab)
  simp only at e1 hw9
  rw [cell_int (arr_kind ha (by omega)) (Or.inr ha) h0, ha] at e1
  rw [cell_ia (arr_kind ha (by omega)) (Or.inr ha), ha] at hw9
  refine va_zast K.1 K.2.1 K.2.2.2.2.2.1 hP hD hS j 2 hw9 rfl (vp_in_o hi h0 h1) hd (fun H1 locs1 h1 h2 h3 => ?_)
  rw [clamp_o hi, nar_bool hx, e1] at h1 h2
  exact kk H1 locs1 ls h1 h2 h3 hL
theorem go_alen (K : CX NW p R s mid args c own cc ad G D A nL) {t : Nat} {o : Int} (ho : (o, t) ∈ UNI) (ha : ¬ aty t = 9) (hd : decode cc bp = .ok (.arraylength, 1)) (kk : Go p l e R s mid args below meth c Q ad G D A nL cells slots (bp + 1) L ((0, aln t) :: r) m) : Go p l e R s mid args below meth c Q ad G D A nL cells slots bp L ((t, o) :: r) m := by
  intro H locs ls hP hD hS hL
  have h := kk H locs ls hP hD hS hL
  rw [List.map_cons, cv_o ad o ho]
  obtain ⟨j, hj, hw9⟩ := WS_at (ad := ad) (G := G) (m := m) ho
  simp only at hw9
  rw [List.map_cons, cv_i, aln_nat] at h
  have ht : ¬ t < 100 := by
    intro z
    exact ha (by unfold aty; rw [if_pos z])
  have hk := UNI_kind _ ho
  simp only at hk
  have h5 : aty t < 5 := by
    unfold aty
    rw [if_neg ht]
    omega
  have hcase : aty t = 0 ∨ aty t = 1 ∨ aty t = 2 ∨ aty t = 3 ∨ aty t = 4 := by omega
  have hl : Int32.ofNat ((t - 100) / 8) = Int32.ofInt (((t - 100) / 8 : Nat) : Int) := rfl
  rcases hcase with h0 | h0 | h0 | h0 | h0
  · rw [cell_ia ht (Or.inl h0), h0] at hw9
    exact va_alen K.1 K.2.1 K.2.2.2.2.2.1 hP j 0 hw9 rfl hl hd h
  · rw [cell_la ht h0] at hw9
    exact va_alen K.1 K.2.1 K.2.2.2.2.2.1 hP j 1 hw9 rfl hl hd h
  · rw [cell_ia ht (Or.inr h0), h0] at hw9
    exact va_alen K.1 K.2.1 K.2.2.2.2.2.1 hP j 2 hw9 rfl hl hd h
  · rw [cell_ra ht (Or.inl h0), h0] at hw9
    exact va_alen K.1 K.2.1 K.2.2.2.2.2.1 hP j 3 hw9 rfl hl hd h
  · rw [cell_ra ht (Or.inr h0), h0] at hw9
    exact va_alen K.1 K.2.1 K.2.2.2.2.2.1 hP j 4 hw9 rfl hl hd h
theorem go_sld (K : CX NW p R s mid args c own cc ad G D A nL) (S : Sc NW ad A s s.heap m) {o i : Int} (hi : in32 i) (h0 : 0 ≤ i) (h1 : i < m 500 (-1)) (hd : decode cc bp = .ok (.iaload, 1)) (kk : Go p l e R s mid args below meth c Q ad G D A nL cells slots (bp + 1) L ((0, m 500 i) :: r) m) : Go p l e R s mid args below meth c Q ad G D A nL cells slots bp L ((0, i) :: (50, o) :: r) m := by
  intro H locs ls hP hD hS hL
  have h := kk H locs ls hP hD hS hL
  obtain ⟨Ls, xs, hX, hb, hA, hl, hlt, hx⟩ := S.1
  rw [hl] at h1
  refine va_sld K.1 K.2.1 hX hb hA hS (vp_in_o hi h0 h1) hd ?_
  have e0 : ((i.toNat : Nat) : Int) = i := Int.toNat_of_nonneg h0
  have e1 := hx i.toNat (by omega)
  rw [e0] at e1
  rw [List.map_cons, cv_i, e1, Int32.ofInt_toInt] at h
  rw [clamp_o hi]
  exact h
theorem go_slen (K : CX NW p R s mid args c own cc ad G D A nL) (S : Sc NW ad A s s.heap m) {o : Int} (hd : decode cc bp = .ok (.arraylength, 1)) (kk : Go p l e R s mid args below meth c Q ad G D A nL cells slots (bp + 1) L ((0, m 500 (-1)) :: r) m) : Go p l e R s mid args below meth c Q ad G D A nL cells slots bp L ((50, o) :: r) m := by
  intro H locs ls hP hD hS hL
  have h := kk H locs ls hP hD hS hL
  obtain ⟨Ls, xs, hX, hb, hA, hl, hlt, hx⟩ := S.1
  rw [List.map_cons, cv_i, hl] at h
  exact va_slen K.1 K.2.1 hX hb hA hS hd h
theorem go_tld (K : CX NW p R s mid args c own cc ad G D A nL) (S : Sc NW ad A s s.heap m) {o i : Int} (hi : in32 i) (h0 : 0 ≤ i) (h1 : i < 4) (hd : decode cc bp = .ok (.iaload, 1)) (kk : Go p l e R s mid args below meth c Q ad G D A nL cells slots (bp + 1) L ((0, m 501 i) :: r) m) : Go p l e R s mid args below meth c Q ad G D A nL cells slots bp L ((0, i) :: (51, o) :: r) m := by
  intro H locs ls hP hD hS hL
  have h := kk H locs ls hP hD hS hL
  obtain ⟨xs, hX, hb, hA, hx⟩ := S.2.1
  refine va_sld K.1 K.2.1 hX hb hA hS (vp_in_o hi h0 (by omega)) hd ?_
  have e0 : ((i.toNat : Nat) : Int) = i := Int.toNat_of_nonneg h0
  have e1 := hx i.toNat (by omega)
  rw [e0] at e1
  rw [List.map_cons, cv_i, e1, Int32.ofInt_toInt] at h
  rw [clamp_o hi]
  exact h
theorem go_tried (K : CX NW p R s mid args c own cc ad G D A nL) (S : Sc NW ad A s s.heap m) {idx : Nat} {o : Int} (hw : Cond.fieldLinkNest own idx RX8 "TRIED" "[I" "ThumbHedges" ∈ NW) (hd : decode cc bp = .ok (.getstatic idx, 3)) (kk : Go p l e R s mid args below meth c Q ad G D A nL cells slots (bp + 3) L ((51, o) :: r) m) : Go p l e R s mid args below meth c Q ad G D A nL cells slots bp L r m := by
  intro H locs ls hP hD hS hL
  have h := kk H locs ls hP hD hS hL
  exact va_getsN K.1 K.2.1 S.2.2.1 hS K.2.2.2.1 (va_Nw.use rfl (K.2.2.2.2.2.2.2.2.2 _ hw)) (fun x hx => hx) hd h
theorem cell_cpy {ad : Int → Nat} {G : Nat → ClassId} {m : Mm} {a d sp dp n : Int} {t : Nat} (ht : aty t = 0) (h0 : 0 ≤ n) (h1 : 0 ≤ sp) (h2 : 0 ≤ dp) :
    cellOf ad G (cpy m a sp d dp n) (d, t) = .inl (G 0, (t - 100) / 8, .inl (va_cpy (fun j => Int32.ofInt (m a (j : Nat))) (fun j => Int32.ofInt (m d (j : Nat))) sp.toNat dp.toNat n.toNat)) := by
  rw [cell_ia (arr_kind ht (by omega)) (Or.inl ht), ht]
  congr 4
  funext j
  unfold va_cpy cpy
  by_cases h : dp.toNat ≤ j ∧ j < dp.toNat + n.toNat
  · have h' : d = d ∧ dp ≤ (j : Int) ∧ (j : Int) < dp + n := by omega
    rw [if_pos h, if_pos h']
    have e : sp + ((j : Int) - dp) = ((sp.toNat + (j - dp.toNat) : Nat) : Int) := by omega
    rw [e]
  · have h' : ¬ (d = d ∧ dp ≤ (j : Int) ∧ (j : Int) < dp + n) := by omega
    rw [if_neg h, if_neg h']
theorem go_acp (K : CX NW p R s mid args c own cc ad G D A nL) {idx ts td : Nat} {a d sp dp n : Int} (hw : Cond.methodLink own idx arraycopyName ∈ WT) (hw2 : Cond.native arraycopyName ∈ WT) (hw3 : Cond.static arraycopyName ∈ WT) (hw4 : Cond.initialized "java/lang/System" ∈ WT) (ho : (a, ts) ∈ UNI) (ho2 : (d, td) ∈ UNI) (ha : aty ts = 0) (ha2 : aty td = 0) (i1 : in32 n) (i2 : in32 sp) (i3 : in32 dp) (h0 : 0 ≤ n) (h1 : 0 ≤ sp) (h2 : 0 ≤ dp) (h3 : sp + n ≤ aln ts) (h4 : dp + n ≤ aln td) (hd : decode cc bp = .ok (.invokestatic idx, 3))
    (kk : Go p l e R s mid args below meth c Q ad G D A nL cells slots (bp + 3) L [] (cpy m a sp d dp n)) : Go p l e R s mid args below meth c Q ad G D A nL cells slots bp L [(0, n), (0, dp), (td, d), (0, sp), (ts, a)] m := by
  intro H locs ls hP hD hS hL
  simp only [List.map_cons, List.map_nil, cv_o ad _ ho, cv_o ad _ ho2, cv_i]
  obtain ⟨j, hj, hw9⟩ := WS_at (ad := ad) (G := G) (m := m) ho
  obtain ⟨j2, hj2, hw92⟩ := WS_at (ad := ad) (G := G) (m := m) ho2
  have e1 := WS_set (ad := ad) (G := G) (m := m) (m' := cpy m a sp d dp n) hj2 (fun x b hab => by simp only at hab; simp [cpy, hab])
  simp only at e1 hw9 hw92
  rw [cell_cpy ha2 h0 h1 h2] at e1
  rw [cell_ia (arr_kind ha (by omega)) (Or.inl ha), ha] at hw9
  rw [cell_ia (arr_kind ha2 (by omega)) (Or.inl ha2), ha2] at hw92
  have neg : ∀ {z : Int}, in32 z → 0 ≤ z → ¬ Int32.ofInt z < 0 := fun hz h q => by
    have := (o32_lt hz in32_lit0).mp q
    omega
  rw [aln_nat] at h3 h4
  refine va_copyi (ty := .int) K.1 K.2.1 (by rw [K.2.2.1, hL.2.1]) K.2.2.2.1 (K.2.2.2.2.1 _ hw) (K.2.2.2.2.1 _ hw2) (K.2.2.2.2.1 _ hw3) (K.2.2.2.2.1 _ hw4) K.2.2.2.2.2.1 hP hD hS j j2 0 0 hw9 hw92 rfl rfl rfl (neg i2 h1) (neg i3 h2) (neg i1 h0) (by rw [clamp_o i2, clamp_o i1]; omega) (by rw [clamp_o i3, clamp_o i1]; omega) (fun _ _ => rfl) K.2.2.2.2.2.2.2.1 (Nat.le_trans (by decide) K.2.2.2.2.2.2.2.2.1) hd (fun H1 locs1 h1 h2 h3 => ?_)
  rw [clamp_o i1, clamp_o i2, clamp_o i3, e1] at h1 h2
  exact kk H1 locs1 ls h1 h2 h3 hL
theorem tsw_ok (d : Int) : ∀ (ts : List Int) (lo x : Int), tsw d lo ts x = if x < lo ∨ lo + ts.length ≤ x then d else ts.getD (x - lo).toNat d := by
  intro ts
  induction ts with
  | nil => intro lo x; simp [tsw]
  | cons t r ih =>
    intro lo x
    unfold tsw
    by_cases h : x = lo
    · subst h
      rw [if_pos rfl, if_neg (by simp; omega)]
      simp
    · rw [if_neg h, ih (lo + 1) x]
      by_cases h2 : x < lo
      · rw [if_pos (Or.inl (by omega)), if_pos (Or.inl h2)]
      · by_cases h3 : lo + ((t :: r).length : Int) ≤ x
        · rw [if_pos (Or.inr (by simp at h3; omega)), if_pos (Or.inr h3)]
        · rw [if_neg (by simp at h3; omega), if_neg (by omega)]
          have : (x - lo).toNat = (x - (lo + 1)).toNat + 1 := by omega
          rw [this]
          simp
theorem go_tsw (K : CX NW p R s mid args c own cc ad G D A nL) {dflt lo hi x : Int} {offs : Array Int} {len tgt : Nat} {d : Int} {ts : List Int} (hx : in32 x) (hd : decode cc bp = .ok (.tableswitch dflt lo hi offs, len)) (hhi : hi = lo + offs.size - 1) (hlen : offs.size = ts.length) (ht : ∀ (f : Int → Int) , True) (hdf : ∀ j : Nat, j < ts.length → x = lo + j → (bp : Int) + offs.getD j 0 = (tgt : Int)) (hdd : (x < lo ∨ lo + ts.length ≤ x) → (bp : Int) + dflt = (tgt : Int)) (kk : Go p l e R s mid args below meth c Q ad G D A nL cells slots tgt L r m) : Go p l e R s mid args below meth c Q ad G D A nL cells slots bp L ((0, x) :: r) m := by
  intro H locs ls hP hD hS hL
  have h := kk H locs ls hP hD hS hL
  show W p l e R s mid args below meth c H locs cells slots Q (F0 mid bp ls (.int (Int32.ofInt x) :: r.map (cv ad)))
  have e0 := i32_of hx
  by_cases hin : x < lo ∨ lo + ts.length ≤ x
  · exact lv_tableOut K.1 K.2.1 hd (by rw [e0, hhi, hlen]; omega) (hdd hin) h
  · have hj : (x - lo).toNat < offs.size := by omega
    refine lv_tableIn (off := offs.getD (x - lo).toNat 0) K.1 K.2.1 hd (by rw [e0]; omega) (by rw [e0, hhi, hlen]; omega) (by rw [e0]; simp [Array.getD, hj]) (hdf (x - lo).toNat (by omega) (by omega)) h
end MEM
end
section
/-! LINKS: constants, fields, methods by the owner's number and the pool's index; their words by their places in the tables -/
def OWNL : List String := ["ThumbHedges$Farm", "ThumbHedges$Hands", "ThumbHedges$Judge", "ThumbHedges$Land", "ThumbHedges$Maze", "ThumbHedges$Plan", "ThumbHedges$Reader", "ThumbHedges$Text", "ThumbHedges", "ThumbHedgesModel", "ThumbHedgesLaw", "java/lang/Integer", "java/lang/Long", "java/lang/Math"]
def OWNN (i : Nat) : String := OWNL.getD i ""
def CIT : List (Nat × Nat × Int) := [(8, 65, 1048575), (8, 89, 33080895), (11, 265, 1431655765), (11, 266, 858993459), (11, 267, 252645135), (4, 28, 1048575), (4, 33, 33554431), (4, 32, 16236015), (4, 77, 33080895), (9, 119, 1048575), (9, 155, 99999), (9, 458, 1000000), (9, 472, 33554431)]
def CLT : List (Nat × Nat × Int) := [(3, 51, (-1)), (12, 314, 6148914691236517205), (12, 316, 3689348814741910323), (12, 318, 1085102592571150095), (2, 119, (-1000000)), (2, 121, 1000000), (1, 15, 1048575), (8, 320, (-1)), (9, 163, 1152921504606846976), (9, 301, 40), (9, 303, 25), (9, 293, 1000000), (9, 295, (-1000000)), (9, 356, 587), (9, 358, 457), (9, 360, 30817), (9, 480, (-1))]
theorem CIT_in : ∀ w ∈ CIT.map (fun q => Cond.constant (OWNN q.1) q.2.1 (Int32.ofInt q.2.2)), w ∈ lw_tbl := mem_places [421, 459, 831, 832, 833, 989, 994, 1079, 1168, 1403, 1456, 1843, 1869] (by decide +kernel)
theorem CLT_in : ∀ w ∈ CLT.map (fun q => Cond.constantLong (OWNN q.1) q.2.1 (Int64.ofInt q.2.2)), w ∈ lw_tbl := mem_places [776, 862, 863, 864, 884, 885, 985, 1130, 1460, 1710, 1714, 1724, 1725, 1755, 1756, 1757, 1891] (by decide +kernel)
def FLT : List (Nat × Nat × Bool × Nat × Nat) := [(3, 35, false, 3, 0), (2, 80, true, 3, 0), (8, 157, true, 3, 0), (3, 25, false, 3, 1), (8, 334, true, 3, 1), (3, 9, false, 3, 2), (2, 60, true, 3, 2), (8, 169, true, 3, 2), (3, 15, false, 3, 3), (2, 65, true, 3, 3), (8, 225, true, 3, 3), (3, 28, false, 3, 4), (8, 176, true, 3, 4), (3, 39, false, 3, 5), (2, 74, true, 3, 5), (8, 173, true, 3, 5), (3, 18, false, 3, 6), (8, 203, true, 3, 6), (3, 42, false, 3, 7), (8, 275, true, 3, 7), (3, 22, false, 3, 8), (0, 12, false, 0, 0), (8, 82, true, 0, 0), (0, 18, false, 0, 1), (0, 37, false, 0, 2), (0, 40, false, 0, 3), (8, 216, true, 0, 3), (0, 43, false, 0, 4), (8, 90, true, 0, 4), (8, 66, true, 0, 5), (0, 46, false, 0, 5), (0, 49, false, 0, 6), (8, 103, true, 0, 6), (0, 22, false, 0, 7), (8, 129, true, 0, 7), (0, 52, false, 0, 8), (8, 361, true, 0, 8), (0, 26, false, 0, 9), (8, 364, true, 0, 9), (0, 30, false, 0, 10), (8, 367, true, 0, 10), (1, 9, false, 1, 0), (7, 24, false, 6, 0), (6, 65, true, 6, 0), (8, 188, true, 6, 0), (7, 9, false, 6, 1), (8, 191, true, 6, 1), (7, 15, false, 6, 2), (8, 194, true, 6, 2), (7, 18, false, 6, 3), (6, 105, true, 6, 3), (8, 197, true, 6, 3), (7, 21, false, 6, 4), (2, 34, true, 6, 4), (7, 28, false, 6, 5), (6, 138, true, 6, 5), (2, 18, true, 6, 6), (7, 31, false, 6, 6), (2, 37, true, 6, 7), (7, 44, false, 6, 7), (2, 41, true, 6, 8), (7, 47, false, 6, 8), (7, 35, false, 6, 9), (2, 57, true, 6, 9), (2, 68, true, 6, 10), (7, 50, false, 6, 10), (2, 71, true, 6, 11), (7, 53, false, 6, 11), (6, 9, false, 5, 0), (6, 22, false, 5, 1), (8, 100, true, 5, 1), (6, 18, false, 5, 2), (8, 109, true, 5, 2), (6, 26, false, 5, 3), (8, 116, true, 5, 3), (6, 30, false, 5, 4), (8, 120, true, 5, 4), (6, 33, false, 5, 5), (8, 123, true, 5, 5), (6, 48, false, 5, 6), (6, 55, false, 5, 7), (6, 98, false, 5, 8), (6, 42, false, 5, 9), (6, 74, false, 5, 10), (6, 39, false, 5, 11), (2, 9, false, 2, 0), (2, 15, false, 2, 1), (2, 90, false, 2, 2), (4, 21, false, 4, 0), (4, 29, false, 4, 1), (4, 9, false, 4, 2), (8, 12, false, 7, 0), (8, 16, false, 7, 1), (8, 22, false, 7, 2), (8, 28, false, 7, 3), (8, 33, false, 7, 4), (8, 40, false, 7, 5), (8, 47, false, 7, 6), (8, 54, false, 7, 7), (8, 61, false, 7, 8), (9, 7, false, 8, 0), (9, 13, false, 8, 1), (9, 16, false, 8, 2), (9, 19, false, 8, 3), (9, 22, false, 8, 4), (9, 130, false, 8, 5), (9, 25, false, 8, 6), (9, 29, false, 8, 7), (9, 137, false, 8, 8), (9, 143, false, 8, 9), (9, 146, false, 8, 10), (9, 152, false, 8, 11), (9, 159, false, 8, 12), (9, 184, false, 8, 13), (9, 187, false, 8, 14), (9, 194, false, 8, 15), (9, 32, false, 8, 16), (9, 197, false, 8, 17), (9, 207, false, 8, 18), (9, 243, false, 8, 19), (9, 281, false, 8, 20), (9, 35, false, 8, 21), (9, 38, false, 8, 22), (9, 42, false, 8, 23), (9, 46, false, 8, 24), (9, 371, false, 8, 25), (9, 50, false, 8, 26), (9, 53, false, 8, 27), (9, 56, false, 8, 28), (9, 59, false, 8, 29), (9, 62, false, 8, 30), (9, 65, false, 8, 31), (9, 68, false, 8, 32), (9, 71, false, 8, 33)]
def FLW (q : Nat × Nat × Bool × Nat × Nat) : Cond := fword (OWNN q.1) q.2.1 q.2.2.1 q.2.2.2.1 q.2.2.2.2
theorem FLT_in : ∀ w ∈ FLT.map FLW, w ∈ lw_tbl := mem_places [151, 152, 153, 154, 155, 156, 157, 158, 159, 160, 161, 162, 163, 164, 165, 166, 167, 168, 169, 170, 171, 193, 194, 195, 196, 197, 198, 199, 200, 201, 202, 203, 204, 205, 206, 207, 208, 209, 210, 211, 212, 242, 254, 255, 256, 257, 258, 259, 260, 261, 262, 263, 264, 265, 266, 267, 268, 269, 270, 271, 272, 273, 274, 275, 276, 277, 278, 279, 313, 314, 315, 316, 317, 318, 319, 320, 321, 322, 323, 324, 325, 326, 327, 328, 329, 361, 362, 363, 377, 378, 379, 389, 390, 391, 392, 393, 394, 395, 396, 397, 1295, 1296, 1297, 1298, 1299, 1300, 1301, 1302, 1303, 1304, 1305, 1306, 1307, 1308, 1309, 1310, 1311, 1312, 1313, 1314, 1315, 1316, 1317, 1318, 1319, 1320, 1321, 1322, 1323, 1324, 1325, 1326, 1327, 1328] (by decide +kernel)
def TRW : Cond := .fieldLinkNest RX3 94 RX8 "TRIED" "[I" "ThumbHedges"
def NWL : List Cond := TRW :: (FLT.filter (fun q => q.2.2.1)).map FLW
theorem FLT_w {q : Nat × Nat × Bool × Nat × Nat} (h : q ∈ FLT) : if q.2.2.1 = true then FLW q ∈ NWL else FLW q ∈ WT := by
  split
  · rename_i h1
    exact List.mem_cons_of_mem _ (List.mem_map.mpr ⟨q, List.mem_filter.mpr ⟨h, h1⟩, rfl⟩)
  · rename_i h1
    refine WT_in (FLT_in _ (List.mem_map.mpr ⟨q, h, rfl⟩)) ?_
    simp only [FLW, fword, if_neg h1]
    rfl
theorem CIT_w {q : Nat × Nat × Int} (h : q ∈ CIT) : Cond.constant (OWNN q.1) q.2.1 (Int32.ofInt q.2.2) ∈ WT := WT_in (CIT_in _ (List.mem_map.mpr ⟨q, h, rfl⟩)) rfl
theorem CLT_w {q : Nat × Nat × Int} (h : q ∈ CLT) : Cond.constantLong (OWNN q.1) q.2.1 (Int64.ofInt q.2.2) ∈ WT := WT_in (CLT_in _ (List.mem_map.mpr ⟨q, h, rfl⟩)) rfl
def YL0 : List MethodName := [⟨"ThumbHedges$Farm", "copyFrom", "(LThumbHedges$Farm;)V"⟩, ⟨"ThumbHedges$Farm", "markStep", "()V"⟩, ⟨"ThumbHedges$Farm", "takeBack", "()Z"⟩, ⟨"ThumbHedges$Hands", "isTurn", "(I)Z"⟩, ⟨"ThumbHedges$Hands", "eastOf", "(J)I"⟩, ⟨"ThumbHedges$Hands", "southOf", "(J)I"⟩, ⟨"ThumbHedges$Hands", "keep", "(IJ)V"⟩, ⟨"ThumbHedges$Hands", "mirrored", "(J)J"⟩, ⟨"ThumbHedges$Hands", "mirroredHedge", "(I)I"⟩, ⟨"ThumbHedges$Hands", "quarterRight", "(J)J"⟩, ⟨"ThumbHedges$Hands", "quarterHedge", "(I)I"⟩, ⟨"ThumbHedges$Hands", "pattern", "(II)J"⟩, ⟨"ThumbHedges$Hands", "unlikeness", "(IIJ)I"⟩, ⟨"ThumbHedges$Hands", "likestTurn", "(IJ)I"⟩, ⟨"ThumbHedges$Hands", "turnInto", "(II)I"⟩, ⟨"ThumbHedges$Hands", "hasElderTwin", "(I)Z"⟩, ⟨"ThumbHedges$Hands", "selfTurns", "(I)I"⟩, ⟨"ThumbHedges$Hands", "partingHedge", "(IJI)I"⟩, ⟨"ThumbHedges$Hands", "likePatterns", "(IJII)I"⟩, ⟨"ThumbHedges$Judge", "frostsOf", "(LThumbHedges$Text;LThumbHedges$Land;I)I"⟩, ⟨"ThumbHedges$Judge", "goesOf", "(LThumbHedges$Text;LThumbHedges$Land;I)I"⟩, ⟨"ThumbHedges$Judge", "nameCommon", "(LThumbHedges$Land;I)V"⟩, ⟨"ThumbHedges$Judge", "valueOf", "([IIILThumbHedges$Land;)I"⟩, ⟨"ThumbHedges$Judge", "pop", "()I"⟩, ⟨"ThumbHedges$Judge", "push", "(I)V"⟩, ⟨"ThumbHedges$Judge", "ofTwo", "(III)I"⟩, ⟨"ThumbHedges$Judge", "bounded", "(J)I"⟩, ⟨"ThumbHedges$Judge", "compares", "(III)Z"⟩, ⟨"ThumbHedges$Land", "copyFrom", "(LThumbHedges$Land;)V"⟩, ⟨"ThumbHedges$Land", "takeBackTo", "(LThumbHedges$Land;)V"⟩, ⟨"ThumbHedges$Land", "tellCow", "(II)I"⟩, ⟨"ThumbHedges$Land", "isCow", "(I)Z"⟩, ⟨"ThumbHedges$Land", "isHome", "(I)Z"⟩, ⟨"ThumbHedges$Land", "hasHedge", "(I)Z"⟩, ⟨"ThumbHedges$Land", "addHedge", "(I)V"⟩, ⟨"ThumbHedges$Land", "removeHedge", "(I)V"⟩, ⟨"ThumbHedges$Land", "isOpen", "(II)Z"⟩, ⟨"ThumbHedges$Land", "openWays", "(I)I"⟩, ⟨"ThumbHedges$Land", "around", "(I)I"⟩, ⟨"ThumbHedges$Land", "canGo", "(II)Z"⟩, ⟨"ThumbHedges$Land", "comesHome", "(III)Z"⟩, ⟨"ThumbHedges$Land", "wander", "(II)V"⟩, ⟨"ThumbHedges$Land", "wayByHedge", "(II)I"⟩, ⟨"ThumbHedges$Land", "draw", "()I"⟩, ⟨"ThumbHedges$Land", "write", "(II)V"⟩, ⟨"ThumbHedges$Land", "lineHour", "(I)I"⟩, ⟨"ThumbHedges$Land", "lineKind", "(I)I"⟩, ⟨"ThumbHedges$Land", "lineWhich", "(I)I"⟩, ⟨"ThumbHedges$Land", "stepsHome", "(II)I"⟩, ⟨"ThumbHedges$Land", "ringOf", "(I)I"⟩, ⟨"ThumbHedges$Maze", "layOut", "(J)V"⟩, ⟨"ThumbHedges$Maze", "grown", "(I)I"⟩, ⟨"ThumbHedges$Maze", "grownOver", "(I)I"⟩, ⟨"ThumbHedges$Maze", "within", "(II)I"⟩, ⟨"ThumbHedges$Maze", "flooded", "(II)I"⟩, ⟨"ThumbHedges$Maze", "regionOf", "(I)I"⟩, ⟨"ThumbHedges$Maze", "milesTo", "(II)I"⟩, ⟨"ThumbHedges$Maze", "wayNearer", "(III)I"⟩, ⟨"ThumbHedges$Maze", "cutsTo", "(II)I"⟩, ⟨"ThumbHedges$Maze", "farthestFrom", "(I)I"⟩]
def YL1 : List MethodName := [⟨"ThumbHedges$Maze", "lowest", "(I)I"⟩, ⟨"ThumbHedges$Maze", "regionCount", "()I"⟩, ⟨"ThumbHedges$Maze", "greatestRegion", "()I"⟩, ⟨"ThumbHedges$Maze", "isNeck", "(I)Z"⟩, ⟨"ThumbHedges$Maze", "pathsTo", "(II)J"⟩, ⟨"ThumbHedges$Maze", "pathsOn", "(IIII)J"⟩, ⟨"ThumbHedges$Maze", "fewestGates", "(I)I"⟩, ⟨"ThumbHedges$Maze", "lowestCover", "(III)I"⟩, ⟨"ThumbHedges$Plan", "isCell", "(I)Z"⟩, ⟨"ThumbHedges$Plan", "isWay", "(I)Z"⟩, ⟨"ThumbHedges$Plan", "isHedge", "(I)Z"⟩, ⟨"ThumbHedges$Plan", "cellBeyond", "(II)I"⟩, ⟨"ThumbHedges$Plan", "hedgeBy", "(II)I"⟩, ⟨"ThumbHedges$Plan", "firstCell", "(I)I"⟩, ⟨"ThumbHedges$Plan", "secondCell", "(I)I"⟩, ⟨"ThumbHedges$Plan", "apart", "(II)I"⟩, ⟨"ThumbHedges$Reader", "hasRoomFor", "(I)Z"⟩, ⟨"ThumbHedges$Reader", "addFour", "(I)V"⟩, ⟨"ThumbHedges$Reader", "reads", "()Z"⟩, ⟨"ThumbHedges$Reader", "refuse", "(I)Z"⟩, ⟨"ThumbHedges$Reader", "take", "(I)Z"⟩, ⟨"ThumbHedges$Reader", "clause", "()Z"⟩, ⟨"ThumbHedges$Reader", "deed", "(I)Z"⟩, ⟨"ThumbHedges$Reader", "oneNumber", "(III)Z"⟩, ⟨"ThumbHedges$Reader", "secondNumber", "(II)Z"⟩, ⟨"ThumbHedges$Reader", "isNumber", "(II)Z"⟩, ⟨"ThumbHedges$Reader", "sum", "()Z"⟩, ⟨"ThumbHedges$Reader", "product", "()Z"⟩, ⟨"ThumbHedges$Reader", "one", "()Z"⟩, ⟨"ThumbHedges$Reader", "emitAndAdvance", "(II)Z"⟩, ⟨"ThumbHedges$Reader", "isNameHere", "()Z"⟩, ⟨"ThumbHedges$Reader", "nested", "()Z"⟩, ⟨"ThumbHedges$Reader", "inside", "(I)Z"⟩, ⟨"ThumbHedges$Reader", "choice", "()Z"⟩, ⟨"ThumbHedges$Reader", "either", "()Z"⟩, ⟨"ThumbHedges$Reader", "both", "()Z"⟩, ⟨"ThumbHedges$Reader", "ask", "()Z"⟩, ⟨"ThumbHedges$Reader", "advance", "()V"⟩, ⟨"ThumbHedges$Reader", "isBlank", "(I)Z"⟩, ⟨"ThumbHedges$Reader", "isLetter", "(I)Z"⟩, ⟨"ThumbHedges$Reader", "isDigit", "(I)Z"⟩, ⟨"ThumbHedges$Reader", "wordRead", "()I"⟩, ⟨"ThumbHedges$Reader", "digitsRead", "()I"⟩, ⟨"ThumbHedges$Reader", "signRead", "()I"⟩, ⟨"ThumbHedges$Text", "clear", "()V"⟩, ⟨"ThumbHedges$Text", "copyFrom", "(LThumbHedges$Text;)V"⟩, ⟨"ThumbHedges$Text", "addClause", "(III)V"⟩, ⟨"ThumbHedges$Text", "has", "(I)Z"⟩, ⟨"ThumbHedges$Text", "beginLaw", "(I)V"⟩, ⟨"ThumbHedges$Text", "endLaw", "(I)V"⟩, ⟨"ThumbHedges$Text", "emit", "(II)Z"⟩, ⟨"ThumbHedges$Text", "landHere", "(I)V"⟩, ⟨"ThumbHedges", "hand", "(II)I"⟩, ⟨"ThumbHedges", "cow", "(II)I"⟩, ⟨"ThumbHedges", "gate", "(IZ)Z"⟩, ⟨"ThumbHedges", "feed", "(IIIII)I"⟩, ⟨"ThumbHedges", "end", "(I)I"⟩, ⟨"ThumbHedges", "text", "()I"⟩, ⟨"ThumbHedges", "fault", "(I)I"⟩, ⟨"ThumbHedges", "by", "(I)Z"⟩]
def YL2 : List MethodName := [⟨"ThumbHedges", "plant", "(I)Z"⟩, ⟨"ThumbHedges", "cut", "(I)Z"⟩, ⟨"ThumbHedges", "press", "(II)Z"⟩, ⟨"ThumbHedges", "go", "(II)I"⟩, ⟨"ThumbHedges", "hour", "(I)I"⟩, ⟨"ThumbHedges", "played", "(I)I"⟩, ⟨"ThumbHedges", "years", "(II)I"⟩, ⟨"ThumbHedges", "undo", "()I"⟩, ⟨"ThumbHedges", "of", "(II)I"⟩, ⟨"ThumbHedges", "cell", "(II)I"⟩, ⟨"ThumbHedges", "hedge", "(II)I"⟩, ⟨"ThumbHedges", "between", "(II)I"⟩, ⟨"ThumbHedges", "is", "(I)I"⟩, ⟨"ThumbHedges", "book", "(II)I"⟩, ⟨"ThumbHedges", "foretold", "(II)I"⟩, ⟨"ThumbHedges", "miles", "(II)I"⟩, ⟨"ThumbHedges", "way", "(III)I"⟩, ⟨"ThumbHedges", "cuts", "(II)I"⟩, ⟨"ThumbHedges", "farthest", "(I)I"⟩, ⟨"ThumbHedges", "wide", "()I"⟩, ⟨"ThumbHedges", "regions", "(Z)I"⟩, ⟨"ThumbHedges", "rings", "()I"⟩, ⟨"ThumbHedges", "ends", "()I"⟩, ⟨"ThumbHedges", "necks", "()I"⟩, ⟨"ThumbHedges", "paths", "(II)J"⟩, ⟨"ThumbHedges", "walk", "(IZ)I"⟩, ⟨"ThumbHedges", "home", "(I)I"⟩, ⟨"ThumbHedges", "gates", "(IZ)I"⟩, ⟨"ThumbHedges", "turned", "(IIZ)I"⟩, ⟨"ThumbHedges", "unlike", "(IZ)I"⟩, ⟨"ThumbHedges", "owner", "(I)I"⟩, ⟨"ThumbHedges", "twins", "(II)I"⟩, ⟨"ThumbHedges", "kinds", "()I"⟩, ⟨"ThumbHedges", "selves", "(I)I"⟩, ⟨"ThumbHedges", "look", "(I)I"⟩, ⟨"ThumbHedges", "said", "(II)I"⟩, ⟨"ThumbHedges", "whose", "()I"⟩, ⟨"ThumbHedges", "thickest", "()I"⟩, ⟨"ThumbHedges", "ledger", "(I)I"⟩, ⟨"ThumbHedges", "image", "()I"⟩, ⟨"ThumbHedges", "back", "()I"⟩, ⟨"ThumbHedges", "about", "(I)I"⟩, ⟨"ThumbHedges", "isHand", "(I)Z"⟩, ⟨"ThumbHedges", "isText", "(I)Z"⟩, ⟨"ThumbHedges", "ruling", "()LThumbHedges$Text;"⟩, ⟨"ThumbHedges", "mazeNow", "()LThumbHedges$Maze;"⟩, ⟨"ThumbHedges", "passHours", "(I)Z"⟩, ⟨"ThumbHedges", "passHour", "(LThumbHedges$Land;)V"⟩, ⟨"ThumbHedges", "does", "(III)Z"⟩, ⟨"ThumbHedges", "befall", "(I)V"⟩, ⟨"ThumbHedges", "saysAll", "(LThumbHedges$Text;)Z"⟩, ⟨"ThumbHedgesModel", "copy", "([I[I)V"⟩, ⟨"ThumbHedgesModel", "isIn", "(III)Z"⟩, ⟨"ThumbHedgesModel", "held", "(JII)I"⟩, ⟨"ThumbHedgesModel", "size", "(I)I"⟩, ⟨"ThumbHedgesModel", "has", "(II)Z"⟩, ⟨"ThumbHedgesModel", "bits", "(I)I"⟩, ⟨"ThumbHedgesModel", "isCell", "(I)Z"⟩, ⟨"ThumbHedgesModel", "isHedge", "(I)Z"⟩, ⟨"ThumbHedgesModel", "isRim", "(I)Z"⟩]
def YL3 : List MethodName := [⟨"ThumbHedgesModel", "isHand", "(I)Z"⟩, ⟨"ThumbHedgesModel", "isCow", "(I)Z"⟩, ⟨"ThumbHedgesModel", "beside", "(II)I"⟩, ⟨"ThumbHedgesModel", "hedgeOf", "(II)I"⟩, ⟨"ThumbHedgesModel", "westOf", "(I)I"⟩, ⟨"ThumbHedgesModel", "eastOf", "(I)I"⟩, ⟨"ThumbHedgesModel", "cellTurned", "(II)I"⟩, ⟨"ThumbHedgesModel", "layTurns", "()V"⟩, ⟨"ThumbHedgesModel", "isThere", "(I)Z"⟩, ⟨"ThumbHedgesModel", "change", "(I)V"⟩, ⟨"ThumbHedgesModel", "isOpen", "(II)Z"⟩, ⟨"ThumbHedgesModel", "openOf", "(I)I"⟩, ⟨"ThumbHedgesModel", "aroundOf", "(I)I"⟩, ⟨"ThumbHedgesModel", "allNow", "()I"⟩, ⟨"ThumbHedgesModel", "cellOf", "(I)I"⟩, ⟨"ThumbHedgesModel", "wayOf", "(I)I"⟩, ⟨"ThumbHedgesModel", "put", "(III)V"⟩, ⟨"ThumbHedgesModel", "hand", "(II)I"⟩, ⟨"ThumbHedgesModel", "cow", "(II)I"⟩, ⟨"ThumbHedgesModel", "gate", "(IZ)Z"⟩, ⟨"ThumbHedgesModel", "four", "(I)V"⟩, ⟨"ThumbHedgesModel", "feed", "(IIIII)I"⟩, ⟨"ThumbHedgesModel", "end", "(I)I"⟩, ⟨"ThumbHedgesModel", "byteAt", "(I)I"⟩, ⟨"ThumbHedgesModel", "isLetterByte", "(I)Z"⟩, ⟨"ThumbHedgesModel", "isFigure", "(I)Z"⟩, ⟨"ThumbHedgesModel", "isSign", "(I)Z"⟩, ⟨"ThumbHedgesModel", "nextToken", "()V"⟩, ⟨"ThumbHedgesModel", "w2", "(II)J"⟩, ⟨"ThumbHedgesModel", "w3", "(III)J"⟩, ⟨"ThumbHedgesModel", "w4", "(IIII)J"⟩, ⟨"ThumbHedgesModel", "w5", "(IIIII)J"⟩, ⟨"ThumbHedgesModel", "w6", "(IIIIII)J"⟩, ⟨"ThumbHedgesModel", "isWord", "(J)Z"⟩, ⟨"ThumbHedgesModel", "emit", "(II)V"⟩, ⟨"ThumbHedgesModel", "nameOf", "()I"⟩, ⟨"ThumbHedgesModel", "isOf", "(I)Z"⟩, ⟨"ThumbHedgesModel", "rank", "(I)I"⟩, ⟨"ThumbHedgesModel", "settle", "(I)V"⟩, ⟨"ThumbHedgesModel", "openAt", "()I"⟩, ⟨"ThumbHedgesModel", "openNow", "()I"⟩, ⟨"ThumbHedgesModel", "isCompared", "()Z"⟩, ⟨"ThumbHedgesModel", "isAskAhead", "()Z"⟩, ⟨"ThumbHedgesModel", "opened", "(I)I"⟩, ⟨"ThumbHedgesModel", "beginOne", "()I"⟩, ⟨"ThumbHedgesModel", "endOne", "()I"⟩, ⟨"ThumbHedgesModel", "compareOf", "()I"⟩, ⟨"ThumbHedgesModel", "betweenOf", "()I"⟩, ⟨"ThumbHedgesModel", "partOf", "(I)I"⟩, ⟨"ThumbHedgesModel", "behindOne", "()I"⟩, ⟨"ThumbHedgesModel", "summed", "()I"⟩, ⟨"ThumbHedgesModel", "figure", "(III)I"⟩, ⟨"ThumbHedgesModel", "lawClause", "(I)I"⟩, ⟨"ThumbHedgesModel", "pair", "(IIJI)I"⟩, ⟨"ThumbHedgesModel", "body", "(II)I"⟩, ⟨"ThumbHedgesModel", "sortOf", "()I"⟩, ⟨"ThumbHedgesModel", "clause", "()I"⟩, ⟨"ThumbHedgesModel", "readText", "()I"⟩, ⟨"ThumbHedgesModel", "text", "()I"⟩, ⟨"ThumbHedgesModel", "fault", "(I)I"⟩]
def YL4 : List MethodName := [⟨"ThumbHedgesModel", "by", "(I)Z"⟩, ⟨"ThumbHedgesModel", "clip", "(J)J"⟩, ⟨"ThumbHedgesModel", "two", "(IJJ)J"⟩, ⟨"ThumbHedgesModel", "isAsked", "(IJJ)Z"⟩, ⟨"ThumbHedgesModel", "hedgeThere", "(J)J"⟩, ⟨"ThumbHedgesModel", "apart", "(II)I"⟩, ⟨"ThumbHedgesModel", "farOf", "(JJ)J"⟩, ⟨"ThumbHedgesModel", "joined", "(IZZ)Z"⟩, ⟨"ThumbHedgesModel", "summedUp", "(II)J"⟩, ⟨"ThumbHedgesModel", "says", "(IIIII)I"⟩, ⟨"ThumbHedgesModel", "name", "(I)V"⟩, ⟨"ThumbHedgesModel", "frostsOf", "(II)I"⟩, ⟨"ThumbHedgesModel", "goesOf", "(I)I"⟩, ⟨"ThumbHedgesModel", "write", "(II)V"⟩, ⟨"ThumbHedgesModel", "drawnBy", "(I)I"⟩, ⟨"ThumbHedgesModel", "anew", "()V"⟩, ⟨"ThumbHedgesModel", "isHome", "(I)Z"⟩, ⟨"ThumbHedgesModel", "goNow", "(II)I"⟩, ⟨"ThumbHedgesModel", "onward", "(II)I"⟩, ⟨"ThumbHedgesModel", "goOn", "(I)V"⟩, ⟨"ThumbHedgesModel", "pass", "()V"⟩, ⟨"ThumbHedgesModel", "turnedBy", "(IIIZ)I"⟩, ⟨"ThumbHedgesModel", "ofHand", "(IIZ)I"⟩, ⟨"ThumbHedgesModel", "pressNow", "(II)V"⟩, ⟨"ThumbHedgesModel", "keep", "()V"⟩, ⟨"ThumbHedgesModel", "undo", "()I"⟩, ⟨"ThumbHedgesModel", "plant", "(I)Z"⟩, ⟨"ThumbHedgesModel", "cut", "(I)Z"⟩, ⟨"ThumbHedgesModel", "press", "(II)Z"⟩, ⟨"ThumbHedgesModel", "canGo", "(II)Z"⟩, ⟨"ThumbHedgesModel", "go", "(II)I"⟩, ⟨"ThumbHedgesModel", "arePassed", "(I)Z"⟩, ⟨"ThumbHedgesModel", "hour", "(I)I"⟩, ⟨"ThumbHedgesModel", "isPlayed", "(I)Z"⟩, ⟨"ThumbHedgesModel", "played", "(I)I"⟩, ⟨"ThumbHedgesModel", "happens", "(I)V"⟩, ⟨"ThumbHedgesModel", "years", "(II)I"⟩, ⟨"ThumbHedgesModel", "of", "(II)I"⟩, ⟨"ThumbHedgesModel", "cell", "(II)I"⟩, ⟨"ThumbHedgesModel", "hedge", "(II)I"⟩, ⟨"ThumbHedgesModel", "between", "(II)I"⟩, ⟨"ThumbHedgesModel", "is", "(I)I"⟩, ⟨"ThumbHedgesModel", "entry", "(II)I"⟩, ⟨"ThumbHedgesModel", "book", "(II)I"⟩, ⟨"ThumbHedgesModel", "ledger", "(I)I"⟩, ⟨"ThumbHedgesModel", "thickest", "()I"⟩, ⟨"ThumbHedgesModel", "foretold", "(II)I"⟩, ⟨"ThumbHedgesModel", "layFar", "(IZ)V"⟩, ⟨"ThumbHedgesModel", "areCells", "(II)Z"⟩, ⟨"ThumbHedgesModel", "miles", "(II)I"⟩, ⟨"ThumbHedgesModel", "way", "(III)I"⟩, ⟨"ThumbHedgesModel", "cuts", "(II)I"⟩, ⟨"ThumbHedgesModel", "farthestNow", "()I"⟩, ⟨"ThumbHedgesModel", "farthest", "(I)I"⟩, ⟨"ThumbHedgesModel", "wide", "()I"⟩, ⟨"ThumbHedgesModel", "regionOf", "(II)I"⟩, ⟨"ThumbHedgesModel", "regions", "(Z)I"⟩, ⟨"ThumbHedgesModel", "rings", "()I"⟩, ⟨"ThumbHedgesModel", "ends", "()I"⟩, ⟨"ThumbHedgesModel", "isNeck", "(I)Z"⟩]
def YL5 : List MethodName := [⟨"ThumbHedgesModel", "necks", "()I"⟩, ⟨"ThumbHedgesModel", "paths", "(II)J"⟩, ⟨"ThumbHedgesModel", "walk", "(IZ)I"⟩, ⟨"ThumbHedgesModel", "home", "(I)I"⟩, ⟨"ThumbHedgesModel", "gates", "(IZ)I"⟩, ⟨"ThumbHedgesModel", "layReach", "(I)V"⟩, ⟨"ThumbHedgesModel", "lowestGates", "(I)I"⟩, ⟨"ThumbHedgesModel", "turned", "(IIZ)I"⟩, ⟨"ThumbHedgesModel", "unlikeBy", "(II)I"⟩, ⟨"ThumbHedgesModel", "bestTurn", "(I)I"⟩, ⟨"ThumbHedgesModel", "unlike", "(IZ)I"⟩, ⟨"ThumbHedgesModel", "owner", "(I)I"⟩, ⟨"ThumbHedgesModel", "twinBy", "(II)I"⟩, ⟨"ThumbHedgesModel", "twins", "(II)I"⟩, ⟨"ThumbHedgesModel", "kinds", "()I"⟩, ⟨"ThumbHedgesModel", "selves", "(I)I"⟩, ⟨"ThumbHedgesModel", "look", "(I)I"⟩, ⟨"ThumbHedgesModel", "said", "(II)I"⟩, ⟨"ThumbHedgesModel", "whose", "()I"⟩, ⟨"ThumbHedgesModel", "image", "()I"⟩, ⟨"ThumbHedgesModel", "back", "()I"⟩, ⟨"ThumbHedgesModel", "about", "(I)I"⟩, ⟨"java/lang/Integer", "bitCount", "(I)I"⟩, ⟨"java/lang/Long", "bitCount", "(J)I"⟩, ⟨"ThumbHedgesLaw", "law", "([I)Z"⟩]
def YL : List MethodName := (YL0 ++ (YL1 ++ (YL2 ++ (YL3 ++ (YL4 ++ YL5)))))
def YN (k : Nat) : MethodName := YL.getD k ⟨"", "", ""⟩
def MLT0 : List (Nat × Nat × Nat) := [(10, 13, 112), (8, 69, 6), (1, 17, 7), (1, 24, 8), (1, 28, 73), (1, 21, 9), (1, 33, 10), (10, 18, 113), (8, 73, 68), (8, 79, 69), (8, 85, 30), (10, 22, 114), (10, 27, 115), (8, 93, 76), (8, 96, 77), (10, 32, 116), (10, 37, 117), (8, 105, 78), (6, 36, 104), (6, 45, 97), (6, 147, 98), (6, 150, 99), (6, 153, 101), (6, 157, 100), (6, 160, 102), (6, 163, 103), (6, 51, 81), (6, 58, 79), (6, 62, 107), (6, 68, 82), (6, 87, 83), (6, 95, 85), (6, 101, 106), (6, 91, 84), (6, 71, 80), (6, 77, 108), (7, 56, 106), (6, 81, 86), (6, 108, 87), (6, 114, 88), (6, 117, 89), (6, 111, 110), (6, 120, 90), (6, 123, 91), (6, 126, 92), (6, 129, 96), (6, 132, 93), (6, 135, 94), (6, 144, 95), (6, 141, 111), (6, 84, 109), (8, 112, 105), (10, 42, 118), (10, 46, 119), (8, 126, 163), (10, 51, 120), (8, 132, 70), (8, 135, 33), (8, 138, 1), (0, 33, 28), (3, 31, 29), (8, 141, 34), (10, 55, 121), (8, 144, 35), (10, 59, 122), (8, 147, 162), (8, 150, 3), (8, 153, 11), (10, 64, 123), (8, 161, 39)]
theorem MLT0_in : ∀ w ∈ MLT0.map (fun q => Cond.methodLink (OWNN q.1) q.2.1 (YN q.2.2)), w ∈ lw_tbl := mem_places [417, 422, 426, 429, 432, 435, 438, 441, 445, 448, 451, 455, 460, 464, 468, 472, 476, 480, 484, 488, 492, 495, 498, 551, 554, 561, 623, 627, 631, 635, 639, 643, 647, 651, 655, 659, 663, 664, 668, 672, 676, 680, 684, 688, 692, 696, 700, 704, 708, 712, 716, 720, 728, 732, 736, 740, 744, 747, 751, 755, 759, 764, 768, 772, 777, 781, 785, 788, 792, 796] (by decide +kernel)
def MLT1 : List (Nat × Nat × Nat) := [(3, 67, 31), (3, 70, 32), (3, 73, 69), (3, 63, 36), (3, 53, 72), (3, 59, 33), (8, 165, 40), (3, 76, 71), (10, 68, 124), (8, 179, 322), (8, 185, 166), (8, 290, 167), (8, 228, 164), (8, 222, 32), (8, 232, 20), (2, 30, 21), (2, 77, 38), (2, 84, 323), (2, 44, 22), (2, 93, 23), (2, 97, 24), (2, 101, 33), (2, 105, 25), (2, 109, 26), (2, 112, 75), (2, 115, 27), (8, 381, 41), (3, 79, 42), (3, 90, 37), (3, 82, 40), (3, 86, 44), (8, 206, 43), (8, 255, 19), (2, 24, 73), (8, 385, 44), (10, 72, 125), (8, 200, 168), (8, 388, 113), (8, 391, 114), (8, 395, 120), (8, 398, 121), (8, 401, 122), (8, 404, 123), (10, 76, 126), (8, 210, 169), (10, 80, 127), (8, 213, 2), (0, 61, 29), (10, 84, 128), (8, 219, 31), (10, 88, 129), (8, 236, 38), (8, 239, 37), (8, 242, 165), (8, 377, 50), (4, 15, 4), (4, 25, 5), (8, 246, 55), (4, 38, 54), (4, 34, 51), (10, 92, 130), (8, 249, 73), (8, 252, 74), (5, 9, 73), (10, 96, 131), (8, 258, 71), (8, 261, 72), (10, 100, 132), (8, 264, 4), (8, 268, 5)]
theorem MLT1_in : ∀ w ∈ MLT1.map (fun q => Cond.methodLink (OWNN q.1) q.2.1 (YN q.2.2)), w ∈ lw_tbl := mem_places [800, 804, 808, 809, 813, 816, 817, 821, 824, 828, 834, 838, 842, 846, 847, 851, 855, 859, 865, 869, 873, 877, 878, 881, 892, 898, 903, 907, 911, 917, 918, 922, 926, 930, 931, 932, 936, 940, 941, 942, 943, 944, 945, 946, 950, 954, 958, 962, 963, 967, 968, 972, 973, 974, 978, 982, 986, 990, 995, 999, 1003, 1007, 1008, 1011, 1012, 1016, 1017, 1018, 1022, 1023] (by decide +kernel)
def MLT2 : List (Nat × Nat × Nat) := [(8, 271, 323), (10, 104, 133), (8, 278, 45), (8, 281, 46), (8, 284, 47), (10, 108, 134), (8, 287, 28), (10, 112, 135), (8, 293, 56), (10, 116, 136), (8, 296, 57), (4, 42, 53), (4, 45, 71), (10, 121, 137), (8, 300, 58), (4, 50, 55), (4, 53, 52), (10, 125, 138), (8, 303, 59), (4, 56, 60), (4, 59, 322), (10, 129, 139), (10, 133, 140), (8, 311, 62), (8, 314, 61), (10, 138, 141), (10, 142, 142), (10, 146, 143), (8, 317, 63), (10, 150, 144), (8, 322, 64), (4, 69, 65), (10, 155, 145), (8, 325, 48), (8, 328, 49), (10, 160, 146), (8, 331, 53), (10, 164, 147), (8, 337, 66), (4, 73, 67), (10, 168, 148), (10, 173, 149), (8, 340, 13), (1, 46, 12), (1, 36, 11), (1, 40, 323), (8, 344, 12), (10, 177, 150), (10, 181, 151), (8, 348, 14), (10, 185, 152), (8, 351, 15), (1, 50, 14), (10, 189, 153), (8, 354, 16), (10, 193, 154), (8, 357, 17), (1, 54, 18), (10, 197, 155), (10, 201, 156), (8, 370, 170), (10, 205, 157), (10, 209, 158), (10, 213, 159), (8, 374, 0), (10, 217, 160), (10, 221, 161), (9, 74, 187), (9, 89, 184), (9, 92, 186)]
theorem MLT2_in : ∀ w ∈ MLT2.map (fun q => Cond.methodLink (OWNN q.1) q.2.1 (YN q.2.2)), w ∈ lw_tbl := mem_places [1024, 1025, 1029, 1033, 1037, 1041, 1045, 1046, 1050, 1054, 1058, 1062, 1066, 1067, 1071, 1075, 1076, 1080, 1084, 1088, 1091, 1092, 1097, 1101, 1106, 1110, 1114, 1118, 1122, 1126, 1131, 1135, 1139, 1143, 1147, 1151, 1155, 1156, 1160, 1164, 1169, 1173, 1177, 1181, 1185, 1186, 1187, 1188, 1192, 1196, 1200, 1204, 1208, 1209, 1213, 1217, 1221, 1225, 1230, 1234, 1238, 1242, 1246, 1250, 1254, 1259, 1263, 1273, 1277, 1280] (by decide +kernel)
def MLT3 : List (Nat × Nat × Nat) := [(9, 96, 185), (9, 99, 183), (9, 85, 174), (9, 77, 171), (10, 17, 197), (9, 81, 172), (10, 21, 198), (9, 120, 177), (9, 123, 196), (10, 26, 199), (9, 127, 179), (10, 31, 201), (9, 133, 200), (10, 36, 202), (10, 41, 238), (9, 290, 237), (9, 217, 207), (9, 140, 203), (9, 149, 205), (9, 156, 204), (9, 165, 206), (9, 287, 236), (9, 278, 235), (9, 190, 212), (9, 180, 211), (9, 176, 210), (9, 172, 209), (9, 168, 208), (9, 232, 213), (9, 102, 175), (9, 284, 234), (9, 271, 233), (9, 267, 231), (9, 275, 232), (9, 264, 230), (9, 258, 229), (9, 252, 227), (9, 214, 220), (9, 210, 219), (9, 246, 221), (9, 200, 217), (9, 249, 226), (9, 240, 218), (9, 203, 214), (9, 255, 228), (9, 226, 225), (9, 261, 224), (9, 220, 215), (9, 223, 216), (9, 229, 223), (9, 236, 222), (10, 45, 239), (10, 50, 240), (10, 83, 265), (10, 54, 266), (9, 400, 178), (9, 109, 188), (9, 403, 264), (9, 389, 189), (10, 58, 267), (10, 63, 268), (9, 406, 180), (9, 409, 263), (9, 396, 262), (9, 392, 261), (10, 67, 270), (9, 415, 269), (9, 412, 181), (9, 368, 256), (9, 347, 194)]
theorem MLT3_in : ∀ w ∈ MLT3.map (fun q => Cond.methodLink (OWNN q.1) q.2.1 (YN q.2.2)), w ∈ lw_tbl := mem_places [1283, 1286, 1289, 1292, 1399, 1404, 1407, 1411, 1414, 1418, 1422, 1425, 1429, 1433, 1437, 1441, 1445, 1449, 1453, 1457, 1461, 1464, 1468, 1472, 1475, 1478, 1481, 1484, 1487, 1491, 1494, 1498, 1502, 1506, 1510, 1514, 1518, 1522, 1526, 1530, 1534, 1537, 1541, 1545, 1549, 1553, 1557, 1561, 1565, 1569, 1573, 1577, 1581, 1585, 1589, 1593, 1596, 1600, 1604, 1608, 1612, 1616, 1620, 1624, 1628, 1632, 1636, 1640, 1644, 1648] (by decide +kernel)
def MLT4 : List (Nat × Nat × Nat) := [(9, 113, 190), (9, 106, 182), (9, 365, 257), (10, 71, 272), (9, 421, 271), (9, 418, 260), (9, 377, 252), (9, 340, 250), (9, 334, 192), (9, 337, 193), (9, 116, 176), (9, 350, 195), (9, 343, 249), (9, 327, 248), (9, 308, 244), (9, 311, 246), (9, 305, 245), (9, 315, 242), (9, 297, 241), (9, 319, 243), (9, 323, 247), (9, 330, 173), (9, 380, 259), (9, 362, 258), (9, 374, 253), (9, 383, 254), (9, 353, 255), (9, 386, 251), (10, 75, 274), (9, 443, 273), (9, 424, 198), (9, 427, 199), (9, 431, 266), (9, 434, 267), (9, 437, 268), (9, 440, 270), (10, 79, 276), (9, 446, 275), (10, 87, 277), (10, 91, 278), (9, 449, 191), (9, 452, 295), (10, 95, 279), (10, 99, 280), (10, 103, 281), (10, 107, 283), (9, 455, 282), (10, 212, 284), (10, 208, 285), (10, 111, 286), (10, 115, 289), (9, 459, 288), (9, 462, 287), (10, 120, 290), (9, 466, 289), (10, 124, 291), (10, 128, 293), (9, 469, 292), (10, 132, 294), (10, 137, 296), (10, 141, 297), (9, 473, 296), (10, 145, 298), (10, 149, 300), (9, 477, 299), (10, 154, 301), (10, 159, 302), (10, 163, 303), (10, 167, 304), (9, 482, 305)]
theorem MLT4_in : ∀ w ∈ MLT4.map (fun q => Cond.methodLink (OWNN q.1) q.2.1 (YN q.2.2)), w ∈ lw_tbl := mem_places [1652, 1656, 1659, 1663, 1667, 1671, 1675, 1679, 1683, 1687, 1691, 1694, 1698, 1702, 1706, 1711, 1715, 1718, 1721, 1726, 1729, 1732, 1735, 1739, 1743, 1747, 1751, 1758, 1762, 1766, 1770, 1771, 1772, 1773, 1774, 1775, 1776, 1780, 1784, 1788, 1792, 1796, 1800, 1804, 1808, 1812, 1816, 1820, 1824, 1828, 1832, 1836, 1839, 1844, 1848, 1849, 1853, 1857, 1861, 1865, 1870, 1874, 1875, 1879, 1883, 1887, 1892, 1896, 1900, 1904] (by decide +kernel)
def MLT5 : List (Nat × Nat × Nat) := [(9, 485, 306), (10, 172, 307), (10, 176, 310), (9, 491, 309), (9, 488, 308), (10, 180, 311), (9, 494, 310), (10, 184, 313), (9, 498, 312), (10, 188, 314), (10, 192, 315), (10, 196, 316), (10, 200, 317), (10, 204, 318), (10, 216, 319), (10, 220, 320), (10, 224, 321)]
theorem MLT5_in : ∀ w ∈ MLT5.map (fun q => Cond.methodLink (OWNN q.1) q.2.1 (YN q.2.2)), w ∈ lw_tbl := mem_places [1908, 1912, 1916, 1920, 1924, 1928, 1932, 1933, 1937, 1941, 1945, 1949, 1953, 1957, 1961, 1965, 1969] (by decide +kernel)
def MLT : List (Nat × Nat × Nat) := MLT0 ++ (MLT1 ++ (MLT2 ++ (MLT3 ++ (MLT4 ++ (MLT5)))))
theorem MLT_w {q : Nat × Nat × Nat} (h : q ∈ MLT) : Cond.methodLink (OWNN q.1) q.2.1 (YN q.2.2) ∈ WT := by
  refine WT_in ?_ rfl
  rcases List.mem_append.mp h with h | h
  · exact MLT0_in _ (List.mem_map.mpr ⟨q, h, rfl⟩)
  rcases List.mem_append.mp h with h | h
  · exact MLT1_in _ (List.mem_map.mpr ⟨q, h, rfl⟩)
  rcases List.mem_append.mp h with h | h
  · exact MLT2_in _ (List.mem_map.mpr ⟨q, h, rfl⟩)
  rcases List.mem_append.mp h with h | h
  · exact MLT3_in _ (List.mem_map.mpr ⟨q, h, rfl⟩)
  rcases List.mem_append.mp h with h | h
  · exact MLT4_in _ (List.mem_map.mpr ⟨q, h, rfl⟩)
  exact MLT5_in _ (List.mem_map.mpr ⟨q, h, rfl⟩)
def ACT : List (Nat × Nat) := [(7, 38), (3, 45), (0, 55)]
theorem ACT_in : ∀ w ∈ ACT.map (fun q => Cond.methodLink (OWNN q.1) q.2 arraycopyName), w ∈ lw_tbl := mem_places [724, 763, 1258] (by decide +kernel)
theorem ACT_w {q : Nat × Nat} (h : q ∈ ACT) : Cond.methodLink (OWNN q.1) q.2 arraycopyName ∈ WT := WT_in (ACT_in _ (List.mem_map.mpr ⟨q, h, rfl⟩)) rfl
theorem acp_nat : Cond.native arraycopyName ∈ WT := WT_in (mem_places (ws := [Cond.native arraycopyName]) [726] (by decide +kernel) _ List.mem_cons_self) rfl
theorem acp_sta : Cond.static arraycopyName ∈ WT := WT_in (mem_places (ws := [Cond.static arraycopyName]) [725] (by decide +kernel) _ List.mem_cons_self) rfl
theorem acp_ini : Cond.initialized "java/lang/System" ∈ WT := WT_in (mem_places (ws := [Cond.initialized "java/lang/System"]) [128] (by decide +kernel) _ List.mem_cons_self) rfl
def MAN (n : Nat) : MethodName := match n with
  | 0 => Lib.Math.max.name
  | 1 => Lib.Math.min.name
  | 2 => Lib.Math.abs.name
  | 3 => Lib.MathLoose.max_long.x
  | _ => Lib.MathLoose.min_long.x
def MAT : List (Nat × Nat × Nat) := [(6, 176, 1), (2, 123, 4), (2, 126, 3), (5, 15, 2), (2, 48, 1), (2, 54, 0), (8, 306, 0), (4, 64, 0), (1, 58, 0)]
theorem MAT_in : ∀ w ∈ MAT.map (fun q => Cond.methodLink (OWNN q.1) q.2.1 (MAN q.2.2)), w ∈ lw_tbl := mem_places [558, 886, 889, 895, 901, 902, 1096, 1105, 1229] (by decide +kernel)
theorem MAT_w {q : Nat × Nat × Nat} (h : q ∈ MAT) : Cond.methodLink (OWNN q.1) q.2.1 (MAN q.2.2) ∈ WT := WT_in (MAT_in _ (List.mem_map.mpr ⟨q, h, rfl⟩)) rfl
theorem mat_s0 : Cond.static Lib.Math.max.name ∈ WT := WT_in (mem_places (ws := [Cond.static Lib.Math.max.name]) [582] (by decide +kernel) _ List.mem_cons_self) rfl
theorem mat_c0 : Cond.code Lib.Math.max.name Lib.Math.max.code 2 (some .int) ∈ WT := WT_in (mem_places (ws := [Cond.code Lib.Math.max.name Lib.Math.max.code 2 (some .int)]) [583] (by decide +kernel) _ List.mem_cons_self) rfl
theorem mat_s1 : Cond.static Lib.Math.min.name ∈ WT := WT_in (mem_places (ws := [Cond.static Lib.Math.min.name]) [559] (by decide +kernel) _ List.mem_cons_self) rfl
theorem mat_c1 : Cond.code Lib.Math.min.name Lib.Math.min.code 2 (some .int) ∈ WT := WT_in (mem_places (ws := [Cond.code Lib.Math.min.name Lib.Math.min.code 2 (some .int)]) [560] (by decide +kernel) _ List.mem_cons_self) rfl
theorem mat_s2 : Cond.static Lib.Math.abs.name ∈ WT := WT_in (mem_places (ws := [Cond.static Lib.Math.abs.name]) [896] (by decide +kernel) _ List.mem_cons_self) rfl
theorem mat_c2 : Cond.code Lib.Math.abs.name Lib.Math.abs.code 1 (some .int) ∈ WT := WT_in (mem_places (ws := [Cond.code Lib.Math.abs.name Lib.Math.abs.code 1 (some .int)]) [897] (by decide +kernel) _ List.mem_cons_self) rfl
theorem mat_s3 : Cond.static Lib.MathLoose.max_long.x ∈ WT := WT_in (mem_places (ws := [Cond.static Lib.MathLoose.max_long.x]) [890] (by decide +kernel) _ List.mem_cons_self) rfl
theorem mat_c3 : Cond.code Lib.MathLoose.max_long.x Lib.MathLoose.max_long.code 4 (some .long) ∈ WT := WT_in (mem_places (ws := [Cond.code Lib.MathLoose.max_long.x Lib.MathLoose.max_long.code 4 (some .long)]) [891] (by decide +kernel) _ List.mem_cons_self) rfl
theorem mat_s4 : Cond.static Lib.MathLoose.min_long.x ∈ WT := WT_in (mem_places (ws := [Cond.static Lib.MathLoose.min_long.x]) [887] (by decide +kernel) _ List.mem_cons_self) rfl
theorem mat_c4 : Cond.code Lib.MathLoose.min_long.x Lib.MathLoose.min_long.code 4 (some .long) ∈ WT := WT_in (mem_places (ws := [Cond.code Lib.MathLoose.min_long.x Lib.MathLoose.min_long.code 4 (some .long)]) [888] (by decide +kernel) _ List.mem_cons_self) rfl
theorem mat_i : Cond.initialized "java/lang/Math" ∈ WT := WT_in (mem_places (ws := [Cond.initialized "java/lang/Math"]) [126] (by decide +kernel) _ List.mem_cons_self) rfl
theorem NWL_in : ∀ w ∈ NWL, w ∈ lw_tbl := by
  intro w hw
  rcases List.mem_cons.mp hw with rfl | hw
  · exact mem_places (ws := [TRW]) [915] (by decide +kernel) _ List.mem_cons_self
  · obtain ⟨q, hq, rfl⟩ := List.mem_map.mp hw
    exact FLT_in _ (List.mem_map.mpr ⟨q, (List.mem_filter.mp hq).1, rfl⟩)
/-- the static methods -/
def STK : List Nat := [3, 4, 5, 7, 8, 9, 10, 25, 26, 27, 52, 60, 68, 69, 70, 71, 72, 73, 74, 75, 98, 99, 100, 171, 172, 173, 174, 175, 176, 177, 178, 179, 182, 183, 184, 185, 186, 204, 205, 206, 208, 209, 210, 211, 212, 217, 241, 242, 243, 245, 246, 247, 288, 322, 323, 324]
end
section
/-! THE CHECK OF A CODE TABLE, AND ONE STEP OF IT -/
def bpOf (B : List (Nat × Instr × Nat)) (j : Nat) : Nat := (B.getD j (0, .nop, 0)).1
def okN (B : List (Nat × Instr × Nat)) (j : Nat) (b : Nat × Instr × Nat) : Bool := decide (j + 1 < B.length ∧ bpOf B (j + 1) = b.1 + b.2.2)
def okT (B : List (Nat × Instr × Nat)) (b : Nat × Instr × Nat) (off t : Int) : Bool := decide (0 ≤ t ∧ t.toNat < B.length ∧ (b.1 : Int) + off = (bpOf B t.toNat : Int))
def px (i : Instr) : Nat := match i with
  | .ldc n => n
  | .ldc_w n => n
  | .ldc2_w n => n
  | .getfield n => n
  | .putfield n => n
  | .invokestatic n => n
  | .invokevirtual n => n
  | .getstatic n => n
  | _ => 0
def brOff (i : Instr) : Int := match i with
  | .goto o => o
  | .if_icmp _ o => o
  | .ifCond _ o => o
  | _ => 0
def tsRaw (i : Instr) : Int × Int × Int × Array Int := match i with
  | .tableswitch d lo hi ts => (d, lo, hi, ts)
  | _ => (0, 0, 0, #[])
def lkRaw (i : Instr) : Int × Array (Int × Int) := match i with
  | .lookupswitch d ps => (d, ps)
  | _ => (0, #[])
/-- the texts' own methods by the reader's pool: length 1, charAt 2, indexOf 3 -/
def STT : List (Nat × Nat) := [(168, 1), (172, 2), (184, 3)]
def okE (own : Nat) (B : List (Nat × Instr × Nat)) (j : Nat) (b : Nat × Instr × Nat) (res : Instr) : Bool := match res with
  | .iconst v => okN B j b && (decide (-2147483648 ≤ v ∧ v ≤ 2147483647) && (decide (b.2.1 = .iconst v ∧ b.2.2 = 1) || (decide (b.2.1 = .bipush v ∧ b.2.2 = 2 ∧ (Int8.ofInt v).toInt32 = Int32.ofInt v) || (decide (b.2.1 = .sipush v ∧ b.2.2 = 3 ∧ (Int16.ofInt v).toInt32 = Int32.ofInt v) || (decide (b.2.1 = .ldc (px b.2.1) ∧ b.2.2 = 2 ∧ (own, px b.2.1, v) ∈ CIT) || decide (b.2.1 = .ldc_w (px b.2.1) ∧ b.2.2 = 3 ∧ (own, px b.2.1, v) ∈ CIT))))))
  | .bipush v => okN B j b && (decide (-9223372036854775808 ≤ v ∧ v ≤ 9223372036854775807) && (decide (∃ n : Fin 2, b.2.1 = .lconst n ∧ b.2.2 = 1 ∧ Int64.ofNat (n : Nat) = Int64.ofInt v) || decide (b.2.1 = .ldc2_w (px b.2.1) ∧ b.2.2 = 3 ∧ (own, px b.2.1, v) ∈ CLT)))
  | .iload i => okN B j b && (decide (b.2.1 = .iload i ∧ b.2.2 = 2) || decide (∃ n : Fin 4, b.2.1 = .iload_n n ∧ b.2.2 = 1 ∧ (n : Nat) = i))
  | .istore i => okN B j b && (decide (b.2.1 = .istore i ∧ b.2.2 = 2) || decide (∃ n : Fin 4, b.2.1 = .istore_n n ∧ b.2.2 = 1 ∧ (n : Nat) = i))
  | .lload i => okN B j b && (decide (b.2.1 = .lload i ∧ b.2.2 = 2) || decide (∃ n : Fin 4, b.2.1 = .lload_n n ∧ b.2.2 = 1 ∧ (n : Nat) = i))
  | .lstore i => okN B j b && (decide (b.2.1 = .lstore i ∧ b.2.2 = 2) || decide (∃ n : Fin 4, b.2.1 = .lstore_n n ∧ b.2.2 = 1 ∧ (n : Nat) = i))
  | .aload i => okN B j b && (decide (b.2.1 = .aload i ∧ b.2.2 = 2) || decide (∃ n : Fin 4, b.2.1 = .aload_n n ∧ b.2.2 = 1 ∧ (n : Nat) = i))
  | .astore i => okN B j b && (decide (b.2.1 = .astore i ∧ b.2.2 = 2) || decide (∃ n : Fin 4, b.2.1 = .astore_n n ∧ b.2.2 = 1 ∧ (n : Nat) = i))
  | .iinc i n => okN B j b && decide (b.2.1 = .iinc i n ∧ b.2.2 = 3)
  | .iadd => okN B j b && decide (b.2.1 = .iadd ∧ b.2.2 = 1)
  | .isub => okN B j b && decide (b.2.1 = .isub ∧ b.2.2 = 1)
  | .imul => okN B j b && decide (b.2.1 = .imul ∧ b.2.2 = 1)
  | .iand => okN B j b && decide (b.2.1 = .iand ∧ b.2.2 = 1)
  | .ior => okN B j b && decide (b.2.1 = .ior ∧ b.2.2 = 1)
  | .ixor => okN B j b && decide (b.2.1 = .ixor ∧ b.2.2 = 1)
  | .ishl => okN B j b && decide (b.2.1 = .ishl ∧ b.2.2 = 1)
  | .ishr => okN B j b && decide (b.2.1 = .ishr ∧ b.2.2 = 1)
  | .iushr => okN B j b && decide (b.2.1 = .iushr ∧ b.2.2 = 1)
  | .idiv => okN B j b && decide (b.2.1 = .idiv ∧ b.2.2 = 1)
  | .irem => okN B j b && decide (b.2.1 = .irem ∧ b.2.2 = 1)
  | .ladd => okN B j b && decide (b.2.1 = .ladd ∧ b.2.2 = 1)
  | .lsub => okN B j b && decide (b.2.1 = .lsub ∧ b.2.2 = 1)
  | .lmul => okN B j b && decide (b.2.1 = .lmul ∧ b.2.2 = 1)
  | .land => okN B j b && decide (b.2.1 = .land ∧ b.2.2 = 1)
  | .lor => okN B j b && decide (b.2.1 = .lor ∧ b.2.2 = 1)
  | .lxor => okN B j b && decide (b.2.1 = .lxor ∧ b.2.2 = 1)
  | .lshl => okN B j b && decide (b.2.1 = .lshl ∧ b.2.2 = 1)
  | .lshr => okN B j b && decide (b.2.1 = .lshr ∧ b.2.2 = 1)
  | .lushr => okN B j b && decide (b.2.1 = .lushr ∧ b.2.2 = 1)
  | .ldiv => okN B j b && decide (b.2.1 = .ldiv ∧ b.2.2 = 1)
  | .lrem => okN B j b && decide (b.2.1 = .lrem ∧ b.2.2 = 1)
  | .ineg => okN B j b && decide (b.2.1 = .ineg ∧ b.2.2 = 1)
  | .lneg => okN B j b && decide (b.2.1 = .lneg ∧ b.2.2 = 1)
  | .lcmp => okN B j b && decide (b.2.1 = .lcmp ∧ b.2.2 = 1)
  | .i2l => okN B j b && decide (b.2.1 = .i2l ∧ b.2.2 = 1)
  | .l2i => okN B j b && decide (b.2.1 = .l2i ∧ b.2.2 = 1)
  | .i2c => okN B j b && decide (b.2.1 = .i2c ∧ b.2.2 = 1)
  | .dup => okN B j b && decide (b.2.1 = .dup ∧ b.2.2 = 1)
  | .dup2 => okN B j b && decide (b.2.1 = .dup2 ∧ b.2.2 = 1)
  | .pop => okN B j b && decide (b.2.1 = .pop ∧ b.2.2 = 1)
  | .iaload => okN B j b && decide (b.2.1 = .iaload ∧ b.2.2 = 1)
  | .laload => okN B j b && decide (b.2.1 = .laload ∧ b.2.2 = 1)
  | .baload => okN B j b && decide (b.2.1 = .baload ∧ b.2.2 = 1)
  | .aaload => okN B j b && decide (b.2.1 = .aaload ∧ b.2.2 = 1)
  | .iastore => okN B j b && decide (b.2.1 = .iastore ∧ b.2.2 = 1)
  | .lastore => okN B j b && decide (b.2.1 = .lastore ∧ b.2.2 = 1)
  | .bastore => okN B j b && decide (b.2.1 = .bastore ∧ b.2.2 = 1)
  | .arraylength => okN B j b && decide (b.2.1 = .arraylength ∧ b.2.2 = 1)
  | .ireturn => decide (b.2.1 = .ireturn ∧ b.2.2 = 1)
  | .lreturn => decide (b.2.1 = .lreturn ∧ b.2.2 = 1)
  | .areturn => decide (b.2.1 = .areturn ∧ b.2.2 = 1)
  | .return_ => decide (b.2.1 = .return_ ∧ b.2.2 = 1)
  | .goto t => okT B b (brOff b.2.1) t && decide (b.2.1 = .goto (brOff b.2.1) ∧ b.2.2 = 3)
  | .if_icmp cd t => okN B j b && (okT B b (brOff b.2.1) t && decide (b.2.1 = .if_icmp cd (brOff b.2.1) ∧ b.2.2 = 3))
  | .ifCond cd t => okN B j b && (okT B b (brOff b.2.1) t && decide (b.2.1 = .ifCond cd (brOff b.2.1) ∧ b.2.2 = 3))
  | .tableswitch d lo _ ts => okT B b (tsRaw b.2.1).1 d && (decide (b.2.1 = .tableswitch (tsRaw b.2.1).1 lo (lo + (tsRaw b.2.1).2.2.2.size - 1) (tsRaw b.2.1).2.2.2 ∧ (tsRaw b.2.1).2.2.2.size = ts.toList.length) && (List.range ts.toList.length).all (fun k => okT B b ((tsRaw b.2.1).2.2.2.getD k 0) (ts.toList.getD k d)))
  | .lookupswitch d ps => okT B b (lkRaw b.2.1).1 d && (decide (b.2.1 = .lookupswitch (lkRaw b.2.1).1 (lkRaw b.2.1).2 ∧ ((lkRaw b.2.1).2.toList.zip ((lkRaw b.2.1).2.toList.drop 1)).all (fun (x, y) => x.1 < y.1) = true ∧ (lkRaw b.2.1).2.toList.map (fun q => q.1) = ps.toList.map (fun q => q.1)) && ((lkRaw b.2.1).2.toList.zip ps.toList).all (fun q => okT B b q.1.2 q.2.2))
  | .multianewarray ci k => okN B j b && (decide (b.2.1 = .getfield (px b.2.1) ∧ b.2.2 = 3 ∧ ci < 9) && (decide ((own, px b.2.1, false, ci, k) ∈ FLT) || decide ((own, px b.2.1, true, ci, k) ∈ FLT)))
  | .invokeinterface ci k => okN B j b && (decide (b.2.1 = .putfield (px b.2.1) ∧ b.2.2 = 3 ∧ ci < 9) && (decide ((own, px b.2.1, false, ci, k) ∈ FLT) || decide ((own, px b.2.1, true, ci, k) ∈ FLT)))
  | .getstatic _ => okN B j b && decide (b.2.1 = .getstatic 94 ∧ b.2.2 = 3 ∧ OWNN own = RX3)
  | .ret n => okN B j b && decide (b.2.1 = .invokestatic (px b.2.1) ∧ b.2.2 = 3 ∧ (own, px b.2.1, n) ∈ MAT)
  | .ldc t => okN B j b && (decide (OWNN own = RX6) && ((decide (t = 52 ∧ b.2.1 = .ldc 166 ∧ b.2.2 = 2)) || (decide (t = 53 ∧ b.2.1 = .ldc 182 ∧ b.2.2 = 2))))
  | .invokedynamic n => okN B j b && ((decide (n = 0 ∧ b.2.1 = .invokestatic (px b.2.1) ∧ b.2.2 = 3 ∧ (own, px b.2.1) ∈ ACT)) || (decide (OWNN own = RX6 ∧ n ≠ 0 ∧ b.2.1 = .invokevirtual (px b.2.1) ∧ b.2.2 = 3 ∧ (px b.2.1, n) ∈ STT)))
  | .invokestatic k => okN B j b && (decide (b.2.2 = 3 ∧ (own, px b.2.1, k) ∈ MLT) && (decide (b.2.1 = .invokestatic (px b.2.1) ∧ k ∈ STK) || decide (b.2.1 = .invokevirtual (px b.2.1) ∧ k ∉ STK)))
  | _ => false
theorem bpOf_at {B : List (Nat × Instr × Nat)} {j : Nat} {b : Nat × Instr × Nat} (h : B[j]? = some b) : bpOf B j = b.1 := by
  unfold bpOf
  rw [List.getD_eq_getElem?_getD, h]
  rfl
theorem bi2_inv {f : Int → Int → Int} {pc : Nat} {L st : List Vv} {m : Mm} {q : Cf} (h : bi2 f pc L st m = some q) : ∃ a b r, st = (0, b) :: (0, a) :: r ∧ q = (pc + 1, L, (0, f a b) :: r, m) := by
  unfold bi2 at h
  split at h
  · cases h; exact ⟨_, _, _, rfl, rfl⟩
  · cases h
theorem bl2_inv {f : Int → Int → Int} {pc : Nat} {L st : List Vv} {m : Mm} {q : Cf} (h : bl2 f pc L st m = some q) : ∃ a b r, st = (1, b) :: (1, a) :: r ∧ q = (pc + 1, L, (1, f a b) :: r, m) := by
  unfold bl2 at h
  split at h
  · cases h; exact ⟨_, _, _, rfl, rfl⟩
  · cases h
theorem bs2_inv {f : Int → Int → Int} {pc : Nat} {L st : List Vv} {m : Mm} {q : Cf} (h : bs2 f pc L st m = some q) : ∃ a b r, st = (0, b) :: (1, a) :: r ∧ q = (pc + 1, L, (1, f a b) :: r, m) := by
  unfold bs2 at h
  split at h
  · cases h; exact ⟨_, _, _, rfl, rfl⟩
  · cases h
theorem bd2_inv {f : Int → Int → Int} {pc : Nat} {L st : List Vv} {m : Mm} {q : Cf} (h : bd2 f pc L st m = some q) : ∃ a b r, st = (0, b) :: (0, a) :: r ∧ b ≠ 0 ∧ q = (pc + 1, L, (0, f a b) :: r, m) := by
  unfold bd2 at h
  split at h
  · split at h
    · cases h
    · rename_i hb; cases h; exact ⟨_, _, _, rfl, hb, rfl⟩
  · cases h
theorem bq2_inv {f : Int → Int → Int} {pc : Nat} {L st : List Vv} {m : Mm} {q : Cf} (h : bq2 f pc L st m = some q) : ∃ a b r, st = (1, b) :: (1, a) :: r ∧ b ≠ 0 ∧ q = (pc + 1, L, (1, f a b) :: r, m) := by
  unfold bq2 at h
  split at h
  · split at h
    · cases h
    · rename_i hb; cases h; exact ⟨_, _, _, rfl, hb, rfl⟩
  · cases h
theorem ald_inv {ty rt pc : Nat} {L st : List Vv} {m : Mm} {q : Cf} (h : ald ty rt pc L st m = some q) : ∃ i t o r, st = (0, i) :: (t, o) :: r ∧ aty t = ty ∧ 0 ≤ i ∧ i < aln t ∧ q = (pc + 1, L, (rt, m o i) :: r, m) := by
  unfold ald at h
  split at h
  · split at h
    · split at h
      · rename_i h1 h2; cases h; exact ⟨_, _, _, _, rfl, h1, h2.1, h2.2, rfl⟩
      · cases h
    · cases h
  · cases h
theorem rld_inv {pc : Nat} {L st : List Vv} {m : Mm} {q : Cf} (h : rld pc L st m = some q) : ∃ i t o r tr, st = (0, i) :: (t, o) :: r ∧ ((aty t = 3 ∧ tr = 13) ∨ (aty t = 4 ∧ tr = 16)) ∧ 0 ≤ i ∧ i < aln t ∧ q = (pc + 1, L, (tr, PA (aty t) o i) :: r, m) := by
  unfold rld at h
  split at h
  · split at h
    · split at h
      · rename_i h1 h2; cases h; exact ⟨_, _, _, _, 13, rfl, Or.inl ⟨h1, rfl⟩, h2.1, h2.2, by rw [h1]⟩
      · cases h
    · split at h
      · split at h
        · rename_i h1 h2; cases h; exact ⟨_, _, _, _, 16, rfl, Or.inr ⟨h1, rfl⟩, h2.1, h2.2, by rw [h1]⟩
        · cases h
      · cases h
  · cases h
theorem ast_inv {ty vt pc : Nat} {L st : List Vv} {m : Mm} {q : Cf} (h : ast ty vt pc L st m = some q) : ∃ v i t o r, st = (vt, v) :: (0, i) :: (t, o) :: r ∧ aty t = ty ∧ 0 ≤ i ∧ i < aln t ∧ q = (pc + 1, L, r, up m o i v) := by
  unfold ast at h
  split at h
  · split at h
    · split at h
      · split at h
        · rename_i h0 h1 h2; subst h0; cases h; exact ⟨_, _, _, _, _, rfl, h1, h2.1, h2.2, rfl⟩
        · cases h
      · cases h
    · cases h
  · cases h
theorem bst_inv {pc : Nat} {L st : List Vv} {m : Mm} {q : Cf} (h : bst pc L st m = some q) : ∃ v i t o r, st = (0, v) :: (0, i) :: (t, o) :: r ∧ aty t = 2 ∧ (v = 0 ∨ v = 1) ∧ 0 ≤ i ∧ i < aln t ∧ q = (pc + 1, L, r, up m o i v) := by
  unfold bst at h
  split at h
  · split at h
    · split at h
      · rename_i h1 h2; cases h; exact ⟨_, _, _, _, _, rfl, h1, h2.1, h2.2.1, h2.2.2, rfl⟩
      · cases h
    · cases h
  · cases h
theorem gtf_inv {ci k pc : Nat} {L st : List Vv} {m : Mm} {q : Cf} (h : gtf ci k pc L st m = some q) : ∃ o r v, st = (ci + 10, o) :: r ∧ k < CN ci ∧ ((FT ci k = 0 ∨ FT ci k = 2) ∧ v = (0, m o k) ∨ FT ci k = 1 ∧ v = (1, m o k) ∨ (¬ (FT ci k = 0 ∨ FT ci k = 2) ∧ ¬ FT ci k = 1 ∧ v = (FT ci k, o + OF ci k))) ∧ q = (pc + 1, L, v :: r, m) := by
  unfold gtf at h
  split at h
  · split at h
    · rename_i h0
      obtain ⟨h0, hk⟩ := h0
      subst h0
      split at h
      · rename_i h1; cases h; exact ⟨_, _, _, rfl, hk, Or.inl ⟨h1, rfl⟩, rfl⟩
      · split at h
        · rename_i h1 h2; cases h; exact ⟨_, _, _, rfl, hk, Or.inr (Or.inl ⟨h2, rfl⟩), rfl⟩
        · rename_i h1 h2; cases h; exact ⟨_, _, _, rfl, hk, Or.inr (Or.inr ⟨h1, h2, rfl⟩), rfl⟩
    · cases h
  · cases h
theorem ptf_inv {ci k pc : Nat} {L st : List Vv} {m : Mm} {q : Cf} (h : ptf ci k pc L st m = some q) : ∃ o r tv v, st = (tv, v) :: (ci + 10, o) :: r ∧ k < CN ci ∧ (FT ci k = 0 ∧ tv = 0 ∨ FT ci k = 1 ∧ tv = 1 ∨ FT ci k = 2 ∧ tv = 0 ∧ (v = 0 ∨ v = 1)) ∧ q = (pc + 1, L, r, up m o k v) := by
  unfold ptf at h
  split at h
  · split at h
    · rename_i h0
      obtain ⟨h0, hk⟩ := h0
      subst h0
      split at h
      · rename_i h1; cases h; exact ⟨_, _, _, _, rfl, hk, Or.inl h1, rfl⟩
      · split at h
        · rename_i h1 h2; cases h; exact ⟨_, _, _, _, rfl, hk, Or.inr (Or.inl h2), rfl⟩
        · split at h
          · split at h
            · rename_i h1 h2 h3 h4; cases h; exact ⟨_, _, _, _, rfl, hk, Or.inr (Or.inr ⟨h3.1, h3.2, h4⟩), rfl⟩
            · cases h
          · cases h
    · cases h
  · cases h
theorem acp_inv {pc : Nat} {L st : List Vv} {m : Mm} {q : Cf} (h : acp pc L st m = some q) : ∃ n dp td d sp ts s, st = [(0, n), (0, dp), (td, d), (0, sp), (ts, s)] ∧ aty ts = 0 ∧ aty td = 0 ∧ 0 ≤ n ∧ 0 ≤ sp ∧ 0 ≤ dp ∧ sp + n ≤ aln ts ∧ dp + n ≤ aln td ∧ q = (pc + 1, L, [], cpy m s sp d dp n) := by
  unfold acp at h
  split at h
  · split at h
    · split at h
      · rename_i h1 h2; cases h; exact ⟨_, _, _, _, _, _, _, rfl, h1.1, h1.2, h2.1, h2.2.1, h2.2.2.1, h2.2.2.2.1, h2.2.2.2.2, rfl⟩
      · cases h
    · cases h
  · cases h
theorem mth_inv {n pc : Nat} {L st : List Vv} {m : Mm} {q : Cf} (h : mth n pc L st m = some q) : (∃ a b r, n = 0 ∧ st = (0, b) :: (0, a) :: r ∧ catS r ≤ 8 ∧ q = (pc + 1, L, (0, max a b) :: r, m)) ∨ (∃ a b r, n = 1 ∧ st = (0, b) :: (0, a) :: r ∧ catS r ≤ 8 ∧ q = (pc + 1, L, (0, min a b) :: r, m)) ∨ (∃ a r, n = 2 ∧ st = (0, a) :: r ∧ catS r ≤ 8 ∧ q = (pc + 1, L, (0, if 0 ≤ a then a else w32 (0 - a)) :: r, m)) ∨ (∃ a b r, n = 3 ∧ st = (1, b) :: (1, a) :: r ∧ catS r ≤ 8 ∧ q = (pc + 1, L, (1, max a b) :: r, m)) ∨ (∃ a b r, n = 4 ∧ st = (1, b) :: (1, a) :: r ∧ catS r ≤ 8 ∧ q = (pc + 1, L, (1, min a b) :: r, m)) := by
  unfold mth at h
  split at h
  · split at h
    · rename_i hc; cases h; exact Or.inl ⟨_, _, _, rfl, rfl, hc, rfl⟩
    · cases h
  · split at h
    · rename_i hc; cases h; exact Or.inr (Or.inl ⟨_, _, _, rfl, rfl, hc, rfl⟩)
    · cases h
  · split at h
    · rename_i hc; cases h; exact Or.inr (Or.inr (Or.inl ⟨_, _, rfl, rfl, hc, rfl⟩))
    · cases h
  · split at h
    · rename_i hc; cases h; exact Or.inr (Or.inr (Or.inr (Or.inl ⟨_, _, _, rfl, rfl, hc, rfl⟩)))
    · cases h
  · split at h
    · rename_i hc; cases h; exact Or.inr (Or.inr (Or.inr (Or.inr ⟨_, _, _, rfl, rfl, hc, rfl⟩)))
    · cases h
  · cases h
def StOk (L st : List Vv) (m : Mm) : Prop := (∀ v ∈ L, Vok v) ∧ (∀ v ∈ st, Vok v) ∧ Mok m
theorem Vok_9 : Vok (9, 0) := trivial
theorem cut1_ok {L : List Vv} {i : Nat} (h : ∀ v ∈ L, Vok v) : ∀ v ∈ cut1 L i, Vok v := by
  intro v hv
  unfold cut1 at hv
  split at hv
  · exact h v hv
  · split at hv
    · rcases List.mem_or_eq_of_mem_set hv with z | z
      · exact h v z
      · rw [z]; exact Vok_9
    · exact h v hv
theorem sto1_ok {L : List Vv} {i : Nat} {v : Vv} (h : ∀ v ∈ L, Vok v) (hv : Vok v) : ∀ w ∈ sto1 L i v, Vok w := by
  intro w hw
  rcases List.mem_or_eq_of_mem_set hw with z | z
  · exact cut1_ok h w z
  · rw [z]; exact hv
theorem sto2_ok {L : List Vv} {i : Nat} {v : Vv} (h : ∀ v ∈ L, Vok v) (hv : Vok v) : ∀ w ∈ sto2 L i v, Vok w := by
  intro w hw
  rcases List.mem_or_eq_of_mem_set hw with z | z
  · rcases List.mem_or_eq_of_mem_set z with z | z
    · exact cut1_ok h w z
    · rw [z]; exact hv
  · rw [z]; exact Vok_9
theorem sto1_len (L : List Vv) (i : Nat) (v : Vv) : (sto1 L i v).length = L.length := by unfold sto1; rw [List.length_set, cut1_len]
theorem sto2_len (L : List Vv) (i : Nat) (v : Vv) : (sto2 L i v).length = L.length := by unfold sto2; rw [List.length_set, List.length_set, cut1_len]
theorem ok_cons {v : Vv} {r : List Vv} (hv : Vok v) (h : ∀ w ∈ r, Vok w) : ∀ w ∈ v :: r, Vok w := List.forall_mem_cons.mpr ⟨hv, h⟩
theorem in32_aln {t : Nat} {o : Int} (h : (o, t) ∈ UNI) (ha : ¬ aty t = 9) : in32 (aln t) := by
  have hk := UNI_kind _ h
  simp only at hk
  have ht : ¬ t < 100 := by
    intro z
    exact ha (by unfold aty; rw [if_pos z])
  unfold in32
  rw [aln_nat]
  omega
theorem mok_rd {m : Mm} {o i : Int} {t : Nat} (h : Mok m) (ho : (o, t) ∈ UNI) (h0 : 0 ≤ i) : sOk t i.toNat (m o i) := by
  have := h _ ho i.toNat
  simp only [Int.toNat_of_nonneg h0] at this
  exact this
theorem sOk_arr {t k : Nat} {v : Int} (ha : aty t = 0 ∨ aty t = 2) (h : sOk t k v) : in32 v := by
  have ht : ¬ t < 100 := by
    rcases ha with ha | ha <;> exact arr_kind ha (by omega)
  unfold sOk at h
  rw [if_neg (by omega)] at h
  exact h
theorem sOk_larr {t k : Nat} {v : Int} (ha : aty t = 1) (h : sOk t k v) : in64 v := by
  unfold sOk at h
  rw [if_pos (Or.inr ha)] at h
  exact h
theorem sOk_arr' {t k : Nat} {v : Int} (ha : aty t = 0 ∨ aty t = 2) (h : in32 v) : sOk t k v := by
  unfold sOk
  rw [if_neg]
  · exact h
  · have ht : ¬ t < 100 := by
      rcases ha with ha | ha <;> exact arr_kind ha (by omega)
    omega
theorem sOk_larr' {t k : Nat} {v : Int} (ha : aty t = 1) (h : in64 v) : sOk t k v := by
  unfold sOk
  rw [if_pos (Or.inr ha)]
  exact h
theorem up_nat {m : Mm} {o i v : Int} (h0 : 0 ≤ i) : up m o i v = up m o (i.toNat : Nat) v := by rw [Int.toNat_of_nonneg h0]
theorem Mok_cpy {m : Mm} {a d sp dp n : Int} {ts td : Nat} (h : Mok m) (ho : (a, ts) ∈ UNI) (ho2 : (d, td) ∈ UNI) (h1 : aty ts = 0) (h2 : aty td = 0) (hs : 0 ≤ sp) : Mok (cpy m a sp d dp n) := by
  intro q hq k
  unfold cpy
  split
  · rename_i hc
    obtain ⟨b, t⟩ := q
    simp only at hc
    obtain ⟨rfl, hc⟩ := hc
    have : t = td := UNI_eq hq ho2
    subst this
    have := mok_rd h ho (i := sp + ((k : Int) - dp)) (by omega)
    exact sOk_arr' (Or.inl h2) (sOk_arr (Or.inl h1) this)
  · exact h q hq k
theorem dec_of {cc : ByteArray} {b : Nat × Instr × Nat} {i : Instr} {n : Nat} (h : decode cc b.1 = .ok (b.2.1, b.2.2)) (h1 : b.2.1 = i) (h2 : b.2.2 = n) : decode cc b.1 = .ok (i, n) := by rw [h, h1, h2]
theorem lsw_ok {B : List (Nat × Instr × Nat)} {b : Nat × Instr × Nat} (d0 d x : Int) (hd : okT B b d0 d = true) : ∀ (ps qs : List (Int × Int)), ps.map (fun q => q.1) = qs.map (fun q => q.1) → ((ps.zip qs).all (fun q => okT B b q.1.2 q.2.2)) = true → okT B b (Op.lookupswitch.offset ps d0 x) (lsw d qs x) = true := by
  intro ps
  induction ps with
  | nil =>
    intro qs h1 h2
    cases qs with
    | nil => exact hd
    | cons q r => cases h1
  | cons p0 r ih =>
    intro qs h1 h2
    cases qs with
    | nil => cases h1
    | cons q r2 =>
      obtain ⟨a, o⟩ := p0
      obtain ⟨a2, t⟩ := q
      simp only [List.map_cons, List.cons.injEq] at h1
      simp only [List.zip_cons_cons, List.all_cons, Bool.and_eq_true] at h2
      obtain ⟨rfl, h1⟩ := h1
      rw [Op.lookupswitch.offset_cons]
      unfold lsw
      by_cases hx : a = x
      · subst hx
        rw [if_pos rfl, if_pos rfl]
        exact h2.1
      · rw [if_neg hx, if_neg (fun z => hx z.symm)]
        exact ih r2 h1 h2.2
section STEP
variable {p : Program} {l : Launch} {e : Env} {R : Room} {s : State} {mid : MethodId} {args : Array Value} {below : List Frame} {meth : Method} {c : Code} {Q : State → Prop} {ad : Int → Nat} {G : Nat → ClassId} {D : va_G} {A : Nat → Prop} {nL cells slots : Nat} {own : Nat} {cc : ByteArray} {B : List (Nat × Instr × Nat)}

theorem go_lsw (K : CX NWL p R s mid args c (OWNN own) cc ad G D A nL) {bp : Nat} {L r : List Vv} {m : Mm} {dflt x off : Int} {ps : Array (Int × Int)} {len tgt : Nat} (hx : in32 x) (hd : decode cc bp = .ok (.lookupswitch dflt ps, len)) (hp : (ps.toList.zip (ps.toList.drop 1)).all (fun (a, next) => a.1 < next.1) = true) (ho : Op.lookupswitch.offset ps.toList dflt x = off) (ht : (bp : Int) + off = (tgt : Int)) (kk : Go p l e R s mid args below meth c Q ad G D A nL cells slots tgt L r m) : Go p l e R s mid args below meth c Q ad G D A nL cells slots bp L ((0, x) :: r) m := by
  intro H locs ls hP hD hS hL
  have h := kk H locs ls hP hD hS hL
  show W p l e R s mid args below meth c H locs cells slots Q (F0 mid bp ls (.int (Int32.ofInt x) :: r.map (cv ad)))
  exact lv_lookup K.1 K.2.1 hd hp (by rw [i32_of hx]; exact ho) ht h
theorem catS_map (ad : Int → Nat) (l : List Vv) : ((l.map (cv ad)).map fun v => v.category).sum = catS l := by
  unfold catS
  rw [List.map_map]
  congr 1
  apply List.map_congr_left
  intro v _
  exact cv_cat ad v
theorem go_mmax (K : CX NWL p R s mid args c (OWNN own) cc ad G D A nL) {bp idx : Nat} {L r : List Vv} {m : Mm} {a b : Int} (ha : in32 a) (hb : in32 b) (hce : cells ≤ R.cells) (hsl : slots ≤ R.slots) (hc : catS r ≤ 8) (hw : Cond.methodLink (OWNN own) idx Lib.Math.max.name ∈ WT) (hd : decode cc bp = .ok (.invokestatic idx, 3)) (kk : Go p l e R s mid args below meth c Q ad G D A nL cells slots (bp + 3) L ((0, max a b) :: r) m) : Go p l e R s mid args below meth c Q ad G D A nL cells slots bp L ((0, b) :: (0, a) :: r) m := by
  intro H locs ls hP hD hS hL
  have h := kk H locs ls hP hD hS hL
  show W p l e R s mid args below meth c H locs cells slots Q (F0 mid bp ls (.int (Int32.ofInt b) :: .int (Int32.ofInt a) :: r.map (cv ad)))
  have e9 : cv ad (0, max a b) = .int (if Int32.ofInt a < Int32.ofInt b then Int32.ofInt b else Int32.ofInt a) := by
    have h1 : Int32.ofInt a < Int32.ofInt b ↔ a < b := by rw [Int32.lt_iff_toInt_lt, i32_of ha, i32_of hb]
    have h2 : Int32.ofInt b < Int32.ofInt a ↔ b < a := by rw [Int32.lt_iff_toInt_lt, i32_of ha, i32_of hb]
    show Value.int (Int32.ofInt (max a b)) = _
    split
    · rename_i hx
      first | (rw [h1] at hx) | (rw [h2] at hx)
      congr 2
      omega
    · rename_i hx
      first | (rw [h1] at hx) | (rw [h2] at hx)
      congr 2
      omega
  rw [List.map_cons, e9] at h
  exact va_mmax K.1 K.2.1 (by rw [K.2.2.1, hL.2.1]) K.2.2.2.1 (K.2.2.2.2.1 _ hw) (K.2.2.2.2.1 _ mat_s0) (K.2.2.2.2.1 _ mat_i) (K.2.2.2.2.1 _ mat_c0) K.2.2.2.2.2.2.2.1 (by rw [catS_map]; have := K.2.2.2.2.2.2.2.2.1; omega) hce hsl hd h
theorem go_mmin (K : CX NWL p R s mid args c (OWNN own) cc ad G D A nL) {bp idx : Nat} {L r : List Vv} {m : Mm} {a b : Int} (ha : in32 a) (hb : in32 b) (hce : cells ≤ R.cells) (hsl : slots ≤ R.slots) (hc : catS r ≤ 8) (hw : Cond.methodLink (OWNN own) idx Lib.Math.min.name ∈ WT) (hd : decode cc bp = .ok (.invokestatic idx, 3)) (kk : Go p l e R s mid args below meth c Q ad G D A nL cells slots (bp + 3) L ((0, min a b) :: r) m) : Go p l e R s mid args below meth c Q ad G D A nL cells slots bp L ((0, b) :: (0, a) :: r) m := by
  intro H locs ls hP hD hS hL
  have h := kk H locs ls hP hD hS hL
  show W p l e R s mid args below meth c H locs cells slots Q (F0 mid bp ls (.int (Int32.ofInt b) :: .int (Int32.ofInt a) :: r.map (cv ad)))
  have e9 : cv ad (0, min a b) = .int (if Int32.ofInt b < Int32.ofInt a then Int32.ofInt b else Int32.ofInt a) := by
    have h1 : Int32.ofInt a < Int32.ofInt b ↔ a < b := by rw [Int32.lt_iff_toInt_lt, i32_of ha, i32_of hb]
    have h2 : Int32.ofInt b < Int32.ofInt a ↔ b < a := by rw [Int32.lt_iff_toInt_lt, i32_of ha, i32_of hb]
    show Value.int (Int32.ofInt (min a b)) = _
    split
    · rename_i hx
      first | (rw [h1] at hx) | (rw [h2] at hx)
      congr 2
      omega
    · rename_i hx
      first | (rw [h1] at hx) | (rw [h2] at hx)
      congr 2
      omega
  rw [List.map_cons, e9] at h
  exact va_mmin K.1 K.2.1 (by rw [K.2.2.1, hL.2.1]) K.2.2.2.1 (K.2.2.2.2.1 _ hw) (K.2.2.2.2.1 _ mat_s1) (K.2.2.2.2.1 _ mat_i) (K.2.2.2.2.1 _ mat_c1) K.2.2.2.2.2.2.2.1 (by rw [catS_map]; have := K.2.2.2.2.2.2.2.2.1; omega) hce hsl hd h
theorem go_mmaxJ (K : CX NWL p R s mid args c (OWNN own) cc ad G D A nL) {bp idx : Nat} {L r : List Vv} {m : Mm} {a b : Int} (ha : in64 a) (hb : in64 b) (hce : cells ≤ R.cells) (hsl : slots ≤ R.slots) (hc : catS r ≤ 8) (hw : Cond.methodLink (OWNN own) idx Lib.MathLoose.max_long.x ∈ WT) (hd : decode cc bp = .ok (.invokestatic idx, 3)) (kk : Go p l e R s mid args below meth c Q ad G D A nL cells slots (bp + 3) L ((1, max a b) :: r) m) : Go p l e R s mid args below meth c Q ad G D A nL cells slots bp L ((1, b) :: (1, a) :: r) m := by
  intro H locs ls hP hD hS hL
  have h := kk H locs ls hP hD hS hL
  show W p l e R s mid args below meth c H locs cells slots Q (F0 mid bp ls (.long (Int64.ofInt b) :: .long (Int64.ofInt a) :: r.map (cv ad)))
  have e9 : cv ad (1, max a b) = .long (if Int64.ofInt b < Int64.ofInt a then Int64.ofInt a else Int64.ofInt b) := by
    have h1 : Int64.ofInt a < Int64.ofInt b ↔ a < b := by rw [Int64.lt_iff_toInt_lt, i64_of ha, i64_of hb]
    have h2 : Int64.ofInt b < Int64.ofInt a ↔ b < a := by rw [Int64.lt_iff_toInt_lt, i64_of ha, i64_of hb]
    show Value.long (Int64.ofInt (max a b)) = _
    split
    · rename_i hx
      first | (rw [h1] at hx) | (rw [h2] at hx)
      congr 2
      omega
    · rename_i hx
      first | (rw [h1] at hx) | (rw [h2] at hx)
      congr 2
      omega
  rw [List.map_cons, e9] at h
  exact va_mmax_long K.1 K.2.1 (by rw [K.2.2.1, hL.2.1]) K.2.2.2.1 (K.2.2.2.2.1 _ hw) (K.2.2.2.2.1 _ mat_s3) (K.2.2.2.2.1 _ mat_i) (K.2.2.2.2.1 _ mat_c3) K.2.2.2.2.2.2.2.1 (by rw [catS_map]; have := K.2.2.2.2.2.2.2.2.1; omega) hce hsl hd h
theorem go_mminJ (K : CX NWL p R s mid args c (OWNN own) cc ad G D A nL) {bp idx : Nat} {L r : List Vv} {m : Mm} {a b : Int} (ha : in64 a) (hb : in64 b) (hce : cells ≤ R.cells) (hsl : slots ≤ R.slots) (hc : catS r ≤ 8) (hw : Cond.methodLink (OWNN own) idx Lib.MathLoose.min_long.x ∈ WT) (hd : decode cc bp = .ok (.invokestatic idx, 3)) (kk : Go p l e R s mid args below meth c Q ad G D A nL cells slots (bp + 3) L ((1, min a b) :: r) m) : Go p l e R s mid args below meth c Q ad G D A nL cells slots bp L ((1, b) :: (1, a) :: r) m := by
  intro H locs ls hP hD hS hL
  have h := kk H locs ls hP hD hS hL
  show W p l e R s mid args below meth c H locs cells slots Q (F0 mid bp ls (.long (Int64.ofInt b) :: .long (Int64.ofInt a) :: r.map (cv ad)))
  have e9 : cv ad (1, min a b) = .long (if Int64.ofInt b < Int64.ofInt a then Int64.ofInt b else Int64.ofInt a) := by
    have h1 : Int64.ofInt a < Int64.ofInt b ↔ a < b := by rw [Int64.lt_iff_toInt_lt, i64_of ha, i64_of hb]
    have h2 : Int64.ofInt b < Int64.ofInt a ↔ b < a := by rw [Int64.lt_iff_toInt_lt, i64_of ha, i64_of hb]
    show Value.long (Int64.ofInt (min a b)) = _
    split
    · rename_i hx
      first | (rw [h1] at hx) | (rw [h2] at hx)
      congr 2
      omega
    · rename_i hx
      first | (rw [h1] at hx) | (rw [h2] at hx)
      congr 2
      omega
  rw [List.map_cons, e9] at h
  exact va_mmin_long K.1 K.2.1 (by rw [K.2.2.1, hL.2.1]) K.2.2.2.1 (K.2.2.2.2.1 _ hw) (K.2.2.2.2.1 _ mat_s4) (K.2.2.2.2.1 _ mat_i) (K.2.2.2.2.1 _ mat_c4) K.2.2.2.2.2.2.2.1 (by rw [catS_map]; have := K.2.2.2.2.2.2.2.2.1; omega) hce hsl hd h
theorem go_mabs (K : CX NWL p R s mid args c (OWNN own) cc ad G D A nL) {bp idx : Nat} {L r : List Vv} {m : Mm} {a : Int} (ha : in32 a) (hce : cells ≤ R.cells) (hsl : slots ≤ R.slots) (hc : catS r ≤ 8) (hw : Cond.methodLink (OWNN own) idx Lib.Math.abs.name ∈ WT) (hd : decode cc bp = .ok (.invokestatic idx, 3)) (kk : Go p l e R s mid args below meth c Q ad G D A nL cells slots (bp + 3) L ((0, if 0 ≤ a then a else w32 (0 - a)) :: r) m) : Go p l e R s mid args below meth c Q ad G D A nL cells slots bp L ((0, a) :: r) m := by
  intro H locs ls hP hD hS hL
  have h := kk H locs ls hP hD hS hL
  show W p l e R s mid args below meth c H locs cells slots Q (F0 mid bp ls (.int (Int32.ofInt a) :: r.map (cv ad)))
  have e9 : cv ad (0, if 0 ≤ a then a else w32 (0 - a)) = .int (if 0 ≤ Int32.ofInt a then Int32.ofInt a else 0 - Int32.ofInt a) := by
    have h1 : 0 ≤ Int32.ofInt a ↔ 0 ≤ a := o32_le in32_lit0 ha
    show Value.int (Int32.ofInt (if 0 ≤ a then a else w32 (0 - a))) = _
    by_cases hx : 0 ≤ a
    · rw [if_pos hx, if_pos (h1.mpr hx)]
    · rw [if_neg hx, if_neg (fun z => hx (h1.mp z)), o32_w, Int32.ofInt_sub]
      rfl
  rw [List.map_cons, e9] at h
  exact va_mabs K.1 K.2.1 (by rw [K.2.2.1, hL.2.1]) K.2.2.2.1 (K.2.2.2.2.1 _ hw) (K.2.2.2.2.1 _ mat_s2) (K.2.2.2.2.1 _ mat_i) (K.2.2.2.2.1 _ mat_c2) K.2.2.2.2.2.2.2.1 (by rw [catS_map]; have := K.2.2.2.2.2.2.2.2.1; omega) hce hsl hd h
/-- the texts' own methods: to be proved (part 09) -/
def StrRows (p : Program) (l : Launch) (e : Env) (R : Room) (s : State) (mid : MethodId) (args : Array Value) (below : List Frame) (meth : Method) (c : Code) (Q : State → Prop) (ad : Int → Nat) (G : Nat → ClassId) (D : va_G) (A : Nat → Prop) (nL cells slots : Nat) (cc : ByteArray) : Prop :=
  ∀ (bp idx n : Nat) (pc pc' : Nat) (L L' st st' : List Vv) (m m' : Mm), decode cc bp = .ok (.invokevirtual idx, 3) → (idx, n) ∈ STT → st1 (.invokedynamic n) pc L st m = some (pc', L', st', m') → Go p l e R s mid args below meth c Q ad G D A nL cells slots (bp + 3) L' st' m' → Go p l e R s mid args below meth c Q ad G D A nL cells slots bp L st m
/-- one step of the number machine is a step of the machine -/
theorem step_sound (K : CX NWL p R s mid args c (OWNN own) cc ad G D A nL) (hce : cells ≤ R.cells) (hsl : slots ≤ R.slots) {m : Mm} (S : Sc NWL ad A s s.heap m) (hst : OWNN own = RX6 → StrRows p l e R s mid args below meth c Q ad G D A nL cells slots cc)
    {pc pc' : Nat} {L L' st st' : List Vv} {m' : Mm} {i : Instr} {b : Nat × Instr × Nat} (hB : B[pc]? = some b) (hdec : decode cc b.1 = .ok (b.2.1, b.2.2)) (hok : okE own B pc b i = true) (hV : StOk L st m) (h : st1 i pc L st m = some (pc', L', st', m')) :
    StOk L' st' m' ∧ ((∀ z, m' 500 z = m 500 z) ∧ (∀ z, m' 501 z = m 501 z)) ∧ L'.length = L.length ∧ pc' < B.length ∧ (Go p l e R s mid args below meth c Q ad G D A nL cells slots (bpOf B pc') L' st' m' → Go p l e R s mid args below meth c Q ad G D A nL cells slots (bpOf B pc) L st m) := by
  obtain ⟨hVL, hVs, hM⟩ := hV
  have hro : (∀ z, m 500 z = m 500 z) ∧ (∀ z, m 501 z = m 501 z) := ⟨fun _ => rfl, fun _ => rfl⟩
  rw [bpOf_at hB]
  have roU : ∀ {o k v : Int} {t : Nat}, (o, t) ∈ UNI → (∀ z, up m o k v 500 z = m 500 z) ∧ (∀ z, up m o k v 501 z = m 501 z) := by
    intro o k v t ho
    have := UNI_lt _ ho
    simp only at this
    exact ⟨fun z => up_ne (by omega), fun z => up_ne (by omega)⟩
  cases i with
  | iconst v =>
    simp only [okE, okN, Bool.and_eq_true, Bool.or_eq_true, decide_eq_true_eq] at hok
    obtain ⟨⟨n1, n2⟩, hv, ho⟩ := hok
    simp only [st1, Option.some.injEq, Prod.mk.injEq] at h
    obtain ⟨rfl, rfl, rfl, rfl⟩ := h
    refine ⟨⟨hVL, ok_cons (Vok_i.mpr hv) hVs, hM⟩, hro, rfl, n1, fun k => ?_⟩
    rw [n2] at k
    refine go_const K hdec ?_ k
    rcases ho with ho | ho | ho | ⟨h1, h2, h3⟩ | ⟨h1, h2, h3⟩
    · exact Or.inl ho
    · exact Or.inr (Or.inl ho)
    · exact Or.inr (Or.inr (Or.inl ho))
    · exact Or.inr (Or.inr (Or.inr (Or.inl ⟨_, h1, h2, CIT_w h3⟩)))
    · exact Or.inr (Or.inr (Or.inr (Or.inr ⟨_, h1, h2, CIT_w h3⟩)))
  | bipush v =>
    simp only [okE, okN, Bool.and_eq_true, Bool.or_eq_true, decide_eq_true_eq] at hok
    obtain ⟨⟨n1, n2⟩, hv, ho⟩ := hok
    simp only [st1, Option.some.injEq, Prod.mk.injEq] at h
    obtain ⟨rfl, rfl, rfl, rfl⟩ := h
    refine ⟨⟨hVL, ok_cons (Vok_l.mpr hv) hVs, hM⟩, hro, rfl, n1, fun k => ?_⟩
    rw [n2] at k
    refine go_lconst K hdec ?_ k
    rcases ho with ho | ⟨h1, h2, h3⟩
    · exact Or.inl ho
    · exact Or.inr ⟨_, h1, h2, CLT_w h3⟩
  | iload i =>
    simp only [okE, okN, Bool.and_eq_true, Bool.or_eq_true, decide_eq_true_eq] at hok
    obtain ⟨⟨n1, n2⟩, ho⟩ := hok
    simp only [st1] at h
    split at h
    · rename_i x hx
      simp only [Option.some.injEq, Prod.mk.injEq] at h
      obtain ⟨rfl, rfl, rfl, rfl⟩ := h
      refine ⟨⟨hVL, ok_cons (hVL _ (List.mem_of_getElem? hx)) hVs, hM⟩, hro, rfl, n1, fun k => ?_⟩
      rw [n2] at k
      exact go_iload K hdec ho hx k
    · cases h
  | lload i =>
    simp only [okE, okN, Bool.and_eq_true, Bool.or_eq_true, decide_eq_true_eq] at hok
    obtain ⟨⟨n1, n2⟩, ho⟩ := hok
    simp only [st1] at h
    split at h
    · rename_i x hx
      simp only [Option.some.injEq, Prod.mk.injEq] at h
      obtain ⟨rfl, rfl, rfl, rfl⟩ := h
      refine ⟨⟨hVL, ok_cons (hVL _ (List.mem_of_getElem? hx)) hVs, hM⟩, hro, rfl, n1, fun k => ?_⟩
      rw [n2] at k
      exact go_lload K hdec ho hx k
    · cases h
  | aload i =>
    simp only [okE, okN, Bool.and_eq_true, Bool.or_eq_true, decide_eq_true_eq] at hok
    obtain ⟨⟨n1, n2⟩, ho⟩ := hok
    simp only [st1] at h
    split at h
    · rename_i t x hx
      split at h
      · rename_i ht
        simp only [Option.some.injEq, Prod.mk.injEq] at h
        obtain ⟨rfl, rfl, rfl, rfl⟩ := h
        refine ⟨⟨hVL, ok_cons (hVL _ (List.mem_of_getElem? hx)) hVs, hM⟩, hro, rfl, n1, fun k => ?_⟩
        rw [n2] at k
        exact go_aload K hdec ho hx ht k
      · cases h
    · cases h
  | istore i =>
    simp only [okE, okN, Bool.and_eq_true, Bool.or_eq_true, decide_eq_true_eq] at hok
    obtain ⟨⟨n1, n2⟩, ho⟩ := hok
    simp only [st1] at h
    split at h
    · rename_i x r
      split at h
      · rename_i hi
        simp only [Option.some.injEq, Prod.mk.injEq] at h
        obtain ⟨rfl, rfl, rfl, rfl⟩ := h
        obtain ⟨hv, hr⟩ := List.forall_mem_cons.mp hVs
        refine ⟨⟨sto1_ok hVL hv, hr, hM⟩, hro, sto1_len _ _ _, n1, fun k => ?_⟩
        rw [n2] at k
        exact go_istore K hdec ho hi k
      · cases h
    · cases h
  | lstore i =>
    simp only [okE, okN, Bool.and_eq_true, Bool.or_eq_true, decide_eq_true_eq] at hok
    obtain ⟨⟨n1, n2⟩, ho⟩ := hok
    simp only [st1] at h
    split at h
    · rename_i x r
      split at h
      · rename_i hi
        simp only [Option.some.injEq, Prod.mk.injEq] at h
        obtain ⟨rfl, rfl, rfl, rfl⟩ := h
        obtain ⟨hv, hr⟩ := List.forall_mem_cons.mp hVs
        refine ⟨⟨sto2_ok hVL hv, hr, hM⟩, hro, sto2_len _ _ _, n1, fun k => ?_⟩
        rw [n2] at k
        exact go_lstore K hdec ho hi k
      · cases h
    · cases h
  | astore i =>
    simp only [okE, okN, Bool.and_eq_true, Bool.or_eq_true, decide_eq_true_eq] at hok
    obtain ⟨⟨n1, n2⟩, ho⟩ := hok
    simp only [st1] at h
    split at h
    · rename_i t x r
      split at h
      · rename_i hi
        simp only [Option.some.injEq, Prod.mk.injEq] at h
        obtain ⟨rfl, rfl, rfl, rfl⟩ := h
        obtain ⟨hv, hr⟩ := List.forall_mem_cons.mp hVs
        refine ⟨⟨sto1_ok hVL hv, hr, hM⟩, hro, sto1_len _ _ _, n1, fun k => ?_⟩
        rw [n2] at k
        exact go_astore K hdec ho hi.1 hi.2 k
      · cases h
    · cases h
  | iinc i n =>
    simp only [okE, okN, Bool.and_eq_true, decide_eq_true_eq] at hok
    obtain ⟨⟨n1, n2⟩, h1, h2⟩ := hok
    simp only [st1] at h
    split at h
    · rename_i x hx
      simp only [Option.some.injEq, Prod.mk.injEq] at h
      obtain ⟨rfl, rfl, rfl, rfl⟩ := h
      refine ⟨⟨sto1_ok hVL (Vok_i.mpr (in32_w _)), hVs, hM⟩, hro, sto1_len _ _ _, n1, fun k => ?_⟩
      rw [n2, h2] at k
      exact go_iinc K (dec_of hdec h1 h2) hx k
    · cases h
  | iadd =>
    simp only [okE, okN, Bool.and_eq_true, decide_eq_true_eq] at hok
    obtain ⟨⟨n1, n2⟩, h1, h2⟩ := hok
    simp only [st1] at h
    obtain ⟨a, b', r, rfl, hq⟩ := bi2_inv h
    cases hq
    obtain ⟨vb, hr⟩ := List.forall_mem_cons.mp hVs
    obtain ⟨va, hr⟩ := List.forall_mem_cons.mp hr
    refine ⟨⟨hVL, ok_cons (Vok_i.mpr (in32_w _)) hr, hM⟩, hro, rfl, n1, fun k => ?_⟩
    rw [n2, h2] at k
    exact go_iadd K (dec_of hdec h1 h2) k
  | isub =>
    simp only [okE, okN, Bool.and_eq_true, decide_eq_true_eq] at hok
    obtain ⟨⟨n1, n2⟩, h1, h2⟩ := hok
    simp only [st1] at h
    obtain ⟨a, b', r, rfl, hq⟩ := bi2_inv h
    cases hq
    obtain ⟨vb, hr⟩ := List.forall_mem_cons.mp hVs
    obtain ⟨va, hr⟩ := List.forall_mem_cons.mp hr
    refine ⟨⟨hVL, ok_cons (Vok_i.mpr (in32_w _)) hr, hM⟩, hro, rfl, n1, fun k => ?_⟩
    rw [n2, h2] at k
    exact go_isub K (dec_of hdec h1 h2) k
  | imul =>
    simp only [okE, okN, Bool.and_eq_true, decide_eq_true_eq] at hok
    obtain ⟨⟨n1, n2⟩, h1, h2⟩ := hok
    simp only [st1] at h
    obtain ⟨a, b', r, rfl, hq⟩ := bi2_inv h
    cases hq
    obtain ⟨vb, hr⟩ := List.forall_mem_cons.mp hVs
    obtain ⟨va, hr⟩ := List.forall_mem_cons.mp hr
    refine ⟨⟨hVL, ok_cons (Vok_i.mpr (in32_w _)) hr, hM⟩, hro, rfl, n1, fun k => ?_⟩
    rw [n2, h2] at k
    exact go_imul K (dec_of hdec h1 h2) k
  | iand =>
    simp only [okE, okN, Bool.and_eq_true, decide_eq_true_eq] at hok
    obtain ⟨⟨n1, n2⟩, h1, h2⟩ := hok
    simp only [st1] at h
    obtain ⟨a, b', r, rfl, hq⟩ := bi2_inv h
    cases hq
    obtain ⟨vb, hr⟩ := List.forall_mem_cons.mp hVs
    obtain ⟨va, hr⟩ := List.forall_mem_cons.mp hr
    refine ⟨⟨hVL, ok_cons (Vok_i.mpr (in32_to _)) hr, hM⟩, hro, rfl, n1, fun k => ?_⟩
    rw [n2, h2] at k
    exact go_iand K (dec_of hdec h1 h2) k
  | ior =>
    simp only [okE, okN, Bool.and_eq_true, decide_eq_true_eq] at hok
    obtain ⟨⟨n1, n2⟩, h1, h2⟩ := hok
    simp only [st1] at h
    obtain ⟨a, b', r, rfl, hq⟩ := bi2_inv h
    cases hq
    obtain ⟨vb, hr⟩ := List.forall_mem_cons.mp hVs
    obtain ⟨va, hr⟩ := List.forall_mem_cons.mp hr
    refine ⟨⟨hVL, ok_cons (Vok_i.mpr (in32_to _)) hr, hM⟩, hro, rfl, n1, fun k => ?_⟩
    rw [n2, h2] at k
    exact go_ior K (dec_of hdec h1 h2) k
  | ixor =>
    simp only [okE, okN, Bool.and_eq_true, decide_eq_true_eq] at hok
    obtain ⟨⟨n1, n2⟩, h1, h2⟩ := hok
    simp only [st1] at h
    obtain ⟨a, b', r, rfl, hq⟩ := bi2_inv h
    cases hq
    obtain ⟨vb, hr⟩ := List.forall_mem_cons.mp hVs
    obtain ⟨va, hr⟩ := List.forall_mem_cons.mp hr
    refine ⟨⟨hVL, ok_cons (Vok_i.mpr (in32_to _)) hr, hM⟩, hro, rfl, n1, fun k => ?_⟩
    rw [n2, h2] at k
    exact go_ixor K (dec_of hdec h1 h2) k
  | ishl =>
    simp only [okE, okN, Bool.and_eq_true, decide_eq_true_eq] at hok
    obtain ⟨⟨n1, n2⟩, h1, h2⟩ := hok
    simp only [st1] at h
    obtain ⟨a, b', r, rfl, hq⟩ := bi2_inv h
    cases hq
    obtain ⟨vb, hr⟩ := List.forall_mem_cons.mp hVs
    obtain ⟨va, hr⟩ := List.forall_mem_cons.mp hr
    refine ⟨⟨hVL, ok_cons (Vok_i.mpr (in32_to _)) hr, hM⟩, hro, rfl, n1, fun k => ?_⟩
    rw [n2, h2] at k
    exact go_ishl K (dec_of hdec h1 h2) k
  | ishr =>
    simp only [okE, okN, Bool.and_eq_true, decide_eq_true_eq] at hok
    obtain ⟨⟨n1, n2⟩, h1, h2⟩ := hok
    simp only [st1] at h
    obtain ⟨a, b', r, rfl, hq⟩ := bi2_inv h
    cases hq
    obtain ⟨vb, hr⟩ := List.forall_mem_cons.mp hVs
    obtain ⟨va, hr⟩ := List.forall_mem_cons.mp hr
    refine ⟨⟨hVL, ok_cons (Vok_i.mpr (in32_to _)) hr, hM⟩, hro, rfl, n1, fun k => ?_⟩
    rw [n2, h2] at k
    exact go_ishr K (dec_of hdec h1 h2) k
  | iushr =>
    simp only [okE, okN, Bool.and_eq_true, decide_eq_true_eq] at hok
    obtain ⟨⟨n1, n2⟩, h1, h2⟩ := hok
    simp only [st1] at h
    obtain ⟨a, b', r, rfl, hq⟩ := bi2_inv h
    cases hq
    obtain ⟨vb, hr⟩ := List.forall_mem_cons.mp hVs
    obtain ⟨va, hr⟩ := List.forall_mem_cons.mp hr
    refine ⟨⟨hVL, ok_cons (Vok_i.mpr (in32_to _)) hr, hM⟩, hro, rfl, n1, fun k => ?_⟩
    rw [n2, h2] at k
    exact go_iushr K (dec_of hdec h1 h2) k
  | idiv =>
    simp only [okE, okN, Bool.and_eq_true, decide_eq_true_eq] at hok
    obtain ⟨⟨n1, n2⟩, h1, h2⟩ := hok
    simp only [st1] at h
    obtain ⟨a, b', r, rfl, hne, hq⟩ := bd2_inv h
    cases hq
    obtain ⟨vb, hr⟩ := List.forall_mem_cons.mp hVs
    obtain ⟨va, hr⟩ := List.forall_mem_cons.mp hr
    refine ⟨⟨hVL, ok_cons (Vok_i.mpr (in32_to _)) hr, hM⟩, hro, rfl, n1, fun k => ?_⟩
    rw [n2, h2] at k
    exact go_idiv K (Vok_i.mp vb) hne (dec_of hdec h1 h2) k
  | irem =>
    simp only [okE, okN, Bool.and_eq_true, decide_eq_true_eq] at hok
    obtain ⟨⟨n1, n2⟩, h1, h2⟩ := hok
    simp only [st1] at h
    obtain ⟨a, b', r, rfl, hne, hq⟩ := bd2_inv h
    cases hq
    obtain ⟨vb, hr⟩ := List.forall_mem_cons.mp hVs
    obtain ⟨va, hr⟩ := List.forall_mem_cons.mp hr
    refine ⟨⟨hVL, ok_cons (Vok_i.mpr (in32_to _)) hr, hM⟩, hro, rfl, n1, fun k => ?_⟩
    rw [n2, h2] at k
    exact go_irem K (Vok_i.mp vb) hne (dec_of hdec h1 h2) k
  | ladd =>
    simp only [okE, okN, Bool.and_eq_true, decide_eq_true_eq] at hok
    obtain ⟨⟨n1, n2⟩, h1, h2⟩ := hok
    simp only [st1] at h
    obtain ⟨a, b', r, rfl, hq⟩ := bl2_inv h
    cases hq
    obtain ⟨vb, hr⟩ := List.forall_mem_cons.mp hVs
    obtain ⟨va, hr⟩ := List.forall_mem_cons.mp hr
    refine ⟨⟨hVL, ok_cons (Vok_l.mpr (in64_w _)) hr, hM⟩, hro, rfl, n1, fun k => ?_⟩
    rw [n2, h2] at k
    exact go_ladd K (dec_of hdec h1 h2) k
  | lsub =>
    simp only [okE, okN, Bool.and_eq_true, decide_eq_true_eq] at hok
    obtain ⟨⟨n1, n2⟩, h1, h2⟩ := hok
    simp only [st1] at h
    obtain ⟨a, b', r, rfl, hq⟩ := bl2_inv h
    cases hq
    obtain ⟨vb, hr⟩ := List.forall_mem_cons.mp hVs
    obtain ⟨va, hr⟩ := List.forall_mem_cons.mp hr
    refine ⟨⟨hVL, ok_cons (Vok_l.mpr (in64_w _)) hr, hM⟩, hro, rfl, n1, fun k => ?_⟩
    rw [n2, h2] at k
    exact go_lsub K (dec_of hdec h1 h2) k
  | lmul =>
    simp only [okE, okN, Bool.and_eq_true, decide_eq_true_eq] at hok
    obtain ⟨⟨n1, n2⟩, h1, h2⟩ := hok
    simp only [st1] at h
    obtain ⟨a, b', r, rfl, hq⟩ := bl2_inv h
    cases hq
    obtain ⟨vb, hr⟩ := List.forall_mem_cons.mp hVs
    obtain ⟨va, hr⟩ := List.forall_mem_cons.mp hr
    refine ⟨⟨hVL, ok_cons (Vok_l.mpr (in64_w _)) hr, hM⟩, hro, rfl, n1, fun k => ?_⟩
    rw [n2, h2] at k
    exact go_lmul K (dec_of hdec h1 h2) k
  | land =>
    simp only [okE, okN, Bool.and_eq_true, decide_eq_true_eq] at hok
    obtain ⟨⟨n1, n2⟩, h1, h2⟩ := hok
    simp only [st1] at h
    obtain ⟨a, b', r, rfl, hq⟩ := bl2_inv h
    cases hq
    obtain ⟨vb, hr⟩ := List.forall_mem_cons.mp hVs
    obtain ⟨va, hr⟩ := List.forall_mem_cons.mp hr
    refine ⟨⟨hVL, ok_cons (Vok_l.mpr (in64_to _)) hr, hM⟩, hro, rfl, n1, fun k => ?_⟩
    rw [n2, h2] at k
    exact go_land K (dec_of hdec h1 h2) k
  | lor =>
    simp only [okE, okN, Bool.and_eq_true, decide_eq_true_eq] at hok
    obtain ⟨⟨n1, n2⟩, h1, h2⟩ := hok
    simp only [st1] at h
    obtain ⟨a, b', r, rfl, hq⟩ := bl2_inv h
    cases hq
    obtain ⟨vb, hr⟩ := List.forall_mem_cons.mp hVs
    obtain ⟨va, hr⟩ := List.forall_mem_cons.mp hr
    refine ⟨⟨hVL, ok_cons (Vok_l.mpr (in64_to _)) hr, hM⟩, hro, rfl, n1, fun k => ?_⟩
    rw [n2, h2] at k
    exact go_lor K (dec_of hdec h1 h2) k
  | lxor =>
    simp only [okE, okN, Bool.and_eq_true, decide_eq_true_eq] at hok
    obtain ⟨⟨n1, n2⟩, h1, h2⟩ := hok
    simp only [st1] at h
    obtain ⟨a, b', r, rfl, hq⟩ := bl2_inv h
    cases hq
    obtain ⟨vb, hr⟩ := List.forall_mem_cons.mp hVs
    obtain ⟨va, hr⟩ := List.forall_mem_cons.mp hr
    refine ⟨⟨hVL, ok_cons (Vok_l.mpr (in64_to _)) hr, hM⟩, hro, rfl, n1, fun k => ?_⟩
    rw [n2, h2] at k
    exact go_lxor K (dec_of hdec h1 h2) k
  | lshl =>
    simp only [okE, okN, Bool.and_eq_true, decide_eq_true_eq] at hok
    obtain ⟨⟨n1, n2⟩, h1, h2⟩ := hok
    simp only [st1] at h
    obtain ⟨a, b', r, rfl, hq⟩ := bs2_inv h
    cases hq
    obtain ⟨vb, hr⟩ := List.forall_mem_cons.mp hVs
    obtain ⟨va, hr⟩ := List.forall_mem_cons.mp hr
    refine ⟨⟨hVL, ok_cons (Vok_l.mpr (in64_to _)) hr, hM⟩, hro, rfl, n1, fun k => ?_⟩
    rw [n2, h2] at k
    exact go_lshl K (dec_of hdec h1 h2) k
  | lshr =>
    simp only [okE, okN, Bool.and_eq_true, decide_eq_true_eq] at hok
    obtain ⟨⟨n1, n2⟩, h1, h2⟩ := hok
    simp only [st1] at h
    obtain ⟨a, b', r, rfl, hq⟩ := bs2_inv h
    cases hq
    obtain ⟨vb, hr⟩ := List.forall_mem_cons.mp hVs
    obtain ⟨va, hr⟩ := List.forall_mem_cons.mp hr
    refine ⟨⟨hVL, ok_cons (Vok_l.mpr (in64_to _)) hr, hM⟩, hro, rfl, n1, fun k => ?_⟩
    rw [n2, h2] at k
    exact go_lshr K (dec_of hdec h1 h2) k
  | lushr =>
    simp only [okE, okN, Bool.and_eq_true, decide_eq_true_eq] at hok
    obtain ⟨⟨n1, n2⟩, h1, h2⟩ := hok
    simp only [st1] at h
    obtain ⟨a, b', r, rfl, hq⟩ := bs2_inv h
    cases hq
    obtain ⟨vb, hr⟩ := List.forall_mem_cons.mp hVs
    obtain ⟨va, hr⟩ := List.forall_mem_cons.mp hr
    refine ⟨⟨hVL, ok_cons (Vok_l.mpr (in64_to _)) hr, hM⟩, hro, rfl, n1, fun k => ?_⟩
    rw [n2, h2] at k
    exact go_lushr K (dec_of hdec h1 h2) k
  | ldiv =>
    simp only [okE, okN, Bool.and_eq_true, decide_eq_true_eq] at hok
    obtain ⟨⟨n1, n2⟩, h1, h2⟩ := hok
    simp only [st1] at h
    obtain ⟨a, b', r, rfl, hne, hq⟩ := bq2_inv h
    cases hq
    obtain ⟨vb, hr⟩ := List.forall_mem_cons.mp hVs
    obtain ⟨va, hr⟩ := List.forall_mem_cons.mp hr
    refine ⟨⟨hVL, ok_cons (Vok_l.mpr (in64_to _)) hr, hM⟩, hro, rfl, n1, fun k => ?_⟩
    rw [n2, h2] at k
    exact go_ldiv K (Vok_l.mp vb) hne (dec_of hdec h1 h2) k
  | lrem =>
    simp only [okE, okN, Bool.and_eq_true, decide_eq_true_eq] at hok
    obtain ⟨⟨n1, n2⟩, h1, h2⟩ := hok
    simp only [st1] at h
    obtain ⟨a, b', r, rfl, hne, hq⟩ := bq2_inv h
    cases hq
    obtain ⟨vb, hr⟩ := List.forall_mem_cons.mp hVs
    obtain ⟨va, hr⟩ := List.forall_mem_cons.mp hr
    refine ⟨⟨hVL, ok_cons (Vok_l.mpr (in64_to _)) hr, hM⟩, hro, rfl, n1, fun k => ?_⟩
    rw [n2, h2] at k
    exact go_lrem K (Vok_l.mp vb) hne (dec_of hdec h1 h2) k
  | ineg =>
    simp only [okE, okN, Bool.and_eq_true, decide_eq_true_eq] at hok
    obtain ⟨⟨n1, n2⟩, h1, h2⟩ := hok
    simp only [st1] at h
    split at h
    · rename_i a r
      simp only [Option.some.injEq, Prod.mk.injEq] at h
      obtain ⟨rfl, rfl, rfl, rfl⟩ := h
      obtain ⟨va, hr⟩ := List.forall_mem_cons.mp hVs
      refine ⟨⟨hVL, ok_cons (Vok_i.mpr (in32_w _)) hr, hM⟩, hro, rfl, n1, fun k => ?_⟩
      rw [n2, h2] at k
      exact go_ineg K (dec_of hdec h1 h2) k
    · cases h
  | lneg =>
    simp only [okE, okN, Bool.and_eq_true, decide_eq_true_eq] at hok
    obtain ⟨⟨n1, n2⟩, h1, h2⟩ := hok
    simp only [st1] at h
    split at h
    · rename_i a r
      simp only [Option.some.injEq, Prod.mk.injEq] at h
      obtain ⟨rfl, rfl, rfl, rfl⟩ := h
      obtain ⟨va, hr⟩ := List.forall_mem_cons.mp hVs
      refine ⟨⟨hVL, ok_cons (Vok_l.mpr (in64_w _)) hr, hM⟩, hro, rfl, n1, fun k => ?_⟩
      rw [n2, h2] at k
      exact go_lneg K (dec_of hdec h1 h2) k
    · cases h
  | i2l =>
    simp only [okE, okN, Bool.and_eq_true, decide_eq_true_eq] at hok
    obtain ⟨⟨n1, n2⟩, h1, h2⟩ := hok
    simp only [st1] at h
    split at h
    · rename_i a r
      simp only [Option.some.injEq, Prod.mk.injEq] at h
      obtain ⟨rfl, rfl, rfl, rfl⟩ := h
      obtain ⟨va, hr⟩ := List.forall_mem_cons.mp hVs
      refine ⟨⟨hVL, ok_cons (Vok_l.mpr (in64_32 (Vok_i.mp va))) hr, hM⟩, hro, rfl, n1, fun k => ?_⟩
      rw [n2, h2] at k
      exact go_i2l K (Vok_i.mp va) (dec_of hdec h1 h2) k
    · cases h
  | l2i =>
    simp only [okE, okN, Bool.and_eq_true, decide_eq_true_eq] at hok
    obtain ⟨⟨n1, n2⟩, h1, h2⟩ := hok
    simp only [st1] at h
    split at h
    · rename_i a r
      simp only [Option.some.injEq, Prod.mk.injEq] at h
      obtain ⟨rfl, rfl, rfl, rfl⟩ := h
      obtain ⟨va, hr⟩ := List.forall_mem_cons.mp hVs
      refine ⟨⟨hVL, ok_cons (Vok_i.mpr (in32_w _)) hr, hM⟩, hro, rfl, n1, fun k => ?_⟩
      rw [n2, h2] at k
      exact go_l2i K (dec_of hdec h1 h2) k
    · cases h
  | i2c =>
    simp only [okE, okN, Bool.and_eq_true, decide_eq_true_eq] at hok
    obtain ⟨⟨n1, n2⟩, h1, h2⟩ := hok
    simp only [st1] at h
    split at h
    · rename_i a r
      simp only [Option.some.injEq, Prod.mk.injEq] at h
      obtain ⟨rfl, rfl, rfl, rfl⟩ := h
      obtain ⟨va, hr⟩ := List.forall_mem_cons.mp hVs
      refine ⟨⟨hVL, ok_cons (Vok_i.mpr (in32_to _)) hr, hM⟩, hro, rfl, n1, fun k => ?_⟩
      rw [n2, h2] at k
      exact go_i2c K (dec_of hdec h1 h2) k
    · cases h
  | lcmp =>
    simp only [okE, okN, Bool.and_eq_true, decide_eq_true_eq] at hok
    obtain ⟨⟨n1, n2⟩, h1, h2⟩ := hok
    simp only [st1] at h
    split at h
    · rename_i b' a r
      simp only [Option.some.injEq, Prod.mk.injEq] at h
      obtain ⟨rfl, rfl, rfl, rfl⟩ := h
      obtain ⟨va, hr⟩ := List.forall_mem_cons.mp hVs
      obtain ⟨va2, hr⟩ := List.forall_mem_cons.mp hr
      refine ⟨⟨hVL, ok_cons (Vok_i.mpr (by unfold lcm in32; split <;> (try split) <;> omega)) hr, hM⟩, hro, rfl, n1, fun k => ?_⟩
      rw [n2, h2] at k
      exact go_lcmp K (Vok_l.mp va2) (Vok_l.mp va) (dec_of hdec h1 h2) k
    · cases h
  | dup =>
    simp only [okE, okN, Bool.and_eq_true, decide_eq_true_eq] at hok
    obtain ⟨⟨n1, n2⟩, h1, h2⟩ := hok
    simp only [st1] at h
    split at h
    · rename_i t a r
      split at h
      · cases h
      · rename_i ht
        simp only [Option.some.injEq, Prod.mk.injEq] at h
        obtain ⟨rfl, rfl, rfl, rfl⟩ := h
        obtain ⟨va, hr⟩ := List.forall_mem_cons.mp hVs
        refine ⟨⟨hVL, ok_cons va (ok_cons va hr), hM⟩, hro, rfl, n1, fun k => ?_⟩
        rw [n2, h2] at k
        exact go_dup K (fun z => ht (Or.inl z)) (dec_of hdec h1 h2) k
    · cases h
  | dup2 =>
    simp only [okE, okN, Bool.and_eq_true, decide_eq_true_eq] at hok
    obtain ⟨⟨n1, n2⟩, h1, h2⟩ := hok
    simp only [st1] at h
    split at h
    · rename_i t a u b' r
      split at h
      · cases h
      · rename_i ht
        simp only [Option.some.injEq, Prod.mk.injEq] at h
        obtain ⟨rfl, rfl, rfl, rfl⟩ := h
        obtain ⟨va, hr⟩ := List.forall_mem_cons.mp hVs
        obtain ⟨vb, hr⟩ := List.forall_mem_cons.mp hr
        refine ⟨⟨hVL, ok_cons va (ok_cons vb (ok_cons va (ok_cons vb hr))), hM⟩, hro, rfl, n1, fun k => ?_⟩
        rw [n2, h2] at k
        exact go_dup2 K (fun z => ht (Or.inl z)) (fun z => ht (Or.inr (Or.inr (Or.inl z)))) (dec_of hdec h1 h2) k
    · cases h
  | pop =>
    simp only [okE, okN, Bool.and_eq_true, decide_eq_true_eq] at hok
    obtain ⟨⟨n1, n2⟩, h1, h2⟩ := hok
    simp only [st1] at h
    split at h
    · rename_i t a r
      split at h
      · cases h
      · rename_i ht
        simp only [Option.some.injEq, Prod.mk.injEq] at h
        obtain ⟨rfl, rfl, rfl, rfl⟩ := h
        obtain ⟨va, hr⟩ := List.forall_mem_cons.mp hVs
        refine ⟨⟨hVL, hr, hM⟩, hro, rfl, n1, fun k => ?_⟩
        rw [n2, h2] at k
        exact go_pop K (fun z => ht (Or.inl z)) (dec_of hdec h1 h2) k
    · cases h
  | goto t =>
    simp only [okE, okT, Bool.and_eq_true, decide_eq_true_eq] at hok
    obtain ⟨⟨t1, t2, t3⟩, h1, h2⟩ := hok
    simp only [st1, Option.some.injEq, Prod.mk.injEq] at h
    obtain ⟨rfl, rfl, rfl, rfl⟩ := h
    exact ⟨⟨hVL, hVs, hM⟩, hro, rfl, t2, fun k => go_goto K (dec_of hdec h1 h2) t3 k⟩
  | if_icmp cd t =>
    simp only [okE, okN, okT, Bool.and_eq_true, decide_eq_true_eq] at hok
    obtain ⟨⟨n1, n2⟩, ⟨t1, t2, t3⟩, h1, h2⟩ := hok
    simp only [st1] at h
    split at h
    · rename_i b' a r
      simp only [Option.some.injEq, Prod.mk.injEq] at h
      obtain ⟨rfl, rfl, rfl, rfl⟩ := h
      obtain ⟨vb, hr⟩ := List.forall_mem_cons.mp hVs
      obtain ⟨va, hr⟩ := List.forall_mem_cons.mp hr
      by_cases hc : cmpB cd a b' = true
      · rw [if_pos hc]
        exact ⟨⟨hVL, hr, hM⟩, hro, rfl, t2, fun k => go_icmp K (Vok_i.mp va) (Vok_i.mp vb) (dec_of hdec h1 h2) t3 (fun _ => k) (fun z => absurd hc z)⟩
      · rw [if_neg hc]
        refine ⟨⟨hVL, hr, hM⟩, hro, rfl, n1, fun k => ?_⟩
        rw [n2, h2] at k
        exact go_icmp K (Vok_i.mp va) (Vok_i.mp vb) (dec_of hdec h1 h2) t3 (fun z => absurd z hc) (fun _ => k)
    · cases h
  | ifCond cd t =>
    simp only [okE, okN, okT, Bool.and_eq_true, decide_eq_true_eq] at hok
    obtain ⟨⟨n1, n2⟩, ⟨t1, t2, t3⟩, h1, h2⟩ := hok
    simp only [st1] at h
    split at h
    · rename_i a r
      simp only [Option.some.injEq, Prod.mk.injEq] at h
      obtain ⟨rfl, rfl, rfl, rfl⟩ := h
      obtain ⟨va, hr⟩ := List.forall_mem_cons.mp hVs
      by_cases hc : cmpB cd a 0 = true
      · rw [if_pos hc]
        exact ⟨⟨hVL, hr, hM⟩, hro, rfl, t2, fun k => go_if K (Vok_i.mp va) (dec_of hdec h1 h2) t3 (fun _ => k) (fun z => absurd hc z)⟩
      · rw [if_neg hc]
        refine ⟨⟨hVL, hr, hM⟩, hro, rfl, n1, fun k => ?_⟩
        rw [n2, h2] at k
        exact go_if K (Vok_i.mp va) (dec_of hdec h1 h2) t3 (fun z => absurd z hc) (fun _ => k)
    · cases h
  | tableswitch d lo hi ts =>
    simp only [okE, Bool.and_eq_true, decide_eq_true_eq, List.all_eq_true, List.mem_range] at hok
    obtain ⟨hd0, ⟨h1, h2⟩, hall⟩ := hok
    simp only [st1] at h
    split at h
    · rename_i x r
      simp only [Option.some.injEq, Prod.mk.injEq] at h
      obtain ⟨rfl, rfl, rfl, rfl⟩ := h
      obtain ⟨va, hr⟩ := List.forall_mem_cons.mp hVs
      have hdx := hdec
      rw [h1] at hdx
      rw [tsw_ok]
      by_cases hin : x < lo ∨ lo + ts.toList.length ≤ x
      · rw [if_pos hin]
        simp only [okT, decide_eq_true_eq] at hd0
        refine ⟨⟨hVL, hr, hM⟩, hro, rfl, hd0.2.1, fun k => go_tsw (d := d) K (Vok_i.mp va) hdx rfl h2 (fun _ => trivial) (fun j hj hz => ?_) (fun _ => hd0.2.2) k⟩
        exfalso
        omega
      · rw [if_neg hin]
        have hj : (x - lo).toNat < ts.toList.length := by omega
        have h9 := hall _ hj
        simp only [okT, decide_eq_true_eq] at h9
        refine ⟨⟨hVL, hr, hM⟩, hro, rfl, h9.2.1, fun k => go_tsw (d := d) K (Vok_i.mp va) hdx rfl h2 (fun _ => trivial) (fun j hj hz => ?_) (fun z => absurd z hin) k⟩
        have : j = (x - lo).toNat := by omega
        subst this
        exact h9.2.2
    · cases h
  | lookupswitch d ps =>
    simp only [okE, Bool.and_eq_true, decide_eq_true_eq] at hok
    obtain ⟨hd0, ⟨h1, h2, h3⟩, hall⟩ := hok
    simp only [st1] at h
    split at h
    · rename_i x r
      simp only [Option.some.injEq, Prod.mk.injEq] at h
      obtain ⟨rfl, rfl, rfl, rfl⟩ := h
      obtain ⟨va, hr⟩ := List.forall_mem_cons.mp hVs
      have hdx := hdec
      rw [h1] at hdx
      have h9 := lsw_ok (B := B) (b := b) _ _ x hd0 _ _ h3 hall
      simp only [okT, decide_eq_true_eq] at h9
      exact ⟨⟨hVL, hr, hM⟩, hro, rfl, h9.2.1, fun k => go_lsw K (Vok_i.mp va) hdx h2 rfl h9.2.2 k⟩
    · cases h
  | multianewarray ci k =>
    simp only [okE, okN, Bool.and_eq_true, Bool.or_eq_true, decide_eq_true_eq] at hok
    obtain ⟨⟨n1, n2⟩, ⟨h1, h2, hc⟩, hf⟩ := hok
    simp only [st1] at h
    obtain ⟨o, r, v, rfl, hk, hv, hq⟩ := gtf_inv h
    cases hq
    obtain ⟨vo, hr⟩ := List.forall_mem_cons.mp hVs
    have ho : (o, ci + 10) ∈ UNI := Vok_ob vo (by omega)
    have hM1 := hM _ ho k
    simp only [sOk, Nat.add_sub_cancel] at hM1
    have hvv : Vok v ∧ cv ad v = fv ad m o ci k := by
      rcases hv with ⟨hf0, rfl⟩ | ⟨hf1, rfl⟩ | ⟨hn0, hn1, rfl⟩
      · have hn1 : ¬ FT ci k = 1 := by omega
        rw [if_neg (by have : ¬ aty (ci + 10) = 1 := (fun z => arr_kind z (by omega) (by omega)); omega)] at hM1
        exact ⟨hM1, by rw [cv_i, fv, if_neg hn1, if_pos hf0]⟩
      · rw [if_pos (Or.inl ⟨by omega, hf1⟩)] at hM1
        exact ⟨hM1, by rw [cv_l, fv, if_pos hf1]⟩
      · have hft := cl_ft ci hc k hk
        have h10 : 10 ≤ FT ci k := by omega
        have hu := UNI_fld _ ho (by simp only; omega) k (by simpa using hk) (by simpa using h10)
        simp only [Nat.add_sub_cancel] at hu
        exact ⟨Vok_o hu, by rw [cv_o ad _ hu, fv, if_neg hn1, if_neg hn0]⟩
    refine ⟨⟨hVL, ok_cons hvv.1 hr, hM⟩, hro, rfl, n1, fun kk => ?_⟩
    rw [n2, h2] at kk
    rcases hf with hf | hf
    · exact go_getf K false (FLT_w hf) hc hk ho hvv.2 (dec_of hdec h1 h2) kk
    · exact go_getf K true (FLT_w hf) hc hk ho hvv.2 (dec_of hdec h1 h2) kk
  | invokeinterface ci k =>
    simp only [okE, okN, Bool.and_eq_true, Bool.or_eq_true, decide_eq_true_eq] at hok
    obtain ⟨⟨n1, n2⟩, ⟨h1, h2, hc⟩, hf⟩ := hok
    simp only [st1] at h
    obtain ⟨o, r, tv, v, rfl, hk, hv, hq⟩ := ptf_inv h
    cases hq
    obtain ⟨vv, hr⟩ := List.forall_mem_cons.mp hVs
    obtain ⟨vo, hr⟩ := List.forall_mem_cons.mp hr
    have ho : (o, ci + 10) ∈ UNI := Vok_ob vo (by omega)
    have na : ¬ aty (ci + 10) = 1 := fun z => arr_kind z (by omega) (by omega)
    have hall : sOk (ci + 10) k v ∧ FT ci k < 10 ∧ cv ad (tv, v) = fv ad (up m o k v) o ci k ∧ narrow (CTy ci k) (cv ad (tv, v)) = cv ad (tv, v) ∧ fits (CTy ci k) (cv ad (tv, v)) = true := by
      rcases hv with ⟨hf0, rfl⟩ | ⟨hf1, rfl⟩ | ⟨hf2, rfl, hb⟩
      · refine ⟨?_, by omega, ?_, ?_, ?_⟩
        · simp only [sOk, Nat.add_sub_cancel]
          rw [if_neg (by omega)]
          exact vv
        · rw [cv_i, fv, if_neg (by omega), if_pos (Or.inl hf0), up_same]
        · rw [cl_t0 ci hc k hk hf0]; rfl
        · rw [cl_t0 ci hc k hk hf0]; rfl
      · refine ⟨?_, by omega, ?_, ?_, ?_⟩
        · simp only [sOk, Nat.add_sub_cancel]
          rw [if_pos (Or.inl ⟨by omega, hf1⟩)]
          exact vv
        · rw [cv_l, fv, if_pos hf1, up_same]
        · rw [cl_t1 ci hc k hk hf1]; rfl
        · rw [cl_t1 ci hc k hk hf1]; rfl
      · refine ⟨?_, by omega, ?_, ?_, ?_⟩
        · simp only [sOk, Nat.add_sub_cancel]
          rw [if_neg (by omega)]
          exact vv
        · rw [cv_i, fv, if_neg (by omega), if_pos (Or.inr hf2), up_same]
        · rw [cl_t2 ci hc k hk hf2]; rcases hb with rfl | rfl <;> rfl
        · rw [cl_t2 ci hc k hk hf2]; rcases hb with rfl | rfl <;> rfl
    obtain ⟨s1, s2, s3, s4, s5⟩ := hall
    refine ⟨⟨hVL, hr, Mok_up hM ho s1⟩, roU ho, rfl, n1, fun kk => ?_⟩
    rw [n2, h2] at kk
    rcases hf with hf | hf
    · exact go_putf K false (FLT_w hf) hc hk ho s2 s3 s4 s5 (dec_of hdec h1 h2) kk
    · exact go_putf K true (FLT_w hf) hc hk ho s2 s3 s4 s5 (dec_of hdec h1 h2) kk
  | iaload =>
    simp only [okE, okN, Bool.and_eq_true, decide_eq_true_eq] at hok
    obtain ⟨⟨n1, n2⟩, h1, h2⟩ := hok
    simp only [st1] at h
    unfold sld at h
    split at h
    · rename_i i t o r
      obtain ⟨vi, hr1⟩ := List.forall_mem_cons.mp hVs
      obtain ⟨vo, hr⟩ := List.forall_mem_cons.mp hr1
      clear hr1
      split at h
      · rename_i ht
        subst ht
        split at h
        · rename_i hi
          simp only [Option.some.injEq, Prod.mk.injEq] at h
          obtain ⟨rfl, rfl, rfl, rfl⟩ := h
          obtain ⟨Ls, xs, -, -, -, hl, -, hx⟩ := S.1
          have e1 := hx i.toNat (by rw [hl] at hi; omega)
          rw [Int.toNat_of_nonneg hi.1] at e1
          refine ⟨⟨hVL, ok_cons (Vok_i.mpr (by rw [e1]; exact in32_to _)) hr, hM⟩, hro, rfl, n1, fun k => ?_⟩
          rw [n2, h2] at k
          exact go_sld K S (Vok_i.mp vi) hi.1 hi.2 (dec_of hdec h1 h2) k
        · cases h
      · split at h
        · rename_i ht0 ht
          subst ht
          split at h
          · rename_i hi
            simp only [Option.some.injEq, Prod.mk.injEq] at h
            obtain ⟨rfl, rfl, rfl, rfl⟩ := h
            obtain ⟨xs, -, -, -, hx⟩ := S.2.1
            have e1 := hx i.toNat (by omega)
            rw [Int.toNat_of_nonneg hi.1] at e1
            refine ⟨⟨hVL, ok_cons (Vok_i.mpr (by rw [e1]; exact in32_to _)) hr, hM⟩, hro, rfl, n1, fun k => ?_⟩
            rw [n2, h2] at k
            exact go_tld K S (Vok_i.mp vi) hi.1 hi.2 (dec_of hdec h1 h2) k
          · cases h
        · obtain ⟨i', t', o', r', he, ha, h0, hi1, hq⟩ := ald_inv h
          cases he
          cases hq
          have ho : (o, t) ∈ UNI := Vok_ob vo (by have := arr_kind ha (by omega); omega)
          refine ⟨⟨hVL, ok_cons (Vok_i.mpr (sOk_arr (Or.inl ha) (mok_rd hM ho h0))) hr, hM⟩, hro, rfl, n1, fun k => ?_⟩
          rw [n2, h2] at k
          exact go_iald K ho ha (Vok_i.mp vi) h0 hi1 (dec_of hdec h1 h2) k
    · cases h
  | laload =>
    simp only [okE, okN, Bool.and_eq_true, decide_eq_true_eq] at hok
    obtain ⟨⟨n1, n2⟩, h1, h2⟩ := hok
    simp only [st1] at h
    obtain ⟨i, t, o, r, rfl, ha, h0, hi1, hq⟩ := ald_inv h
    cases hq
    obtain ⟨vi, hr⟩ := List.forall_mem_cons.mp hVs
    obtain ⟨vo, hr⟩ := List.forall_mem_cons.mp hr
    have ho : (o, t) ∈ UNI := Vok_ob vo (by have := arr_kind ha (by omega); omega)
    refine ⟨⟨hVL, ok_cons (Vok_l.mpr (sOk_larr ha (mok_rd hM ho h0))) hr, hM⟩, hro, rfl, n1, fun k => ?_⟩
    rw [n2, h2] at k
    exact go_lald K ho ha (Vok_i.mp vi) h0 hi1 (dec_of hdec h1 h2) k
  | baload =>
    simp only [okE, okN, Bool.and_eq_true, decide_eq_true_eq] at hok
    obtain ⟨⟨n1, n2⟩, h1, h2⟩ := hok
    simp only [st1] at h
    obtain ⟨i, t, o, r, rfl, ha, h0, hi1, hq⟩ := ald_inv h
    cases hq
    obtain ⟨vi, hr⟩ := List.forall_mem_cons.mp hVs
    obtain ⟨vo, hr⟩ := List.forall_mem_cons.mp hr
    have ho : (o, t) ∈ UNI := Vok_ob vo (by have := arr_kind ha (by omega); omega)
    refine ⟨⟨hVL, ok_cons (Vok_i.mpr (sOk_arr (Or.inr ha) (mok_rd hM ho h0))) hr, hM⟩, hro, rfl, n1, fun k => ?_⟩
    rw [n2, h2] at k
    exact go_zald K ho ha (Vok_i.mp vi) h0 hi1 (dec_of hdec h1 h2) k
  | aaload =>
    simp only [okE, okN, Bool.and_eq_true, decide_eq_true_eq] at hok
    obtain ⟨⟨n1, n2⟩, h1, h2⟩ := hok
    simp only [st1] at h
    obtain ⟨i, t, o, r, tr, rfl, ha, h0, hi1, hq⟩ := rld_inv h
    cases hq
    obtain ⟨vi, hr⟩ := List.forall_mem_cons.mp hVs
    obtain ⟨vo, hr⟩ := List.forall_mem_cons.mp hr
    have ho : (o, t) ∈ UNI := Vok_ob vo (by
      rcases ha with ⟨ha, -⟩ | ⟨ha, -⟩
      · have := arr_kind ha (by omega); omega
      · have := arr_kind ha (by omega); omega)
    have hm : (PA (aty t) o i, tr) ∈ UNI := by
      have e0 : ((i.toNat : Nat) : Int) = i := Int.toNat_of_nonneg h0
      have hlt : i.toNat < (t - 100) / 8 := by
        rw [aln_nat] at hi1
        omega
      rcases ha with ⟨ha, rfl⟩ | ⟨ha, rfl⟩
      · have := UNI_arr3 _ ho ha i.toNat hlt
        simp only at this
        rw [e0] at this
        rw [ha]
        exact this
      · have := UNI_arr4 _ ho ha i.toNat hlt
        simp only at this
        rw [e0] at this
        rw [ha]
        exact this
    refine ⟨⟨hVL, ok_cons (Vok_o hm) hr, hM⟩, hro, rfl, n1, fun k => ?_⟩
    rw [n2, h2] at k
    exact go_aald K ho ha (Vok_i.mp vi) h0 hi1 (dec_of hdec h1 h2) k
  | iastore =>
    simp only [okE, okN, Bool.and_eq_true, decide_eq_true_eq] at hok
    obtain ⟨⟨n1, n2⟩, h1, h2⟩ := hok
    simp only [st1] at h
    obtain ⟨v, i, t, o, r, rfl, ha, h0, hi1, hq⟩ := ast_inv h
    cases hq
    obtain ⟨vv, hr⟩ := List.forall_mem_cons.mp hVs
    obtain ⟨vi, hr⟩ := List.forall_mem_cons.mp hr
    obtain ⟨vo, hr⟩ := List.forall_mem_cons.mp hr
    have ho : (o, t) ∈ UNI := Vok_ob vo (by have := arr_kind ha (by omega); omega)
    refine ⟨⟨hVL, hr, by rw [up_nat h0]; exact Mok_up hM ho (sOk_arr' (Or.inl ha) (Vok_i.mp vv))⟩, roU ho, rfl, n1, fun k => ?_⟩
    rw [n2, h2] at k
    exact go_iast K ho ha (Vok_i.mp vi) h0 hi1 (dec_of hdec h1 h2) k
  | lastore =>
    simp only [okE, okN, Bool.and_eq_true, decide_eq_true_eq] at hok
    obtain ⟨⟨n1, n2⟩, h1, h2⟩ := hok
    simp only [st1] at h
    obtain ⟨v, i, t, o, r, rfl, ha, h0, hi1, hq⟩ := ast_inv h
    cases hq
    obtain ⟨vv, hr⟩ := List.forall_mem_cons.mp hVs
    obtain ⟨vi, hr⟩ := List.forall_mem_cons.mp hr
    obtain ⟨vo, hr⟩ := List.forall_mem_cons.mp hr
    have ho : (o, t) ∈ UNI := Vok_ob vo (by have := arr_kind ha (by omega); omega)
    refine ⟨⟨hVL, hr, by rw [up_nat h0]; exact Mok_up hM ho (sOk_larr' ha (Vok_l.mp vv))⟩, roU ho, rfl, n1, fun k => ?_⟩
    rw [n2, h2] at k
    exact go_last K ho ha (Vok_i.mp vi) h0 hi1 (dec_of hdec h1 h2) k
  | bastore =>
    simp only [okE, okN, Bool.and_eq_true, decide_eq_true_eq] at hok
    obtain ⟨⟨n1, n2⟩, h1, h2⟩ := hok
    simp only [st1] at h
    obtain ⟨v, i, t, o, r, rfl, ha, hb, h0, hi1, hq⟩ := bst_inv h
    cases hq
    obtain ⟨vv, hr⟩ := List.forall_mem_cons.mp hVs
    obtain ⟨vi, hr⟩ := List.forall_mem_cons.mp hr
    obtain ⟨vo, hr⟩ := List.forall_mem_cons.mp hr
    have ho : (o, t) ∈ UNI := Vok_ob vo (by have := arr_kind ha (by omega); omega)
    refine ⟨⟨hVL, hr, by rw [up_nat h0]; exact Mok_up hM ho (sOk_arr' (Or.inr ha) (Vok_i.mp vv))⟩, roU ho, rfl, n1, fun k => ?_⟩
    rw [n2, h2] at k
    exact go_zast K ho ha hb (Vok_i.mp vi) h0 hi1 (dec_of hdec h1 h2) k
  | arraylength =>
    simp only [okE, okN, Bool.and_eq_true, decide_eq_true_eq] at hok
    obtain ⟨⟨n1, n2⟩, h1, h2⟩ := hok
    simp only [st1] at h
    split at h
    · rename_i t o r
      obtain ⟨vo, hr⟩ := List.forall_mem_cons.mp hVs
      split at h
      · rename_i ht
        subst ht
        simp only [Option.some.injEq, Prod.mk.injEq] at h
        obtain ⟨rfl, rfl, rfl, rfl⟩ := h
        obtain ⟨Ls, xs, -, -, -, hl, hlt, hx⟩ := S.1
        refine ⟨⟨hVL, ok_cons (Vok_i.mpr (by rw [hl]; unfold in32; omega)) hr, hM⟩, hro, rfl, n1, fun k => ?_⟩
        rw [n2, h2] at k
        exact go_slen K S (dec_of hdec h1 h2) k
      · split at h
        · cases h
        · rename_i ht0 ha
          simp only [Option.some.injEq, Prod.mk.injEq] at h
          obtain ⟨rfl, rfl, rfl, rfl⟩ := h
          have ho : (o, t) ∈ UNI := Vok_ob vo (by
            have : ¬ t < 100 := fun z => ha (by unfold aty; rw [if_pos z])
            omega)
          refine ⟨⟨hVL, ok_cons (Vok_i.mpr (in32_aln ho ha)) hr, hM⟩, hro, rfl, n1, fun k => ?_⟩
          rw [n2, h2] at k
          exact go_alen K ho ha (dec_of hdec h1 h2) k
    · cases h
  | getstatic x0 =>
    simp only [okE, okN, Bool.and_eq_true, decide_eq_true_eq] at hok
    obtain ⟨⟨n1, n2⟩, h1, h2, h3⟩ := hok
    simp only [st1, Option.some.injEq, Prod.mk.injEq] at h
    obtain ⟨rfl, rfl, rfl, rfl⟩ := h
    refine ⟨⟨hVL, ok_cons trivial hVs, hM⟩, hro, rfl, n1, fun k => ?_⟩
    rw [n2, h2] at k
    exact go_tried K S (idx := 94) (by rw [h3]; exact List.mem_cons_self) (dec_of hdec h1 h2) k
  | ret n =>
    simp only [okE, okN, Bool.and_eq_true, decide_eq_true_eq] at hok
    obtain ⟨⟨n1, n2⟩, h1, h2, h3⟩ := hok
    simp only [st1] at h
    rcases mth_inv h with ⟨a, b', r, rfl, rfl, hc, hq⟩ | ⟨a, b', r, rfl, rfl, hc, hq⟩ | ⟨a, r, rfl, rfl, hc, hq⟩ | ⟨a, b', r, rfl, rfl, hc, hq⟩ | ⟨a, b', r, rfl, rfl, hc, hq⟩
    · cases hq
      obtain ⟨vb, hr⟩ := List.forall_mem_cons.mp hVs
      obtain ⟨va, hr⟩ := List.forall_mem_cons.mp hr
      refine ⟨⟨hVL, ok_cons (Vok_i.mpr (by have := Vok_i.mp va; have := Vok_i.mp vb; unfold in32 at *; omega)) hr, hM⟩, hro, rfl, n1, fun k => ?_⟩
      rw [n2, h2] at k
      exact go_mmax K (Vok_i.mp va) (Vok_i.mp vb) hce hsl hc (MAT_w h3) (dec_of hdec h1 h2) k
    · cases hq
      obtain ⟨vb, hr⟩ := List.forall_mem_cons.mp hVs
      obtain ⟨va, hr⟩ := List.forall_mem_cons.mp hr
      refine ⟨⟨hVL, ok_cons (Vok_i.mpr (by have := Vok_i.mp va; have := Vok_i.mp vb; unfold in32 at *; omega)) hr, hM⟩, hro, rfl, n1, fun k => ?_⟩
      rw [n2, h2] at k
      exact go_mmin K (Vok_i.mp va) (Vok_i.mp vb) hce hsl hc (MAT_w h3) (dec_of hdec h1 h2) k
    · cases hq
      obtain ⟨va, hr⟩ := List.forall_mem_cons.mp hVs
      refine ⟨⟨hVL, ok_cons (Vok_i.mpr (by split; exact Vok_i.mp va; exact in32_w _)) hr, hM⟩, hro, rfl, n1, fun k => ?_⟩
      rw [n2, h2] at k
      exact go_mabs K (Vok_i.mp va) hce hsl hc (MAT_w h3) (dec_of hdec h1 h2) k
    · cases hq
      obtain ⟨vb, hr⟩ := List.forall_mem_cons.mp hVs
      obtain ⟨va, hr⟩ := List.forall_mem_cons.mp hr
      refine ⟨⟨hVL, ok_cons (Vok_l.mpr (by have := Vok_l.mp va; have := Vok_l.mp vb; unfold in64 at *; omega)) hr, hM⟩, hro, rfl, n1, fun k => ?_⟩
      rw [n2, h2] at k
      exact go_mmaxJ K (Vok_l.mp va) (Vok_l.mp vb) hce hsl hc (MAT_w h3) (dec_of hdec h1 h2) k
    · cases hq
      obtain ⟨vb, hr⟩ := List.forall_mem_cons.mp hVs
      obtain ⟨va, hr⟩ := List.forall_mem_cons.mp hr
      refine ⟨⟨hVL, ok_cons (Vok_l.mpr (by have := Vok_l.mp va; have := Vok_l.mp vb; unfold in64 at *; omega)) hr, hM⟩, hro, rfl, n1, fun k => ?_⟩
      rw [n2, h2] at k
      exact go_mminJ K (Vok_l.mp va) (Vok_l.mp vb) hce hsl hc (MAT_w h3) (dec_of hdec h1 h2) k
  | ldc t =>
    simp only [okE, okN, Bool.and_eq_true, Bool.or_eq_true, decide_eq_true_eq] at hok
    obtain ⟨⟨n1, n2⟩, h3, ho⟩ := hok
    simp only [st1] at h
    split at h
    · simp only [Option.some.injEq, Prod.mk.injEq] at h
      obtain ⟨rfl, rfl, rfl, rfl⟩ := h
      rcases ho with ⟨rfl, h1, h2⟩ | ⟨rfl, h1, h2⟩
      · refine ⟨⟨hVL, ok_cons trivial hVs, hM⟩, hro, rfl, n1, fun k => ?_⟩
        rw [n2, h2] at k
        intro H locs ls hP hD hS hL
        exact va_ldcS K.1 K.2.1 K.2.2.2.1 (by rw [h3]; exact S.2.2.2.2.1) (dec_of hdec h1 h2) (k H locs ls hP hD hS hL)
      · refine ⟨⟨hVL, ok_cons trivial hVs, hM⟩, hro, rfl, n1, fun k => ?_⟩
        rw [n2, h2] at k
        intro H locs ls hP hD hS hL
        exact va_ldcS K.1 K.2.1 K.2.2.2.1 (by rw [h3]; exact S.2.2.2.2.2.1) (dec_of hdec h1 h2) (k H locs ls hP hD hS hL)
    · cases h
  | invokedynamic n =>
    simp only [okE, okN, Bool.and_eq_true, Bool.or_eq_true, decide_eq_true_eq] at hok
    obtain ⟨⟨n1, n2⟩, ho⟩ := hok
    rcases ho with ⟨rfl, h1, h2, h3⟩ | ⟨h3, hn, h1, h2, h4⟩
    · simp only [st1, if_true] at h
      obtain ⟨n, dp, td, d, sp, ts, a, rfl, ha, ha2, i0, i1, i2, i3, i4, hq⟩ := acp_inv h
      cases hq
      obtain ⟨vn, hr⟩ := List.forall_mem_cons.mp hVs
      obtain ⟨vdp, hr⟩ := List.forall_mem_cons.mp hr
      obtain ⟨vd, hr⟩ := List.forall_mem_cons.mp hr
      obtain ⟨vsp, hr⟩ := List.forall_mem_cons.mp hr
      obtain ⟨vs, hr⟩ := List.forall_mem_cons.mp hr
      have ho : (a, ts) ∈ UNI := Vok_ob vs (by have := arr_kind ha (by omega); omega)
      have ho2 : (d, td) ∈ UNI := Vok_ob vd (by have := arr_kind ha2 (by omega); omega)
      have hlt := UNI_lt _ ho2
      simp only at hlt
      refine ⟨⟨hVL, hr, Mok_cpy hM ho ho2 ha ha2 i1⟩, ⟨fun z => ?_, fun z => ?_⟩, rfl, n1, fun k => ?_⟩
      · unfold cpy; rw [if_neg (by omega)]
      · unfold cpy; rw [if_neg (by omega)]
      · rw [n2, h2] at k
        exact go_acp K (ACT_w h3) acp_nat acp_sta acp_ini ho ho2 ha ha2 (Vok_i.mp vn) (Vok_i.mp vsp) (Vok_i.mp vdp) i0 i1 i2 i3 i4 (dec_of hdec h1 h2) k
    · have hs := hst h3
      have hinv : StOk L' st' m' ∧ L' = L ∧ m' = m ∧ pc' = pc + 1 := by
        have h' := h
        simp only [st1, if_neg hn] at h'
        have in32w : ∀ x : Int, in32 (wchar x) := by
          intro x
          unfold wchar
          have hall : ∀ v ∈ WORDSL, in32 v := by unfold in32; decide +kernel
          rw [List.getD_eq_getElem?_getD]
          cases hx : WORDSL[x.toNat]? with
          | none => exact in32_lit0
          | some v => exact hall v (List.mem_of_getElem? hx)
        have in32x : ∀ (l : List Int) (c k : Int), 0 ≤ k → k + l.length ≤ 1000 → in32 (idxOf l c k) := by
          intro l
          induction l with
          | nil => intro c k _ _; unfold idxOf in32; omega
          | cons x r ih =>
            intro c k h0 h1
            unfold idxOf
            simp only [List.length_cons] at h1
            split
            · unfold in32; omega
            · exact ih c (k + 1) (by omega) (by omega)
        split at h'
        · split at h'
          · simp only [Option.some.injEq, Prod.mk.injEq] at h'
            obtain ⟨rfl, rfl, rfl, rfl⟩ := h'
            exact ⟨⟨hVL, ok_cons (Vok_i.mpr (by unfold in32; omega)) (fun _ z => by cases z), hM⟩, rfl, rfl, rfl⟩
          · simp only [Option.some.injEq, Prod.mk.injEq] at h'
            obtain ⟨rfl, rfl, rfl, rfl⟩ := h'
            obtain ⟨_, hr⟩ := List.forall_mem_cons.mp hVs
            exact ⟨⟨hVL, ok_cons (Vok_i.mpr (by unfold in32; omega)) hr, hM⟩, rfl, rfl, rfl⟩
          · cases h'
        · split at h'
          · split at h'
            · split at h'
              · simp only [Option.some.injEq, Prod.mk.injEq] at h'
                obtain ⟨rfl, rfl, rfl, rfl⟩ := h'
                exact ⟨⟨hVL, ok_cons (Vok_i.mpr (in32w _)) (fun _ z => by cases z), hM⟩, rfl, rfl, rfl⟩
              · cases h'
            · cases h'
          · split at h'
            · split at h'
              · simp only [Option.some.injEq, Prod.mk.injEq] at h'
                obtain ⟨rfl, rfl, rfl, rfl⟩ := h'
                exact ⟨⟨hVL, ok_cons (Vok_i.mpr (in32x _ _ _ (by omega) (by decide))) (fun _ z => by cases z), hM⟩, rfl, rfl, rfl⟩
              · cases h'
            · cases h'
      obtain ⟨hV', rfl, rfl, rfl⟩ := hinv
      refine ⟨hV', hro, rfl, n1, fun k => ?_⟩
      rw [n2, h2] at k
      exact hs _ _ _ _ _ _ _ _ _ _ _ (dec_of hdec h1 h2) h4 h k
  | _ => simp [st1] at h
end STEP
/-- the numbers alone: what a step keeps -/
def ScP (m : Mm) : Prop := (∃ (Ls : Nat) (xs : Nat → Int32), m 500 (-1) = (Ls : Int) ∧ Ls < 2 ^ 31 ∧ ∀ j : Nat, j < Ls → m 500 (j : Int) = (xs j).toInt) ∧ (∃ xs : Nat → Int32, ∀ j : Nat, j < 4 → m 501 (j : Int) = (xs j).toInt)
theorem step_pure {own : Nat} {B : List (Nat × Instr × Nat)} {m : Mm} (S : ScP m) {pc pc' : Nat} {L L' st st' : List Vv} {m' : Mm} {i : Instr} {b : Nat × Instr × Nat} (hok : okE own B pc b i = true) (hV : StOk L st m) (h : st1 i pc L st m = some (pc', L', st', m')) :
    StOk L' st' m' ∧ ((∀ z, m' 500 z = m 500 z) ∧ (∀ z, m' 501 z = m 501 z)) ∧ L'.length = L.length ∧ pc' < B.length := by
  obtain ⟨hVL, hVs, hM⟩ := hV
  have hro : (∀ z, m 500 z = m 500 z) ∧ (∀ z, m 501 z = m 501 z) := ⟨fun _ => rfl, fun _ => rfl⟩
  have roU : ∀ {o k v : Int} {t : Nat}, (o, t) ∈ UNI → (∀ z, up m o k v 500 z = m 500 z) ∧ (∀ z, up m o k v 501 z = m 501 z) := by
    intro o k v t ho
    have := UNI_lt _ ho
    simp only at this
    exact ⟨fun z => up_ne (by omega), fun z => up_ne (by omega)⟩
  cases i with
  | iconst v =>
    simp only [okE, okN, Bool.and_eq_true, Bool.or_eq_true, decide_eq_true_eq] at hok
    obtain ⟨⟨n1, n2⟩, hv, ho⟩ := hok
    simp only [st1, Option.some.injEq, Prod.mk.injEq] at h
    obtain ⟨rfl, rfl, rfl, rfl⟩ := h
    exact ⟨⟨hVL, ok_cons (Vok_i.mpr hv) hVs, hM⟩, hro, rfl, n1⟩
  | bipush v =>
    simp only [okE, okN, Bool.and_eq_true, Bool.or_eq_true, decide_eq_true_eq] at hok
    obtain ⟨⟨n1, n2⟩, hv, ho⟩ := hok
    simp only [st1, Option.some.injEq, Prod.mk.injEq] at h
    obtain ⟨rfl, rfl, rfl, rfl⟩ := h
    exact ⟨⟨hVL, ok_cons (Vok_l.mpr hv) hVs, hM⟩, hro, rfl, n1⟩
  | iload i =>
    simp only [okE, okN, Bool.and_eq_true, Bool.or_eq_true, decide_eq_true_eq] at hok
    obtain ⟨⟨n1, n2⟩, ho⟩ := hok
    simp only [st1] at h
    split at h
    · rename_i x hx
      simp only [Option.some.injEq, Prod.mk.injEq] at h
      obtain ⟨rfl, rfl, rfl, rfl⟩ := h
      exact ⟨⟨hVL, ok_cons (hVL _ (List.mem_of_getElem? hx)) hVs, hM⟩, hro, rfl, n1⟩
    · cases h
  | lload i =>
    simp only [okE, okN, Bool.and_eq_true, Bool.or_eq_true, decide_eq_true_eq] at hok
    obtain ⟨⟨n1, n2⟩, ho⟩ := hok
    simp only [st1] at h
    split at h
    · rename_i x hx
      simp only [Option.some.injEq, Prod.mk.injEq] at h
      obtain ⟨rfl, rfl, rfl, rfl⟩ := h
      exact ⟨⟨hVL, ok_cons (hVL _ (List.mem_of_getElem? hx)) hVs, hM⟩, hro, rfl, n1⟩
    · cases h
  | aload i =>
    simp only [okE, okN, Bool.and_eq_true, Bool.or_eq_true, decide_eq_true_eq] at hok
    obtain ⟨⟨n1, n2⟩, ho⟩ := hok
    simp only [st1] at h
    split at h
    · rename_i t x hx
      split at h
      · rename_i ht
        simp only [Option.some.injEq, Prod.mk.injEq] at h
        obtain ⟨rfl, rfl, rfl, rfl⟩ := h
        exact ⟨⟨hVL, ok_cons (hVL _ (List.mem_of_getElem? hx)) hVs, hM⟩, hro, rfl, n1⟩
      · cases h
    · cases h
  | istore i =>
    simp only [okE, okN, Bool.and_eq_true, Bool.or_eq_true, decide_eq_true_eq] at hok
    obtain ⟨⟨n1, n2⟩, ho⟩ := hok
    simp only [st1] at h
    split at h
    · rename_i x r
      split at h
      · rename_i hi
        simp only [Option.some.injEq, Prod.mk.injEq] at h
        obtain ⟨rfl, rfl, rfl, rfl⟩ := h
        obtain ⟨hv, hr⟩ := List.forall_mem_cons.mp hVs
        exact ⟨⟨sto1_ok hVL hv, hr, hM⟩, hro, sto1_len _ _ _, n1⟩
      · cases h
    · cases h
  | lstore i =>
    simp only [okE, okN, Bool.and_eq_true, Bool.or_eq_true, decide_eq_true_eq] at hok
    obtain ⟨⟨n1, n2⟩, ho⟩ := hok
    simp only [st1] at h
    split at h
    · rename_i x r
      split at h
      · rename_i hi
        simp only [Option.some.injEq, Prod.mk.injEq] at h
        obtain ⟨rfl, rfl, rfl, rfl⟩ := h
        obtain ⟨hv, hr⟩ := List.forall_mem_cons.mp hVs
        exact ⟨⟨sto2_ok hVL hv, hr, hM⟩, hro, sto2_len _ _ _, n1⟩
      · cases h
    · cases h
  | astore i =>
    simp only [okE, okN, Bool.and_eq_true, Bool.or_eq_true, decide_eq_true_eq] at hok
    obtain ⟨⟨n1, n2⟩, ho⟩ := hok
    simp only [st1] at h
    split at h
    · rename_i t x r
      split at h
      · rename_i hi
        simp only [Option.some.injEq, Prod.mk.injEq] at h
        obtain ⟨rfl, rfl, rfl, rfl⟩ := h
        obtain ⟨hv, hr⟩ := List.forall_mem_cons.mp hVs
        exact ⟨⟨sto1_ok hVL hv, hr, hM⟩, hro, sto1_len _ _ _, n1⟩
      · cases h
    · cases h
  | iinc i n =>
    simp only [okE, okN, Bool.and_eq_true, decide_eq_true_eq] at hok
    obtain ⟨⟨n1, n2⟩, h1, h2⟩ := hok
    simp only [st1] at h
    split at h
    · rename_i x hx
      simp only [Option.some.injEq, Prod.mk.injEq] at h
      obtain ⟨rfl, rfl, rfl, rfl⟩ := h
      exact ⟨⟨sto1_ok hVL (Vok_i.mpr (in32_w _)), hVs, hM⟩, hro, sto1_len _ _ _, n1⟩
    · cases h
  | iadd =>
    simp only [okE, okN, Bool.and_eq_true, decide_eq_true_eq] at hok
    obtain ⟨⟨n1, n2⟩, h1, h2⟩ := hok
    simp only [st1] at h
    obtain ⟨a, b', r, rfl, hq⟩ := bi2_inv h
    cases hq
    obtain ⟨vb, hr⟩ := List.forall_mem_cons.mp hVs
    obtain ⟨va, hr⟩ := List.forall_mem_cons.mp hr
    exact ⟨⟨hVL, ok_cons (Vok_i.mpr (in32_w _)) hr, hM⟩, hro, rfl, n1⟩
  | isub =>
    simp only [okE, okN, Bool.and_eq_true, decide_eq_true_eq] at hok
    obtain ⟨⟨n1, n2⟩, h1, h2⟩ := hok
    simp only [st1] at h
    obtain ⟨a, b', r, rfl, hq⟩ := bi2_inv h
    cases hq
    obtain ⟨vb, hr⟩ := List.forall_mem_cons.mp hVs
    obtain ⟨va, hr⟩ := List.forall_mem_cons.mp hr
    exact ⟨⟨hVL, ok_cons (Vok_i.mpr (in32_w _)) hr, hM⟩, hro, rfl, n1⟩
  | imul =>
    simp only [okE, okN, Bool.and_eq_true, decide_eq_true_eq] at hok
    obtain ⟨⟨n1, n2⟩, h1, h2⟩ := hok
    simp only [st1] at h
    obtain ⟨a, b', r, rfl, hq⟩ := bi2_inv h
    cases hq
    obtain ⟨vb, hr⟩ := List.forall_mem_cons.mp hVs
    obtain ⟨va, hr⟩ := List.forall_mem_cons.mp hr
    exact ⟨⟨hVL, ok_cons (Vok_i.mpr (in32_w _)) hr, hM⟩, hro, rfl, n1⟩
  | iand =>
    simp only [okE, okN, Bool.and_eq_true, decide_eq_true_eq] at hok
    obtain ⟨⟨n1, n2⟩, h1, h2⟩ := hok
    simp only [st1] at h
    obtain ⟨a, b', r, rfl, hq⟩ := bi2_inv h
    cases hq
    obtain ⟨vb, hr⟩ := List.forall_mem_cons.mp hVs
    obtain ⟨va, hr⟩ := List.forall_mem_cons.mp hr
    exact ⟨⟨hVL, ok_cons (Vok_i.mpr (in32_to _)) hr, hM⟩, hro, rfl, n1⟩
  | ior =>
    simp only [okE, okN, Bool.and_eq_true, decide_eq_true_eq] at hok
    obtain ⟨⟨n1, n2⟩, h1, h2⟩ := hok
    simp only [st1] at h
    obtain ⟨a, b', r, rfl, hq⟩ := bi2_inv h
    cases hq
    obtain ⟨vb, hr⟩ := List.forall_mem_cons.mp hVs
    obtain ⟨va, hr⟩ := List.forall_mem_cons.mp hr
    exact ⟨⟨hVL, ok_cons (Vok_i.mpr (in32_to _)) hr, hM⟩, hro, rfl, n1⟩
  | ixor =>
    simp only [okE, okN, Bool.and_eq_true, decide_eq_true_eq] at hok
    obtain ⟨⟨n1, n2⟩, h1, h2⟩ := hok
    simp only [st1] at h
    obtain ⟨a, b', r, rfl, hq⟩ := bi2_inv h
    cases hq
    obtain ⟨vb, hr⟩ := List.forall_mem_cons.mp hVs
    obtain ⟨va, hr⟩ := List.forall_mem_cons.mp hr
    exact ⟨⟨hVL, ok_cons (Vok_i.mpr (in32_to _)) hr, hM⟩, hro, rfl, n1⟩
  | ishl =>
    simp only [okE, okN, Bool.and_eq_true, decide_eq_true_eq] at hok
    obtain ⟨⟨n1, n2⟩, h1, h2⟩ := hok
    simp only [st1] at h
    obtain ⟨a, b', r, rfl, hq⟩ := bi2_inv h
    cases hq
    obtain ⟨vb, hr⟩ := List.forall_mem_cons.mp hVs
    obtain ⟨va, hr⟩ := List.forall_mem_cons.mp hr
    exact ⟨⟨hVL, ok_cons (Vok_i.mpr (in32_to _)) hr, hM⟩, hro, rfl, n1⟩
  | ishr =>
    simp only [okE, okN, Bool.and_eq_true, decide_eq_true_eq] at hok
    obtain ⟨⟨n1, n2⟩, h1, h2⟩ := hok
    simp only [st1] at h
    obtain ⟨a, b', r, rfl, hq⟩ := bi2_inv h
    cases hq
    obtain ⟨vb, hr⟩ := List.forall_mem_cons.mp hVs
    obtain ⟨va, hr⟩ := List.forall_mem_cons.mp hr
    exact ⟨⟨hVL, ok_cons (Vok_i.mpr (in32_to _)) hr, hM⟩, hro, rfl, n1⟩
  | iushr =>
    simp only [okE, okN, Bool.and_eq_true, decide_eq_true_eq] at hok
    obtain ⟨⟨n1, n2⟩, h1, h2⟩ := hok
    simp only [st1] at h
    obtain ⟨a, b', r, rfl, hq⟩ := bi2_inv h
    cases hq
    obtain ⟨vb, hr⟩ := List.forall_mem_cons.mp hVs
    obtain ⟨va, hr⟩ := List.forall_mem_cons.mp hr
    exact ⟨⟨hVL, ok_cons (Vok_i.mpr (in32_to _)) hr, hM⟩, hro, rfl, n1⟩
  | idiv =>
    simp only [okE, okN, Bool.and_eq_true, decide_eq_true_eq] at hok
    obtain ⟨⟨n1, n2⟩, h1, h2⟩ := hok
    simp only [st1] at h
    obtain ⟨a, b', r, rfl, hne, hq⟩ := bd2_inv h
    cases hq
    obtain ⟨vb, hr⟩ := List.forall_mem_cons.mp hVs
    obtain ⟨va, hr⟩ := List.forall_mem_cons.mp hr
    exact ⟨⟨hVL, ok_cons (Vok_i.mpr (in32_to _)) hr, hM⟩, hro, rfl, n1⟩
  | irem =>
    simp only [okE, okN, Bool.and_eq_true, decide_eq_true_eq] at hok
    obtain ⟨⟨n1, n2⟩, h1, h2⟩ := hok
    simp only [st1] at h
    obtain ⟨a, b', r, rfl, hne, hq⟩ := bd2_inv h
    cases hq
    obtain ⟨vb, hr⟩ := List.forall_mem_cons.mp hVs
    obtain ⟨va, hr⟩ := List.forall_mem_cons.mp hr
    exact ⟨⟨hVL, ok_cons (Vok_i.mpr (in32_to _)) hr, hM⟩, hro, rfl, n1⟩
  | ladd =>
    simp only [okE, okN, Bool.and_eq_true, decide_eq_true_eq] at hok
    obtain ⟨⟨n1, n2⟩, h1, h2⟩ := hok
    simp only [st1] at h
    obtain ⟨a, b', r, rfl, hq⟩ := bl2_inv h
    cases hq
    obtain ⟨vb, hr⟩ := List.forall_mem_cons.mp hVs
    obtain ⟨va, hr⟩ := List.forall_mem_cons.mp hr
    exact ⟨⟨hVL, ok_cons (Vok_l.mpr (in64_w _)) hr, hM⟩, hro, rfl, n1⟩
  | lsub =>
    simp only [okE, okN, Bool.and_eq_true, decide_eq_true_eq] at hok
    obtain ⟨⟨n1, n2⟩, h1, h2⟩ := hok
    simp only [st1] at h
    obtain ⟨a, b', r, rfl, hq⟩ := bl2_inv h
    cases hq
    obtain ⟨vb, hr⟩ := List.forall_mem_cons.mp hVs
    obtain ⟨va, hr⟩ := List.forall_mem_cons.mp hr
    exact ⟨⟨hVL, ok_cons (Vok_l.mpr (in64_w _)) hr, hM⟩, hro, rfl, n1⟩
  | lmul =>
    simp only [okE, okN, Bool.and_eq_true, decide_eq_true_eq] at hok
    obtain ⟨⟨n1, n2⟩, h1, h2⟩ := hok
    simp only [st1] at h
    obtain ⟨a, b', r, rfl, hq⟩ := bl2_inv h
    cases hq
    obtain ⟨vb, hr⟩ := List.forall_mem_cons.mp hVs
    obtain ⟨va, hr⟩ := List.forall_mem_cons.mp hr
    exact ⟨⟨hVL, ok_cons (Vok_l.mpr (in64_w _)) hr, hM⟩, hro, rfl, n1⟩
  | land =>
    simp only [okE, okN, Bool.and_eq_true, decide_eq_true_eq] at hok
    obtain ⟨⟨n1, n2⟩, h1, h2⟩ := hok
    simp only [st1] at h
    obtain ⟨a, b', r, rfl, hq⟩ := bl2_inv h
    cases hq
    obtain ⟨vb, hr⟩ := List.forall_mem_cons.mp hVs
    obtain ⟨va, hr⟩ := List.forall_mem_cons.mp hr
    exact ⟨⟨hVL, ok_cons (Vok_l.mpr (in64_to _)) hr, hM⟩, hro, rfl, n1⟩
  | lor =>
    simp only [okE, okN, Bool.and_eq_true, decide_eq_true_eq] at hok
    obtain ⟨⟨n1, n2⟩, h1, h2⟩ := hok
    simp only [st1] at h
    obtain ⟨a, b', r, rfl, hq⟩ := bl2_inv h
    cases hq
    obtain ⟨vb, hr⟩ := List.forall_mem_cons.mp hVs
    obtain ⟨va, hr⟩ := List.forall_mem_cons.mp hr
    exact ⟨⟨hVL, ok_cons (Vok_l.mpr (in64_to _)) hr, hM⟩, hro, rfl, n1⟩
  | lxor =>
    simp only [okE, okN, Bool.and_eq_true, decide_eq_true_eq] at hok
    obtain ⟨⟨n1, n2⟩, h1, h2⟩ := hok
    simp only [st1] at h
    obtain ⟨a, b', r, rfl, hq⟩ := bl2_inv h
    cases hq
    obtain ⟨vb, hr⟩ := List.forall_mem_cons.mp hVs
    obtain ⟨va, hr⟩ := List.forall_mem_cons.mp hr
    exact ⟨⟨hVL, ok_cons (Vok_l.mpr (in64_to _)) hr, hM⟩, hro, rfl, n1⟩
  | lshl =>
    simp only [okE, okN, Bool.and_eq_true, decide_eq_true_eq] at hok
    obtain ⟨⟨n1, n2⟩, h1, h2⟩ := hok
    simp only [st1] at h
    obtain ⟨a, b', r, rfl, hq⟩ := bs2_inv h
    cases hq
    obtain ⟨vb, hr⟩ := List.forall_mem_cons.mp hVs
    obtain ⟨va, hr⟩ := List.forall_mem_cons.mp hr
    exact ⟨⟨hVL, ok_cons (Vok_l.mpr (in64_to _)) hr, hM⟩, hro, rfl, n1⟩
  | lshr =>
    simp only [okE, okN, Bool.and_eq_true, decide_eq_true_eq] at hok
    obtain ⟨⟨n1, n2⟩, h1, h2⟩ := hok
    simp only [st1] at h
    obtain ⟨a, b', r, rfl, hq⟩ := bs2_inv h
    cases hq
    obtain ⟨vb, hr⟩ := List.forall_mem_cons.mp hVs
    obtain ⟨va, hr⟩ := List.forall_mem_cons.mp hr
    exact ⟨⟨hVL, ok_cons (Vok_l.mpr (in64_to _)) hr, hM⟩, hro, rfl, n1⟩
  | lushr =>
    simp only [okE, okN, Bool.and_eq_true, decide_eq_true_eq] at hok
    obtain ⟨⟨n1, n2⟩, h1, h2⟩ := hok
    simp only [st1] at h
    obtain ⟨a, b', r, rfl, hq⟩ := bs2_inv h
    cases hq
    obtain ⟨vb, hr⟩ := List.forall_mem_cons.mp hVs
    obtain ⟨va, hr⟩ := List.forall_mem_cons.mp hr
    exact ⟨⟨hVL, ok_cons (Vok_l.mpr (in64_to _)) hr, hM⟩, hro, rfl, n1⟩
  | ldiv =>
    simp only [okE, okN, Bool.and_eq_true, decide_eq_true_eq] at hok
    obtain ⟨⟨n1, n2⟩, h1, h2⟩ := hok
    simp only [st1] at h
    obtain ⟨a, b', r, rfl, hne, hq⟩ := bq2_inv h
    cases hq
    obtain ⟨vb, hr⟩ := List.forall_mem_cons.mp hVs
    obtain ⟨va, hr⟩ := List.forall_mem_cons.mp hr
    exact ⟨⟨hVL, ok_cons (Vok_l.mpr (in64_to _)) hr, hM⟩, hro, rfl, n1⟩
  | lrem =>
    simp only [okE, okN, Bool.and_eq_true, decide_eq_true_eq] at hok
    obtain ⟨⟨n1, n2⟩, h1, h2⟩ := hok
    simp only [st1] at h
    obtain ⟨a, b', r, rfl, hne, hq⟩ := bq2_inv h
    cases hq
    obtain ⟨vb, hr⟩ := List.forall_mem_cons.mp hVs
    obtain ⟨va, hr⟩ := List.forall_mem_cons.mp hr
    exact ⟨⟨hVL, ok_cons (Vok_l.mpr (in64_to _)) hr, hM⟩, hro, rfl, n1⟩
  | ineg =>
    simp only [okE, okN, Bool.and_eq_true, decide_eq_true_eq] at hok
    obtain ⟨⟨n1, n2⟩, h1, h2⟩ := hok
    simp only [st1] at h
    split at h
    · rename_i a r
      simp only [Option.some.injEq, Prod.mk.injEq] at h
      obtain ⟨rfl, rfl, rfl, rfl⟩ := h
      obtain ⟨va, hr⟩ := List.forall_mem_cons.mp hVs
      exact ⟨⟨hVL, ok_cons (Vok_i.mpr (in32_w _)) hr, hM⟩, hro, rfl, n1⟩
    · cases h
  | lneg =>
    simp only [okE, okN, Bool.and_eq_true, decide_eq_true_eq] at hok
    obtain ⟨⟨n1, n2⟩, h1, h2⟩ := hok
    simp only [st1] at h
    split at h
    · rename_i a r
      simp only [Option.some.injEq, Prod.mk.injEq] at h
      obtain ⟨rfl, rfl, rfl, rfl⟩ := h
      obtain ⟨va, hr⟩ := List.forall_mem_cons.mp hVs
      exact ⟨⟨hVL, ok_cons (Vok_l.mpr (in64_w _)) hr, hM⟩, hro, rfl, n1⟩
    · cases h
  | i2l =>
    simp only [okE, okN, Bool.and_eq_true, decide_eq_true_eq] at hok
    obtain ⟨⟨n1, n2⟩, h1, h2⟩ := hok
    simp only [st1] at h
    split at h
    · rename_i a r
      simp only [Option.some.injEq, Prod.mk.injEq] at h
      obtain ⟨rfl, rfl, rfl, rfl⟩ := h
      obtain ⟨va, hr⟩ := List.forall_mem_cons.mp hVs
      exact ⟨⟨hVL, ok_cons (Vok_l.mpr (in64_32 (Vok_i.mp va))) hr, hM⟩, hro, rfl, n1⟩
    · cases h
  | l2i =>
    simp only [okE, okN, Bool.and_eq_true, decide_eq_true_eq] at hok
    obtain ⟨⟨n1, n2⟩, h1, h2⟩ := hok
    simp only [st1] at h
    split at h
    · rename_i a r
      simp only [Option.some.injEq, Prod.mk.injEq] at h
      obtain ⟨rfl, rfl, rfl, rfl⟩ := h
      obtain ⟨va, hr⟩ := List.forall_mem_cons.mp hVs
      exact ⟨⟨hVL, ok_cons (Vok_i.mpr (in32_w _)) hr, hM⟩, hro, rfl, n1⟩
    · cases h
  | i2c =>
    simp only [okE, okN, Bool.and_eq_true, decide_eq_true_eq] at hok
    obtain ⟨⟨n1, n2⟩, h1, h2⟩ := hok
    simp only [st1] at h
    split at h
    · rename_i a r
      simp only [Option.some.injEq, Prod.mk.injEq] at h
      obtain ⟨rfl, rfl, rfl, rfl⟩ := h
      obtain ⟨va, hr⟩ := List.forall_mem_cons.mp hVs
      exact ⟨⟨hVL, ok_cons (Vok_i.mpr (in32_to _)) hr, hM⟩, hro, rfl, n1⟩
    · cases h
  | lcmp =>
    simp only [okE, okN, Bool.and_eq_true, decide_eq_true_eq] at hok
    obtain ⟨⟨n1, n2⟩, h1, h2⟩ := hok
    simp only [st1] at h
    split at h
    · rename_i b' a r
      simp only [Option.some.injEq, Prod.mk.injEq] at h
      obtain ⟨rfl, rfl, rfl, rfl⟩ := h
      obtain ⟨va, hr⟩ := List.forall_mem_cons.mp hVs
      obtain ⟨va2, hr⟩ := List.forall_mem_cons.mp hr
      exact ⟨⟨hVL, ok_cons (Vok_i.mpr (by unfold lcm in32; split <;> (try split) <;> omega)) hr, hM⟩, hro, rfl, n1⟩
    · cases h
  | dup =>
    simp only [okE, okN, Bool.and_eq_true, decide_eq_true_eq] at hok
    obtain ⟨⟨n1, n2⟩, h1, h2⟩ := hok
    simp only [st1] at h
    split at h
    · rename_i t a r
      split at h
      · cases h
      · rename_i ht
        simp only [Option.some.injEq, Prod.mk.injEq] at h
        obtain ⟨rfl, rfl, rfl, rfl⟩ := h
        obtain ⟨va, hr⟩ := List.forall_mem_cons.mp hVs
        exact ⟨⟨hVL, ok_cons va (ok_cons va hr), hM⟩, hro, rfl, n1⟩
    · cases h
  | dup2 =>
    simp only [okE, okN, Bool.and_eq_true, decide_eq_true_eq] at hok
    obtain ⟨⟨n1, n2⟩, h1, h2⟩ := hok
    simp only [st1] at h
    split at h
    · rename_i t a u b' r
      split at h
      · cases h
      · rename_i ht
        simp only [Option.some.injEq, Prod.mk.injEq] at h
        obtain ⟨rfl, rfl, rfl, rfl⟩ := h
        obtain ⟨va, hr⟩ := List.forall_mem_cons.mp hVs
        obtain ⟨vb, hr⟩ := List.forall_mem_cons.mp hr
        exact ⟨⟨hVL, ok_cons va (ok_cons vb (ok_cons va (ok_cons vb hr))), hM⟩, hro, rfl, n1⟩
    · cases h
  | pop =>
    simp only [okE, okN, Bool.and_eq_true, decide_eq_true_eq] at hok
    obtain ⟨⟨n1, n2⟩, h1, h2⟩ := hok
    simp only [st1] at h
    split at h
    · rename_i t a r
      split at h
      · cases h
      · rename_i ht
        simp only [Option.some.injEq, Prod.mk.injEq] at h
        obtain ⟨rfl, rfl, rfl, rfl⟩ := h
        obtain ⟨va, hr⟩ := List.forall_mem_cons.mp hVs
        exact ⟨⟨hVL, hr, hM⟩, hro, rfl, n1⟩
    · cases h
  | goto t =>
    simp only [okE, okT, Bool.and_eq_true, decide_eq_true_eq] at hok
    obtain ⟨⟨t1, t2, t3⟩, h1, h2⟩ := hok
    simp only [st1, Option.some.injEq, Prod.mk.injEq] at h
    obtain ⟨rfl, rfl, rfl, rfl⟩ := h
    exact ⟨⟨hVL, hVs, hM⟩, hro, rfl, t2⟩
  | if_icmp cd t =>
    simp only [okE, okN, okT, Bool.and_eq_true, decide_eq_true_eq] at hok
    obtain ⟨⟨n1, n2⟩, ⟨t1, t2, t3⟩, h1, h2⟩ := hok
    simp only [st1] at h
    split at h
    · rename_i b' a r
      simp only [Option.some.injEq, Prod.mk.injEq] at h
      obtain ⟨rfl, rfl, rfl, rfl⟩ := h
      obtain ⟨vb, hr⟩ := List.forall_mem_cons.mp hVs
      obtain ⟨va, hr⟩ := List.forall_mem_cons.mp hr
      by_cases hc : cmpB cd a b' = true
      · rw [if_pos hc]
        exact ⟨⟨hVL, hr, hM⟩, hro, rfl, t2⟩
      · rw [if_neg hc]
        exact ⟨⟨hVL, hr, hM⟩, hro, rfl, n1⟩
    · cases h
  | ifCond cd t =>
    simp only [okE, okN, okT, Bool.and_eq_true, decide_eq_true_eq] at hok
    obtain ⟨⟨n1, n2⟩, ⟨t1, t2, t3⟩, h1, h2⟩ := hok
    simp only [st1] at h
    split at h
    · rename_i a r
      simp only [Option.some.injEq, Prod.mk.injEq] at h
      obtain ⟨rfl, rfl, rfl, rfl⟩ := h
      obtain ⟨va, hr⟩ := List.forall_mem_cons.mp hVs
      by_cases hc : cmpB cd a 0 = true
      · rw [if_pos hc]
        exact ⟨⟨hVL, hr, hM⟩, hro, rfl, t2⟩
      · rw [if_neg hc]
        exact ⟨⟨hVL, hr, hM⟩, hro, rfl, n1⟩
    · cases h
  | tableswitch d lo hi ts =>
    simp only [okE, Bool.and_eq_true, decide_eq_true_eq, List.all_eq_true, List.mem_range] at hok
    obtain ⟨hd0, ⟨h1, h2⟩, hall⟩ := hok
    simp only [st1] at h
    split at h
    · rename_i x r
      simp only [Option.some.injEq, Prod.mk.injEq] at h
      obtain ⟨rfl, rfl, rfl, rfl⟩ := h
      obtain ⟨va, hr⟩ := List.forall_mem_cons.mp hVs
      rw [tsw_ok]
      by_cases hin : x < lo ∨ lo + ts.toList.length ≤ x
      · rw [if_pos hin]
        simp only [okT, decide_eq_true_eq] at hd0
        exact ⟨⟨hVL, hr, hM⟩, hro, rfl, hd0.2.1⟩
      · rw [if_neg hin]
        have hj : (x - lo).toNat < ts.toList.length := by omega
        have h9 := hall _ hj
        simp only [okT, decide_eq_true_eq] at h9
        exact ⟨⟨hVL, hr, hM⟩, hro, rfl, h9.2.1⟩
    · cases h
  | lookupswitch d ps =>
    simp only [okE, Bool.and_eq_true, decide_eq_true_eq] at hok
    obtain ⟨hd0, ⟨h1, h2, h3⟩, hall⟩ := hok
    simp only [st1] at h
    split at h
    · rename_i x r
      simp only [Option.some.injEq, Prod.mk.injEq] at h
      obtain ⟨rfl, rfl, rfl, rfl⟩ := h
      obtain ⟨va, hr⟩ := List.forall_mem_cons.mp hVs
      have h9 := lsw_ok (B := B) (b := b) _ _ x hd0 _ _ h3 hall
      simp only [okT, decide_eq_true_eq] at h9
      exact ⟨⟨hVL, hr, hM⟩, hro, rfl, h9.2.1⟩
    · cases h
  | multianewarray ci k =>
    simp only [okE, okN, Bool.and_eq_true, Bool.or_eq_true, decide_eq_true_eq] at hok
    obtain ⟨⟨n1, n2⟩, ⟨h1, h2, hc⟩, hf⟩ := hok
    simp only [st1] at h
    obtain ⟨o, r, v, rfl, hk, hv, hq⟩ := gtf_inv h
    cases hq
    obtain ⟨vo, hr⟩ := List.forall_mem_cons.mp hVs
    have ho : (o, ci + 10) ∈ UNI := Vok_ob vo (by omega)
    have hM1 := hM _ ho k
    simp only [sOk, Nat.add_sub_cancel] at hM1
    have hvv : Vok v ∧ True := by
      rcases hv with ⟨hf0, rfl⟩ | ⟨hf1, rfl⟩ | ⟨hn0, hn1, rfl⟩
      · have hn1 : ¬ FT ci k = 1 := by omega
        rw [if_neg (by have : ¬ aty (ci + 10) = 1 := (fun z => arr_kind z (by omega) (by omega)); omega)] at hM1
        exact ⟨hM1, trivial⟩
      · rw [if_pos (Or.inl ⟨by omega, hf1⟩)] at hM1
        exact ⟨hM1, trivial⟩
      · have hft := cl_ft ci hc k hk
        have h10 : 10 ≤ FT ci k := by omega
        have hu := UNI_fld _ ho (by simp only; omega) k (by simpa using hk) (by simpa using h10)
        simp only [Nat.add_sub_cancel] at hu
        exact ⟨Vok_o hu, trivial⟩
    exact ⟨⟨hVL, ok_cons hvv.1 hr, hM⟩, hro, rfl, n1⟩
  | invokeinterface ci k =>
    simp only [okE, okN, Bool.and_eq_true, Bool.or_eq_true, decide_eq_true_eq] at hok
    obtain ⟨⟨n1, n2⟩, ⟨h1, h2, hc⟩, hf⟩ := hok
    simp only [st1] at h
    obtain ⟨o, r, tv, v, rfl, hk, hv, hq⟩ := ptf_inv h
    cases hq
    obtain ⟨vv, hr⟩ := List.forall_mem_cons.mp hVs
    obtain ⟨vo, hr⟩ := List.forall_mem_cons.mp hr
    have ho : (o, ci + 10) ∈ UNI := Vok_ob vo (by omega)
    have na : ¬ aty (ci + 10) = 1 := fun z => arr_kind z (by omega) (by omega)
    have s1 : sOk (ci + 10) k v := by
      simp only [sOk, Nat.add_sub_cancel]
      rcases hv with ⟨hf0, rfl⟩ | ⟨hf1, rfl⟩ | ⟨hf2, rfl, hb⟩
      · rw [if_neg (by omega)]
        exact vv
      · rw [if_pos (Or.inl ⟨by omega, hf1⟩)]
        exact vv
      · rw [if_neg (by omega)]
        exact vv
    exact ⟨⟨hVL, hr, Mok_up hM ho s1⟩, roU ho, rfl, n1⟩
  | iaload =>
    simp only [okE, okN, Bool.and_eq_true, decide_eq_true_eq] at hok
    obtain ⟨⟨n1, n2⟩, h1, h2⟩ := hok
    simp only [st1] at h
    unfold sld at h
    split at h
    · rename_i i t o r
      obtain ⟨vi, hr1⟩ := List.forall_mem_cons.mp hVs
      obtain ⟨vo, hr⟩ := List.forall_mem_cons.mp hr1
      clear hr1
      split at h
      · rename_i ht
        subst ht
        split at h
        · rename_i hi
          simp only [Option.some.injEq, Prod.mk.injEq] at h
          obtain ⟨rfl, rfl, rfl, rfl⟩ := h
          obtain ⟨Ls, xs, hl, -, hx⟩ := S.1
          have e1 := hx i.toNat (by rw [hl] at hi; omega)
          rw [Int.toNat_of_nonneg hi.1] at e1
          exact ⟨⟨hVL, ok_cons (Vok_i.mpr (by rw [e1]; exact in32_to _)) hr, hM⟩, hro, rfl, n1⟩
        · cases h
      · split at h
        · rename_i ht0 ht
          subst ht
          split at h
          · rename_i hi
            simp only [Option.some.injEq, Prod.mk.injEq] at h
            obtain ⟨rfl, rfl, rfl, rfl⟩ := h
            obtain ⟨xs, hx⟩ := S.2
            have e1 := hx i.toNat (by omega)
            rw [Int.toNat_of_nonneg hi.1] at e1
            exact ⟨⟨hVL, ok_cons (Vok_i.mpr (by rw [e1]; exact in32_to _)) hr, hM⟩, hro, rfl, n1⟩
          · cases h
        · obtain ⟨i', t', o', r', he, ha, h0, hi1, hq⟩ := ald_inv h
          cases he
          cases hq
          have ho : (o, t) ∈ UNI := Vok_ob vo (by have := arr_kind ha (by omega); omega)
          exact ⟨⟨hVL, ok_cons (Vok_i.mpr (sOk_arr (Or.inl ha) (mok_rd hM ho h0))) hr, hM⟩, hro, rfl, n1⟩
    · cases h
  | laload =>
    simp only [okE, okN, Bool.and_eq_true, decide_eq_true_eq] at hok
    obtain ⟨⟨n1, n2⟩, h1, h2⟩ := hok
    simp only [st1] at h
    obtain ⟨i, t, o, r, rfl, ha, h0, hi1, hq⟩ := ald_inv h
    cases hq
    obtain ⟨vi, hr⟩ := List.forall_mem_cons.mp hVs
    obtain ⟨vo, hr⟩ := List.forall_mem_cons.mp hr
    have ho : (o, t) ∈ UNI := Vok_ob vo (by have := arr_kind ha (by omega); omega)
    exact ⟨⟨hVL, ok_cons (Vok_l.mpr (sOk_larr ha (mok_rd hM ho h0))) hr, hM⟩, hro, rfl, n1⟩
  | baload =>
    simp only [okE, okN, Bool.and_eq_true, decide_eq_true_eq] at hok
    obtain ⟨⟨n1, n2⟩, h1, h2⟩ := hok
    simp only [st1] at h
    obtain ⟨i, t, o, r, rfl, ha, h0, hi1, hq⟩ := ald_inv h
    cases hq
    obtain ⟨vi, hr⟩ := List.forall_mem_cons.mp hVs
    obtain ⟨vo, hr⟩ := List.forall_mem_cons.mp hr
    have ho : (o, t) ∈ UNI := Vok_ob vo (by have := arr_kind ha (by omega); omega)
    exact ⟨⟨hVL, ok_cons (Vok_i.mpr (sOk_arr (Or.inr ha) (mok_rd hM ho h0))) hr, hM⟩, hro, rfl, n1⟩
  | aaload =>
    simp only [okE, okN, Bool.and_eq_true, decide_eq_true_eq] at hok
    obtain ⟨⟨n1, n2⟩, h1, h2⟩ := hok
    simp only [st1] at h
    obtain ⟨i, t, o, r, tr, rfl, ha, h0, hi1, hq⟩ := rld_inv h
    cases hq
    obtain ⟨vi, hr⟩ := List.forall_mem_cons.mp hVs
    obtain ⟨vo, hr⟩ := List.forall_mem_cons.mp hr
    have ho : (o, t) ∈ UNI := Vok_ob vo (by
      rcases ha with ⟨ha, -⟩ | ⟨ha, -⟩
      · have := arr_kind ha (by omega); omega
      · have := arr_kind ha (by omega); omega)
    have hm : (PA (aty t) o i, tr) ∈ UNI := by
      have e0 : ((i.toNat : Nat) : Int) = i := Int.toNat_of_nonneg h0
      have hlt : i.toNat < (t - 100) / 8 := by
        rw [aln_nat] at hi1
        omega
      rcases ha with ⟨ha, rfl⟩ | ⟨ha, rfl⟩
      · have := UNI_arr3 _ ho ha i.toNat hlt
        simp only at this
        rw [e0] at this
        rw [ha]
        exact this
      · have := UNI_arr4 _ ho ha i.toNat hlt
        simp only at this
        rw [e0] at this
        rw [ha]
        exact this
    exact ⟨⟨hVL, ok_cons (Vok_o hm) hr, hM⟩, hro, rfl, n1⟩
  | iastore =>
    simp only [okE, okN, Bool.and_eq_true, decide_eq_true_eq] at hok
    obtain ⟨⟨n1, n2⟩, h1, h2⟩ := hok
    simp only [st1] at h
    obtain ⟨v, i, t, o, r, rfl, ha, h0, hi1, hq⟩ := ast_inv h
    cases hq
    obtain ⟨vv, hr⟩ := List.forall_mem_cons.mp hVs
    obtain ⟨vi, hr⟩ := List.forall_mem_cons.mp hr
    obtain ⟨vo, hr⟩ := List.forall_mem_cons.mp hr
    have ho : (o, t) ∈ UNI := Vok_ob vo (by have := arr_kind ha (by omega); omega)
    exact ⟨⟨hVL, hr, by rw [up_nat h0]; exact Mok_up hM ho (sOk_arr' (Or.inl ha) (Vok_i.mp vv))⟩, roU ho, rfl, n1⟩
  | lastore =>
    simp only [okE, okN, Bool.and_eq_true, decide_eq_true_eq] at hok
    obtain ⟨⟨n1, n2⟩, h1, h2⟩ := hok
    simp only [st1] at h
    obtain ⟨v, i, t, o, r, rfl, ha, h0, hi1, hq⟩ := ast_inv h
    cases hq
    obtain ⟨vv, hr⟩ := List.forall_mem_cons.mp hVs
    obtain ⟨vi, hr⟩ := List.forall_mem_cons.mp hr
    obtain ⟨vo, hr⟩ := List.forall_mem_cons.mp hr
    have ho : (o, t) ∈ UNI := Vok_ob vo (by have := arr_kind ha (by omega); omega)
    exact ⟨⟨hVL, hr, by rw [up_nat h0]; exact Mok_up hM ho (sOk_larr' ha (Vok_l.mp vv))⟩, roU ho, rfl, n1⟩
  | bastore =>
    simp only [okE, okN, Bool.and_eq_true, decide_eq_true_eq] at hok
    obtain ⟨⟨n1, n2⟩, h1, h2⟩ := hok
    simp only [st1] at h
    obtain ⟨v, i, t, o, r, rfl, ha, hb, h0, hi1, hq⟩ := bst_inv h
    cases hq
    obtain ⟨vv, hr⟩ := List.forall_mem_cons.mp hVs
    obtain ⟨vi, hr⟩ := List.forall_mem_cons.mp hr
    obtain ⟨vo, hr⟩ := List.forall_mem_cons.mp hr
    have ho : (o, t) ∈ UNI := Vok_ob vo (by have := arr_kind ha (by omega); omega)
    exact ⟨⟨hVL, hr, by rw [up_nat h0]; exact Mok_up hM ho (sOk_arr' (Or.inr ha) (Vok_i.mp vv))⟩, roU ho, rfl, n1⟩
  | arraylength =>
    simp only [okE, okN, Bool.and_eq_true, decide_eq_true_eq] at hok
    obtain ⟨⟨n1, n2⟩, h1, h2⟩ := hok
    simp only [st1] at h
    split at h
    · rename_i t o r
      obtain ⟨vo, hr⟩ := List.forall_mem_cons.mp hVs
      split at h
      · rename_i ht
        subst ht
        simp only [Option.some.injEq, Prod.mk.injEq] at h
        obtain ⟨rfl, rfl, rfl, rfl⟩ := h
        obtain ⟨Ls, xs, hl, hlt, hx⟩ := S.1
        exact ⟨⟨hVL, ok_cons (Vok_i.mpr (by rw [hl]; unfold in32; omega)) hr, hM⟩, hro, rfl, n1⟩
      · split at h
        · cases h
        · rename_i ht0 ha
          simp only [Option.some.injEq, Prod.mk.injEq] at h
          obtain ⟨rfl, rfl, rfl, rfl⟩ := h
          have ho : (o, t) ∈ UNI := Vok_ob vo (by
            have : ¬ t < 100 := fun z => ha (by unfold aty; rw [if_pos z])
            omega)
          exact ⟨⟨hVL, ok_cons (Vok_i.mpr (in32_aln ho ha)) hr, hM⟩, hro, rfl, n1⟩
    · cases h
  | getstatic x0 =>
    simp only [okE, okN, Bool.and_eq_true, decide_eq_true_eq] at hok
    obtain ⟨⟨n1, n2⟩, h1, h2, h3⟩ := hok
    simp only [st1, Option.some.injEq, Prod.mk.injEq] at h
    obtain ⟨rfl, rfl, rfl, rfl⟩ := h
    exact ⟨⟨hVL, ok_cons trivial hVs, hM⟩, hro, rfl, n1⟩
  | ret n =>
    simp only [okE, okN, Bool.and_eq_true, decide_eq_true_eq] at hok
    obtain ⟨⟨n1, n2⟩, h1, h2, h3⟩ := hok
    simp only [st1] at h
    rcases mth_inv h with ⟨a, b', r, rfl, rfl, hc, hq⟩ | ⟨a, b', r, rfl, rfl, hc, hq⟩ | ⟨a, r, rfl, rfl, hc, hq⟩ | ⟨a, b', r, rfl, rfl, hc, hq⟩ | ⟨a, b', r, rfl, rfl, hc, hq⟩
    · cases hq
      obtain ⟨vb, hr⟩ := List.forall_mem_cons.mp hVs
      obtain ⟨va, hr⟩ := List.forall_mem_cons.mp hr
      exact ⟨⟨hVL, ok_cons (Vok_i.mpr (by have := Vok_i.mp va; have := Vok_i.mp vb; unfold in32 at *; omega)) hr, hM⟩, hro, rfl, n1⟩
    · cases hq
      obtain ⟨vb, hr⟩ := List.forall_mem_cons.mp hVs
      obtain ⟨va, hr⟩ := List.forall_mem_cons.mp hr
      exact ⟨⟨hVL, ok_cons (Vok_i.mpr (by have := Vok_i.mp va; have := Vok_i.mp vb; unfold in32 at *; omega)) hr, hM⟩, hro, rfl, n1⟩
    · cases hq
      obtain ⟨va, hr⟩ := List.forall_mem_cons.mp hVs
      exact ⟨⟨hVL, ok_cons (Vok_i.mpr (by split; exact Vok_i.mp va; exact in32_w _)) hr, hM⟩, hro, rfl, n1⟩
    · cases hq
      obtain ⟨vb, hr⟩ := List.forall_mem_cons.mp hVs
      obtain ⟨va, hr⟩ := List.forall_mem_cons.mp hr
      exact ⟨⟨hVL, ok_cons (Vok_l.mpr (by have := Vok_l.mp va; have := Vok_l.mp vb; unfold in64 at *; omega)) hr, hM⟩, hro, rfl, n1⟩
    · cases hq
      obtain ⟨vb, hr⟩ := List.forall_mem_cons.mp hVs
      obtain ⟨va, hr⟩ := List.forall_mem_cons.mp hr
      exact ⟨⟨hVL, ok_cons (Vok_l.mpr (by have := Vok_l.mp va; have := Vok_l.mp vb; unfold in64 at *; omega)) hr, hM⟩, hro, rfl, n1⟩
  | ldc t =>
    simp only [okE, okN, Bool.and_eq_true, Bool.or_eq_true, decide_eq_true_eq] at hok
    obtain ⟨⟨n1, n2⟩, h3, ho⟩ := hok
    simp only [st1] at h
    split at h
    · simp only [Option.some.injEq, Prod.mk.injEq] at h
      obtain ⟨rfl, rfl, rfl, rfl⟩ := h
      rcases ho with ⟨rfl, h1, h2⟩ | ⟨rfl, h1, h2⟩
      · exact ⟨⟨hVL, ok_cons trivial hVs, hM⟩, hro, rfl, n1⟩
      · exact ⟨⟨hVL, ok_cons trivial hVs, hM⟩, hro, rfl, n1⟩
    · cases h
  | invokedynamic n =>
    simp only [okE, okN, Bool.and_eq_true, Bool.or_eq_true, decide_eq_true_eq] at hok
    obtain ⟨⟨n1, n2⟩, ho⟩ := hok
    rcases ho with ⟨rfl, h1, h2, h3⟩ | ⟨h3, hn, h1, h2, h4⟩
    · simp only [st1, if_true] at h
      obtain ⟨n, dp, td, d, sp, ts, a, rfl, ha, ha2, i0, i1, i2, i3, i4, hq⟩ := acp_inv h
      cases hq
      obtain ⟨vn, hr⟩ := List.forall_mem_cons.mp hVs
      obtain ⟨vdp, hr⟩ := List.forall_mem_cons.mp hr
      obtain ⟨vd, hr⟩ := List.forall_mem_cons.mp hr
      obtain ⟨vsp, hr⟩ := List.forall_mem_cons.mp hr
      obtain ⟨vs, hr⟩ := List.forall_mem_cons.mp hr
      have ho : (a, ts) ∈ UNI := Vok_ob vs (by have := arr_kind ha (by omega); omega)
      have ho2 : (d, td) ∈ UNI := Vok_ob vd (by have := arr_kind ha2 (by omega); omega)
      have hlt := UNI_lt _ ho2
      simp only at hlt
      refine ⟨⟨hVL, hr, Mok_cpy hM ho ho2 ha ha2 i1⟩, ⟨fun z => ?_, fun z => ?_⟩, rfl, n1⟩
      · unfold cpy; rw [if_neg (by omega)]
      · unfold cpy; rw [if_neg (by omega)]
    · have hs := h3
      have hinv : StOk L' st' m' ∧ L' = L ∧ m' = m ∧ pc' = pc + 1 := by
        have h' := h
        simp only [st1, if_neg hn] at h'
        have in32w : ∀ x : Int, in32 (wchar x) := by
          intro x
          unfold wchar
          have hall : ∀ v ∈ WORDSL, in32 v := by unfold in32; decide +kernel
          rw [List.getD_eq_getElem?_getD]
          cases hx : WORDSL[x.toNat]? with
          | none => exact in32_lit0
          | some v => exact hall v (List.mem_of_getElem? hx)
        have in32x : ∀ (l : List Int) (c k : Int), 0 ≤ k → k + l.length ≤ 1000 → in32 (idxOf l c k) := by
          intro l
          induction l with
          | nil => intro c k _ _; unfold idxOf in32; omega
          | cons x r ih =>
            intro c k h0 h1
            unfold idxOf
            simp only [List.length_cons] at h1
            split
            · unfold in32; omega
            · exact ih c (k + 1) (by omega) (by omega)
        split at h'
        · split at h'
          · simp only [Option.some.injEq, Prod.mk.injEq] at h'
            obtain ⟨rfl, rfl, rfl, rfl⟩ := h'
            exact ⟨⟨hVL, ok_cons (Vok_i.mpr (by unfold in32; omega)) (fun _ z => by cases z), hM⟩, rfl, rfl, rfl⟩
          · simp only [Option.some.injEq, Prod.mk.injEq] at h'
            obtain ⟨rfl, rfl, rfl, rfl⟩ := h'
            obtain ⟨_, hr⟩ := List.forall_mem_cons.mp hVs
            exact ⟨⟨hVL, ok_cons (Vok_i.mpr (by unfold in32; omega)) hr, hM⟩, rfl, rfl, rfl⟩
          · cases h'
        · split at h'
          · split at h'
            · split at h'
              · simp only [Option.some.injEq, Prod.mk.injEq] at h'
                obtain ⟨rfl, rfl, rfl, rfl⟩ := h'
                exact ⟨⟨hVL, ok_cons (Vok_i.mpr (in32w _)) (fun _ z => by cases z), hM⟩, rfl, rfl, rfl⟩
              · cases h'
            · cases h'
          · split at h'
            · split at h'
              · simp only [Option.some.injEq, Prod.mk.injEq] at h'
                obtain ⟨rfl, rfl, rfl, rfl⟩ := h'
                exact ⟨⟨hVL, ok_cons (Vok_i.mpr (in32x _ _ _ (by omega) (by decide))) (fun _ z => by cases z), hM⟩, rfl, rfl, rfl⟩
              · cases h'
            · cases h'
      obtain ⟨hV', rfl, rfl, rfl⟩ := hinv
      exact ⟨hV', hro, rfl, n1⟩
  | _ => simp [st1] at h
end
section
/-! A RUN OF THE NUMBER MACHINE IS A RUN OF THE MACHINE -/
/-- a method for the machine: its name, bytes, type of answer, static or not, the owner's number, its instructions as they lie in the bytes -/
abbrev MSr : Type := MethodName × ByteArray × Option FieldType × Bool × Nat × List (Nat × Instr × Nat)
def retOK (rt : Nat) (ret : Option FieldType) : Prop := (rt = 0 ∧ ret = some .int) ∨ (rt = 1 ∧ ret = some .long) ∨ (rt = 2 ∧ ret = some .boolean) ∨ (rt = 3 ∧ ret = none) ∨ (10 ≤ rt ∧ ∃ n, ret = some (.object n))
def Tab (own : Nat) (cc : ByteArray) (C : List Instr) (B : List (Nat × Instr × Nat)) : Prop := C.length = B.length ∧ ∀ (j : Nat) (i : Instr) (b : Nat × Instr × Nat), C[j]? = some i → B[j]? = some b → decode cc b.1 = .ok (b.2.1, b.2.2) ∧ okE own B j b i = true
def tagW (t : Nat) : Nat := if t = 1 then 2 else 1
def MOK (k : Nat) (M : MI) (S : MSr) : Prop :=
  (S.2.2.2.1 = true ↔ k ∈ STK) ∧ plainName S.1.cls = true ∧ YN k = S.1 ∧ OWNN S.2.2.2.2.1 = S.1.cls ∧ Cond.code S.1 S.2.1 M.2.2.1 S.2.2.1 ∈ WT ∧ Cond.initialized S.1.cls ∈ WT ∧ (S.1.cls ≠ "java/lang/invoke/MethodHandle" ∧ S.1.cls ≠ "java/lang/invoke/VarHandle") ∧
  (S.2.2.2.1 = true → Cond.static S.1 ∈ WT ∧ (parseMethodDescriptor S.1.desc).map (fun d => d.parameters.length) = some M.1.length) ∧
  (S.2.2.2.1 = false → Cond.instanceMethod S.1 ∈ WT ∧ Cond.selects S.1.cls S.1 S.1 ∈ WT ∧ ∃ (ci : Nat) (tl : List Nat), M.1 = (ci + 10) :: tl ∧ ci < 9 ∧ CR ci = S.1.cls ∧ (parseMethodDescriptor S.1.desc).map (fun d => d.parameters.length) = some tl.length) ∧
  retOK M.2.1 S.2.2.1 ∧ M.2.2.1 ≤ 40 ∧ (M.1.map tagW).sum ≤ M.2.2.1 ∧ Tab S.2.2.2.2.1 S.2.1 M.2.2.2 S.2.2.2.2.2 ∧ 0 < S.2.2.2.2.2.length ∧ bpOf S.2.2.2.2.2 0 = 0
def Tabs (MT : List MI) (MS : List MSr) : Prop := ∀ (k : Nat) (M : MI), MT[k]? = some M → ∃ S : MSr, MS[k]? = some S ∧ MOK k M S
theorem Sc_ro {ad : Int → Nat} {A : Nat → Prop} {s : State} {H : Heap} {m m' : Mm} (h : Sc NWL ad A s H m) (h0 : ∀ z, m' 500 z = m 500 z) (h1 : ∀ z, m' 501 z = m 501 z) : Sc NWL ad A s H m' := by
  obtain ⟨⟨Ls, xs, a1, a2, a3, a4, a5, a6⟩, ⟨ys, b1, b2, b3, b4⟩, r⟩ := h
  exact ⟨⟨Ls, xs, a1, a2, a3, by rw [h0]; exact a4, a5, fun j hj => by rw [h0]; exact a6 j hj⟩, ⟨ys, b1, b2, b3, fun j hj => by rw [h1]; exact b4 j hj⟩, r⟩
theorem NW_warm {s U : State} (hW : s.WarmedH U.vm) (h : ∀ w ∈ NWL, va_Nw w s) : ∀ w ∈ NWL, va_Nw w U := by
  intro w hw
  have h1 := h w hw
  rcases List.mem_cons.mp hw with rfl | hw
  · exact va_Nw.warmF hW h1
  · obtain ⟨q, hq, rfl⟩ := List.mem_map.mp hw
    have hq2 := (List.mem_filter.mp hq).2
    simp only [FLW, fword, if_pos hq2] at h1 ⊢
    exact va_Nw.warmF hW h1
theorem NW_same {u U : State} (hv : u.vm = U.vm) (h : ∀ w ∈ NWL, va_Nw w u) : ∀ w ∈ NWL, va_Nw w U := by
  intro w hw
  have h1 := h w hw
  refine va_Nw.same ?_ hv h1
  rcases List.mem_cons.mp hw with rfl | hw
  · rfl
  · obtain ⟨q, hq, rfl⟩ := List.mem_map.mp hw
    have hq2 := (List.mem_filter.mp hq).2
    simp only [FLW, fword, if_pos hq2]
    rfl
theorem Sc_warm {ad : Int → Nat} {A : Nat → Prop} {s U : State} {H : Heap} {m : Mm} (hW : s.WarmedH U.vm) (h : Sc NWL ad A s H m) : Sc NWL ad A U H m := by
  obtain ⟨⟨Ls, xs, a1, a⟩, ⟨ys, b1, b⟩, c1, ⟨adV, d1⟩, e1, e2, f1, f2, g⟩ := h
  exact ⟨⟨Ls, xs, va_X.moved hW.alike a1, a⟩, ⟨ys, va_X.moved hW.alike b1, b⟩, va_Z.moved hW.alike c1, ⟨adV, vk_S.moved hW.alike d1⟩, vk_R.warm hW e1, vk_R.warm hW e2, va_Z.moved hW.alike f1, va_Zq.moved hW.alike f2, NW_warm hW g⟩
theorem Sc_same {ad : Int → Nat} {A : Nat → Prop} {u U : State} {H : Heap} {m : Mm} (hv : u.vm = U.vm) (h : Sc NWL ad A u H m) : Sc NWL ad A U H m := by
  obtain ⟨⟨Ls, xs, a1, a⟩, ⟨ys, b1, b⟩, c1, ⟨adV, d1⟩, e1, e2, f1, f2, g⟩ := h
  have hal : u.vm.Alike U.vm := by rw [hv]; exact Vm.Alike.refl _
  exact ⟨⟨Ls, xs, va_X.moved hal a1, a⟩, ⟨ys, va_X.moved hal b1, b⟩, va_Z.moved hal c1, ⟨adV, vk_S.moved hal d1⟩, vk_R.same hv.symm e1, vk_R.same hv.symm e2, va_Z.moved hal f1, va_Zq.moved hal f2, NW_same hv g⟩
theorem Sc_kept {ad : Int → Nat} {A : Nat → Prop} {s : State} {H H1 : Heap} {m : Mm} (h : Sc NWL ad A s H m) (hz : H.size ≤ H1.size) (hq : ∀ a : Nat, a < H.size → ¬ A a → H1[a]? = H[a]?) : Sc NWL ad A s H1 m := by
  obtain ⟨⟨Ls, xs, a1, a2, a3, a⟩, ⟨ys, b1, b2, b3, b⟩, c1, ⟨adV, d1⟩, e1, e2, f1, f2, g⟩ := h
  exact ⟨⟨Ls, xs, a1.kept (hq _ a2 a3), Nat.lt_of_lt_of_le a2 hz, a3, a⟩, ⟨ys, b1.kept (hq _ b2 b3), Nat.lt_of_lt_of_le b2 hz, b3, b⟩, c1.kept hq, ⟨adV, d1.kept hq⟩, e1, e2, f1.kept hq, f2.kept hq, g⟩
theorem Sc_narrow {ad : Int → Nat} {A A' : Nat → Prop} {s : State} {H : Heap} {m : Mm} (h : Sc NWL ad A s H m) (hA : ∀ q, A' q → A q) : Sc NWL ad A' s H m := by
  obtain ⟨⟨Ls, xs, a1, a2, a3, a⟩, ⟨ys, b1, b2, b3, b⟩, c1, ⟨adV, d1⟩, e1, e2, f1, f2, g⟩ := h
  exact ⟨⟨Ls, xs, a1, a2, fun z => a3 (hA _ z), a⟩, ⟨ys, b1, b2, fun z => b3 (hA _ z), b⟩, c1.narrow hA, ⟨adV, d1.narrow hA⟩, e1, e2, f1.narrow hA, f2.narrow hA, g⟩
/-! a contract's start and end -/
def Pk (ad : Int → Nat) (G : Nat → ClassId) (D : va_G) (a : List Vv) (m : Mm) (sz : Nat) : Array Value → State → Prop := va_Pc (a.map (cv ad)) (fun U => U.heap.size = sz ∧ va_P D vwCl (WS ad G m) U.heap ∧ va_K D vwCl (TYS G) U ∧ va_D (fun _ => True) (WS ad G m) ∧ Sc NWL ad (va_A (WS ad G m) sz) U U.heap m)
def Qk (ad : Int → Nat) (G : Nat → ClassId) (D : va_G) (v : Option Vv) (m' : Mm) (A1 : Nat → Prop) : Array Value → State → Outcome → State → Prop := fun _ st oc t => oc = .returned (v.map (cv ad)) ∧ va_P D vwCl (WS ad G m') t.heap ∧ va_D A1 (WS ad G m') ∧ va_F A1 st t
theorem run_go {p : Program} {l : Launch} {e : Env} {R : Room} {s : State} {mid : MethodId} {args : Array Value} {below : List Frame} {meth : Method} {c : Code} {H : Heap} {locs : List Loc} {cells slots : Nat} {Q : State → Prop} {pc : Nat} {ls : Array Slot} {rest st0 : List Value} {a : Array Value} {A0 A1 : Nat → Prop} {H0 : Heap} {free : Addr → Prop} {ad : Int → Nat} {G : Nat → ClassId} {D : va_G} {v : Option Vv} {m1 : Mm}
    (hr : va_Run p l e R s mid args below meth c H locs cells slots 0 0 (F0 mid pc ls st0) rest (Qk ad G D v m1 A1 a) free) (hS : va_S A0 H0 H locs) (hA : ∀ q, q < H.size → A1 q → A0 q) (hf : ∀ q, free q → A0 q)
    (kk : ∀ (H1 : Heap) (locs1 : List Loc), va_P D vwCl (WS ad G m1) H1 → va_D A1 (WS ad G m1) → va_S A0 H0 H1 locs1 → W p l e R s mid args below meth c H1 locs1 cells slots Q (F0 mid (pc + 3) ls ((v.map (cv ad)).toList ++ rest))) : W p l e R s mid args below meth c H locs cells slots Q (F0 mid pc ls st0) := by
  intro T hT X
  obtain ⟨v', st₀, t, T', L, h0, X', hL, e1, e2, ⟨hv, hp, hd, hz, hk⟩, st⟩ := hr T hT X
  cases hv
  rw [h0] at hz hk
  obtain ⟨t2, a1, b1⟩ := kk T'.heap (locs ++ L) (by rw [e1]; exact hp) hd
    ⟨Nat.le_trans hS.1 (by rw [e1]; exact hz), fun q h1 h2 => by rw [e1, hk q (Nat.lt_of_lt_of_le h1 hS.1) (fun z => h2 (hA q (Nat.lt_of_lt_of_le h1 hS.1) z))]; exact hS.2.1 q h1 h2, fun q hq => by
      rcases List.mem_append.mp hq with h | h
      · exact hS.2.2 q h
      · exact hf _ (hL q h)⟩ T' rfl X'
  exact ⟨t2, st t2 a1, b1⟩
theorem ent_args (ad : Int → Nat) : ∀ (a : List Vv) (k i : Nat) (v : Vv), (entL a)[i]? = some v → v.1 ≠ 9 → (k + i, cv ad v) ∈ lv_args k (a.map (cv ad)) := by
  intro a
  induction a with
  | nil => intro k i v h; simp [entL] at h
  | cons q r ih =>
    obtain ⟨t, x⟩ := q
    intro k i v h h9
    have hcat : (cv ad (t, x)).category = catV (t, x) := cv_cat ad _
    by_cases ht : t = 1
    · subst ht
      simp only [entL, if_true] at h
      simp only [List.map_cons, lv_args, hcat]
      rw [if_pos (by simp [catV])]
      match i, h with
      | 0, h =>
        simp only [List.getElem?_cons_zero, Option.some.injEq] at h
        subst h
        exact List.mem_cons_self
      | 1, h =>
        simp only [List.getElem?_cons_succ, List.getElem?_cons_zero, Option.some.injEq] at h
        subst h
        exact absurd rfl h9
      | i + 2, h =>
        simp only [List.getElem?_cons_succ] at h
        have := ih (k + 2) i v h h9
        rw [show k + (i + 2) = k + 2 + i by omega]
        exact List.mem_cons_of_mem _ this
    · simp only [entL, if_neg ht] at h
      simp only [List.map_cons, lv_args, hcat]
      rw [if_neg (by simp [catV, ht])]
      match i, h with
      | 0, h =>
        simp only [List.getElem?_cons_zero, Option.some.injEq] at h
        subst h
        exact List.mem_cons_self
      | i + 1, h =>
        simp only [List.getElem?_cons_succ] at h
        have := ih (k + 1) i v h h9
        rw [show k + (i + 1) = k + 1 + i by omega]
        exact List.mem_cons_of_mem _ this
theorem ent_len (ad : Int → Nat) : ∀ a : List Vv, (lg_sl (a.map (cv ad))).length = (entL a).length ∧ (entL a).length = (a.map (fun v => tagW v.1)).sum := by
  intro a
  induction a with
  | nil => exact ⟨rfl, rfl⟩
  | cons q r ih =>
    obtain ⟨t, x⟩ := q
    have hcat : (cv ad (t, x)).category = catV (t, x) := cv_cat ad _
    have e1 : lg_sl ((cv ad (t, x)) :: r.map (cv ad)) = (if (cv ad (t, x)).category = 2 then [.val (cv ad (t, x)), .second] else [.val (cv ad (t, x))]) ++ lg_sl (r.map (cv ad)) := by simp [lg_sl]
    by_cases ht : t = 1
    · subst ht
      refine ⟨?_, ?_⟩
      · rw [List.map_cons, e1, hcat, if_pos (by simp [catV])]
        simp [entL, ih.1]
      · simp [entL, tagW, ih.2]; omega
    · refine ⟨?_, ?_⟩
      · rw [List.map_cons, e1, hcat, if_neg (by simp [catV, ht])]
        simp [entL, ht, ih.1]
      · simp [entL, tagW, ht, ih.2]; omega
theorem LH_ent (ad : Int → Nat) (a : List Vv) {n : Nat} (hn : (entL a).length ≤ n) : LH ad ((lg_sl (a.map (cv ad)) ++ List.replicate (n - (lg_sl (a.map (cv ad))).length) Slot.unset).toArray) n (ent a n) := by
  have h0 := (ent_len ad a).1
  obtain ⟨h1, h2, h3⟩ := lv_entry (a.map (cv ad)) (n := n) (by rw [h0]; exact hn)
  refine ⟨by simp [ent]; omega, h1, h2, fun i v hi h9 => ?_⟩
  unfold ent at hi
  by_cases hl : i < (entL a).length
  · rw [List.getElem?_append_left hl] at hi
    have := ent_args ad a 0 i v hi h9
    rw [Nat.zero_add] at this
    exact h3 _ this
  · rw [List.getElem?_append_right (by omega)] at hi
    have := List.mem_of_getElem? hi
    have := (List.mem_replicate.mp this).2
    rw [this] at h9
    exact absurd rfl h9
theorem entL_ok {a : List Vv} (h : ∀ v ∈ a, Vok v) : ∀ v ∈ entL a, Vok v := by
  induction a with
  | nil => intro v hv; cases hv
  | cons q r ih =>
    obtain ⟨t, x⟩ := q
    obtain ⟨h1, h2⟩ := List.forall_mem_cons.mp h
    intro v hv
    unfold entL at hv
    split at hv
    · rcases List.mem_cons.mp hv with rfl | hv
      · exact h1
      · rcases List.mem_cons.mp hv with rfl | hv
        · exact Vok_9
        · exact ih h2 v hv
    · rcases List.mem_cons.mp hv with rfl | hv
      · exact h1
      · exact ih h2 v hv
theorem ent_ok {a : List Vv} {n : Nat} (h : ∀ v ∈ a, Vok v) : ∀ v ∈ ent a n, Vok v := by
  intro v hv
  rcases List.mem_append.mp hv with hv | hv
  · exact entL_ok h v hv
  · rw [(List.mem_replicate.mp hv).2]
    exact Vok_9
/-- the return of a method -/
theorem ret_go {p : Program} {l : Launch} {e : Env} {R : Room} {s : State} {mid : MethodId} {args : Array Value} {below : List Frame} {meth : Method} {c : Code} {ad : Int → Nat} {G : Nat → ClassId} {D : va_G} {A : Nat → Prop} {nL : Nat} {own : Nat} {cc : ByteArray} {B : List (Nat × Instr × Nat)} {C : List Instr} {ret : Option FieldType} {rt : Nat} {v : Option Vv} {m' : Mm} {j : Nat} {i : Instr} {L st : List Vv}
    (K : CX NWL p R s mid args c (OWNN own) cc ad G D A nL) (hr : meth.sig.returnType = ret) (hlocks : meth.locks = false) (hrt : retOK rt ret) (T : Tab own cc C B) (hi : C[j]? = some i) (h : ret1 i rt st = some v) :
    Go p l e R s mid args below meth c (MQ below (Qk ad G D v m' A) args s 0 0 A) ad G D A nL 0 0 (bpOf B j) L st m' := by
  intro H locs ls hP hD hS hL
  have hjl : j < B.length := by rw [← T.1]; exact (List.getElem?_eq_some_iff.mp hi).1
  obtain ⟨b, hb⟩ : ∃ b, B[j]? = some b := ⟨B[j], List.getElem?_eq_getElem hjl⟩
  obtain ⟨hdec, hok⟩ := T.2 j i b hi hb
  rw [bpOf_at hb]
  have hq : ∀ (v9 : Option Value), v.map (cv ad) = v9 → ∀ t : State, t.heap = H → s.WarmedH t.vm → Qk ad G D v m' A args s (.returned v9) t := fun v9 hv t ht _ => ⟨by rw [hv], by rw [ht]; exact hP, hD, hS.F ht⟩
  cases i with
  | ireturn =>
    simp only [okE, decide_eq_true_eq] at hok
    simp only [ret1] at h
    split at h
    · rename_i x
      split at h
      · rename_i h0
        cases h
        have hret : ret = some .int := by rcases hrt with ⟨a1, a2⟩ | ⟨a1, a2⟩ | ⟨a1, a2⟩ | ⟨a1, a2⟩ | ⟨a1, a2⟩ <;> first | exact a2 | omega
        exact W.iret (v := Int32.ofInt x) K.1 K.2.1 (hr.trans hret) (hq _ rfl) hS.2.2 (dec_of hdec hok.1 hok.2) hlocks
      · split at h
        · split at h
          · rename_i h0 h2 hx
            cases h
            have hret : ret = some .boolean := by rcases hrt with ⟨a1, a2⟩ | ⟨a1, a2⟩ | ⟨a1, a2⟩ | ⟨a1, a2⟩ | ⟨a1, a2⟩ <;> first | exact a2 | omega
            exact W.zret (v := Int32.ofInt x) K.1 K.2.1 (hr.trans hret) (by rcases hx with rfl | rfl <;> rfl) (hq _ rfl) hS.2.2 (dec_of hdec hok.1 hok.2) hlocks
          · cases h
        · cases h
    · cases h
  | lreturn =>
    simp only [okE, decide_eq_true_eq] at hok
    simp only [ret1] at h
    split at h
    · rename_i x
      split at h
      · rename_i h0
        cases h
        have hret : ret = some .long := by rcases hrt with ⟨a1, a2⟩ | ⟨a1, a2⟩ | ⟨a1, a2⟩ | ⟨a1, a2⟩ | ⟨a1, a2⟩ <;> first | exact a2 | omega
        exact W.lret (v := Int64.ofInt x) K.1 K.2.1 (hr.trans hret) (hq _ rfl) hS.2.2 (dec_of hdec hok.1 hok.2) hlocks
      · cases h
    · cases h
  | areturn =>
    simp only [okE, decide_eq_true_eq] at hok
    simp only [ret1] at h
    split at h
    · rename_i t x
      split at h
      · rename_i h0
        cases h
        obtain ⟨h0, h10⟩ := h0
        subst h0
        obtain ⟨nm, hret⟩ : ∃ n, ret = some (.object n) := by
          rcases hrt with ⟨a1, a2⟩ | ⟨a1, a2⟩ | ⟨a1, a2⟩ | ⟨a1, a2⟩ | ⟨a1, a2⟩
          · omega
          · omega
          · omega
          · omega
          · exact a2
        obtain ⟨a, ha⟩ := cv_r ad rt x (by omega)
        show W p l e R s mid args below meth c H locs 0 0 _ (F0 mid b.1 ls [cv ad (rt, x)])
        exact W.aret K.1 K.2.1 (hr.trans hret) (Or.inl ⟨nm, rfl⟩) (Or.inr ⟨a, ha⟩) (hq _ rfl) hS.2.2 (dec_of hdec hok.1 hok.2) hlocks
      · cases h
    · cases h
  | return_ =>
    simp only [okE, decide_eq_true_eq] at hok
    simp only [ret1] at h
    split at h
    · split at h
      · rename_i h0
        cases h
        have hret : ret = none := by rcases hrt with ⟨a1, a2⟩ | ⟨a1, a2⟩ | ⟨a1, a2⟩ | ⟨a1, a2⟩ | ⟨a1, a2⟩ <;> first | exact a2 | omega
        exact W.vret K.1 K.2.1 (hr.trans hret) (hq _ rfl) hS.2.2 (dec_of hdec hok.1 hok.2) hlocks
      · cases h
    · cases h
  | _ => simp [ret1] at h
/-- what is still owed of the texts' own methods -/
def STR : Prop := ∀ (p : Program) (l : Launch) (e : Env) (R : Room) (s : State) (mid : MethodId) (args : Array Value) (below : List Frame) (meth : Method) (c : Code) (Q : State → Prop) (ad : Int → Nat) (G : Nat → ClassId) (D : va_G) (A : Nat → Prop) (nL cells slots : Nat) (cc : ByteArray) (m : Mm), CX NWL p R s mid args c RX6 cc ad G D A nL → Sc NWL ad A s s.heap m → 10 ≤ R.frames → 640 ≤ R.locals → cells ≤ R.cells → slots ≤ R.slots → StrRows p l e R s mid args below meth c Q ad G D A nL cells slots cc
/-- what a run gives: its end's numbers are right, and the machine goes along with it -/
def SND (MT : List MI) (n : Nat) : Prop := ∀ (d : Nat) (C : List Instr) (rt pc : Nat) (L st : List Vv) (m : Mm) (v : Option Vv) (m' : Mm) (p : Program) (l : Launch) (e : Env) (R : Room) (s : State) (mid : MethodId) (args : Array Value) (below : List Frame) (meth : Method) (c : Code) (Q : State → Prop) (ad : Int → Nat) (G : Nat → ClassId) (D : va_G) (A : Nat → Prop) (nL own : Nat) (cc : ByteArray) (B : List (Nat × Instr × Nat)) (cells slots : Nat),
  ex MT n d C rt pc L st m = some (v, m') → CX NWL p R s mid args c (OWNN own) cc ad G D A nL → Sc NWL ad A s s.heap m → Tab own cc C B → StOk L st m → d + 10 ≤ R.frames → 64 * (d + 10) ≤ R.locals → cells ≤ R.cells → slots ≤ R.slots →
  (Mok m' ∧ (∀ w, v = some w → Vok w) ∧ (∀ z, m' 500 z = m 500 z) ∧ (∀ z, m' 501 z = m 501 z)) ∧
  ((∀ (j : Nat) (i : Instr) (L' st' : List Vv), C[j]? = some i → ret1 i rt st' = some v → Go p l e R s mid args below meth c Q ad G D A nL cells slots (bpOf B j) L' st' m') → Go p l e R s mid args below meth c Q ad G D A nL cells slots (bpOf B pc) L st m)

theorem WT_good {w : Cond} (h : w ∈ WT) : goodWord w = true := (List.mem_filter.mp h).2
theorem goodWT {w0 : Cond} (h0 : w0 ∈ WT) : GoodIn WT (w0 :: WT) := fun w hw => by
  rcases List.mem_cons.mp hw with rfl | hw
  · exact ⟨h0, good_of_word (WT_good h0)⟩
  · exact ⟨hw, good_of_word (WT_good hw)⟩
def rmD (d : Nat) : Room := { frames := d + 10, cells := 0, slots := 0, locals := 64 * (d + 10) }
/-- a method's contract, out of what runs of its length give -/
theorem met_of {MT : List MI} {n d k sz : Nat} {M : MI} {S : MSr} {a : List Vv} {m m' : Mm} {v : Option Vv} (IH : SND MT n) (hM : MOK k M S) (l : Launch) (ad : Int → Nat) (G : Nat → ClassId) (D : va_G) (h : ex MT n d M.2.2.2 M.2.1 0 (ent a M.2.2.1) [] m = some (v, m')) (ha : a.map (fun v => v.1) = M.1) (hV : ∀ v ∈ a, Vok v) (hm : Mok m) :
    Met l S.1 (Cond.code S.1 S.2.1 M.2.2.1 S.2.2.1 :: WT) (rmD d) (Pk ad G D a m sz) (Qk ad G D v m' (va_A (WS ad G m) sz)) 0 0 (va_A (WS ad G m) sz) := by
  obtain ⟨hstk0, hp1, hy, hown, hcode, hini, hnames, hst, hin, hret, h40, hsum, hT, hB0, hb0⟩ := hM
  refine Met.ofW (cc := S.2.1) (maxL := M.2.2.1) (ret := S.2.2.1) hp1 rfl ?_
  intro p e s mid args below meth c s₁ B hml hv
  obtain ⟨rfl, hsz, hP, hK, hD0, hSc⟩ := hv
  have hts0 := atoms_spec (ws := Cond.code S.1 S.2.1 M.2.2.1 S.2.2.1 :: WT) B.pre
  have hfc : s.vm.findClass S.1.cls = some mid.cls := findClass_of_methodNamed B.named
  subst hsz
  have hD := hD0.self (sz := s.heap.size)
  have K : CX NWL p (headSpec (Cond.code S.1 S.2.1 M.2.2.1 S.2.2.1 :: WT) (rmD d)).room s mid ((a.map (cv ad)).toArray) c (OWNN S.2.2.2.2.1) S.2.1 ad G D (va_A (WS ad G m) s.heap.size) M.2.2.1 :=
    ⟨B.exec, B.bytes, hml, by rw [hown]; exact hfc, fun w hw => hts0 w (List.mem_cons_of_mem _ hw), hK, fun q hq => Or.inr hq, by show 1 ≤ d + 10; omega, by show 64 ≤ 64 * (d + 10); omega, hSc.2.2.2.2.2.2.2.2⟩
  have hlen : (entL a).length ≤ M.2.2.1 := by
    rw [(ent_len ad a).2]
    have e1 : a.map (fun v => tagW v.1) = M.1.map tagW := by rw [← ha, List.map_map]; rfl
    rw [e1]
    exact hsum
  have hfin := (IH d M.2.2.2 M.2.1 0 (ent a M.2.2.1) [] m v m' p l e _ s mid _ below meth c (MQ below (Qk ad G D v m' (va_A (WS ad G m) s.heap.size)) ((a.map (cv ad)).toArray) s 0 0 (va_A (WS ad G m) s.heap.size)) ad G D _ M.2.2.1 S.2.2.2.2.1 S.2.1 S.2.2.2.2.2 0 0 h K hSc hT ⟨ent_ok hV, (fun _ z => by cases z), hm⟩ (Nat.le_refl _) (Nat.le_refl _) (Nat.zero_le _) (Nat.zero_le _)).2
    (fun j i L' st' hj hr => ret_go K B.returns B.notSynchronized hret hT hj hr)
  have := hfin s.heap [] _ hP hD va_S.rf (LH_ent ad a hlen)
  rw [hb0] at this
  rw [lg_entry_eq]
  exact this

theorem ex_call {MT : List MI} {n d : Nat} {C : List Instr} {rt pc k : Nat} {L st : List Vv} {m : Mm} (h : C[pc]? = some (.invokestatic k)) : ex MT (n + 1) d C rt pc L st m =
    match d, MT[k]? with
        | d' + 1, some M =>
          if ((st.take M.1.length).reverse.map (fun v => v.1)) = M.1 ∧ catS (st.drop M.1.length) ≤ 8 then
            match ex MT n d' M.2.2.2 M.2.1 0 (ent (st.take M.1.length).reverse M.2.2.1) [] m with
            | some (v, m') => ex MT n d C rt (pc + 1) L (v.toList ++ st.drop M.1.length) m'
            | none => none
          else none
        | _, _ => none := by
  rw [ex, h]
  rfl
theorem ex_other {MT : List MI} {n d : Nat} {C : List Instr} {rt pc : Nat} {L st : List Vv} {m : Mm} {i : Instr} (h : C[pc]? = some i) (hi : ∀ k, i ≠ .invokestatic k) : ex MT (n + 1) d C rt pc L st m =
    match ret1 i rt st with
        | some v => some (v, m)
        | none =>
          match st1 i pc L st m with
          | some (pc', L', st', m') => ex MT n d C rt pc' L' st' m'
          | none => none := by
  rw [ex, h]
  cases i <;> first | rfl | exact absurd rfl (hi _)
theorem ret1_ok {i : Instr} {rt : Nat} {st : List Vv} {v : Option Vv} (h : ret1 i rt st = some v) (hV : ∀ w ∈ st, Vok w) : ∀ w, v = some w → Vok w := by
  intro w hw
  subst hw
  cases i with
  | ireturn =>
    simp only [ret1] at h
    split at h
    · split at h
      · cases h; exact hV _ List.mem_cons_self
      · split at h
        · split at h
          · cases h; exact hV _ List.mem_cons_self
          · cases h
        · cases h
    · cases h
  | lreturn =>
    simp only [ret1] at h
    split at h
    · split at h
      · cases h; exact hV _ List.mem_cons_self
      · cases h
    · cases h
  | areturn =>
    simp only [ret1] at h
    split at h
    · split at h
      · cases h; exact hV _ List.mem_cons_self
      · cases h
    · cases h
  | return_ =>
    simp only [ret1] at h
    split at h
    · split at h <;> cases h
    · cases h
  | _ => simp [ret1] at h
theorem pure_run {MT : List MI} {MS : List MSr} (hTabs : Tabs MT MS) : ∀ (n d : Nat) (C : List Instr) (rt pc : Nat) (L st : List Vv) (m : Mm) (v : Option Vv) (m' : Mm) (own : Nat) (cc : ByteArray) (B : List (Nat × Instr × Nat)), ex MT n d C rt pc L st m = some (v, m') → Tab own cc C B → ScP m → StOk L st m → Mok m' ∧ (∀ w, v = some w → Vok w) ∧ (∀ z, m' 500 z = m 500 z) ∧ (∀ z, m' 501 z = m 501 z) := by
  intro n
  induction n with
  | zero => intro d C rt pc L st m v m' own cc B h; simp [ex] at h
  | succ n IH =>
    intro d C rt pc L st m v m' own cc B h T S hV
    cases hC : C[pc]? with
    | none => simp [ex, hC] at h
    | some i =>
      have hpl : pc < B.length := by rw [← T.1]; exact (List.getElem?_eq_some_iff.mp hC).1
      obtain ⟨b, hb⟩ : ∃ b, B[pc]? = some b := ⟨B[pc], List.getElem?_eq_getElem hpl⟩
      obtain ⟨hdec, hok⟩ := T.2 pc i b hC hb
      by_cases hcall : ∃ k, i = .invokestatic k
      · obtain ⟨k, rfl⟩ := hcall
        rw [ex_call hC] at h
        cases d with
        | zero => simp at h
        | succ d =>
          cases hMk : MT[k]? with
          | none => simp [hMk] at h
          | some M =>
            simp only [hMk] at h
            split at h
            · cases hrun : ex MT n d M.2.2.2 M.2.1 0 (ent (st.take M.1.length).reverse M.2.2.1) [] m with
              | none => simp [hrun] at h
              | some q =>
                obtain ⟨v1, m1⟩ := q
                simp only [hrun] at h
                obtain ⟨S9, hS9, hMOK⟩ := hTabs k M hMk
                obtain ⟨hVL, hVs, hM⟩ := hV
                have hVa : ∀ v ∈ (st.take M.1.length).reverse, Vok v := fun v hv => hVs v (List.mem_of_mem_take (List.mem_reverse.mp hv))
                have hVr : ∀ v ∈ st.drop M.1.length, Vok v := fun v hv => hVs v (List.mem_of_mem_drop hv)
                obtain ⟨-, -, -, -, -, -, -, -, -, -, -, -, hT9, -, -⟩ := hMOK
                obtain ⟨p1, p2, p3, p4⟩ := IH d M.2.2.2 M.2.1 0 _ [] m v1 m1 _ _ _ hrun hT9 S ⟨ent_ok hVa, (fun _ z => by cases z), hM⟩
                have hV1 : StOk L (v1.toList ++ st.drop M.1.length) m1 := ⟨hVL, fun w hw => by
                  rcases List.mem_append.mp hw with hw | hw
                  · exact p2 w (by cases v1 with
                      | none => cases hw
                      | some z => rw [List.mem_singleton.mp hw])
                  · exact hVr w hw, p1⟩
                have S1 : ScP m1 := by
                  obtain ⟨⟨Ls, xs, a4, a5, a6⟩, ⟨ys, b4⟩⟩ := S
                  exact ⟨⟨Ls, xs, by rw [p3]; exact a4, a5, fun j hj => by rw [p3]; exact a6 j hj⟩, ⟨ys, fun j hj => by rw [p4]; exact b4 j hj⟩⟩
                obtain ⟨q1, q2, q3, q4⟩ := IH (d + 1) C rt (pc + 1) L _ m1 v m' own cc B h T S1 hV1
                exact ⟨q1, q2, fun z => (q3 z).trans (p3 z), fun z => (q4 z).trans (p4 z)⟩
            · cases h
      · rw [ex_other hC (fun k z => hcall ⟨k, z⟩)] at h
        cases hr : ret1 i rt st with
        | some v0 =>
          simp only [hr, Option.some.injEq, Prod.mk.injEq] at h
          obtain ⟨rfl, rfl⟩ := h
          exact ⟨hV.2.2, ret1_ok hr hV.2.1, fun _ => rfl, fun _ => rfl⟩
        | none =>
          simp only [hr] at h
          cases hs1 : st1 i pc L st m with
          | none => simp [hs1] at h
          | some q =>
            obtain ⟨pc1, L1, st1', m1⟩ := q
            simp only [hs1] at h
            obtain ⟨a1, ⟨p3, p4⟩, a4, a5⟩ := step_pure S hok hV hs1
            have S1 : ScP m1 := by
              obtain ⟨⟨Ls, xs, a4, a5, a6⟩, ⟨ys, b4⟩⟩ := S
              exact ⟨⟨Ls, xs, by rw [p3]; exact a4, a5, fun j hj => by rw [p3]; exact a6 j hj⟩, ⟨ys, fun j hj => by rw [p4]; exact b4 j hj⟩⟩
            obtain ⟨q1, q2, q3, q4⟩ := IH d C rt pc1 L1 st1' m1 v m' own cc B h T S1 a1
            exact ⟨q1, q2, fun z => (q3 z).trans (p3 z), fun z => (q4 z).trans (p4 z)⟩
theorem Sc_P {ad : Int → Nat} {A : Nat → Prop} {s : State} {H : Heap} {m : Mm} (h : Sc NWL ad A s H m) : ScP m := by
  obtain ⟨⟨Ls, xs, a1, a2, a3, a4, a5, a6⟩, ⟨ys, b1, b2, b3, b4⟩, r⟩ := h
  exact ⟨⟨Ls, xs, a4, a5, a6⟩, ⟨ys, b4⟩⟩
set_option maxRecDepth 100000 in
set_option maxHeartbeats 4000000 in
theorem sound {MT : List MI} {MS : List MSr} (hTabs : Tabs MT MS) (hSTR : STR) : ∀ n, SND MT n := by
  intro n
  induction n with
  | zero =>
    intro d C rt pc L st m v m' p l e R s mid args below meth c Q ad G D A nL own cc B cells slots h
    simp [ex] at h
  | succ n IH =>
    intro d C rt pc L st m v m' p l e R s mid args below meth c Q ad G D A nL own cc B cells slots h K S T hV hfr hlo hce hsl
    cases hC : C[pc]? with
    | none => simp [ex, hC] at h
    | some i =>
      have hpl : pc < B.length := by rw [← T.1]; exact (List.getElem?_eq_some_iff.mp hC).1
      obtain ⟨b, hb⟩ : ∃ b, B[pc]? = some b := ⟨B[pc], List.getElem?_eq_getElem hpl⟩
      obtain ⟨hdec, hok⟩ := T.2 pc i b hC hb
      by_cases hcall : ∃ k, i = .invokestatic k
      · obtain ⟨k, rfl⟩ := hcall
        rw [ex_call hC] at h
        cases d with
        | zero => simp at h
        | succ d =>
          cases hMk : MT[k]? with
          | none => simp [hMk] at h
          | some M =>
            simp only [hMk] at h
            split at h
            · rename_i hcond
              obtain ⟨htags, hcat⟩ := hcond
              cases hrun : ex MT n d M.2.2.2 M.2.1 0 (ent (st.take M.1.length).reverse M.2.2.1) [] m with
              | none => simp [hrun] at h
              | some q =>
                obtain ⟨v1, m1⟩ := q
                simp only [hrun] at h
                obtain ⟨S9, hS9, hMOK⟩ := hTabs k M hMk
                obtain ⟨hVL, hVs, hM⟩ := hV
                have hVa : ∀ v ∈ (st.take M.1.length).reverse, Vok v := fun v hv => hVs v (List.mem_of_mem_take (List.mem_reverse.mp hv))
                have hVr : ∀ v ∈ st.drop M.1.length, Vok v := fun v hv => hVs v (List.mem_of_mem_drop hv)
                simp only [okE, okN, Bool.and_eq_true, Bool.or_eq_true, decide_eq_true_eq] at hok
                obtain ⟨⟨n1, n2⟩, ⟨h2, hml⟩, hraw⟩ := hok
                have hT9 := hMOK.2.2.2.2.2.2.2.2.2.2.2.2.1
                obtain ⟨p1, p2, p3, p4⟩ := pure_run hTabs n d M.2.2.2 M.2.1 0 _ [] m v1 m1 _ _ _ hrun hT9 (Sc_P S) ⟨ent_ok hVa, (fun _ z => by cases z), hM⟩
                have S1 : Sc NWL ad A s s.heap m1 := Sc_ro S p3 p4
                have hV1 : StOk L (v1.toList ++ st.drop M.1.length) m1 := ⟨hVL, fun w hw => by
                  rcases List.mem_append.mp hw with hw | hw
                  · exact p2 w (by cases v1 with
                      | none => cases hw
                      | some z => rw [List.mem_singleton.mp hw])
                  · exact hVr w hw, p1⟩
                obtain ⟨q1, q2⟩ := IH (d + 1) C rt (pc + 1) L (v1.toList ++ st.drop M.1.length) m1 v m' p l e R s mid args below meth c Q ad G D A nL own cc B cells slots h K S1 T hV1 hfr hlo hce hsl
                refine ⟨⟨q1.1, q1.2.1, fun z => (q1.2.2.1 z).trans (p3 z), fun z => (q1.2.2.2 z).trans (p4 z)⟩, fun fin => ?_⟩
                have g1 := q2 fin
                rw [n2, h2] at g1
                rw [bpOf_at hb]
                intro H locs ls hP hD hS hL
                have hMet := met_of (sz := H.size) IH hMOK l ad G D hrun htags hVa hM
                obtain ⟨hstk9, hp1, hy, hown9, hcode, hini, hnames, hst, hin, hret, h40, hsum, hT9, hB0, hb0⟩ := hMOK
                have hF : ∀ q, va_A (WS ad G m) H.size q → A q := fun q hq => by
                  rcases hq with ⟨k9, e9, hk9⟩ | hq
                  · exact hD.2 k9 _ hk9
                  · exact K.2.2.2.2.2.2.1 q (Nat.le_trans hS.1 hq)
                have hScH : Sc NWL ad (va_A (WS ad G m) H.size) s H m := Sc_narrow (Sc_kept S hS.1 hS.2.1) hF
                have hPk : ∀ U : State, U.heap = H → s.WarmedH U.vm → Pk ad G D (st.take M.1.length).reverse m H.size ((st.take M.1.length).reverse.map (cv ad)).toArray U := fun U hU hW => ⟨rfl, by rw [hU], by rw [hU]; exact hP, va_K.moved hW.alike K.2.2.2.2.2.1, hD.weaken (fun _ _ _ _ => trivial), by rw [hU]; exact Sc_warm hW hScH⟩
                have hblind : FrameBlind (Pk ad G D (st.take M.1.length).reverse m H.size) := fun a U g mk q => by
                  obtain ⟨z0, z1, z2, z3, z4, z5⟩ := q
                  exact ⟨z0, z1, z2, va_K.moved (u := U) (U := U.calling g mk a) (Vm.Alike.refl U.vm) z3, z4, Sc_same (u := U) (U := U.calling g mk a) rfl z5⟩
                have hfix : CallFix p mid c cc nL s args WT (OWNN own) := ⟨K.1, K.2.1, K.2.2.1, K.2.2.2.1, K.2.2.2.2.1⟩
                have hrest : 2 * (F0 mid b.1 ls (st.map (cv ad))).monitorRoom + (((st.drop M.1.length).map (cv ad)).map fun v => v.category).sum ≤ 8 := lv_room (by rw [catS_map]; exact hcat)
                have hstk : st.map (cv ad) = ((st.take M.1.length).reverse.map (cv ad)).reverse ++ (st.drop M.1.length).map (cv ad) := by
                  rw [← List.map_reverse, List.reverse_reverse, ← List.map_append, List.take_append_drop]
                have hlink : (Cond.methodLink (OWNN own) (px b.2.1) S9.1).before args s = true := by
                  have := MLT_w hml
                  simp only [hy] at this
                  exact K.2.2.2.2.1 _ this
                have hparams : ∀ {N : Nat}, (parseMethodDescriptor S9.1.desc).map (fun d => d.parameters.length) = some N → ∀ sig, parseMethodDescriptor S9.1.desc = some sig → N = sig.parameters.length := fun hN sig hs => by
                  rw [hs] at hN
                  exact (Option.some.inj hN).symm
                have hr1 : (rmD d).frames + 1 ≤ R.frames := by show d + 10 + 1 ≤ R.frames; omega
                have hr2 : 8 + (M.2.2.1 + 11) + (rmD d).locals ≤ R.locals := by show 8 + (M.2.2.1 + 11) + 64 * (d + 10) ≤ R.locals; omega
                have hCB : ∀ {N : Nat}, (parseMethodDescriptor S9.1.desc).map (fun d => d.parameters.length) = some N → CallB R s args (OWNN own) (px b.2.1) S9.1 S9.2.1 M.2.2.1 S9.2.2.1 (Cond.code S9.1 S9.2.1 M.2.2.1 S9.2.2.1 :: WT) (rmD d) 0 0 N := fun hN =>
                  ⟨rfl, rfl, hr1, hr2, pay_in K.2.2.2.2.1 (goodWT hcode), List.mem_cons_self, K.2.2.2.2.1 _ hcode, K.2.2.2.2.1 _ hini, hnames, hparams hN, hlink⟩
                have hkk : ∀ (H1 : Heap) (locs1 : List Loc), va_P D vwCl (WS ad G m1) H1 → va_D (va_A (WS ad G m) H.size) (WS ad G m1) → va_S A s.heap H1 locs1 → W p l e R s mid args below meth c H1 locs1 cells slots Q (F0 mid (b.1 + 3) ls ((v1.map (cv ad)).toList ++ (st.drop M.1.length).map (cv ad))) := fun H1 locs1 z1 z2 z3 => by
                  have := g1 H1 locs1 ls z1 (z2.weaken (fun _ _ _ z => hF _ z)) z3 hL
                  rw [List.map_append] at this
                  have e9 : v1.toList.map (cv ad) = (v1.map (cv ad)).toList := by cases v1 <;> rfl
                  rw [e9] at this
                  exact this
                cases hstatic : S9.2.2.2.1 with
                | true =>
                  obtain ⟨hsw, hN⟩ := hst hstatic
                  have hraw2 : b.2.1 = .invokestatic (px b.2.1) := by
                    rcases hraw with hraw | hraw
                    · exact hraw.1
                    · exact absurd (hstk9.mp hstatic) hraw.2
                  have hr := va_runS (R := R) (H := H) (locs := locs) (cells := cells) (slots := slots) (l := l) (e := e) (below := below) (meth := meth) (As := (st.take M.1.length).reverse.map (cv ad)) (rest := (st.drop M.1.length).map (cv ad)) (g := F0 mid b.1 ls (st.map (cv ad))) hfix hMet ⟨hCB hN, K.2.2.2.2.1 _ hsw⟩ ⟨hblind, hPk⟩ rfl (by have z9 := congrArg List.length htags; rw [List.length_map] at z9; rw [List.length_map]; exact z9) hL.2.1 hstk hrest (dec_of hdec hraw2 h2) ⟨hce, hsl⟩
                  exact run_go hr hS (fun q _ z => hF q z) hF hkk
                | false =>
                  obtain ⟨hiw, hsw, ci, tl, hM1, hc9, hCR, hN⟩ := hin hstatic
                  have hraw2 : b.2.1 = .invokevirtual (px b.2.1) := by
                    rcases hraw with hraw | hraw
                    · exact absurd (hstk9.mpr hraw.2) (by rw [hstatic]; exact Bool.false_ne_true)
                    · exact hraw.1
                  obtain ⟨o, as, hae⟩ : ∃ (o : Int) (as : List Vv), (st.take M.1.length).reverse = (ci + 10, o) :: as := by
                    cases hz : (st.take M.1.length).reverse with
                    | nil => rw [hz, hM1] at htags; cases htags
                    | cons x y =>
                      rw [hz, hM1] at htags
                      simp only [List.map_cons, List.cons.injEq] at htags
                      exact ⟨x.2, y, by rw [← htags.1]⟩
                  have hoU : (o, ci + 10) ∈ UNI := Vok_ob (hVa (ci + 10, o) (by rw [hae]; exact List.mem_cons_self)) (by omega)
                  have hao : (st.take M.1.length).reverse.map (cv ad) = .ref (ad o) :: as.map (cv ad) := by rw [hae, List.map_cons, cv_o ad o hoU]
                  obtain ⟨j9, hj9, hw9⟩ := WS_at (ad := ad) (G := G) (m := m) hoU
                  have hcell : cellOf ad G m (o, ci + 10) = .inr (ci, (List.range (CN ci)).map (fv ad m o ci)) := by
                    rw [cell_ob (show ci + 10 < 100 by omega)]
                    simp only [Nat.add_sub_cancel]
                  simp only at hw9
                  rw [hcell] at hw9
                  have hrecv := va_recv K.2.2.2.2.2.1 hP (cl_at ci hc9) hw9
                  simp only [hCR] at hrecv
                  have hlen : (as.map (cv ad)).length = tl.length := by
                    have := htags
                    rw [hae, hM1] at this
                    simp only [List.map_cons, List.cons.injEq] at this
                    rw [List.length_map, ← this.2, List.length_map]
                  have hr := va_runV (R := R) (H := H) (locs := locs) (cells := cells) (slots := slots) (l := l) (e := e) (below := below) (meth := meth) (b := ad o) (As := as.map (cv ad)) (rest := (st.drop M.1.length).map (cv ad)) (g := F0 mid b.1 ls (st.map (cv ad))) hfix hMet ⟨hCB hN, K.2.2.2.2.1 _ hiw, K.2.2.2.2.1 _ hsw⟩ ⟨hblind, hrecv, by rw [← hao]; exact hPk⟩ rfl hlen hL.2.1 (by rw [hstk, hao, List.reverse_cons, List.append_assoc]; rfl) hrest (dec_of hdec hraw2 h2) ⟨hce, hsl⟩
                  exact run_go hr hS (fun q _ z => hF q z) hF hkk
            · cases h
      · rw [ex_other hC (fun k z => hcall ⟨k, z⟩)] at h
        cases hr : ret1 i rt st with
        | some v0 =>
          simp only [hr, Option.some.injEq, Prod.mk.injEq] at h
          obtain ⟨rfl, rfl⟩ := h
          exact ⟨⟨hV.2.2, ret1_ok hr hV.2.1, fun _ => rfl, fun _ => rfl⟩, fun fin => fin pc i L st hC hr⟩
        | none =>
          simp only [hr] at h
          cases hs1 : st1 i pc L st m with
          | none => simp [hs1] at h
          | some q =>
            obtain ⟨pc1, L1, st1', m1⟩ := q
            simp only [hs1] at h
            obtain ⟨a1, ⟨a2, a3⟩, a4, a5, a6⟩ := step_sound (l := l) (e := e) (below := below) (meth := meth) (Q := Q) (cells := cells) (slots := slots) K hce hsl S (fun z => hSTR p l e R s mid args below meth c Q ad G D A nL cells slots cc m (by rw [← z]; exact K) S (by omega) (by omega) hce hsl) hb hdec hok hV hs1
            obtain ⟨q1, q2⟩ := IH d C rt pc1 L1 st1' m1 v m' p l e R s mid args below meth c Q ad G D A nL own cc B cells slots h K (Sc_ro S a2 a3) T a1 hfr hlo hce hsl
            exact ⟨⟨q1.1, q1.2.1, fun z => (q1.2.2.1 z).trans (a2 z), fun z => (q1.2.2.2 z).trans (a3 z)⟩, fun fin => a6 (q2 fin)⟩
end
section
/-! THE CODE OF EVERY METHOD, resolved: constants, jumps to the places of instructions, fields by class and slot, methods by their numbers -/
def K_Fa_copyFrom : List Instr := [.aload 0, .multianewarray 0 0, .aload 1, .multianewarray 0 0, .invokestatic 28, .aload 0, .aload 1, .multianewarray 0 2, .invokeinterface 0 2, .aload 0, .aload 1, .multianewarray 0 3, .invokeinterface 0 3, .iconst 0, .istore 2, .iload 2, .aload 0, .multianewarray 0 3, .if_icmp .ge 37, .aload 0, .multianewarray 0 2, .iload 2, .iadd, .iconst 30, .irem, .istore 3, .aload 0, .multianewarray 0 1, .iload 3, .aaload, .aload 1, .multianewarray 0 1, .iload 3, .aaload, .invokestatic 28, .iinc 2 1, .goto 15, .aload 0, .aload 1, .multianewarray 0 4, .invokeinterface 0 4, .aload 0, .aload 1, .multianewarray 0 5, .invokeinterface 0 5, .aload 0, .aload 1, .multianewarray 0 6, .invokeinterface 0 6, .aload 0, .aload 1, .multianewarray 0 7, .invokeinterface 0 7, .aload 0, .aload 1, .multianewarray 0 8, .invokeinterface 0 8, .aload 1, .multianewarray 0 9, .iconst 0, .aload 0, .multianewarray 0 9, .iconst 0, .iconst 8, .invokedynamic 0, .aload 1, .multianewarray 0 10, .iconst 0, .aload 0, .multianewarray 0 10, .iconst 0, .iconst 8, .invokedynamic 0, .return_]
def K_Fa_markStep : List Instr := [.aload 0, .multianewarray 0 3, .iconst 30, .if_icmp .ne 18, .aload 0, .aload 0, .multianewarray 0 2, .iconst 1, .iadd, .iconst 30, .irem, .invokeinterface 0 2, .aload 0, .dup, .multianewarray 0 3, .iconst 1, .isub, .invokeinterface 0 3, .aload 0, .multianewarray 0 1, .aload 0, .multianewarray 0 2, .aload 0, .multianewarray 0 3, .iadd, .iconst 30, .irem, .aaload, .aload 0, .multianewarray 0 0, .invokestatic 28, .aload 0, .dup, .multianewarray 0 3, .iconst 1, .iadd, .invokeinterface 0 3, .return_]
def K_Fa_takeBack : List Instr := [.aload 0, .multianewarray 0 3, .ifCond .ne 5, .iconst 0, .ireturn, .aload 0, .dup, .multianewarray 0 3, .iconst 1, .isub, .invokeinterface 0 3, .aload 0, .multianewarray 0 0, .aload 0, .multianewarray 0 1, .aload 0, .multianewarray 0 2, .aload 0, .multianewarray 0 3, .iadd, .iconst 30, .irem, .aaload, .invokestatic 29, .iconst 1, .ireturn]
def K_Ha_isTurn : List Instr := [.iload 0, .ifCond .lt 7, .iload 0, .iconst 8, .if_icmp .ge 7, .iconst 1, .goto 8, .iconst 0, .ireturn]
def K_Ha_eastOf : List Instr := [.lload 0, .bipush 1048575, .land, .l2i, .ireturn]
def K_Ha_southOf : List Instr := [.lload 0, .iconst 20, .lshr, .bipush 1048575, .land, .l2i, .ireturn]
def K_Ha_keep : List Instr := [.lload 2, .lstore 4, .iconst 0, .istore 6, .iload 6, .iconst 8, .if_icmp .ge 27, .iload 6, .iconst 4, .if_icmp .ne 13, .lload 2, .invokestatic 7, .lstore 4, .aload 0, .multianewarray 1 0, .iload 1, .iconst 8, .imul, .iload 6, .iadd, .lload 4, .lastore, .lload 4, .invokestatic 9, .lstore 4, .iinc 6 1, .goto 4, .return_]
def K_Ha_mirrored : List Instr := [.bipush 0, .lstore 2, .iconst 0, .istore 4, .iload 4, .iconst 40, .if_icmp .ge 24, .lload 0, .iload 4, .lshr, .bipush 1, .land, .bipush 1, .lcmp, .ifCond .ne 22, .lload 2, .bipush 1, .iload 4, .invokestatic 8, .lshl, .lor, .lstore 2, .iinc 4 1, .goto 4, .lload 2, .lreturn]
def K_Ha_mirroredHedge : List Instr := [.iload 0, .invokestatic 73, .iconst 5, .irem, .istore 1, .iload 0, .iconst 20, .if_icmp .ge 10, .iconst 3, .goto 11, .iconst 4, .istore 2, .iload 0, .iload 1, .isub, .iload 2, .iload 1, .isub, .iadd, .ireturn]
def K_Ha_quarterRight : List Instr := [.bipush 0, .lstore 2, .iconst 0, .istore 4, .iload 4, .iconst 40, .if_icmp .ge 24, .lload 0, .iload 4, .lshr, .bipush 1, .land, .bipush 1, .lcmp, .ifCond .ne 22, .lload 2, .bipush 1, .iload 4, .invokestatic 10, .lshl, .lor, .lstore 2, .iinc 4 1, .goto 4, .lload 2, .lreturn]
def K_Ha_quarterHedge : List Instr := [.iload 0, .invokestatic 73, .istore 1, .iload 1, .iconst 5, .idiv, .istore 2, .iload 1, .iconst 5, .irem, .istore 3, .iload 0, .iconst 20, .if_icmp .ge 24, .iconst 20, .iload 3, .iconst 5, .imul, .iadd, .iconst 4, .iload 2, .isub, .iadd, .ireturn, .iload 3, .iconst 4, .imul, .iconst 3, .iload 2, .isub, .iadd, .ireturn]
def K_Ha_pattern : List Instr := [.aload 0, .multianewarray 1 0, .iload 1, .iconst 8, .imul, .iload 2, .iadd, .laload, .lreturn]
def K_Ha_unlikeness : List Instr := [.aload 0, .iload 1, .iload 2, .invokestatic 11, .lload 3, .lxor, .invokestatic 323, .ireturn]
def K_Ha_likestTurn : List Instr := [.iconst 0, .istore 4, .iconst 1, .istore 5, .iload 5, .iconst 8, .if_icmp .ge 22, .aload 0, .iload 1, .iload 5, .lload 2, .invokestatic 12, .aload 0, .iload 1, .iload 4, .lload 2, .invokestatic 12, .if_icmp .ge 20, .iload 5, .istore 4, .iinc 5 1, .goto 4, .iload 4, .ireturn]
def K_Ha_turnInto : List Instr := [.iconst 0, .istore 3, .iload 3, .iconst 8, .if_icmp .ge 19, .aload 0, .iload 1, .iload 3, .invokestatic 11, .aload 0, .iload 2, .iconst 0, .invokestatic 11, .lcmp, .ifCond .ne 17, .iload 3, .ireturn, .iinc 3 1, .goto 2, .iconst (-1), .ireturn]
def K_Ha_hasElderTwin : List Instr := [.iconst 0, .istore 2, .iload 2, .iload 1, .if_icmp .ge 15, .aload 0, .iload 2, .iload 1, .invokestatic 14, .iconst (-1), .if_icmp .eq 13, .iconst 1, .ireturn, .iinc 2 1, .goto 2, .iconst 0, .ireturn]
def K_Ha_selfTurns : List Instr := [.iconst 0, .istore 2, .iconst 0, .istore 3, .iload 3, .iconst 8, .if_icmp .ge 20, .aload 0, .iload 1, .iload 3, .invokestatic 11, .aload 0, .iload 1, .iconst 0, .invokestatic 11, .lcmp, .ifCond .ne 18, .iinc 2 1, .iinc 3 1, .goto 4, .iload 2, .ireturn]
def K_Ha_partingHedge : List Instr := [.aload 0, .iload 1, .lload 2, .iload 4, .iconst (-1), .invokestatic 18, .istore 5, .iload 5, .iconst 2, .if_icmp .ge 12, .iconst (-1), .ireturn, .iconst (-1), .istore 6, .iload 5, .iconst 1, .iadd, .istore 7, .iconst 0, .istore 8, .iload 8, .iconst 40, .if_icmp .ge 45, .aload 0, .iload 1, .lload 2, .iload 4, .iload 8, .invokestatic 18, .istore 9, .iload 9, .iload 5, .iload 9, .isub, .ret 0, .istore 10, .iload 10, .iload 7, .if_icmp .ge 43, .iload 10, .istore 7, .iload 8, .istore 6, .iinc 8 1, .goto 20, .iload 6, .ireturn]
def K_Ha_likePatterns : List Instr := [.iconst 0, .istore 6, .iconst 0, .istore 7, .iload 7, .iload 1, .iconst 8, .imul, .if_icmp .ge 41, .aload 0, .multianewarray 1 0, .iload 7, .laload, .lload 2, .lxor, .invokestatic 323, .iload 4, .if_icmp .gt 20, .iconst 1, .goto 21, .iconst 0, .istore 8, .iload 8, .ifCond .eq 39, .iload 5, .iconst (-1), .if_icmp .eq 38, .aload 0, .multianewarray 1 0, .iload 7, .laload, .iload 5, .lshr, .bipush 1, .land, .bipush 1, .lcmp, .ifCond .ne 39, .iinc 6 1, .iinc 7 1, .goto 4, .iload 6, .ireturn]
def K_Ju_frostsOf : List Instr := [.aload 1, .multianewarray 6 6, .ifCond .ne 5, .iconst 3, .ireturn, .aload 0, .aload 2, .iload 3, .invokestatic 73, .invokestatic 21, .aload 0, .multianewarray 2 0, .iconst 4, .iload 3, .iastore, .iconst 0, .iconst 10, .aload 0, .aload 1, .multianewarray 6 4, .aload 1, .multianewarray 6 7, .aload 1, .multianewarray 6 8, .aload 2, .invokestatic 22, .ret 1, .ret 0, .ireturn]
def K_Ju_goesOf : List Instr := [.aload 1, .multianewarray 6 9, .ifCond .ne 5, .iconst 1, .ireturn, .aload 0, .aload 2, .aload 2, .multianewarray 3 2, .iload 3, .iaload, .invokestatic 21, .aload 0, .multianewarray 2 0, .iconst 5, .iload 3, .iastore, .aload 0, .multianewarray 2 0, .iconst 6, .aload 2, .multianewarray 3 3, .iload 3, .iaload, .iastore, .iconst (-99), .iconst 99, .aload 0, .aload 1, .multianewarray 6 4, .aload 1, .multianewarray 6 10, .aload 1, .multianewarray 6 11, .aload 2, .invokestatic 22, .ret 1, .ret 0, .ireturn]
def K_Ju_nameCommon : List Instr := [.aload 0, .multianewarray 2 0, .iconst 0, .aload 1, .multianewarray 3 5, .iastore, .aload 0, .multianewarray 2 0, .iconst 1, .iload 2, .iastore, .aload 0, .multianewarray 2 0, .iconst 2, .aload 1, .iload 2, .invokestatic 38, .iastore, .aload 0, .multianewarray 2 0, .iconst 3, .aload 1, .multianewarray 3 0, .invokestatic 323, .iastore, .return_]
def K_Ju_valueOf : List Instr := [.aload 0, .iconst 0, .invokeinterface 2 2, .iload 2, .istore 5, .iconst 0, .istore 6, .iload 6, .iconst 300, .if_icmp .ge 118, .iload 5, .ifCond .lt 118, .iload 5, .iload 3, .if_icmp .ge 118, .iload 5, .aload 1, .arraylength, .if_icmp .ge 118, .aload 1, .iload 5, .iaload, .iconst 64, .irem, .istore 7, .aload 1, .iload 5, .iaload, .iconst 64, .idiv, .istore 8, .iinc 5 1, .iload 7, .iconst 46, .if_icmp .ne 38, .iload 8, .istore 5, .goto 116, .iload 7, .iconst 45, .if_icmp .ne 49, .aload 0, .invokestatic 23, .ifCond .ne 46, .iload 8, .goto 47, .iload 5, .istore 5, .goto 116, .iload 7, .iconst 2, .if_icmp .ne 56, .aload 0, .iload 8, .invokestatic 24, .goto 116, .iload 7, .iconst 43, .if_icmp .ne 73, .aload 0, .iload 8, .aload 0, .multianewarray 2 0, .arraylength, .if_icmp .ge 70, .aload 0, .multianewarray 2 0, .iload 8, .iaload, .goto 71, .iconst 0, .invokestatic 24, .goto 116, .iload 7, .iconst 35, .if_icmp .ne 87, .aload 0, .aload 4, .aload 0, .invokestatic 23, .invokestatic 33, .ifCond .eq 84, .iconst 1, .goto 85, .iconst 0, .invokestatic 24, .goto 116, .iload 7, .iconst 44, .if_icmp .ne 96, .aload 0, .aload 0, .invokestatic 23, .ineg, .invokestatic 24, .goto 116, .iload 7, .iconst 42, .if_icmp .ne 106, .aload 0, .iconst 1, .aload 0, .invokestatic 23, .isub, .invokestatic 24, .goto 116, .aload 0, .invokestatic 23, .istore 9, .aload 0, .iload 7, .aload 0, .invokestatic 23, .iload 9, .invokestatic 25, .invokestatic 24, .iinc 6 1, .goto 7, .aload 0, .invokestatic 23, .ireturn]
def K_Ju_pop : List Instr := [.aload 0, .multianewarray 2 2, .ifCond .gt 5, .iconst 0, .ireturn, .aload 0, .dup, .multianewarray 2 2, .iconst 1, .isub, .invokeinterface 2 2, .aload 0, .multianewarray 2 1, .aload 0, .multianewarray 2 2, .iaload, .ireturn]
def K_Ju_push : List Instr := [.aload 0, .multianewarray 2 2, .iconst 300, .if_icmp .ge 16, .aload 0, .multianewarray 2 1, .aload 0, .multianewarray 2 2, .iload 1, .iastore, .aload 0, .dup, .multianewarray 2 2, .iconst 1, .iadd, .invokeinterface 2 2, .return_]
def K_Ju_ofTwo : List Instr := [.iload 0, .lookupswitch 43 #[(7, 2), (8, 9), (9, 16), (10, 23), (33, 31), (40, 39), (41, 35)], .iload 1, .i2l, .iload 2, .i2l, .ladd, .invokestatic 26, .ireturn, .iload 1, .i2l, .iload 2, .i2l, .lsub, .invokestatic 26, .ireturn, .iload 1, .i2l, .iload 2, .i2l, .lmul, .invokestatic 26, .ireturn, .iload 2, .ifCond .ne 27, .iconst 0, .goto 30, .iload 1, .iload 2, .idiv, .ireturn, .iload 1, .iload 2, .invokestatic 75, .ireturn, .iload 1, .iload 2, .iand, .ireturn, .iload 1, .iload 2, .ior, .ireturn, .iload 0, .iload 1, .iload 2, .invokestatic 27, .ifCond .eq 50, .iconst 1, .goto 51, .iconst 0, .ireturn]
def K_Ju_bounded : List Instr := [.bipush (-1000000), .bipush 1000000, .lload 0, .ret 4, .ret 3, .l2i, .ireturn]
def K_Ju_compares : List Instr := [.iload 0, .tableswitch 37 3 15 #[2, 16, 30, 37, 37, 37, 37, 37, 37, 37, 37, 9, 23], .iload 1, .iload 2, .if_icmp .ge 7, .iconst 1, .goto 8, .iconst 0, .ireturn, .iload 1, .iload 2, .if_icmp .gt 14, .iconst 1, .goto 15, .iconst 0, .ireturn, .iload 1, .iload 2, .if_icmp .le 21, .iconst 1, .goto 22, .iconst 0, .ireturn, .iload 1, .iload 2, .if_icmp .lt 28, .iconst 1, .goto 29, .iconst 0, .ireturn, .iload 1, .iload 2, .if_icmp .ne 35, .iconst 1, .goto 36, .iconst 0, .ireturn, .iload 1, .iload 2, .if_icmp .eq 42, .iconst 1, .goto 43, .iconst 0, .ireturn]
def K_La_copyFrom : List Instr := [.aload 0, .aload 1, .multianewarray 3 1, .invokeinterface 3 1, .aload 0, .aload 1, .multianewarray 3 4, .invokeinterface 3 4, .aload 0, .aload 1, .invokestatic 29, .return_]
def K_La_takeBackTo : List Instr := [.aload 0, .aload 1, .multianewarray 3 0, .invokeinterface 3 0, .aload 0, .aload 1, .multianewarray 3 5, .invokeinterface 3 5, .aload 0, .aload 1, .multianewarray 3 6, .invokeinterface 3 6, .aload 0, .aload 1, .multianewarray 3 7, .invokeinterface 3 7, .aload 1, .multianewarray 3 8, .iconst 0, .aload 0, .multianewarray 3 8, .iconst 0, .iconst 30, .invokedynamic 0, .iconst 1, .aload 1, .multianewarray 3 1, .ishl, .iconst 1, .isub, .istore 2, .aload 0, .aload 0, .multianewarray 3 4, .iload 2, .iconst (-1), .ixor, .iand, .aload 1, .multianewarray 3 4, .ior, .invokeinterface 3 4, .iconst 0, .istore 3, .iload 3, .aload 1, .multianewarray 3 1, .if_icmp .ge 66, .aload 0, .multianewarray 3 2, .iload 3, .aload 1, .multianewarray 3 2, .iload 3, .iaload, .iastore, .aload 0, .multianewarray 3 3, .iload 3, .aload 1, .multianewarray 3 3, .iload 3, .iaload, .iastore, .iinc 3 1, .goto 44, .return_]
def K_La_tellCow : List Instr := [.aload 0, .multianewarray 3 1, .iconst 5, .if_icmp .lt 6, .iconst (-1), .ireturn, .aload 0, .multianewarray 3 2, .aload 0, .multianewarray 3 1, .iload 1, .iastore, .aload 0, .multianewarray 3 3, .aload 0, .multianewarray 3 1, .iload 2, .iastore, .aload 0, .dup, .multianewarray 3 4, .iconst 1, .aload 0, .multianewarray 3 1, .ishl, .iconst (-1), .ixor, .iand, .invokeinterface 3 4, .aload 0, .dup, .multianewarray 3 1, .iconst 1, .iadd, .invokeinterface 3 1, .aload 0, .multianewarray 3 1, .iconst 1, .isub, .ireturn]
def K_La_isCow : List Instr := [.iload 1, .ifCond .lt 8, .iload 1, .aload 0, .multianewarray 3 1, .if_icmp .ge 8, .iconst 1, .goto 9, .iconst 0, .ireturn]
def K_La_isHome : List Instr := [.aload 0, .multianewarray 3 4, .iload 1, .ishr, .iconst 1, .iand, .iconst 1, .if_icmp .ne 10, .iconst 1, .goto 11, .iconst 0, .ireturn]
def K_La_hasHedge : List Instr := [.iload 1, .ifCond .lt 16, .iload 1, .iconst 40, .if_icmp .ge 16, .aload 0, .multianewarray 3 0, .iload 1, .lshr, .bipush 1, .land, .bipush 1, .lcmp, .ifCond .ne 16, .iconst 1, .goto 17, .iconst 0, .ireturn]
def K_La_addHedge : List Instr := [.aload 0, .dup, .multianewarray 3 0, .bipush 1, .iload 1, .lshl, .lor, .invokeinterface 3 0, .return_]
def K_La_removeHedge : List Instr := [.aload 0, .dup, .multianewarray 3 0, .bipush 1, .iload 1, .lshl, .bipush (-1), .lxor, .land, .invokeinterface 3 0, .return_]
def K_La_isOpen : List Instr := [.iload 1, .iload 2, .invokestatic 72, .istore 3, .iload 3, .iconst (-1), .if_icmp .eq 13, .aload 0, .iload 3, .invokestatic 33, .ifCond .ne 13, .iconst 1, .goto 14, .iconst 0, .ireturn]
def K_La_openWays : List Instr := [.iconst 0, .istore 2, .iconst 0, .istore 3, .iload 3, .iconst 4, .if_icmp .ge 20, .aload 0, .iload 1, .iload 3, .invokestatic 36, .ifCond .eq 18, .iload 2, .iconst 1, .iload 3, .ishl, .ior, .istore 2, .iinc 3 1, .goto 4, .iload 2, .ireturn]
def K_La_around : List Instr := [.iconst 0, .istore 2, .iconst 0, .istore 3, .iload 3, .iconst 4, .if_icmp .ge 16, .aload 0, .iload 1, .iload 3, .invokestatic 72, .invokestatic 33, .ifCond .eq 14, .iinc 2 1, .iinc 3 1, .goto 4, .iload 2, .ireturn]
def K_La_canGo : List Instr := [.aload 0, .iload 1, .invokestatic 31, .ifCond .eq 21, .aload 0, .iload 1, .invokestatic 32, .ifCond .ne 21, .iload 2, .invokestatic 69, .ifCond .eq 21, .aload 0, .aload 0, .multianewarray 3 2, .iload 1, .iaload, .iload 2, .invokestatic 36, .ifCond .eq 21, .iconst 1, .goto 22, .iconst 0, .ireturn]
def K_La_comesHome : List Instr := [.aload 0, .multianewarray 3 2, .iload 1, .aload 0, .multianewarray 3 2, .iload 1, .iaload, .iload 2, .invokestatic 71, .iastore, .aload 0, .multianewarray 3 3, .iload 1, .iload 2, .iastore, .iload 3, .aload 0, .multianewarray 3 2, .iload 1, .iaload, .ishr, .iconst 1, .iand, .ifCond .ne 26, .iconst 0, .ireturn, .aload 0, .dup, .multianewarray 3 4, .iconst 1, .iload 1, .ishl, .ior, .invokeinterface 3 4, .iconst 1, .ireturn]
def K_La_wander : List Instr := [.aload 0, .aload 0, .multianewarray 3 2, .iload 1, .iaload, .aload 0, .multianewarray 3 3, .iload 1, .iaload, .invokestatic 42, .istore 3, .iload 3, .iconst (-1), .if_icmp .eq 24, .aload 0, .iload 1, .iload 3, .iload 2, .invokestatic 40, .ifCond .eq 24, .aload 0, .iconst 1, .iload 1, .invokestatic 44, .return_]
def K_La_wayByHedge : List Instr := [.aload 0, .iload 1, .invokestatic 37, .istore 3, .iconst 0, .istore 4, .iload 4, .iconst 4, .if_icmp .ge 28, .iload 2, .getstatic 0, .iload 4, .iaload, .iadd, .iconst 4, .irem, .istore 5, .iload 3, .iload 5, .ishr, .iconst 1, .iand, .iconst 1, .if_icmp .ne 26, .iload 5, .ireturn, .iinc 4 1, .goto 6, .iconst (-1), .ireturn]
def K_La_draw : List Instr := [.aload 0, .multianewarray 3 6, .istore 1, .aload 0, .aload 0, .multianewarray 3 6, .iconst 587, .imul, .iconst 457, .iadd, .iconst 30817, .irem, .invokeinterface 3 6, .iload 1, .ireturn]
def K_La_write : List Instr := [.aload 0, .multianewarray 3 7, .iconst 30, .if_icmp .ne 18, .aload 0, .multianewarray 3 8, .iconst 1, .aload 0, .multianewarray 3 8, .iconst 0, .iconst 29, .invokedynamic 0, .aload 0, .dup, .multianewarray 3 7, .iconst 1, .isub, .invokeinterface 3 7, .aload 0, .multianewarray 3 8, .aload 0, .multianewarray 3 7, .aload 0, .multianewarray 3 5, .iconst 100, .imul, .iload 1, .iconst 50, .imul, .iadd, .iload 2, .iadd, .iastore, .aload 0, .dup, .multianewarray 3 7, .iconst 1, .iadd, .invokeinterface 3 7, .return_]
def K_La_lineHour : List Instr := [.aload 0, .multianewarray 3 8, .iload 1, .iaload, .iconst 100, .idiv, .ireturn]
def K_La_lineKind : List Instr := [.aload 0, .multianewarray 3 8, .iload 1, .iaload, .iconst 50, .idiv, .iconst 2, .irem, .ireturn]
def K_La_lineWhich : List Instr := [.aload 0, .multianewarray 3 8, .iload 1, .iaload, .iconst 50, .irem, .ireturn]
def K_La_stepsHome : List Instr := [.aload 0, .multianewarray 3 2, .iload 1, .iaload, .istore 3, .aload 0, .iload 3, .aload 0, .multianewarray 3 3, .iload 1, .iaload, .invokestatic 42, .istore 4, .iconst 1, .istore 5, .iload 5, .iconst 100, .if_icmp .gt 41, .iload 4, .iconst (-1), .if_icmp .eq 41, .iload 3, .iload 4, .invokestatic 71, .istore 3, .iload 2, .iload 3, .ishr, .iconst 1, .iand, .iconst 1, .if_icmp .ne 34, .iload 5, .ireturn, .aload 0, .iload 3, .iload 4, .invokestatic 42, .istore 4, .iinc 5 1, .goto 15, .iconst (-1), .ireturn]
def K_La_ringOf : List Instr := [.aload 0, .aload 0, .multianewarray 3 2, .iload 1, .iaload, .aload 0, .multianewarray 3 3, .iload 1, .iaload, .invokestatic 42, .istore 2, .iload 2, .iconst (-1), .if_icmp .ne 16, .iconst 0, .ireturn, .aload 0, .multianewarray 3 2, .iload 1, .iaload, .iload 2, .invokestatic 71, .istore 3, .iload 2, .istore 4, .iload 3, .istore 5, .iconst 1, .istore 6, .iload 6, .iconst 100, .if_icmp .gt 51, .aload 0, .iload 5, .iload 2, .invokestatic 42, .istore 2, .iload 5, .iload 2, .invokestatic 71, .istore 5, .iload 5, .iload 3, .if_icmp .ne 49, .iload 2, .iload 4, .if_icmp .ne 49, .iload 6, .ireturn, .iinc 6 1, .goto 29, .iconst 0, .ireturn]
def K_Mz_layOut : List Instr := [.lload 1, .invokestatic 4, .istore 3, .aload 0, .iconst 0, .invokeinterface 4 0, .iconst 0, .istore 4, .iload 4, .iconst 5, .if_icmp .ge 31, .aload 0, .dup, .multianewarray 4 0, .iload 3, .iload 4, .iconst 4, .imul, .ishr, .iconst (-1), .ixor, .iconst 15, .iand, .iload 4, .iconst 5, .imul, .ishl, .ior, .invokeinterface 4 0, .iinc 4 1, .goto 8, .aload 0, .lload 1, .invokestatic 5, .iconst (-1), .ixor, .iconst 1048575, .iand, .invokeinterface 4 1, .return_]
def K_Mz_grown : List Instr := [.iload 1, .iload 1, .aload 0, .multianewarray 4 0, .iand, .iconst 1, .ishl, .ior, .iload 1, .iconst 1, .ishr, .aload 0, .multianewarray 4 0, .iand, .ior, .iload 1, .aload 0, .multianewarray 4 1, .iand, .iconst 5, .ishl, .ior, .iload 1, .iconst 5, .ishr, .aload 0, .multianewarray 4 1, .iand, .ior, .ireturn]
def K_Mz_grownOver : List Instr := [.iload 0, .iload 0, .iconst 16236015, .iand, .iconst 1, .ishl, .ior, .iload 0, .iconst 1, .ishr, .iconst 16236015, .iand, .ior, .iload 0, .iconst 5, .ishl, .iconst 33554431, .iand, .ior, .iload 0, .iconst 5, .ishr, .ior, .ireturn]
def K_Mz_within : List Instr := [.iload 1, .istore 3, .iconst 0, .istore 4, .iload 4, .iload 2, .if_icmp .ge 16, .iload 4, .iconst 25, .if_icmp .ge 16, .aload 0, .iload 3, .invokestatic 51, .istore 3, .iinc 4 1, .goto 4, .iload 3, .ireturn]
def K_Mz_flooded : List Instr := [.iload 1, .istore 3, .iconst 0, .istore 4, .iload 4, .iconst 25, .if_icmp .ge 22, .aload 0, .iload 3, .invokestatic 51, .iload 2, .iand, .istore 5, .iload 5, .iload 3, .if_icmp .ne 18, .iload 3, .ireturn, .iload 5, .istore 3, .iinc 4 1, .goto 4, .iload 3, .ireturn]
def K_Mz_regionOf : List Instr := [.aload 0, .iconst 1, .iload 1, .ishl, .iconst 33554431, .invokestatic 54, .ireturn]
def K_Mz_milesTo : List Instr := [.iconst 1, .iload 1, .ishl, .istore 3, .iconst 0, .istore 4, .iload 4, .iconst 25, .if_icmp .ge 21, .iload 3, .iload 2, .iand, .ifCond .eq 15, .iload 4, .ireturn, .aload 0, .iload 3, .invokestatic 51, .istore 3, .iinc 4 1, .goto 6, .iconst (-1), .ireturn]
def K_Mz_wayNearer : List Instr := [.aload 0, .iload 2, .iload 3, .iconst 1, .isub, .invokestatic 53, .istore 4, .iconst 0, .istore 5, .iload 5, .iconst 4, .if_icmp .ge 41, .iload 1, .iload 5, .invokestatic 71, .istore 6, .iload 6, .iconst (-1), .if_icmp .eq 39, .iload 4, .iload 6, .ishr, .iconst 1, .iand, .iconst 1, .if_icmp .ne 39, .aload 0, .iconst 1, .iload 1, .ishl, .invokestatic 51, .iload 6, .ishr, .iconst 1, .iand, .iconst 1, .if_icmp .ne 39, .iload 5, .ireturn, .iinc 5 1, .goto 9, .iconst (-1), .ireturn]
def K_Mz_cutsTo : List Instr := [.aload 0, .iload 1, .invokestatic 55, .istore 3, .iconst 0, .istore 4, .iload 4, .iconst 25, .if_icmp .ge 23, .iload 3, .iload 2, .iand, .ifCond .eq 15, .iload 4, .ireturn, .aload 0, .iload 3, .invokestatic 52, .iconst 33554431, .invokestatic 54, .istore 3, .iinc 4 1, .goto 6, .iconst (-1), .ireturn]
def K_Mz_farthestFrom : List Instr := [.iconst 1, .iload 1, .ishl, .istore 2, .iload 2, .istore 3, .iconst 0, .istore 4, .iload 4, .iconst 25, .if_icmp .ge 29, .aload 0, .iload 2, .invokestatic 51, .istore 5, .iload 5, .iload 2, .if_icmp .ne 19, .goto 29, .iload 5, .iload 2, .iconst (-1), .ixor, .iand, .istore 3, .iload 5, .istore 2, .iinc 4 1, .goto 8, .iload 3, .invokestatic 60, .ireturn]
def K_Mz_lowest : List Instr := [.iload 0, .iload 0, .ineg, .iand, .iconst 1, .isub, .invokestatic 322, .ireturn]
def K_Mz_regionCount : List Instr := [.iconst 33554431, .istore 1, .iconst 0, .istore 2, .iconst 0, .istore 3, .iload 3, .iconst 25, .if_icmp .ge 23, .iload 1, .ifCond .eq 23, .iload 1, .aload 0, .iload 1, .invokestatic 60, .invokestatic 55, .iconst (-1), .ixor, .iand, .istore 1, .iinc 2 1, .iinc 3 1, .goto 6, .iload 2, .ireturn]
def K_Mz_greatestRegion : List Instr := [.iconst 33554431, .istore 1, .iconst 0, .istore 2, .iconst 0, .istore 3, .iload 3, .iconst 25, .if_icmp .ge 29, .iload 1, .ifCond .eq 29, .aload 0, .iload 1, .invokestatic 60, .invokestatic 55, .istore 4, .iload 2, .iload 4, .invokestatic 322, .ret 0, .istore 2, .iload 1, .iload 4, .iconst (-1), .ixor, .iand, .istore 1, .iinc 3 1, .goto 6, .iload 2, .ireturn]
def K_Mz_isNeck : List Instr := [.aload 0, .iload 1, .invokestatic 55, .iconst 1, .iload 1, .ishl, .iconst (-1), .ixor, .iand, .istore 2, .iload 2, .ifCond .eq 23, .aload 0, .iload 2, .iload 2, .ineg, .iand, .iload 2, .invokestatic 54, .iload 2, .if_icmp .eq 23, .iconst 1, .goto 24, .iconst 0, .ireturn]
def K_Mz_pathsTo : List Instr := [.aload 0, .iload 1, .invokestatic 55, .iload 2, .iand, .ifCond .ne 8, .bipush 0, .lreturn, .aload 0, .iconst 1, .iload 1, .ishl, .iload 2, .iconst 33554431, .iconst 1, .iload 1, .ishl, .iconst (-1), .ixor, .iand, .iconst 0, .invokestatic 65, .lreturn]
def K_Mz_pathsOn : List Instr := [.iload 1, .iload 2, .if_icmp .ne 5, .bipush 1, .lreturn, .iload 4, .iconst 25, .if_icmp .lt 10, .bipush 0, .lreturn, .aload 0, .iload 1, .invokestatic 51, .iload 3, .iand, .istore 5, .bipush 0, .lstore 6, .iconst 0, .istore 8, .iload 8, .iconst 4, .if_icmp .ge 53, .iload 5, .ifCond .eq 53, .iload 5, .iload 5, .ineg, .iand, .istore 9, .iload 5, .iload 9, .iconst (-1), .ixor, .iand, .istore 5, .lload 6, .aload 0, .iload 9, .iload 2, .iload 3, .iload 9, .iconst (-1), .ixor, .iand, .iload 4, .iconst 1, .iadd, .invokestatic 65, .ladd, .lstore 6, .iinc 8 1, .goto 20, .lload 6, .lreturn]
def K_Mz_fewestGates : List Instr := [.iconst 0, .istore 2, .iload 2, .iconst 25, .if_icmp .ge 17, .aload 0, .multianewarray 4 2, .iload 2, .aload 0, .iconst 1, .iload 2, .ishl, .iload 1, .invokestatic 53, .iastore, .iinc 2 1, .goto 2, .iconst 1, .istore 2, .iload 2, .iconst 4, .if_icmp .gt 35, .aload 0, .iload 2, .iconst 25, .iconst 0, .invokestatic 67, .istore 3, .iload 3, .iconst (-1), .if_icmp .eq 33, .iload 3, .ireturn, .iinc 2 1, .goto 19, .iconst (-1), .ireturn]
def K_Mz_lowestCover : List Instr := [.iload 1, .ifCond .gt 9, .iload 3, .iconst 33554431, .if_icmp .ne 7, .iconst 0, .goto 8, .iconst (-1), .ireturn, .iconst 0, .istore 4, .iload 4, .iload 2, .if_icmp .ge 45, .iconst 33080895, .iload 4, .ishr, .iconst 1, .iand, .iconst 1, .if_icmp .ne 43, .aload 0, .iload 1, .iconst 1, .isub, .iload 4, .iload 3, .aload 0, .multianewarray 4 2, .iload 4, .iaload, .ior, .invokestatic 67, .istore 5, .iload 5, .iconst (-1), .if_icmp .eq 43, .iload 5, .iconst 1, .iload 4, .ishl, .ior, .ireturn, .iinc 4 1, .goto 11, .iconst (-1), .ireturn]
def K_Pl_isCell : List Instr := [.iload 0, .ifCond .lt 7, .iload 0, .iconst 25, .if_icmp .ge 7, .iconst 1, .goto 8, .iconst 0, .ireturn]
def K_Pl_isWay : List Instr := [.iload 0, .ifCond .lt 7, .iload 0, .iconst 4, .if_icmp .ge 7, .iconst 1, .goto 8, .iconst 0, .ireturn]
def K_Pl_isHedge : List Instr := [.iload 0, .ifCond .lt 7, .iload 0, .iconst 40, .if_icmp .ge 7, .iconst 1, .goto 8, .iconst 0, .ireturn]
def K_Pl_cellBeyond : List Instr := [.iload 1, .tableswitch 41 0 3 #[2, 11, 22, 31], .iload 0, .iconst 5, .if_icmp .lt 9, .iload 0, .iconst 5, .isub, .goto 10, .iconst (-1), .ireturn, .iload 0, .iconst 5, .irem, .iconst 4, .if_icmp .ge 20, .iload 0, .iconst 1, .iadd, .goto 21, .iconst (-1), .ireturn, .iload 0, .iconst 20, .if_icmp .ge 29, .iload 0, .iconst 5, .iadd, .goto 30, .iconst (-1), .ireturn, .iload 0, .iconst 5, .irem, .ifCond .le 39, .iload 0, .iconst 1, .isub, .goto 40, .iconst (-1), .ireturn, .iconst (-1), .ireturn]
def K_Pl_hedgeBy : List Instr := [.iload 0, .iconst 5, .idiv, .istore 2, .iload 0, .iconst 5, .irem, .istore 3, .iload 2, .iconst 4, .imul, .iload 3, .iadd, .istore 4, .iload 1, .tableswitch 50 0 3 #[16, 26, 33, 42], .iload 2, .ifCond .le 24, .iconst 20, .iload 0, .iadd, .iconst 5, .isub, .goto 25, .iconst (-1), .ireturn, .iload 3, .iconst 4, .if_icmp .ge 31, .iload 4, .goto 32, .iconst (-1), .ireturn, .iload 2, .iconst 4, .if_icmp .ge 40, .iconst 20, .iload 0, .iadd, .goto 41, .iconst (-1), .ireturn, .iload 3, .ifCond .le 48, .iload 4, .iconst 1, .isub, .goto 49, .iconst (-1), .ireturn, .iconst (-1), .ireturn]
def K_Pl_firstCell : List Instr := [.iload 0, .iconst 20, .if_icmp .ge 13, .iload 0, .iconst 4, .idiv, .iconst 5, .imul, .iload 0, .iconst 4, .irem, .iadd, .goto 16, .iload 0, .iconst 20, .isub, .ireturn]
def K_Pl_secondCell : List Instr := [.iload 0, .invokestatic 73, .iload 0, .iconst 20, .if_icmp .ge 7, .iconst 1, .goto 8, .iconst 5, .iadd, .ireturn]
def K_Pl_apart : List Instr := [.iload 0, .ifCond .lt 10, .iload 0, .iconst 25, .if_icmp .ge 10, .iload 1, .ifCond .lt 10, .iload 1, .iconst 25, .if_icmp .lt 12, .iconst 0, .ireturn, .iload 0, .iconst 5, .idiv, .iload 1, .iconst 5, .idiv, .isub, .ret 2, .iload 0, .iconst 5, .irem, .iload 1, .iconst 5, .irem, .isub, .ret 2, .iadd, .ireturn]
def K_Rd_hasRoomFor : List Instr := [.aload 0, .multianewarray 5 1, .iload 1, .iadd, .iconst 300, .if_icmp .gt 8, .iconst 1, .goto 9, .iconst 0, .ireturn]
def K_Rd_addFour : List Instr := [.iconst 24, .istore 2, .iload 2, .ifCond .lt 26, .aload 0, .multianewarray 5 1, .iconst 300, .if_icmp .ge 26, .aload 0, .multianewarray 5 0, .aload 0, .multianewarray 5 1, .iload 1, .iload 2, .ishr, .iconst 255, .iand, .iastore, .aload 0, .dup, .multianewarray 5 1, .iconst 1, .iadd, .invokeinterface 5 1, .iinc 2 (-8), .goto 2, .return_]
def K_Rd_reads : List Instr := [.aload 0, .iconst 1, .invokeinterface 5 3, .aload 0, .iconst 0, .invokeinterface 5 4, .aload 0, .iconst (-1), .invokeinterface 5 5, .aload 0, .multianewarray 5 2, .invokestatic 104, .aload 0, .iconst 0, .invokeinterface 5 11, .aload 0, .iconst 0, .invokeinterface 5 9, .aload 0, .invokestatic 97, .iconst 0, .istore 1, .iload 1, .iconst 24, .if_icmp .gt 35, .aload 0, .multianewarray 5 6, .ifCond .eq 35, .aload 0, .invokestatic 81, .ifCond .ne 33, .iconst 0, .ireturn, .iinc 1 1, .goto 22, .iconst 1, .ireturn]
def K_Rd_refuse : List Instr := [.aload 0, .iload 1, .invokeinterface 5 4, .aload 0, .aload 0, .multianewarray 5 7, .invokeinterface 5 5, .iconst 0, .ireturn]
def K_Rd_take : List Instr := [.aload 0, .multianewarray 5 6, .iload 1, .if_icmp .eq 8, .aload 0, .iconst 1, .invokestatic 79, .ireturn, .aload 0, .invokestatic 97, .iconst 1, .ireturn]
def K_Rd_clause : List Instr := [.aload 0, .multianewarray 5 6, .istore 1, .iload 1, .iconst 16, .if_icmp .lt 9, .iload 1, .iconst 24, .if_icmp .le 13, .aload 0, .iconst 1, .invokestatic 79, .ireturn, .iload 1, .iconst 16, .if_icmp .eq 19, .iload 1, .iconst 17, .if_icmp .ne 21, .iconst 1, .goto 22, .iconst 0, .istore 2, .iload 2, .ifCond .eq 34, .aload 0, .multianewarray 5 2, .iload 1, .invokestatic 107, .ifCond .eq 34, .aload 0, .iconst 4, .invokestatic 79, .ireturn, .aload 0, .multianewarray 5 2, .multianewarray 6 0, .iconst 24, .if_icmp .lt 43, .aload 0, .iconst 6, .invokestatic 79, .ireturn, .aload 0, .invokestatic 97, .iload 2, .ifCond .ne 59, .aload 0, .iload 1, .invokestatic 82, .ifCond .eq 57, .aload 0, .iconst 13, .invokestatic 80, .ifCond .eq 57, .iconst 1, .goto 58, .iconst 0, .ireturn, .aload 0, .iload 1, .invokeinterface 5 10, .aload 0, .multianewarray 5 2, .iload 1, .invokestatic 108, .aload 0, .invokestatic 86, .istore 3, .aload 0, .multianewarray 5 2, .iload 1, .invokestatic 109, .iload 3, .ifCond .eq 81, .aload 0, .iconst 13, .invokestatic 80, .ifCond .eq 81, .iconst 1, .goto 82, .iconst 0, .ireturn]
def K_Rd_deed : List Instr := [.iload 1, .tableswitch 59 18 24 #[2, 17, 59, 59, 23, 38, 53], .aload 0, .iload 1, .iconst 0, .iconst 24, .invokestatic 83, .ifCond .eq 15, .aload 0, .iconst 30, .iconst 3, .invokestatic 84, .ifCond .eq 15, .iconst 1, .goto 16, .iconst 0, .ireturn, .aload 0, .iload 1, .iconst 0, .iconst 24, .invokestatic 83, .ireturn, .aload 0, .iload 1, .iconst 0, .iconst 3, .invokestatic 83, .ifCond .eq 36, .aload 0, .iconst 31, .iconst 7, .invokestatic 84, .ifCond .eq 36, .iconst 1, .goto 37, .iconst 0, .ireturn, .aload 0, .iload 1, .iconst 0, .iconst 3, .invokestatic 83, .ifCond .eq 51, .aload 0, .iconst 32, .iconst 4, .invokestatic 84, .ifCond .eq 51, .iconst 1, .goto 52, .iconst 0, .ireturn, .aload 0, .iload 1, .iconst 1, .iconst 60, .invokestatic 83, .ireturn, .aload 0, .iload 1, .iconst 0, .iconst 39, .invokestatic 83, .ireturn]
def K_Rd_oneNumber : List Instr := [.aload 0, .iload 2, .iload 3, .invokestatic 85, .ifCond .ne 7, .iconst 0, .ireturn, .aload 0, .multianewarray 5 2, .iload 1, .aload 0, .multianewarray 5 8, .iconst 0, .invokestatic 106, .aload 0, .invokestatic 97, .iconst 1, .ireturn]
def K_Rd_secondNumber : List Instr := [.aload 0, .multianewarray 5 6, .iload 1, .if_icmp .eq 8, .aload 0, .iconst 1, .invokestatic 79, .ireturn, .aload 0, .invokestatic 97, .aload 0, .iconst 0, .iload 2, .invokestatic 85, .ifCond .ne 17, .iconst 0, .ireturn, .aload 0, .multianewarray 5 2, .multianewarray 6 0, .ifCond .le 32, .aload 0, .multianewarray 5 2, .multianewarray 6 3, .aload 0, .multianewarray 5 2, .multianewarray 6 0, .iconst 1, .isub, .aload 0, .multianewarray 5 8, .iastore, .aload 0, .invokestatic 97, .iconst 1, .ireturn]
def K_Rd_isNumber : List Instr := [.aload 0, .multianewarray 5 6, .iconst 2, .if_icmp .eq 8, .aload 0, .iconst 1, .invokestatic 79, .ireturn, .aload 0, .multianewarray 5 8, .iload 1, .if_icmp .lt 16, .aload 0, .multianewarray 5 8, .iload 2, .if_icmp .le 20, .aload 0, .iconst 2, .invokestatic 79, .ifCond .eq 22, .iconst 1, .goto 23, .iconst 0, .ireturn]
def K_Rd_sum : List Instr := [.aload 0, .invokestatic 87, .ifCond .ne 5, .iconst 0, .ireturn, .iconst 0, .istore 1, .iload 1, .iconst 300, .if_icmp .ge 36, .aload 0, .multianewarray 5 6, .iconst 7, .if_icmp .eq 18, .aload 0, .multianewarray 5 6, .iconst 8, .if_icmp .ne 36, .aload 0, .multianewarray 5 6, .istore 2, .aload 0, .invokestatic 97, .aload 0, .invokestatic 87, .ifCond .ne 28, .iconst 0, .ireturn, .aload 0, .multianewarray 5 2, .iload 2, .iconst 0, .invokestatic 110, .pop, .iinc 1 1, .goto 7, .iconst 1, .ireturn]
def K_Rd_product : List Instr := [.aload 0, .invokestatic 88, .ifCond .ne 5, .iconst 0, .ireturn, .iconst 0, .istore 1, .iload 1, .iconst 300, .if_icmp .ge 36, .aload 0, .multianewarray 5 6, .iconst 9, .if_icmp .eq 18, .aload 0, .multianewarray 5 6, .iconst 10, .if_icmp .ne 36, .aload 0, .multianewarray 5 6, .istore 2, .aload 0, .invokestatic 97, .aload 0, .invokestatic 88, .ifCond .ne 28, .iconst 0, .ireturn, .aload 0, .multianewarray 5 2, .iload 2, .iconst 0, .invokestatic 110, .pop, .iinc 1 1, .goto 7, .iconst 1, .ireturn]
def K_Rd_one : List Instr := [.aload 0, .multianewarray 5 6, .iconst 2, .if_icmp .ne 19, .aload 0, .iconst 0, .iconst 9999, .invokestatic 85, .ifCond .eq 17, .aload 0, .iconst 2, .aload 0, .multianewarray 5 8, .invokestatic 89, .ifCond .eq 17, .iconst 1, .goto 18, .iconst 0, .ireturn, .aload 0, .multianewarray 5 6, .iconst 24, .if_icmp .lt 42, .aload 0, .multianewarray 5 6, .iconst 30, .if_icmp .gt 42, .aload 0, .invokestatic 90, .ifCond .eq 40, .aload 0, .iconst 43, .aload 0, .multianewarray 5 6, .iconst 24, .isub, .invokestatic 89, .ifCond .eq 40, .iconst 1, .goto 41, .iconst 0, .ireturn, .aload 0, .multianewarray 5 6, .iconst 11, .if_icmp .eq 62, .aload 0, .multianewarray 5 6, .iconst 8, .if_icmp .eq 62, .aload 0, .multianewarray 5 6, .iconst 33, .if_icmp .eq 62, .aload 0, .multianewarray 5 6, .iconst 35, .if_icmp .eq 62, .aload 0, .multianewarray 5 6, .iconst 36, .if_icmp .ne 64, .iconst 1, .goto 65, .iconst 0, .istore 1, .iload 1, .ifCond .eq 71, .aload 0, .invokestatic 91, .goto 74, .aload 0, .iconst 1, .invokestatic 79, .ireturn]
def K_Rd_emitAndAdvance : List Instr := [.aload 0, .multianewarray 5 2, .iload 1, .iload 2, .invokestatic 110, .pop, .aload 0, .invokestatic 97, .iconst 1, .ireturn]
def K_Rd_isNameHere : List Instr := [.aload 0, .multianewarray 5 10, .iconst 16, .if_icmp .ne 16, .aload 0, .multianewarray 5 6, .iconst 29, .if_icmp .eq 12, .aload 0, .multianewarray 5 6, .iconst 30, .if_icmp .ne 14, .iconst 1, .goto 23, .iconst 0, .goto 23, .aload 0, .multianewarray 5 6, .iconst 28, .if_icmp .ne 22, .iconst 1, .goto 23, .iconst 0, .istore 1, .iload 1, .ifCond .eq 30, .aload 0, .iconst 5, .invokestatic 79, .ifCond .eq 32, .iconst 1, .goto 33, .iconst 0, .ireturn]
def K_Rd_nested : List Instr := [.aload 0, .multianewarray 5 11, .iconst 8, .if_icmp .lt 8, .aload 0, .iconst 3, .invokestatic 79, .ireturn, .aload 0, .multianewarray 5 6, .istore 1, .aload 0, .dup, .multianewarray 5 11, .iconst 1, .iadd, .invokeinterface 5 11, .aload 0, .invokestatic 97, .aload 0, .iload 1, .invokestatic 92, .istore 2, .aload 0, .dup, .multianewarray 5 11, .iconst 1, .isub, .invokeinterface 5 11, .iload 2, .ireturn]
def K_Rd_inside : List Instr := [.iload 1, .lookupswitch 72 #[(8, 13), (11, 2), (33, 26), (35, 46), (42, 59)], .aload 0, .invokestatic 86, .ifCond .eq 11, .aload 0, .iconst 12, .invokestatic 80, .ifCond .eq 11, .iconst 1, .goto 12, .iconst 0, .ireturn, .aload 0, .invokestatic 88, .ifCond .eq 24, .aload 0, .multianewarray 5 2, .iconst 44, .iconst 0, .invokestatic 110, .ifCond .eq 24, .iconst 1, .goto 25, .iconst 0, .ireturn, .aload 0, .invokestatic 88, .ifCond .eq 44, .aload 0, .iconst 34, .invokestatic 80, .ifCond .eq 44, .aload 0, .invokestatic 88, .ifCond .eq 44, .aload 0, .multianewarray 5 2, .iconst 33, .iconst 0, .invokestatic 110, .ifCond .eq 44, .iconst 1, .goto 45, .iconst 0, .ireturn, .aload 0, .invokestatic 88, .ifCond .eq 57, .aload 0, .multianewarray 5 2, .iconst 35, .iconst 0, .invokestatic 110, .ifCond .eq 57, .iconst 1, .goto 58, .iconst 0, .ireturn, .aload 0, .invokestatic 96, .ifCond .eq 70, .aload 0, .multianewarray 5 2, .iconst 42, .iconst 0, .invokestatic 110, .ifCond .eq 70, .iconst 1, .goto 71, .iconst 0, .ireturn, .aload 0, .invokestatic 93, .ireturn]
def K_Rd_choice : List Instr := [.aload 0, .invokestatic 94, .ifCond .eq 7, .aload 0, .iconst 37, .invokestatic 80, .ifCond .ne 9, .iconst 0, .ireturn, .aload 0, .multianewarray 5 2, .multianewarray 6 5, .istore 1, .aload 0, .multianewarray 5 2, .iconst 45, .iconst 0, .invokestatic 110, .pop, .aload 0, .invokestatic 86, .ifCond .eq 26, .aload 0, .iconst 38, .invokestatic 80, .ifCond .ne 28, .iconst 0, .ireturn, .aload 0, .multianewarray 5 2, .multianewarray 6 5, .istore 2, .aload 0, .multianewarray 5 2, .iconst 46, .iconst 0, .invokestatic 110, .pop, .aload 0, .multianewarray 5 2, .iload 1, .invokestatic 111, .aload 0, .invokestatic 86, .ifCond .eq 51, .aload 0, .iconst 39, .invokestatic 80, .ifCond .eq 51, .iconst 1, .goto 52, .iconst 0, .istore 3, .aload 0, .multianewarray 5 2, .iload 2, .invokestatic 111, .iload 3, .ireturn]
def K_Rd_either : List Instr := [.aload 0, .invokestatic 95, .ifCond .ne 5, .iconst 0, .ireturn, .iconst 0, .istore 1, .iload 1, .iconst 300, .if_icmp .ge 29, .aload 0, .multianewarray 5 6, .iconst 40, .if_icmp .ne 29, .aload 0, .invokestatic 97, .aload 0, .invokestatic 95, .ifCond .ne 21, .iconst 0, .ireturn, .aload 0, .multianewarray 5 2, .iconst 40, .iconst 0, .invokestatic 110, .pop, .iinc 1 1, .goto 7, .iconst 1, .ireturn]
def K_Rd_both : List Instr := [.aload 0, .invokestatic 96, .ifCond .ne 5, .iconst 0, .ireturn, .iconst 0, .istore 1, .iload 1, .iconst 300, .if_icmp .ge 29, .aload 0, .multianewarray 5 6, .iconst 41, .if_icmp .ne 29, .aload 0, .invokestatic 97, .aload 0, .invokestatic 96, .ifCond .ne 21, .iconst 0, .ireturn, .aload 0, .multianewarray 5 2, .iconst 41, .iconst 0, .invokestatic 110, .pop, .iinc 1 1, .goto 7, .iconst 1, .ireturn]
def K_Rd_ask : List Instr := [.aload 0, .multianewarray 5 6, .iconst 42, .if_icmp .ne 7, .aload 0, .invokestatic 91, .ireturn, .aload 0, .invokestatic 86, .ifCond .ne 12, .iconst 0, .ireturn, .aload 0, .multianewarray 5 6, .istore 1, .iload 1, .iconst 3, .if_icmp .lt 21, .iload 1, .iconst 6, .if_icmp .le 27, .iload 1, .iconst 14, .if_icmp .eq 27, .iload 1, .iconst 15, .if_icmp .ne 29, .iconst 1, .goto 30, .iconst 0, .istore 2, .iload 2, .ifCond .ne 37, .aload 0, .iconst 1, .invokestatic 79, .ireturn, .aload 0, .invokestatic 97, .aload 0, .invokestatic 86, .ifCond .eq 50, .aload 0, .multianewarray 5 2, .iload 1, .iconst 0, .invokestatic 110, .ifCond .eq 50, .iconst 1, .goto 51, .iconst 0, .ireturn]
def K_Rd_advance : List Instr := [.aload 0, .multianewarray 5 9, .aload 0, .multianewarray 5 1, .if_icmp .ge 19, .aload 0, .multianewarray 5 0, .aload 0, .multianewarray 5 9, .iaload, .invokestatic 98, .ifCond .eq 19, .aload 0, .dup, .multianewarray 5 9, .iconst 1, .iadd, .invokeinterface 5 9, .goto 0, .aload 0, .aload 0, .multianewarray 5 9, .invokeinterface 5 7, .aload 0, .multianewarray 5 9, .aload 0, .multianewarray 5 1, .if_icmp .lt 32, .aload 0, .iconst 0, .invokeinterface 5 6, .goto 60, .aload 0, .multianewarray 5 0, .aload 0, .multianewarray 5 9, .iaload, .invokestatic 99, .ifCond .eq 44, .aload 0, .aload 0, .invokestatic 101, .invokeinterface 5 6, .goto 60, .aload 0, .multianewarray 5 0, .aload 0, .multianewarray 5 9, .iaload, .invokestatic 100, .ifCond .eq 56, .aload 0, .aload 0, .invokestatic 102, .invokeinterface 5 6, .goto 60, .aload 0, .aload 0, .invokestatic 103, .invokeinterface 5 6, .return_]
def K_Rd_isBlank : List Instr := [.iload 0, .iconst 32, .if_icmp .eq 6, .iload 0, .iconst 10, .if_icmp .ne 8, .iconst 1, .goto 9, .iconst 0, .ireturn]
def K_Rd_isLetter : List Instr := [.iload 0, .iconst 97, .if_icmp .lt 6, .iload 0, .iconst 122, .if_icmp .le 12, .iload 0, .iconst 65, .if_icmp .lt 14, .iload 0, .iconst 90, .if_icmp .gt 14, .iconst 1, .goto 15, .iconst 0, .ireturn]
def K_Rd_isDigit : List Instr := [.iload 0, .iconst 48, .if_icmp .lt 8, .iload 0, .iconst 57, .if_icmp .gt 8, .iconst 1, .goto 9, .iconst 0, .ireturn]
def K_Rd_wordRead : List Instr := [.aload 0, .multianewarray 5 9, .aload 0, .multianewarray 5 1, .if_icmp .ge 19, .aload 0, .multianewarray 5 0, .aload 0, .multianewarray 5 9, .iaload, .invokestatic 99, .ifCond .eq 19, .aload 0, .dup, .multianewarray 5 9, .iconst 1, .iadd, .invokeinterface 5 9, .goto 0, .aload 0, .multianewarray 5 9, .aload 0, .multianewarray 5 7, .isub, .istore 1, .iconst 16, .istore 2, .iconst 0, .istore 3, .iconst 0, .istore 4, .iload 4, .ldc 52, .invokedynamic 1, .if_icmp .ge 73, .ldc 52, .iload 4, .invokedynamic 2, .istore 5, .iload 5, .iconst 32, .if_icmp .ne 51, .iload 3, .iload 1, .if_icmp .ne 47, .iload 2, .ireturn, .iinc 2 1, .iconst 0, .istore 3, .goto 71, .iload 3, .ifCond .lt 71, .iload 3, .iload 1, .if_icmp .ge 69, .aload 0, .multianewarray 5 0, .aload 0, .multianewarray 5 7, .iload 3, .iadd, .iaload, .iload 5, .if_icmp .ne 69, .iload 3, .iconst 1, .iadd, .goto 70, .iconst (-1), .istore 3, .iinc 4 1, .goto 31, .iconst 1, .ireturn]
def K_Rd_digitsRead : List Instr := [.aload 0, .iconst 0, .invokeinterface 5 8, .aload 0, .multianewarray 5 9, .aload 0, .multianewarray 5 1, .if_icmp .ge 38, .aload 0, .multianewarray 5 0, .aload 0, .multianewarray 5 9, .iaload, .invokestatic 100, .ifCond .eq 38, .aload 0, .aload 0, .multianewarray 5 8, .iconst 10, .imul, .aload 0, .multianewarray 5 0, .aload 0, .multianewarray 5 9, .iaload, .iadd, .iconst 48, .isub, .iconst 10000, .ret 1, .invokeinterface 5 8, .aload 0, .dup, .multianewarray 5 9, .iconst 1, .iadd, .invokeinterface 5 9, .goto 3, .iconst 2, .ireturn]
def K_Rd_signRead : List Instr := [.ldc 53, .aload 0, .multianewarray 5 0, .aload 0, .multianewarray 5 9, .iaload, .i2c, .invokedynamic 3, .istore 1, .aload 0, .dup, .multianewarray 5 9, .iconst 1, .iadd, .invokeinterface 5 9, .iload 1, .ifCond .ge 19, .iconst 1, .ireturn, .iconst 3, .iload 1, .iadd, .istore 2, .iload 2, .iconst 3, .if_icmp .eq 29, .iload 2, .iconst 4, .if_icmp .ne 31, .iconst 1, .goto 32, .iconst 0, .istore 3, .iload 3, .ifCond .eq 47, .aload 0, .multianewarray 5 9, .aload 0, .multianewarray 5 1, .if_icmp .ge 47, .aload 0, .multianewarray 5 0, .aload 0, .multianewarray 5 9, .iaload, .iconst 61, .if_icmp .eq 49, .iload 2, .ireturn, .aload 0, .dup, .multianewarray 5 9, .iconst 1, .iadd, .invokeinterface 5 9, .iload 2, .iconst 3, .if_icmp .ne 60, .iconst 14, .goto 61, .iconst 15, .ireturn]
def K_Tx_clear : List Instr := [.aload 0, .iconst 0, .invokeinterface 6 0, .aload 0, .iconst 0, .invokeinterface 6 5, .aload 0, .iconst 0, .invokeinterface 6 6, .aload 0, .iconst 0, .invokeinterface 6 9, .return_]
def K_Tx_copyFrom : List Instr := [.aload 0, .aload 1, .multianewarray 6 0, .invokeinterface 6 0, .aload 1, .multianewarray 6 1, .iconst 0, .aload 0, .multianewarray 6 1, .iconst 0, .iconst 24, .invokedynamic 0, .aload 1, .multianewarray 6 2, .iconst 0, .aload 0, .multianewarray 6 2, .iconst 0, .iconst 24, .invokedynamic 0, .aload 1, .multianewarray 6 3, .iconst 0, .aload 0, .multianewarray 6 3, .iconst 0, .iconst 24, .invokedynamic 0, .aload 0, .aload 1, .multianewarray 6 5, .invokeinterface 6 5, .aload 1, .multianewarray 6 4, .iconst 0, .aload 0, .multianewarray 6 4, .iconst 0, .iconst 300, .invokedynamic 0, .aload 0, .aload 1, .multianewarray 6 6, .invokeinterface 6 6, .aload 0, .aload 1, .multianewarray 6 7, .invokeinterface 6 7, .aload 0, .aload 1, .multianewarray 6 8, .invokeinterface 6 8, .aload 0, .aload 1, .multianewarray 6 9, .invokeinterface 6 9, .aload 0, .aload 1, .multianewarray 6 10, .invokeinterface 6 10, .aload 0, .aload 1, .multianewarray 6 11, .invokeinterface 6 11, .return_]
def K_Tx_addClause : List Instr := [.aload 0, .multianewarray 6 0, .iconst 24, .if_icmp .ge 28, .aload 0, .multianewarray 6 1, .aload 0, .multianewarray 6 0, .iload 1, .iastore, .aload 0, .multianewarray 6 2, .aload 0, .multianewarray 6 0, .iload 2, .iastore, .aload 0, .multianewarray 6 3, .aload 0, .multianewarray 6 0, .iload 3, .iastore, .aload 0, .dup, .multianewarray 6 0, .iconst 1, .iadd, .invokeinterface 6 0, .return_]
def K_Tx_has : List Instr := [.iload 1, .iconst 16, .if_icmp .ne 6, .aload 0, .multianewarray 6 6, .goto 8, .aload 0, .multianewarray 6 9, .ireturn]
def K_Tx_beginLaw : List Instr := [.aload 0, .iload 1, .iconst 0, .iconst 0, .invokestatic 106, .iload 1, .iconst 16, .if_icmp .ne 16, .aload 0, .iconst 1, .invokeinterface 6 6, .aload 0, .aload 0, .multianewarray 6 5, .invokeinterface 6 7, .goto 23, .aload 0, .iconst 1, .invokeinterface 6 9, .aload 0, .aload 0, .multianewarray 6 5, .invokeinterface 6 10, .return_]
def K_Tx_endLaw : List Instr := [.iload 1, .iconst 16, .if_icmp .ne 8, .aload 0, .aload 0, .multianewarray 6 5, .invokeinterface 6 8, .goto 12, .aload 0, .aload 0, .multianewarray 6 5, .invokeinterface 6 11, .return_]
def K_Tx_emit : List Instr := [.aload 0, .multianewarray 6 5, .iconst 300, .if_icmp .ge 20, .aload 0, .multianewarray 6 4, .aload 0, .multianewarray 6 5, .iload 1, .iload 2, .iconst 64, .imul, .iadd, .iastore, .aload 0, .dup, .multianewarray 6 5, .iconst 1, .iadd, .invokeinterface 6 5, .iconst 1, .ireturn]
def K_Tx_landHere : List Instr := [.iload 1, .ifCond .lt 21, .iload 1, .aload 0, .multianewarray 6 5, .if_icmp .ge 21, .aload 0, .multianewarray 6 4, .iload 1, .aload 0, .multianewarray 6 4, .iload 1, .iaload, .iconst 64, .irem, .aload 0, .multianewarray 6 5, .iconst 64, .imul, .iadd, .iastore, .return_]
def K_Th_hand : List Instr := [.iload 1, .ifCond .lt 15, .iload 1, .iconst 1048575, .if_icmp .gt 15, .iload 2, .ifCond .lt 15, .iload 2, .iconst 1048575, .if_icmp .gt 15, .aload 0, .multianewarray 7 0, .multianewarray 0 5, .iconst 4, .if_icmp .lt 17, .iconst (-1), .ireturn, .aload 0, .multianewarray 7 2, .aload 0, .multianewarray 7 0, .multianewarray 0 5, .iload 1, .i2l, .iload 2, .i2l, .iconst 20, .lshl, .lor, .invokestatic 6, .aload 0, .multianewarray 7 0, .dup, .multianewarray 0 5, .iconst 1, .iadd, .invokeinterface 0 5, .aload 0, .multianewarray 7 0, .multianewarray 0 5, .iconst 1, .isub, .ireturn]
def K_Th_cow : List Instr := [.iload 1, .invokestatic 68, .ifCond .eq 6, .iload 2, .invokestatic 69, .ifCond .ne 8, .iconst (-1), .ireturn, .aload 0, .multianewarray 7 0, .multianewarray 0 0, .iload 1, .iload 2, .invokestatic 30, .ireturn]
def K_Th_gate : List Instr := [.iload 1, .invokestatic 68, .ifCond .eq 9, .iconst 33080895, .iload 1, .ishr, .iconst 1, .iand, .ifCond .ne 11, .iconst 0, .ireturn, .aload 0, .multianewarray 7 0, .iload 2, .ifCond .eq 23, .aload 0, .multianewarray 7 0, .multianewarray 0 4, .iconst 1, .iload 1, .ishl, .ior, .goto 32, .aload 0, .multianewarray 7 0, .multianewarray 0 4, .iconst 1, .iload 1, .ishl, .iconst (-1), .ixor, .iand, .invokeinterface 0 4, .iconst 1, .ireturn]
def K_Th_feed : List Instr := [.aload 0, .multianewarray 7 5, .iconst 20, .invokestatic 76, .ifCond .ne 7, .iconst (-1), .ireturn, .aload 0, .multianewarray 7 5, .iload 1, .invokestatic 77, .aload 0, .multianewarray 7 5, .iload 2, .invokestatic 77, .aload 0, .multianewarray 7 5, .iload 3, .invokestatic 77, .aload 0, .multianewarray 7 5, .iload 4, .invokestatic 77, .aload 0, .multianewarray 7 5, .iload 5, .invokestatic 77, .aload 0, .multianewarray 7 5, .multianewarray 5 1, .ireturn]
def K_Th_end : List Instr := [.iload 1, .ifCond .lt 7, .iload 1, .aload 0, .multianewarray 7 5, .multianewarray 5 1, .if_icmp .le 9, .iconst (-1), .ireturn, .aload 0, .multianewarray 7 5, .iload 1, .invokeinterface 5 1, .iload 1, .ireturn]
def K_Th_text : List Instr := [.aload 0, .multianewarray 7 0, .multianewarray 0 6, .iconst 4, .if_icmp .lt 7, .iconst (-1), .ireturn, .aload 0, .multianewarray 7 5, .invokestatic 78, .istore 1, .aload 0, .multianewarray 7 5, .iconst 0, .invokeinterface 5 1, .iload 1, .ifCond .ne 19, .iconst (-1), .ireturn, .aload 0, .multianewarray 7 3, .aload 0, .multianewarray 7 0, .multianewarray 0 6, .aaload, .aload 0, .multianewarray 7 5, .multianewarray 5 2, .invokestatic 105, .aload 0, .multianewarray 7 0, .dup, .multianewarray 0 6, .iconst 1, .iadd, .invokeinterface 0 6, .aload 0, .multianewarray 7 0, .multianewarray 0 6, .iconst 1, .isub, .ireturn]
def K_Th_fault : List Instr := [.aload 0, .multianewarray 7 5, .multianewarray 5 3, .ifCond .ne 6, .iconst (-1), .ireturn, .iload 1, .ifCond .ne 12, .aload 0, .multianewarray 7 5, .multianewarray 5 4, .ireturn, .iload 1, .iconst 1, .if_icmp .ne 19, .aload 0, .multianewarray 7 5, .multianewarray 5 5, .goto 20, .iconst (-1), .ireturn]
def K_Th_by : List Instr := [.iload 1, .iconst (-1), .if_icmp .eq 9, .aload 0, .iload 1, .invokestatic 163, .ifCond .ne 9, .iconst 0, .ireturn, .aload 0, .multianewarray 7 0, .iload 1, .invokeinterface 0 7, .iconst 1, .ireturn]
def K_Th_plant : List Instr := [.iload 1, .invokestatic 70, .ifCond .eq 9, .aload 0, .multianewarray 7 0, .multianewarray 0 0, .iload 1, .invokestatic 33, .ifCond .eq 11, .iconst 0, .ireturn, .aload 0, .multianewarray 7 0, .invokestatic 1, .aload 0, .multianewarray 7 0, .multianewarray 0 0, .iload 1, .invokestatic 34, .iconst 1, .ireturn]
def K_Th_cut : List Instr := [.aload 0, .multianewarray 7 0, .multianewarray 0 0, .iload 1, .invokestatic 33, .ifCond .ne 8, .iconst 0, .ireturn, .aload 0, .multianewarray 7 0, .invokestatic 1, .aload 0, .multianewarray 7 0, .multianewarray 0 0, .iload 1, .invokestatic 35, .iconst 1, .ireturn]
def K_Th_press : List Instr := [.aload 0, .iload 1, .invokestatic 162, .ifCond .eq 7, .iload 2, .invokestatic 3, .ifCond .ne 9, .iconst 0, .ireturn, .aload 0, .multianewarray 7 0, .invokestatic 1, .aload 0, .multianewarray 7 0, .multianewarray 0 0, .aload 0, .multianewarray 7 2, .iload 1, .iload 2, .invokestatic 11, .invokeinterface 3 0, .iconst 1, .ireturn]
def K_Th_go : List Instr := [.aload 0, .multianewarray 7 0, .multianewarray 0 0, .iload 1, .iload 2, .invokestatic 39, .ifCond .ne 9, .iconst (-1), .ireturn, .aload 0, .multianewarray 7 0, .invokestatic 1, .aload 0, .multianewarray 7 0, .multianewarray 0 0, .iload 1, .iload 2, .aload 0, .multianewarray 7 0, .multianewarray 0 4, .invokestatic 40, .pop, .aload 0, .multianewarray 7 0, .multianewarray 0 0, .multianewarray 3 2, .iload 1, .iaload, .ireturn]
def K_Th_hour : List Instr := [.iload 1, .iconst 1, .if_icmp .lt 14, .iload 1, .iconst 60, .if_icmp .gt 14, .aload 0, .multianewarray 7 0, .multianewarray 0 0, .multianewarray 3 5, .iload 1, .iadd, .iconst 9999, .if_icmp .le 16, .iconst (-1), .ireturn, .aload 0, .multianewarray 7 0, .multianewarray 0 0, .multianewarray 3 4, .invokestatic 322, .istore 2, .aload 0, .iload 1, .invokestatic 166, .pop, .aload 0, .multianewarray 7 0, .multianewarray 0 0, .multianewarray 3 4, .invokestatic 322, .iload 2, .isub, .ireturn]
def K_Th_played : List Instr := [.aload 0, .iload 1, .invokestatic 163, .ifCond .ne 6, .iconst (-2), .ireturn, .aload 0, .multianewarray 7 3, .iload 1, .aaload, .astore 2, .iconst 0, .istore 3, .iload 3, .aload 2, .multianewarray 6 0, .if_icmp .ge 48, .aload 2, .multianewarray 6 1, .iload 3, .iaload, .istore 4, .aload 2, .multianewarray 6 2, .iload 3, .iaload, .istore 5, .iload 4, .iconst 24, .if_icmp .ne 35, .aload 0, .iload 5, .invokestatic 166, .ifCond .eq 44, .goto 46, .aload 0, .iload 4, .iload 5, .aload 2, .multianewarray 6 3, .iload 3, .iaload, .invokestatic 168, .ifCond .ne 46, .iload 3, .ireturn, .iinc 3 1, .goto 13, .iconst (-1), .ireturn]
def K_Th_years : List Instr := [.iload 1, .ifCond .lt 11, .iload 1, .iconst 9999, .if_icmp .gt 11, .iload 2, .iconst 1, .if_icmp .lt 11, .iload 2, .iconst 40, .if_icmp .le 13, .iconst (-1), .ireturn, .aload 0, .multianewarray 7 0, .invokestatic 1, .aload 0, .multianewarray 7 0, .multianewarray 0 0, .iload 1, .iconst 2, .imul, .iconst 331, .iadd, .invokeinterface 3 6, .iconst 0, .istore 3, .iload 3, .iload 2, .if_icmp .ge 38, .aload 0, .aload 0, .multianewarray 7 0, .multianewarray 0 0, .invokestatic 43, .invokestatic 169, .iinc 3 1, .goto 27, .aload 0, .multianewarray 7 0, .multianewarray 0 0, .multianewarray 3 5, .ireturn]
def K_Th_undo : List Instr := [.aload 0, .multianewarray 7 0, .invokestatic 2, .ifCond .eq 8, .aload 0, .multianewarray 7 0, .multianewarray 0 3, .goto 9, .iconst (-1), .ireturn]
def K_Th_of : List Instr := [.aload 0, .multianewarray 7 0, .multianewarray 0 0, .astore 3, .aload 3, .iload 1, .invokestatic 31, .ifCond .ne 10, .iconst (-100), .ireturn, .aload 3, .iload 1, .invokestatic 32, .istore 4, .iload 2, .tableswitch 42 0 2 #[16, 25, 30], .iload 4, .ifCond .eq 20, .iconst (-1), .goto 24, .aload 3, .multianewarray 3 2, .iload 1, .iaload, .ireturn, .aload 3, .multianewarray 3 3, .iload 1, .iaload, .ireturn, .iload 4, .ifCond .eq 34, .iconst (-100), .goto 41, .aload 0, .multianewarray 7 6, .aload 0, .invokestatic 164, .aload 3, .iload 1, .invokestatic 20, .ireturn, .iconst (-100), .ireturn]
def K_Th_cell : List Instr := [.iload 1, .invokestatic 68, .ifCond .ne 5, .iconst (-1), .ireturn, .iload 2, .tableswitch 33 0 3 #[7, 13, 19, 27], .aload 0, .multianewarray 7 0, .multianewarray 0 0, .iload 1, .invokestatic 38, .ireturn, .aload 0, .multianewarray 7 0, .multianewarray 0 0, .iload 1, .invokestatic 37, .ireturn, .aload 0, .multianewarray 7 0, .multianewarray 0 4, .iload 1, .ishr, .iconst 1, .iand, .ireturn, .aload 0, .invokestatic 165, .iload 1, .invokestatic 55, .invokestatic 322, .ireturn, .iconst (-1), .ireturn]
def K_Th_hedge : List Instr := [.iload 1, .invokestatic 70, .ifCond .ne 5, .iconst (-1), .ireturn, .iload 2, .tableswitch 33 0 3 #[7, 17, 20, 23], .aload 0, .multianewarray 7 0, .multianewarray 0 0, .iload 1, .invokestatic 33, .ifCond .eq 15, .iconst 1, .goto 16, .iconst 0, .ireturn, .iload 1, .invokestatic 73, .ireturn, .iload 1, .invokestatic 74, .ireturn, .aload 0, .multianewarray 7 6, .aload 0, .invokestatic 164, .aload 0, .multianewarray 7 0, .multianewarray 0 0, .iload 1, .invokestatic 19, .ireturn, .iconst (-1), .ireturn]
def K_Th_between : List Instr := [.iload 1, .invokestatic 68, .ifCond .eq 6, .iload 2, .invokestatic 68, .ifCond .ne 8, .iconst (-1), .ireturn, .iconst 0, .istore 3, .iload 3, .iconst 4, .if_icmp .ge 24, .iload 1, .iload 3, .invokestatic 71, .iload 2, .if_icmp .ne 22, .iload 1, .iload 3, .invokestatic 72, .ireturn, .iinc 3 1, .goto 10, .iconst (-1), .ireturn]
def K_Th_is : List Instr := [.aload 0, .multianewarray 7 0, .multianewarray 0 0, .astore 2, .iload 1, .tableswitch 24 0 4 #[6, 9, 12, 16, 20], .aload 2, .multianewarray 3 5, .ireturn, .aload 2, .multianewarray 3 6, .ireturn, .aload 2, .multianewarray 3 0, .invokestatic 4, .ireturn, .aload 2, .multianewarray 3 0, .invokestatic 5, .ireturn, .aload 2, .multianewarray 3 0, .invokestatic 323, .ireturn, .iconst (-2), .ireturn]
def K_Th_book : List Instr := [.aload 0, .multianewarray 7 0, .multianewarray 0 0, .astore 3, .iload 1, .iconst (-1), .if_icmp .ne 10, .aload 3, .multianewarray 3 7, .ireturn, .iload 1, .ifCond .lt 16, .iload 1, .aload 3, .multianewarray 3 7, .if_icmp .lt 18, .iconst (-2), .ireturn, .iload 2, .tableswitch 32 0 2 #[20, 24, 28], .aload 3, .iload 1, .invokestatic 45, .ireturn, .aload 3, .iload 1, .invokestatic 46, .ireturn, .aload 3, .iload 1, .invokestatic 47, .ireturn, .iconst (-2), .ireturn]
def K_Th_foretold : List Instr := [.iload 1, .iconst 1, .if_icmp .lt 12, .iload 1, .iconst 60, .if_icmp .gt 12, .aload 0, .multianewarray 7 0, .multianewarray 0 0, .iload 2, .invokestatic 31, .ifCond .ne 14, .iconst (-2), .ireturn, .aload 0, .multianewarray 7 8, .aload 0, .multianewarray 7 0, .multianewarray 0 0, .invokestatic 28, .iconst 0, .istore 3, .iload 3, .iload 1, .if_icmp .ge 36, .aload 0, .multianewarray 7 8, .multianewarray 3 5, .iconst 9999, .if_icmp .ge 36, .aload 0, .aload 0, .multianewarray 7 8, .invokestatic 167, .iinc 3 1, .goto 22, .aload 0, .multianewarray 7 8, .iload 2, .invokestatic 32, .ifCond .eq 43, .iconst (-1), .goto 48, .aload 0, .multianewarray 7 8, .multianewarray 3 2, .iload 2, .iaload, .ireturn]
def K_Th_miles : List Instr := [.iload 1, .invokestatic 68, .ifCond .eq 6, .iload 2, .invokestatic 68, .ifCond .ne 8, .iconst (-1), .ireturn, .aload 0, .invokestatic 165, .iload 1, .iconst 1, .iload 2, .ishl, .invokestatic 56, .ireturn]
def K_Th_way : List Instr := [.iload 1, .invokestatic 68, .ifCond .eq 8, .iload 2, .invokestatic 68, .ifCond .eq 8, .iload 3, .ifCond .ge 10, .iconst (-2), .ireturn, .aload 0, .invokestatic 165, .iload 1, .iconst 1, .iload 2, .ishl, .invokestatic 56, .istore 4, .iload 3, .iload 4, .if_icmp .lt 23, .iconst (-2), .ireturn, .iload 1, .istore 5, .iconst (-2), .istore 6, .iload 4, .istore 7, .iload 7, .iload 4, .iload 3, .isub, .iconst 1, .isub, .if_icmp .le 54, .iload 5, .invokestatic 68, .ifCond .eq 54, .aload 0, .multianewarray 7 7, .iload 5, .iconst 1, .iload 2, .ishl, .iload 7, .invokestatic 57, .istore 6, .iload 5, .iload 6, .invokestatic 71, .istore 5, .iinc 7 (-1), .goto 29, .iload 6, .ireturn]
def K_Th_cuts : List Instr := [.iload 1, .invokestatic 68, .ifCond .eq 6, .iload 2, .invokestatic 68, .ifCond .ne 8, .iconst (-1), .ireturn, .aload 0, .invokestatic 165, .iload 1, .iconst 1, .iload 2, .ishl, .invokestatic 58, .ireturn]
def K_Th_farthest : List Instr := [.iload 1, .invokestatic 68, .ifCond .ne 5, .iconst (-1), .ireturn, .aload 0, .invokestatic 165, .iload 1, .invokestatic 59, .ireturn]
def K_Th_wide : List Instr := [.aload 0, .invokestatic 165, .pop, .iconst 0, .istore 1, .iconst 0, .istore 2, .iload 2, .iconst 25, .if_icmp .ge 25, .iload 1, .aload 0, .multianewarray 7 7, .iload 2, .iconst 1, .aload 0, .multianewarray 7 7, .iload 2, .invokestatic 59, .ishl, .invokestatic 56, .ret 0, .istore 1, .iinc 2 1, .goto 7, .iload 1, .ireturn]
def K_Th_regions : List Instr := [.iload 1, .ifCond .eq 6, .aload 0, .invokestatic 165, .invokestatic 62, .goto 9, .aload 0, .invokestatic 165, .invokestatic 61, .ireturn]
def K_Th_rings : List Instr := [.iconst 40, .aload 0, .multianewarray 7 0, .multianewarray 0 0, .multianewarray 3 0, .invokestatic 323, .isub, .iconst 25, .isub, .aload 0, .invokestatic 165, .invokestatic 61, .iadd, .ireturn]
def K_Th_ends : List Instr := [.iconst 0, .istore 1, .iconst 0, .istore 2, .iload 2, .iconst 25, .if_icmp .ge 23, .aload 0, .multianewarray 7 0, .multianewarray 0 0, .iload 2, .invokestatic 37, .invokestatic 322, .iconst 1, .if_icmp .ne 21, .iload 1, .iconst 1, .iload 2, .ishl, .ior, .istore 1, .iinc 2 1, .goto 4, .iload 1, .ireturn]
def K_Th_necks : List Instr := [.aload 0, .invokestatic 165, .pop, .iconst 0, .istore 1, .iconst 0, .istore 2, .iload 2, .iconst 25, .if_icmp .ge 23, .aload 0, .multianewarray 7 7, .iload 2, .invokestatic 63, .ifCond .eq 21, .iload 1, .iconst 1, .iload 2, .ishl, .ior, .istore 1, .iinc 2 1, .goto 7, .iload 1, .ireturn]
def K_Th_paths : List Instr := [.iload 1, .invokestatic 68, .ifCond .eq 6, .iload 2, .invokestatic 68, .ifCond .ne 8, .bipush (-1), .lreturn, .aload 0, .invokestatic 165, .iload 1, .iconst 1, .iload 2, .ishl, .invokestatic 64, .lreturn]
def K_Th_walk : List Instr := [.aload 0, .multianewarray 7 0, .multianewarray 0 0, .astore 3, .aload 3, .iload 1, .invokestatic 31, .ifCond .ne 10, .iconst (-1), .ireturn, .aload 3, .iload 1, .invokestatic 32, .ifCond .eq 20, .iload 2, .ifCond .eq 18, .iconst (-1), .goto 19, .iconst 0, .ireturn, .aload 3, .iload 1, .aload 0, .multianewarray 7 0, .multianewarray 0 4, .invokestatic 48, .istore 4, .iload 4, .iconst (-1), .if_icmp .ne 32, .iload 2, .ifCond .ne 38, .iload 2, .ifCond .eq 36, .iconst (-1), .goto 37, .iload 4, .ireturn, .aload 3, .iload 1, .invokestatic 49, .ireturn]
def K_Th_home : List Instr := [.iload 1, .ifCond .lt 5, .iload 1, .iconst 99, .if_icmp .le 7, .iconst (-1), .ireturn, .aload 0, .invokestatic 165, .aload 0, .multianewarray 7 0, .multianewarray 0 4, .iload 1, .invokestatic 53, .istore 2, .iconst 0, .istore 3, .iconst 0, .istore 4, .iload 4, .aload 0, .multianewarray 7 0, .multianewarray 0 0, .multianewarray 3 1, .if_icmp .ge 51, .aload 0, .multianewarray 7 0, .multianewarray 0 0, .iload 4, .invokestatic 32, .ifCond .ne 43, .iload 2, .aload 0, .multianewarray 7 0, .multianewarray 0 0, .multianewarray 3 2, .iload 4, .iaload, .ishr, .iconst 1, .iand, .iconst 1, .if_icmp .ne 49, .iload 3, .iconst 1, .iload 4, .ishl, .ior, .istore 3, .iinc 4 1, .goto 19, .iload 3, .ireturn]
def K_Th_gates : List Instr := [.iload 1, .ifCond .lt 5, .iload 1, .iconst 25, .if_icmp .lt 7, .iconst (-1), .ireturn, .aload 0, .invokestatic 165, .iload 1, .invokestatic 66, .istore 3, .iload 3, .iconst (-1), .if_icmp .eq 17, .iload 2, .ifCond .ne 19, .iload 3, .goto 21, .iload 3, .invokestatic 322, .ireturn]
def K_Th_turned : List Instr := [.aload 0, .iload 1, .invokestatic 162, .ifCond .eq 7, .iload 2, .invokestatic 3, .ifCond .ne 9, .iconst (-1), .ireturn, .aload 0, .multianewarray 7 2, .iload 1, .iload 2, .invokestatic 11, .lstore 4, .iload 3, .ifCond .eq 20, .lload 4, .invokestatic 5, .goto 22, .lload 4, .invokestatic 4, .ireturn]
def K_Th_unlike : List Instr := [.aload 0, .iload 1, .invokestatic 162, .ifCond .ne 6, .iconst (-1), .ireturn, .aload 0, .multianewarray 7 2, .iload 1, .aload 0, .multianewarray 7 0, .multianewarray 0 0, .multianewarray 3 0, .invokestatic 13, .istore 3, .iload 2, .ifCond .eq 19, .iload 3, .goto 28, .aload 0, .multianewarray 7 2, .iload 1, .iload 3, .aload 0, .multianewarray 7 0, .multianewarray 0 0, .multianewarray 3 0, .invokestatic 12, .ireturn]
def K_Th_owner : List Instr := [.iload 1, .ifCond .lt 5, .iload 1, .iconst 40, .if_icmp .le 7, .iconst (-1), .ireturn, .iconst (-1), .istore 2, .iload 1, .iconst 1, .iadd, .istore 3, .iconst 0, .istore 4, .iload 4, .aload 0, .multianewarray 7 0, .multianewarray 0 5, .if_icmp .ge 46, .aload 0, .multianewarray 7 2, .iload 4, .aload 0, .multianewarray 7 2, .iload 4, .aload 0, .multianewarray 7 0, .multianewarray 0 0, .multianewarray 3 0, .invokestatic 13, .aload 0, .multianewarray 7 0, .multianewarray 0 0, .multianewarray 3 0, .invokestatic 12, .istore 5, .iload 5, .iload 3, .if_icmp .ge 44, .iload 5, .istore 3, .iload 4, .istore 2, .iinc 4 1, .goto 15, .iload 2, .ireturn]
def K_Th_twins : List Instr := [.aload 0, .iload 1, .invokestatic 162, .ifCond .eq 11, .aload 0, .iload 2, .invokestatic 162, .ifCond .eq 11, .iload 1, .iload 2, .if_icmp .ne 13, .iconst (-1), .ireturn, .aload 0, .multianewarray 7 2, .iload 1, .iload 2, .invokestatic 14, .ireturn]
def K_Th_kinds : List Instr := [.iconst 0, .istore 1, .iconst 0, .istore 2, .iload 2, .aload 0, .multianewarray 7 0, .multianewarray 0 5, .if_icmp .ge 17, .aload 0, .multianewarray 7 2, .iload 2, .invokestatic 15, .ifCond .ne 15, .iinc 1 1, .iinc 2 1, .goto 4, .iload 1, .ireturn]
def K_Th_selves : List Instr := [.aload 0, .iload 1, .invokestatic 162, .ifCond .ne 6, .iconst (-1), .ireturn, .aload 0, .multianewarray 7 2, .iload 1, .invokestatic 16, .ireturn]
def K_Th_look : List Instr := [.iload 1, .ifCond .lt 5, .iload 1, .iconst 40, .if_icmp .le 7, .iconst (-1), .ireturn, .aload 0, .multianewarray 7 2, .aload 0, .multianewarray 7 0, .multianewarray 0 5, .aload 0, .multianewarray 7 0, .multianewarray 0 0, .multianewarray 3 0, .iload 1, .invokestatic 17, .ireturn]
def K_Th_said : List Instr := [.iload 1, .iconst (-1), .if_icmp .ne 9, .aload 0, .multianewarray 7 0, .iconst 0, .invokeinterface 0 8, .iconst 0, .ireturn, .iload 1, .invokestatic 70, .ifCond .eq 22, .iload 2, .ifCond .lt 22, .iload 2, .iconst 10, .if_icmp .gt 22, .aload 0, .multianewarray 7 0, .multianewarray 0 8, .iconst 8, .if_icmp .lt 24, .iconst (-2), .ireturn, .aload 0, .multianewarray 7 0, .multianewarray 0 9, .aload 0, .multianewarray 7 0, .multianewarray 0 8, .iload 1, .iastore, .aload 0, .multianewarray 7 0, .multianewarray 0 10, .aload 0, .multianewarray 7 0, .multianewarray 0 8, .iload 2, .iastore, .aload 0, .multianewarray 7 0, .dup, .multianewarray 0 8, .iconst 1, .iadd, .invokeinterface 0 8, .aload 0, .multianewarray 7 0, .multianewarray 0 8, .ireturn]
def K_Th_whose : List Instr := [.iconst 0, .istore 1, .iconst 0, .istore 2, .iload 2, .aload 0, .multianewarray 7 0, .multianewarray 0 6, .if_icmp .ge 24, .aload 0, .aload 0, .multianewarray 7 3, .iload 2, .aaload, .invokestatic 170, .ifCond .eq 22, .iload 1, .iconst 1, .iload 2, .ishl, .ior, .istore 1, .iinc 2 1, .goto 4, .iload 1, .ireturn]
def K_Th_thickest : List Instr := [.iconst 0, .istore 1, .iconst 1, .istore 2, .iload 2, .iconst 25, .if_icmp .ge 22, .aload 0, .multianewarray 7 0, .multianewarray 0 0, .iload 2, .invokestatic 38, .aload 0, .multianewarray 7 0, .multianewarray 0 0, .iload 1, .invokestatic 38, .if_icmp .le 20, .iload 2, .istore 1, .iinc 2 1, .goto 4, .iload 1, .ireturn]
def K_Th_ledger : List Instr := [.iload 1, .ifCond .eq 7, .iload 1, .iconst 1, .if_icmp .eq 7, .iconst (-2), .ireturn, .iconst 0, .istore 2, .iconst 0, .istore 3, .iload 3, .aload 0, .multianewarray 7 0, .multianewarray 0 0, .multianewarray 3 7, .if_icmp .ge 27, .aload 0, .multianewarray 7 0, .multianewarray 0 0, .iload 3, .invokestatic 46, .iload 1, .if_icmp .ne 25, .iinc 2 1, .iinc 3 1, .goto 11, .iload 2, .ireturn]
def K_Th_image : List Instr := [.aload 0, .multianewarray 7 1, .aload 0, .multianewarray 7 0, .invokestatic 0, .aload 0, .multianewarray 7 0, .multianewarray 0 0, .multianewarray 3 5, .ireturn]
def K_Th_back : List Instr := [.aload 0, .multianewarray 7 0, .aload 0, .multianewarray 7 1, .invokestatic 0, .aload 0, .multianewarray 7 0, .multianewarray 0 0, .multianewarray 3 5, .ireturn]
def K_Th_about : List Instr := [.iload 1, .tableswitch 35 0 7 #[2, 6, 11, 15, 19, 23, 27, 31], .aload 0, .multianewarray 7 0, .multianewarray 0 5, .ireturn, .aload 0, .multianewarray 7 0, .multianewarray 0 0, .multianewarray 3 1, .ireturn, .aload 0, .multianewarray 7 0, .multianewarray 0 6, .ireturn, .aload 0, .multianewarray 7 0, .multianewarray 0 7, .ireturn, .aload 0, .multianewarray 7 0, .multianewarray 0 3, .ireturn, .aload 0, .multianewarray 7 0, .multianewarray 0 8, .ireturn, .aload 0, .multianewarray 7 5, .multianewarray 5 1, .ireturn, .aload 0, .multianewarray 7 0, .multianewarray 0 4, .ireturn, .iconst (-2), .ireturn]
def K_Th_isHand : List Instr := [.iload 1, .ifCond .lt 9, .iload 1, .aload 0, .multianewarray 7 0, .multianewarray 0 5, .if_icmp .ge 9, .iconst 1, .goto 10, .iconst 0, .ireturn]
def K_Th_isText : List Instr := [.iload 1, .ifCond .lt 9, .iload 1, .aload 0, .multianewarray 7 0, .multianewarray 0 6, .if_icmp .ge 9, .iconst 1, .goto 10, .iconst 0, .ireturn]
def K_Th_ruling : List Instr := [.aload 0, .aload 0, .multianewarray 7 0, .multianewarray 0 7, .invokestatic 163, .ifCond .eq 13, .aload 0, .multianewarray 7 3, .aload 0, .multianewarray 7 0, .multianewarray 0 7, .aaload, .goto 15, .aload 0, .multianewarray 7 4, .areturn]
def K_Th_mazeNow : List Instr := [.aload 0, .multianewarray 7 7, .aload 0, .multianewarray 7 0, .multianewarray 0 0, .multianewarray 3 0, .invokestatic 50, .aload 0, .multianewarray 7 7, .areturn]
def K_Th_passHours : List Instr := [.iconst 0, .istore 2, .iload 2, .iload 1, .if_icmp .ge 23, .aload 0, .multianewarray 7 0, .multianewarray 0 0, .multianewarray 3 5, .iconst 9999, .if_icmp .lt 13, .iconst 0, .ireturn, .aload 0, .multianewarray 7 0, .invokestatic 1, .aload 0, .aload 0, .multianewarray 7 0, .multianewarray 0 0, .invokestatic 167, .iinc 2 1, .goto 2, .iconst 1, .ireturn]
def K_Th_passHour : List Instr := [.aload 0, .invokestatic 164, .astore 2, .iconst 0, .istore 3, .iload 3, .aload 1, .multianewarray 3 1, .if_icmp .ge 28, .aload 1, .iload 3, .invokestatic 32, .ifCond .ne 26, .aload 0, .multianewarray 7 6, .aload 2, .aload 1, .iload 3, .invokestatic 20, .ifCond .le 26, .aload 1, .iload 3, .aload 0, .multianewarray 7 0, .multianewarray 0 4, .invokestatic 41, .iinc 3 1, .goto 5, .aload 1, .invokestatic 43, .iconst 40, .irem, .istore 3, .aload 1, .iload 3, .invokestatic 33, .ifCond .eq 55, .aload 1, .invokestatic 43, .iconst 10, .irem, .aload 0, .multianewarray 7 6, .aload 2, .aload 1, .iload 3, .invokestatic 19, .if_icmp .ge 55, .aload 1, .iload 3, .invokestatic 35, .aload 1, .iconst 0, .iload 3, .invokestatic 44, .aload 1, .dup, .multianewarray 3 5, .iconst 1, .iadd, .invokeinterface 3 5, .return_]
def K_Th_does : List Instr := [.iload 1, .tableswitch 40 18 23 #[2, 12, 17, 21, 25, 30], .aload 0, .iload 2, .iload 3, .invokestatic 113, .iconst (-1), .if_icmp .eq 10, .iconst 1, .goto 11, .iconst 0, .ireturn, .aload 0, .iload 2, .iconst 1, .invokestatic 114, .ireturn, .aload 0, .iload 2, .invokestatic 120, .ireturn, .aload 0, .iload 2, .invokestatic 121, .ireturn, .aload 0, .iload 2, .iload 3, .invokestatic 122, .ireturn, .aload 0, .iload 3, .iload 2, .invokestatic 123, .iconst (-1), .if_icmp .eq 38, .iconst 1, .goto 39, .iconst 0, .ireturn, .iconst 1, .ireturn]
def K_Th_befall : List Instr := [.aload 0, .multianewarray 7 0, .multianewarray 0 0, .astore 2, .iload 1, .iconst 7, .idiv, .istore 3, .iload 1, .iconst 7, .irem, .tableswitch 69 0 3 #[12, 18, 24, 42], .aload 2, .iload 3, .iconst 40, .irem, .invokestatic 34, .goto 76, .aload 2, .iload 3, .iconst 40, .irem, .invokestatic 35, .goto 76, .aload 0, .multianewarray 7 0, .multianewarray 0 5, .ifCond .le 76, .aload 2, .aload 0, .multianewarray 7 2, .iload 1, .aload 0, .multianewarray 7 0, .multianewarray 0 5, .irem, .iload 3, .iconst 8, .irem, .invokestatic 11, .invokeinterface 3 0, .goto 76, .aload 2, .multianewarray 3 1, .ifCond .le 76, .aload 2, .iload 1, .aload 2, .multianewarray 3 1, .irem, .iload 3, .iconst 4, .irem, .invokestatic 39, .ifCond .eq 76, .aload 2, .iload 1, .aload 2, .multianewarray 3 1, .irem, .iload 3, .iconst 4, .irem, .aload 0, .multianewarray 7 0, .multianewarray 0 4, .invokestatic 40, .pop, .goto 76, .aload 2, .multianewarray 3 5, .iconst 9999, .if_icmp .ge 76, .aload 0, .aload 2, .invokestatic 167, .return_]
def K_Th_saysAll : List Instr := [.iconst 0, .istore 2, .iload 2, .aload 0, .multianewarray 7 0, .multianewarray 0 8, .if_icmp .ge 29, .aload 0, .multianewarray 7 6, .aload 1, .aload 0, .multianewarray 7 0, .multianewarray 0 0, .aload 0, .multianewarray 7 0, .multianewarray 0 9, .iload 2, .iaload, .invokestatic 19, .aload 0, .multianewarray 7 0, .multianewarray 0 10, .iload 2, .iaload, .if_icmp .eq 27, .iconst 0, .ireturn, .iinc 2 1, .goto 2, .iconst 1, .ireturn]
def K_Mo_copy : List Instr := [.iconst 0, .istore 2, .iload 2, .iconst 1466, .if_icmp .ge 13, .aload 1, .iload 2, .aload 0, .iload 2, .iaload, .iastore, .iinc 2 1, .goto 2, .return_]
def K_Mo_isIn : List Instr := [.iload 0, .iload 1, .if_icmp .lt 8, .iload 0, .iload 2, .if_icmp .gt 8, .iconst 1, .goto 9, .iconst 0, .ireturn]
def K_Mo_held : List Instr := [.lload 0, .iload 2, .i2l, .lcmp, .ifCond .ge 7, .iload 2, .goto 16, .lload 0, .iload 3, .i2l, .lcmp, .ifCond .le 14, .iload 3, .goto 16, .lload 0, .l2i, .ireturn]
def K_Mo_size : List Instr := [.iload 0, .ifCond .ge 5, .iload 0, .ineg, .goto 6, .iload 0, .ireturn]
def K_Mo_has : List Instr := [.iload 0, .iload 1, .ishr, .iconst 1, .iand, .iconst 1, .if_icmp .ne 9, .iconst 1, .goto 10, .iconst 0, .ireturn]
def K_Mo_bits : List Instr := [.iconst 0, .istore 1, .iload 0, .istore 2, .iload 2, .ifCond .eq 14, .iinc 1 1, .iload 2, .iload 2, .iconst 1, .isub, .iand, .istore 2, .goto 4, .iload 1, .ireturn]
def K_Mo_isCell : List Instr := [.iload 0, .iconst 0, .iconst 24, .invokestatic 172, .ireturn]
def K_Mo_isHedge : List Instr := [.iload 0, .iconst 0, .iconst 39, .invokestatic 172, .ireturn]
def K_Mo_isRim : List Instr := [.iload 0, .iconst 5, .idiv, .ifCond .eq 18, .iload 0, .iconst 5, .idiv, .iconst 4, .if_icmp .eq 18, .iload 0, .iconst 5, .irem, .ifCond .eq 18, .iload 0, .iconst 5, .irem, .iconst 4, .if_icmp .ne 20, .iconst 1, .goto 21, .iconst 0, .ireturn]
def K_Mo_isHand : List Instr := [.iload 1, .iconst 0, .aload 0, .multianewarray 8 0, .iconst 0, .iaload, .iconst 1, .isub, .invokestatic 172, .ireturn]
def K_Mo_isCow : List Instr := [.iload 1, .iconst 0, .aload 0, .multianewarray 8 0, .iconst 1, .iaload, .iconst 1, .isub, .invokestatic 172, .ireturn]
def K_Mo_beside : List Instr := [.iload 1, .tableswitch 31 0 2 #[2, 11, 22], .iload 0, .iconst 5, .if_icmp .lt 9, .iload 0, .iconst 5, .isub, .goto 10, .iconst (-1), .ireturn, .iload 0, .iconst 5, .irem, .iconst 4, .if_icmp .ge 20, .iload 0, .iconst 1, .iadd, .goto 21, .iconst (-1), .ireturn, .iload 0, .iconst 20, .if_icmp .ge 29, .iload 0, .iconst 5, .iadd, .goto 30, .iconst (-1), .ireturn, .iload 0, .iconst 5, .irem, .ifCond .le 39, .iload 0, .iconst 1, .isub, .goto 40, .iconst (-1), .ireturn]
def K_Mo_hedgeOf : List Instr := [.iload 0, .iload 1, .if_icmp .ge 5, .iload 0, .goto 6, .iload 1, .istore 2, .iload 0, .iload 1, .isub, .invokestatic 174, .iconst 1, .if_icmp .ne 23, .iconst 4, .iload 2, .iconst 5, .idiv, .imul, .iload 2, .iconst 5, .irem, .iadd, .goto 26, .iconst 20, .iload 2, .iadd, .ireturn]
def K_Mo_westOf : List Instr := [.iload 0, .iconst 20, .if_icmp .ge 13, .iconst 5, .iload 0, .iconst 4, .idiv, .imul, .iload 0, .iconst 4, .irem, .iadd, .goto 16, .iload 0, .iconst 20, .isub, .ireturn]
def K_Mo_eastOf : List Instr := [.iload 0, .invokestatic 184, .iload 0, .iconst 20, .if_icmp .ge 7, .iconst 1, .goto 8, .iconst 5, .iadd, .ireturn]
def K_Mo_cellTurned : List Instr := [.iload 0, .iconst 5, .idiv, .istore 2, .iload 1, .iconst 4, .if_icmp .ge 11, .iload 0, .iconst 5, .irem, .goto 16, .iconst 4, .iload 0, .iconst 5, .irem, .isub, .istore 3, .iconst 0, .istore 4, .iload 4, .iload 1, .iconst 4, .irem, .if_icmp .ge 34, .iload 2, .istore 5, .iload 3, .istore 2, .iconst 4, .iload 5, .isub, .istore 3, .iinc 4 1, .goto 19, .iconst 5, .iload 2, .imul, .iload 3, .iadd, .ireturn]
def K_Mo_layTurns : List Instr := [.iconst 0, .istore 1, .iload 1, .iconst 8, .if_icmp .ge 31, .iconst 0, .istore 2, .iload 2, .iconst 40, .if_icmp .ge 29, .aload 0, .multianewarray 8 3, .iconst 40, .iload 1, .imul, .iload 2, .invokestatic 184, .iload 1, .invokestatic 186, .iload 2, .invokestatic 185, .iload 1, .invokestatic 186, .invokestatic 183, .iadd, .iload 2, .iastore, .iinc 2 1, .goto 7, .iinc 1 1, .goto 2, .return_]
def K_Mo_isThere : List Instr := [.iload 1, .iconst 20, .if_icmp .ge 10, .aload 0, .multianewarray 8 0, .iconst 8, .iaload, .iload 1, .invokestatic 175, .goto 18, .aload 0, .multianewarray 8 0, .iconst 9, .iaload, .iload 1, .iconst 20, .isub, .invokestatic 175, .ireturn]
def K_Mo_change : List Instr := [.iload 1, .iconst 20, .if_icmp .ge 14, .aload 0, .multianewarray 8 0, .iconst 8, .dup2, .iaload, .iconst 1, .iload 1, .ishl, .ixor, .iastore, .goto 26, .aload 0, .multianewarray 8 0, .iconst 9, .dup2, .iaload, .iconst 1, .iload 1, .iconst 20, .isub, .ishl, .ixor, .iastore, .return_]
def K_Mo_isOpen : List Instr := [.iload 1, .iload 2, .invokestatic 182, .iconst (-1), .if_icmp .eq 15, .aload 0, .iload 1, .iload 1, .iload 2, .invokestatic 182, .invokestatic 183, .invokestatic 188, .ifCond .ne 15, .iconst 1, .goto 16, .iconst 0, .ireturn]
def K_Mo_openOf : List Instr := [.iconst 0, .istore 2, .iconst 0, .istore 3, .iload 3, .iconst 4, .if_icmp .ge 22, .iload 2, .aload 0, .iload 1, .iload 3, .invokestatic 190, .ifCond .eq 17, .iconst 1, .iload 3, .ishl, .goto 18, .iconst 0, .ior, .istore 2, .iinc 3 1, .goto 4, .iload 2, .ireturn]
def K_Mo_aroundOf : List Instr := [.iconst 0, .istore 2, .iconst 0, .istore 3, .iload 3, .iconst 4, .if_icmp .ge 25, .iload 2, .iload 1, .iload 3, .invokestatic 182, .iconst (-1), .if_icmp .eq 20, .aload 0, .iload 1, .iload 3, .invokestatic 190, .ifCond .ne 20, .iconst 1, .goto 21, .iconst 0, .iadd, .istore 2, .iinc 3 1, .goto 4, .iload 2, .ireturn]
def K_Mo_allNow : List Instr := [.aload 0, .multianewarray 8 0, .iconst 8, .iaload, .invokestatic 176, .aload 0, .multianewarray 8 0, .iconst 9, .iaload, .invokestatic 176, .iadd, .ireturn]
def K_Mo_cellOf : List Instr := [.aload 0, .multianewarray 8 0, .iconst 11, .iconst 2, .iload 1, .imul, .iadd, .iaload, .ireturn]
def K_Mo_wayOf : List Instr := [.aload 0, .multianewarray 8 0, .iconst 11, .iconst 2, .iload 1, .imul, .iadd, .iconst 1, .iadd, .iaload, .ireturn]
def K_Mo_put : List Instr := [.aload 0, .multianewarray 8 0, .iconst 11, .iconst 2, .iload 1, .imul, .iadd, .iload 2, .iastore, .aload 0, .multianewarray 8 0, .iconst 11, .iconst 2, .iload 1, .imul, .iadd, .iconst 1, .iadd, .iload 3, .iastore, .return_]
def K_Mo_hand : List Instr := [.iload 1, .iconst 0, .iconst 1048575, .invokestatic 172, .ifCond .eq 16, .iload 2, .iconst 0, .iconst 1048575, .invokestatic 172, .ifCond .eq 16, .aload 0, .multianewarray 8 0, .iconst 0, .iaload, .iconst 4, .if_icmp .ne 18, .iconst (-1), .ireturn, .aload 0, .multianewarray 8 0, .iconst 32, .iconst 2, .aload 0, .multianewarray 8 0, .iconst 0, .iaload, .imul, .iadd, .iload 1, .iastore, .aload 0, .multianewarray 8 0, .iconst 32, .iconst 2, .aload 0, .multianewarray 8 0, .iconst 0, .iaload, .imul, .iadd, .iconst 1, .iadd, .iload 2, .iastore, .aload 0, .multianewarray 8 0, .iconst 0, .dup2, .iaload, .iconst 1, .iadd, .iastore, .aload 0, .multianewarray 8 0, .iconst 0, .iaload, .iconst 1, .isub, .ireturn]
def K_Mo_cow : List Instr := [.iload 1, .invokestatic 177, .ifCond .eq 14, .iload 2, .iconst 0, .iconst 3, .invokestatic 172, .ifCond .eq 14, .aload 0, .multianewarray 8 0, .iconst 1, .iaload, .iconst 5, .if_icmp .ne 16, .iconst (-1), .ireturn, .aload 0, .multianewarray 8 0, .iconst 1, .iaload, .istore 3, .aload 0, .multianewarray 8 0, .iconst 21, .iconst 2, .iload 3, .imul, .iadd, .iload 1, .iastore, .aload 0, .multianewarray 8 0, .iconst 21, .iconst 2, .iload 3, .imul, .iadd, .iconst 1, .iadd, .iload 2, .iastore, .aload 0, .iload 3, .iload 1, .iload 2, .invokestatic 196, .aload 0, .multianewarray 8 0, .iconst 1, .dup2, .iaload, .iconst 1, .iadd, .iastore, .iload 3, .ireturn]
def K_Mo_gate : List Instr := [.iload 1, .invokestatic 177, .ifCond .eq 6, .iload 1, .invokestatic 179, .ifCond .ne 8, .iconst 0, .ireturn, .aload 0, .multianewarray 8 0, .iconst 31, .iload 2, .ifCond .eq 22, .aload 0, .multianewarray 8 0, .iconst 31, .iaload, .iconst 1, .iload 1, .ishl, .ior, .goto 32, .aload 0, .multianewarray 8 0, .iconst 31, .iaload, .iconst 1, .iload 1, .ishl, .iconst (-1), .ixor, .iand, .iastore, .iconst 1, .ireturn]
def K_Mo_four : List Instr := [.iconst 24, .istore 2, .iload 2, .ifCond .lt 22, .aload 0, .multianewarray 8 4, .aload 0, .multianewarray 8 5, .iload 1, .iload 2, .ishr, .iconst 255, .iand, .iastore, .aload 0, .dup, .multianewarray 8 5, .iconst 1, .iadd, .invokeinterface 8 5, .iinc 2 (-8), .goto 2, .return_]
def K_Mo_feed : List Instr := [.aload 0, .multianewarray 8 5, .iconst 20, .iadd, .iconst 300, .if_icmp .le 8, .iconst (-1), .ireturn, .aload 0, .iload 1, .invokestatic 200, .aload 0, .iload 2, .invokestatic 200, .aload 0, .iload 3, .invokestatic 200, .aload 0, .iload 4, .invokestatic 200, .aload 0, .iload 5, .invokestatic 200, .aload 0, .multianewarray 8 5, .ireturn]
def K_Mo_end : List Instr := [.iload 1, .iconst 0, .aload 0, .multianewarray 8 5, .invokestatic 172, .ifCond .ne 8, .iconst (-1), .ireturn, .aload 0, .iload 1, .invokeinterface 8 5, .iload 1, .ireturn]
def K_Mo_byteAt : List Instr := [.iload 1, .aload 0, .multianewarray 8 5, .if_icmp .ge 9, .aload 0, .multianewarray 8 4, .iload 1, .iaload, .goto 10, .iconst (-1), .ireturn]
def K_Mo_isLetterByte : List Instr := [.iload 0, .iconst 97, .if_icmp .lt 6, .iload 0, .iconst 122, .if_icmp .le 12, .iload 0, .iconst 65, .if_icmp .lt 14, .iload 0, .iconst 90, .if_icmp .gt 14, .iconst 1, .goto 15, .iconst 0, .ireturn]
def K_Mo_isFigure : List Instr := [.iload 0, .iconst 48, .if_icmp .lt 8, .iload 0, .iconst 57, .if_icmp .gt 8, .iconst 1, .goto 9, .iconst 0, .ireturn]
def K_Mo_isSign : List Instr := [.iload 0, .tableswitch 4 35 62 #[2, 4, 4, 4, 4, 2, 2, 2, 2, 4, 2, 4, 2, 4, 4, 4, 4, 4, 4, 4, 4, 4, 4, 2, 2, 2, 2, 2], .iconst 1, .ireturn, .iconst 0, .ireturn]
def K_Mo_nextToken : List Instr := [.aload 0, .aload 0, .multianewarray 8 8, .invokestatic 203, .iconst 32, .if_icmp .eq 12, .aload 0, .aload 0, .multianewarray 8 8, .invokestatic 203, .iconst 10, .if_icmp .ne 19, .aload 0, .dup, .multianewarray 8 8, .iconst 1, .iadd, .invokeinterface 8 8, .goto 0, .aload 0, .aload 0, .multianewarray 8 8, .invokeinterface 8 9, .aload 0, .aload 0, .multianewarray 8 8, .invokestatic 203, .istore 1, .iload 1, .ifCond .ge 34, .aload 0, .iconst 0, .invokeinterface 8 10, .goto 159, .iload 1, .invokestatic 205, .ifCond .eq 76, .aload 0, .iconst 1, .invokeinterface 8 10, .aload 0, .iconst 0, .invokeinterface 8 11, .aload 0, .aload 0, .multianewarray 8 8, .invokestatic 203, .invokestatic 205, .ifCond .eq 159, .aload 0, .aload 0, .multianewarray 8 11, .iconst 99999, .if_icmp .le 57, .aload 0, .multianewarray 8 11, .goto 68, .iconst 10, .aload 0, .multianewarray 8 11, .imul, .aload 0, .aload 0, .multianewarray 8 8, .invokestatic 203, .iadd, .iconst 48, .isub, .invokeinterface 8 11, .aload 0, .dup, .multianewarray 8 8, .iconst 1, .iadd, .invokeinterface 8 8, .goto 43, .iload 1, .invokestatic 204, .ifCond .eq 119, .aload 0, .iconst 2, .invokeinterface 8 10, .aload 0, .bipush 0, .invokeinterface 8 12, .aload 0, .aload 0, .multianewarray 8 8, .invokestatic 203, .invokestatic 204, .ifCond .eq 159, .aload 0, .aload 0, .multianewarray 8 12, .iconst 48, .lshr, .bipush 0, .lcmp, .ifCond .eq 101, .bipush 1152921504606846976, .goto 111, .aload 0, .multianewarray 8 12, .iconst 8, .lshl, .aload 0, .aload 0, .multianewarray 8 8, .invokestatic 203, .i2l, .lor, .invokeinterface 8 12, .aload 0, .dup, .multianewarray 8 8, .iconst 1, .iadd, .invokeinterface 8 8, .goto 85, .aload 0, .iload 1, .invokestatic 206, .ifCond .eq 125, .iload 1, .goto 126, .iconst 3, .invokeinterface 8 10, .aload 0, .dup, .multianewarray 8 8, .iconst 1, .iadd, .invokeinterface 8 8, .iload 1, .iconst 60, .if_icmp .eq 139, .iload 1, .iconst 62, .if_icmp .ne 159, .aload 0, .aload 0, .multianewarray 8 8, .invokestatic 203, .iconst 61, .if_icmp .ne 159, .aload 0, .iload 1, .iconst 60, .if_icmp .ne 151, .iconst 4, .goto 152, .iconst 5, .invokeinterface 8 10, .aload 0, .dup, .multianewarray 8 8, .iconst 1, .iadd, .invokeinterface 8 8, .return_]
def K_Mo_w2 : List Instr := [.iload 0, .i2l, .iconst 8, .lshl, .iload 1, .i2l, .lor, .lreturn]
def K_Mo_w3 : List Instr := [.iload 0, .iload 1, .invokestatic 208, .iconst 8, .lshl, .iload 2, .i2l, .lor, .lreturn]
def K_Mo_w4 : List Instr := [.iload 0, .iload 1, .iload 2, .invokestatic 209, .iconst 8, .lshl, .iload 3, .i2l, .lor, .lreturn]
def K_Mo_w5 : List Instr := [.iload 0, .iload 1, .iload 2, .iload 3, .invokestatic 210, .iconst 8, .lshl, .iload 4, .i2l, .lor, .lreturn]
def K_Mo_w6 : List Instr := [.iload 0, .iload 1, .iload 2, .iload 3, .iload 4, .invokestatic 211, .iconst 8, .lshl, .iload 5, .i2l, .lor, .lreturn]
def K_Mo_isWord : List Instr := [.aload 0, .multianewarray 8 10, .iconst 2, .if_icmp .ne 11, .aload 0, .multianewarray 8 12, .lload 1, .lcmp, .ifCond .ne 11, .iconst 1, .goto 12, .iconst 0, .ireturn]
def K_Mo_emit : List Instr := [.aload 0, .multianewarray 8 2, .aload 0, .multianewarray 8 13, .iconst 73, .iadd, .iconst 2, .aload 0, .multianewarray 8 14, .imul, .iadd, .iload 1, .iastore, .aload 0, .multianewarray 8 2, .aload 0, .multianewarray 8 13, .iconst 73, .iadd, .iconst 2, .aload 0, .multianewarray 8 14, .imul, .iadd, .iconst 1, .iadd, .iload 2, .iastore, .aload 0, .dup, .multianewarray 8 14, .iconst 1, .iadd, .invokeinterface 8 14, .return_]
def K_Mo_nameOf : List Instr := [.aload 0, .multianewarray 8 10, .iconst 2, .if_icmp .eq 6, .iconst (-1), .ireturn, .aload 0, .multianewarray 8 12, .iconst 104, .iconst 111, .iconst 117, .iconst 114, .invokestatic 210, .lcmp, .ifCond .ne 17, .iconst 0, .ireturn, .aload 0, .multianewarray 8 12, .iconst 99, .iconst 101, .iconst 108, .iconst 108, .invokestatic 210, .lcmp, .ifCond .ne 28, .iconst 1, .ireturn, .aload 0, .multianewarray 8 12, .iconst 97, .iconst 114, .iconst 111, .iconst 117, .iconst 110, .iconst 100, .invokestatic 212, .lcmp, .ifCond .ne 41, .iconst 2, .ireturn, .aload 0, .multianewarray 8 12, .iconst 97, .iconst 108, .iconst 108, .invokestatic 209, .lcmp, .ifCond .ne 51, .iconst 3, .ireturn, .aload 0, .multianewarray 8 12, .iconst 110, .iconst 117, .iconst 109, .iconst 98, .iconst 101, .iconst 114, .invokestatic 212, .lcmp, .ifCond .ne 64, .iconst 4, .ireturn, .aload 0, .multianewarray 8 12, .iconst 119, .iconst 104, .iconst 111, .invokestatic 209, .lcmp, .ifCond .ne 74, .iconst 5, .goto 85, .aload 0, .multianewarray 8 12, .iconst 119, .iconst 97, .iconst 121, .invokestatic 209, .lcmp, .ifCond .ne 84, .iconst 6, .goto 85, .iconst (-1), .ireturn]
def K_Mo_isOf : List Instr := [.iload 1, .iconst 4, .if_icmp .lt 14, .iload 1, .iconst 4, .if_icmp .ne 10, .aload 0, .multianewarray 8 15, .ifCond .ne 16, .goto 14, .aload 0, .multianewarray 8 15, .iconst 1, .if_icmp .ne 16, .iconst 1, .goto 17, .iconst 0, .ireturn]
def K_Mo_rank : List Instr := [.iload 0, .iconst 40, .if_icmp .lt 5, .iconst 0, .goto 42, .iload 0, .iconst 22, .if_icmp .ne 10, .iconst 1, .goto 42, .iload 0, .iconst 21, .if_icmp .ne 15, .iconst 2, .goto 42, .iload 0, .iconst 20, .if_icmp .ne 20, .iconst 3, .goto 42, .iload 0, .iconst 10, .if_icmp .lt 25, .iconst 4, .goto 42, .iload 0, .iconst 5, .if_icmp .eq 34, .iload 0, .iconst 2, .if_icmp .eq 34, .iload 0, .iconst 4, .if_icmp .ne 36, .iconst 7, .goto 42, .iload 0, .iconst 8, .if_icmp .lt 41, .iconst 6, .goto 42, .iconst 5, .ireturn]
def K_Mo_settle : List Instr := [.aload 0, .multianewarray 8 17, .ifCond .le 49, .aload 0, .multianewarray 8 16, .aload 0, .multianewarray 8 17, .iconst 1, .isub, .iaload, .invokestatic 217, .iload 1, .if_icmp .lt 49, .aload 0, .dup, .multianewarray 8 17, .iconst 1, .isub, .invokeinterface 8 17, .aload 0, .aload 0, .multianewarray 8 16, .aload 0, .multianewarray 8 17, .iaload, .iconst 0, .invokestatic 214, .aload 0, .multianewarray 8 16, .aload 0, .multianewarray 8 17, .iaload, .invokestatic 217, .iconst 7, .if_icmp .eq 42, .aload 0, .multianewarray 8 16, .aload 0, .multianewarray 8 17, .iaload, .iconst 20, .if_icmp .ne 0, .aload 0, .dup, .multianewarray 8 18, .iconst 1, .isub, .invokeinterface 8 18, .goto 0, .return_]
def K_Mo_openAt : List Instr := [.aload 0, .multianewarray 8 17, .iconst 1, .isub, .istore 1, .iload 1, .ifCond .lt 15, .aload 0, .multianewarray 8 16, .iload 1, .iaload, .iconst 40, .if_icmp .ge 15, .iinc 1 (-1), .goto 5, .iload 1, .ireturn]
def K_Mo_openNow : List Instr := [.aload 0, .invokestatic 219, .ifCond .ge 5, .iconst (-1), .goto 10, .aload 0, .multianewarray 8 16, .aload 0, .invokestatic 219, .iaload, .ireturn]
def K_Mo_isCompared : List Instr := [.aload 0, .multianewarray 8 17, .iconst 1, .isub, .istore 1, .iload 1, .ifCond .lt 16, .aload 0, .multianewarray 8 16, .iload 1, .iaload, .invokestatic 217, .iconst 4, .if_icmp .le 16, .iinc 1 (-1), .goto 5, .iload 1, .ifCond .lt 27, .aload 0, .multianewarray 8 16, .iload 1, .iaload, .invokestatic 217, .iconst 4, .if_icmp .ne 27, .iconst 1, .goto 28, .iconst 0, .ireturn]
def K_Mo_isAskAhead : List Instr := [.aload 0, .invokestatic 220, .iconst 42, .if_icmp .ne 27, .aload 0, .multianewarray 8 16, .aload 0, .multianewarray 8 17, .iconst 1, .isub, .iaload, .iconst 40, .if_icmp .ge 25, .aload 0, .multianewarray 8 16, .aload 0, .multianewarray 8 17, .iconst 1, .isub, .iaload, .invokestatic 217, .iconst 1, .iconst 3, .invokestatic 172, .ifCond .eq 27, .iconst 1, .goto 28, .iconst 0, .ireturn]
def K_Mo_opened : List Instr := [.aload 0, .multianewarray 8 18, .iconst 8, .if_icmp .ne 6, .iconst 3, .ireturn, .aload 0, .dup, .multianewarray 8 18, .iconst 1, .iadd, .invokeinterface 8 18, .aload 0, .multianewarray 8 16, .aload 0, .multianewarray 8 17, .iload 1, .iastore, .aload 0, .dup, .multianewarray 8 17, .iconst 1, .iadd, .invokeinterface 8 17, .aload 0, .invokestatic 207, .iconst 0, .ireturn]
def K_Mo_beginOne : List Instr := [.aload 0, .multianewarray 8 10, .iconst 1, .if_icmp .ne 10, .aload 0, .multianewarray 8 11, .iconst 9999, .if_icmp .le 10, .iconst 2, .ireturn, .aload 0, .invokestatic 215, .istore 1, .iload 1, .ifCond .lt 21, .aload 0, .iload 1, .invokestatic 216, .ifCond .ne 21, .iconst 5, .ireturn, .aload 0, .multianewarray 8 10, .iconst 1, .if_icmp .eq 27, .iload 1, .ifCond .lt 49, .aload 0, .aload 0, .multianewarray 8 10, .iconst 1, .if_icmp .ne 34, .iconst 0, .goto 35, .iconst 1, .aload 0, .multianewarray 8 10, .iconst 1, .if_icmp .ne 42, .aload 0, .multianewarray 8 11, .goto 43, .iload 1, .invokestatic 214, .aload 0, .invokestatic 207, .aload 0, .invokestatic 225, .ireturn, .aload 0, .multianewarray 8 10, .iconst 40, .if_icmp .ne 57, .aload 0, .iconst 40, .invokestatic 223, .ireturn, .aload 0, .multianewarray 8 10, .iconst 45, .if_icmp .ne 65, .aload 0, .iconst 5, .invokestatic 223, .ireturn, .aload 0, .iconst 102, .iconst 97, .iconst 114, .invokestatic 209, .invokestatic 213, .ifCond .eq 76, .aload 0, .iconst 41, .invokestatic 223, .ireturn, .aload 0, .iconst 104, .iconst 101, .iconst 100, .iconst 103, .iconst 101, .invokestatic 211, .invokestatic 213, .ifCond .eq 89, .aload 0, .iconst 2, .invokestatic 223, .ireturn, .aload 0, .iconst 105, .iconst 102, .invokestatic 208, .invokestatic 213, .ifCond .eq 99, .aload 0, .iconst 42, .invokestatic 223, .ireturn, .aload 0, .iconst 110, .iconst 111, .iconst 116, .invokestatic 209, .invokestatic 213, .ifCond .eq 113, .aload 0, .invokestatic 222, .ifCond .eq 113, .aload 0, .iconst 20, .invokestatic 223, .goto 114, .iconst 1, .ireturn]
def K_Mo_endOne : List Instr := [.aload 0, .iconst 7, .invokestatic 218, .aload 0, .iconst 1, .invokeinterface 8 19, .aload 0, .multianewarray 8 17, .ifCond .eq 18, .aload 0, .multianewarray 8 16, .aload 0, .multianewarray 8 17, .iconst 1, .isub, .iaload, .iconst 41, .if_icmp .eq 20, .iconst 0, .ireturn, .aload 0, .iconst 111, .iconst 102, .invokestatic 208, .invokestatic 213, .ifCond .ne 28, .iconst 1, .ireturn, .aload 0, .invokestatic 207, .aload 0, .multianewarray 8 16, .aload 0, .multianewarray 8 17, .iconst 1, .isub, .iconst 4, .iastore, .aload 0, .iconst 0, .invokeinterface 8 19, .iconst 0, .ireturn]
def K_Mo_compareOf : List Instr := [.aload 0, .multianewarray 8 10, .iconst 60, .if_icmp .ne 6, .iconst 10, .goto 37, .aload 0, .multianewarray 8 10, .iconst 4, .if_icmp .ne 12, .iconst 11, .goto 37, .aload 0, .multianewarray 8 10, .iconst 62, .if_icmp .ne 18, .iconst 12, .goto 37, .aload 0, .multianewarray 8 10, .iconst 5, .if_icmp .ne 24, .iconst 13, .goto 37, .aload 0, .multianewarray 8 10, .iconst 61, .if_icmp .ne 30, .iconst 14, .goto 37, .aload 0, .multianewarray 8 10, .iconst 35, .if_icmp .ne 36, .iconst 15, .goto 37, .iconst (-1), .ireturn]
def K_Mo_betweenOf : List Instr := [.aload 0, .multianewarray 8 10, .iconst 43, .if_icmp .ne 6, .iconst 6, .ireturn, .aload 0, .multianewarray 8 10, .iconst 45, .if_icmp .ne 12, .iconst 7, .ireturn, .aload 0, .multianewarray 8 10, .iconst 42, .if_icmp .ne 18, .iconst 8, .ireturn, .aload 0, .multianewarray 8 10, .iconst 47, .if_icmp .ne 24, .iconst 9, .ireturn, .aload 0, .invokestatic 220, .iconst 42, .if_icmp .eq 30, .iconst (-1), .ireturn, .aload 0, .invokestatic 221, .ifCond .ne 36, .aload 0, .invokestatic 226, .ireturn, .aload 0, .iconst 97, .iconst 110, .iconst 100, .invokestatic 209, .invokestatic 213, .ifCond .eq 45, .iconst 21, .goto 54, .aload 0, .iconst 111, .iconst 114, .invokestatic 208, .invokestatic 213, .ifCond .eq 53, .iconst 22, .goto 54, .iconst (-1), .ireturn]
def K_Mo_partOf : List Instr := [.iload 1, .tableswitch 48 40 44 #[2, 48, 10, 25, 37], .aload 0, .multianewarray 8 10, .iconst 41, .if_icmp .ne 8, .iconst 0, .goto 9, .iconst (-1), .ireturn, .aload 0, .iconst 116, .iconst 104, .iconst 101, .iconst 110, .invokestatic 210, .invokestatic 213, .ifCond .eq 23, .aload 0, .invokestatic 221, .ifCond .eq 23, .iconst 43, .goto 24, .iconst (-1), .ireturn, .aload 0, .iconst 101, .iconst 108, .iconst 115, .iconst 101, .invokestatic 210, .invokestatic 213, .ifCond .eq 35, .iconst 44, .goto 36, .iconst (-1), .ireturn, .aload 0, .iconst 101, .iconst 110, .iconst 100, .invokestatic 209, .invokestatic 213, .ifCond .eq 46, .iconst 0, .goto 47, .iconst (-1), .ireturn, .iconst (-1), .ireturn]
def K_Mo_behindOne : List Instr := [.aload 0, .invokestatic 227, .istore 1, .iload 1, .ifCond .lt 34, .aload 0, .iload 1, .invokestatic 217, .iconst 4, .if_icmp .ne 12, .iconst 5, .goto 14, .iload 1, .invokestatic 217, .invokestatic 218, .aload 0, .multianewarray 8 16, .aload 0, .multianewarray 8 17, .iload 1, .iastore, .aload 0, .dup, .multianewarray 8 17, .iconst 1, .iadd, .invokeinterface 8 17, .aload 0, .iconst 0, .invokeinterface 8 19, .aload 0, .invokestatic 207, .iconst 0, .ireturn, .aload 0, .invokestatic 220, .istore 2, .aload 0, .iload 2, .invokestatic 228, .istore 3, .iload 3, .ifCond .ge 45, .iconst (-1), .ireturn, .aload 0, .iconst 1, .invokestatic 218, .aload 0, .invokestatic 207, .iload 3, .ifCond .ne 74, .aload 0, .dup, .multianewarray 8 18, .iconst 1, .isub, .invokeinterface 8 18, .aload 0, .dup, .multianewarray 8 17, .iconst 1, .isub, .invokeinterface 8 17, .iload 2, .iconst 44, .if_icmp .ne 71, .aload 0, .iconst 3, .iconst 0, .invokestatic 214, .aload 0, .invokestatic 225, .ireturn, .aload 0, .multianewarray 8 16, .aload 0, .invokestatic 219, .iload 3, .iastore, .aload 0, .iconst 0, .invokeinterface 8 19, .iconst 0, .ireturn]
def K_Mo_summed : List Instr := [.aload 0, .iconst 0, .invokeinterface 8 17, .aload 0, .iconst 0, .invokeinterface 8 18, .aload 0, .iconst 0, .invokeinterface 8 19, .aload 0, .multianewarray 8 19, .ifCond .eq 15, .aload 0, .invokestatic 229, .goto 17, .aload 0, .invokestatic 224, .istore 1, .iload 1, .ifCond .le 22, .iload 1, .ireturn, .iload 1, .ifCond .ne 25, .goto 9, .aload 0, .invokestatic 220, .ifCond .lt 30, .iconst 1, .ireturn, .aload 0, .iconst 1, .invokestatic 218, .iconst 0, .ireturn]
def K_Mo_figure : List Instr := [.aload 0, .multianewarray 8 10, .iconst 1, .if_icmp .eq 6, .iconst 1, .ireturn, .aload 0, .multianewarray 8 11, .iload 2, .iload 3, .invokestatic 172, .ifCond .ne 14, .iconst 2, .ireturn, .aload 0, .multianewarray 8 2, .iload 1, .aload 0, .multianewarray 8 11, .iastore, .aload 0, .invokestatic 207, .iconst 0, .ireturn]
def K_Mo_lawClause : List Instr := [.aload 0, .multianewarray 8 2, .iload 1, .iconst 1, .iadd, .aload 0, .multianewarray 8 14, .iastore, .aload 0, .invokestatic 230, .istore 2, .aload 0, .multianewarray 8 2, .iload 1, .iconst 2, .iadd, .aload 0, .multianewarray 8 14, .iastore, .iload 2, .ireturn]
def K_Mo_pair : List Instr := [.aload 0, .iload 1, .iconst 1, .iadd, .iconst 0, .iload 2, .invokestatic 231, .istore 6, .iload 6, .ifCond .eq 12, .iload 6, .ireturn, .aload 0, .lload 3, .invokestatic 213, .ifCond .ne 18, .iconst 1, .ireturn, .aload 0, .invokestatic 207, .aload 0, .iload 1, .iconst 2, .iadd, .iconst 0, .iload 5, .invokestatic 231, .ireturn]
def K_Mo_body : List Instr := [.iload 1, .tableswitch 64 2 8 #[2, 12, 20, 28, 36, 47, 56], .aload 0, .iload 2, .iconst 24, .iconst 119, .iconst 97, .iconst 121, .invokestatic 209, .iconst 3, .invokestatic 233, .ireturn, .aload 0, .iload 2, .iconst 1, .iadd, .iconst 0, .iconst 24, .invokestatic 231, .ireturn, .aload 0, .iload 2, .iconst 1, .iadd, .iconst 0, .iconst 39, .invokestatic 231, .ireturn, .aload 0, .iload 2, .iconst 1, .iadd, .iconst 0, .iconst 39, .invokestatic 231, .ireturn, .aload 0, .iload 2, .iconst 3, .iconst 116, .iconst 117, .iconst 114, .iconst 110, .invokestatic 210, .iconst 7, .invokestatic 233, .ireturn, .aload 0, .iload 2, .iconst 3, .iconst 98, .iconst 121, .invokestatic 208, .iconst 4, .invokestatic 233, .ireturn, .aload 0, .iload 2, .iconst 1, .iadd, .iconst 1, .iconst 60, .invokestatic 231, .ireturn, .aload 0, .iload 2, .invokestatic 232, .ireturn]
def K_Mo_sortOf : List Instr := [.aload 0, .iconst 102, .iconst 114, .iconst 111, .iconst 115, .iconst 116, .iconst 115, .invokestatic 212, .invokestatic 213, .ifCond .eq 12, .iconst 0, .ireturn, .aload 0, .iconst 103, .iconst 111, .iconst 101, .iconst 115, .invokestatic 210, .invokestatic 213, .ifCond .eq 22, .iconst 1, .ireturn, .aload 0, .iconst 99, .iconst 111, .iconst 119, .invokestatic 209, .invokestatic 213, .ifCond .eq 31, .iconst 2, .ireturn, .aload 0, .iconst 103, .iconst 97, .iconst 116, .iconst 101, .invokestatic 210, .invokestatic 213, .ifCond .eq 41, .iconst 3, .ireturn, .aload 0, .iconst 112, .iconst 108, .iconst 97, .iconst 110, .iconst 116, .invokestatic 211, .invokestatic 213, .ifCond .eq 52, .iconst 4, .ireturn, .aload 0, .iconst 99, .iconst 117, .iconst 116, .invokestatic 209, .invokestatic 213, .ifCond .eq 61, .iconst 5, .ireturn, .aload 0, .iconst 112, .iconst 114, .iconst 101, .iconst 115, .iconst 115, .invokestatic 211, .invokestatic 213, .ifCond .eq 72, .iconst 6, .ireturn, .aload 0, .iconst 103, .iconst 111, .invokestatic 208, .invokestatic 213, .ifCond .eq 80, .iconst 7, .goto 91, .aload 0, .iconst 104, .iconst 111, .iconst 117, .iconst 114, .invokestatic 210, .invokestatic 213, .ifCond .eq 90, .iconst 8, .goto 91, .iconst (-1), .ireturn]
def K_Mo_clause : List Instr := [.aload 0, .invokestatic 235, .istore 1, .iload 1, .ifCond .ge 7, .iconst 1, .ireturn, .iload 1, .iconst 1, .if_icmp .gt 17, .aload 0, .multianewarray 8 20, .iload 1, .invokestatic 175, .ifCond .eq 17, .iconst 4, .ireturn, .aload 0, .multianewarray 8 2, .aload 0, .multianewarray 8 13, .iaload, .istore 2, .iload 2, .iconst 24, .if_icmp .ne 28, .iconst 6, .ireturn, .iload 1, .iconst 1, .if_icmp .gt 39, .aload 0, .dup, .multianewarray 8 20, .iconst 1, .iload 1, .ishl, .ior, .invokeinterface 8 20, .aload 0, .iload 1, .invokeinterface 8 15, .aload 0, .invokestatic 207, .aload 0, .multianewarray 8 13, .iconst 1, .iadd, .iconst 3, .iload 2, .imul, .iadd, .istore 3, .aload 0, .multianewarray 8 2, .iload 3, .iload 1, .iastore, .aload 0, .iload 1, .iload 3, .invokestatic 234, .istore 4, .iload 4, .ifCond .eq 67, .iload 4, .ireturn, .aload 0, .multianewarray 8 2, .aload 0, .multianewarray 8 13, .dup2, .iaload, .iconst 1, .iadd, .iastore, .aload 0, .multianewarray 8 10, .iconst 59, .if_icmp .eq 82, .iconst 1, .ireturn, .aload 0, .invokestatic 207, .iconst 0, .ireturn]
def K_Mo_readText : List Instr := [.aload 0, .iconst 681, .aload 0, .multianewarray 8 0, .iconst 2, .iaload, .imul, .invokeinterface 8 13, .aload 0, .multianewarray 8 2, .aload 0, .multianewarray 8 13, .iconst 0, .iastore, .aload 0, .iconst 0, .invokeinterface 8 14, .aload 0, .iconst 0, .invokeinterface 8 20, .aload 0, .iconst 0, .invokeinterface 8 8, .aload 0, .invokestatic 207, .aload 0, .multianewarray 8 10, .ifCond .eq 36, .aload 0, .invokestatic 236, .istore 1, .iload 1, .ifCond .eq 35, .iload 1, .ireturn, .goto 25, .iconst 0, .ireturn]
def K_Mo_text : List Instr := [.aload 0, .multianewarray 8 0, .iconst 2, .iaload, .iconst 4, .if_icmp .ne 8, .iconst (-1), .ireturn, .aload 0, .aload 0, .invokestatic 237, .invokeinterface 8 6, .aload 0, .aload 0, .multianewarray 8 6, .ifCond .ne 18, .iconst (-1), .goto 20, .aload 0, .multianewarray 8 9, .invokeinterface 8 7, .aload 0, .iconst 0, .invokeinterface 8 5, .aload 0, .multianewarray 8 6, .ifCond .eq 29, .iconst (-1), .ireturn, .aload 0, .multianewarray 8 0, .iconst 2, .dup2, .iaload, .iconst 1, .iadd, .iastore, .aload 0, .multianewarray 8 0, .iconst 2, .iaload, .iconst 1, .isub, .ireturn]
def K_Mo_fault : List Instr := [.iload 1, .ifCond .ne 5, .aload 0, .multianewarray 8 6, .goto 12, .iload 1, .iconst 1, .if_icmp .ne 11, .aload 0, .multianewarray 8 7, .goto 12, .iconst (-1), .ireturn]
def K_Mo_by : List Instr := [.iload 1, .iconst (-1), .aload 0, .multianewarray 8 0, .iconst 2, .iaload, .iconst 1, .isub, .invokestatic 172, .ifCond .ne 12, .iconst 0, .ireturn, .aload 0, .multianewarray 8 0, .iconst 3, .iload 1, .iastore, .iconst 1, .ireturn]
def K_Mo_clip : List Instr := [.lload 0, .bipush 1000000, .lcmp, .ifCond .le 6, .bipush 1000000, .goto 13, .lload 0, .bipush (-1000000), .lcmp, .ifCond .ge 12, .bipush (-1000000), .goto 13, .lload 0, .lreturn]
def K_Mo_two : List Instr := [.iload 0, .tableswitch 17 6 8 #[2, 7, 12], .lload 1, .lload 3, .ladd, .invokestatic 241, .lreturn, .lload 1, .lload 3, .lsub, .invokestatic 241, .lreturn, .lload 1, .lload 3, .lmul, .invokestatic 241, .lreturn, .lload 3, .bipush 0, .lcmp, .ifCond .ne 23, .bipush 0, .goto 27, .lload 1, .lload 3, .ldiv, .invokestatic 241, .lreturn]
def K_Mo_isAsked : List Instr := [.iload 0, .iconst 10, .if_icmp .ne 11, .lload 1, .lload 3, .lcmp, .ifCond .ge 9, .iconst 1, .goto 62, .iconst 0, .goto 62, .iload 0, .iconst 11, .if_icmp .ne 22, .lload 1, .lload 3, .lcmp, .ifCond .gt 20, .iconst 1, .goto 62, .iconst 0, .goto 62, .iload 0, .iconst 12, .if_icmp .ne 33, .lload 1, .lload 3, .lcmp, .ifCond .le 31, .iconst 1, .goto 62, .iconst 0, .goto 62, .iload 0, .iconst 13, .if_icmp .ne 44, .lload 1, .lload 3, .lcmp, .ifCond .lt 42, .iconst 1, .goto 62, .iconst 0, .goto 62, .iload 0, .iconst 14, .if_icmp .ne 55, .lload 1, .lload 3, .lcmp, .ifCond .ne 53, .iconst 1, .goto 62, .iconst 0, .goto 62, .lload 1, .lload 3, .lcmp, .ifCond .eq 61, .iconst 1, .goto 62, .iconst 0, .ireturn]
def K_Mo_hedgeThere : List Instr := [.lload 1, .bipush 0, .lcmp, .ifCond .lt 15, .lload 1, .bipush 40, .lcmp, .ifCond .ge 15, .aload 0, .lload 1, .l2i, .invokestatic 188, .ifCond .eq 15, .bipush 1, .goto 16, .bipush 0, .lreturn]
def K_Mo_apart : List Instr := [.iload 0, .iconst 5, .idiv, .iload 1, .iconst 5, .idiv, .isub, .invokestatic 174, .iload 0, .iconst 5, .irem, .iload 1, .iconst 5, .irem, .isub, .invokestatic 174, .iadd, .ireturn]
def K_Mo_farOf : List Instr := [.lload 0, .bipush 0, .lcmp, .ifCond .lt 16, .lload 0, .bipush 25, .lcmp, .ifCond .ge 16, .lload 2, .bipush 0, .lcmp, .ifCond .lt 16, .lload 2, .bipush 25, .lcmp, .ifCond .lt 18, .bipush 0, .goto 24, .lload 0, .l2i, .lload 2, .l2i, .invokestatic 245, .i2l, .lreturn]
def K_Mo_joined : List Instr := [.iload 0, .iconst 21, .if_icmp .ne 11, .iload 1, .ifCond .eq 9, .iload 2, .ifCond .eq 9, .iconst 1, .goto 18, .iconst 0, .goto 18, .iload 1, .ifCond .ne 15, .iload 2, .ifCond .eq 17, .iconst 1, .goto 18, .iconst 0, .ireturn]
def K_Mo_summedUp : List Instr := [.iconst 681, .iload 1, .imul, .iconst 1, .iadd, .iconst 3, .iload 2, .imul, .iadd, .istore 3, .iconst 681, .iload 1, .imul, .iconst 73, .iadd, .istore 4, .iconst 0, .istore 5, .iconst 0, .istore 6, .aload 0, .multianewarray 8 2, .iload 3, .iconst 1, .iadd, .iaload, .istore 7, .iload 7, .aload 0, .multianewarray 8 2, .iload 3, .iconst 2, .iadd, .iaload, .if_icmp .ge 228, .aload 0, .multianewarray 8 2, .iload 4, .iconst 2, .iload 7, .imul, .iadd, .iaload, .istore 8, .aload 0, .multianewarray 8 2, .iload 4, .iconst 2, .iload 7, .imul, .iadd, .iconst 1, .iadd, .iaload, .istore 9, .iload 8, .iconst 1, .if_icmp .gt 74, .aload 0, .multianewarray 8 22, .iload 5, .iload 8, .ifCond .ne 66, .iload 9, .i2l, .goto 71, .aload 0, .multianewarray 8 21, .iload 9, .iaload, .i2l, .lastore, .iinc 5 1, .goto 226, .iload 8, .iconst 3, .if_icmp .ne 95, .iinc 5 (-1), .iinc 6 (-1), .aload 0, .multianewarray 8 23, .iload 6, .baload, .ifCond .ne 226, .aload 0, .multianewarray 8 22, .iload 5, .iconst 1, .isub, .aload 0, .multianewarray 8 22, .iload 5, .laload, .lastore, .goto 226, .iload 8, .iconst 5, .if_icmp .eq 101, .iload 8, .iconst 2, .if_icmp .ne 127, .aload 0, .multianewarray 8 22, .iload 5, .iconst 1, .isub, .iload 8, .iconst 5, .if_icmp .ne 117, .aload 0, .multianewarray 8 22, .iload 5, .iconst 1, .isub, .laload, .lneg, .goto 125, .aload 0, .aload 0, .multianewarray 8 22, .iload 5, .iconst 1, .isub, .laload, .invokestatic 244, .lastore, .goto 226, .iload 8, .iconst 10, .if_icmp .ge 165, .iinc 5 (-1), .aload 0, .multianewarray 8 22, .iload 5, .iconst 1, .isub, .iload 8, .iconst 4, .if_icmp .ne 151, .aload 0, .multianewarray 8 22, .iload 5, .iconst 1, .isub, .laload, .aload 0, .multianewarray 8 22, .iload 5, .laload, .invokestatic 246, .goto 163, .iload 8, .aload 0, .multianewarray 8 22, .iload 5, .iconst 1, .isub, .laload, .aload 0, .multianewarray 8 22, .iload 5, .laload, .invokestatic 242, .lastore, .goto 226, .iload 8, .iconst 20, .if_icmp .ge 187, .iinc 5 (-2), .aload 0, .multianewarray 8 23, .iload 6, .iload 8, .aload 0, .multianewarray 8 22, .iload 5, .laload, .aload 0, .multianewarray 8 22, .iload 5, .iconst 1, .iadd, .laload, .invokestatic 243, .bastore, .iinc 6 1, .goto 226, .iload 8, .iconst 20, .if_icmp .ne 207, .aload 0, .multianewarray 8 23, .iload 6, .iconst 1, .isub, .aload 0, .multianewarray 8 23, .iload 6, .iconst 1, .isub, .baload, .ifCond .ne 204, .iconst 1, .goto 205, .iconst 0, .bastore, .goto 226, .iinc 6 (-1), .aload 0, .multianewarray 8 23, .iload 6, .iconst 1, .isub, .iload 8, .aload 0, .multianewarray 8 23, .iload 6, .iconst 1, .isub, .baload, .aload 0, .multianewarray 8 23, .iload 6, .baload, .invokestatic 247, .bastore, .iinc 7 1, .goto 27, .aload 0, .multianewarray 8 22, .iconst 0, .laload, .lreturn]
def K_Mo_says : List Instr := [.iconst 0, .istore 6, .iload 1, .ifCond .lt 36, .iload 6, .aload 0, .multianewarray 8 2, .iconst 681, .iload 1, .imul, .iaload, .if_icmp .ge 36, .aload 0, .multianewarray 8 2, .iconst 681, .iload 1, .imul, .iconst 1, .iadd, .iconst 3, .iload 6, .imul, .iadd, .iaload, .iload 2, .if_icmp .ne 34, .aload 0, .iload 1, .iload 6, .invokestatic 248, .iload 4, .iload 5, .invokestatic 173, .ireturn, .iinc 6 1, .goto 2, .iload 3, .ireturn]
def K_Mo_name : List Instr := [.aload 0, .multianewarray 8 21, .iconst 0, .aload 0, .multianewarray 8 0, .iconst 6, .iaload, .iastore, .aload 0, .multianewarray 8 21, .iconst 1, .iload 1, .iastore, .aload 0, .multianewarray 8 21, .iconst 2, .aload 0, .iload 1, .invokestatic 192, .iastore, .aload 0, .multianewarray 8 21, .iconst 3, .aload 0, .invokestatic 193, .iastore, .return_]
def K_Mo_frostsOf : List Instr := [.aload 0, .iload 2, .invokestatic 184, .invokestatic 250, .aload 0, .multianewarray 8 21, .iconst 4, .iload 2, .iastore, .aload 0, .iload 1, .iconst 0, .iconst 3, .iconst 0, .iconst 10, .invokestatic 249, .ireturn]
def K_Mo_goesOf : List Instr := [.aload 0, .aload 0, .iload 1, .invokestatic 194, .invokestatic 250, .aload 0, .multianewarray 8 21, .iconst 5, .iload 1, .iastore, .aload 0, .multianewarray 8 21, .iconst 6, .aload 0, .iload 1, .invokestatic 195, .iastore, .aload 0, .aload 0, .multianewarray 8 0, .iconst 3, .iaload, .iconst 1, .iconst 1, .iconst (-99), .iconst 99, .invokestatic 249, .ireturn]
def K_Mo_write : List Instr := [.aload 0, .multianewarray 8 24, .ifCond .ne 4, .return_, .aload 0, .multianewarray 8 0, .iconst 10, .iaload, .iconst 30, .if_icmp .ne 39, .iconst 1, .istore 3, .iload 3, .iconst 30, .if_icmp .ge 31, .aload 0, .multianewarray 8 0, .iconst 1436, .iload 3, .iadd, .iconst 1, .isub, .aload 0, .multianewarray 8 0, .iconst 1436, .iload 3, .iadd, .iaload, .iastore, .iinc 3 1, .goto 12, .aload 0, .multianewarray 8 0, .iconst 10, .dup2, .iaload, .iconst 1, .isub, .iastore, .aload 0, .multianewarray 8 0, .iconst 1436, .aload 0, .multianewarray 8 0, .iconst 10, .iaload, .iadd, .aload 0, .multianewarray 8 0, .iconst 6, .iaload, .iconst 2, .imul, .iload 1, .iadd, .iconst 40, .imul, .iload 2, .iadd, .iastore, .aload 0, .multianewarray 8 0, .iconst 10, .dup2, .iaload, .iconst 1, .iadd, .iastore, .return_]
def K_Mo_drawnBy : List Instr := [.aload 0, .multianewarray 8 0, .iconst 7, .iaload, .iload 1, .irem, .istore 2, .aload 0, .invokestatic 255, .iload 2, .ireturn]
def K_Mo_anew : List Instr := [.aload 0, .multianewarray 8 0, .iconst 7, .aload 0, .multianewarray 8 0, .iconst 7, .iaload, .i2l, .bipush 587, .lmul, .bipush 457, .ladd, .bipush 30817, .lrem, .l2i, .iastore, .return_]
def K_Mo_isHome : List Instr := [.aload 0, .iload 1, .invokestatic 194, .iconst (-1), .if_icmp .ne 7, .iconst 1, .goto 8, .iconst 0, .ireturn]
def K_Mo_goNow : List Instr := [.aload 0, .iload 1, .invokestatic 194, .iload 2, .invokestatic 182, .istore 3, .aload 0, .iload 1, .aload 0, .multianewarray 8 0, .iconst 31, .iaload, .iload 3, .invokestatic 175, .ifCond .eq 17, .iconst (-1), .goto 18, .iload 3, .iload 2, .invokestatic 196, .iload 3, .ireturn]
def K_Mo_onward : List Instr := [.aload 0, .iload 1, .iload 2, .iconst 1, .iadd, .iconst 4, .irem, .invokestatic 190, .ifCond .eq 15, .iload 2, .iconst 1, .iadd, .iconst 4, .irem, .ireturn, .aload 0, .iload 1, .iload 2, .invokestatic 190, .ifCond .eq 22, .iload 2, .ireturn, .aload 0, .iload 1, .iload 2, .iconst 3, .iadd, .iconst 4, .irem, .invokestatic 190, .ifCond .eq 37, .iload 2, .iconst 3, .iadd, .iconst 4, .irem, .ireturn, .aload 0, .iload 1, .iload 2, .iconst 2, .iadd, .iconst 4, .irem, .invokestatic 190, .ifCond .eq 52, .iload 2, .iconst 2, .iadd, .iconst 4, .irem, .goto 53, .iconst (-1), .ireturn]
def K_Mo_goOn : List Instr := [.aload 0, .aload 0, .iload 1, .invokestatic 194, .aload 0, .iload 1, .invokestatic 195, .invokestatic 258, .istore 2, .iload 2, .iconst (-1), .if_icmp .ne 13, .return_, .aload 0, .iload 1, .iload 2, .invokestatic 257, .pop, .aload 0, .iload 1, .invokestatic 256, .ifCond .ne 23, .return_, .aload 0, .dup, .multianewarray 8 25, .iconst 1, .iadd, .invokeinterface 8 25, .aload 0, .iconst 1, .iload 1, .invokestatic 253, .return_]
def K_Mo_pass : List Instr := [.iconst 0, .istore 1, .iload 1, .aload 0, .multianewarray 8 0, .iconst 1, .iaload, .if_icmp .ge 21, .aload 0, .iload 1, .invokestatic 256, .ifCond .ne 19, .aload 0, .iload 1, .invokestatic 252, .ifCond .le 19, .aload 0, .iload 1, .invokestatic 259, .iinc 1 1, .goto 2, .aload 0, .iconst 40, .invokestatic 254, .istore 1, .aload 0, .iload 1, .invokestatic 188, .ifCond .eq 47, .aload 0, .iconst 10, .invokestatic 254, .aload 0, .aload 0, .multianewarray 8 0, .iconst 3, .iaload, .iload 1, .invokestatic 251, .if_icmp .ge 47, .aload 0, .iload 1, .invokestatic 189, .aload 0, .iconst 0, .iload 1, .invokestatic 253, .aload 0, .multianewarray 8 0, .iconst 6, .dup2, .iaload, .iconst 1, .iadd, .iastore, .return_]
def K_Mo_turnedBy : List Instr := [.iconst 0, .istore 5, .iconst 0, .istore 6, .iload 6, .iconst 20, .if_icmp .ge 46, .aload 0, .multianewarray 8 3, .iconst 40, .iload 3, .imul, .iload 4, .ifCond .eq 18, .iconst 20, .iload 6, .iadd, .goto 19, .iload 6, .iadd, .iaload, .istore 7, .iload 5, .iload 7, .iconst 20, .if_icmp .ge 31, .iload 1, .iload 7, .invokestatic 175, .ifCond .eq 41, .goto 37, .iload 2, .iload 7, .iconst 20, .isub, .invokestatic 175, .ifCond .eq 41, .iconst 1, .iload 6, .ishl, .goto 42, .iconst 0, .ior, .istore 5, .iinc 6 1, .goto 4, .iload 5, .ireturn]
def K_Mo_ofHand : List Instr := [.aload 0, .aload 0, .multianewarray 8 0, .iconst 32, .iconst 2, .iload 1, .imul, .iadd, .iaload, .aload 0, .multianewarray 8 0, .iconst 32, .iconst 2, .iload 1, .imul, .iadd, .iconst 1, .iadd, .iaload, .iload 2, .iload 3, .invokestatic 261, .ireturn]
def K_Mo_pressNow : List Instr := [.aload 0, .multianewarray 8 0, .iconst 8, .aload 0, .iload 1, .iload 2, .iconst 0, .invokestatic 262, .iastore, .aload 0, .multianewarray 8 0, .iconst 9, .aload 0, .iload 1, .iload 2, .iconst 1, .invokestatic 262, .iastore, .return_]
def K_Mo_keep : List Instr := [.aload 0, .multianewarray 8 0, .iconst 4, .iaload, .iconst 30, .if_icmp .ne 33, .iconst 0, .istore 1, .iload 1, .iconst 1334, .if_icmp .ge 25, .aload 0, .multianewarray 8 0, .iconst 56, .iload 1, .iadd, .aload 0, .multianewarray 8 0, .iconst 102, .iload 1, .iadd, .iaload, .iastore, .iinc 1 1, .goto 8, .aload 0, .multianewarray 8 0, .iconst 4, .dup2, .iaload, .iconst 1, .isub, .iastore, .iconst 56, .iconst 46, .aload 0, .multianewarray 8 0, .iconst 4, .iaload, .imul, .iadd, .istore 1, .aload 0, .multianewarray 8 0, .iload 1, .aload 0, .multianewarray 8 0, .iconst 1, .iaload, .iastore, .iconst 0, .istore 2, .iload 2, .iconst 15, .if_icmp .ge 71, .aload 0, .multianewarray 8 0, .iload 1, .iconst 1, .iadd, .iload 2, .iadd, .aload 0, .multianewarray 8 0, .iconst 6, .iload 2, .iadd, .iaload, .iastore, .iinc 2 1, .goto 52, .iconst 0, .istore 2, .iload 2, .iconst 30, .if_icmp .ge 92, .aload 0, .multianewarray 8 0, .iload 1, .iconst 16, .iadd, .iload 2, .iadd, .aload 0, .multianewarray 8 0, .iconst 1436, .iload 2, .iadd, .iaload, .iastore, .iinc 2 1, .goto 73, .aload 0, .multianewarray 8 0, .iconst 4, .dup2, .iaload, .iconst 1, .iadd, .iastore, .return_]
def K_Mo_undo : List Instr := [.aload 0, .multianewarray 8 0, .iconst 4, .iaload, .ifCond .ne 7, .iconst (-1), .ireturn, .aload 0, .multianewarray 8 0, .iconst 4, .dup2, .iaload, .iconst 1, .isub, .iastore, .iconst 56, .iconst 46, .aload 0, .multianewarray 8 0, .iconst 4, .iaload, .imul, .iadd, .istore 1, .iconst 0, .istore 2, .iload 2, .iconst 15, .if_icmp .ge 45, .aload 0, .multianewarray 8 0, .iconst 6, .iload 2, .iadd, .aload 0, .multianewarray 8 0, .iload 1, .iconst 1, .iadd, .iload 2, .iadd, .iaload, .iastore, .iinc 2 1, .goto 26, .aload 0, .multianewarray 8 0, .iload 1, .iaload, .istore 2, .iload 2, .aload 0, .multianewarray 8 0, .iconst 1, .iaload, .if_icmp .ge 79, .aload 0, .iload 2, .aload 0, .multianewarray 8 0, .iconst 21, .iconst 2, .iload 2, .imul, .iadd, .iaload, .aload 0, .multianewarray 8 0, .iconst 21, .iconst 2, .iload 2, .imul, .iadd, .iconst 1, .iadd, .iaload, .invokestatic 196, .iinc 2 1, .goto 50, .iconst 0, .istore 2, .iload 2, .iconst 30, .if_icmp .ge 100, .aload 0, .multianewarray 8 0, .iconst 1436, .iload 2, .iadd, .aload 0, .multianewarray 8 0, .iload 1, .iconst 16, .iadd, .iload 2, .iadd, .iaload, .iastore, .iinc 2 1, .goto 81, .aload 0, .multianewarray 8 0, .iconst 4, .iaload, .ireturn]
def K_Mo_plant : List Instr := [.iload 1, .invokestatic 178, .ifCond .eq 7, .aload 0, .iload 1, .invokestatic 188, .ifCond .eq 9, .iconst 0, .ireturn, .aload 0, .invokestatic 264, .aload 0, .iload 1, .invokestatic 189, .iconst 1, .ireturn]
def K_Mo_cut : List Instr := [.iload 1, .invokestatic 178, .ifCond .eq 7, .aload 0, .iload 1, .invokestatic 188, .ifCond .ne 9, .iconst 0, .ireturn, .aload 0, .invokestatic 264, .aload 0, .iload 1, .invokestatic 189, .iconst 1, .ireturn]
def K_Mo_press : List Instr := [.aload 0, .iload 1, .invokestatic 180, .ifCond .eq 9, .iload 2, .iconst 0, .iconst 7, .invokestatic 172, .ifCond .ne 11, .iconst 0, .ireturn, .aload 0, .invokestatic 264, .aload 0, .iload 1, .iload 2, .invokestatic 263, .iconst 1, .ireturn]
def K_Mo_canGo : List Instr := [.aload 0, .iload 1, .invokestatic 181, .ifCond .eq 22, .iload 2, .iconst 0, .iconst 3, .invokestatic 172, .ifCond .eq 22, .aload 0, .iload 1, .invokestatic 256, .ifCond .ne 22, .aload 0, .aload 0, .iload 1, .invokestatic 194, .iload 2, .invokestatic 190, .ifCond .eq 22, .iconst 1, .goto 23, .iconst 0, .ireturn]
def K_Mo_go : List Instr := [.aload 0, .iload 1, .iload 2, .invokestatic 269, .ifCond .ne 7, .iconst (-1), .ireturn, .aload 0, .invokestatic 264, .aload 0, .iload 1, .iload 2, .invokestatic 257, .ireturn]
def K_Mo_arePassed : List Instr := [.aload 0, .iconst 0, .invokeinterface 8 25, .iconst 0, .istore 2, .iload 2, .iload 1, .if_icmp .ge 22, .aload 0, .multianewarray 8 0, .iconst 6, .iaload, .iconst 9999, .if_icmp .ne 16, .iconst 0, .ireturn, .aload 0, .invokestatic 264, .aload 0, .invokestatic 260, .iinc 2 1, .goto 5, .iconst 1, .ireturn]
def K_Mo_hour : List Instr := [.iload 1, .iconst 1, .iconst 60, .invokestatic 172, .ifCond .eq 20, .aload 0, .multianewarray 8 0, .iconst 6, .iaload, .iload 1, .iadd, .iconst 9999, .if_icmp .gt 20, .aload 0, .iload 1, .invokestatic 271, .ifCond .eq 20, .aload 0, .multianewarray 8 25, .goto 21, .iconst (-1), .ireturn]
def K_Mo_isPlayed : List Instr := [.aload 0, .multianewarray 8 2, .iload 1, .iconst 1, .iadd, .iaload, .istore 2, .aload 0, .multianewarray 8 2, .iload 1, .iconst 2, .iadd, .iaload, .istore 3, .aload 0, .multianewarray 8 2, .iload 1, .iaload, .tableswitch 59 2 8 #[19, 28, 33, 37, 41, 46, 55], .aload 0, .iload 2, .iload 3, .invokestatic 198, .ifCond .lt 26, .iconst 1, .goto 27, .iconst 0, .ireturn, .aload 0, .iload 2, .iconst 1, .invokestatic 199, .ireturn, .aload 0, .iload 2, .invokestatic 266, .ireturn, .aload 0, .iload 2, .invokestatic 267, .ireturn, .aload 0, .iload 2, .iload 3, .invokestatic 268, .ireturn, .aload 0, .iload 3, .iload 2, .invokestatic 270, .ifCond .lt 53, .iconst 1, .goto 54, .iconst 0, .ireturn, .aload 0, .iload 2, .invokestatic 271, .ireturn, .iconst 1, .ireturn]
def K_Mo_played : List Instr := [.iload 1, .iconst 0, .aload 0, .multianewarray 8 0, .iconst 2, .iaload, .iconst 1, .isub, .invokestatic 172, .ifCond .ne 12, .iconst (-2), .ireturn, .iconst 0, .istore 2, .iload 2, .aload 0, .multianewarray 8 2, .iconst 681, .iload 1, .imul, .iaload, .if_icmp .ge 38, .aload 0, .iconst 681, .iload 1, .imul, .iconst 1, .iadd, .iconst 3, .iload 2, .imul, .iadd, .invokestatic 273, .ifCond .ne 36, .iload 2, .ireturn, .iinc 2 1, .goto 14, .iconst (-1), .ireturn]
def K_Mo_happens : List Instr := [.iload 1, .iconst 7, .idiv, .iconst 40, .irem, .istore 2, .iload 1, .iconst 7, .irem, .tableswitch 79 0 3 #[10, 18, 26, 45], .aload 0, .iload 2, .invokestatic 188, .ifCond .ne 87, .aload 0, .iload 2, .invokestatic 189, .goto 87, .aload 0, .iload 2, .invokestatic 188, .ifCond .eq 87, .aload 0, .iload 2, .invokestatic 189, .goto 87, .aload 0, .multianewarray 8 0, .iconst 0, .iaload, .ifCond .le 87, .aload 0, .iload 1, .aload 0, .multianewarray 8 0, .iconst 0, .iaload, .irem, .iload 1, .iconst 7, .idiv, .iconst 8, .irem, .invokestatic 263, .goto 87, .aload 0, .multianewarray 8 0, .iconst 1, .iaload, .ifCond .le 87, .aload 0, .iload 1, .aload 0, .multianewarray 8 0, .iconst 1, .iaload, .irem, .iload 1, .iconst 7, .idiv, .iconst 4, .irem, .invokestatic 269, .ifCond .eq 87, .aload 0, .iload 1, .aload 0, .multianewarray 8 0, .iconst 1, .iaload, .irem, .iload 1, .iconst 7, .idiv, .iconst 4, .irem, .invokestatic 257, .ifCond .ge 87, .return_, .aload 0, .multianewarray 8 0, .iconst 6, .iaload, .iconst 9999, .if_icmp .ge 87, .aload 0, .invokestatic 260, .return_]
def K_Mo_years : List Instr := [.iload 1, .iconst 0, .iconst 9999, .invokestatic 172, .ifCond .eq 10, .iload 2, .iconst 1, .iconst 40, .invokestatic 172, .ifCond .ne 12, .iconst (-1), .ireturn, .aload 0, .invokestatic 264, .aload 0, .multianewarray 8 0, .iconst 7, .iload 1, .iconst 2, .imul, .iconst 331, .iadd, .iastore, .iconst 0, .istore 3, .iload 3, .iload 2, .if_icmp .ge 40, .aload 0, .multianewarray 8 0, .iconst 7, .iaload, .istore 4, .aload 0, .invokestatic 255, .aload 0, .iload 4, .invokestatic 275, .iinc 3 1, .goto 25, .aload 0, .multianewarray 8 0, .iconst 6, .iaload, .ireturn]
def K_Mo_of : List Instr := [.aload 0, .iload 1, .invokestatic 181, .ifCond .ne 6, .iconst (-100), .ireturn, .iload 2, .ifCond .ne 12, .aload 0, .iload 1, .invokestatic 194, .goto 31, .iload 2, .iconst 1, .if_icmp .ne 19, .aload 0, .iload 1, .invokestatic 195, .goto 31, .iload 2, .iconst 2, .if_icmp .ne 30, .aload 0, .iload 1, .invokestatic 256, .ifCond .ne 30, .aload 0, .iload 1, .invokestatic 252, .goto 31, .iconst (-100), .ireturn]
def K_Mo_cell : List Instr := [.iload 1, .invokestatic 177, .ifCond .ne 5, .iconst (-1), .ireturn, .iload 2, .ifCond .ne 11, .aload 0, .iload 1, .invokestatic 192, .goto 40, .iload 2, .iconst 1, .if_icmp .ne 18, .aload 0, .iload 1, .invokestatic 191, .goto 40, .iload 2, .iconst 2, .if_icmp .ne 30, .aload 0, .multianewarray 8 0, .iconst 31, .iaload, .iload 1, .ishr, .iconst 1, .iand, .goto 40, .iload 2, .iconst 3, .if_icmp .ne 39, .aload 0, .iload 1, .iconst (-1), .invokestatic 295, .invokestatic 176, .goto 40, .iconst (-1), .ireturn]
def K_Mo_hedge : List Instr := [.iload 1, .invokestatic 178, .ifCond .ne 5, .iconst (-1), .ireturn, .iload 2, .ifCond .ne 15, .aload 0, .iload 1, .invokestatic 188, .ifCond .eq 13, .iconst 1, .goto 39, .iconst 0, .goto 39, .iload 2, .iconst 1, .if_icmp .ne 21, .iload 1, .invokestatic 184, .goto 39, .iload 2, .iconst 2, .if_icmp .ne 27, .iload 1, .invokestatic 185, .goto 39, .iload 2, .iconst 3, .if_icmp .ne 38, .aload 0, .aload 0, .multianewarray 8 0, .iconst 3, .iaload, .iload 1, .invokestatic 251, .goto 39, .iconst (-1), .ireturn]
def K_Mo_between : List Instr := [.iload 1, .invokestatic 177, .ifCond .eq 15, .iload 2, .invokestatic 177, .ifCond .eq 15, .iload 1, .iload 2, .invokestatic 245, .iconst 1, .if_icmp .ne 15, .iload 1, .iload 2, .invokestatic 183, .goto 16, .iconst (-1), .ireturn]
def K_Mo_is : List Instr := [.iload 1, .iconst 0, .iconst 3, .invokestatic 172, .ifCond .eq 12, .aload 0, .multianewarray 8 0, .iconst 6, .iload 1, .iadd, .iaload, .goto 19, .iload 1, .iconst 4, .if_icmp .ne 18, .aload 0, .invokestatic 193, .goto 19, .iconst (-2), .ireturn]
def K_Mo_entry : List Instr := [.aload 0, .multianewarray 8 0, .iconst 1436, .iload 1, .iadd, .iaload, .istore 3, .iload 2, .ifCond .ne 13, .iload 3, .iconst 80, .idiv, .goto 25, .iload 2, .iconst 1, .if_icmp .ne 22, .iload 3, .iconst 40, .idiv, .iconst 2, .irem, .goto 25, .iload 3, .iconst 40, .irem, .ireturn]
def K_Mo_book : List Instr := [.iload 1, .iconst (-1), .if_icmp .ne 8, .aload 0, .multianewarray 8 0, .iconst 10, .iaload, .ireturn, .iload 1, .iconst 0, .aload 0, .multianewarray 8 0, .iconst 10, .iaload, .iconst 1, .isub, .invokestatic 172, .ifCond .eq 28, .iload 2, .iconst 0, .iconst 2, .invokestatic 172, .ifCond .eq 28, .aload 0, .iload 1, .iload 2, .invokestatic 282, .goto 29, .iconst (-2), .ireturn]
def K_Mo_ledger : List Instr := [.iload 1, .iconst 0, .iconst 1, .invokestatic 172, .ifCond .ne 7, .iconst (-2), .ireturn, .iconst 0, .istore 2, .iconst 0, .istore 3, .iload 3, .aload 0, .multianewarray 8 0, .iconst 10, .iaload, .if_icmp .ge 31, .iload 2, .aload 0, .iload 3, .iconst 1, .invokestatic 282, .iload 1, .if_icmp .ne 26, .iconst 1, .goto 27, .iconst 0, .iadd, .istore 2, .iinc 3 1, .goto 11, .iload 2, .ireturn]
def K_Mo_thickest : List Instr := [.iconst 0, .istore 1, .iconst 1, .istore 2, .iload 2, .iconst 25, .if_icmp .ge 18, .aload 0, .iload 2, .invokestatic 192, .aload 0, .iload 1, .invokestatic 192, .if_icmp .le 16, .iload 2, .istore 1, .iinc 2 1, .goto 4, .iload 1, .ireturn]
def K_Mo_foretold : List Instr := [.iload 1, .iconst 1, .iconst 60, .invokestatic 172, .ifCond .eq 9, .aload 0, .iload 2, .invokestatic 181, .ifCond .ne 11, .iconst (-2), .ireturn, .iconst 6, .istore 3, .iload 3, .iconst 21, .if_icmp .ge 26, .aload 0, .multianewarray 8 26, .iload 3, .aload 0, .multianewarray 8 0, .iload 3, .iaload, .iastore, .iinc 3 1, .goto 13, .aload 0, .iconst 0, .invokeinterface 8 24, .iconst 0, .istore 3, .iload 3, .iload 1, .if_icmp .ge 44, .aload 0, .multianewarray 8 0, .iconst 6, .iaload, .iconst 9999, .if_icmp .ge 42, .aload 0, .invokestatic 260, .iinc 3 1, .goto 31, .aload 0, .iload 2, .invokestatic 194, .istore 3, .iconst 6, .istore 4, .iload 4, .iconst 21, .if_icmp .ge 63, .aload 0, .multianewarray 8 0, .iload 4, .aload 0, .multianewarray 8 26, .iload 4, .iaload, .iastore, .iinc 4 1, .goto 50, .aload 0, .iconst 1, .invokeinterface 8 24, .iload 3, .ireturn]
def K_Mo_layFar : List Instr := [.iconst 0, .istore 3, .iload 3, .iconst 25, .if_icmp .ge 17, .aload 0, .multianewarray 8 27, .iload 3, .iload 3, .iload 1, .if_icmp .ne 13, .iconst 0, .goto 14, .iconst 1000000, .iastore, .iinc 3 1, .goto 2, .iconst 1, .istore 3, .iload 3, .ifCond .eq 83, .iconst 0, .istore 3, .iconst 0, .istore 4, .iload 4, .iconst 25, .if_icmp .ge 82, .iconst 0, .istore 5, .iload 5, .iconst 4, .if_icmp .ge 80, .iload 4, .iload 5, .invokestatic 182, .istore 6, .iload 6, .iconst (-1), .if_icmp .eq 78, .iload 2, .ifCond .ne 48, .aload 0, .iload 4, .iload 5, .invokestatic 190, .ifCond .ne 48, .goto 78, .aload 0, .multianewarray 8 27, .iload 4, .iaload, .iload 2, .ifCond .eq 61, .aload 0, .iload 4, .iload 5, .invokestatic 190, .ifCond .eq 61, .iconst 0, .goto 62, .iconst 1, .iadd, .istore 7, .iload 7, .aload 0, .multianewarray 8 27, .iload 6, .iaload, .if_icmp .lt 71, .goto 78, .aload 0, .multianewarray 8 27, .iload 6, .iload 7, .iastore, .iconst 1, .istore 3, .iinc 5 1, .goto 30, .iinc 4 1, .goto 25, .goto 19, .return_]
def K_Mo_areCells : List Instr := [.iload 0, .invokestatic 177, .ifCond .eq 8, .iload 1, .invokestatic 177, .ifCond .eq 8, .iconst 1, .goto 9, .iconst 0, .ireturn]
def K_Mo_miles : List Instr := [.iload 1, .iload 2, .invokestatic 288, .ifCond .ne 6, .iconst (-1), .ireturn, .aload 0, .iload 2, .iconst 0, .invokestatic 287, .aload 0, .multianewarray 8 27, .iload 1, .iaload, .iconst 1000000, .if_icmp .ne 18, .iconst (-1), .goto 22, .aload 0, .multianewarray 8 27, .iload 1, .iaload, .ireturn]
def K_Mo_way : List Instr := [.aload 0, .iload 1, .iload 2, .invokestatic 289, .istore 4, .iload 3, .iconst 0, .iload 4, .iconst 1, .isub, .invokestatic 172, .ifCond .ne 14, .iconst (-2), .ireturn, .iload 1, .istore 5, .iconst 0, .istore 6, .iconst 0, .istore 7, .iload 7, .iload 3, .if_icmp .gt 51, .iconst 0, .istore 6, .aload 0, .iload 5, .iload 6, .invokestatic 190, .ifCond .eq 43, .aload 0, .multianewarray 8 27, .iload 5, .iload 6, .invokestatic 182, .iaload, .aload 0, .multianewarray 8 27, .iload 5, .iaload, .iconst 1, .isub, .if_icmp .eq 45, .iinc 6 1, .goto 25, .iload 5, .iload 6, .invokestatic 182, .istore 5, .iinc 7 1, .goto 20, .iload 6, .ireturn]
def K_Mo_cuts : List Instr := [.iload 1, .iload 2, .invokestatic 288, .ifCond .ne 6, .iconst (-1), .ireturn, .aload 0, .iload 1, .iconst 1, .invokestatic 287, .aload 0, .multianewarray 8 27, .iload 2, .iaload, .ireturn]
def K_Mo_farthestNow : List Instr := [.iconst (-1), .istore 1, .iconst 0, .istore 2, .iload 2, .iconst 25, .if_icmp .ge 29, .aload 0, .multianewarray 8 27, .iload 2, .iaload, .iconst 1000000, .if_icmp .eq 27, .iload 1, .iconst (-1), .if_icmp .eq 25, .aload 0, .multianewarray 8 27, .iload 2, .iaload, .aload 0, .multianewarray 8 27, .iload 1, .iaload, .if_icmp .le 27, .iload 2, .istore 1, .iinc 2 1, .goto 4, .iload 1, .ireturn]
def K_Mo_farthest : List Instr := [.iload 1, .invokestatic 177, .ifCond .ne 5, .iconst (-1), .ireturn, .aload 0, .iload 1, .iconst 0, .invokestatic 287, .aload 0, .invokestatic 292, .ireturn]
def K_Mo_wide : List Instr := [.iconst 0, .istore 1, .iconst 0, .istore 2, .iload 2, .iconst 25, .if_icmp .ge 28, .aload 0, .iload 2, .iconst 0, .invokestatic 287, .aload 0, .multianewarray 8 27, .aload 0, .invokestatic 292, .iaload, .iload 1, .if_icmp .le 24, .aload 0, .multianewarray 8 27, .aload 0, .invokestatic 292, .iaload, .goto 25, .iload 1, .istore 1, .iinc 2 1, .goto 4, .iload 1, .ireturn]
def K_Mo_regionOf : List Instr := [.iconst 1, .iload 1, .ishl, .istore 3, .iconst 0, .istore 4, .iload 4, .iload 3, .if_icmp .eq 48, .iload 3, .istore 4, .iconst 0, .istore 5, .iload 5, .iconst 25, .if_icmp .ge 47, .iconst 0, .istore 6, .iload 6, .iconst 4, .if_icmp .ge 45, .iload 3, .iload 5, .invokestatic 175, .ifCond .eq 45, .aload 0, .iload 5, .iload 6, .invokestatic 190, .ifCond .eq 43, .iload 5, .iload 6, .invokestatic 182, .iload 2, .if_icmp .eq 43, .iload 3, .iconst 1, .iload 5, .iload 6, .invokestatic 182, .ishl, .ior, .istore 3, .iinc 6 1, .goto 18, .iinc 5 1, .goto 13, .goto 6, .iload 3, .ireturn]
def K_Mo_regions : List Instr := [.iconst 0, .istore 2, .iconst 0, .istore 3, .iconst 33554431, .istore 4, .iconst 0, .istore 5, .iload 5, .iconst 25, .if_icmp .ge 39, .iload 4, .iload 5, .invokestatic 175, .ifCond .ne 16, .goto 37, .aload 0, .iload 5, .iconst (-1), .invokestatic 295, .istore 6, .iload 4, .iload 6, .iconst (-1), .ixor, .iand, .istore 4, .iinc 2 1, .iload 6, .invokestatic 176, .iload 3, .if_icmp .le 35, .iload 6, .invokestatic 176, .goto 36, .iload 3, .istore 3, .iinc 5 1, .goto 8, .iload 1, .ifCond .eq 43, .iload 3, .goto 44, .iload 2, .ireturn]
def K_Mo_rings : List Instr := [.iconst 40, .aload 0, .invokestatic 193, .isub, .iconst 25, .isub, .aload 0, .iconst 0, .invokestatic 296, .iadd, .ireturn]
def K_Mo_ends : List Instr := [.iconst 0, .istore 1, .iconst 0, .istore 2, .iload 2, .iconst 25, .if_icmp .ge 23, .iload 1, .aload 0, .iload 2, .invokestatic 191, .invokestatic 176, .iconst 1, .if_icmp .ne 18, .iconst 1, .iload 2, .ishl, .goto 19, .iconst 0, .ior, .istore 1, .iinc 2 1, .goto 4, .iload 1, .ireturn]
def K_Mo_isNeck : List Instr := [.aload 0, .iload 1, .iconst (-1), .invokestatic 295, .iconst 1, .iload 1, .ishl, .iconst (-1), .ixor, .iand, .istore 2, .iload 2, .ifCond .ne 15, .iconst 0, .ireturn, .iconst 0, .istore 3, .iload 2, .iload 3, .invokestatic 175, .ifCond .ne 23, .iinc 3 1, .goto 17, .aload 0, .iload 3, .iload 1, .invokestatic 295, .iload 2, .if_icmp .eq 31, .iconst 1, .goto 32, .iconst 0, .ireturn]
def K_Mo_necks : List Instr := [.iconst 0, .istore 1, .iconst 0, .istore 2, .iload 2, .iconst 25, .if_icmp .ge 21, .iload 1, .aload 0, .iload 2, .invokestatic 299, .ifCond .eq 16, .iconst 1, .iload 2, .ishl, .goto 17, .iconst 0, .ior, .istore 1, .iinc 2 1, .goto 4, .iload 1, .ireturn]
def K_Mo_paths : List Instr := [.iload 1, .iload 2, .invokestatic 288, .ifCond .ne 6, .bipush (-1), .lreturn, .bipush 0, .lstore 3, .iconst 0, .istore 5, .iconst 1, .iload 1, .ishl, .istore 6, .aload 0, .multianewarray 8 28, .iconst 0, .iload 1, .iastore, .aload 0, .multianewarray 8 29, .iconst 0, .iconst (-1), .iastore, .iload 5, .ifCond .lt 128, .aload 0, .multianewarray 8 29, .iload 5, .dup2, .iaload, .iconst 1, .iadd, .iastore, .aload 0, .multianewarray 8 28, .iload 5, .iaload, .iload 2, .if_icmp .eq 46, .aload 0, .multianewarray 8 29, .iload 5, .iaload, .iconst 4, .if_icmp .ne 71, .lload 3, .aload 0, .multianewarray 8 28, .iload 5, .iaload, .iload 2, .if_icmp .ne 55, .bipush 1, .goto 56, .bipush 0, .ladd, .lstore 3, .iload 6, .iconst 1, .aload 0, .multianewarray 8 28, .iload 5, .iaload, .ishl, .iconst (-1), .ixor, .iand, .istore 6, .iinc 5 (-1), .goto 24, .aload 0, .aload 0, .multianewarray 8 28, .iload 5, .iaload, .aload 0, .multianewarray 8 29, .iload 5, .iaload, .invokestatic 190, .ifCond .eq 24, .iload 6, .aload 0, .multianewarray 8 28, .iload 5, .iaload, .aload 0, .multianewarray 8 29, .iload 5, .iaload, .invokestatic 182, .invokestatic 175, .ifCond .eq 95, .goto 24, .aload 0, .multianewarray 8 28, .iload 5, .iconst 1, .iadd, .aload 0, .multianewarray 8 28, .iload 5, .iaload, .aload 0, .multianewarray 8 29, .iload 5, .iaload, .invokestatic 182, .iastore, .aload 0, .multianewarray 8 29, .iload 5, .iconst 1, .iadd, .iconst (-1), .iastore, .iinc 5 1, .iload 6, .iconst 1, .aload 0, .multianewarray 8 28, .iload 5, .iaload, .ishl, .ior, .istore 6, .goto 24, .lload 3, .lreturn]
def K_Mo_walk : List Instr := [.aload 0, .iload 1, .invokestatic 181, .ifCond .ne 6, .iconst (-1), .ireturn, .iconst 0, .istore 3, .iload 3, .iconst 100, .if_icmp .ge 18, .aload 0, .multianewarray 8 30, .iload 3, .iconst (-1), .iastore, .iinc 3 1, .goto 8, .aload 0, .iload 1, .invokestatic 194, .istore 3, .aload 0, .iload 1, .invokestatic 195, .istore 4, .iconst 0, .istore 5, .iload 3, .iconst (-1), .if_icmp .eq 83, .aload 0, .multianewarray 8 30, .iconst 4, .iload 3, .imul, .iload 4, .iadd, .iaload, .iconst (-1), .if_icmp .ne 83, .aload 0, .multianewarray 8 30, .iconst 4, .iload 3, .imul, .iload 4, .iadd, .iload 5, .iastore, .aload 0, .iload 3, .iload 4, .invokestatic 258, .istore 6, .iload 6, .iconst (-1), .if_icmp .ne 64, .iload 2, .ifCond .eq 62, .iconst 0, .goto 63, .iconst (-1), .ireturn, .aload 0, .multianewarray 8 0, .iconst 31, .iaload, .iload 3, .iload 6, .invokestatic 182, .invokestatic 175, .ifCond .eq 75, .iconst (-1), .goto 78, .iload 3, .iload 6, .invokestatic 182, .istore 3, .iload 6, .istore 4, .iinc 5 1, .goto 28, .iload 3, .iconst (-1), .if_icmp .ne 92, .iload 2, .ifCond .eq 90, .iconst (-1), .goto 106, .iload 5, .goto 106, .iload 2, .ifCond .eq 105, .iload 5, .aload 0, .multianewarray 8 30, .iconst 4, .iload 3, .imul, .iload 4, .iadd, .iaload, .isub, .goto 106, .iconst (-1), .ireturn]
def K_Mo_home : List Instr := [.iload 1, .iconst 0, .iconst 99, .invokestatic 172, .ifCond .ne 7, .iconst (-1), .ireturn, .iconst 0, .istore 2, .iconst 0, .istore 3, .iload 3, .aload 0, .multianewarray 8 0, .iconst 1, .iaload, .if_icmp .ge 67, .aload 0, .iload 3, .invokestatic 256, .istore 4, .iload 4, .ifCond .ne 29, .aload 0, .aload 0, .iload 3, .invokestatic 194, .iconst 0, .invokestatic 287, .iconst 0, .istore 5, .iload 5, .iconst 25, .if_icmp .ge 55, .iload 4, .ifCond .ne 55, .aload 0, .multianewarray 8 0, .iconst 31, .iaload, .iload 5, .invokestatic 175, .ifCond .eq 51, .aload 0, .multianewarray 8 27, .iload 5, .iaload, .iload 1, .if_icmp .gt 51, .iconst 1, .goto 52, .iconst 0, .istore 4, .iinc 5 1, .goto 31, .iload 2, .iload 4, .ifCond .eq 62, .iconst 1, .iload 3, .ishl, .goto 63, .iconst 0, .ior, .istore 2, .iinc 3 1, .goto 11, .iload 2, .ireturn]
def K_Mo_gates : List Instr := [.iload 1, .iconst 0, .iconst 24, .invokestatic 172, .ifCond .ne 7, .iconst (-1), .ireturn, .aload 0, .iload 1, .invokestatic 305, .iconst 1, .istore 3, .iload 3, .iconst 5, .if_icmp .ge 30, .aload 0, .iload 3, .invokestatic 306, .istore 4, .iload 4, .iconst (-1), .if_icmp .eq 28, .iload 2, .ifCond .eq 26, .iload 3, .goto 27, .iload 4, .ireturn, .iinc 3 1, .goto 12, .iconst (-1), .ireturn]
def K_Mo_layReach : List Instr := [.iconst 0, .istore 2, .iload 2, .iconst 25, .if_icmp .ge 45, .aload 0, .multianewarray 8 31, .iload 2, .iconst 0, .iastore, .iload 2, .invokestatic 179, .ifCond .ne 14, .goto 43, .aload 0, .iload 2, .iconst 0, .invokestatic 287, .iconst 0, .istore 3, .iload 3, .iconst 25, .if_icmp .ge 43, .aload 0, .multianewarray 8 31, .iload 2, .dup2, .iaload, .aload 0, .multianewarray 8 27, .iload 3, .iaload, .iload 1, .if_icmp .gt 38, .iconst 1, .iload 3, .ishl, .goto 39, .iconst 0, .ior, .iastore, .iinc 3 1, .goto 20, .iinc 2 1, .goto 2, .return_]
def K_Mo_lowestGates : List Instr := [.iconst 0, .istore 2, .aload 0, .multianewarray 8 32, .iconst 0, .iconst (-1), .iastore, .iload 2, .ifCond .lt 91, .aload 0, .multianewarray 8 32, .iload 2, .dup2, .iaload, .iconst 1, .iadd, .iastore, .iload 2, .ifCond .ne 21, .iconst 25, .goto 27, .aload 0, .multianewarray 8 32, .iload 2, .iconst 1, .isub, .iaload, .istore 3, .aload 0, .multianewarray 8 32, .iload 2, .iaload, .iload 3, .if_icmp .lt 36, .iinc 2 (-1), .goto 7, .aload 0, .multianewarray 8 32, .iload 2, .iaload, .invokestatic 179, .ifCond .ne 43, .goto 7, .iload 2, .iload 1, .iconst 1, .isub, .if_icmp .ge 55, .iinc 2 1, .aload 0, .multianewarray 8 32, .iload 2, .iconst (-1), .iastore, .goto 7, .iconst 0, .istore 4, .iconst 0, .istore 5, .iconst 0, .istore 6, .iload 6, .iload 1, .if_icmp .ge 85, .iload 4, .aload 0, .multianewarray 8 31, .aload 0, .multianewarray 8 32, .iload 6, .iaload, .iaload, .ior, .istore 4, .iload 5, .iconst 1, .aload 0, .multianewarray 8 32, .iload 6, .iaload, .ishl, .ior, .istore 5, .iinc 6 1, .goto 61, .iload 4, .iconst 33554431, .if_icmp .ne 90, .iload 5, .ireturn, .goto 7, .iconst (-1), .ireturn]
def K_Mo_turned : List Instr := [.aload 0, .iload 1, .invokestatic 180, .ifCond .eq 15, .iload 2, .iconst 0, .iconst 7, .invokestatic 172, .ifCond .eq 15, .aload 0, .iload 1, .iload 2, .iload 3, .invokestatic 262, .goto 16, .iconst (-1), .ireturn]
def K_Mo_unlikeBy : List Instr := [.aload 0, .iload 1, .iload 2, .iconst 0, .invokestatic 262, .aload 0, .multianewarray 8 0, .iconst 8, .iaload, .ixor, .invokestatic 176, .aload 0, .iload 1, .iload 2, .iconst 1, .invokestatic 262, .aload 0, .multianewarray 8 0, .iconst 9, .iaload, .ixor, .invokestatic 176, .iadd, .ireturn]
def K_Mo_bestTurn : List Instr := [.iconst 0, .istore 2, .iconst 1, .istore 3, .iload 3, .iconst 8, .if_icmp .ge 20, .aload 0, .iload 1, .iload 3, .invokestatic 308, .aload 0, .iload 1, .iload 2, .invokestatic 308, .if_icmp .ge 18, .iload 3, .istore 2, .iinc 3 1, .goto 4, .iload 2, .ireturn]
def K_Mo_unlike : List Instr := [.aload 0, .iload 1, .invokestatic 180, .ifCond .ne 6, .iconst (-1), .goto 18, .iload 2, .ifCond .eq 12, .aload 0, .iload 1, .invokestatic 309, .goto 18, .aload 0, .iload 1, .aload 0, .iload 1, .invokestatic 309, .invokestatic 308, .ireturn]
def K_Mo_owner : List Instr := [.iload 1, .iconst 0, .iconst 40, .invokestatic 172, .ifCond .ne 7, .iconst (-1), .ireturn, .iconst (-1), .istore 2, .iload 1, .iconst 1, .iadd, .istore 3, .iconst 0, .istore 4, .iload 4, .aload 0, .multianewarray 8 0, .iconst 0, .iaload, .if_icmp .ge 36, .aload 0, .iload 4, .iconst 0, .invokestatic 310, .istore 5, .iload 5, .iload 3, .if_icmp .lt 30, .goto 34, .iload 5, .istore 3, .iload 4, .istore 2, .iinc 4 1, .goto 15, .iload 2, .ireturn]
def K_Mo_twinBy : List Instr := [.iconst 0, .istore 3, .iload 3, .iconst 8, .if_icmp .ge 31, .aload 0, .iload 1, .iload 3, .iconst 0, .invokestatic 262, .aload 0, .iload 2, .iconst 0, .iconst 0, .invokestatic 262, .if_icmp .ne 29, .aload 0, .iload 1, .iload 3, .iconst 1, .invokestatic 262, .aload 0, .iload 2, .iconst 0, .iconst 1, .invokestatic 262, .if_icmp .ne 29, .iload 3, .ireturn, .iinc 3 1, .goto 2, .iconst (-1), .ireturn]
def K_Mo_twins : List Instr := [.aload 0, .iload 1, .invokestatic 180, .ifCond .eq 16, .aload 0, .iload 2, .invokestatic 180, .ifCond .eq 16, .iload 1, .iload 2, .if_icmp .eq 16, .aload 0, .iload 1, .iload 2, .invokestatic 312, .goto 17, .iconst (-1), .ireturn]
def K_Mo_kinds : List Instr := [.iconst 0, .istore 1, .iconst 0, .istore 2, .iload 2, .aload 0, .multianewarray 8 0, .iconst 0, .iaload, .if_icmp .ge 41, .iconst 1, .istore 3, .iconst 0, .istore 4, .iload 4, .iload 2, .if_icmp .ge 31, .iload 3, .aload 0, .iload 4, .iload 2, .invokestatic 312, .iconst (-1), .if_icmp .ne 26, .iconst 1, .goto 27, .iconst 0, .iand, .istore 3, .iinc 4 1, .goto 14, .iload 1, .iload 3, .ifCond .eq 36, .iconst 1, .goto 37, .iconst 0, .iadd, .istore 1, .iinc 2 1, .goto 4, .iload 1, .ireturn]
def K_Mo_selves : List Instr := [.aload 0, .iload 1, .invokestatic 180, .ifCond .ne 6, .iconst (-1), .ireturn, .iconst 0, .istore 2, .iconst 0, .istore 3, .iload 3, .iconst 8, .if_icmp .ge 43, .iload 2, .aload 0, .iload 1, .iload 3, .iconst 0, .invokestatic 262, .aload 0, .iload 1, .iconst 0, .iconst 0, .invokestatic 262, .if_icmp .ne 38, .aload 0, .iload 1, .iload 3, .iconst 1, .invokestatic 262, .aload 0, .iload 1, .iconst 0, .iconst 1, .invokestatic 262, .if_icmp .ne 38, .iconst 1, .goto 39, .iconst 0, .iadd, .istore 2, .iinc 3 1, .goto 10, .iload 2, .ireturn]
def K_Mo_look : List Instr := [.iload 1, .iconst 0, .iconst 40, .invokestatic 172, .ifCond .ne 7, .iconst (-1), .ireturn, .iconst 0, .istore 2, .iload 2, .iconst 40, .if_icmp .ge 19, .aload 0, .multianewarray 8 33, .iload 2, .iconst 0, .iastore, .iinc 2 1, .goto 9, .iconst 0, .istore 2, .iconst 0, .istore 3, .iload 3, .aload 0, .multianewarray 8 0, .iconst 0, .iaload, .if_icmp .ge 89, .iconst 0, .istore 4, .iload 4, .iconst 8, .if_icmp .ge 87, .aload 0, .iload 3, .iload 4, .invokestatic 308, .iload 1, .if_icmp .le 41, .goto 85, .iinc 2 1, .aload 0, .iload 3, .iload 4, .iconst 0, .invokestatic 262, .istore 5, .aload 0, .iload 3, .iload 4, .iconst 1, .invokestatic 262, .istore 6, .iconst 0, .istore 7, .iload 7, .iconst 40, .if_icmp .ge 85, .aload 0, .multianewarray 8 33, .iload 7, .dup2, .iaload, .iload 7, .iconst 20, .if_icmp .ge 72, .iload 5, .iload 7, .invokestatic 175, .ifCond .eq 80, .goto 78, .iload 6, .iload 7, .iconst 20, .isub, .invokestatic 175, .ifCond .eq 80, .iconst 1, .goto 81, .iconst 0, .iadd, .iastore, .iinc 7 1, .goto 56, .iinc 4 1, .goto 31, .iinc 3 1, .goto 23, .iconst (-1), .istore 3, .iconst 1000000, .istore 4, .iconst 0, .istore 5, .iload 5, .iconst 40, .if_icmp .ge 134, .iload 2, .iconst 1, .if_icmp .le 134, .aload 0, .multianewarray 8 33, .iload 5, .iaload, .iload 2, .aload 0, .multianewarray 8 33, .iload 5, .iaload, .isub, .if_icmp .le 117, .aload 0, .multianewarray 8 33, .iload 5, .iaload, .goto 123, .iload 2, .aload 0, .multianewarray 8 33, .iload 5, .iaload, .isub, .istore 6, .iload 6, .iload 4, .if_icmp .lt 128, .goto 132, .iload 6, .istore 4, .iload 5, .istore 3, .iinc 5 1, .goto 95, .iload 3, .ireturn]
def K_Mo_said : List Instr := [.iload 1, .iconst (-1), .if_icmp .ne 10, .aload 0, .multianewarray 8 0, .iconst 5, .iconst 0, .iastore, .iconst 0, .ireturn, .iload 1, .invokestatic 178, .ifCond .eq 24, .iload 2, .iconst 0, .iconst 10, .invokestatic 172, .ifCond .eq 24, .aload 0, .multianewarray 8 0, .iconst 5, .iaload, .iconst 8, .if_icmp .ne 26, .iconst (-2), .ireturn, .aload 0, .multianewarray 8 0, .iconst 40, .iconst 2, .aload 0, .multianewarray 8 0, .iconst 5, .iaload, .imul, .iadd, .iload 1, .iastore, .aload 0, .multianewarray 8 0, .iconst 40, .iconst 2, .aload 0, .multianewarray 8 0, .iconst 5, .iaload, .imul, .iadd, .iconst 1, .iadd, .iload 2, .iastore, .aload 0, .multianewarray 8 0, .iconst 5, .dup2, .iaload, .iconst 1, .iadd, .iastore, .aload 0, .multianewarray 8 0, .iconst 5, .iaload, .ireturn]
def K_Mo_whose : List Instr := [.iconst 0, .istore 1, .iconst 0, .istore 2, .iload 2, .aload 0, .multianewarray 8 0, .iconst 2, .iaload, .if_icmp .ge 58, .iconst 1, .istore 3, .iconst 40, .istore 4, .iload 4, .iconst 40, .iconst 2, .aload 0, .multianewarray 8 0, .iconst 5, .iaload, .imul, .iadd, .if_icmp .ge 46, .iload 3, .ifCond .eq 42, .aload 0, .iload 2, .aload 0, .multianewarray 8 0, .iload 4, .iaload, .invokestatic 251, .aload 0, .multianewarray 8 0, .iload 4, .iconst 1, .iadd, .iaload, .if_icmp .ne 42, .iconst 1, .goto 43, .iconst 0, .istore 3, .iinc 4 2, .goto 14, .iload 1, .iload 3, .ifCond .eq 53, .iconst 1, .iload 2, .ishl, .goto 54, .iconst 0, .ior, .istore 1, .iinc 2 1, .goto 4, .iload 1, .ireturn]
def K_Mo_image : List Instr := [.aload 0, .multianewarray 8 0, .aload 0, .multianewarray 8 1, .invokestatic 171, .aload 0, .multianewarray 8 0, .iconst 6, .iaload, .ireturn]
def K_Mo_back : List Instr := [.aload 0, .multianewarray 8 1, .aload 0, .multianewarray 8 0, .invokestatic 171, .aload 0, .multianewarray 8 0, .iconst 6, .iaload, .ireturn]
def K_Mo_about : List Instr := [.iload 1, .iconst 0, .iconst 5, .invokestatic 172, .ifCond .eq 10, .aload 0, .multianewarray 8 0, .iload 1, .iaload, .goto 25, .iload 1, .iconst 6, .if_icmp .ne 16, .aload 0, .multianewarray 8 5, .goto 25, .iload 1, .iconst 7, .if_icmp .ne 24, .aload 0, .multianewarray 8 0, .iconst 31, .iaload, .goto 25, .iconst (-2), .ireturn]
def K_In_bitCount : List Instr := [.iload 0, .iload 0, .iconst 1, .iushr, .iconst 1431655765, .iand, .isub, .istore 0, .iload 0, .iconst 858993459, .iand, .iload 0, .iconst 2, .iushr, .iconst 858993459, .iand, .iadd, .istore 0, .iload 0, .iload 0, .iconst 4, .iushr, .iadd, .iconst 252645135, .iand, .istore 0, .iload 0, .iload 0, .iconst 8, .iushr, .iadd, .istore 0, .iload 0, .iload 0, .iconst 16, .iushr, .iadd, .istore 0, .iload 0, .iconst 63, .iand, .ireturn]
def K_Lo_bitCount : List Instr := [.lload 0, .lload 0, .iconst 1, .lushr, .bipush 6148914691236517205, .land, .lsub, .lstore 0, .lload 0, .bipush 3689348814741910323, .land, .lload 0, .iconst 2, .lushr, .bipush 3689348814741910323, .land, .ladd, .lstore 0, .lload 0, .lload 0, .iconst 4, .lushr, .ladd, .bipush 1085102592571150095, .land, .lstore 0, .lload 0, .lload 0, .iconst 8, .lushr, .ladd, .lstore 0, .lload 0, .lload 0, .iconst 16, .lushr, .ladd, .lstore 0, .lload 0, .lload 0, .iconst 32, .lushr, .ladd, .lstore 0, .lload 0, .l2i, .iconst 127, .iand, .ireturn]
def K_Lw_law : List Instr := [.nop, .dup, .nop, .astore 1, .nop, .dup, .nop, .astore 2, .iconst 0, .istore 3, .iload 3, .aload 0, .arraylength, .iconst 6, .isub, .if_icmp .gt 1093, .aload 0, .iload 3, .iaload, .iconst 63, .iand, .tableswitch 1091 0 49 #[22, 49, 76, 111, 168, 185, 192, 209, 226, 243, 260, 287, 314, 331, 348, 375, 382, 409, 436, 463, 490, 507, 534, 561, 588, 625, 652, 669, 676, 701, 708, 715, 722, 750, 785, 802, 837, 882, 917, 934, 961, 968, 985, 1002, 1029, 1036, 1043, 1060, 1067, 1074], .aload 1, .aload 0, .iload 3, .iconst 1, .iadd, .iaload, .aload 0, .iload 3, .iconst 2, .iadd, .iaload, .invokestatic 112, .aload 2, .aload 0, .iload 3, .iconst 1, .iadd, .iaload, .aload 0, .iload 3, .iconst 2, .iadd, .iaload, .invokestatic 197, .if_icmp .eq 1091, .iconst 0, .ireturn, .aload 1, .aload 0, .iload 3, .iconst 1, .iadd, .iaload, .aload 0, .iload 3, .iconst 2, .iadd, .iaload, .invokestatic 113, .aload 2, .aload 0, .iload 3, .iconst 1, .iadd, .iaload, .aload 0, .iload 3, .iconst 2, .iadd, .iaload, .invokestatic 198, .if_icmp .eq 1091, .iconst 0, .ireturn, .aload 1, .aload 0, .iload 3, .iconst 1, .iadd, .iaload, .aload 0, .iload 3, .iconst 2, .iadd, .iaload, .ifCond .eq 90, .iconst 1, .goto 91, .iconst 0, .invokestatic 114, .aload 2, .aload 0, .iload 3, .iconst 1, .iadd, .iaload, .aload 0, .iload 3, .iconst 2, .iadd, .iaload, .ifCond .eq 106, .iconst 1, .goto 107, .iconst 0, .invokestatic 199, .if_icmp .eq 1091, .iconst 0, .ireturn, .aload 1, .aload 0, .iload 3, .iconst 1, .iadd, .iaload, .aload 0, .iload 3, .iconst 2, .iadd, .iaload, .aload 0, .iload 3, .iconst 3, .iadd, .iaload, .aload 0, .iload 3, .iconst 4, .iadd, .iaload, .aload 0, .iload 3, .iconst 5, .iadd, .iaload, .invokestatic 115, .aload 2, .aload 0, .iload 3, .iconst 1, .iadd, .iaload, .aload 0, .iload 3, .iconst 2, .iadd, .iaload, .aload 0, .iload 3, .iconst 3, .iadd, .iaload, .aload 0, .iload 3, .iconst 4, .iadd, .iaload, .aload 0, .iload 3, .iconst 5, .iadd, .iaload, .invokestatic 201, .if_icmp .eq 1091, .iconst 0, .ireturn, .aload 1, .aload 0, .iload 3, .iconst 1, .iadd, .iaload, .invokestatic 116, .aload 2, .aload 0, .iload 3, .iconst 1, .iadd, .iaload, .invokestatic 202, .if_icmp .eq 1091, .iconst 0, .ireturn, .aload 1, .invokestatic 117, .aload 2, .invokestatic 238, .if_icmp .eq 1091, .iconst 0, .ireturn, .aload 1, .aload 0, .iload 3, .iconst 1, .iadd, .iaload, .invokestatic 118, .aload 2, .aload 0, .iload 3, .iconst 1, .iadd, .iaload, .invokestatic 239, .if_icmp .eq 1091, .iconst 0, .ireturn, .aload 1, .aload 0, .iload 3, .iconst 1, .iadd, .iaload, .invokestatic 119, .aload 2, .aload 0, .iload 3, .iconst 1, .iadd, .iaload, .invokestatic 240, .if_icmp .eq 1091, .iconst 0, .ireturn, .aload 1, .aload 0, .iload 3, .iconst 1, .iadd, .iaload, .invokestatic 120, .aload 2, .aload 0, .iload 3, .iconst 1, .iadd, .iaload, .invokestatic 266, .if_icmp .eq 1091, .iconst 0, .ireturn, .aload 1, .aload 0, .iload 3, .iconst 1, .iadd, .iaload, .invokestatic 121, .aload 2, .aload 0, .iload 3, .iconst 1, .iadd, .iaload, .invokestatic 267, .if_icmp .eq 1091, .iconst 0, .ireturn, .aload 1, .aload 0, .iload 3, .iconst 1, .iadd, .iaload, .aload 0, .iload 3, .iconst 2, .iadd, .iaload, .invokestatic 122, .aload 2, .aload 0, .iload 3, .iconst 1, .iadd, .iaload, .aload 0, .iload 3, .iconst 2, .iadd, .iaload, .invokestatic 268, .if_icmp .eq 1091, .iconst 0, .ireturn, .aload 1, .aload 0, .iload 3, .iconst 1, .iadd, .iaload, .aload 0, .iload 3, .iconst 2, .iadd, .iaload, .invokestatic 123, .aload 2, .aload 0, .iload 3, .iconst 1, .iadd, .iaload, .aload 0, .iload 3, .iconst 2, .iadd, .iaload, .invokestatic 270, .if_icmp .eq 1091, .iconst 0, .ireturn, .aload 1, .aload 0, .iload 3, .iconst 1, .iadd, .iaload, .invokestatic 124, .aload 2, .aload 0, .iload 3, .iconst 1, .iadd, .iaload, .invokestatic 272, .if_icmp .eq 1091, .iconst 0, .ireturn, .aload 1, .aload 0, .iload 3, .iconst 1, .iadd, .iaload, .invokestatic 125, .aload 2, .aload 0, .iload 3, .iconst 1, .iadd, .iaload, .invokestatic 274, .if_icmp .eq 1091, .iconst 0, .ireturn, .aload 1, .aload 0, .iload 3, .iconst 1, .iadd, .iaload, .aload 0, .iload 3, .iconst 2, .iadd, .iaload, .invokestatic 126, .aload 2, .aload 0, .iload 3, .iconst 1, .iadd, .iaload, .aload 0, .iload 3, .iconst 2, .iadd, .iaload, .invokestatic 276, .if_icmp .eq 1091, .iconst 0, .ireturn, .aload 1, .invokestatic 127, .aload 2, .invokestatic 265, .if_icmp .eq 1091, .iconst 0, .ireturn, .aload 1, .aload 0, .iload 3, .iconst 1, .iadd, .iaload, .aload 0, .iload 3, .iconst 2, .iadd, .iaload, .invokestatic 128, .aload 2, .aload 0, .iload 3, .iconst 1, .iadd, .iaload, .aload 0, .iload 3, .iconst 2, .iadd, .iaload, .invokestatic 277, .if_icmp .eq 1091, .iconst 0, .ireturn, .aload 1, .aload 0, .iload 3, .iconst 1, .iadd, .iaload, .aload 0, .iload 3, .iconst 2, .iadd, .iaload, .invokestatic 129, .aload 2, .aload 0, .iload 3, .iconst 1, .iadd, .iaload, .aload 0, .iload 3, .iconst 2, .iadd, .iaload, .invokestatic 278, .if_icmp .eq 1091, .iconst 0, .ireturn, .aload 1, .aload 0, .iload 3, .iconst 1, .iadd, .iaload, .aload 0, .iload 3, .iconst 2, .iadd, .iaload, .invokestatic 130, .aload 2, .aload 0, .iload 3, .iconst 1, .iadd, .iaload, .aload 0, .iload 3, .iconst 2, .iadd, .iaload, .invokestatic 279, .if_icmp .eq 1091, .iconst 0, .ireturn, .aload 1, .aload 0, .iload 3, .iconst 1, .iadd, .iaload, .aload 0, .iload 3, .iconst 2, .iadd, .iaload, .invokestatic 131, .aload 2, .aload 0, .iload 3, .iconst 1, .iadd, .iaload, .aload 0, .iload 3, .iconst 2, .iadd, .iaload, .invokestatic 280, .if_icmp .eq 1091, .iconst 0, .ireturn, .aload 1, .aload 0, .iload 3, .iconst 1, .iadd, .iaload, .invokestatic 132, .aload 2, .aload 0, .iload 3, .iconst 1, .iadd, .iaload, .invokestatic 281, .if_icmp .eq 1091, .iconst 0, .ireturn, .aload 1, .aload 0, .iload 3, .iconst 1, .iadd, .iaload, .aload 0, .iload 3, .iconst 2, .iadd, .iaload, .invokestatic 133, .aload 2, .aload 0, .iload 3, .iconst 1, .iadd, .iaload, .aload 0, .iload 3, .iconst 2, .iadd, .iaload, .invokestatic 283, .if_icmp .eq 1091, .iconst 0, .ireturn, .aload 1, .aload 0, .iload 3, .iconst 1, .iadd, .iaload, .aload 0, .iload 3, .iconst 2, .iadd, .iaload, .invokestatic 134, .aload 2, .aload 0, .iload 3, .iconst 1, .iadd, .iaload, .aload 0, .iload 3, .iconst 2, .iadd, .iaload, .invokestatic 286, .if_icmp .eq 1091, .iconst 0, .ireturn, .aload 1, .aload 0, .iload 3, .iconst 1, .iadd, .iaload, .aload 0, .iload 3, .iconst 2, .iadd, .iaload, .invokestatic 135, .aload 2, .aload 0, .iload 3, .iconst 1, .iadd, .iaload, .aload 0, .iload 3, .iconst 2, .iadd, .iaload, .invokestatic 289, .if_icmp .eq 1091, .iconst 0, .ireturn, .aload 1, .aload 0, .iload 3, .iconst 1, .iadd, .iaload, .aload 0, .iload 3, .iconst 2, .iadd, .iaload, .aload 0, .iload 3, .iconst 3, .iadd, .iaload, .invokestatic 136, .aload 2, .aload 0, .iload 3, .iconst 1, .iadd, .iaload, .aload 0, .iload 3, .iconst 2, .iadd, .iaload, .aload 0, .iload 3, .iconst 3, .iadd, .iaload, .invokestatic 290, .if_icmp .eq 1091, .iconst 0, .ireturn, .aload 1, .aload 0, .iload 3, .iconst 1, .iadd, .iaload, .aload 0, .iload 3, .iconst 2, .iadd, .iaload, .invokestatic 137, .aload 2, .aload 0, .iload 3, .iconst 1, .iadd, .iaload, .aload 0, .iload 3, .iconst 2, .iadd, .iaload, .invokestatic 291, .if_icmp .eq 1091, .iconst 0, .ireturn, .aload 1, .aload 0, .iload 3, .iconst 1, .iadd, .iaload, .invokestatic 138, .aload 2, .aload 0, .iload 3, .iconst 1, .iadd, .iaload, .invokestatic 293, .if_icmp .eq 1091, .iconst 0, .ireturn, .aload 1, .invokestatic 139, .aload 2, .invokestatic 294, .if_icmp .eq 1091, .iconst 0, .ireturn, .aload 1, .aload 0, .iload 3, .iconst 1, .iadd, .iaload, .ifCond .eq 685, .iconst 1, .goto 686, .iconst 0, .invokestatic 140, .aload 2, .aload 0, .iload 3, .iconst 1, .iadd, .iaload, .ifCond .eq 696, .iconst 1, .goto 697, .iconst 0, .invokestatic 296, .if_icmp .eq 1091, .iconst 0, .ireturn, .aload 1, .invokestatic 141, .aload 2, .invokestatic 297, .if_icmp .eq 1091, .iconst 0, .ireturn, .aload 1, .invokestatic 142, .aload 2, .invokestatic 298, .if_icmp .eq 1091, .iconst 0, .ireturn, .aload 1, .invokestatic 143, .aload 2, .invokestatic 300, .if_icmp .eq 1091, .iconst 0, .ireturn, .aload 1, .aload 0, .iload 3, .iconst 1, .iadd, .iaload, .aload 0, .iload 3, .iconst 2, .iadd, .iaload, .invokestatic 144, .aload 2, .aload 0, .iload 3, .iconst 1, .iadd, .iaload, .aload 0, .iload 3, .iconst 2, .iadd, .iaload, .invokestatic 301, .lcmp, .ifCond .eq 1091, .iconst 0, .ireturn, .aload 1, .aload 0, .iload 3, .iconst 1, .iadd, .iaload, .aload 0, .iload 3, .iconst 2, .iadd, .iaload, .ifCond .eq 764, .iconst 1, .goto 765, .iconst 0, .invokestatic 145, .aload 2, .aload 0, .iload 3, .iconst 1, .iadd, .iaload, .aload 0, .iload 3, .iconst 2, .iadd, .iaload, .ifCond .eq 780, .iconst 1, .goto 781, .iconst 0, .invokestatic 302, .if_icmp .eq 1091, .iconst 0, .ireturn, .aload 1, .aload 0, .iload 3, .iconst 1, .iadd, .iaload, .invokestatic 146, .aload 2, .aload 0, .iload 3, .iconst 1, .iadd, .iaload, .invokestatic 303, .if_icmp .eq 1091, .iconst 0, .ireturn, .aload 1, .aload 0, .iload 3, .iconst 1, .iadd, .iaload, .aload 0, .iload 3, .iconst 2, .iadd, .iaload, .ifCond .eq 816, .iconst 1, .goto 817, .iconst 0, .invokestatic 147, .aload 2, .aload 0, .iload 3, .iconst 1, .iadd, .iaload, .aload 0, .iload 3, .iconst 2, .iadd, .iaload, .ifCond .eq 832, .iconst 1, .goto 833, .iconst 0, .invokestatic 304, .if_icmp .eq 1091, .iconst 0, .ireturn, .aload 1, .aload 0, .iload 3, .iconst 1, .iadd, .iaload, .aload 0, .iload 3, .iconst 2, .iadd, .iaload, .aload 0, .iload 3, .iconst 3, .iadd, .iaload, .ifCond .eq 856, .iconst 1, .goto 857, .iconst 0, .invokestatic 148, .aload 2, .aload 0, .iload 3, .iconst 1, .iadd, .iaload, .aload 0, .iload 3, .iconst 2, .iadd, .iaload, .aload 0, .iload 3, .iconst 3, .iadd, .iaload, .ifCond .eq 877, .iconst 1, .goto 878, .iconst 0, .invokestatic 307, .if_icmp .eq 1091, .iconst 0, .ireturn, .aload 1, .aload 0, .iload 3, .iconst 1, .iadd, .iaload, .aload 0, .iload 3, .iconst 2, .iadd, .iaload, .ifCond .eq 896, .iconst 1, .goto 897, .iconst 0, .invokestatic 149, .aload 2, .aload 0, .iload 3, .iconst 1, .iadd, .iaload, .aload 0, .iload 3, .iconst 2, .iadd, .iaload, .ifCond .eq 912, .iconst 1, .goto 913, .iconst 0, .invokestatic 310, .if_icmp .eq 1091, .iconst 0, .ireturn, .aload 1, .aload 0, .iload 3, .iconst 1, .iadd, .iaload, .invokestatic 150, .aload 2, .aload 0, .iload 3, .iconst 1, .iadd, .iaload, .invokestatic 311, .if_icmp .eq 1091, .iconst 0, .ireturn, .aload 1, .aload 0, .iload 3, .iconst 1, .iadd, .iaload, .aload 0, .iload 3, .iconst 2, .iadd, .iaload, .invokestatic 151, .aload 2, .aload 0, .iload 3, .iconst 1, .iadd, .iaload, .aload 0, .iload 3, .iconst 2, .iadd, .iaload, .invokestatic 313, .if_icmp .eq 1091, .iconst 0, .ireturn, .aload 1, .invokestatic 152, .aload 2, .invokestatic 314, .if_icmp .eq 1091, .iconst 0, .ireturn, .aload 1, .aload 0, .iload 3, .iconst 1, .iadd, .iaload, .invokestatic 153, .aload 2, .aload 0, .iload 3, .iconst 1, .iadd, .iaload, .invokestatic 315, .if_icmp .eq 1091, .iconst 0, .ireturn, .aload 1, .aload 0, .iload 3, .iconst 1, .iadd, .iaload, .invokestatic 154, .aload 2, .aload 0, .iload 3, .iconst 1, .iadd, .iaload, .invokestatic 316, .if_icmp .eq 1091, .iconst 0, .ireturn, .aload 1, .aload 0, .iload 3, .iconst 1, .iadd, .iaload, .aload 0, .iload 3, .iconst 2, .iadd, .iaload, .invokestatic 155, .aload 2, .aload 0, .iload 3, .iconst 1, .iadd, .iaload, .aload 0, .iload 3, .iconst 2, .iadd, .iaload, .invokestatic 317, .if_icmp .eq 1091, .iconst 0, .ireturn, .aload 1, .invokestatic 156, .aload 2, .invokestatic 318, .if_icmp .eq 1091, .iconst 0, .ireturn, .aload 1, .invokestatic 157, .aload 2, .invokestatic 285, .if_icmp .eq 1091, .iconst 0, .ireturn, .aload 1, .aload 0, .iload 3, .iconst 1, .iadd, .iaload, .invokestatic 158, .aload 2, .aload 0, .iload 3, .iconst 1, .iadd, .iaload, .invokestatic 284, .if_icmp .eq 1091, .iconst 0, .ireturn, .aload 1, .invokestatic 159, .aload 2, .invokestatic 319, .if_icmp .eq 1091, .iconst 0, .ireturn, .aload 1, .invokestatic 160, .aload 2, .invokestatic 320, .if_icmp .eq 1091, .iconst 0, .ireturn, .aload 1, .aload 0, .iload 3, .iconst 1, .iadd, .iaload, .invokestatic 161, .aload 2, .aload 0, .iload 3, .iconst 1, .iadd, .iaload, .invokestatic 321, .if_icmp .eq 1091, .iconst 0, .ireturn, .iinc 3 6, .goto 10, .iconst 1, .ireturn]
def MT0 : List MI := [([10, 10], 3, 4, K_Fa_copyFrom), ([10], 3, 1, K_Fa_markStep), ([10], 2, 1, K_Fa_takeBack), ([0], 2, 1, K_Ha_isTurn), ([1], 0, 2, K_Ha_eastOf), ([1], 0, 2, K_Ha_southOf), ([11, 0, 1], 3, 7, K_Ha_keep), ([1], 1, 5, K_Ha_mirrored), ([0], 0, 3, K_Ha_mirroredHedge), ([1], 1, 5, K_Ha_quarterRight), ([0], 0, 4, K_Ha_quarterHedge), ([11, 0, 0], 1, 3, K_Ha_pattern), ([11, 0, 0, 1], 0, 5, K_Ha_unlikeness), ([11, 0, 1], 0, 6, K_Ha_likestTurn), ([11, 0, 0], 0, 4, K_Ha_turnInto), ([11, 0], 2, 3, K_Ha_hasElderTwin), ([11, 0], 0, 4, K_Ha_selfTurns), ([11, 0, 1, 0], 0, 11, K_Ha_partingHedge), ([11, 0, 1, 0, 0], 0, 9, K_Ha_likePatterns), ([12, 16, 13, 0], 0, 4, K_Ju_frostsOf), ([12, 16, 13, 0], 0, 4, K_Ju_goesOf), ([12, 13, 0], 3, 3, K_Ju_nameCommon), ([12, 2500, 0, 0, 13], 0, 10, K_Ju_valueOf), ([12], 0, 1, K_Ju_pop), ([12, 0], 3, 2, K_Ju_push), ([0, 0, 0], 0, 3, K_Ju_ofTwo), ([1], 0, 2, K_Ju_bounded), ([0, 0, 0], 2, 3, K_Ju_compares), ([13, 13], 3, 2, K_La_copyFrom), ([13, 13], 3, 4, K_La_takeBackTo), ([13, 0, 0], 0, 3, K_La_tellCow), ([13, 0], 2, 2, K_La_isCow), ([13, 0], 2, 2, K_La_isHome), ([13, 0], 2, 2, K_La_hasHedge), ([13, 0], 3, 2, K_La_addHedge), ([13, 0], 3, 2, K_La_removeHedge), ([13, 0, 0], 2, 4, K_La_isOpen), ([13, 0], 0, 4, K_La_openWays), ([13, 0], 0, 4, K_La_around), ([13, 0, 0], 2, 3, K_La_canGo), ([13, 0, 0, 0], 2, 4, K_La_comesHome), ([13, 0, 0], 3, 4, K_La_wander), ([13, 0, 0], 0, 6, K_La_wayByHedge), ([13], 0, 2, K_La_draw), ([13, 0, 0], 3, 3, K_La_write), ([13, 0], 0, 2, K_La_lineHour), ([13, 0], 0, 2, K_La_lineKind)]
def MT1 : List MI := [([13, 0], 0, 2, K_La_lineWhich), ([13, 0, 0], 0, 6, K_La_stepsHome), ([13, 0], 0, 7, K_La_ringOf), ([14, 1], 3, 5, K_Mz_layOut), ([14, 0], 0, 2, K_Mz_grown), ([0], 0, 1, K_Mz_grownOver), ([14, 0, 0], 0, 5, K_Mz_within), ([14, 0, 0], 0, 6, K_Mz_flooded), ([14, 0], 0, 2, K_Mz_regionOf), ([14, 0, 0], 0, 5, K_Mz_milesTo), ([14, 0, 0, 0], 0, 7, K_Mz_wayNearer), ([14, 0, 0], 0, 5, K_Mz_cutsTo), ([14, 0], 0, 6, K_Mz_farthestFrom), ([0], 0, 1, K_Mz_lowest), ([14], 0, 4, K_Mz_regionCount), ([14], 0, 5, K_Mz_greatestRegion), ([14, 0], 2, 3, K_Mz_isNeck), ([14, 0, 0], 1, 3, K_Mz_pathsTo), ([14, 0, 0, 0, 0], 1, 10, K_Mz_pathsOn), ([14, 0], 0, 4, K_Mz_fewestGates), ([14, 0, 0, 0], 0, 6, K_Mz_lowestCover), ([0], 2, 1, K_Pl_isCell), ([0], 2, 1, K_Pl_isWay), ([0], 2, 1, K_Pl_isHedge), ([0, 0], 0, 2, K_Pl_cellBeyond), ([0, 0], 0, 5, K_Pl_hedgeBy), ([0], 0, 1, K_Pl_firstCell), ([0], 0, 1, K_Pl_secondCell), ([0, 0], 0, 2, K_Pl_apart), ([15, 0], 2, 2, K_Rd_hasRoomFor), ([15, 0], 3, 3, K_Rd_addFour), ([15], 2, 2, K_Rd_reads), ([15, 0], 2, 2, K_Rd_refuse), ([15, 0], 2, 2, K_Rd_take), ([15], 2, 4, K_Rd_clause), ([15, 0], 2, 2, K_Rd_deed), ([15, 0, 0, 0], 2, 4, K_Rd_oneNumber), ([15, 0, 0], 2, 3, K_Rd_secondNumber), ([15, 0, 0], 2, 3, K_Rd_isNumber), ([15], 2, 3, K_Rd_sum), ([15], 2, 3, K_Rd_product), ([15], 2, 2, K_Rd_one), ([15, 0, 0], 2, 3, K_Rd_emitAndAdvance), ([15], 2, 2, K_Rd_isNameHere), ([15], 2, 3, K_Rd_nested), ([15, 0], 2, 2, K_Rd_inside), ([15], 2, 4, K_Rd_choice)]
def MT2 : List MI := [([15], 2, 2, K_Rd_either), ([15], 2, 2, K_Rd_both), ([15], 2, 3, K_Rd_ask), ([15], 3, 1, K_Rd_advance), ([0], 2, 1, K_Rd_isBlank), ([0], 2, 1, K_Rd_isLetter), ([0], 2, 1, K_Rd_isDigit), ([15], 0, 6, K_Rd_wordRead), ([15], 0, 1, K_Rd_digitsRead), ([15], 0, 4, K_Rd_signRead), ([16], 3, 1, K_Tx_clear), ([16, 16], 3, 2, K_Tx_copyFrom), ([16, 0, 0, 0], 3, 4, K_Tx_addClause), ([16, 0], 2, 2, K_Tx_has), ([16, 0], 3, 2, K_Tx_beginLaw), ([16, 0], 3, 2, K_Tx_endLaw), ([16, 0, 0], 2, 3, K_Tx_emit), ([16, 0], 3, 2, K_Tx_landHere), ([17, 0, 0], 0, 3, K_Th_hand), ([17, 0, 0], 0, 3, K_Th_cow), ([17, 0, 0], 2, 3, K_Th_gate), ([17, 0, 0, 0, 0, 0], 0, 6, K_Th_feed), ([17, 0], 0, 2, K_Th_end), ([17], 0, 2, K_Th_text), ([17, 0], 0, 2, K_Th_fault), ([17, 0], 2, 2, K_Th_by), ([17, 0], 2, 2, K_Th_plant), ([17, 0], 2, 2, K_Th_cut), ([17, 0, 0], 2, 3, K_Th_press), ([17, 0, 0], 0, 3, K_Th_go), ([17, 0], 0, 3, K_Th_hour), ([17, 0], 0, 6, K_Th_played), ([17, 0, 0], 0, 4, K_Th_years), ([17], 0, 1, K_Th_undo), ([17, 0, 0], 0, 5, K_Th_of), ([17, 0, 0], 0, 3, K_Th_cell), ([17, 0, 0], 0, 3, K_Th_hedge), ([17, 0, 0], 0, 4, K_Th_between), ([17, 0], 0, 3, K_Th_is), ([17, 0, 0], 0, 4, K_Th_book), ([17, 0, 0], 0, 4, K_Th_foretold), ([17, 0, 0], 0, 3, K_Th_miles), ([17, 0, 0, 0], 0, 8, K_Th_way), ([17, 0, 0], 0, 3, K_Th_cuts), ([17, 0], 0, 2, K_Th_farthest), ([17], 0, 3, K_Th_wide), ([17, 0], 0, 2, K_Th_regions)]
def MT3 : List MI := [([17], 0, 1, K_Th_rings), ([17], 0, 3, K_Th_ends), ([17], 0, 3, K_Th_necks), ([17, 0, 0], 1, 3, K_Th_paths), ([17, 0, 0], 0, 5, K_Th_walk), ([17, 0], 0, 5, K_Th_home), ([17, 0, 0], 0, 4, K_Th_gates), ([17, 0, 0, 0], 0, 6, K_Th_turned), ([17, 0, 0], 0, 4, K_Th_unlike), ([17, 0], 0, 6, K_Th_owner), ([17, 0, 0], 0, 3, K_Th_twins), ([17], 0, 3, K_Th_kinds), ([17, 0], 0, 2, K_Th_selves), ([17, 0], 0, 2, K_Th_look), ([17, 0, 0], 0, 3, K_Th_said), ([17], 0, 3, K_Th_whose), ([17], 0, 3, K_Th_thickest), ([17, 0], 0, 4, K_Th_ledger), ([17], 0, 1, K_Th_image), ([17], 0, 1, K_Th_back), ([17, 0], 0, 2, K_Th_about), ([17, 0], 2, 2, K_Th_isHand), ([17, 0], 2, 2, K_Th_isText), ([17], 16, 1, K_Th_ruling), ([17], 14, 1, K_Th_mazeNow), ([17, 0], 2, 3, K_Th_passHours), ([17, 13], 3, 4, K_Th_passHour), ([17, 0, 0, 0], 2, 4, K_Th_does), ([17, 0], 3, 4, K_Th_befall), ([17, 16], 2, 3, K_Th_saysAll), ([11828, 11828], 3, 3, K_Mo_copy), ([0, 0, 0], 2, 3, K_Mo_isIn), ([1, 0, 0], 0, 4, K_Mo_held), ([0], 0, 1, K_Mo_size), ([0, 0], 2, 2, K_Mo_has), ([0], 0, 3, K_Mo_bits), ([0], 2, 1, K_Mo_isCell), ([0], 2, 1, K_Mo_isHedge), ([0], 2, 1, K_Mo_isRim), ([18, 0], 2, 2, K_Mo_isHand), ([18, 0], 2, 2, K_Mo_isCow), ([0, 0], 0, 2, K_Mo_beside), ([0, 0], 0, 3, K_Mo_hedgeOf), ([0], 0, 1, K_Mo_westOf), ([0], 0, 1, K_Mo_eastOf), ([0, 0], 0, 6, K_Mo_cellTurned), ([18], 3, 3, K_Mo_layTurns)]
def MT4 : List MI := [([18, 0], 2, 2, K_Mo_isThere), ([18, 0], 3, 2, K_Mo_change), ([18, 0, 0], 2, 3, K_Mo_isOpen), ([18, 0], 0, 4, K_Mo_openOf), ([18, 0], 0, 4, K_Mo_aroundOf), ([18], 0, 1, K_Mo_allNow), ([18, 0], 0, 2, K_Mo_cellOf), ([18, 0], 0, 2, K_Mo_wayOf), ([18, 0, 0, 0], 3, 4, K_Mo_put), ([18, 0, 0], 0, 3, K_Mo_hand), ([18, 0, 0], 0, 4, K_Mo_cow), ([18, 0, 0], 2, 3, K_Mo_gate), ([18, 0], 3, 3, K_Mo_four), ([18, 0, 0, 0, 0, 0], 0, 6, K_Mo_feed), ([18, 0], 0, 2, K_Mo_end), ([18, 0], 0, 2, K_Mo_byteAt), ([0], 2, 1, K_Mo_isLetterByte), ([0], 2, 1, K_Mo_isFigure), ([0], 2, 1, K_Mo_isSign), ([18], 3, 2, K_Mo_nextToken), ([0, 0], 1, 2, K_Mo_w2), ([0, 0, 0], 1, 3, K_Mo_w3), ([0, 0, 0, 0], 1, 4, K_Mo_w4), ([0, 0, 0, 0, 0], 1, 5, K_Mo_w5), ([0, 0, 0, 0, 0, 0], 1, 6, K_Mo_w6), ([18, 1], 2, 3, K_Mo_isWord), ([18, 0, 0], 3, 3, K_Mo_emit), ([18], 0, 1, K_Mo_nameOf), ([18, 0], 2, 2, K_Mo_isOf), ([0], 0, 1, K_Mo_rank), ([18, 0], 3, 2, K_Mo_settle), ([18], 0, 2, K_Mo_openAt), ([18], 0, 1, K_Mo_openNow), ([18], 2, 2, K_Mo_isCompared), ([18], 2, 1, K_Mo_isAskAhead), ([18, 0], 0, 2, K_Mo_opened), ([18], 0, 2, K_Mo_beginOne), ([18], 0, 1, K_Mo_endOne), ([18], 0, 1, K_Mo_compareOf), ([18], 0, 1, K_Mo_betweenOf), ([18, 0], 0, 2, K_Mo_partOf), ([18], 0, 4, K_Mo_behindOne), ([18], 0, 2, K_Mo_summed), ([18, 0, 0, 0], 0, 4, K_Mo_figure), ([18, 0], 0, 3, K_Mo_lawClause), ([18, 0, 0, 1, 0], 0, 7, K_Mo_pair), ([18, 0, 0], 0, 3, K_Mo_body)]
def MT5 : List MI := [([18], 0, 1, K_Mo_sortOf), ([18], 0, 5, K_Mo_clause), ([18], 0, 2, K_Mo_readText), ([18], 0, 1, K_Mo_text), ([18, 0], 0, 2, K_Mo_fault), ([18, 0], 2, 2, K_Mo_by), ([1], 1, 2, K_Mo_clip), ([0, 1, 1], 1, 5, K_Mo_two), ([0, 1, 1], 2, 5, K_Mo_isAsked), ([18, 1], 1, 3, K_Mo_hedgeThere), ([0, 0], 0, 2, K_Mo_apart), ([1, 1], 1, 4, K_Mo_farOf), ([0, 0, 0], 2, 3, K_Mo_joined), ([18, 0, 0], 1, 10, K_Mo_summedUp), ([18, 0, 0, 0, 0, 0], 0, 7, K_Mo_says), ([18, 0], 3, 2, K_Mo_name), ([18, 0, 0], 0, 3, K_Mo_frostsOf), ([18, 0], 0, 2, K_Mo_goesOf), ([18, 0, 0], 3, 4, K_Mo_write), ([18, 0], 0, 3, K_Mo_drawnBy), ([18], 3, 1, K_Mo_anew), ([18, 0], 2, 2, K_Mo_isHome), ([18, 0, 0], 0, 4, K_Mo_goNow), ([18, 0, 0], 0, 3, K_Mo_onward), ([18, 0], 3, 3, K_Mo_goOn), ([18], 3, 2, K_Mo_pass), ([18, 0, 0, 0, 0], 0, 8, K_Mo_turnedBy), ([18, 0, 0, 0], 0, 4, K_Mo_ofHand), ([18, 0, 0], 3, 3, K_Mo_pressNow), ([18], 3, 3, K_Mo_keep), ([18], 0, 3, K_Mo_undo), ([18, 0], 2, 2, K_Mo_plant), ([18, 0], 2, 2, K_Mo_cut), ([18, 0, 0], 2, 3, K_Mo_press), ([18, 0, 0], 2, 3, K_Mo_canGo), ([18, 0, 0], 0, 3, K_Mo_go), ([18, 0], 2, 3, K_Mo_arePassed), ([18, 0], 0, 2, K_Mo_hour), ([18, 0], 2, 4, K_Mo_isPlayed), ([18, 0], 0, 3, K_Mo_played), ([18, 0], 3, 3, K_Mo_happens), ([18, 0, 0], 0, 5, K_Mo_years), ([18, 0, 0], 0, 3, K_Mo_of), ([18, 0, 0], 0, 3, K_Mo_cell), ([18, 0, 0], 0, 3, K_Mo_hedge), ([18, 0, 0], 0, 3, K_Mo_between), ([18, 0], 0, 2, K_Mo_is)]
def MT6 : List MI := [([18, 0, 0], 0, 4, K_Mo_entry), ([18, 0, 0], 0, 3, K_Mo_book), ([18, 0], 0, 4, K_Mo_ledger), ([18], 0, 3, K_Mo_thickest), ([18, 0, 0], 0, 5, K_Mo_foretold), ([18, 0, 0], 3, 8, K_Mo_layFar), ([0, 0], 2, 2, K_Mo_areCells), ([18, 0, 0], 0, 3, K_Mo_miles), ([18, 0, 0, 0], 0, 8, K_Mo_way), ([18, 0, 0], 0, 3, K_Mo_cuts), ([18], 0, 3, K_Mo_farthestNow), ([18, 0], 0, 2, K_Mo_farthest), ([18], 0, 3, K_Mo_wide), ([18, 0, 0], 0, 7, K_Mo_regionOf), ([18, 0], 0, 7, K_Mo_regions), ([18], 0, 1, K_Mo_rings), ([18], 0, 3, K_Mo_ends), ([18, 0], 2, 4, K_Mo_isNeck), ([18], 0, 3, K_Mo_necks), ([18, 0, 0], 1, 7, K_Mo_paths), ([18, 0, 0], 0, 7, K_Mo_walk), ([18, 0], 0, 6, K_Mo_home), ([18, 0, 0], 0, 5, K_Mo_gates), ([18, 0], 3, 4, K_Mo_layReach), ([18, 0], 0, 7, K_Mo_lowestGates), ([18, 0, 0, 0], 0, 4, K_Mo_turned), ([18, 0, 0], 0, 3, K_Mo_unlikeBy), ([18, 0], 0, 4, K_Mo_bestTurn), ([18, 0, 0], 0, 3, K_Mo_unlike), ([18, 0], 0, 6, K_Mo_owner), ([18, 0, 0], 0, 4, K_Mo_twinBy), ([18, 0, 0], 0, 3, K_Mo_twins), ([18], 0, 5, K_Mo_kinds), ([18, 0], 0, 4, K_Mo_selves), ([18, 0], 0, 8, K_Mo_look), ([18, 0, 0], 0, 3, K_Mo_said), ([18], 0, 5, K_Mo_whose), ([18], 0, 1, K_Mo_image), ([18], 0, 1, K_Mo_back), ([18, 0], 0, 2, K_Mo_about), ([0], 0, 1, K_In_bitCount), ([1], 0, 2, K_Lo_bitCount)]
def MT : List MI := MT0 ++ (MT1 ++ (MT2 ++ (MT3 ++ (MT4 ++ (MT5 ++ (MT6))))))
end
section
/-! THE SAME AS IT LIES IN THE BYTES, and the check of it -/
def chkT (own : Nat) (cc : ByteArray) (C : List Instr) (B : List (Nat × Instr × Nat)) (lo hi : Nat) : Bool := (List.range (hi - lo)).all (fun k => match C[lo + k]?, B[lo + k]? with
  | some i, some b => decide (decode cc b.1 = .ok (b.2.1, b.2.2)) && okE own B (lo + k) b i
  | _, _ => false)
theorem chkT_at {own : Nat} {cc : ByteArray} {C : List Instr} {B : List (Nat × Instr × Nat)} {lo hi : Nat} (h : chkT own cc C B lo hi = true) : ∀ (j : Nat) (i : Instr) (b : Nat × Instr × Nat), lo ≤ j → j < hi → C[j]? = some i → B[j]? = some b → decode cc b.1 = .ok (b.2.1, b.2.2) ∧ okE own B j b i = true := by
  intro j i b h1 h2 hC hB
  have := List.all_eq_true.mp h (j - lo) (List.mem_range.mpr (by omega))
  rw [show lo + (j - lo) = j by omega, hC, hB] at this
  simpa using this
theorem tab_of {own : Nat} {cc : ByteArray} {C : List Instr} {B : List (Nat × Instr × Nat)} (hl : C.length = B.length) (h : chkT own cc C B 0 B.length = true) : Tab own cc C B := ⟨hl, fun j i b hC hB => chkT_at h j i b (Nat.zero_le _) (List.getElem?_eq_some_iff.mp hB).1 hC hB⟩
def B_Fa_copyFrom : List (Nat × Instr × Nat) := [(0, .aload_n 0, 1), (1, .getfield 12, 3), (4, .aload_n 1, 1), (5, .getfield 12, 3), (8, .invokevirtual 33, 3), (11, .aload_n 0, 1), (12, .aload_n 1, 1), (13, .getfield 37, 3), (16, .putfield 37, 3), (19, .aload_n 0, 1), (20, .aload_n 1, 1), (21, .getfield 40, 3), (24, .putfield 40, 3), (27, .iconst 0, 1), (28, .istore_n 2, 1), (29, .iload_n 2, 1), (30, .aload_n 0, 1), (31, .getfield 40, 3), (34, .if_icmp .ge 34, 3), (37, .aload_n 0, 1), (38, .getfield 37, 3), (41, .iload_n 2, 1), (42, .iadd, 1), (43, .bipush 30, 2), (45, .irem, 1), (46, .istore_n 3, 1), (47, .aload_n 0, 1), (48, .getfield 18, 3), (51, .iload_n 3, 1), (52, .aaload, 1), (53, .aload_n 1, 1), (54, .getfield 18, 3), (57, .iload_n 3, 1), (58, .aaload, 1), (59, .invokevirtual 33, 3), (62, .iinc 2 1, 3), (65, .goto (-36), 3), (68, .aload_n 0, 1), (69, .aload_n 1, 1), (70, .getfield 43, 3), (73, .putfield 43, 3), (76, .aload_n 0, 1), (77, .aload_n 1, 1), (78, .getfield 46, 3), (81, .putfield 46, 3), (84, .aload_n 0, 1), (85, .aload_n 1, 1), (86, .getfield 49, 3), (89, .putfield 49, 3), (92, .aload_n 0, 1), (93, .aload_n 1, 1), (94, .getfield 22, 3), (97, .putfield 22, 3), (100, .aload_n 0, 1), (101, .aload_n 1, 1), (102, .getfield 52, 3), (105, .putfield 52, 3), (108, .aload_n 1, 1), (109, .getfield 26, 3), (112, .iconst 0, 1), (113, .aload_n 0, 1), (114, .getfield 26, 3), (117, .iconst 0, 1), (118, .bipush 8, 2), (120, .invokestatic 55, 3), (123, .aload_n 1, 1), (124, .getfield 30, 3), (127, .iconst 0, 1), (128, .aload_n 0, 1), (129, .getfield 30, 3), (132, .iconst 0, 1), (133, .bipush 8, 2), (135, .invokestatic 55, 3), (138, .return_, 1)]
theorem tab_Fa_copyFrom : Tab 0 prog_2_method_2_code K_Fa_copyFrom B_Fa_copyFrom := tab_of rfl (by decide +kernel)
def B_Fa_markStep : List (Nat × Instr × Nat) := [(0, .aload_n 0, 1), (1, .getfield 40, 3), (4, .bipush 30, 2), (6, .if_icmp .ne 26, 3), (9, .aload_n 0, 1), (10, .aload_n 0, 1), (11, .getfield 37, 3), (14, .iconst 1, 1), (15, .iadd, 1), (16, .bipush 30, 2), (18, .irem, 1), (19, .putfield 37, 3), (22, .aload_n 0, 1), (23, .dup, 1), (24, .getfield 40, 3), (27, .iconst 1, 1), (28, .isub, 1), (29, .putfield 40, 3), (32, .aload_n 0, 1), (33, .getfield 18, 3), (36, .aload_n 0, 1), (37, .getfield 37, 3), (40, .aload_n 0, 1), (41, .getfield 40, 3), (44, .iadd, 1), (45, .bipush 30, 2), (47, .irem, 1), (48, .aaload, 1), (49, .aload_n 0, 1), (50, .getfield 12, 3), (53, .invokevirtual 33, 3), (56, .aload_n 0, 1), (57, .dup, 1), (58, .getfield 40, 3), (61, .iconst 1, 1), (62, .iadd, 1), (63, .putfield 40, 3), (66, .return_, 1)]
theorem tab_Fa_markStep : Tab 0 prog_2_method_3_code K_Fa_markStep B_Fa_markStep := tab_of rfl (by decide +kernel)
def B_Fa_takeBack : List (Nat × Instr × Nat) := [(0, .aload_n 0, 1), (1, .getfield 40, 3), (4, .ifCond .ne 5, 3), (7, .iconst 0, 1), (8, .ireturn, 1), (9, .aload_n 0, 1), (10, .dup, 1), (11, .getfield 40, 3), (14, .iconst 1, 1), (15, .isub, 1), (16, .putfield 40, 3), (19, .aload_n 0, 1), (20, .getfield 12, 3), (23, .aload_n 0, 1), (24, .getfield 18, 3), (27, .aload_n 0, 1), (28, .getfield 37, 3), (31, .aload_n 0, 1), (32, .getfield 40, 3), (35, .iadd, 1), (36, .bipush 30, 2), (38, .irem, 1), (39, .aaload, 1), (40, .invokevirtual 61, 3), (43, .iconst 1, 1), (44, .ireturn, 1)]
theorem tab_Fa_takeBack : Tab 0 prog_2_method_4_code K_Fa_takeBack B_Fa_takeBack := tab_of rfl (by decide +kernel)
def B_Ha_isTurn : List (Nat × Instr × Nat) := [(0, .iload_n 0, 1), (1, .ifCond .lt 13, 3), (4, .iload_n 0, 1), (5, .bipush 8, 2), (7, .if_icmp .ge 7, 3), (10, .iconst 1, 1), (11, .goto 4, 3), (14, .iconst 0, 1), (15, .ireturn, 1)]
theorem tab_Ha_isTurn : Tab 1 prog_3_method_2_code K_Ha_isTurn B_Ha_isTurn := tab_of rfl (by decide +kernel)
def B_Ha_eastOf : List (Nat × Instr × Nat) := [(0, .lload_n 0, 1), (1, .ldc2_w 15, 3), (4, .land, 1), (5, .l2i, 1), (6, .ireturn, 1)]
theorem tab_Ha_eastOf : Tab 1 prog_3_method_3_code K_Ha_eastOf B_Ha_eastOf := tab_of rfl (by decide +kernel)
def B_Ha_southOf : List (Nat × Instr × Nat) := [(0, .lload_n 0, 1), (1, .bipush 20, 2), (3, .lshr, 1), (4, .ldc2_w 15, 3), (7, .land, 1), (8, .l2i, 1), (9, .ireturn, 1)]
theorem tab_Ha_southOf : Tab 1 prog_3_method_4_code K_Ha_southOf B_Ha_southOf := tab_of rfl (by decide +kernel)
def B_Ha_keep : List (Nat × Instr × Nat) := [(0, .lload_n 2, 1), (1, .lstore 4, 2), (3, .iconst 0, 1), (4, .istore 6, 2), (6, .iload 6, 2), (8, .bipush 8, 2), (10, .if_icmp .ge 42, 3), (13, .iload 6, 2), (15, .iconst 4, 1), (16, .if_icmp .ne 9, 3), (19, .lload_n 2, 1), (20, .invokestatic 17, 3), (23, .lstore 4, 2), (25, .aload_n 0, 1), (26, .getfield 9, 3), (29, .iload_n 1, 1), (30, .bipush 8, 2), (32, .imul, 1), (33, .iload 6, 2), (35, .iadd, 1), (36, .lload 4, 2), (38, .lastore, 1), (39, .lload 4, 2), (41, .invokestatic 21, 3), (44, .lstore 4, 2), (46, .iinc 6 1, 3), (49, .goto (-43), 3), (52, .return_, 1)]
theorem tab_Ha_keep : Tab 1 prog_3_method_5_code K_Ha_keep B_Ha_keep := tab_of rfl (by decide +kernel)
def B_Ha_mirrored : List (Nat × Instr × Nat) := [(0, .lconst 0, 1), (1, .lstore_n 2, 1), (2, .iconst 0, 1), (3, .istore 4, 2), (5, .iload 4, 2), (7, .bipush 40, 2), (9, .if_icmp .ge 30, 3), (12, .lload_n 0, 1), (13, .iload 4, 2), (15, .lshr, 1), (16, .lconst 1, 1), (17, .land, 1), (18, .lconst 1, 1), (19, .lcmp, 1), (20, .ifCond .ne 13, 3), (23, .lload_n 2, 1), (24, .lconst 1, 1), (25, .iload 4, 2), (27, .invokestatic 24, 3), (30, .lshl, 1), (31, .lor, 1), (32, .lstore_n 2, 1), (33, .iinc 4 1, 3), (36, .goto (-31), 3), (39, .lload_n 2, 1), (40, .lreturn, 1)]
theorem tab_Ha_mirrored : Tab 1 prog_3_method_6_code K_Ha_mirrored B_Ha_mirrored := tab_of rfl (by decide +kernel)
def B_Ha_mirroredHedge : List (Nat × Instr × Nat) := [(0, .iload_n 0, 1), (1, .invokestatic 28, 3), (4, .iconst 5, 1), (5, .irem, 1), (6, .istore_n 1, 1), (7, .iload_n 0, 1), (8, .bipush 20, 2), (10, .if_icmp .ge 7, 3), (13, .iconst 3, 1), (14, .goto 4, 3), (17, .iconst 4, 1), (18, .istore_n 2, 1), (19, .iload_n 0, 1), (20, .iload_n 1, 1), (21, .isub, 1), (22, .iload_n 2, 1), (23, .iload_n 1, 1), (24, .isub, 1), (25, .iadd, 1), (26, .ireturn, 1)]
theorem tab_Ha_mirroredHedge : Tab 1 prog_3_method_7_code K_Ha_mirroredHedge B_Ha_mirroredHedge := tab_of rfl (by decide +kernel)
def B_Ha_quarterRight : List (Nat × Instr × Nat) := [(0, .lconst 0, 1), (1, .lstore_n 2, 1), (2, .iconst 0, 1), (3, .istore 4, 2), (5, .iload 4, 2), (7, .bipush 40, 2), (9, .if_icmp .ge 30, 3), (12, .lload_n 0, 1), (13, .iload 4, 2), (15, .lshr, 1), (16, .lconst 1, 1), (17, .land, 1), (18, .lconst 1, 1), (19, .lcmp, 1), (20, .ifCond .ne 13, 3), (23, .lload_n 2, 1), (24, .lconst 1, 1), (25, .iload 4, 2), (27, .invokestatic 33, 3), (30, .lshl, 1), (31, .lor, 1), (32, .lstore_n 2, 1), (33, .iinc 4 1, 3), (36, .goto (-31), 3), (39, .lload_n 2, 1), (40, .lreturn, 1)]
theorem tab_Ha_quarterRight : Tab 1 prog_3_method_8_code K_Ha_quarterRight B_Ha_quarterRight := tab_of rfl (by decide +kernel)
def B_Ha_quarterHedge : List (Nat × Instr × Nat) := [(0, .iload_n 0, 1), (1, .invokestatic 28, 3), (4, .istore_n 1, 1), (5, .iload_n 1, 1), (6, .iconst 5, 1), (7, .idiv, 1), (8, .istore_n 2, 1), (9, .iload_n 1, 1), (10, .iconst 5, 1), (11, .irem, 1), (12, .istore_n 3, 1), (13, .iload_n 0, 1), (14, .bipush 20, 2), (16, .if_icmp .ge 14, 3), (19, .bipush 20, 2), (21, .iload_n 3, 1), (22, .iconst 5, 1), (23, .imul, 1), (24, .iadd, 1), (25, .iconst 4, 1), (26, .iload_n 2, 1), (27, .isub, 1), (28, .iadd, 1), (29, .ireturn, 1), (30, .iload_n 3, 1), (31, .iconst 4, 1), (32, .imul, 1), (33, .iconst 3, 1), (34, .iload_n 2, 1), (35, .isub, 1), (36, .iadd, 1), (37, .ireturn, 1)]
theorem tab_Ha_quarterHedge : Tab 1 prog_3_method_9_code K_Ha_quarterHedge B_Ha_quarterHedge := tab_of rfl (by decide +kernel)
def B_Ha_pattern : List (Nat × Instr × Nat) := [(0, .aload_n 0, 1), (1, .getfield 9, 3), (4, .iload_n 1, 1), (5, .bipush 8, 2), (7, .imul, 1), (8, .iload_n 2, 1), (9, .iadd, 1), (10, .laload, 1), (11, .lreturn, 1)]
theorem tab_Ha_pattern : Tab 1 prog_3_method_10_code K_Ha_pattern B_Ha_pattern := tab_of rfl (by decide +kernel)
def B_Ha_unlikeness : List (Nat × Instr × Nat) := [(0, .aload_n 0, 1), (1, .iload_n 1, 1), (2, .iload_n 2, 1), (3, .invokevirtual 36, 3), (6, .lload_n 3, 1), (7, .lxor, 1), (8, .invokestatic 40, 3), (11, .ireturn, 1)]
theorem tab_Ha_unlikeness : Tab 1 prog_3_method_11_code K_Ha_unlikeness B_Ha_unlikeness := tab_of rfl (by decide +kernel)
def B_Ha_likestTurn : List (Nat × Instr × Nat) := [(0, .iconst 0, 1), (1, .istore 4, 2), (3, .iconst 1, 1), (4, .istore 5, 2), (6, .iload 5, 2), (8, .bipush 8, 2), (10, .if_icmp .ge 32, 3), (13, .aload_n 0, 1), (14, .iload_n 1, 1), (15, .iload 5, 2), (17, .lload_n 2, 1), (18, .invokevirtual 46, 3), (21, .aload_n 0, 1), (22, .iload_n 1, 1), (23, .iload 4, 2), (25, .lload_n 2, 1), (26, .invokevirtual 46, 3), (29, .if_icmp .ge 7, 3), (32, .iload 5, 2), (34, .istore 4, 2), (36, .iinc 5 1, 3), (39, .goto (-33), 3), (42, .iload 4, 2), (44, .ireturn, 1)]
theorem tab_Ha_likestTurn : Tab 1 prog_3_method_12_code K_Ha_likestTurn B_Ha_likestTurn := tab_of rfl (by decide +kernel)
def B_Ha_turnInto : List (Nat × Instr × Nat) := [(0, .iconst 0, 1), (1, .istore_n 3, 1), (2, .iload_n 3, 1), (3, .bipush 8, 2), (5, .if_icmp .ge 27, 3), (8, .aload_n 0, 1), (9, .iload_n 1, 1), (10, .iload_n 3, 1), (11, .invokevirtual 36, 3), (14, .aload_n 0, 1), (15, .iload_n 2, 1), (16, .iconst 0, 1), (17, .invokevirtual 36, 3), (20, .lcmp, 1), (21, .ifCond .ne 5, 3), (24, .iload_n 3, 1), (25, .ireturn, 1), (26, .iinc 3 1, 3), (29, .goto (-27), 3), (32, .iconst (-1), 1), (33, .ireturn, 1)]
theorem tab_Ha_turnInto : Tab 1 prog_3_method_13_code K_Ha_turnInto B_Ha_turnInto := tab_of rfl (by decide +kernel)
def B_Ha_hasElderTwin : List (Nat × Instr × Nat) := [(0, .iconst 0, 1), (1, .istore_n 2, 1), (2, .iload_n 2, 1), (3, .iload_n 1, 1), (4, .if_icmp .ge 21, 3), (7, .aload_n 0, 1), (8, .iload_n 2, 1), (9, .iload_n 1, 1), (10, .invokevirtual 50, 3), (13, .iconst (-1), 1), (14, .if_icmp .eq 5, 3), (17, .iconst 1, 1), (18, .ireturn, 1), (19, .iinc 2 1, 3), (22, .goto (-20), 3), (25, .iconst 0, 1), (26, .ireturn, 1)]
theorem tab_Ha_hasElderTwin : Tab 1 prog_3_method_14_code K_Ha_hasElderTwin B_Ha_hasElderTwin := tab_of rfl (by decide +kernel)
def B_Ha_selfTurns : List (Nat × Instr × Nat) := [(0, .iconst 0, 1), (1, .istore_n 2, 1), (2, .iconst 0, 1), (3, .istore_n 3, 1), (4, .iload_n 3, 1), (5, .bipush 8, 2), (7, .if_icmp .ge 28, 3), (10, .aload_n 0, 1), (11, .iload_n 1, 1), (12, .iload_n 3, 1), (13, .invokevirtual 36, 3), (16, .aload_n 0, 1), (17, .iload_n 1, 1), (18, .iconst 0, 1), (19, .invokevirtual 36, 3), (22, .lcmp, 1), (23, .ifCond .ne 6, 3), (26, .iinc 2 1, 3), (29, .iinc 3 1, 3), (32, .goto (-28), 3), (35, .iload_n 2, 1), (36, .ireturn, 1)]
theorem tab_Ha_selfTurns : Tab 1 prog_3_method_15_code K_Ha_selfTurns B_Ha_selfTurns := tab_of rfl (by decide +kernel)
def B_Ha_partingHedge : List (Nat × Instr × Nat) := [(0, .aload_n 0, 1), (1, .iload_n 1, 1), (2, .lload_n 2, 1), (3, .iload 4, 2), (5, .iconst (-1), 1), (6, .invokevirtual 54, 3), (9, .istore 5, 2), (11, .iload 5, 2), (13, .iconst 2, 1), (14, .if_icmp .ge 5, 3), (17, .iconst (-1), 1), (18, .ireturn, 1), (19, .iconst (-1), 1), (20, .istore 6, 2), (22, .iload 5, 2), (24, .iconst 1, 1), (25, .iadd, 1), (26, .istore 7, 2), (28, .iconst 0, 1), (29, .istore 8, 2), (31, .iload 8, 2), (33, .bipush 40, 2), (35, .if_icmp .ge 48, 3), (38, .aload_n 0, 1), (39, .iload_n 1, 1), (40, .lload_n 2, 1), (41, .iload 4, 2), (43, .iload 8, 2), (45, .invokevirtual 54, 3), (48, .istore 9, 2), (50, .iload 9, 2), (52, .iload 5, 2), (54, .iload 9, 2), (56, .isub, 1), (57, .invokestatic 58, 3), (60, .istore 10, 2), (62, .iload 10, 2), (64, .iload 7, 2), (66, .if_icmp .ge 11, 3), (69, .iload 10, 2), (71, .istore 7, 2), (73, .iload 8, 2), (75, .istore 6, 2), (77, .iinc 8 1, 3), (80, .goto (-49), 3), (83, .iload 6, 2), (85, .ireturn, 1)]
theorem tab_Ha_partingHedge : Tab 1 prog_3_method_16_code K_Ha_partingHedge B_Ha_partingHedge := tab_of rfl (by decide +kernel)
def B_Ha_likePatterns : List (Nat × Instr × Nat) := [(0, .iconst 0, 1), (1, .istore 6, 2), (3, .iconst 0, 1), (4, .istore 7, 2), (6, .iload 7, 2), (8, .iload_n 1, 1), (9, .bipush 8, 2), (11, .imul, 1), (12, .if_icmp .ge 64, 3), (15, .aload_n 0, 1), (16, .getfield 9, 3), (19, .iload 7, 2), (21, .laload, 1), (22, .lload_n 2, 1), (23, .lxor, 1), (24, .invokestatic 40, 3), (27, .iload 4, 2), (29, .if_icmp .gt 7, 3), (32, .iconst 1, 1), (33, .goto 4, 3), (36, .iconst 0, 1), (37, .istore 8, 2), (39, .iload 8, 2), (41, .ifCond .eq 29, 3), (44, .iload 5, 2), (46, .iconst (-1), 1), (47, .if_icmp .eq 20, 3), (50, .aload_n 0, 1), (51, .getfield 9, 3), (54, .iload 7, 2), (56, .laload, 1), (57, .iload 5, 2), (59, .lshr, 1), (60, .lconst 1, 1), (61, .land, 1), (62, .lconst 1, 1), (63, .lcmp, 1), (64, .ifCond .ne 6, 3), (67, .iinc 6 1, 3), (70, .iinc 7 1, 3), (73, .goto (-67), 3), (76, .iload 6, 2), (78, .ireturn, 1)]
theorem tab_Ha_likePatterns : Tab 1 prog_3_method_17_code K_Ha_likePatterns B_Ha_likePatterns := tab_of rfl (by decide +kernel)
def B_Ju_frostsOf : List (Nat × Instr × Nat) := [(0, .aload_n 1, 1), (1, .getfield 18, 3), (4, .ifCond .ne 5, 3), (7, .iconst 3, 1), (8, .ireturn, 1), (9, .aload_n 0, 1), (10, .aload_n 2, 1), (11, .iload_n 3, 1), (12, .invokestatic 24, 3), (15, .invokevirtual 30, 3), (18, .aload_n 0, 1), (19, .getfield 9, 3), (22, .iconst 4, 1), (23, .iload_n 3, 1), (24, .iastore, 1), (25, .iconst 0, 1), (26, .bipush 10, 2), (28, .aload_n 0, 1), (29, .aload_n 1, 1), (30, .getfield 34, 3), (33, .aload_n 1, 1), (34, .getfield 37, 3), (37, .aload_n 1, 1), (38, .getfield 41, 3), (41, .aload_n 2, 1), (42, .invokevirtual 44, 3), (45, .invokestatic 48, 3), (48, .invokestatic 54, 3), (51, .ireturn, 1)]
theorem tab_Ju_frostsOf : Tab 2 prog_4_method_2_code K_Ju_frostsOf B_Ju_frostsOf := tab_of rfl (by decide +kernel)
def B_Ju_goesOf : List (Nat × Instr × Nat) := [(0, .aload_n 1, 1), (1, .getfield 57, 3), (4, .ifCond .ne 5, 3), (7, .iconst 1, 1), (8, .ireturn, 1), (9, .aload_n 0, 1), (10, .aload_n 2, 1), (11, .aload_n 2, 1), (12, .getfield 60, 3), (15, .iload_n 3, 1), (16, .iaload, 1), (17, .invokevirtual 30, 3), (20, .aload_n 0, 1), (21, .getfield 9, 3), (24, .iconst 5, 1), (25, .iload_n 3, 1), (26, .iastore, 1), (27, .aload_n 0, 1), (28, .getfield 9, 3), (31, .bipush 6, 2), (33, .aload_n 2, 1), (34, .getfield 65, 3), (37, .iload_n 3, 1), (38, .iaload, 1), (39, .iastore, 1), (40, .bipush (-99), 2), (42, .bipush 99, 2), (44, .aload_n 0, 1), (45, .aload_n 1, 1), (46, .getfield 34, 3), (49, .aload_n 1, 1), (50, .getfield 68, 3), (53, .aload_n 1, 1), (54, .getfield 71, 3), (57, .aload_n 2, 1), (58, .invokevirtual 44, 3), (61, .invokestatic 48, 3), (64, .invokestatic 54, 3), (67, .ireturn, 1)]
theorem tab_Ju_goesOf : Tab 2 prog_4_method_3_code K_Ju_goesOf B_Ju_goesOf := tab_of rfl (by decide +kernel)
def B_Ju_nameCommon : List (Nat × Instr × Nat) := [(0, .aload_n 0, 1), (1, .getfield 9, 3), (4, .iconst 0, 1), (5, .aload_n 1, 1), (6, .getfield 74, 3), (9, .iastore, 1), (10, .aload_n 0, 1), (11, .getfield 9, 3), (14, .iconst 1, 1), (15, .iload_n 2, 1), (16, .iastore, 1), (17, .aload_n 0, 1), (18, .getfield 9, 3), (21, .iconst 2, 1), (22, .aload_n 1, 1), (23, .iload_n 2, 1), (24, .invokevirtual 77, 3), (27, .iastore, 1), (28, .aload_n 0, 1), (29, .getfield 9, 3), (32, .iconst 3, 1), (33, .aload_n 1, 1), (34, .getfield 80, 3), (37, .invokestatic 84, 3), (40, .iastore, 1), (41, .return_, 1)]
theorem tab_Ju_nameCommon : Tab 2 prog_4_method_4_code K_Ju_nameCommon B_Ju_nameCommon := tab_of rfl (by decide +kernel)
def B_Ju_valueOf : List (Nat × Instr × Nat) := [(0, .aload_n 0, 1), (1, .iconst 0, 1), (2, .putfield 90, 3), (5, .iload_n 2, 1), (6, .istore 5, 2), (8, .iconst 0, 1), (9, .istore 6, 2), (11, .iload 6, 2), (13, .sipush 300, 3), (16, .if_icmp .ge 229, 3), (19, .iload 5, 2), (21, .ifCond .lt 224, 3), (24, .iload 5, 2), (26, .iload_n 3, 1), (27, .if_icmp .ge 218, 3), (30, .iload 5, 2), (32, .aload_n 1, 1), (33, .arraylength, 1), (34, .if_icmp .ge 211, 3), (37, .aload_n 1, 1), (38, .iload 5, 2), (40, .iaload, 1), (41, .bipush 64, 2), (43, .irem, 1), (44, .istore 7, 2), (46, .aload_n 1, 1), (47, .iload 5, 2), (49, .iaload, 1), (50, .bipush 64, 2), (52, .idiv, 1), (53, .istore 8, 2), (55, .iinc 5 1, 3), (58, .iload 7, 2), (60, .bipush 46, 2), (62, .if_icmp .ne 10, 3), (65, .iload 8, 2), (67, .istore 5, 2), (69, .goto 170, 3), (72, .iload 7, 2), (74, .bipush 45, 2), (76, .if_icmp .ne 22, 3), (79, .aload_n 0, 1), (80, .invokevirtual 93, 3), (83, .ifCond .ne 8, 3), (86, .iload 8, 2), (88, .goto 5, 3), (91, .iload 5, 2), (93, .istore 5, 2), (95, .goto 144, 3), (98, .iload 7, 2), (100, .iconst 2, 1), (101, .if_icmp .ne 12, 3), (104, .aload_n 0, 1), (105, .iload 8, 2), (107, .invokevirtual 97, 3), (110, .goto 129, 3), (113, .iload 7, 2), (115, .bipush 43, 2), (117, .if_icmp .ne 31, 3), (120, .aload_n 0, 1), (121, .iload 8, 2), (123, .aload_n 0, 1), (124, .getfield 9, 3), (127, .arraylength, 1), (128, .if_icmp .ge 13, 3), (131, .aload_n 0, 1), (132, .getfield 9, 3), (135, .iload 8, 2), (137, .iaload, 1), (138, .goto 4, 3), (141, .iconst 0, 1), (142, .invokevirtual 97, 3), (145, .goto 94, 3), (148, .iload 7, 2), (150, .bipush 35, 2), (152, .if_icmp .ne 27, 3), (155, .aload_n 0, 1), (156, .aload 4, 2), (158, .aload_n 0, 1), (159, .invokevirtual 93, 3), (162, .invokevirtual 101, 3), (165, .ifCond .eq 7, 3), (168, .iconst 1, 1), (169, .goto 4, 3), (172, .iconst 0, 1), (173, .invokevirtual 97, 3), (176, .goto 63, 3), (179, .iload 7, 2), (181, .bipush 44, 2), (183, .if_icmp .ne 15, 3), (186, .aload_n 0, 1), (187, .aload_n 0, 1), (188, .invokevirtual 93, 3), (191, .ineg, 1), (192, .invokevirtual 97, 3), (195, .goto 44, 3), (198, .iload 7, 2), (200, .bipush 42, 2), (202, .if_icmp .ne 16, 3), (205, .aload_n 0, 1), (206, .iconst 1, 1), (207, .aload_n 0, 1), (208, .invokevirtual 93, 3), (211, .isub, 1), (212, .invokevirtual 97, 3), (215, .goto 24, 3), (218, .aload_n 0, 1), (219, .invokevirtual 93, 3), (222, .istore 9, 2), (224, .aload_n 0, 1), (225, .iload 7, 2), (227, .aload_n 0, 1), (228, .invokevirtual 93, 3), (231, .iload 9, 2), (233, .invokestatic 105, 3), (236, .invokevirtual 97, 3), (239, .iinc 6 1, 3), (242, .goto (-231), 3), (245, .aload_n 0, 1), (246, .invokevirtual 93, 3), (249, .ireturn, 1)]
theorem tab_Ju_valueOf : Tab 2 prog_4_method_5_code K_Ju_valueOf B_Ju_valueOf := tab_of rfl (by decide +kernel)
def B_Ju_pop : List (Nat × Instr × Nat) := [(0, .aload_n 0, 1), (1, .getfield 90, 3), (4, .ifCond .gt 5, 3), (7, .iconst 0, 1), (8, .ireturn, 1), (9, .aload_n 0, 1), (10, .dup, 1), (11, .getfield 90, 3), (14, .iconst 1, 1), (15, .isub, 1), (16, .putfield 90, 3), (19, .aload_n 0, 1), (20, .getfield 15, 3), (23, .aload_n 0, 1), (24, .getfield 90, 3), (27, .iaload, 1), (28, .ireturn, 1)]
theorem tab_Ju_pop : Tab 2 prog_4_method_6_code K_Ju_pop B_Ju_pop := tab_of rfl (by decide +kernel)
def B_Ju_push : List (Nat × Instr × Nat) := [(0, .aload_n 0, 1), (1, .getfield 90, 3), (4, .sipush 300, 3), (7, .if_icmp .ge 23, 3), (10, .aload_n 0, 1), (11, .getfield 15, 3), (14, .aload_n 0, 1), (15, .getfield 90, 3), (18, .iload_n 1, 1), (19, .iastore, 1), (20, .aload_n 0, 1), (21, .dup, 1), (22, .getfield 90, 3), (25, .iconst 1, 1), (26, .iadd, 1), (27, .putfield 90, 3), (30, .return_, 1)]
theorem tab_Ju_push : Tab 2 prog_4_method_7_code K_Ju_push B_Ju_push := tab_of rfl (by decide +kernel)
def B_Ju_ofTwo : List (Nat × Instr × Nat) := [(0, .iload_n 0, 1), (1, .lookupswitch 120 #[(7, 67), (8, 76), (9, 85), (10, 94), (33, 106), (40, 116), (41, 112)], 67), (68, .iload_n 1, 1), (69, .i2l, 1), (70, .iload_n 2, 1), (71, .i2l, 1), (72, .ladd, 1), (73, .invokestatic 109, 3), (76, .ireturn, 1), (77, .iload_n 1, 1), (78, .i2l, 1), (79, .iload_n 2, 1), (80, .i2l, 1), (81, .lsub, 1), (82, .invokestatic 109, 3), (85, .ireturn, 1), (86, .iload_n 1, 1), (87, .i2l, 1), (88, .iload_n 2, 1), (89, .i2l, 1), (90, .lmul, 1), (91, .invokestatic 109, 3), (94, .ireturn, 1), (95, .iload_n 2, 1), (96, .ifCond .ne 7, 3), (99, .iconst 0, 1), (100, .goto 6, 3), (103, .iload_n 1, 1), (104, .iload_n 2, 1), (105, .idiv, 1), (106, .ireturn, 1), (107, .iload_n 1, 1), (108, .iload_n 2, 1), (109, .invokestatic 112, 3), (112, .ireturn, 1), (113, .iload_n 1, 1), (114, .iload_n 2, 1), (115, .iand, 1), (116, .ireturn, 1), (117, .iload_n 1, 1), (118, .iload_n 2, 1), (119, .ior, 1), (120, .ireturn, 1), (121, .iload_n 0, 1), (122, .iload_n 1, 1), (123, .iload_n 2, 1), (124, .invokestatic 115, 3), (127, .ifCond .eq 7, 3), (130, .iconst 1, 1), (131, .goto 4, 3), (134, .iconst 0, 1), (135, .ireturn, 1)]
theorem tab_Ju_ofTwo : Tab 2 prog_4_method_8_code K_Ju_ofTwo B_Ju_ofTwo := tab_of rfl (by decide +kernel)
def B_Ju_bounded : List (Nat × Instr × Nat) := [(0, .ldc2_w 119, 3), (3, .ldc2_w 121, 3), (6, .lload_n 0, 1), (7, .invokestatic 123, 3), (10, .invokestatic 126, 3), (13, .l2i, 1), (14, .ireturn, 1)]
theorem tab_Ju_bounded : Tab 2 prog_4_method_9_code K_Ju_bounded B_Ju_bounded := tab_of rfl (by decide +kernel)
def B_Ju_compares : List (Nat × Instr × Nat) := [(0, .iload_n 0, 1), (1, .tableswitch 122 3 15 #[67, 89, 111, 122, 122, 122, 122, 122, 122, 122, 122, 78, 100], 67), (68, .iload_n 1, 1), (69, .iload_n 2, 1), (70, .if_icmp .ge 7, 3), (73, .iconst 1, 1), (74, .goto 4, 3), (77, .iconst 0, 1), (78, .ireturn, 1), (79, .iload_n 1, 1), (80, .iload_n 2, 1), (81, .if_icmp .gt 7, 3), (84, .iconst 1, 1), (85, .goto 4, 3), (88, .iconst 0, 1), (89, .ireturn, 1), (90, .iload_n 1, 1), (91, .iload_n 2, 1), (92, .if_icmp .le 7, 3), (95, .iconst 1, 1), (96, .goto 4, 3), (99, .iconst 0, 1), (100, .ireturn, 1), (101, .iload_n 1, 1), (102, .iload_n 2, 1), (103, .if_icmp .lt 7, 3), (106, .iconst 1, 1), (107, .goto 4, 3), (110, .iconst 0, 1), (111, .ireturn, 1), (112, .iload_n 1, 1), (113, .iload_n 2, 1), (114, .if_icmp .ne 7, 3), (117, .iconst 1, 1), (118, .goto 4, 3), (121, .iconst 0, 1), (122, .ireturn, 1), (123, .iload_n 1, 1), (124, .iload_n 2, 1), (125, .if_icmp .eq 7, 3), (128, .iconst 1, 1), (129, .goto 4, 3), (132, .iconst 0, 1), (133, .ireturn, 1)]
theorem tab_Ju_compares : Tab 2 prog_4_method_10_code K_Ju_compares B_Ju_compares := tab_of rfl (by decide +kernel)
def B_La_copyFrom : List (Nat × Instr × Nat) := [(0, .aload_n 0, 1), (1, .aload_n 1, 1), (2, .getfield 25, 3), (5, .putfield 25, 3), (8, .aload_n 0, 1), (9, .aload_n 1, 1), (10, .getfield 28, 3), (13, .putfield 28, 3), (16, .aload_n 0, 1), (17, .aload_n 1, 1), (18, .invokevirtual 31, 3), (21, .return_, 1)]
theorem tab_La_copyFrom : Tab 3 prog_5_method_2_code K_La_copyFrom B_La_copyFrom := tab_of rfl (by decide +kernel)
def B_La_takeBackTo : List (Nat × Instr × Nat) := [(0, .aload_n 0, 1), (1, .aload_n 1, 1), (2, .getfield 35, 3), (5, .putfield 35, 3), (8, .aload_n 0, 1), (9, .aload_n 1, 1), (10, .getfield 39, 3), (13, .putfield 39, 3), (16, .aload_n 0, 1), (17, .aload_n 1, 1), (18, .getfield 18, 3), (21, .putfield 18, 3), (24, .aload_n 0, 1), (25, .aload_n 1, 1), (26, .getfield 42, 3), (29, .putfield 42, 3), (32, .aload_n 1, 1), (33, .getfield 22, 3), (36, .iconst 0, 1), (37, .aload_n 0, 1), (38, .getfield 22, 3), (41, .iconst 0, 1), (42, .bipush 30, 2), (44, .invokestatic 45, 3), (47, .iconst 1, 1), (48, .aload_n 1, 1), (49, .getfield 25, 3), (52, .ishl, 1), (53, .iconst 1, 1), (54, .isub, 1), (55, .istore_n 2, 1), (56, .aload_n 0, 1), (57, .aload_n 0, 1), (58, .getfield 28, 3), (61, .iload_n 2, 1), (62, .iconst (-1), 1), (63, .ixor, 1), (64, .iand, 1), (65, .aload_n 1, 1), (66, .getfield 28, 3), (69, .ior, 1), (70, .putfield 28, 3), (73, .iconst 0, 1), (74, .istore_n 3, 1), (75, .iload_n 3, 1), (76, .aload_n 1, 1), (77, .getfield 25, 3), (80, .if_icmp .ge 33, 3), (83, .aload_n 0, 1), (84, .getfield 9, 3), (87, .iload_n 3, 1), (88, .aload_n 1, 1), (89, .getfield 9, 3), (92, .iload_n 3, 1), (93, .iaload, 1), (94, .iastore, 1), (95, .aload_n 0, 1), (96, .getfield 15, 3), (99, .iload_n 3, 1), (100, .aload_n 1, 1), (101, .getfield 15, 3), (104, .iload_n 3, 1), (105, .iaload, 1), (106, .iastore, 1), (107, .iinc 3 1, 3), (110, .goto (-35), 3), (113, .return_, 1)]
theorem tab_La_takeBackTo : Tab 3 prog_5_method_3_code K_La_takeBackTo B_La_takeBackTo := tab_of rfl (by decide +kernel)
def B_La_tellCow : List (Nat × Instr × Nat) := [(0, .aload_n 0, 1), (1, .getfield 25, 3), (4, .iconst 5, 1), (5, .if_icmp .lt 5, 3), (8, .iconst (-1), 1), (9, .ireturn, 1), (10, .aload_n 0, 1), (11, .getfield 9, 3), (14, .aload_n 0, 1), (15, .getfield 25, 3), (18, .iload_n 1, 1), (19, .iastore, 1), (20, .aload_n 0, 1), (21, .getfield 15, 3), (24, .aload_n 0, 1), (25, .getfield 25, 3), (28, .iload_n 2, 1), (29, .iastore, 1), (30, .aload_n 0, 1), (31, .dup, 1), (32, .getfield 28, 3), (35, .iconst 1, 1), (36, .aload_n 0, 1), (37, .getfield 25, 3), (40, .ishl, 1), (41, .iconst (-1), 1), (42, .ixor, 1), (43, .iand, 1), (44, .putfield 28, 3), (47, .aload_n 0, 1), (48, .dup, 1), (49, .getfield 25, 3), (52, .iconst 1, 1), (53, .iadd, 1), (54, .putfield 25, 3), (57, .aload_n 0, 1), (58, .getfield 25, 3), (61, .iconst 1, 1), (62, .isub, 1), (63, .ireturn, 1)]
theorem tab_La_tellCow : Tab 3 prog_5_method_4_code K_La_tellCow B_La_tellCow := tab_of rfl (by decide +kernel)
def B_La_isCow : List (Nat × Instr × Nat) := [(0, .iload_n 1, 1), (1, .ifCond .lt 15, 3), (4, .iload_n 1, 1), (5, .aload_n 0, 1), (6, .getfield 25, 3), (9, .if_icmp .ge 7, 3), (12, .iconst 1, 1), (13, .goto 4, 3), (16, .iconst 0, 1), (17, .ireturn, 1)]
theorem tab_La_isCow : Tab 3 prog_5_method_5_code K_La_isCow B_La_isCow := tab_of rfl (by decide +kernel)
def B_La_isHome : List (Nat × Instr × Nat) := [(0, .aload_n 0, 1), (1, .getfield 28, 3), (4, .iload_n 1, 1), (5, .ishr, 1), (6, .iconst 1, 1), (7, .iand, 1), (8, .iconst 1, 1), (9, .if_icmp .ne 7, 3), (12, .iconst 1, 1), (13, .goto 4, 3), (16, .iconst 0, 1), (17, .ireturn, 1)]
theorem tab_La_isHome : Tab 3 prog_5_method_6_code K_La_isHome B_La_isHome := tab_of rfl (by decide +kernel)
def B_La_hasHedge : List (Nat × Instr × Nat) := [(0, .iload_n 1, 1), (1, .ifCond .lt 26, 3), (4, .iload_n 1, 1), (5, .bipush 40, 2), (7, .if_icmp .ge 20, 3), (10, .aload_n 0, 1), (11, .getfield 35, 3), (14, .iload_n 1, 1), (15, .lshr, 1), (16, .lconst 1, 1), (17, .land, 1), (18, .lconst 1, 1), (19, .lcmp, 1), (20, .ifCond .ne 7, 3), (23, .iconst 1, 1), (24, .goto 4, 3), (27, .iconst 0, 1), (28, .ireturn, 1)]
theorem tab_La_hasHedge : Tab 3 prog_5_method_7_code K_La_hasHedge B_La_hasHedge := tab_of rfl (by decide +kernel)
def B_La_addHedge : List (Nat × Instr × Nat) := [(0, .aload_n 0, 1), (1, .dup, 1), (2, .getfield 35, 3), (5, .lconst 1, 1), (6, .iload_n 1, 1), (7, .lshl, 1), (8, .lor, 1), (9, .putfield 35, 3), (12, .return_, 1)]
theorem tab_La_addHedge : Tab 3 prog_5_method_8_code K_La_addHedge B_La_addHedge := tab_of rfl (by decide +kernel)
def B_La_removeHedge : List (Nat × Instr × Nat) := [(0, .aload_n 0, 1), (1, .dup, 1), (2, .getfield 35, 3), (5, .lconst 1, 1), (6, .iload_n 1, 1), (7, .lshl, 1), (8, .ldc2_w 51, 3), (11, .lxor, 1), (12, .land, 1), (13, .putfield 35, 3), (16, .return_, 1)]
theorem tab_La_removeHedge : Tab 3 prog_5_method_9_code K_La_removeHedge B_La_removeHedge := tab_of rfl (by decide +kernel)
def B_La_isOpen : List (Nat × Instr × Nat) := [(0, .iload_n 1, 1), (1, .iload_n 2, 1), (2, .invokestatic 53, 3), (5, .istore_n 3, 1), (6, .iload_n 3, 1), (7, .iconst (-1), 1), (8, .if_icmp .eq 15, 3), (11, .aload_n 0, 1), (12, .iload_n 3, 1), (13, .invokevirtual 59, 3), (16, .ifCond .ne 7, 3), (19, .iconst 1, 1), (20, .goto 4, 3), (23, .iconst 0, 1), (24, .ireturn, 1)]
theorem tab_La_isOpen : Tab 3 prog_5_method_10_code K_La_isOpen B_La_isOpen := tab_of rfl (by decide +kernel)
def B_La_openWays : List (Nat × Instr × Nat) := [(0, .iconst 0, 1), (1, .istore_n 2, 1), (2, .iconst 0, 1), (3, .istore_n 3, 1), (4, .iload_n 3, 1), (5, .iconst 4, 1), (6, .if_icmp .ge 24, 3), (9, .aload_n 0, 1), (10, .iload_n 1, 1), (11, .iload_n 3, 1), (12, .invokevirtual 63, 3), (15, .ifCond .eq 9, 3), (18, .iload_n 2, 1), (19, .iconst 1, 1), (20, .iload_n 3, 1), (21, .ishl, 1), (22, .ior, 1), (23, .istore_n 2, 1), (24, .iinc 3 1, 3), (27, .goto (-23), 3), (30, .iload_n 2, 1), (31, .ireturn, 1)]
theorem tab_La_openWays : Tab 3 prog_5_method_11_code K_La_openWays B_La_openWays := tab_of rfl (by decide +kernel)
def B_La_around : List (Nat × Instr × Nat) := [(0, .iconst 0, 1), (1, .istore_n 2, 1), (2, .iconst 0, 1), (3, .istore_n 3, 1), (4, .iload_n 3, 1), (5, .iconst 4, 1), (6, .if_icmp .ge 24, 3), (9, .aload_n 0, 1), (10, .iload_n 1, 1), (11, .iload_n 3, 1), (12, .invokestatic 53, 3), (15, .invokevirtual 59, 3), (18, .ifCond .eq 6, 3), (21, .iinc 2 1, 3), (24, .iinc 3 1, 3), (27, .goto (-23), 3), (30, .iload_n 2, 1), (31, .ireturn, 1)]
theorem tab_La_around : Tab 3 prog_5_method_12_code K_La_around B_La_around := tab_of rfl (by decide +kernel)
def B_La_canGo : List (Nat × Instr × Nat) := [(0, .aload_n 0, 1), (1, .iload_n 1, 1), (2, .invokevirtual 67, 3), (5, .ifCond .eq 36, 3), (8, .aload_n 0, 1), (9, .iload_n 1, 1), (10, .invokevirtual 70, 3), (13, .ifCond .ne 28, 3), (16, .iload_n 2, 1), (17, .invokestatic 73, 3), (20, .ifCond .eq 21, 3), (23, .aload_n 0, 1), (24, .aload_n 0, 1), (25, .getfield 9, 3), (28, .iload_n 1, 1), (29, .iaload, 1), (30, .iload_n 2, 1), (31, .invokevirtual 63, 3), (34, .ifCond .eq 7, 3), (37, .iconst 1, 1), (38, .goto 4, 3), (41, .iconst 0, 1), (42, .ireturn, 1)]
theorem tab_La_canGo : Tab 3 prog_5_method_13_code K_La_canGo B_La_canGo := tab_of rfl (by decide +kernel)
def B_La_comesHome : List (Nat × Instr × Nat) := [(0, .aload_n 0, 1), (1, .getfield 9, 3), (4, .iload_n 1, 1), (5, .aload_n 0, 1), (6, .getfield 9, 3), (9, .iload_n 1, 1), (10, .iaload, 1), (11, .iload_n 2, 1), (12, .invokestatic 76, 3), (15, .iastore, 1), (16, .aload_n 0, 1), (17, .getfield 15, 3), (20, .iload_n 1, 1), (21, .iload_n 2, 1), (22, .iastore, 1), (23, .iload_n 3, 1), (24, .aload_n 0, 1), (25, .getfield 9, 3), (28, .iload_n 1, 1), (29, .iaload, 1), (30, .ishr, 1), (31, .iconst 1, 1), (32, .iand, 1), (33, .ifCond .ne 5, 3), (36, .iconst 0, 1), (37, .ireturn, 1), (38, .aload_n 0, 1), (39, .dup, 1), (40, .getfield 28, 3), (43, .iconst 1, 1), (44, .iload_n 1, 1), (45, .ishl, 1), (46, .ior, 1), (47, .putfield 28, 3), (50, .iconst 1, 1), (51, .ireturn, 1)]
theorem tab_La_comesHome : Tab 3 prog_5_method_14_code K_La_comesHome B_La_comesHome := tab_of rfl (by decide +kernel)
def B_La_wander : List (Nat × Instr × Nat) := [(0, .aload_n 0, 1), (1, .aload_n 0, 1), (2, .getfield 9, 3), (5, .iload_n 1, 1), (6, .iaload, 1), (7, .aload_n 0, 1), (8, .getfield 15, 3), (11, .iload_n 1, 1), (12, .iaload, 1), (13, .invokevirtual 79, 3), (16, .istore_n 3, 1), (17, .iload_n 3, 1), (18, .iconst (-1), 1), (19, .if_icmp .eq 19, 3), (22, .aload_n 0, 1), (23, .iload_n 1, 1), (24, .iload_n 3, 1), (25, .iload_n 2, 1), (26, .invokevirtual 82, 3), (29, .ifCond .eq 9, 3), (32, .aload_n 0, 1), (33, .iconst 1, 1), (34, .iload_n 1, 1), (35, .invokevirtual 86, 3), (38, .return_, 1)]
theorem tab_La_wander : Tab 3 prog_5_method_15_code K_La_wander B_La_wander := tab_of rfl (by decide +kernel)
def B_La_wayByHedge : List (Nat × Instr × Nat) := [(0, .aload_n 0, 1), (1, .iload_n 1, 1), (2, .invokevirtual 90, 3), (5, .istore_n 3, 1), (6, .iconst 0, 1), (7, .istore 4, 2), (9, .iload 4, 2), (11, .iconst 4, 1), (12, .if_icmp .ge 34, 3), (15, .iload_n 2, 1), (16, .getstatic 94, 3), (19, .iload 4, 2), (21, .iaload, 1), (22, .iadd, 1), (23, .iconst 4, 1), (24, .irem, 1), (25, .istore 5, 2), (27, .iload_n 3, 1), (28, .iload 5, 2), (30, .ishr, 1), (31, .iconst 1, 1), (32, .iand, 1), (33, .iconst 1, 1), (34, .if_icmp .ne 6, 3), (37, .iload 5, 2), (39, .ireturn, 1), (40, .iinc 4 1, 3), (43, .goto (-34), 3), (46, .iconst (-1), 1), (47, .ireturn, 1)]
theorem tab_La_wayByHedge : Tab 3 prog_5_method_16_code K_La_wayByHedge B_La_wayByHedge := tab_of rfl (by decide +kernel)
def B_La_draw : List (Nat × Instr × Nat) := [(0, .aload_n 0, 1), (1, .getfield 18, 3), (4, .istore_n 1, 1), (5, .aload_n 0, 1), (6, .aload_n 0, 1), (7, .getfield 18, 3), (10, .sipush 587, 3), (13, .imul, 1), (14, .sipush 457, 3), (17, .iadd, 1), (18, .sipush 30817, 3), (21, .irem, 1), (22, .putfield 18, 3), (25, .iload_n 1, 1), (26, .ireturn, 1)]
theorem tab_La_draw : Tab 3 prog_5_method_17_code K_La_draw B_La_draw := tab_of rfl (by decide +kernel)
def B_La_write : List (Nat × Instr × Nat) := [(0, .aload_n 0, 1), (1, .getfield 42, 3), (4, .bipush 30, 2), (6, .if_icmp .ne 28, 3), (9, .aload_n 0, 1), (10, .getfield 22, 3), (13, .iconst 1, 1), (14, .aload_n 0, 1), (15, .getfield 22, 3), (18, .iconst 0, 1), (19, .bipush 29, 2), (21, .invokestatic 45, 3), (24, .aload_n 0, 1), (25, .dup, 1), (26, .getfield 42, 3), (29, .iconst 1, 1), (30, .isub, 1), (31, .putfield 42, 3), (34, .aload_n 0, 1), (35, .getfield 22, 3), (38, .aload_n 0, 1), (39, .getfield 42, 3), (42, .aload_n 0, 1), (43, .getfield 39, 3), (46, .bipush 100, 2), (48, .imul, 1), (49, .iload_n 1, 1), (50, .bipush 50, 2), (52, .imul, 1), (53, .iadd, 1), (54, .iload_n 2, 1), (55, .iadd, 1), (56, .iastore, 1), (57, .aload_n 0, 1), (58, .dup, 1), (59, .getfield 42, 3), (62, .iconst 1, 1), (63, .iadd, 1), (64, .putfield 42, 3), (67, .return_, 1)]
theorem tab_La_write : Tab 3 prog_5_method_18_code K_La_write B_La_write := tab_of rfl (by decide +kernel)
def B_La_lineHour : List (Nat × Instr × Nat) := [(0, .aload_n 0, 1), (1, .getfield 22, 3), (4, .iload_n 1, 1), (5, .iaload, 1), (6, .bipush 100, 2), (8, .idiv, 1), (9, .ireturn, 1)]
theorem tab_La_lineHour : Tab 3 prog_5_method_19_code K_La_lineHour B_La_lineHour := tab_of rfl (by decide +kernel)
def B_La_lineKind : List (Nat × Instr × Nat) := [(0, .aload_n 0, 1), (1, .getfield 22, 3), (4, .iload_n 1, 1), (5, .iaload, 1), (6, .bipush 50, 2), (8, .idiv, 1), (9, .iconst 2, 1), (10, .irem, 1), (11, .ireturn, 1)]
theorem tab_La_lineKind : Tab 3 prog_5_method_20_code K_La_lineKind B_La_lineKind := tab_of rfl (by decide +kernel)
def B_La_lineWhich : List (Nat × Instr × Nat) := [(0, .aload_n 0, 1), (1, .getfield 22, 3), (4, .iload_n 1, 1), (5, .iaload, 1), (6, .bipush 50, 2), (8, .irem, 1), (9, .ireturn, 1)]
theorem tab_La_lineWhich : Tab 3 prog_5_method_21_code K_La_lineWhich B_La_lineWhich := tab_of rfl (by decide +kernel)
def B_La_stepsHome : List (Nat × Instr × Nat) := [(0, .aload_n 0, 1), (1, .getfield 9, 3), (4, .iload_n 1, 1), (5, .iaload, 1), (6, .istore_n 3, 1), (7, .aload_n 0, 1), (8, .iload_n 3, 1), (9, .aload_n 0, 1), (10, .getfield 15, 3), (13, .iload_n 1, 1), (14, .iaload, 1), (15, .invokevirtual 79, 3), (18, .istore 4, 2), (20, .iconst 1, 1), (21, .istore 5, 2), (23, .iload 5, 2), (25, .bipush 100, 2), (27, .if_icmp .gt 43, 3), (30, .iload 4, 2), (32, .iconst (-1), 1), (33, .if_icmp .eq 37, 3), (36, .iload_n 3, 1), (37, .iload 4, 2), (39, .invokestatic 76, 3), (42, .istore_n 3, 1), (43, .iload_n 2, 1), (44, .iload_n 3, 1), (45, .ishr, 1), (46, .iconst 1, 1), (47, .iand, 1), (48, .iconst 1, 1), (49, .if_icmp .ne 6, 3), (52, .iload 5, 2), (54, .ireturn, 1), (55, .aload_n 0, 1), (56, .iload_n 3, 1), (57, .iload 4, 2), (59, .invokevirtual 79, 3), (62, .istore 4, 2), (64, .iinc 5 1, 3), (67, .goto (-44), 3), (70, .iconst (-1), 1), (71, .ireturn, 1)]
theorem tab_La_stepsHome : Tab 3 prog_5_method_22_code K_La_stepsHome B_La_stepsHome := tab_of rfl (by decide +kernel)
def B_La_ringOf : List (Nat × Instr × Nat) := [(0, .aload_n 0, 1), (1, .aload_n 0, 1), (2, .getfield 9, 3), (5, .iload_n 1, 1), (6, .iaload, 1), (7, .aload_n 0, 1), (8, .getfield 15, 3), (11, .iload_n 1, 1), (12, .iaload, 1), (13, .invokevirtual 79, 3), (16, .istore_n 2, 1), (17, .iload_n 2, 1), (18, .iconst (-1), 1), (19, .if_icmp .ne 5, 3), (22, .iconst 0, 1), (23, .ireturn, 1), (24, .aload_n 0, 1), (25, .getfield 9, 3), (28, .iload_n 1, 1), (29, .iaload, 1), (30, .iload_n 2, 1), (31, .invokestatic 76, 3), (34, .istore_n 3, 1), (35, .iload_n 2, 1), (36, .istore 4, 2), (38, .iload_n 3, 1), (39, .istore 5, 2), (41, .iconst 1, 1), (42, .istore 6, 2), (44, .iload 6, 2), (46, .bipush 100, 2), (48, .if_icmp .gt 40, 3), (51, .aload_n 0, 1), (52, .iload 5, 2), (54, .iload_n 2, 1), (55, .invokevirtual 79, 3), (58, .istore_n 2, 1), (59, .iload 5, 2), (61, .iload_n 2, 1), (62, .invokestatic 76, 3), (65, .istore 5, 2), (67, .iload 5, 2), (69, .iload_n 3, 1), (70, .if_icmp .ne 12, 3), (73, .iload_n 2, 1), (74, .iload 4, 2), (76, .if_icmp .ne 6, 3), (79, .iload 6, 2), (81, .ireturn, 1), (82, .iinc 6 1, 3), (85, .goto (-41), 3), (88, .iconst 0, 1), (89, .ireturn, 1)]
theorem tab_La_ringOf : Tab 3 prog_5_method_23_code K_La_ringOf B_La_ringOf := tab_of rfl (by decide +kernel)
def B_Mz_layOut : List (Nat × Instr × Nat) := [(0, .lload_n 1, 1), (1, .invokestatic 15, 3), (4, .istore_n 3, 1), (5, .aload_n 0, 1), (6, .iconst 0, 1), (7, .putfield 21, 3), (10, .iconst 0, 1), (11, .istore 4, 2), (13, .iload 4, 2), (15, .iconst 5, 1), (16, .if_icmp .ge 34, 3), (19, .aload_n 0, 1), (20, .dup, 1), (21, .getfield 21, 3), (24, .iload_n 3, 1), (25, .iload 4, 2), (27, .iconst 4, 1), (28, .imul, 1), (29, .ishr, 1), (30, .iconst (-1), 1), (31, .ixor, 1), (32, .bipush 15, 2), (34, .iand, 1), (35, .iload 4, 2), (37, .iconst 5, 1), (38, .imul, 1), (39, .ishl, 1), (40, .ior, 1), (41, .putfield 21, 3), (44, .iinc 4 1, 3), (47, .goto (-34), 3), (50, .aload_n 0, 1), (51, .lload_n 1, 1), (52, .invokestatic 25, 3), (55, .iconst (-1), 1), (56, .ixor, 1), (57, .ldc 28, 2), (59, .iand, 1), (60, .putfield 29, 3), (63, .return_, 1)]
theorem tab_Mz_layOut : Tab 4 prog_6_method_2_code K_Mz_layOut B_Mz_layOut := tab_of rfl (by decide +kernel)
def B_Mz_grown : List (Nat × Instr × Nat) := [(0, .iload_n 1, 1), (1, .iload_n 1, 1), (2, .aload_n 0, 1), (3, .getfield 21, 3), (6, .iand, 1), (7, .iconst 1, 1), (8, .ishl, 1), (9, .ior, 1), (10, .iload_n 1, 1), (11, .iconst 1, 1), (12, .ishr, 1), (13, .aload_n 0, 1), (14, .getfield 21, 3), (17, .iand, 1), (18, .ior, 1), (19, .iload_n 1, 1), (20, .aload_n 0, 1), (21, .getfield 29, 3), (24, .iand, 1), (25, .iconst 5, 1), (26, .ishl, 1), (27, .ior, 1), (28, .iload_n 1, 1), (29, .iconst 5, 1), (30, .ishr, 1), (31, .aload_n 0, 1), (32, .getfield 29, 3), (35, .iand, 1), (36, .ior, 1), (37, .ireturn, 1)]
theorem tab_Mz_grown : Tab 4 prog_6_method_3_code K_Mz_grown B_Mz_grown := tab_of rfl (by decide +kernel)
def B_Mz_grownOver : List (Nat × Instr × Nat) := [(0, .iload_n 0, 1), (1, .iload_n 0, 1), (2, .ldc 32, 2), (4, .iand, 1), (5, .iconst 1, 1), (6, .ishl, 1), (7, .ior, 1), (8, .iload_n 0, 1), (9, .iconst 1, 1), (10, .ishr, 1), (11, .ldc 32, 2), (13, .iand, 1), (14, .ior, 1), (15, .iload_n 0, 1), (16, .iconst 5, 1), (17, .ishl, 1), (18, .ldc 33, 2), (20, .iand, 1), (21, .ior, 1), (22, .iload_n 0, 1), (23, .iconst 5, 1), (24, .ishr, 1), (25, .ior, 1), (26, .ireturn, 1)]
theorem tab_Mz_grownOver : Tab 4 prog_6_method_4_code K_Mz_grownOver B_Mz_grownOver := tab_of rfl (by decide +kernel)
def B_Mz_within : List (Nat × Instr × Nat) := [(0, .iload_n 1, 1), (1, .istore_n 3, 1), (2, .iconst 0, 1), (3, .istore 4, 2), (5, .iload 4, 2), (7, .iload_n 2, 1), (8, .if_icmp .ge 22, 3), (11, .iload 4, 2), (13, .bipush 25, 2), (15, .if_icmp .ge 15, 3), (18, .aload_n 0, 1), (19, .iload_n 3, 1), (20, .invokevirtual 34, 3), (23, .istore_n 3, 1), (24, .iinc 4 1, 3), (27, .goto (-22), 3), (30, .iload_n 3, 1), (31, .ireturn, 1)]
theorem tab_Mz_within : Tab 4 prog_6_method_5_code K_Mz_within B_Mz_within := tab_of rfl (by decide +kernel)
def B_Mz_flooded : List (Nat × Instr × Nat) := [(0, .iload_n 1, 1), (1, .istore_n 3, 1), (2, .iconst 0, 1), (3, .istore 4, 2), (5, .iload 4, 2), (7, .bipush 25, 2), (9, .if_icmp .ge 29, 3), (12, .aload_n 0, 1), (13, .iload_n 3, 1), (14, .invokevirtual 34, 3), (17, .iload_n 2, 1), (18, .iand, 1), (19, .istore 5, 2), (21, .iload 5, 2), (23, .iload_n 3, 1), (24, .if_icmp .ne 5, 3), (27, .iload_n 3, 1), (28, .ireturn, 1), (29, .iload 5, 2), (31, .istore_n 3, 1), (32, .iinc 4 1, 3), (35, .goto (-30), 3), (38, .iload_n 3, 1), (39, .ireturn, 1)]
theorem tab_Mz_flooded : Tab 4 prog_6_method_6_code K_Mz_flooded B_Mz_flooded := tab_of rfl (by decide +kernel)
def B_Mz_regionOf : List (Nat × Instr × Nat) := [(0, .aload_n 0, 1), (1, .iconst 1, 1), (2, .iload_n 1, 1), (3, .ishl, 1), (4, .ldc 33, 2), (6, .invokevirtual 38, 3), (9, .ireturn, 1)]
theorem tab_Mz_regionOf : Tab 4 prog_6_method_7_code K_Mz_regionOf B_Mz_regionOf := tab_of rfl (by decide +kernel)
def B_Mz_milesTo : List (Nat × Instr × Nat) := [(0, .iconst 1, 1), (1, .iload_n 1, 1), (2, .ishl, 1), (3, .istore_n 3, 1), (4, .iconst 0, 1), (5, .istore 4, 2), (7, .iload 4, 2), (9, .bipush 25, 2), (11, .if_icmp .ge 24, 3), (14, .iload_n 3, 1), (15, .iload_n 2, 1), (16, .iand, 1), (17, .ifCond .eq 6, 3), (20, .iload 4, 2), (22, .ireturn, 1), (23, .aload_n 0, 1), (24, .iload_n 3, 1), (25, .invokevirtual 34, 3), (28, .istore_n 3, 1), (29, .iinc 4 1, 3), (32, .goto (-25), 3), (35, .iconst (-1), 1), (36, .ireturn, 1)]
theorem tab_Mz_milesTo : Tab 4 prog_6_method_8_code K_Mz_milesTo B_Mz_milesTo := tab_of rfl (by decide +kernel)
end
section
def B_Mz_wayNearer : List (Nat × Instr × Nat) := [(0, .aload_n 0, 1), (1, .iload_n 2, 1), (2, .iload_n 3, 1), (3, .iconst 1, 1), (4, .isub, 1), (5, .invokevirtual 42, 3), (8, .istore 4, 2), (10, .iconst 0, 1), (11, .istore 5, 2), (13, .iload 5, 2), (15, .iconst 4, 1), (16, .if_icmp .ge 53, 3), (19, .iload_n 1, 1), (20, .iload 5, 2), (22, .invokestatic 45, 3), (25, .istore 6, 2), (27, .iload 6, 2), (29, .iconst (-1), 1), (30, .if_icmp .eq 33, 3), (33, .iload 4, 2), (35, .iload 6, 2), (37, .ishr, 1), (38, .iconst 1, 1), (39, .iand, 1), (40, .iconst 1, 1), (41, .if_icmp .ne 22, 3), (44, .aload_n 0, 1), (45, .iconst 1, 1), (46, .iload_n 1, 1), (47, .ishl, 1), (48, .invokevirtual 34, 3), (51, .iload 6, 2), (53, .ishr, 1), (54, .iconst 1, 1), (55, .iand, 1), (56, .iconst 1, 1), (57, .if_icmp .ne 6, 3), (60, .iload 5, 2), (62, .ireturn, 1), (63, .iinc 5 1, 3), (66, .goto (-53), 3), (69, .iconst (-1), 1), (70, .ireturn, 1)]
theorem tab_Mz_wayNearer : Tab 4 prog_6_method_9_code K_Mz_wayNearer B_Mz_wayNearer := tab_of rfl (by decide +kernel)
def B_Mz_cutsTo : List (Nat × Instr × Nat) := [(0, .aload_n 0, 1), (1, .iload_n 1, 1), (2, .invokevirtual 50, 3), (5, .istore_n 3, 1), (6, .iconst 0, 1), (7, .istore 4, 2), (9, .iload 4, 2), (11, .bipush 25, 2), (13, .if_icmp .ge 29, 3), (16, .iload_n 3, 1), (17, .iload_n 2, 1), (18, .iand, 1), (19, .ifCond .eq 6, 3), (22, .iload 4, 2), (24, .ireturn, 1), (25, .aload_n 0, 1), (26, .iload_n 3, 1), (27, .invokestatic 53, 3), (30, .ldc 33, 2), (32, .invokevirtual 38, 3), (35, .istore_n 3, 1), (36, .iinc 4 1, 3), (39, .goto (-30), 3), (42, .iconst (-1), 1), (43, .ireturn, 1)]
theorem tab_Mz_cutsTo : Tab 4 prog_6_method_10_code K_Mz_cutsTo B_Mz_cutsTo := tab_of rfl (by decide +kernel)
def B_Mz_farthestFrom : List (Nat × Instr × Nat) := [(0, .iconst 1, 1), (1, .iload_n 1, 1), (2, .ishl, 1), (3, .istore_n 2, 1), (4, .iload_n 2, 1), (5, .istore_n 3, 1), (6, .iconst 0, 1), (7, .istore 4, 2), (9, .iload 4, 2), (11, .bipush 25, 2), (13, .if_icmp .ge 35, 3), (16, .aload_n 0, 1), (17, .iload_n 2, 1), (18, .invokevirtual 34, 3), (21, .istore 5, 2), (23, .iload 5, 2), (25, .iload_n 2, 1), (26, .if_icmp .ne 6, 3), (29, .goto 19, 3), (32, .iload 5, 2), (34, .iload_n 2, 1), (35, .iconst (-1), 1), (36, .ixor, 1), (37, .iand, 1), (38, .istore_n 3, 1), (39, .iload 5, 2), (41, .istore_n 2, 1), (42, .iinc 4 1, 3), (45, .goto (-36), 3), (48, .iload_n 3, 1), (49, .invokestatic 56, 3), (52, .ireturn, 1)]
theorem tab_Mz_farthestFrom : Tab 4 prog_6_method_11_code K_Mz_farthestFrom B_Mz_farthestFrom := tab_of rfl (by decide +kernel)
def B_Mz_lowest : List (Nat × Instr × Nat) := [(0, .iload_n 0, 1), (1, .iload_n 0, 1), (2, .ineg, 1), (3, .iand, 1), (4, .iconst 1, 1), (5, .isub, 1), (6, .invokestatic 59, 3), (9, .ireturn, 1)]
theorem tab_Mz_lowest : Tab 4 prog_6_method_12_code K_Mz_lowest B_Mz_lowest := tab_of rfl (by decide +kernel)
def B_Mz_regionCount : List (Nat × Instr × Nat) := [(0, .ldc 33, 2), (2, .istore_n 1, 1), (3, .iconst 0, 1), (4, .istore_n 2, 1), (5, .iconst 0, 1), (6, .istore_n 3, 1), (7, .iload_n 3, 1), (8, .bipush 25, 2), (10, .if_icmp .ge 29, 3), (13, .iload_n 1, 1), (14, .ifCond .eq 25, 3), (17, .iload_n 1, 1), (18, .aload_n 0, 1), (19, .iload_n 1, 1), (20, .invokestatic 56, 3), (23, .invokevirtual 50, 3), (26, .iconst (-1), 1), (27, .ixor, 1), (28, .iand, 1), (29, .istore_n 1, 1), (30, .iinc 2 1, 3), (33, .iinc 3 1, 3), (36, .goto (-29), 3), (39, .iload_n 2, 1), (40, .ireturn, 1)]
theorem tab_Mz_regionCount : Tab 4 prog_6_method_13_code K_Mz_regionCount B_Mz_regionCount := tab_of rfl (by decide +kernel)
def B_Mz_greatestRegion : List (Nat × Instr × Nat) := [(0, .ldc 33, 2), (2, .istore_n 1, 1), (3, .iconst 0, 1), (4, .istore_n 2, 1), (5, .iconst 0, 1), (6, .istore_n 3, 1), (7, .iload_n 3, 1), (8, .bipush 25, 2), (10, .if_icmp .ge 40, 3), (13, .iload_n 1, 1), (14, .ifCond .eq 36, 3), (17, .aload_n 0, 1), (18, .iload_n 1, 1), (19, .invokestatic 56, 3), (22, .invokevirtual 50, 3), (25, .istore 4, 2), (27, .iload_n 2, 1), (28, .iload 4, 2), (30, .invokestatic 59, 3), (33, .invokestatic 64, 3), (36, .istore_n 2, 1), (37, .iload_n 1, 1), (38, .iload 4, 2), (40, .iconst (-1), 1), (41, .ixor, 1), (42, .iand, 1), (43, .istore_n 1, 1), (44, .iinc 3 1, 3), (47, .goto (-40), 3), (50, .iload_n 2, 1), (51, .ireturn, 1)]
theorem tab_Mz_greatestRegion : Tab 4 prog_6_method_14_code K_Mz_greatestRegion B_Mz_greatestRegion := tab_of rfl (by decide +kernel)
def B_Mz_isNeck : List (Nat × Instr × Nat) := [(0, .aload_n 0, 1), (1, .iload_n 1, 1), (2, .invokevirtual 50, 3), (5, .iconst 1, 1), (6, .iload_n 1, 1), (7, .ishl, 1), (8, .iconst (-1), 1), (9, .ixor, 1), (10, .iand, 1), (11, .istore_n 2, 1), (12, .iload_n 2, 1), (13, .ifCond .eq 20, 3), (16, .aload_n 0, 1), (17, .iload_n 2, 1), (18, .iload_n 2, 1), (19, .ineg, 1), (20, .iand, 1), (21, .iload_n 2, 1), (22, .invokevirtual 38, 3), (25, .iload_n 2, 1), (26, .if_icmp .eq 7, 3), (29, .iconst 1, 1), (30, .goto 4, 3), (33, .iconst 0, 1), (34, .ireturn, 1)]
theorem tab_Mz_isNeck : Tab 4 prog_6_method_15_code K_Mz_isNeck B_Mz_isNeck := tab_of rfl (by decide +kernel)
def B_Mz_pathsTo : List (Nat × Instr × Nat) := [(0, .aload_n 0, 1), (1, .iload_n 1, 1), (2, .invokevirtual 50, 3), (5, .iload_n 2, 1), (6, .iand, 1), (7, .ifCond .ne 5, 3), (10, .lconst 0, 1), (11, .lreturn, 1), (12, .aload_n 0, 1), (13, .iconst 1, 1), (14, .iload_n 1, 1), (15, .ishl, 1), (16, .iload_n 2, 1), (17, .ldc 33, 2), (19, .iconst 1, 1), (20, .iload_n 1, 1), (21, .ishl, 1), (22, .iconst (-1), 1), (23, .ixor, 1), (24, .iand, 1), (25, .iconst 0, 1), (26, .invokevirtual 69, 3), (29, .lreturn, 1)]
theorem tab_Mz_pathsTo : Tab 4 prog_6_method_16_code K_Mz_pathsTo B_Mz_pathsTo := tab_of rfl (by decide +kernel)
def B_Mz_pathsOn : List (Nat × Instr × Nat) := [(0, .iload_n 1, 1), (1, .iload_n 2, 1), (2, .if_icmp .ne 5, 3), (5, .lconst 1, 1), (6, .lreturn, 1), (7, .iload 4, 2), (9, .bipush 25, 2), (11, .if_icmp .lt 5, 3), (14, .lconst 0, 1), (15, .lreturn, 1), (16, .aload_n 0, 1), (17, .iload_n 1, 1), (18, .invokevirtual 34, 3), (21, .iload_n 3, 1), (22, .iand, 1), (23, .istore 5, 2), (25, .lconst 0, 1), (26, .lstore 6, 2), (28, .iconst 0, 1), (29, .istore 8, 2), (31, .iload 8, 2), (33, .iconst 4, 1), (34, .if_icmp .ge 53, 3), (37, .iload 5, 2), (39, .ifCond .eq 48, 3), (42, .iload 5, 2), (44, .iload 5, 2), (46, .ineg, 1), (47, .iand, 1), (48, .istore 9, 2), (50, .iload 5, 2), (52, .iload 9, 2), (54, .iconst (-1), 1), (55, .ixor, 1), (56, .iand, 1), (57, .istore 5, 2), (59, .lload 6, 2), (61, .aload_n 0, 1), (62, .iload 9, 2), (64, .iload_n 2, 1), (65, .iload_n 3, 1), (66, .iload 9, 2), (68, .iconst (-1), 1), (69, .ixor, 1), (70, .iand, 1), (71, .iload 4, 2), (73, .iconst 1, 1), (74, .iadd, 1), (75, .invokevirtual 69, 3), (78, .ladd, 1), (79, .lstore 6, 2), (81, .iinc 8 1, 3), (84, .goto (-53), 3), (87, .lload 6, 2), (89, .lreturn, 1)]
theorem tab_Mz_pathsOn : Tab 4 prog_6_method_17_code K_Mz_pathsOn B_Mz_pathsOn := tab_of rfl (by decide +kernel)
def B_Mz_fewestGates : List (Nat × Instr × Nat) := [(0, .iconst 0, 1), (1, .istore_n 2, 1), (2, .iload_n 2, 1), (3, .bipush 25, 2), (5, .if_icmp .ge 23, 3), (8, .aload_n 0, 1), (9, .getfield 9, 3), (12, .iload_n 2, 1), (13, .aload_n 0, 1), (14, .iconst 1, 1), (15, .iload_n 2, 1), (16, .ishl, 1), (17, .iload_n 1, 1), (18, .invokevirtual 42, 3), (21, .iastore, 1), (22, .iinc 2 1, 3), (25, .goto (-23), 3), (28, .iconst 1, 1), (29, .istore_n 2, 1), (30, .iload_n 2, 1), (31, .iconst 4, 1), (32, .if_icmp .gt 25, 3), (35, .aload_n 0, 1), (36, .iload_n 2, 1), (37, .bipush 25, 2), (39, .iconst 0, 1), (40, .invokevirtual 73, 3), (43, .istore_n 3, 1), (44, .iload_n 3, 1), (45, .iconst (-1), 1), (46, .if_icmp .eq 5, 3), (49, .iload_n 3, 1), (50, .ireturn, 1), (51, .iinc 2 1, 3), (54, .goto (-24), 3), (57, .iconst (-1), 1), (58, .ireturn, 1)]
theorem tab_Mz_fewestGates : Tab 4 prog_6_method_18_code K_Mz_fewestGates B_Mz_fewestGates := tab_of rfl (by decide +kernel)
def B_Mz_lowestCover : List (Nat × Instr × Nat) := [(0, .iload_n 1, 1), (1, .ifCond .gt 15, 3), (4, .iload_n 3, 1), (5, .ldc 33, 2), (7, .if_icmp .ne 7, 3), (10, .iconst 0, 1), (11, .goto 4, 3), (14, .iconst (-1), 1), (15, .ireturn, 1), (16, .iconst 0, 1), (17, .istore 4, 2), (19, .iload 4, 2), (21, .iload_n 2, 1), (22, .if_icmp .ge 54, 3), (25, .ldc 77, 2), (27, .iload 4, 2), (29, .ishr, 1), (30, .iconst 1, 1), (31, .iand, 1), (32, .iconst 1, 1), (33, .if_icmp .ne 37, 3), (36, .aload_n 0, 1), (37, .iload_n 1, 1), (38, .iconst 1, 1), (39, .isub, 1), (40, .iload 4, 2), (42, .iload_n 3, 1), (43, .aload_n 0, 1), (44, .getfield 9, 3), (47, .iload 4, 2), (49, .iaload, 1), (50, .ior, 1), (51, .invokevirtual 73, 3), (54, .istore 5, 2), (56, .iload 5, 2), (58, .iconst (-1), 1), (59, .if_icmp .eq 11, 3), (62, .iload 5, 2), (64, .iconst 1, 1), (65, .iload 4, 2), (67, .ishl, 1), (68, .ior, 1), (69, .ireturn, 1), (70, .iinc 4 1, 3), (73, .goto (-54), 3), (76, .iconst (-1), 1), (77, .ireturn, 1)]
theorem tab_Mz_lowestCover : Tab 4 prog_6_method_19_code K_Mz_lowestCover B_Mz_lowestCover := tab_of rfl (by decide +kernel)
def B_Pl_isCell : List (Nat × Instr × Nat) := [(0, .iload_n 0, 1), (1, .ifCond .lt 13, 3), (4, .iload_n 0, 1), (5, .bipush 25, 2), (7, .if_icmp .ge 7, 3), (10, .iconst 1, 1), (11, .goto 4, 3), (14, .iconst 0, 1), (15, .ireturn, 1)]
theorem tab_Pl_isCell : Tab 5 prog_7_method_2_code K_Pl_isCell B_Pl_isCell := tab_of rfl (by decide +kernel)
def B_Pl_isWay : List (Nat × Instr × Nat) := [(0, .iload_n 0, 1), (1, .ifCond .lt 12, 3), (4, .iload_n 0, 1), (5, .iconst 4, 1), (6, .if_icmp .ge 7, 3), (9, .iconst 1, 1), (10, .goto 4, 3), (13, .iconst 0, 1), (14, .ireturn, 1)]
theorem tab_Pl_isWay : Tab 5 prog_7_method_3_code K_Pl_isWay B_Pl_isWay := tab_of rfl (by decide +kernel)
def B_Pl_isHedge : List (Nat × Instr × Nat) := [(0, .iload_n 0, 1), (1, .ifCond .lt 13, 3), (4, .iload_n 0, 1), (5, .bipush 40, 2), (7, .if_icmp .ge 7, 3), (10, .iconst 1, 1), (11, .goto 4, 3), (14, .iconst 0, 1), (15, .ireturn, 1)]
theorem tab_Pl_isHedge : Tab 5 prog_7_method_4_code K_Pl_isHedge B_Pl_isHedge := tab_of rfl (by decide +kernel)
def B_Pl_cellBeyond : List (Nat × Instr × Nat) := [(0, .iload_n 1, 1), (1, .tableswitch 87 0 3 #[31, 44, 59, 73], 31), (32, .iload_n 0, 1), (33, .iconst 5, 1), (34, .if_icmp .lt 9, 3), (37, .iload_n 0, 1), (38, .iconst 5, 1), (39, .isub, 1), (40, .goto 4, 3), (43, .iconst (-1), 1), (44, .ireturn, 1), (45, .iload_n 0, 1), (46, .iconst 5, 1), (47, .irem, 1), (48, .iconst 4, 1), (49, .if_icmp .ge 9, 3), (52, .iload_n 0, 1), (53, .iconst 1, 1), (54, .iadd, 1), (55, .goto 4, 3), (58, .iconst (-1), 1), (59, .ireturn, 1), (60, .iload_n 0, 1), (61, .bipush 20, 2), (63, .if_icmp .ge 9, 3), (66, .iload_n 0, 1), (67, .iconst 5, 1), (68, .iadd, 1), (69, .goto 4, 3), (72, .iconst (-1), 1), (73, .ireturn, 1), (74, .iload_n 0, 1), (75, .iconst 5, 1), (76, .irem, 1), (77, .ifCond .le 9, 3), (80, .iload_n 0, 1), (81, .iconst 1, 1), (82, .isub, 1), (83, .goto 4, 3), (86, .iconst (-1), 1), (87, .ireturn, 1), (88, .iconst (-1), 1), (89, .ireturn, 1)]
theorem tab_Pl_cellBeyond : Tab 5 prog_7_method_5_code K_Pl_cellBeyond B_Pl_cellBeyond := tab_of rfl (by decide +kernel)
def B_Pl_hedgeBy : List (Nat × Instr × Nat) := [(0, .iload_n 0, 1), (1, .iconst 5, 1), (2, .idiv, 1), (3, .istore_n 2, 1), (4, .iload_n 0, 1), (5, .iconst 5, 1), (6, .irem, 1), (7, .istore_n 3, 1), (8, .iload_n 2, 1), (9, .iconst 4, 1), (10, .imul, 1), (11, .iload_n 3, 1), (12, .iadd, 1), (13, .istore 4, 2), (15, .iload_n 1, 1), (16, .tableswitch 86 0 3 #[32, 47, 59, 73], 32), (48, .iload_n 2, 1), (49, .ifCond .le 12, 3), (52, .bipush 20, 2), (54, .iload_n 0, 1), (55, .iadd, 1), (56, .iconst 5, 1), (57, .isub, 1), (58, .goto 4, 3), (61, .iconst (-1), 1), (62, .ireturn, 1), (63, .iload_n 3, 1), (64, .iconst 4, 1), (65, .if_icmp .ge 8, 3), (68, .iload 4, 2), (70, .goto 4, 3), (73, .iconst (-1), 1), (74, .ireturn, 1), (75, .iload_n 2, 1), (76, .iconst 4, 1), (77, .if_icmp .ge 10, 3), (80, .bipush 20, 2), (82, .iload_n 0, 1), (83, .iadd, 1), (84, .goto 4, 3), (87, .iconst (-1), 1), (88, .ireturn, 1), (89, .iload_n 3, 1), (90, .ifCond .le 10, 3), (93, .iload 4, 2), (95, .iconst 1, 1), (96, .isub, 1), (97, .goto 4, 3), (100, .iconst (-1), 1), (101, .ireturn, 1), (102, .iconst (-1), 1), (103, .ireturn, 1)]
theorem tab_Pl_hedgeBy : Tab 5 prog_7_method_6_code K_Pl_hedgeBy B_Pl_hedgeBy := tab_of rfl (by decide +kernel)
def B_Pl_firstCell : List (Nat × Instr × Nat) := [(0, .iload_n 0, 1), (1, .bipush 20, 2), (3, .if_icmp .ge 15, 3), (6, .iload_n 0, 1), (7, .iconst 4, 1), (8, .idiv, 1), (9, .iconst 5, 1), (10, .imul, 1), (11, .iload_n 0, 1), (12, .iconst 4, 1), (13, .irem, 1), (14, .iadd, 1), (15, .goto 7, 3), (18, .iload_n 0, 1), (19, .bipush 20, 2), (21, .isub, 1), (22, .ireturn, 1)]
theorem tab_Pl_firstCell : Tab 5 prog_7_method_7_code K_Pl_firstCell B_Pl_firstCell := tab_of rfl (by decide +kernel)
def B_Pl_secondCell : List (Nat × Instr × Nat) := [(0, .iload_n 0, 1), (1, .invokestatic 9, 3), (4, .iload_n 0, 1), (5, .bipush 20, 2), (7, .if_icmp .ge 7, 3), (10, .iconst 1, 1), (11, .goto 4, 3), (14, .iconst 5, 1), (15, .iadd, 1), (16, .ireturn, 1)]
theorem tab_Pl_secondCell : Tab 5 prog_7_method_8_code K_Pl_secondCell B_Pl_secondCell := tab_of rfl (by decide +kernel)
def B_Pl_apart : List (Nat × Instr × Nat) := [(0, .iload_n 0, 1), (1, .ifCond .lt 19, 3), (4, .iload_n 0, 1), (5, .bipush 25, 2), (7, .if_icmp .ge 13, 3), (10, .iload_n 1, 1), (11, .ifCond .lt 9, 3), (14, .iload_n 1, 1), (15, .bipush 25, 2), (17, .if_icmp .lt 5, 3), (20, .iconst 0, 1), (21, .ireturn, 1), (22, .iload_n 0, 1), (23, .iconst 5, 1), (24, .idiv, 1), (25, .iload_n 1, 1), (26, .iconst 5, 1), (27, .idiv, 1), (28, .isub, 1), (29, .invokestatic 15, 3), (32, .iload_n 0, 1), (33, .iconst 5, 1), (34, .irem, 1), (35, .iload_n 1, 1), (36, .iconst 5, 1), (37, .irem, 1), (38, .isub, 1), (39, .invokestatic 15, 3), (42, .iadd, 1), (43, .ireturn, 1)]
theorem tab_Pl_apart : Tab 5 prog_7_method_9_code K_Pl_apart B_Pl_apart := tab_of rfl (by decide +kernel)
def B_Rd_hasRoomFor : List (Nat × Instr × Nat) := [(0, .aload_n 0, 1), (1, .getfield 22, 3), (4, .iload_n 1, 1), (5, .iadd, 1), (6, .sipush 300, 3), (9, .if_icmp .gt 7, 3), (12, .iconst 1, 1), (13, .goto 4, 3), (16, .iconst 0, 1), (17, .ireturn, 1)]
theorem tab_Rd_hasRoomFor : Tab 6 prog_8_method_2_code K_Rd_hasRoomFor B_Rd_hasRoomFor := tab_of rfl (by decide +kernel)
def B_Rd_addFour : List (Nat × Instr × Nat) := [(0, .bipush 24, 2), (2, .istore_n 2, 1), (3, .iload_n 2, 1), (4, .ifCond .lt 45, 3), (7, .aload_n 0, 1), (8, .getfield 22, 3), (11, .sipush 300, 3), (14, .if_icmp .ge 35, 3), (17, .aload_n 0, 1), (18, .getfield 9, 3), (21, .aload_n 0, 1), (22, .getfield 22, 3), (25, .iload_n 1, 1), (26, .iload_n 2, 1), (27, .ishr, 1), (28, .sipush 255, 3), (31, .iand, 1), (32, .iastore, 1), (33, .aload_n 0, 1), (34, .dup, 1), (35, .getfield 22, 3), (38, .iconst 1, 1), (39, .iadd, 1), (40, .putfield 22, 3), (43, .iinc 2 (-8), 3), (46, .goto (-43), 3), (49, .return_, 1)]
theorem tab_Rd_addFour : Tab 6 prog_8_method_3_code K_Rd_addFour B_Rd_addFour := tab_of rfl (by decide +kernel)
def B_Rd_reads : List (Nat × Instr × Nat) := [(0, .aload_n 0, 1), (1, .iconst 1, 1), (2, .putfield 26, 3), (5, .aload_n 0, 1), (6, .iconst 0, 1), (7, .putfield 30, 3), (10, .aload_n 0, 1), (11, .iconst (-1), 1), (12, .putfield 33, 3), (15, .aload_n 0, 1), (16, .getfield 18, 3), (19, .invokevirtual 36, 3), (22, .aload_n 0, 1), (23, .iconst 0, 1), (24, .putfield 39, 3), (27, .aload_n 0, 1), (28, .iconst 0, 1), (29, .putfield 42, 3), (32, .aload_n 0, 1), (33, .invokevirtual 45, 3), (36, .iconst 0, 1), (37, .istore_n 1, 1), (38, .iload_n 1, 1), (39, .bipush 24, 2), (41, .if_icmp .gt 25, 3), (44, .aload_n 0, 1), (45, .getfield 48, 3), (48, .ifCond .eq 18, 3), (51, .aload_n 0, 1), (52, .invokevirtual 51, 3), (55, .ifCond .ne 5, 3), (58, .iconst 0, 1), (59, .ireturn, 1), (60, .iinc 1 1, 3), (63, .goto (-25), 3), (66, .iconst 1, 1), (67, .ireturn, 1)]
theorem tab_Rd_reads : Tab 6 prog_8_method_4_code K_Rd_reads B_Rd_reads := tab_of rfl (by decide +kernel)
def B_Rd_refuse : List (Nat × Instr × Nat) := [(0, .aload_n 0, 1), (1, .iload_n 1, 1), (2, .putfield 30, 3), (5, .aload_n 0, 1), (6, .aload_n 0, 1), (7, .getfield 55, 3), (10, .putfield 33, 3), (13, .iconst 0, 1), (14, .ireturn, 1)]
theorem tab_Rd_refuse : Tab 6 prog_8_method_5_code K_Rd_refuse B_Rd_refuse := tab_of rfl (by decide +kernel)
def B_Rd_take : List (Nat × Instr × Nat) := [(0, .aload_n 0, 1), (1, .getfield 48, 3), (4, .iload_n 1, 1), (5, .if_icmp .eq 9, 3), (8, .aload_n 0, 1), (9, .iconst 1, 1), (10, .invokevirtual 58, 3), (13, .ireturn, 1), (14, .aload_n 0, 1), (15, .invokevirtual 45, 3), (18, .iconst 1, 1), (19, .ireturn, 1)]
theorem tab_Rd_take : Tab 6 prog_8_method_6_code K_Rd_take B_Rd_take := tab_of rfl (by decide +kernel)
def B_Rd_clause : List (Nat × Instr × Nat) := [(0, .aload_n 0, 1), (1, .getfield 48, 3), (4, .istore_n 1, 1), (5, .iload_n 1, 1), (6, .bipush 16, 2), (8, .if_icmp .lt 9, 3), (11, .iload_n 1, 1), (12, .bipush 24, 2), (14, .if_icmp .le 9, 3), (17, .aload_n 0, 1), (18, .iconst 1, 1), (19, .invokevirtual 58, 3), (22, .ireturn, 1), (23, .iload_n 1, 1), (24, .bipush 16, 2), (26, .if_icmp .eq 9, 3), (29, .iload_n 1, 1), (30, .bipush 17, 2), (32, .if_icmp .ne 7, 3), (35, .iconst 1, 1), (36, .goto 4, 3), (39, .iconst 0, 1), (40, .istore_n 2, 1), (41, .iload_n 2, 1), (42, .ifCond .eq 20, 3), (45, .aload_n 0, 1), (46, .getfield 18, 3), (49, .iload_n 1, 1), (50, .invokevirtual 62, 3), (53, .ifCond .eq 9, 3), (56, .aload_n 0, 1), (57, .iconst 4, 1), (58, .invokevirtual 58, 3), (61, .ireturn, 1), (62, .aload_n 0, 1), (63, .getfield 18, 3), (66, .getfield 65, 3), (69, .bipush 24, 2), (71, .if_icmp .lt 10, 3), (74, .aload_n 0, 1), (75, .bipush 6, 2), (77, .invokevirtual 58, 3), (80, .ireturn, 1), (81, .aload_n 0, 1), (82, .invokevirtual 45, 3), (85, .iload_n 2, 1), (86, .ifCond .ne 26, 3), (89, .aload_n 0, 1), (90, .iload_n 1, 1), (91, .invokevirtual 68, 3), (94, .ifCond .eq 16, 3), (97, .aload_n 0, 1), (98, .bipush 13, 2), (100, .invokevirtual 71, 3), (103, .ifCond .eq 7, 3), (106, .iconst 1, 1), (107, .goto 4, 3), (110, .iconst 0, 1), (111, .ireturn, 1), (112, .aload_n 0, 1), (113, .iload_n 1, 1), (114, .putfield 74, 3), (117, .aload_n 0, 1), (118, .getfield 18, 3), (121, .iload_n 1, 1), (122, .invokevirtual 77, 3), (125, .aload_n 0, 1), (126, .invokevirtual 81, 3), (129, .istore_n 3, 1), (130, .aload_n 0, 1), (131, .getfield 18, 3), (134, .iload_n 1, 1), (135, .invokevirtual 84, 3), (138, .iload_n 3, 1), (139, .ifCond .eq 16, 3), (142, .aload_n 0, 1), (143, .bipush 13, 2), (145, .invokevirtual 71, 3), (148, .ifCond .eq 7, 3), (151, .iconst 1, 1), (152, .goto 4, 3), (155, .iconst 0, 1), (156, .ireturn, 1)]
theorem tab_Rd_clause : Tab 6 prog_8_method_7_code K_Rd_clause B_Rd_clause := tab_of rfl (by decide +kernel)
def B_Rd_deed : List (Nat × Instr × Nat) := [(0, .iload_n 1, 1), (1, .tableswitch 141 18 24 #[43, 70, 141, 141, 79, 106, 132], 43), (44, .aload_n 0, 1), (45, .iload_n 1, 1), (46, .iconst 0, 1), (47, .bipush 24, 2), (49, .invokevirtual 87, 3), (52, .ifCond .eq 17, 3), (55, .aload_n 0, 1), (56, .bipush 30, 2), (58, .iconst 3, 1), (59, .invokevirtual 91, 3), (62, .ifCond .eq 7, 3), (65, .iconst 1, 1), (66, .goto 4, 3), (69, .iconst 0, 1), (70, .ireturn, 1), (71, .aload_n 0, 1), (72, .iload_n 1, 1), (73, .iconst 0, 1), (74, .bipush 24, 2), (76, .invokevirtual 87, 3), (79, .ireturn, 1), (80, .aload_n 0, 1), (81, .iload_n 1, 1), (82, .iconst 0, 1), (83, .iconst 3, 1), (84, .invokevirtual 87, 3), (87, .ifCond .eq 18, 3), (90, .aload_n 0, 1), (91, .bipush 31, 2), (93, .bipush 7, 2), (95, .invokevirtual 91, 3), (98, .ifCond .eq 7, 3), (101, .iconst 1, 1), (102, .goto 4, 3), (105, .iconst 0, 1), (106, .ireturn, 1), (107, .aload_n 0, 1), (108, .iload_n 1, 1), (109, .iconst 0, 1), (110, .iconst 3, 1), (111, .invokevirtual 87, 3), (114, .ifCond .eq 17, 3), (117, .aload_n 0, 1), (118, .bipush 32, 2), (120, .iconst 4, 1), (121, .invokevirtual 91, 3), (124, .ifCond .eq 7, 3), (127, .iconst 1, 1), (128, .goto 4, 3), (131, .iconst 0, 1), (132, .ireturn, 1), (133, .aload_n 0, 1), (134, .iload_n 1, 1), (135, .iconst 1, 1), (136, .bipush 60, 2), (138, .invokevirtual 87, 3), (141, .ireturn, 1), (142, .aload_n 0, 1), (143, .iload_n 1, 1), (144, .iconst 0, 1), (145, .bipush 39, 2), (147, .invokevirtual 87, 3), (150, .ireturn, 1)]
theorem tab_Rd_deed : Tab 6 prog_8_method_8_code K_Rd_deed B_Rd_deed := tab_of rfl (by decide +kernel)
def B_Rd_oneNumber : List (Nat × Instr × Nat) := [(0, .aload_n 0, 1), (1, .iload_n 2, 1), (2, .iload_n 3, 1), (3, .invokevirtual 95, 3), (6, .ifCond .ne 5, 3), (9, .iconst 0, 1), (10, .ireturn, 1), (11, .aload_n 0, 1), (12, .getfield 18, 3), (15, .iload_n 1, 1), (16, .aload_n 0, 1), (17, .getfield 98, 3), (20, .iconst 0, 1), (21, .invokevirtual 101, 3), (24, .aload_n 0, 1), (25, .invokevirtual 45, 3), (28, .iconst 1, 1), (29, .ireturn, 1)]
theorem tab_Rd_oneNumber : Tab 6 prog_8_method_9_code K_Rd_oneNumber B_Rd_oneNumber := tab_of rfl (by decide +kernel)
def B_Rd_secondNumber : List (Nat × Instr × Nat) := [(0, .aload_n 0, 1), (1, .getfield 48, 3), (4, .iload_n 1, 1), (5, .if_icmp .eq 9, 3), (8, .aload_n 0, 1), (9, .iconst 1, 1), (10, .invokevirtual 58, 3), (13, .ireturn, 1), (14, .aload_n 0, 1), (15, .invokevirtual 45, 3), (18, .aload_n 0, 1), (19, .iconst 0, 1), (20, .iload_n 2, 1), (21, .invokevirtual 95, 3), (24, .ifCond .ne 5, 3), (27, .iconst 0, 1), (28, .ireturn, 1), (29, .aload_n 0, 1), (30, .getfield 18, 3), (33, .getfield 65, 3), (36, .ifCond .le 24, 3), (39, .aload_n 0, 1), (40, .getfield 18, 3), (43, .getfield 105, 3), (46, .aload_n 0, 1), (47, .getfield 18, 3), (50, .getfield 65, 3), (53, .iconst 1, 1), (54, .isub, 1), (55, .aload_n 0, 1), (56, .getfield 98, 3), (59, .iastore, 1), (60, .aload_n 0, 1), (61, .invokevirtual 45, 3), (64, .iconst 1, 1), (65, .ireturn, 1)]
theorem tab_Rd_secondNumber : Tab 6 prog_8_method_10_code K_Rd_secondNumber B_Rd_secondNumber := tab_of rfl (by decide +kernel)
def B_Rd_isNumber : List (Nat × Instr × Nat) := [(0, .aload_n 0, 1), (1, .getfield 48, 3), (4, .iconst 2, 1), (5, .if_icmp .eq 9, 3), (8, .aload_n 0, 1), (9, .iconst 1, 1), (10, .invokevirtual 58, 3), (13, .ireturn, 1), (14, .aload_n 0, 1), (15, .getfield 98, 3), (18, .iload_n 1, 1), (19, .if_icmp .lt 11, 3), (22, .aload_n 0, 1), (23, .getfield 98, 3), (26, .iload_n 2, 1), (27, .if_icmp .le 11, 3), (30, .aload_n 0, 1), (31, .iconst 2, 1), (32, .invokevirtual 58, 3), (35, .ifCond .eq 7, 3), (38, .iconst 1, 1), (39, .goto 4, 3), (42, .iconst 0, 1), (43, .ireturn, 1)]
theorem tab_Rd_isNumber : Tab 6 prog_8_method_11_code K_Rd_isNumber B_Rd_isNumber := tab_of rfl (by decide +kernel)
def B_Rd_sum : List (Nat × Instr × Nat) := [(0, .aload_n 0, 1), (1, .invokevirtual 108, 3), (4, .ifCond .ne 5, 3), (7, .iconst 0, 1), (8, .ireturn, 1), (9, .iconst 0, 1), (10, .istore_n 1, 1), (11, .iload_n 1, 1), (12, .sipush 300, 3), (15, .if_icmp .ge 55, 3), (18, .aload_n 0, 1), (19, .getfield 48, 3), (22, .bipush 7, 2), (24, .if_icmp .eq 12, 3), (27, .aload_n 0, 1), (28, .getfield 48, 3), (31, .bipush 8, 2), (33, .if_icmp .ne 37, 3), (36, .aload_n 0, 1), (37, .getfield 48, 3), (40, .istore_n 2, 1), (41, .aload_n 0, 1), (42, .invokevirtual 45, 3), (45, .aload_n 0, 1), (46, .invokevirtual 108, 3), (49, .ifCond .ne 5, 3), (52, .iconst 0, 1), (53, .ireturn, 1), (54, .aload_n 0, 1), (55, .getfield 18, 3), (58, .iload_n 2, 1), (59, .iconst 0, 1), (60, .invokevirtual 111, 3), (63, .pop, 1), (64, .iinc 1 1, 3), (67, .goto (-56), 3), (70, .iconst 1, 1), (71, .ireturn, 1)]
theorem tab_Rd_sum : Tab 6 prog_8_method_12_code K_Rd_sum B_Rd_sum := tab_of rfl (by decide +kernel)
def B_Rd_product : List (Nat × Instr × Nat) := [(0, .aload_n 0, 1), (1, .invokevirtual 114, 3), (4, .ifCond .ne 5, 3), (7, .iconst 0, 1), (8, .ireturn, 1), (9, .iconst 0, 1), (10, .istore_n 1, 1), (11, .iload_n 1, 1), (12, .sipush 300, 3), (15, .if_icmp .ge 55, 3), (18, .aload_n 0, 1), (19, .getfield 48, 3), (22, .bipush 9, 2), (24, .if_icmp .eq 12, 3), (27, .aload_n 0, 1), (28, .getfield 48, 3), (31, .bipush 10, 2), (33, .if_icmp .ne 37, 3), (36, .aload_n 0, 1), (37, .getfield 48, 3), (40, .istore_n 2, 1), (41, .aload_n 0, 1), (42, .invokevirtual 45, 3), (45, .aload_n 0, 1), (46, .invokevirtual 114, 3), (49, .ifCond .ne 5, 3), (52, .iconst 0, 1), (53, .ireturn, 1), (54, .aload_n 0, 1), (55, .getfield 18, 3), (58, .iload_n 2, 1), (59, .iconst 0, 1), (60, .invokevirtual 111, 3), (63, .pop, 1), (64, .iinc 1 1, 3), (67, .goto (-56), 3), (70, .iconst 1, 1), (71, .ireturn, 1)]
theorem tab_Rd_product : Tab 6 prog_8_method_13_code K_Rd_product B_Rd_product := tab_of rfl (by decide +kernel)
def B_Rd_one : List (Nat × Instr × Nat) := [(0, .aload_n 0, 1), (1, .getfield 48, 3), (4, .iconst 2, 1), (5, .if_icmp .ne 32, 3), (8, .aload_n 0, 1), (9, .iconst 0, 1), (10, .sipush 9999, 3), (13, .invokevirtual 95, 3), (16, .ifCond .eq 19, 3), (19, .aload_n 0, 1), (20, .iconst 2, 1), (21, .aload_n 0, 1), (22, .getfield 98, 3), (25, .invokevirtual 117, 3), (28, .ifCond .eq 7, 3), (31, .iconst 1, 1), (32, .goto 4, 3), (35, .iconst 0, 1), (36, .ireturn, 1), (37, .aload_n 0, 1), (38, .getfield 48, 3), (41, .bipush 24, 2), (43, .if_icmp .lt 41, 3), (46, .aload_n 0, 1), (47, .getfield 48, 3), (50, .bipush 30, 2), (52, .if_icmp .gt 32, 3), (55, .aload_n 0, 1), (56, .invokevirtual 120, 3), (59, .ifCond .eq 23, 3), (62, .aload_n 0, 1), (63, .bipush 43, 2), (65, .aload_n 0, 1), (66, .getfield 48, 3), (69, .bipush 24, 2), (71, .isub, 1), (72, .invokevirtual 117, 3), (75, .ifCond .eq 7, 3), (78, .iconst 1, 1), (79, .goto 4, 3), (82, .iconst 0, 1), (83, .ireturn, 1), (84, .aload_n 0, 1), (85, .getfield 48, 3), (88, .bipush 11, 2), (90, .if_icmp .eq 39, 3), (93, .aload_n 0, 1), (94, .getfield 48, 3), (97, .bipush 8, 2), (99, .if_icmp .eq 30, 3), (102, .aload_n 0, 1), (103, .getfield 48, 3), (106, .bipush 33, 2), (108, .if_icmp .eq 21, 3), (111, .aload_n 0, 1), (112, .getfield 48, 3), (115, .bipush 35, 2), (117, .if_icmp .eq 12, 3), (120, .aload_n 0, 1), (121, .getfield 48, 3), (124, .bipush 36, 2), (126, .if_icmp .ne 7, 3), (129, .iconst 1, 1), (130, .goto 4, 3), (133, .iconst 0, 1), (134, .istore_n 1, 1), (135, .iload_n 1, 1), (136, .ifCond .eq 10, 3), (139, .aload_n 0, 1), (140, .invokevirtual 123, 3), (143, .goto 8, 3), (146, .aload_n 0, 1), (147, .iconst 1, 1), (148, .invokevirtual 58, 3), (151, .ireturn, 1)]
theorem tab_Rd_one : Tab 6 prog_8_method_14_code K_Rd_one B_Rd_one := tab_of rfl (by decide +kernel)
def B_Rd_emitAndAdvance : List (Nat × Instr × Nat) := [(0, .aload_n 0, 1), (1, .getfield 18, 3), (4, .iload_n 1, 1), (5, .iload_n 2, 1), (6, .invokevirtual 111, 3), (9, .pop, 1), (10, .aload_n 0, 1), (11, .invokevirtual 45, 3), (14, .iconst 1, 1), (15, .ireturn, 1)]
theorem tab_Rd_emitAndAdvance : Tab 6 prog_8_method_15_code K_Rd_emitAndAdvance B_Rd_emitAndAdvance := tab_of rfl (by decide +kernel)
def B_Rd_isNameHere : List (Nat × Instr × Nat) := [(0, .aload_n 0, 1), (1, .getfield 74, 3), (4, .bipush 16, 2), (6, .if_icmp .ne 29, 3), (9, .aload_n 0, 1), (10, .getfield 48, 3), (13, .bipush 29, 2), (15, .if_icmp .eq 12, 3), (18, .aload_n 0, 1), (19, .getfield 48, 3), (22, .bipush 30, 2), (24, .if_icmp .ne 7, 3), (27, .iconst 1, 1), (28, .goto 21, 3), (31, .iconst 0, 1), (32, .goto 17, 3), (35, .aload_n 0, 1), (36, .getfield 48, 3), (39, .bipush 28, 2), (41, .if_icmp .ne 7, 3), (44, .iconst 1, 1), (45, .goto 4, 3), (48, .iconst 0, 1), (49, .istore_n 1, 1), (50, .iload_n 1, 1), (51, .ifCond .eq 11, 3), (54, .aload_n 0, 1), (55, .iconst 5, 1), (56, .invokevirtual 58, 3), (59, .ifCond .eq 7, 3), (62, .iconst 1, 1), (63, .goto 4, 3), (66, .iconst 0, 1), (67, .ireturn, 1)]
theorem tab_Rd_isNameHere : Tab 6 prog_8_method_16_code K_Rd_isNameHere B_Rd_isNameHere := tab_of rfl (by decide +kernel)
def B_Rd_nested : List (Nat × Instr × Nat) := [(0, .aload_n 0, 1), (1, .getfield 39, 3), (4, .bipush 8, 2), (6, .if_icmp .lt 9, 3), (9, .aload_n 0, 1), (10, .iconst 3, 1), (11, .invokevirtual 58, 3), (14, .ireturn, 1), (15, .aload_n 0, 1), (16, .getfield 48, 3), (19, .istore_n 1, 1), (20, .aload_n 0, 1), (21, .dup, 1), (22, .getfield 39, 3), (25, .iconst 1, 1), (26, .iadd, 1), (27, .putfield 39, 3), (30, .aload_n 0, 1), (31, .invokevirtual 45, 3), (34, .aload_n 0, 1), (35, .iload_n 1, 1), (36, .invokevirtual 126, 3), (39, .istore_n 2, 1), (40, .aload_n 0, 1), (41, .dup, 1), (42, .getfield 39, 3), (45, .iconst 1, 1), (46, .isub, 1), (47, .putfield 39, 3), (50, .iload_n 2, 1), (51, .ireturn, 1)]
theorem tab_Rd_nested : Tab 6 prog_8_method_17_code K_Rd_nested B_Rd_nested := tab_of rfl (by decide +kernel)
def B_Rd_inside : List (Nat × Instr × Nat) := [(0, .iload_n 1, 1), (1, .lookupswitch 193 #[(8, 73), (11, 51), (33, 99), (35, 141), (42, 167)], 51), (52, .aload_n 0, 1), (53, .invokevirtual 81, 3), (56, .ifCond .eq 16, 3), (59, .aload_n 0, 1), (60, .bipush 12, 2), (62, .invokevirtual 71, 3), (65, .ifCond .eq 7, 3), (68, .iconst 1, 1), (69, .goto 4, 3), (72, .iconst 0, 1), (73, .ireturn, 1), (74, .aload_n 0, 1), (75, .invokevirtual 114, 3), (78, .ifCond .eq 20, 3), (81, .aload_n 0, 1), (82, .getfield 18, 3), (85, .bipush 44, 2), (87, .iconst 0, 1), (88, .invokevirtual 111, 3), (91, .ifCond .eq 7, 3), (94, .iconst 1, 1), (95, .goto 4, 3), (98, .iconst 0, 1), (99, .ireturn, 1), (100, .aload_n 0, 1), (101, .invokevirtual 114, 3), (104, .ifCond .eq 36, 3), (107, .aload_n 0, 1), (108, .bipush 34, 2), (110, .invokevirtual 71, 3), (113, .ifCond .eq 27, 3), (116, .aload_n 0, 1), (117, .invokevirtual 114, 3), (120, .ifCond .eq 20, 3), (123, .aload_n 0, 1), (124, .getfield 18, 3), (127, .bipush 33, 2), (129, .iconst 0, 1), (130, .invokevirtual 111, 3), (133, .ifCond .eq 7, 3), (136, .iconst 1, 1), (137, .goto 4, 3), (140, .iconst 0, 1), (141, .ireturn, 1), (142, .aload_n 0, 1), (143, .invokevirtual 114, 3), (146, .ifCond .eq 20, 3), (149, .aload_n 0, 1), (150, .getfield 18, 3), (153, .bipush 35, 2), (155, .iconst 0, 1), (156, .invokevirtual 111, 3), (159, .ifCond .eq 7, 3), (162, .iconst 1, 1), (163, .goto 4, 3), (166, .iconst 0, 1), (167, .ireturn, 1), (168, .aload_n 0, 1), (169, .invokevirtual 129, 3), (172, .ifCond .eq 20, 3), (175, .aload_n 0, 1), (176, .getfield 18, 3), (179, .bipush 42, 2), (181, .iconst 0, 1), (182, .invokevirtual 111, 3), (185, .ifCond .eq 7, 3), (188, .iconst 1, 1), (189, .goto 4, 3), (192, .iconst 0, 1), (193, .ireturn, 1), (194, .aload_n 0, 1), (195, .invokevirtual 132, 3), (198, .ireturn, 1)]
theorem tab_Rd_inside : Tab 6 prog_8_method_18_code K_Rd_inside B_Rd_inside := tab_of rfl (by decide +kernel)
def B_Rd_choice : List (Nat × Instr × Nat) := [(0, .aload_n 0, 1), (1, .invokevirtual 135, 3), (4, .ifCond .eq 12, 3), (7, .aload_n 0, 1), (8, .bipush 37, 2), (10, .invokevirtual 71, 3), (13, .ifCond .ne 5, 3), (16, .iconst 0, 1), (17, .ireturn, 1), (18, .aload_n 0, 1), (19, .getfield 18, 3), (22, .getfield 138, 3), (25, .istore_n 1, 1), (26, .aload_n 0, 1), (27, .getfield 18, 3), (30, .bipush 45, 2), (32, .iconst 0, 1), (33, .invokevirtual 111, 3), (36, .pop, 1), (37, .aload_n 0, 1), (38, .invokevirtual 81, 3), (41, .ifCond .eq 12, 3), (44, .aload_n 0, 1), (45, .bipush 38, 2), (47, .invokevirtual 71, 3), (50, .ifCond .ne 5, 3), (53, .iconst 0, 1), (54, .ireturn, 1), (55, .aload_n 0, 1), (56, .getfield 18, 3), (59, .getfield 138, 3), (62, .istore_n 2, 1), (63, .aload_n 0, 1), (64, .getfield 18, 3), (67, .bipush 46, 2), (69, .iconst 0, 1), (70, .invokevirtual 111, 3), (73, .pop, 1), (74, .aload_n 0, 1), (75, .getfield 18, 3), (78, .iload_n 1, 1), (79, .invokevirtual 141, 3), (82, .aload_n 0, 1), (83, .invokevirtual 81, 3), (86, .ifCond .eq 16, 3), (89, .aload_n 0, 1), (90, .bipush 39, 2), (92, .invokevirtual 71, 3), (95, .ifCond .eq 7, 3), (98, .iconst 1, 1), (99, .goto 4, 3), (102, .iconst 0, 1), (103, .istore_n 3, 1), (104, .aload_n 0, 1), (105, .getfield 18, 3), (108, .iload_n 2, 1), (109, .invokevirtual 141, 3), (112, .iload_n 3, 1), (113, .ireturn, 1)]
theorem tab_Rd_choice : Tab 6 prog_8_method_19_code K_Rd_choice B_Rd_choice := tab_of rfl (by decide +kernel)
def B_Rd_either : List (Nat × Instr × Nat) := [(0, .aload_n 0, 1), (1, .invokevirtual 144, 3), (4, .ifCond .ne 5, 3), (7, .iconst 0, 1), (8, .ireturn, 1), (9, .iconst 0, 1), (10, .istore_n 1, 1), (11, .iload_n 1, 1), (12, .sipush 300, 3), (15, .if_icmp .ge 42, 3), (18, .aload_n 0, 1), (19, .getfield 48, 3), (22, .bipush 40, 2), (24, .if_icmp .ne 33, 3), (27, .aload_n 0, 1), (28, .invokevirtual 45, 3), (31, .aload_n 0, 1), (32, .invokevirtual 144, 3), (35, .ifCond .ne 5, 3), (38, .iconst 0, 1), (39, .ireturn, 1), (40, .aload_n 0, 1), (41, .getfield 18, 3), (44, .bipush 40, 2), (46, .iconst 0, 1), (47, .invokevirtual 111, 3), (50, .pop, 1), (51, .iinc 1 1, 3), (54, .goto (-43), 3), (57, .iconst 1, 1), (58, .ireturn, 1)]
theorem tab_Rd_either : Tab 6 prog_8_method_20_code K_Rd_either B_Rd_either := tab_of rfl (by decide +kernel)
def B_Rd_both : List (Nat × Instr × Nat) := [(0, .aload_n 0, 1), (1, .invokevirtual 129, 3), (4, .ifCond .ne 5, 3), (7, .iconst 0, 1), (8, .ireturn, 1), (9, .iconst 0, 1), (10, .istore_n 1, 1), (11, .iload_n 1, 1), (12, .sipush 300, 3), (15, .if_icmp .ge 42, 3), (18, .aload_n 0, 1), (19, .getfield 48, 3), (22, .bipush 41, 2), (24, .if_icmp .ne 33, 3), (27, .aload_n 0, 1), (28, .invokevirtual 45, 3), (31, .aload_n 0, 1), (32, .invokevirtual 129, 3), (35, .ifCond .ne 5, 3), (38, .iconst 0, 1), (39, .ireturn, 1), (40, .aload_n 0, 1), (41, .getfield 18, 3), (44, .bipush 41, 2), (46, .iconst 0, 1), (47, .invokevirtual 111, 3), (50, .pop, 1), (51, .iinc 1 1, 3), (54, .goto (-43), 3), (57, .iconst 1, 1), (58, .ireturn, 1)]
theorem tab_Rd_both : Tab 6 prog_8_method_21_code K_Rd_both B_Rd_both := tab_of rfl (by decide +kernel)
def B_Rd_ask : List (Nat × Instr × Nat) := [(0, .aload_n 0, 1), (1, .getfield 48, 3), (4, .bipush 42, 2), (6, .if_icmp .ne 8, 3), (9, .aload_n 0, 1), (10, .invokevirtual 123, 3), (13, .ireturn, 1), (14, .aload_n 0, 1), (15, .invokevirtual 81, 3), (18, .ifCond .ne 5, 3), (21, .iconst 0, 1), (22, .ireturn, 1), (23, .aload_n 0, 1), (24, .getfield 48, 3), (27, .istore_n 1, 1), (28, .iload_n 1, 1), (29, .iconst 3, 1), (30, .if_icmp .lt 9, 3), (33, .iload_n 1, 1), (34, .bipush 6, 2), (36, .if_icmp .le 15, 3), (39, .iload_n 1, 1), (40, .bipush 14, 2), (42, .if_icmp .eq 9, 3), (45, .iload_n 1, 1), (46, .bipush 15, 2), (48, .if_icmp .ne 7, 3), (51, .iconst 1, 1), (52, .goto 4, 3), (55, .iconst 0, 1), (56, .istore_n 2, 1), (57, .iload_n 2, 1), (58, .ifCond .ne 9, 3), (61, .aload_n 0, 1), (62, .iconst 1, 1), (63, .invokevirtual 58, 3), (66, .ireturn, 1), (67, .aload_n 0, 1), (68, .invokevirtual 45, 3), (71, .aload_n 0, 1), (72, .invokevirtual 81, 3), (75, .ifCond .eq 19, 3), (78, .aload_n 0, 1), (79, .getfield 18, 3), (82, .iload_n 1, 1), (83, .iconst 0, 1), (84, .invokevirtual 111, 3), (87, .ifCond .eq 7, 3), (90, .iconst 1, 1), (91, .goto 4, 3), (94, .iconst 0, 1), (95, .ireturn, 1)]
theorem tab_Rd_ask : Tab 6 prog_8_method_22_code K_Rd_ask B_Rd_ask := tab_of rfl (by decide +kernel)
def B_Rd_advance : List (Nat × Instr × Nat) := [(0, .aload_n 0, 1), (1, .getfield 42, 3), (4, .aload_n 0, 1), (5, .getfield 22, 3), (8, .if_icmp .ge 31, 3), (11, .aload_n 0, 1), (12, .getfield 9, 3), (15, .aload_n 0, 1), (16, .getfield 42, 3), (19, .iaload, 1), (20, .invokestatic 147, 3), (23, .ifCond .eq 16, 3), (26, .aload_n 0, 1), (27, .dup, 1), (28, .getfield 42, 3), (31, .iconst 1, 1), (32, .iadd, 1), (33, .putfield 42, 3), (36, .goto (-36), 3), (39, .aload_n 0, 1), (40, .aload_n 0, 1), (41, .getfield 42, 3), (44, .putfield 55, 3), (47, .aload_n 0, 1), (48, .getfield 42, 3), (51, .aload_n 0, 1), (52, .getfield 22, 3), (55, .if_icmp .lt 11, 3), (58, .aload_n 0, 1), (59, .iconst 0, 1), (60, .putfield 48, 3), (63, .goto 63, 3), (66, .aload_n 0, 1), (67, .getfield 9, 3), (70, .aload_n 0, 1), (71, .getfield 42, 3), (74, .iaload, 1), (75, .invokestatic 150, 3), (78, .ifCond .eq 14, 3), (81, .aload_n 0, 1), (82, .aload_n 0, 1), (83, .invokevirtual 153, 3), (86, .putfield 48, 3), (89, .goto 37, 3), (92, .aload_n 0, 1), (93, .getfield 9, 3), (96, .aload_n 0, 1), (97, .getfield 42, 3), (100, .iaload, 1), (101, .invokestatic 157, 3), (104, .ifCond .eq 14, 3), (107, .aload_n 0, 1), (108, .aload_n 0, 1), (109, .invokevirtual 160, 3), (112, .putfield 48, 3), (115, .goto 11, 3), (118, .aload_n 0, 1), (119, .aload_n 0, 1), (120, .invokevirtual 163, 3), (123, .putfield 48, 3), (126, .return_, 1)]
theorem tab_Rd_advance : Tab 6 prog_8_method_23_code K_Rd_advance B_Rd_advance := tab_of rfl (by decide +kernel)
def B_Rd_isBlank : List (Nat × Instr × Nat) := [(0, .iload_n 0, 1), (1, .bipush 32, 2), (3, .if_icmp .eq 9, 3), (6, .iload_n 0, 1), (7, .bipush 10, 2), (9, .if_icmp .ne 7, 3), (12, .iconst 1, 1), (13, .goto 4, 3), (16, .iconst 0, 1), (17, .ireturn, 1)]
theorem tab_Rd_isBlank : Tab 6 prog_8_method_24_code K_Rd_isBlank B_Rd_isBlank := tab_of rfl (by decide +kernel)
def B_Rd_isLetter : List (Nat × Instr × Nat) := [(0, .iload_n 0, 1), (1, .bipush 97, 2), (3, .if_icmp .lt 9, 3), (6, .iload_n 0, 1), (7, .bipush 122, 2), (9, .if_icmp .le 15, 3), (12, .iload_n 0, 1), (13, .bipush 65, 2), (15, .if_icmp .lt 13, 3), (18, .iload_n 0, 1), (19, .bipush 90, 2), (21, .if_icmp .gt 7, 3), (24, .iconst 1, 1), (25, .goto 4, 3), (28, .iconst 0, 1), (29, .ireturn, 1)]
theorem tab_Rd_isLetter : Tab 6 prog_8_method_25_code K_Rd_isLetter B_Rd_isLetter := tab_of rfl (by decide +kernel)
def B_Rd_isDigit : List (Nat × Instr × Nat) := [(0, .iload_n 0, 1), (1, .bipush 48, 2), (3, .if_icmp .lt 13, 3), (6, .iload_n 0, 1), (7, .bipush 57, 2), (9, .if_icmp .gt 7, 3), (12, .iconst 1, 1), (13, .goto 4, 3), (16, .iconst 0, 1), (17, .ireturn, 1)]
theorem tab_Rd_isDigit : Tab 6 prog_8_method_26_code K_Rd_isDigit B_Rd_isDigit := tab_of rfl (by decide +kernel)
def B_Rd_wordRead : List (Nat × Instr × Nat) := [(0, .aload_n 0, 1), (1, .getfield 42, 3), (4, .aload_n 0, 1), (5, .getfield 22, 3), (8, .if_icmp .ge 31, 3), (11, .aload_n 0, 1), (12, .getfield 9, 3), (15, .aload_n 0, 1), (16, .getfield 42, 3), (19, .iaload, 1), (20, .invokestatic 150, 3), (23, .ifCond .eq 16, 3), (26, .aload_n 0, 1), (27, .dup, 1), (28, .getfield 42, 3), (31, .iconst 1, 1), (32, .iadd, 1), (33, .putfield 42, 3), (36, .goto (-36), 3), (39, .aload_n 0, 1), (40, .getfield 42, 3), (43, .aload_n 0, 1), (44, .getfield 55, 3), (47, .isub, 1), (48, .istore_n 1, 1), (49, .bipush 16, 2), (51, .istore_n 2, 1), (52, .iconst 0, 1), (53, .istore_n 3, 1), (54, .iconst 0, 1), (55, .istore 4, 2), (57, .iload 4, 2), (59, .ldc 166, 2), (61, .invokevirtual 168, 3), (64, .if_icmp .ge 73, 3), (67, .ldc 166, 2), (69, .iload 4, 2), (71, .invokevirtual 172, 3), (74, .istore 5, 2), (76, .iload 5, 2), (78, .bipush 32, 2), (80, .if_icmp .ne 18, 3), (83, .iload_n 3, 1), (84, .iload_n 1, 1), (85, .if_icmp .ne 5, 3), (88, .iload_n 2, 1), (89, .ireturn, 1), (90, .iinc 2 1, 3), (93, .iconst 0, 1), (94, .istore_n 3, 1), (95, .goto 36, 3), (98, .iload_n 3, 1), (99, .ifCond .lt 32, 3), (102, .iload_n 3, 1), (103, .iload_n 1, 1), (104, .if_icmp .ge 25, 3), (107, .aload_n 0, 1), (108, .getfield 9, 3), (111, .aload_n 0, 1), (112, .getfield 55, 3), (115, .iload_n 3, 1), (116, .iadd, 1), (117, .iaload, 1), (118, .iload 5, 2), (120, .if_icmp .ne 9, 3), (123, .iload_n 3, 1), (124, .iconst 1, 1), (125, .iadd, 1), (126, .goto 4, 3), (129, .iconst (-1), 1), (130, .istore_n 3, 1), (131, .iinc 4 1, 3), (134, .goto (-77), 3), (137, .iconst 1, 1), (138, .ireturn, 1)]
theorem tab_Rd_wordRead : Tab 6 prog_8_method_27_code K_Rd_wordRead B_Rd_wordRead := tab_of rfl (by decide +kernel)
def B_Rd_digitsRead : List (Nat × Instr × Nat) := [(0, .aload_n 0, 1), (1, .iconst 0, 1), (2, .putfield 98, 3), (5, .aload_n 0, 1), (6, .getfield 42, 3), (9, .aload_n 0, 1), (10, .getfield 22, 3), (13, .if_icmp .ge 61, 3), (16, .aload_n 0, 1), (17, .getfield 9, 3), (20, .aload_n 0, 1), (21, .getfield 42, 3), (24, .iaload, 1), (25, .invokestatic 157, 3), (28, .ifCond .eq 46, 3), (31, .aload_n 0, 1), (32, .aload_n 0, 1), (33, .getfield 98, 3), (36, .bipush 10, 2), (38, .imul, 1), (39, .aload_n 0, 1), (40, .getfield 9, 3), (43, .aload_n 0, 1), (44, .getfield 42, 3), (47, .iaload, 1), (48, .iadd, 1), (49, .bipush 48, 2), (51, .isub, 1), (52, .sipush 10000, 3), (55, .invokestatic 176, 3), (58, .putfield 98, 3), (61, .aload_n 0, 1), (62, .dup, 1), (63, .getfield 42, 3), (66, .iconst 1, 1), (67, .iadd, 1), (68, .putfield 42, 3), (71, .goto (-66), 3), (74, .iconst 2, 1), (75, .ireturn, 1)]
theorem tab_Rd_digitsRead : Tab 6 prog_8_method_28_code K_Rd_digitsRead B_Rd_digitsRead := tab_of rfl (by decide +kernel)
end
section
def B_Rd_signRead : List (Nat × Instr × Nat) := [(0, .ldc 182, 2), (2, .aload_n 0, 1), (3, .getfield 9, 3), (6, .aload_n 0, 1), (7, .getfield 42, 3), (10, .iaload, 1), (11, .i2c, 1), (12, .invokevirtual 184, 3), (15, .istore_n 1, 1), (16, .aload_n 0, 1), (17, .dup, 1), (18, .getfield 42, 3), (21, .iconst 1, 1), (22, .iadd, 1), (23, .putfield 42, 3), (26, .iload_n 1, 1), (27, .ifCond .ge 5, 3), (30, .iconst 1, 1), (31, .ireturn, 1), (32, .iconst 3, 1), (33, .iload_n 1, 1), (34, .iadd, 1), (35, .istore_n 2, 1), (36, .iload_n 2, 1), (37, .iconst 3, 1), (38, .if_icmp .eq 8, 3), (41, .iload_n 2, 1), (42, .iconst 4, 1), (43, .if_icmp .ne 7, 3), (46, .iconst 1, 1), (47, .goto 4, 3), (50, .iconst 0, 1), (51, .istore_n 3, 1), (52, .iload_n 3, 1), (53, .ifCond .eq 28, 3), (56, .aload_n 0, 1), (57, .getfield 42, 3), (60, .aload_n 0, 1), (61, .getfield 22, 3), (64, .if_icmp .ge 17, 3), (67, .aload_n 0, 1), (68, .getfield 9, 3), (71, .aload_n 0, 1), (72, .getfield 42, 3), (75, .iaload, 1), (76, .bipush 61, 2), (78, .if_icmp .eq 5, 3), (81, .iload_n 2, 1), (82, .ireturn, 1), (83, .aload_n 0, 1), (84, .dup, 1), (85, .getfield 42, 3), (88, .iconst 1, 1), (89, .iadd, 1), (90, .putfield 42, 3), (93, .iload_n 2, 1), (94, .iconst 3, 1), (95, .if_icmp .ne 8, 3), (98, .bipush 14, 2), (100, .goto 5, 3), (103, .bipush 15, 2), (105, .ireturn, 1)]
theorem tab_Rd_signRead : Tab 6 prog_8_method_29_code K_Rd_signRead B_Rd_signRead := tab_of rfl (by decide +kernel)
def B_Tx_clear : List (Nat × Instr × Nat) := [(0, .aload_n 0, 1), (1, .iconst 0, 1), (2, .putfield 24, 3), (5, .aload_n 0, 1), (6, .iconst 0, 1), (7, .putfield 28, 3), (10, .aload_n 0, 1), (11, .iconst 0, 1), (12, .putfield 31, 3), (15, .aload_n 0, 1), (16, .iconst 0, 1), (17, .putfield 35, 3), (20, .return_, 1)]
theorem tab_Tx_clear : Tab 7 prog_9_method_2_code K_Tx_clear B_Tx_clear := tab_of rfl (by decide +kernel)
def B_Tx_copyFrom : List (Nat × Instr × Nat) := [(0, .aload_n 0, 1), (1, .aload_n 1, 1), (2, .getfield 24, 3), (5, .putfield 24, 3), (8, .aload_n 1, 1), (9, .getfield 9, 3), (12, .iconst 0, 1), (13, .aload_n 0, 1), (14, .getfield 9, 3), (17, .iconst 0, 1), (18, .bipush 24, 2), (20, .invokestatic 38, 3), (23, .aload_n 1, 1), (24, .getfield 15, 3), (27, .iconst 0, 1), (28, .aload_n 0, 1), (29, .getfield 15, 3), (32, .iconst 0, 1), (33, .bipush 24, 2), (35, .invokestatic 38, 3), (38, .aload_n 1, 1), (39, .getfield 18, 3), (42, .iconst 0, 1), (43, .aload_n 0, 1), (44, .getfield 18, 3), (47, .iconst 0, 1), (48, .bipush 24, 2), (50, .invokestatic 38, 3), (53, .aload_n 0, 1), (54, .aload_n 1, 1), (55, .getfield 28, 3), (58, .putfield 28, 3), (61, .aload_n 1, 1), (62, .getfield 21, 3), (65, .iconst 0, 1), (66, .aload_n 0, 1), (67, .getfield 21, 3), (70, .iconst 0, 1), (71, .sipush 300, 3), (74, .invokestatic 38, 3), (77, .aload_n 0, 1), (78, .aload_n 1, 1), (79, .getfield 31, 3), (82, .putfield 31, 3), (85, .aload_n 0, 1), (86, .aload_n 1, 1), (87, .getfield 44, 3), (90, .putfield 44, 3), (93, .aload_n 0, 1), (94, .aload_n 1, 1), (95, .getfield 47, 3), (98, .putfield 47, 3), (101, .aload_n 0, 1), (102, .aload_n 1, 1), (103, .getfield 35, 3), (106, .putfield 35, 3), (109, .aload_n 0, 1), (110, .aload_n 1, 1), (111, .getfield 50, 3), (114, .putfield 50, 3), (117, .aload_n 0, 1), (118, .aload_n 1, 1), (119, .getfield 53, 3), (122, .putfield 53, 3), (125, .return_, 1)]
theorem tab_Tx_copyFrom : Tab 7 prog_9_method_3_code K_Tx_copyFrom B_Tx_copyFrom := tab_of rfl (by decide +kernel)
def B_Tx_addClause : List (Nat × Instr × Nat) := [(0, .aload_n 0, 1), (1, .getfield 24, 3), (4, .bipush 24, 2), (6, .if_icmp .ge 43, 3), (9, .aload_n 0, 1), (10, .getfield 9, 3), (13, .aload_n 0, 1), (14, .getfield 24, 3), (17, .iload_n 1, 1), (18, .iastore, 1), (19, .aload_n 0, 1), (20, .getfield 15, 3), (23, .aload_n 0, 1), (24, .getfield 24, 3), (27, .iload_n 2, 1), (28, .iastore, 1), (29, .aload_n 0, 1), (30, .getfield 18, 3), (33, .aload_n 0, 1), (34, .getfield 24, 3), (37, .iload_n 3, 1), (38, .iastore, 1), (39, .aload_n 0, 1), (40, .dup, 1), (41, .getfield 24, 3), (44, .iconst 1, 1), (45, .iadd, 1), (46, .putfield 24, 3), (49, .return_, 1)]
theorem tab_Tx_addClause : Tab 7 prog_9_method_4_code K_Tx_addClause B_Tx_addClause := tab_of rfl (by decide +kernel)
def B_Tx_has : List (Nat × Instr × Nat) := [(0, .iload_n 1, 1), (1, .bipush 16, 2), (3, .if_icmp .ne 10, 3), (6, .aload_n 0, 1), (7, .getfield 31, 3), (10, .goto 7, 3), (13, .aload_n 0, 1), (14, .getfield 35, 3), (17, .ireturn, 1)]
theorem tab_Tx_has : Tab 7 prog_9_method_5_code K_Tx_has B_Tx_has := tab_of rfl (by decide +kernel)
def B_Tx_beginLaw : List (Nat × Instr × Nat) := [(0, .aload_n 0, 1), (1, .iload_n 1, 1), (2, .iconst 0, 1), (3, .iconst 0, 1), (4, .invokevirtual 56, 3), (7, .iload_n 1, 1), (8, .bipush 16, 2), (10, .if_icmp .ne 19, 3), (13, .aload_n 0, 1), (14, .iconst 1, 1), (15, .putfield 31, 3), (18, .aload_n 0, 1), (19, .aload_n 0, 1), (20, .getfield 28, 3), (23, .putfield 44, 3), (26, .goto 16, 3), (29, .aload_n 0, 1), (30, .iconst 1, 1), (31, .putfield 35, 3), (34, .aload_n 0, 1), (35, .aload_n 0, 1), (36, .getfield 28, 3), (39, .putfield 50, 3), (42, .return_, 1)]
theorem tab_Tx_beginLaw : Tab 7 prog_9_method_6_code K_Tx_beginLaw B_Tx_beginLaw := tab_of rfl (by decide +kernel)
def B_Tx_endLaw : List (Nat × Instr × Nat) := [(0, .iload_n 1, 1), (1, .bipush 16, 2), (3, .if_icmp .ne 14, 3), (6, .aload_n 0, 1), (7, .aload_n 0, 1), (8, .getfield 28, 3), (11, .putfield 47, 3), (14, .goto 11, 3), (17, .aload_n 0, 1), (18, .aload_n 0, 1), (19, .getfield 28, 3), (22, .putfield 53, 3), (25, .return_, 1)]
theorem tab_Tx_endLaw : Tab 7 prog_9_method_7_code K_Tx_endLaw B_Tx_endLaw := tab_of rfl (by decide +kernel)
def B_Tx_emit : List (Nat × Instr × Nat) := [(0, .aload_n 0, 1), (1, .getfield 28, 3), (4, .sipush 300, 3), (7, .if_icmp .ge 28, 3), (10, .aload_n 0, 1), (11, .getfield 21, 3), (14, .aload_n 0, 1), (15, .getfield 28, 3), (18, .iload_n 1, 1), (19, .iload_n 2, 1), (20, .bipush 64, 2), (22, .imul, 1), (23, .iadd, 1), (24, .iastore, 1), (25, .aload_n 0, 1), (26, .dup, 1), (27, .getfield 28, 3), (30, .iconst 1, 1), (31, .iadd, 1), (32, .putfield 28, 3), (35, .iconst 1, 1), (36, .ireturn, 1)]
theorem tab_Tx_emit : Tab 7 prog_9_method_8_code K_Tx_emit B_Tx_emit := tab_of rfl (by decide +kernel)
def B_Tx_landHere : List (Nat × Instr × Nat) := [(0, .iload_n 1, 1), (1, .ifCond .lt 34, 3), (4, .iload_n 1, 1), (5, .aload_n 0, 1), (6, .getfield 28, 3), (9, .if_icmp .ge 26, 3), (12, .aload_n 0, 1), (13, .getfield 21, 3), (16, .iload_n 1, 1), (17, .aload_n 0, 1), (18, .getfield 21, 3), (21, .iload_n 1, 1), (22, .iaload, 1), (23, .bipush 64, 2), (25, .irem, 1), (26, .aload_n 0, 1), (27, .getfield 28, 3), (30, .bipush 64, 2), (32, .imul, 1), (33, .iadd, 1), (34, .iastore, 1), (35, .return_, 1)]
theorem tab_Tx_landHere : Tab 7 prog_9_method_9_code K_Tx_landHere B_Tx_landHere := tab_of rfl (by decide +kernel)
def B_Th_hand : List (Nat × Instr × Nat) := [(0, .iload_n 1, 1), (1, .ifCond .lt 30, 3), (4, .iload_n 1, 1), (5, .ldc 65, 2), (7, .if_icmp .gt 24, 3), (10, .iload_n 2, 1), (11, .ifCond .lt 20, 3), (14, .iload_n 2, 1), (15, .ldc 65, 2), (17, .if_icmp .gt 14, 3), (20, .aload_n 0, 1), (21, .getfield 12, 3), (24, .getfield 66, 3), (27, .iconst 4, 1), (28, .if_icmp .lt 5, 3), (31, .iconst (-1), 1), (32, .ireturn, 1), (33, .aload_n 0, 1), (34, .getfield 22, 3), (37, .aload_n 0, 1), (38, .getfield 12, 3), (41, .getfield 66, 3), (44, .iload_n 1, 1), (45, .i2l, 1), (46, .iload_n 2, 1), (47, .i2l, 1), (48, .bipush 20, 2), (50, .lshl, 1), (51, .lor, 1), (52, .invokevirtual 69, 3), (55, .aload_n 0, 1), (56, .getfield 12, 3), (59, .dup, 1), (60, .getfield 66, 3), (63, .iconst 1, 1), (64, .iadd, 1), (65, .putfield 66, 3), (68, .aload_n 0, 1), (69, .getfield 12, 3), (72, .getfield 66, 3), (75, .iconst 1, 1), (76, .isub, 1), (77, .ireturn, 1)]
theorem tab_Th_hand : Tab 8 prog_1_method_2_code K_Th_hand B_Th_hand := tab_of rfl (by decide +kernel)
def B_Th_cow : List (Nat × Instr × Nat) := [(0, .iload_n 1, 1), (1, .invokestatic 73, 3), (4, .ifCond .eq 10, 3), (7, .iload_n 2, 1), (8, .invokestatic 79, 3), (11, .ifCond .ne 5, 3), (14, .iconst (-1), 1), (15, .ireturn, 1), (16, .aload_n 0, 1), (17, .getfield 12, 3), (20, .getfield 82, 3), (23, .iload_n 1, 1), (24, .iload_n 2, 1), (25, .invokevirtual 85, 3), (28, .ireturn, 1)]
theorem tab_Th_cow : Tab 8 prog_1_method_3_code K_Th_cow B_Th_cow := tab_of rfl (by decide +kernel)
def B_Th_gate : List (Nat × Instr × Nat) := [(0, .iload_n 1, 1), (1, .invokestatic 73, 3), (4, .ifCond .eq 12, 3), (7, .ldc 89, 2), (9, .iload_n 1, 1), (10, .ishr, 1), (11, .iconst 1, 1), (12, .iand, 1), (13, .ifCond .ne 5, 3), (16, .iconst 0, 1), (17, .ireturn, 1), (18, .aload_n 0, 1), (19, .getfield 12, 3), (22, .iload_n 2, 1), (23, .ifCond .eq 17, 3), (26, .aload_n 0, 1), (27, .getfield 12, 3), (30, .getfield 90, 3), (33, .iconst 1, 1), (34, .iload_n 1, 1), (35, .ishl, 1), (36, .ior, 1), (37, .goto 16, 3), (40, .aload_n 0, 1), (41, .getfield 12, 3), (44, .getfield 90, 3), (47, .iconst 1, 1), (48, .iload_n 1, 1), (49, .ishl, 1), (50, .iconst (-1), 1), (51, .ixor, 1), (52, .iand, 1), (53, .putfield 90, 3), (56, .iconst 1, 1), (57, .ireturn, 1)]
theorem tab_Th_gate : Tab 8 prog_1_method_4_code K_Th_gate B_Th_gate := tab_of rfl (by decide +kernel)
def B_Th_feed : List (Nat × Instr × Nat) := [(0, .aload_n 0, 1), (1, .getfield 40, 3), (4, .bipush 20, 2), (6, .invokevirtual 93, 3), (9, .ifCond .ne 5, 3), (12, .iconst (-1), 1), (13, .ireturn, 1), (14, .aload_n 0, 1), (15, .getfield 40, 3), (18, .iload_n 1, 1), (19, .invokevirtual 96, 3), (22, .aload_n 0, 1), (23, .getfield 40, 3), (26, .iload_n 2, 1), (27, .invokevirtual 96, 3), (30, .aload_n 0, 1), (31, .getfield 40, 3), (34, .iload_n 3, 1), (35, .invokevirtual 96, 3), (38, .aload_n 0, 1), (39, .getfield 40, 3), (42, .iload 4, 2), (44, .invokevirtual 96, 3), (47, .aload_n 0, 1), (48, .getfield 40, 3), (51, .iload 5, 2), (53, .invokevirtual 96, 3), (56, .aload_n 0, 1), (57, .getfield 40, 3), (60, .getfield 100, 3), (63, .ireturn, 1)]
theorem tab_Th_feed : Tab 8 prog_1_method_5_code K_Th_feed B_Th_feed := tab_of rfl (by decide +kernel)
def B_Th_end : List (Nat × Instr × Nat) := [(0, .iload_n 1, 1), (1, .ifCond .lt 14, 3), (4, .iload_n 1, 1), (5, .aload_n 0, 1), (6, .getfield 40, 3), (9, .getfield 100, 3), (12, .if_icmp .le 5, 3), (15, .iconst (-1), 1), (16, .ireturn, 1), (17, .aload_n 0, 1), (18, .getfield 40, 3), (21, .iload_n 1, 1), (22, .putfield 100, 3), (25, .iload_n 1, 1), (26, .ireturn, 1)]
theorem tab_Th_end : Tab 8 prog_1_method_6_code K_Th_end B_Th_end := tab_of rfl (by decide +kernel)
def B_Th_text : List (Nat × Instr × Nat) := [(0, .aload_n 0, 1), (1, .getfield 12, 3), (4, .getfield 103, 3), (7, .iconst 4, 1), (8, .if_icmp .lt 5, 3), (11, .iconst (-1), 1), (12, .ireturn, 1), (13, .aload_n 0, 1), (14, .getfield 40, 3), (17, .invokevirtual 105, 3), (20, .istore_n 1, 1), (21, .aload_n 0, 1), (22, .getfield 40, 3), (25, .iconst 0, 1), (26, .putfield 100, 3), (29, .iload_n 1, 1), (30, .ifCond .ne 5, 3), (33, .iconst (-1), 1), (34, .ireturn, 1), (35, .aload_n 0, 1), (36, .getfield 28, 3), (39, .aload_n 0, 1), (40, .getfield 12, 3), (43, .getfield 103, 3), (46, .aaload, 1), (47, .aload_n 0, 1), (48, .getfield 40, 3), (51, .getfield 109, 3), (54, .invokevirtual 112, 3), (57, .aload_n 0, 1), (58, .getfield 12, 3), (61, .dup, 1), (62, .getfield 103, 3), (65, .iconst 1, 1), (66, .iadd, 1), (67, .putfield 103, 3), (70, .aload_n 0, 1), (71, .getfield 12, 3), (74, .getfield 103, 3), (77, .iconst 1, 1), (78, .isub, 1), (79, .ireturn, 1)]
theorem tab_Th_text : Tab 8 prog_1_method_7_code K_Th_text B_Th_text := tab_of rfl (by decide +kernel)
def B_Th_fault : List (Nat × Instr × Nat) := [(0, .aload_n 0, 1), (1, .getfield 40, 3), (4, .getfield 116, 3), (7, .ifCond .ne 5, 3), (10, .iconst (-1), 1), (11, .ireturn, 1), (12, .iload_n 1, 1), (13, .ifCond .ne 11, 3), (16, .aload_n 0, 1), (17, .getfield 40, 3), (20, .getfield 120, 3), (23, .ireturn, 1), (24, .iload_n 1, 1), (25, .iconst 1, 1), (26, .if_icmp .ne 13, 3), (29, .aload_n 0, 1), (30, .getfield 40, 3), (33, .getfield 123, 3), (36, .goto 4, 3), (39, .iconst (-1), 1), (40, .ireturn, 1)]
theorem tab_Th_fault : Tab 8 prog_1_method_8_code K_Th_fault B_Th_fault := tab_of rfl (by decide +kernel)
def B_Th_by : List (Nat × Instr × Nat) := [(0, .iload_n 1, 1), (1, .iconst (-1), 1), (2, .if_icmp .eq 13, 3), (5, .aload_n 0, 1), (6, .iload_n 1, 1), (7, .invokevirtual 126, 3), (10, .ifCond .ne 5, 3), (13, .iconst 0, 1), (14, .ireturn, 1), (15, .aload_n 0, 1), (16, .getfield 12, 3), (19, .iload_n 1, 1), (20, .putfield 129, 3), (23, .iconst 1, 1), (24, .ireturn, 1)]
theorem tab_Th_by : Tab 8 prog_1_method_9_code K_Th_by B_Th_by := tab_of rfl (by decide +kernel)
def B_Th_plant : List (Nat × Instr × Nat) := [(0, .iload_n 1, 1), (1, .invokestatic 132, 3), (4, .ifCond .eq 17, 3), (7, .aload_n 0, 1), (8, .getfield 12, 3), (11, .getfield 82, 3), (14, .iload_n 1, 1), (15, .invokevirtual 135, 3), (18, .ifCond .eq 5, 3), (21, .iconst 0, 1), (22, .ireturn, 1), (23, .aload_n 0, 1), (24, .getfield 12, 3), (27, .invokevirtual 138, 3), (30, .aload_n 0, 1), (31, .getfield 12, 3), (34, .getfield 82, 3), (37, .iload_n 1, 1), (38, .invokevirtual 141, 3), (41, .iconst 1, 1), (42, .ireturn, 1)]
theorem tab_Th_plant : Tab 8 prog_1_method_10_code K_Th_plant B_Th_plant := tab_of rfl (by decide +kernel)
def B_Th_cut : List (Nat × Instr × Nat) := [(0, .aload_n 0, 1), (1, .getfield 12, 3), (4, .getfield 82, 3), (7, .iload_n 1, 1), (8, .invokevirtual 135, 3), (11, .ifCond .ne 5, 3), (14, .iconst 0, 1), (15, .ireturn, 1), (16, .aload_n 0, 1), (17, .getfield 12, 3), (20, .invokevirtual 138, 3), (23, .aload_n 0, 1), (24, .getfield 12, 3), (27, .getfield 82, 3), (30, .iload_n 1, 1), (31, .invokevirtual 144, 3), (34, .iconst 1, 1), (35, .ireturn, 1)]
theorem tab_Th_cut : Tab 8 prog_1_method_11_code K_Th_cut B_Th_cut := tab_of rfl (by decide +kernel)
def B_Th_press : List (Nat × Instr × Nat) := [(0, .aload_n 0, 1), (1, .iload_n 1, 1), (2, .invokevirtual 147, 3), (5, .ifCond .eq 10, 3), (8, .iload_n 2, 1), (9, .invokestatic 150, 3), (12, .ifCond .ne 5, 3), (15, .iconst 0, 1), (16, .ireturn, 1), (17, .aload_n 0, 1), (18, .getfield 12, 3), (21, .invokevirtual 138, 3), (24, .aload_n 0, 1), (25, .getfield 12, 3), (28, .getfield 82, 3), (31, .aload_n 0, 1), (32, .getfield 22, 3), (35, .iload_n 1, 1), (36, .iload_n 2, 1), (37, .invokevirtual 153, 3), (40, .putfield 157, 3), (43, .iconst 1, 1), (44, .ireturn, 1)]
theorem tab_Th_press : Tab 8 prog_1_method_12_code K_Th_press B_Th_press := tab_of rfl (by decide +kernel)
def B_Th_go : List (Nat × Instr × Nat) := [(0, .aload_n 0, 1), (1, .getfield 12, 3), (4, .getfield 82, 3), (7, .iload_n 1, 1), (8, .iload_n 2, 1), (9, .invokevirtual 161, 3), (12, .ifCond .ne 5, 3), (15, .iconst (-1), 1), (16, .ireturn, 1), (17, .aload_n 0, 1), (18, .getfield 12, 3), (21, .invokevirtual 138, 3), (24, .aload_n 0, 1), (25, .getfield 12, 3), (28, .getfield 82, 3), (31, .iload_n 1, 1), (32, .iload_n 2, 1), (33, .aload_n 0, 1), (34, .getfield 12, 3), (37, .getfield 90, 3), (40, .invokevirtual 165, 3), (43, .pop, 1), (44, .aload_n 0, 1), (45, .getfield 12, 3), (48, .getfield 82, 3), (51, .getfield 169, 3), (54, .iload_n 1, 1), (55, .iaload, 1), (56, .ireturn, 1)]
theorem tab_Th_go : Tab 8 prog_1_method_13_code K_Th_go B_Th_go := tab_of rfl (by decide +kernel)
def B_Th_hour : List (Nat × Instr × Nat) := [(0, .iload_n 1, 1), (1, .iconst 1, 1), (2, .if_icmp .lt 27, 3), (5, .iload_n 1, 1), (6, .bipush 60, 2), (8, .if_icmp .gt 21, 3), (11, .aload_n 0, 1), (12, .getfield 12, 3), (15, .getfield 82, 3), (18, .getfield 173, 3), (21, .iload_n 1, 1), (22, .iadd, 1), (23, .sipush 9999, 3), (26, .if_icmp .le 5, 3), (29, .iconst (-1), 1), (30, .ireturn, 1), (31, .aload_n 0, 1), (32, .getfield 12, 3), (35, .getfield 82, 3), (38, .getfield 176, 3), (41, .invokestatic 179, 3), (44, .istore_n 2, 1), (45, .aload_n 0, 1), (46, .iload_n 1, 1), (47, .invokevirtual 185, 3), (50, .pop, 1), (51, .aload_n 0, 1), (52, .getfield 12, 3), (55, .getfield 82, 3), (58, .getfield 176, 3), (61, .invokestatic 179, 3), (64, .iload_n 2, 1), (65, .isub, 1), (66, .ireturn, 1)]
theorem tab_Th_hour : Tab 8 prog_1_method_14_code K_Th_hour B_Th_hour := tab_of rfl (by decide +kernel)
def B_Th_played : List (Nat × Instr × Nat) := [(0, .aload_n 0, 1), (1, .iload_n 1, 1), (2, .invokevirtual 126, 3), (5, .ifCond .ne 6, 3), (8, .bipush (-2), 2), (10, .ireturn, 1), (11, .aload_n 0, 1), (12, .getfield 28, 3), (15, .iload_n 1, 1), (16, .aaload, 1), (17, .astore_n 2, 1), (18, .iconst 0, 1), (19, .istore_n 3, 1), (20, .iload_n 3, 1), (21, .aload_n 2, 1), (22, .getfield 188, 3), (25, .if_icmp .ge 63, 3), (28, .aload_n 2, 1), (29, .getfield 191, 3), (32, .iload_n 3, 1), (33, .iaload, 1), (34, .istore 4, 2), (36, .aload_n 2, 1), (37, .getfield 194, 3), (40, .iload_n 3, 1), (41, .iaload, 1), (42, .istore 5, 2), (44, .iload 4, 2), (46, .bipush 24, 2), (48, .if_icmp .ne 15, 3), (51, .aload_n 0, 1), (52, .iload 5, 2), (54, .invokevirtual 185, 3), (57, .ifCond .eq 23, 3), (60, .goto 22, 3), (63, .aload_n 0, 1), (64, .iload 4, 2), (66, .iload 5, 2), (68, .aload_n 2, 1), (69, .getfield 197, 3), (72, .iload_n 3, 1), (73, .iaload, 1), (74, .invokevirtual 200, 3), (77, .ifCond .ne 5, 3), (80, .iload_n 3, 1), (81, .ireturn, 1), (82, .iinc 3 1, 3), (85, .goto (-65), 3), (88, .iconst (-1), 1), (89, .ireturn, 1)]
theorem tab_Th_played : Tab 8 prog_1_method_15_code K_Th_played B_Th_played := tab_of rfl (by decide +kernel)
def B_Th_years : List (Nat × Instr × Nat) := [(0, .iload_n 1, 1), (1, .ifCond .lt 21, 3), (4, .iload_n 1, 1), (5, .sipush 9999, 3), (8, .if_icmp .gt 14, 3), (11, .iload_n 2, 1), (12, .iconst 1, 1), (13, .if_icmp .lt 9, 3), (16, .iload_n 2, 1), (17, .bipush 40, 2), (19, .if_icmp .le 5, 3), (22, .iconst (-1), 1), (23, .ireturn, 1), (24, .aload_n 0, 1), (25, .getfield 12, 3), (28, .invokevirtual 138, 3), (31, .aload_n 0, 1), (32, .getfield 12, 3), (35, .getfield 82, 3), (38, .iload_n 1, 1), (39, .iconst 2, 1), (40, .imul, 1), (41, .sipush 331, 3), (44, .iadd, 1), (45, .putfield 203, 3), (48, .iconst 0, 1), (49, .istore_n 3, 1), (50, .iload_n 3, 1), (51, .iload_n 2, 1), (52, .if_icmp .ge 23, 3), (55, .aload_n 0, 1), (56, .aload_n 0, 1), (57, .getfield 12, 3), (60, .getfield 82, 3), (63, .invokevirtual 206, 3), (66, .invokevirtual 210, 3), (69, .iinc 3 1, 3), (72, .goto (-22), 3), (75, .aload_n 0, 1), (76, .getfield 12, 3), (79, .getfield 82, 3), (82, .getfield 173, 3), (85, .ireturn, 1)]
theorem tab_Th_years : Tab 8 prog_1_method_16_code K_Th_years B_Th_years := tab_of rfl (by decide +kernel)
def B_Th_undo : List (Nat × Instr × Nat) := [(0, .aload_n 0, 1), (1, .getfield 12, 3), (4, .invokevirtual 213, 3), (7, .ifCond .eq 13, 3), (10, .aload_n 0, 1), (11, .getfield 12, 3), (14, .getfield 216, 3), (17, .goto 4, 3), (20, .iconst (-1), 1), (21, .ireturn, 1)]
theorem tab_Th_undo : Tab 8 prog_1_method_17_code K_Th_undo B_Th_undo := tab_of rfl (by decide +kernel)
def B_Th_of : List (Nat × Instr × Nat) := [(0, .aload_n 0, 1), (1, .getfield 12, 3), (4, .getfield 82, 3), (7, .astore_n 3, 1), (8, .aload_n 3, 1), (9, .iload_n 1, 1), (10, .invokevirtual 219, 3), (13, .ifCond .ne 6, 3), (16, .bipush (-100), 2), (18, .ireturn, 1), (19, .aload_n 3, 1), (20, .iload_n 1, 1), (21, .invokevirtual 222, 3), (24, .istore 4, 2), (26, .iload_n 2, 1), (27, .tableswitch 72 0 2 #[25, 41, 48], 25), (52, .iload 4, 2), (54, .ifCond .eq 7, 3), (57, .iconst (-1), 1), (58, .goto 9, 3), (61, .aload_n 3, 1), (62, .getfield 169, 3), (65, .iload_n 1, 1), (66, .iaload, 1), (67, .ireturn, 1), (68, .aload_n 3, 1), (69, .getfield 225, 3), (72, .iload_n 1, 1), (73, .iaload, 1), (74, .ireturn, 1), (75, .iload 4, 2), (77, .ifCond .eq 8, 3), (80, .bipush (-100), 2), (82, .goto 16, 3), (85, .aload_n 0, 1), (86, .getfield 47, 3), (89, .aload_n 0, 1), (90, .invokevirtual 228, 3), (93, .aload_n 3, 1), (94, .iload_n 1, 1), (95, .invokevirtual 232, 3), (98, .ireturn, 1), (99, .bipush (-100), 2), (101, .ireturn, 1)]
theorem tab_Th_of : Tab 8 prog_1_method_18_code K_Th_of B_Th_of := tab_of rfl (by decide +kernel)
def B_Th_cell : List (Nat × Instr × Nat) := [(0, .iload_n 1, 1), (1, .invokestatic 73, 3), (4, .ifCond .ne 5, 3), (7, .iconst (-1), 1), (8, .ireturn, 1), (9, .iload_n 2, 1), (10, .tableswitch 78 0 3 #[30, 42, 54, 66], 30), (40, .aload_n 0, 1), (41, .getfield 12, 3), (44, .getfield 82, 3), (47, .iload_n 1, 1), (48, .invokevirtual 236, 3), (51, .ireturn, 1), (52, .aload_n 0, 1), (53, .getfield 12, 3), (56, .getfield 82, 3), (59, .iload_n 1, 1), (60, .invokevirtual 239, 3), (63, .ireturn, 1), (64, .aload_n 0, 1), (65, .getfield 12, 3), (68, .getfield 90, 3), (71, .iload_n 1, 1), (72, .ishr, 1), (73, .iconst 1, 1), (74, .iand, 1), (75, .ireturn, 1), (76, .aload_n 0, 1), (77, .invokevirtual 242, 3), (80, .iload_n 1, 1), (81, .invokevirtual 246, 3), (84, .invokestatic 179, 3), (87, .ireturn, 1), (88, .iconst (-1), 1), (89, .ireturn, 1)]
theorem tab_Th_cell : Tab 8 prog_1_method_19_code K_Th_cell B_Th_cell := tab_of rfl (by decide +kernel)
def B_Th_hedge : List (Nat × Instr × Nat) := [(0, .iload_n 1, 1), (1, .invokestatic 132, 3), (4, .ifCond .ne 5, 3), (7, .iconst (-1), 1), (8, .ireturn, 1), (9, .iload_n 2, 1), (10, .tableswitch 80 0 3 #[30, 50, 55, 60], 30), (40, .aload_n 0, 1), (41, .getfield 12, 3), (44, .getfield 82, 3), (47, .iload_n 1, 1), (48, .invokevirtual 135, 3), (51, .ifCond .eq 7, 3), (54, .iconst 1, 1), (55, .goto 4, 3), (58, .iconst 0, 1), (59, .ireturn, 1), (60, .iload_n 1, 1), (61, .invokestatic 249, 3), (64, .ireturn, 1), (65, .iload_n 1, 1), (66, .invokestatic 252, 3), (69, .ireturn, 1), (70, .aload_n 0, 1), (71, .getfield 47, 3), (74, .aload_n 0, 1), (75, .invokevirtual 228, 3), (78, .aload_n 0, 1), (79, .getfield 12, 3), (82, .getfield 82, 3), (85, .iload_n 1, 1), (86, .invokevirtual 255, 3), (89, .ireturn, 1), (90, .iconst (-1), 1), (91, .ireturn, 1)]
theorem tab_Th_hedge : Tab 8 prog_1_method_20_code K_Th_hedge B_Th_hedge := tab_of rfl (by decide +kernel)
def B_Th_between : List (Nat × Instr × Nat) := [(0, .iload_n 1, 1), (1, .invokestatic 73, 3), (4, .ifCond .eq 10, 3), (7, .iload_n 2, 1), (8, .invokestatic 73, 3), (11, .ifCond .ne 5, 3), (14, .iconst (-1), 1), (15, .ireturn, 1), (16, .iconst 0, 1), (17, .istore_n 3, 1), (18, .iload_n 3, 1), (19, .iconst 4, 1), (20, .if_icmp .ge 24, 3), (23, .iload_n 1, 1), (24, .iload_n 3, 1), (25, .invokestatic 258, 3), (28, .iload_n 2, 1), (29, .if_icmp .ne 9, 3), (32, .iload_n 1, 1), (33, .iload_n 3, 1), (34, .invokestatic 261, 3), (37, .ireturn, 1), (38, .iinc 3 1, 3), (41, .goto (-23), 3), (44, .iconst (-1), 1), (45, .ireturn, 1)]
theorem tab_Th_between : Tab 8 prog_1_method_21_code K_Th_between B_Th_between := tab_of rfl (by decide +kernel)
def B_Th_is : List (Nat × Instr × Nat) := [(0, .aload_n 0, 1), (1, .getfield 12, 3), (4, .getfield 82, 3), (7, .astore_n 2, 1), (8, .iload_n 1, 1), (9, .tableswitch 69 0 4 #[35, 40, 45, 53, 61], 35), (44, .aload_n 2, 1), (45, .getfield 173, 3), (48, .ireturn, 1), (49, .aload_n 2, 1), (50, .getfield 203, 3), (53, .ireturn, 1), (54, .aload_n 2, 1), (55, .getfield 157, 3), (58, .invokestatic 264, 3), (61, .ireturn, 1), (62, .aload_n 2, 1), (63, .getfield 157, 3), (66, .invokestatic 268, 3), (69, .ireturn, 1), (70, .aload_n 2, 1), (71, .getfield 157, 3), (74, .invokestatic 271, 3), (77, .ireturn, 1), (78, .bipush (-2), 2), (80, .ireturn, 1)]
theorem tab_Th_is : Tab 8 prog_1_method_22_code K_Th_is B_Th_is := tab_of rfl (by decide +kernel)
def B_Th_book : List (Nat × Instr × Nat) := [(0, .aload_n 0, 1), (1, .getfield 12, 3), (4, .getfield 82, 3), (7, .astore_n 3, 1), (8, .iload_n 1, 1), (9, .iconst (-1), 1), (10, .if_icmp .ne 8, 3), (13, .aload_n 3, 1), (14, .getfield 275, 3), (17, .ireturn, 1), (18, .iload_n 1, 1), (19, .ifCond .lt 11, 3), (22, .iload_n 1, 1), (23, .aload_n 3, 1), (24, .getfield 275, 3), (27, .if_icmp .lt 6, 3), (30, .bipush (-2), 2), (32, .ireturn, 1), (33, .iload_n 2, 1), (34, .tableswitch 44 0 2 #[26, 32, 38], 26), (60, .aload_n 3, 1), (61, .iload_n 1, 1), (62, .invokevirtual 278, 3), (65, .ireturn, 1), (66, .aload_n 3, 1), (67, .iload_n 1, 1), (68, .invokevirtual 281, 3), (71, .ireturn, 1), (72, .aload_n 3, 1), (73, .iload_n 1, 1), (74, .invokevirtual 284, 3), (77, .ireturn, 1), (78, .bipush (-2), 2), (80, .ireturn, 1)]
theorem tab_Th_book : Tab 8 prog_1_method_23_code K_Th_book B_Th_book := tab_of rfl (by decide +kernel)
def B_Th_foretold : List (Nat × Instr × Nat) := [(0, .iload_n 1, 1), (1, .iconst 1, 1), (2, .if_icmp .lt 23, 3), (5, .iload_n 1, 1), (6, .bipush 60, 2), (8, .if_icmp .gt 17, 3), (11, .aload_n 0, 1), (12, .getfield 12, 3), (15, .getfield 82, 3), (18, .iload_n 2, 1), (19, .invokevirtual 219, 3), (22, .ifCond .ne 6, 3), (25, .bipush (-2), 2), (27, .ireturn, 1), (28, .aload_n 0, 1), (29, .getfield 61, 3), (32, .aload_n 0, 1), (33, .getfield 12, 3), (36, .getfield 82, 3), (39, .invokevirtual 287, 3), (42, .iconst 0, 1), (43, .istore_n 3, 1), (44, .iload_n 3, 1), (45, .iload_n 1, 1), (46, .if_icmp .ge 30, 3), (49, .aload_n 0, 1), (50, .getfield 61, 3), (53, .getfield 173, 3), (56, .sipush 9999, 3), (59, .if_icmp .ge 17, 3), (62, .aload_n 0, 1), (63, .aload_n 0, 1), (64, .getfield 61, 3), (67, .invokevirtual 290, 3), (70, .iinc 3 1, 3), (73, .goto (-29), 3), (76, .aload_n 0, 1), (77, .getfield 61, 3), (80, .iload_n 2, 1), (81, .invokevirtual 222, 3), (84, .ifCond .eq 7, 3), (87, .iconst (-1), 1), (88, .goto 12, 3), (91, .aload_n 0, 1), (92, .getfield 61, 3), (95, .getfield 169, 3), (98, .iload_n 2, 1), (99, .iaload, 1), (100, .ireturn, 1)]
theorem tab_Th_foretold : Tab 8 prog_1_method_24_code K_Th_foretold B_Th_foretold := tab_of rfl (by decide +kernel)
def B_Th_miles : List (Nat × Instr × Nat) := [(0, .iload_n 1, 1), (1, .invokestatic 73, 3), (4, .ifCond .eq 10, 3), (7, .iload_n 2, 1), (8, .invokestatic 73, 3), (11, .ifCond .ne 5, 3), (14, .iconst (-1), 1), (15, .ireturn, 1), (16, .aload_n 0, 1), (17, .invokevirtual 242, 3), (20, .iload_n 1, 1), (21, .iconst 1, 1), (22, .iload_n 2, 1), (23, .ishl, 1), (24, .invokevirtual 293, 3), (27, .ireturn, 1)]
theorem tab_Th_miles : Tab 8 prog_1_method_25_code K_Th_miles B_Th_miles := tab_of rfl (by decide +kernel)
def B_Th_way : List (Nat × Instr × Nat) := [(0, .iload_n 1, 1), (1, .invokestatic 73, 3), (4, .ifCond .eq 14, 3), (7, .iload_n 2, 1), (8, .invokestatic 73, 3), (11, .ifCond .eq 7, 3), (14, .iload_n 3, 1), (15, .ifCond .ge 6, 3), (18, .bipush (-2), 2), (20, .ireturn, 1), (21, .aload_n 0, 1), (22, .invokevirtual 242, 3), (25, .iload_n 1, 1), (26, .iconst 1, 1), (27, .iload_n 2, 1), (28, .ishl, 1), (29, .invokevirtual 293, 3), (32, .istore 4, 2), (34, .iload_n 3, 1), (35, .iload 4, 2), (37, .if_icmp .lt 6, 3), (40, .bipush (-2), 2), (42, .ireturn, 1), (43, .iload_n 1, 1), (44, .istore 5, 2), (46, .bipush (-2), 2), (48, .istore 6, 2), (50, .iload 4, 2), (52, .istore 7, 2), (54, .iload 7, 2), (56, .iload 4, 2), (58, .iload_n 3, 1), (59, .isub, 1), (60, .iconst 1, 1), (61, .isub, 1), (62, .if_icmp .le 42, 3), (65, .iload 5, 2), (67, .invokestatic 73, 3), (70, .ifCond .eq 34, 3), (73, .aload_n 0, 1), (74, .getfield 54, 3), (77, .iload 5, 2), (79, .iconst 1, 1), (80, .iload_n 2, 1), (81, .ishl, 1), (82, .iload 7, 2), (84, .invokevirtual 296, 3), (87, .istore 6, 2), (89, .iload 5, 2), (91, .iload 6, 2), (93, .invokestatic 258, 3), (96, .istore 5, 2), (98, .iinc 7 (-1), 3), (101, .goto (-47), 3), (104, .iload 6, 2), (106, .ireturn, 1)]
theorem tab_Th_way : Tab 8 prog_1_method_26_code K_Th_way B_Th_way := tab_of rfl (by decide +kernel)
def B_Th_cuts : List (Nat × Instr × Nat) := [(0, .iload_n 1, 1), (1, .invokestatic 73, 3), (4, .ifCond .eq 10, 3), (7, .iload_n 2, 1), (8, .invokestatic 73, 3), (11, .ifCond .ne 5, 3), (14, .iconst (-1), 1), (15, .ireturn, 1), (16, .aload_n 0, 1), (17, .invokevirtual 242, 3), (20, .iload_n 1, 1), (21, .iconst 1, 1), (22, .iload_n 2, 1), (23, .ishl, 1), (24, .invokevirtual 300, 3), (27, .ireturn, 1)]
theorem tab_Th_cuts : Tab 8 prog_1_method_27_code K_Th_cuts B_Th_cuts := tab_of rfl (by decide +kernel)
def B_Th_farthest : List (Nat × Instr × Nat) := [(0, .iload_n 1, 1), (1, .invokestatic 73, 3), (4, .ifCond .ne 5, 3), (7, .iconst (-1), 1), (8, .ireturn, 1), (9, .aload_n 0, 1), (10, .invokevirtual 242, 3), (13, .iload_n 1, 1), (14, .invokevirtual 303, 3), (17, .ireturn, 1)]
theorem tab_Th_farthest : Tab 8 prog_1_method_28_code K_Th_farthest B_Th_farthest := tab_of rfl (by decide +kernel)
def B_Th_wide : List (Nat × Instr × Nat) := [(0, .aload_n 0, 1), (1, .invokevirtual 242, 3), (4, .pop, 1), (5, .iconst 0, 1), (6, .istore_n 1, 1), (7, .iconst 0, 1), (8, .istore_n 2, 1), (9, .iload_n 2, 1), (10, .bipush 25, 2), (12, .if_icmp .ge 32, 3), (15, .iload_n 1, 1), (16, .aload_n 0, 1), (17, .getfield 54, 3), (20, .iload_n 2, 1), (21, .iconst 1, 1), (22, .aload_n 0, 1), (23, .getfield 54, 3), (26, .iload_n 2, 1), (27, .invokevirtual 303, 3), (30, .ishl, 1), (31, .invokevirtual 293, 3), (34, .invokestatic 306, 3), (37, .istore_n 1, 1), (38, .iinc 2 1, 3), (41, .goto (-32), 3), (44, .iload_n 1, 1), (45, .ireturn, 1)]
theorem tab_Th_wide : Tab 8 prog_1_method_29_code K_Th_wide B_Th_wide := tab_of rfl (by decide +kernel)
def B_Th_regions : List (Nat × Instr × Nat) := [(0, .iload_n 1, 1), (1, .ifCond .eq 13, 3), (4, .aload_n 0, 1), (5, .invokevirtual 242, 3), (8, .invokevirtual 311, 3), (11, .goto 10, 3), (14, .aload_n 0, 1), (15, .invokevirtual 242, 3), (18, .invokevirtual 314, 3), (21, .ireturn, 1)]
theorem tab_Th_regions : Tab 8 prog_1_method_30_code K_Th_regions B_Th_regions := tab_of rfl (by decide +kernel)
def B_Th_rings : List (Nat × Instr × Nat) := [(0, .bipush 40, 2), (2, .aload_n 0, 1), (3, .getfield 12, 3), (6, .getfield 82, 3), (9, .getfield 157, 3), (12, .invokestatic 271, 3), (15, .isub, 1), (16, .bipush 25, 2), (18, .isub, 1), (19, .aload_n 0, 1), (20, .invokevirtual 242, 3), (23, .invokevirtual 314, 3), (26, .iadd, 1), (27, .ireturn, 1)]
theorem tab_Th_rings : Tab 8 prog_1_method_31_code K_Th_rings B_Th_rings := tab_of rfl (by decide +kernel)
def B_Th_ends : List (Nat × Instr × Nat) := [(0, .iconst 0, 1), (1, .istore_n 1, 1), (2, .iconst 0, 1), (3, .istore_n 2, 1), (4, .iload_n 2, 1), (5, .bipush 25, 2), (7, .if_icmp .ge 33, 3), (10, .aload_n 0, 1), (11, .getfield 12, 3), (14, .getfield 82, 3), (17, .iload_n 2, 1), (18, .invokevirtual 239, 3), (21, .invokestatic 179, 3), (24, .iconst 1, 1), (25, .if_icmp .ne 9, 3), (28, .iload_n 1, 1), (29, .iconst 1, 1), (30, .iload_n 2, 1), (31, .ishl, 1), (32, .ior, 1), (33, .istore_n 1, 1), (34, .iinc 2 1, 3), (37, .goto (-33), 3), (40, .iload_n 1, 1), (41, .ireturn, 1)]
theorem tab_Th_ends : Tab 8 prog_1_method_32_code K_Th_ends B_Th_ends := tab_of rfl (by decide +kernel)
def B_Th_necks : List (Nat × Instr × Nat) := [(0, .aload_n 0, 1), (1, .invokevirtual 242, 3), (4, .pop, 1), (5, .iconst 0, 1), (6, .istore_n 1, 1), (7, .iconst 0, 1), (8, .istore_n 2, 1), (9, .iload_n 2, 1), (10, .bipush 25, 2), (12, .if_icmp .ge 26, 3), (15, .aload_n 0, 1), (16, .getfield 54, 3), (19, .iload_n 2, 1), (20, .invokevirtual 317, 3), (23, .ifCond .eq 9, 3), (26, .iload_n 1, 1), (27, .iconst 1, 1), (28, .iload_n 2, 1), (29, .ishl, 1), (30, .ior, 1), (31, .istore_n 1, 1), (32, .iinc 2 1, 3), (35, .goto (-26), 3), (38, .iload_n 1, 1), (39, .ireturn, 1)]
theorem tab_Th_necks : Tab 8 prog_1_method_33_code K_Th_necks B_Th_necks := tab_of rfl (by decide +kernel)
def B_Th_paths : List (Nat × Instr × Nat) := [(0, .iload_n 1, 1), (1, .invokestatic 73, 3), (4, .ifCond .eq 10, 3), (7, .iload_n 2, 1), (8, .invokestatic 73, 3), (11, .ifCond .ne 7, 3), (14, .ldc2_w 320, 3), (17, .lreturn, 1), (18, .aload_n 0, 1), (19, .invokevirtual 242, 3), (22, .iload_n 1, 1), (23, .iconst 1, 1), (24, .iload_n 2, 1), (25, .ishl, 1), (26, .invokevirtual 322, 3), (29, .lreturn, 1)]
theorem tab_Th_paths : Tab 8 prog_1_method_34_code K_Th_paths B_Th_paths := tab_of rfl (by decide +kernel)
def B_Th_walk : List (Nat × Instr × Nat) := [(0, .aload_n 0, 1), (1, .getfield 12, 3), (4, .getfield 82, 3), (7, .astore_n 3, 1), (8, .aload_n 3, 1), (9, .iload_n 1, 1), (10, .invokevirtual 219, 3), (13, .ifCond .ne 5, 3), (16, .iconst (-1), 1), (17, .ireturn, 1), (18, .aload_n 3, 1), (19, .iload_n 1, 1), (20, .invokevirtual 222, 3), (23, .ifCond .eq 13, 3), (26, .iload_n 2, 1), (27, .ifCond .eq 7, 3), (30, .iconst (-1), 1), (31, .goto 4, 3), (34, .iconst 0, 1), (35, .ireturn, 1), (36, .aload_n 3, 1), (37, .iload_n 1, 1), (38, .aload_n 0, 1), (39, .getfield 12, 3), (42, .getfield 90, 3), (45, .invokevirtual 325, 3), (48, .istore 4, 2), (50, .iload 4, 2), (52, .iconst (-1), 1), (53, .if_icmp .ne 7, 3), (56, .iload_n 2, 1), (57, .ifCond .ne 14, 3), (60, .iload_n 2, 1), (61, .ifCond .eq 7, 3), (64, .iconst (-1), 1), (65, .goto 5, 3), (68, .iload 4, 2), (70, .ireturn, 1), (71, .aload_n 3, 1), (72, .iload_n 1, 1), (73, .invokevirtual 328, 3), (76, .ireturn, 1)]
theorem tab_Th_walk : Tab 8 prog_1_method_35_code K_Th_walk B_Th_walk := tab_of rfl (by decide +kernel)
def B_Th_home : List (Nat × Instr × Nat) := [(0, .iload_n 1, 1), (1, .ifCond .lt 9, 3), (4, .iload_n 1, 1), (5, .bipush 99, 2), (7, .if_icmp .le 5, 3), (10, .iconst (-1), 1), (11, .ireturn, 1), (12, .aload_n 0, 1), (13, .invokevirtual 242, 3), (16, .aload_n 0, 1), (17, .getfield 12, 3), (20, .getfield 90, 3), (23, .iload_n 1, 1), (24, .invokevirtual 331, 3), (27, .istore_n 2, 1), (28, .iconst 0, 1), (29, .istore_n 3, 1), (30, .iconst 0, 1), (31, .istore 4, 2), (33, .iload 4, 2), (35, .aload_n 0, 1), (36, .getfield 12, 3), (39, .getfield 82, 3), (42, .getfield 334, 3), (45, .if_icmp .ge 52, 3), (48, .aload_n 0, 1), (49, .getfield 12, 3), (52, .getfield 82, 3), (55, .iload 4, 2), (57, .invokevirtual 222, 3), (60, .ifCond .ne 24, 3), (63, .iload_n 2, 1), (64, .aload_n 0, 1), (65, .getfield 12, 3), (68, .getfield 82, 3), (71, .getfield 169, 3), (74, .iload 4, 2), (76, .iaload, 1), (77, .ishr, 1), (78, .iconst 1, 1), (79, .iand, 1), (80, .iconst 1, 1), (81, .if_icmp .ne 10, 3), (84, .iload_n 3, 1), (85, .iconst 1, 1), (86, .iload 4, 2), (88, .ishl, 1), (89, .ior, 1), (90, .istore_n 3, 1), (91, .iinc 4 1, 3), (94, .goto (-61), 3), (97, .iload_n 3, 1), (98, .ireturn, 1)]
theorem tab_Th_home : Tab 8 prog_1_method_36_code K_Th_home B_Th_home := tab_of rfl (by decide +kernel)
def B_Th_gates : List (Nat × Instr × Nat) := [(0, .iload_n 1, 1), (1, .ifCond .lt 9, 3), (4, .iload_n 1, 1), (5, .bipush 25, 2), (7, .if_icmp .lt 5, 3), (10, .iconst (-1), 1), (11, .ireturn, 1), (12, .aload_n 0, 1), (13, .invokevirtual 242, 3), (16, .iload_n 1, 1), (17, .invokevirtual 337, 3), (20, .istore_n 3, 1), (21, .iload_n 3, 1), (22, .iconst (-1), 1), (23, .if_icmp .eq 7, 3), (26, .iload_n 2, 1), (27, .ifCond .ne 7, 3), (30, .iload_n 3, 1), (31, .goto 7, 3), (34, .iload_n 3, 1), (35, .invokestatic 179, 3), (38, .ireturn, 1)]
theorem tab_Th_gates : Tab 8 prog_1_method_37_code K_Th_gates B_Th_gates := tab_of rfl (by decide +kernel)
def B_Th_turned : List (Nat × Instr × Nat) := [(0, .aload_n 0, 1), (1, .iload_n 1, 1), (2, .invokevirtual 147, 3), (5, .ifCond .eq 10, 3), (8, .iload_n 2, 1), (9, .invokestatic 150, 3), (12, .ifCond .ne 5, 3), (15, .iconst (-1), 1), (16, .ireturn, 1), (17, .aload_n 0, 1), (18, .getfield 22, 3), (21, .iload_n 1, 1), (22, .iload_n 2, 1), (23, .invokevirtual 153, 3), (26, .lstore 4, 2), (28, .iload_n 3, 1), (29, .ifCond .eq 11, 3), (32, .lload 4, 2), (34, .invokestatic 268, 3), (37, .goto 8, 3), (40, .lload 4, 2), (42, .invokestatic 264, 3), (45, .ireturn, 1)]
theorem tab_Th_turned : Tab 8 prog_1_method_38_code K_Th_turned B_Th_turned := tab_of rfl (by decide +kernel)
def B_Th_unlike : List (Nat × Instr × Nat) := [(0, .aload_n 0, 1), (1, .iload_n 1, 1), (2, .invokevirtual 147, 3), (5, .ifCond .ne 5, 3), (8, .iconst (-1), 1), (9, .ireturn, 1), (10, .aload_n 0, 1), (11, .getfield 22, 3), (14, .iload_n 1, 1), (15, .aload_n 0, 1), (16, .getfield 12, 3), (19, .getfield 82, 3), (22, .getfield 157, 3), (25, .invokevirtual 340, 3), (28, .istore_n 3, 1), (29, .iload_n 2, 1), (30, .ifCond .eq 7, 3), (33, .iload_n 3, 1), (34, .goto 22, 3), (37, .aload_n 0, 1), (38, .getfield 22, 3), (41, .iload_n 1, 1), (42, .iload_n 3, 1), (43, .aload_n 0, 1), (44, .getfield 12, 3), (47, .getfield 82, 3), (50, .getfield 157, 3), (53, .invokevirtual 344, 3), (56, .ireturn, 1)]
theorem tab_Th_unlike : Tab 8 prog_1_method_39_code K_Th_unlike B_Th_unlike := tab_of rfl (by decide +kernel)
def B_Th_owner : List (Nat × Instr × Nat) := [(0, .iload_n 1, 1), (1, .ifCond .lt 9, 3), (4, .iload_n 1, 1), (5, .bipush 40, 2), (7, .if_icmp .le 5, 3), (10, .iconst (-1), 1), (11, .ireturn, 1), (12, .iconst (-1), 1), (13, .istore_n 2, 1), (14, .iload_n 1, 1), (15, .iconst 1, 1), (16, .iadd, 1), (17, .istore_n 3, 1), (18, .iconst 0, 1), (19, .istore 4, 2), (21, .iload 4, 2), (23, .aload_n 0, 1), (24, .getfield 12, 3), (27, .getfield 66, 3), (30, .if_icmp .ge 61, 3), (33, .aload_n 0, 1), (34, .getfield 22, 3), (37, .iload 4, 2), (39, .aload_n 0, 1), (40, .getfield 22, 3), (43, .iload 4, 2), (45, .aload_n 0, 1), (46, .getfield 12, 3), (49, .getfield 82, 3), (52, .getfield 157, 3), (55, .invokevirtual 340, 3), (58, .aload_n 0, 1), (59, .getfield 12, 3), (62, .getfield 82, 3), (65, .getfield 157, 3), (68, .invokevirtual 344, 3), (71, .istore 5, 2), (73, .iload 5, 2), (75, .iload_n 3, 1), (76, .if_icmp .ge 9, 3), (79, .iload 5, 2), (81, .istore_n 3, 1), (82, .iload 4, 2), (84, .istore_n 2, 1), (85, .iinc 4 1, 3), (88, .goto (-67), 3), (91, .iload_n 2, 1), (92, .ireturn, 1)]
theorem tab_Th_owner : Tab 8 prog_1_method_40_code K_Th_owner B_Th_owner := tab_of rfl (by decide +kernel)
def B_Th_twins : List (Nat × Instr × Nat) := [(0, .aload_n 0, 1), (1, .iload_n 1, 1), (2, .invokevirtual 147, 3), (5, .ifCond .eq 16, 3), (8, .aload_n 0, 1), (9, .iload_n 2, 1), (10, .invokevirtual 147, 3), (13, .ifCond .eq 8, 3), (16, .iload_n 1, 1), (17, .iload_n 2, 1), (18, .if_icmp .ne 5, 3), (21, .iconst (-1), 1), (22, .ireturn, 1), (23, .aload_n 0, 1), (24, .getfield 22, 3), (27, .iload_n 1, 1), (28, .iload_n 2, 1), (29, .invokevirtual 348, 3), (32, .ireturn, 1)]
theorem tab_Th_twins : Tab 8 prog_1_method_41_code K_Th_twins B_Th_twins := tab_of rfl (by decide +kernel)
def B_Th_kinds : List (Nat × Instr × Nat) := [(0, .iconst 0, 1), (1, .istore_n 1, 1), (2, .iconst 0, 1), (3, .istore_n 2, 1), (4, .iload_n 2, 1), (5, .aload_n 0, 1), (6, .getfield 12, 3), (9, .getfield 66, 3), (12, .if_icmp .ge 23, 3), (15, .aload_n 0, 1), (16, .getfield 22, 3), (19, .iload_n 2, 1), (20, .invokevirtual 351, 3), (23, .ifCond .ne 6, 3), (26, .iinc 1 1, 3), (29, .iinc 2 1, 3), (32, .goto (-28), 3), (35, .iload_n 1, 1), (36, .ireturn, 1)]
theorem tab_Th_kinds : Tab 8 prog_1_method_42_code K_Th_kinds B_Th_kinds := tab_of rfl (by decide +kernel)
def B_Th_selves : List (Nat × Instr × Nat) := [(0, .aload_n 0, 1), (1, .iload_n 1, 1), (2, .invokevirtual 147, 3), (5, .ifCond .ne 5, 3), (8, .iconst (-1), 1), (9, .ireturn, 1), (10, .aload_n 0, 1), (11, .getfield 22, 3), (14, .iload_n 1, 1), (15, .invokevirtual 354, 3), (18, .ireturn, 1)]
theorem tab_Th_selves : Tab 8 prog_1_method_43_code K_Th_selves B_Th_selves := tab_of rfl (by decide +kernel)
def B_Th_look : List (Nat × Instr × Nat) := [(0, .iload_n 1, 1), (1, .ifCond .lt 9, 3), (4, .iload_n 1, 1), (5, .bipush 40, 2), (7, .if_icmp .le 5, 3), (10, .iconst (-1), 1), (11, .ireturn, 1), (12, .aload_n 0, 1), (13, .getfield 22, 3), (16, .aload_n 0, 1), (17, .getfield 12, 3), (20, .getfield 66, 3), (23, .aload_n 0, 1), (24, .getfield 12, 3), (27, .getfield 82, 3), (30, .getfield 157, 3), (33, .iload_n 1, 1), (34, .invokevirtual 357, 3), (37, .ireturn, 1)]
theorem tab_Th_look : Tab 8 prog_1_method_44_code K_Th_look B_Th_look := tab_of rfl (by decide +kernel)
def B_Th_said : List (Nat × Instr × Nat) := [(0, .iload_n 1, 1), (1, .iconst (-1), 1), (2, .if_icmp .ne 13, 3), (5, .aload_n 0, 1), (6, .getfield 12, 3), (9, .iconst 0, 1), (10, .putfield 361, 3), (13, .iconst 0, 1), (14, .ireturn, 1), (15, .iload_n 1, 1), (16, .invokestatic 132, 3), (19, .ifCond .eq 25, 3), (22, .iload_n 2, 1), (23, .ifCond .lt 21, 3), (26, .iload_n 2, 1), (27, .bipush 10, 2), (29, .if_icmp .gt 15, 3), (32, .aload_n 0, 1), (33, .getfield 12, 3), (36, .getfield 361, 3), (39, .bipush 8, 2), (41, .if_icmp .lt 6, 3), (44, .bipush (-2), 2), (46, .ireturn, 1), (47, .aload_n 0, 1), (48, .getfield 12, 3), (51, .getfield 364, 3), (54, .aload_n 0, 1), (55, .getfield 12, 3), (58, .getfield 361, 3), (61, .iload_n 1, 1), (62, .iastore, 1), (63, .aload_n 0, 1), (64, .getfield 12, 3), (67, .getfield 367, 3), (70, .aload_n 0, 1), (71, .getfield 12, 3), (74, .getfield 361, 3), (77, .iload_n 2, 1), (78, .iastore, 1), (79, .aload_n 0, 1), (80, .getfield 12, 3), (83, .dup, 1), (84, .getfield 361, 3), (87, .iconst 1, 1), (88, .iadd, 1), (89, .putfield 361, 3), (92, .aload_n 0, 1), (93, .getfield 12, 3), (96, .getfield 361, 3), (99, .ireturn, 1)]
theorem tab_Th_said : Tab 8 prog_1_method_45_code K_Th_said B_Th_said := tab_of rfl (by decide +kernel)
end
section
def B_Th_whose : List (Nat × Instr × Nat) := [(0, .iconst 0, 1), (1, .istore_n 1, 1), (2, .iconst 0, 1), (3, .istore_n 2, 1), (4, .iload_n 2, 1), (5, .aload_n 0, 1), (6, .getfield 12, 3), (9, .getfield 103, 3), (12, .if_icmp .ge 28, 3), (15, .aload_n 0, 1), (16, .aload_n 0, 1), (17, .getfield 28, 3), (20, .iload_n 2, 1), (21, .aaload, 1), (22, .invokevirtual 370, 3), (25, .ifCond .eq 9, 3), (28, .iload_n 1, 1), (29, .iconst 1, 1), (30, .iload_n 2, 1), (31, .ishl, 1), (32, .ior, 1), (33, .istore_n 1, 1), (34, .iinc 2 1, 3), (37, .goto (-33), 3), (40, .iload_n 1, 1), (41, .ireturn, 1)]
theorem tab_Th_whose : Tab 8 prog_1_method_46_code K_Th_whose B_Th_whose := tab_of rfl (by decide +kernel)
def B_Th_thickest : List (Nat × Instr × Nat) := [(0, .iconst 0, 1), (1, .istore_n 1, 1), (2, .iconst 1, 1), (3, .istore_n 2, 1), (4, .iload_n 2, 1), (5, .bipush 25, 2), (7, .if_icmp .ge 36, 3), (10, .aload_n 0, 1), (11, .getfield 12, 3), (14, .getfield 82, 3), (17, .iload_n 2, 1), (18, .invokevirtual 236, 3), (21, .aload_n 0, 1), (22, .getfield 12, 3), (25, .getfield 82, 3), (28, .iload_n 1, 1), (29, .invokevirtual 236, 3), (32, .if_icmp .le 5, 3), (35, .iload_n 2, 1), (36, .istore_n 1, 1), (37, .iinc 2 1, 3), (40, .goto (-36), 3), (43, .iload_n 1, 1), (44, .ireturn, 1)]
theorem tab_Th_thickest : Tab 8 prog_1_method_47_code K_Th_thickest B_Th_thickest := tab_of rfl (by decide +kernel)
def B_Th_ledger : List (Nat × Instr × Nat) := [(0, .iload_n 1, 1), (1, .ifCond .eq 11, 3), (4, .iload_n 1, 1), (5, .iconst 1, 1), (6, .if_icmp .eq 6, 3), (9, .bipush (-2), 2), (11, .ireturn, 1), (12, .iconst 0, 1), (13, .istore_n 2, 1), (14, .iconst 0, 1), (15, .istore_n 3, 1), (16, .iload_n 3, 1), (17, .aload_n 0, 1), (18, .getfield 12, 3), (21, .getfield 82, 3), (24, .getfield 275, 3), (27, .if_icmp .ge 27, 3), (30, .aload_n 0, 1), (31, .getfield 12, 3), (34, .getfield 82, 3), (37, .iload_n 3, 1), (38, .invokevirtual 281, 3), (41, .iload_n 1, 1), (42, .if_icmp .ne 6, 3), (45, .iinc 2 1, 3), (48, .iinc 3 1, 3), (51, .goto (-35), 3), (54, .iload_n 2, 1), (55, .ireturn, 1)]
theorem tab_Th_ledger : Tab 8 prog_1_method_48_code K_Th_ledger B_Th_ledger := tab_of rfl (by decide +kernel)
def B_Th_image : List (Nat × Instr × Nat) := [(0, .aload_n 0, 1), (1, .getfield 16, 3), (4, .aload_n 0, 1), (5, .getfield 12, 3), (8, .invokevirtual 374, 3), (11, .aload_n 0, 1), (12, .getfield 12, 3), (15, .getfield 82, 3), (18, .getfield 173, 3), (21, .ireturn, 1)]
theorem tab_Th_image : Tab 8 prog_1_method_49_code K_Th_image B_Th_image := tab_of rfl (by decide +kernel)
def B_Th_back : List (Nat × Instr × Nat) := [(0, .aload_n 0, 1), (1, .getfield 12, 3), (4, .aload_n 0, 1), (5, .getfield 16, 3), (8, .invokevirtual 374, 3), (11, .aload_n 0, 1), (12, .getfield 12, 3), (15, .getfield 82, 3), (18, .getfield 173, 3), (21, .ireturn, 1)]
theorem tab_Th_back : Tab 8 prog_1_method_50_code K_Th_back B_Th_back := tab_of rfl (by decide +kernel)
def B_Th_about : List (Nat × Instr × Nat) := [(0, .iload_n 1, 1), (1, .tableswitch 114 0 7 #[47, 55, 66, 74, 82, 90, 98, 106], 47), (48, .aload_n 0, 1), (49, .getfield 12, 3), (52, .getfield 66, 3), (55, .ireturn, 1), (56, .aload_n 0, 1), (57, .getfield 12, 3), (60, .getfield 82, 3), (63, .getfield 334, 3), (66, .ireturn, 1), (67, .aload_n 0, 1), (68, .getfield 12, 3), (71, .getfield 103, 3), (74, .ireturn, 1), (75, .aload_n 0, 1), (76, .getfield 12, 3), (79, .getfield 129, 3), (82, .ireturn, 1), (83, .aload_n 0, 1), (84, .getfield 12, 3), (87, .getfield 216, 3), (90, .ireturn, 1), (91, .aload_n 0, 1), (92, .getfield 12, 3), (95, .getfield 361, 3), (98, .ireturn, 1), (99, .aload_n 0, 1), (100, .getfield 40, 3), (103, .getfield 100, 3), (106, .ireturn, 1), (107, .aload_n 0, 1), (108, .getfield 12, 3), (111, .getfield 90, 3), (114, .ireturn, 1), (115, .bipush (-2), 2), (117, .ireturn, 1)]
theorem tab_Th_about : Tab 8 prog_1_method_51_code K_Th_about B_Th_about := tab_of rfl (by decide +kernel)
def B_Th_isHand : List (Nat × Instr × Nat) := [(0, .iload_n 1, 1), (1, .ifCond .lt 18, 3), (4, .iload_n 1, 1), (5, .aload_n 0, 1), (6, .getfield 12, 3), (9, .getfield 66, 3), (12, .if_icmp .ge 7, 3), (15, .iconst 1, 1), (16, .goto 4, 3), (19, .iconst 0, 1), (20, .ireturn, 1)]
theorem tab_Th_isHand : Tab 8 prog_1_method_52_code K_Th_isHand B_Th_isHand := tab_of rfl (by decide +kernel)
def B_Th_isText : List (Nat × Instr × Nat) := [(0, .iload_n 1, 1), (1, .ifCond .lt 18, 3), (4, .iload_n 1, 1), (5, .aload_n 0, 1), (6, .getfield 12, 3), (9, .getfield 103, 3), (12, .if_icmp .ge 7, 3), (15, .iconst 1, 1), (16, .goto 4, 3), (19, .iconst 0, 1), (20, .ireturn, 1)]
theorem tab_Th_isText : Tab 8 prog_1_method_53_code K_Th_isText B_Th_isText := tab_of rfl (by decide +kernel)
def B_Th_ruling : List (Nat × Instr × Nat) := [(0, .aload_n 0, 1), (1, .aload_n 0, 1), (2, .getfield 12, 3), (5, .getfield 129, 3), (8, .invokevirtual 126, 3), (11, .ifCond .eq 18, 3), (14, .aload_n 0, 1), (15, .getfield 28, 3), (18, .aload_n 0, 1), (19, .getfield 12, 3), (22, .getfield 129, 3), (25, .aaload, 1), (26, .goto 7, 3), (29, .aload_n 0, 1), (30, .getfield 33, 3), (33, .areturn, 1)]
theorem tab_Th_ruling : Tab 8 prog_1_method_54_code K_Th_ruling B_Th_ruling := tab_of rfl (by decide +kernel)
def B_Th_mazeNow : List (Nat × Instr × Nat) := [(0, .aload_n 0, 1), (1, .getfield 54, 3), (4, .aload_n 0, 1), (5, .getfield 12, 3), (8, .getfield 82, 3), (11, .getfield 157, 3), (14, .invokevirtual 377, 3), (17, .aload_n 0, 1), (18, .getfield 54, 3), (21, .areturn, 1)]
theorem tab_Th_mazeNow : Tab 8 prog_1_method_55_code K_Th_mazeNow B_Th_mazeNow := tab_of rfl (by decide +kernel)
def B_Th_passHours : List (Nat × Instr × Nat) := [(0, .iconst 0, 1), (1, .istore_n 2, 1), (2, .iload_n 2, 1), (3, .iload_n 1, 1), (4, .if_icmp .ge 45, 3), (7, .aload_n 0, 1), (8, .getfield 12, 3), (11, .getfield 82, 3), (14, .getfield 173, 3), (17, .sipush 9999, 3), (20, .if_icmp .lt 5, 3), (23, .iconst 0, 1), (24, .ireturn, 1), (25, .aload_n 0, 1), (26, .getfield 12, 3), (29, .invokevirtual 138, 3), (32, .aload_n 0, 1), (33, .aload_n 0, 1), (34, .getfield 12, 3), (37, .getfield 82, 3), (40, .invokevirtual 290, 3), (43, .iinc 2 1, 3), (46, .goto (-44), 3), (49, .iconst 1, 1), (50, .ireturn, 1)]
theorem tab_Th_passHours : Tab 8 prog_1_method_56_code K_Th_passHours B_Th_passHours := tab_of rfl (by decide +kernel)
def B_Th_passHour : List (Nat × Instr × Nat) := [(0, .aload_n 0, 1), (1, .invokevirtual 228, 3), (4, .astore_n 2, 1), (5, .iconst 0, 1), (6, .istore_n 3, 1), (7, .iload_n 3, 1), (8, .aload_n 1, 1), (9, .getfield 334, 3), (12, .if_icmp .ge 42, 3), (15, .aload_n 1, 1), (16, .iload_n 3, 1), (17, .invokevirtual 222, 3), (20, .ifCond .ne 28, 3), (23, .aload_n 0, 1), (24, .getfield 47, 3), (27, .aload_n 2, 1), (28, .aload_n 1, 1), (29, .iload_n 3, 1), (30, .invokevirtual 232, 3), (33, .ifCond .le 15, 3), (36, .aload_n 1, 1), (37, .iload_n 3, 1), (38, .aload_n 0, 1), (39, .getfield 12, 3), (42, .getfield 90, 3), (45, .invokevirtual 381, 3), (48, .iinc 3 1, 3), (51, .goto (-44), 3), (54, .aload_n 1, 1), (55, .invokevirtual 206, 3), (58, .bipush 40, 2), (60, .irem, 1), (61, .istore_n 3, 1), (62, .aload_n 1, 1), (63, .iload_n 3, 1), (64, .invokevirtual 135, 3), (67, .ifCond .eq 34, 3), (70, .aload_n 1, 1), (71, .invokevirtual 206, 3), (74, .bipush 10, 2), (76, .irem, 1), (77, .aload_n 0, 1), (78, .getfield 47, 3), (81, .aload_n 2, 1), (82, .aload_n 1, 1), (83, .iload_n 3, 1), (84, .invokevirtual 255, 3), (87, .if_icmp .ge 14, 3), (90, .aload_n 1, 1), (91, .iload_n 3, 1), (92, .invokevirtual 144, 3), (95, .aload_n 1, 1), (96, .iconst 0, 1), (97, .iload_n 3, 1), (98, .invokevirtual 385, 3), (101, .aload_n 1, 1), (102, .dup, 1), (103, .getfield 173, 3), (106, .iconst 1, 1), (107, .iadd, 1), (108, .putfield 173, 3), (111, .return_, 1)]
theorem tab_Th_passHour : Tab 8 prog_1_method_57_code K_Th_passHour B_Th_passHour := tab_of rfl (by decide +kernel)
def B_Th_does : List (Nat × Instr × Nat) := [(0, .iload_n 1, 1), (1, .tableswitch 97 18 23 #[39, 55, 62, 68, 74, 81], 39), (40, .aload_n 0, 1), (41, .iload_n 2, 1), (42, .iload_n 3, 1), (43, .invokevirtual 388, 3), (46, .iconst (-1), 1), (47, .if_icmp .eq 7, 3), (50, .iconst 1, 1), (51, .goto 4, 3), (54, .iconst 0, 1), (55, .ireturn, 1), (56, .aload_n 0, 1), (57, .iload_n 2, 1), (58, .iconst 1, 1), (59, .invokevirtual 391, 3), (62, .ireturn, 1), (63, .aload_n 0, 1), (64, .iload_n 2, 1), (65, .invokevirtual 395, 3), (68, .ireturn, 1), (69, .aload_n 0, 1), (70, .iload_n 2, 1), (71, .invokevirtual 398, 3), (74, .ireturn, 1), (75, .aload_n 0, 1), (76, .iload_n 2, 1), (77, .iload_n 3, 1), (78, .invokevirtual 401, 3), (81, .ireturn, 1), (82, .aload_n 0, 1), (83, .iload_n 3, 1), (84, .iload_n 2, 1), (85, .invokevirtual 404, 3), (88, .iconst (-1), 1), (89, .if_icmp .eq 7, 3), (92, .iconst 1, 1), (93, .goto 4, 3), (96, .iconst 0, 1), (97, .ireturn, 1), (98, .iconst 1, 1), (99, .ireturn, 1)]
theorem tab_Th_does : Tab 8 prog_1_method_58_code K_Th_does B_Th_does := tab_of rfl (by decide +kernel)
def B_Th_befall : List (Nat × Instr × Nat) := [(0, .aload_n 0, 1), (1, .getfield 12, 3), (4, .getfield 82, 3), (7, .astore_n 2, 1), (8, .iload_n 1, 1), (9, .bipush 7, 2), (11, .idiv, 1), (12, .istore_n 3, 1), (13, .iload_n 1, 1), (14, .bipush 7, 2), (16, .irem, 1), (17, .tableswitch 137 0 3 #[31, 42, 53, 90], 31), (48, .aload_n 2, 1), (49, .iload_n 3, 1), (50, .bipush 40, 2), (52, .irem, 1), (53, .invokevirtual 141, 3), (56, .goto 113, 3), (59, .aload_n 2, 1), (60, .iload_n 3, 1), (61, .bipush 40, 2), (63, .irem, 1), (64, .invokevirtual 144, 3), (67, .goto 102, 3), (70, .aload_n 0, 1), (71, .getfield 12, 3), (74, .getfield 66, 3), (77, .ifCond .le 92, 3), (80, .aload_n 2, 1), (81, .aload_n 0, 1), (82, .getfield 22, 3), (85, .iload_n 1, 1), (86, .aload_n 0, 1), (87, .getfield 12, 3), (90, .getfield 66, 3), (93, .irem, 1), (94, .iload_n 3, 1), (95, .bipush 8, 2), (97, .irem, 1), (98, .invokevirtual 153, 3), (101, .putfield 157, 3), (104, .goto 65, 3), (107, .aload_n 2, 1), (108, .getfield 334, 3), (111, .ifCond .le 58, 3), (114, .aload_n 2, 1), (115, .iload_n 1, 1), (116, .aload_n 2, 1), (117, .getfield 334, 3), (120, .irem, 1), (121, .iload_n 3, 1), (122, .iconst 4, 1), (123, .irem, 1), (124, .invokevirtual 161, 3), (127, .ifCond .eq 42, 3), (130, .aload_n 2, 1), (131, .iload_n 1, 1), (132, .aload_n 2, 1), (133, .getfield 334, 3), (136, .irem, 1), (137, .iload_n 3, 1), (138, .iconst 4, 1), (139, .irem, 1), (140, .aload_n 0, 1), (141, .getfield 12, 3), (144, .getfield 90, 3), (147, .invokevirtual 165, 3), (150, .pop, 1), (151, .goto 18, 3), (154, .aload_n 2, 1), (155, .getfield 173, 3), (158, .sipush 9999, 3), (161, .if_icmp .ge 8, 3), (164, .aload_n 0, 1), (165, .aload_n 2, 1), (166, .invokevirtual 290, 3), (169, .return_, 1)]
theorem tab_Th_befall : Tab 8 prog_1_method_59_code K_Th_befall B_Th_befall := tab_of rfl (by decide +kernel)
def B_Th_saysAll : List (Nat × Instr × Nat) := [(0, .iconst 0, 1), (1, .istore_n 2, 1), (2, .iload_n 2, 1), (3, .aload_n 0, 1), (4, .getfield 12, 3), (7, .getfield 361, 3), (10, .if_icmp .ge 47, 3), (13, .aload_n 0, 1), (14, .getfield 47, 3), (17, .aload_n 1, 1), (18, .aload_n 0, 1), (19, .getfield 12, 3), (22, .getfield 82, 3), (25, .aload_n 0, 1), (26, .getfield 12, 3), (29, .getfield 364, 3), (32, .iload_n 2, 1), (33, .iaload, 1), (34, .invokevirtual 255, 3), (37, .aload_n 0, 1), (38, .getfield 12, 3), (41, .getfield 367, 3), (44, .iload_n 2, 1), (45, .iaload, 1), (46, .if_icmp .eq 5, 3), (49, .iconst 0, 1), (50, .ireturn, 1), (51, .iinc 2 1, 3), (54, .goto (-52), 3), (57, .iconst 1, 1), (58, .ireturn, 1)]
theorem tab_Th_saysAll : Tab 8 prog_1_method_60_code K_Th_saysAll B_Th_saysAll := tab_of rfl (by decide +kernel)
def B_Mo_copy : List (Nat × Instr × Nat) := [(0, .iconst 0, 1), (1, .istore_n 2, 1), (2, .iload_n 2, 1), (3, .sipush 1466, 3), (6, .if_icmp .ge 15, 3), (9, .aload_n 1, 1), (10, .iload_n 2, 1), (11, .aload_n 0, 1), (12, .iload_n 2, 1), (13, .iaload, 1), (14, .iastore, 1), (15, .iinc 2 1, 3), (18, .goto (-16), 3), (21, .return_, 1)]
theorem tab_Mo_copy : Tab 9 prog_11_method_2_code K_Mo_copy B_Mo_copy := tab_of rfl (by decide +kernel)
def B_Mo_isIn : List (Nat × Instr × Nat) := [(0, .iload_n 0, 1), (1, .iload_n 1, 1), (2, .if_icmp .lt 12, 3), (5, .iload_n 0, 1), (6, .iload_n 2, 1), (7, .if_icmp .gt 7, 3), (10, .iconst 1, 1), (11, .goto 4, 3), (14, .iconst 0, 1), (15, .ireturn, 1)]
theorem tab_Mo_isIn : Tab 9 prog_11_method_3_code K_Mo_isIn B_Mo_isIn := tab_of rfl (by decide +kernel)
def B_Mo_held : List (Nat × Instr × Nat) := [(0, .lload_n 0, 1), (1, .iload_n 2, 1), (2, .i2l, 1), (3, .lcmp, 1), (4, .ifCond .ge 7, 3), (7, .iload_n 2, 1), (8, .goto 16, 3), (11, .lload_n 0, 1), (12, .iload_n 3, 1), (13, .i2l, 1), (14, .lcmp, 1), (15, .ifCond .le 7, 3), (18, .iload_n 3, 1), (19, .goto 5, 3), (22, .lload_n 0, 1), (23, .l2i, 1), (24, .ireturn, 1)]
theorem tab_Mo_held : Tab 9 prog_11_method_4_code K_Mo_held B_Mo_held := tab_of rfl (by decide +kernel)
def B_Mo_size : List (Nat × Instr × Nat) := [(0, .iload_n 0, 1), (1, .ifCond .ge 8, 3), (4, .iload_n 0, 1), (5, .ineg, 1), (6, .goto 4, 3), (9, .iload_n 0, 1), (10, .ireturn, 1)]
theorem tab_Mo_size : Tab 9 prog_11_method_5_code K_Mo_size B_Mo_size := tab_of rfl (by decide +kernel)
def B_Mo_has : List (Nat × Instr × Nat) := [(0, .iload_n 0, 1), (1, .iload_n 1, 1), (2, .ishr, 1), (3, .iconst 1, 1), (4, .iand, 1), (5, .iconst 1, 1), (6, .if_icmp .ne 7, 3), (9, .iconst 1, 1), (10, .goto 4, 3), (13, .iconst 0, 1), (14, .ireturn, 1)]
theorem tab_Mo_has : Tab 9 prog_11_method_6_code K_Mo_has B_Mo_has := tab_of rfl (by decide +kernel)
def B_Mo_bits : List (Nat × Instr × Nat) := [(0, .iconst 0, 1), (1, .istore_n 1, 1), (2, .iload_n 0, 1), (3, .istore_n 2, 1), (4, .iload_n 2, 1), (5, .ifCond .eq 15, 3), (8, .iinc 1 1, 3), (11, .iload_n 2, 1), (12, .iload_n 2, 1), (13, .iconst 1, 1), (14, .isub, 1), (15, .iand, 1), (16, .istore_n 2, 1), (17, .goto (-13), 3), (20, .iload_n 1, 1), (21, .ireturn, 1)]
theorem tab_Mo_bits : Tab 9 prog_11_method_7_code K_Mo_bits B_Mo_bits := tab_of rfl (by decide +kernel)
def B_Mo_isCell : List (Nat × Instr × Nat) := [(0, .iload_n 0, 1), (1, .iconst 0, 1), (2, .bipush 24, 2), (4, .invokestatic 81, 3), (7, .ireturn, 1)]
theorem tab_Mo_isCell : Tab 9 prog_11_method_8_code K_Mo_isCell B_Mo_isCell := tab_of rfl (by decide +kernel)
def B_Mo_isHedge : List (Nat × Instr × Nat) := [(0, .iload_n 0, 1), (1, .iconst 0, 1), (2, .bipush 39, 2), (4, .invokestatic 81, 3), (7, .ireturn, 1)]
theorem tab_Mo_isHedge : Tab 9 prog_11_method_9_code K_Mo_isHedge B_Mo_isHedge := tab_of rfl (by decide +kernel)
def B_Mo_isRim : List (Nat × Instr × Nat) := [(0, .iload_n 0, 1), (1, .iconst 5, 1), (2, .idiv, 1), (3, .ifCond .eq 23, 3), (6, .iload_n 0, 1), (7, .iconst 5, 1), (8, .idiv, 1), (9, .iconst 4, 1), (10, .if_icmp .eq 16, 3), (13, .iload_n 0, 1), (14, .iconst 5, 1), (15, .irem, 1), (16, .ifCond .eq 10, 3), (19, .iload_n 0, 1), (20, .iconst 5, 1), (21, .irem, 1), (22, .iconst 4, 1), (23, .if_icmp .ne 7, 3), (26, .iconst 1, 1), (27, .goto 4, 3), (30, .iconst 0, 1), (31, .ireturn, 1)]
theorem tab_Mo_isRim : Tab 9 prog_11_method_10_code K_Mo_isRim B_Mo_isRim := tab_of rfl (by decide +kernel)
def B_Mo_isHand : List (Nat × Instr × Nat) := [(0, .iload_n 1, 1), (1, .iconst 0, 1), (2, .aload_n 0, 1), (3, .getfield 7, 3), (6, .iconst 0, 1), (7, .iaload, 1), (8, .iconst 1, 1), (9, .isub, 1), (10, .invokestatic 81, 3), (13, .ireturn, 1)]
theorem tab_Mo_isHand : Tab 9 prog_11_method_11_code K_Mo_isHand B_Mo_isHand := tab_of rfl (by decide +kernel)
def B_Mo_isCow : List (Nat × Instr × Nat) := [(0, .iload_n 1, 1), (1, .iconst 0, 1), (2, .aload_n 0, 1), (3, .getfield 7, 3), (6, .iconst 1, 1), (7, .iaload, 1), (8, .iconst 1, 1), (9, .isub, 1), (10, .invokestatic 81, 3), (13, .ireturn, 1)]
theorem tab_Mo_isCow : Tab 9 prog_11_method_12_code K_Mo_isCow B_Mo_isCow := tab_of rfl (by decide +kernel)
def B_Mo_beside : List (Nat × Instr × Nat) := [(0, .iload_n 1, 1), (1, .tableswitch 69 0 2 #[27, 40, 55], 27), (28, .iload_n 0, 1), (29, .iconst 5, 1), (30, .if_icmp .lt 9, 3), (33, .iload_n 0, 1), (34, .iconst 5, 1), (35, .isub, 1), (36, .goto 4, 3), (39, .iconst (-1), 1), (40, .ireturn, 1), (41, .iload_n 0, 1), (42, .iconst 5, 1), (43, .irem, 1), (44, .iconst 4, 1), (45, .if_icmp .ge 9, 3), (48, .iload_n 0, 1), (49, .iconst 1, 1), (50, .iadd, 1), (51, .goto 4, 3), (54, .iconst (-1), 1), (55, .ireturn, 1), (56, .iload_n 0, 1), (57, .bipush 20, 2), (59, .if_icmp .ge 9, 3), (62, .iload_n 0, 1), (63, .iconst 5, 1), (64, .iadd, 1), (65, .goto 4, 3), (68, .iconst (-1), 1), (69, .ireturn, 1), (70, .iload_n 0, 1), (71, .iconst 5, 1), (72, .irem, 1), (73, .ifCond .le 9, 3), (76, .iload_n 0, 1), (77, .iconst 1, 1), (78, .isub, 1), (79, .goto 4, 3), (82, .iconst (-1), 1), (83, .ireturn, 1)]
theorem tab_Mo_beside : Tab 9 prog_11_method_13_code K_Mo_beside B_Mo_beside := tab_of rfl (by decide +kernel)
def B_Mo_hedgeOf : List (Nat × Instr × Nat) := [(0, .iload_n 0, 1), (1, .iload_n 1, 1), (2, .if_icmp .ge 7, 3), (5, .iload_n 0, 1), (6, .goto 4, 3), (9, .iload_n 1, 1), (10, .istore_n 2, 1), (11, .iload_n 0, 1), (12, .iload_n 1, 1), (13, .isub, 1), (14, .invokestatic 85, 3), (17, .iconst 1, 1), (18, .if_icmp .ne 15, 3), (21, .iconst 4, 1), (22, .iload_n 2, 1), (23, .iconst 5, 1), (24, .idiv, 1), (25, .imul, 1), (26, .iload_n 2, 1), (27, .iconst 5, 1), (28, .irem, 1), (29, .iadd, 1), (30, .goto 7, 3), (33, .bipush 20, 2), (35, .iload_n 2, 1), (36, .iadd, 1), (37, .ireturn, 1)]
theorem tab_Mo_hedgeOf : Tab 9 prog_11_method_14_code K_Mo_hedgeOf B_Mo_hedgeOf := tab_of rfl (by decide +kernel)
def B_Mo_westOf : List (Nat × Instr × Nat) := [(0, .iload_n 0, 1), (1, .bipush 20, 2), (3, .if_icmp .ge 15, 3), (6, .iconst 5, 1), (7, .iload_n 0, 1), (8, .iconst 4, 1), (9, .idiv, 1), (10, .imul, 1), (11, .iload_n 0, 1), (12, .iconst 4, 1), (13, .irem, 1), (14, .iadd, 1), (15, .goto 7, 3), (18, .iload_n 0, 1), (19, .bipush 20, 2), (21, .isub, 1), (22, .ireturn, 1)]
theorem tab_Mo_westOf : Tab 9 prog_11_method_15_code K_Mo_westOf B_Mo_westOf := tab_of rfl (by decide +kernel)
def B_Mo_eastOf : List (Nat × Instr × Nat) := [(0, .iload_n 0, 1), (1, .invokestatic 89, 3), (4, .iload_n 0, 1), (5, .bipush 20, 2), (7, .if_icmp .ge 7, 3), (10, .iconst 1, 1), (11, .goto 4, 3), (14, .iconst 5, 1), (15, .iadd, 1), (16, .ireturn, 1)]
theorem tab_Mo_eastOf : Tab 9 prog_11_method_16_code K_Mo_eastOf B_Mo_eastOf := tab_of rfl (by decide +kernel)
def B_Mo_cellTurned : List (Nat × Instr × Nat) := [(0, .iload_n 0, 1), (1, .iconst 5, 1), (2, .idiv, 1), (3, .istore_n 2, 1), (4, .iload_n 1, 1), (5, .iconst 4, 1), (6, .if_icmp .ge 9, 3), (9, .iload_n 0, 1), (10, .iconst 5, 1), (11, .irem, 1), (12, .goto 8, 3), (15, .iconst 4, 1), (16, .iload_n 0, 1), (17, .iconst 5, 1), (18, .irem, 1), (19, .isub, 1), (20, .istore_n 3, 1), (21, .iconst 0, 1), (22, .istore 4, 2), (24, .iload 4, 2), (26, .iload_n 1, 1), (27, .iconst 4, 1), (28, .irem, 1), (29, .if_icmp .ge 19, 3), (32, .iload_n 2, 1), (33, .istore 5, 2), (35, .iload_n 3, 1), (36, .istore_n 2, 1), (37, .iconst 4, 1), (38, .iload 5, 2), (40, .isub, 1), (41, .istore_n 3, 1), (42, .iinc 4 1, 3), (45, .goto (-21), 3), (48, .iconst 5, 1), (49, .iload_n 2, 1), (50, .imul, 1), (51, .iload_n 3, 1), (52, .iadd, 1), (53, .ireturn, 1)]
theorem tab_Mo_cellTurned : Tab 9 prog_11_method_17_code K_Mo_cellTurned B_Mo_cellTurned := tab_of rfl (by decide +kernel)
def B_Mo_layTurns : List (Nat × Instr × Nat) := [(0, .iconst 0, 1), (1, .istore_n 1, 1), (2, .iload_n 1, 1), (3, .bipush 8, 2), (5, .if_icmp .ge 53, 3), (8, .iconst 0, 1), (9, .istore_n 2, 1), (10, .iload_n 2, 1), (11, .bipush 40, 2), (13, .if_icmp .ge 39, 3), (16, .aload_n 0, 1), (17, .getfield 19, 3), (20, .bipush 40, 2), (22, .iload_n 1, 1), (23, .imul, 1), (24, .iload_n 2, 1), (25, .invokestatic 89, 3), (28, .iload_n 1, 1), (29, .invokestatic 92, 3), (32, .iload_n 2, 1), (33, .invokestatic 96, 3), (36, .iload_n 1, 1), (37, .invokestatic 92, 3), (40, .invokestatic 99, 3), (43, .iadd, 1), (44, .iload_n 2, 1), (45, .iastore, 1), (46, .iinc 2 1, 3), (49, .goto (-39), 3), (52, .iinc 1 1, 3), (55, .goto (-53), 3), (58, .return_, 1)]
theorem tab_Mo_layTurns : Tab 9 prog_11_method_18_code K_Mo_layTurns B_Mo_layTurns := tab_of rfl (by decide +kernel)
def B_Mo_isThere : List (Nat × Instr × Nat) := [(0, .iload_n 1, 1), (1, .bipush 20, 2), (3, .if_icmp .ge 17, 3), (6, .aload_n 0, 1), (7, .getfield 7, 3), (10, .bipush 8, 2), (12, .iaload, 1), (13, .iload_n 1, 1), (14, .invokestatic 102, 3), (17, .goto 17, 3), (20, .aload_n 0, 1), (21, .getfield 7, 3), (24, .bipush 9, 2), (26, .iaload, 1), (27, .iload_n 1, 1), (28, .bipush 20, 2), (30, .isub, 1), (31, .invokestatic 102, 3), (34, .ireturn, 1)]
theorem tab_Mo_isThere : Tab 9 prog_11_method_19_code K_Mo_isThere B_Mo_isThere := tab_of rfl (by decide +kernel)
def B_Mo_change : List (Nat × Instr × Nat) := [(0, .iload_n 1, 1), (1, .bipush 20, 2), (3, .if_icmp .ge 19, 3), (6, .aload_n 0, 1), (7, .getfield 7, 3), (10, .bipush 8, 2), (12, .dup2, 1), (13, .iaload, 1), (14, .iconst 1, 1), (15, .iload_n 1, 1), (16, .ishl, 1), (17, .ixor, 1), (18, .iastore, 1), (19, .goto 19, 3), (22, .aload_n 0, 1), (23, .getfield 7, 3), (26, .bipush 9, 2), (28, .dup2, 1), (29, .iaload, 1), (30, .iconst 1, 1), (31, .iload_n 1, 1), (32, .bipush 20, 2), (34, .isub, 1), (35, .ishl, 1), (36, .ixor, 1), (37, .iastore, 1), (38, .return_, 1)]
theorem tab_Mo_change : Tab 9 prog_11_method_20_code K_Mo_change B_Mo_change := tab_of rfl (by decide +kernel)
def B_Mo_isOpen : List (Nat × Instr × Nat) := [(0, .iload_n 1, 1), (1, .iload_n 2, 1), (2, .invokestatic 106, 3), (5, .iconst (-1), 1), (6, .if_icmp .eq 23, 3), (9, .aload_n 0, 1), (10, .iload_n 1, 1), (11, .iload_n 1, 1), (12, .iload_n 2, 1), (13, .invokestatic 106, 3), (16, .invokestatic 99, 3), (19, .invokevirtual 109, 3), (22, .ifCond .ne 7, 3), (25, .iconst 1, 1), (26, .goto 4, 3), (29, .iconst 0, 1), (30, .ireturn, 1)]
theorem tab_Mo_isOpen : Tab 9 prog_11_method_21_code K_Mo_isOpen B_Mo_isOpen := tab_of rfl (by decide +kernel)
def B_Mo_openOf : List (Nat × Instr × Nat) := [(0, .iconst 0, 1), (1, .istore_n 2, 1), (2, .iconst 0, 1), (3, .istore_n 3, 1), (4, .iload_n 3, 1), (5, .iconst 4, 1), (6, .if_icmp .ge 28, 3), (9, .iload_n 2, 1), (10, .aload_n 0, 1), (11, .iload_n 1, 1), (12, .iload_n 3, 1), (13, .invokevirtual 113, 3), (16, .ifCond .eq 9, 3), (19, .iconst 1, 1), (20, .iload_n 3, 1), (21, .ishl, 1), (22, .goto 4, 3), (25, .iconst 0, 1), (26, .ior, 1), (27, .istore_n 2, 1), (28, .iinc 3 1, 3), (31, .goto (-27), 3), (34, .iload_n 2, 1), (35, .ireturn, 1)]
theorem tab_Mo_openOf : Tab 9 prog_11_method_22_code K_Mo_openOf B_Mo_openOf := tab_of rfl (by decide +kernel)
def B_Mo_aroundOf : List (Nat × Instr × Nat) := [(0, .iconst 0, 1), (1, .istore_n 2, 1), (2, .iconst 0, 1), (3, .istore_n 3, 1), (4, .iload_n 3, 1), (5, .iconst 4, 1), (6, .if_icmp .ge 35, 3), (9, .iload_n 2, 1), (10, .iload_n 1, 1), (11, .iload_n 3, 1), (12, .invokestatic 106, 3), (15, .iconst (-1), 1), (16, .if_icmp .eq 16, 3), (19, .aload_n 0, 1), (20, .iload_n 1, 1), (21, .iload_n 3, 1), (22, .invokevirtual 113, 3), (25, .ifCond .ne 7, 3), (28, .iconst 1, 1), (29, .goto 4, 3), (32, .iconst 0, 1), (33, .iadd, 1), (34, .istore_n 2, 1), (35, .iinc 3 1, 3), (38, .goto (-34), 3), (41, .iload_n 2, 1), (42, .ireturn, 1)]
theorem tab_Mo_aroundOf : Tab 9 prog_11_method_23_code K_Mo_aroundOf B_Mo_aroundOf := tab_of rfl (by decide +kernel)
def B_Mo_allNow : List (Nat × Instr × Nat) := [(0, .aload_n 0, 1), (1, .getfield 7, 3), (4, .bipush 8, 2), (6, .iaload, 1), (7, .invokestatic 116, 3), (10, .aload_n 0, 1), (11, .getfield 7, 3), (14, .bipush 9, 2), (16, .iaload, 1), (17, .invokestatic 116, 3), (20, .iadd, 1), (21, .ireturn, 1)]
theorem tab_Mo_allNow : Tab 9 prog_11_method_24_code K_Mo_allNow B_Mo_allNow := tab_of rfl (by decide +kernel)
def B_Mo_cellOf : List (Nat × Instr × Nat) := [(0, .aload_n 0, 1), (1, .getfield 7, 3), (4, .bipush 11, 2), (6, .iconst 2, 1), (7, .iload_n 1, 1), (8, .imul, 1), (9, .iadd, 1), (10, .iaload, 1), (11, .ireturn, 1)]
theorem tab_Mo_cellOf : Tab 9 prog_11_method_25_code K_Mo_cellOf B_Mo_cellOf := tab_of rfl (by decide +kernel)
def B_Mo_wayOf : List (Nat × Instr × Nat) := [(0, .aload_n 0, 1), (1, .getfield 7, 3), (4, .bipush 11, 2), (6, .iconst 2, 1), (7, .iload_n 1, 1), (8, .imul, 1), (9, .iadd, 1), (10, .iconst 1, 1), (11, .iadd, 1), (12, .iaload, 1), (13, .ireturn, 1)]
theorem tab_Mo_wayOf : Tab 9 prog_11_method_26_code K_Mo_wayOf B_Mo_wayOf := tab_of rfl (by decide +kernel)
def B_Mo_put : List (Nat × Instr × Nat) := [(0, .aload_n 0, 1), (1, .getfield 7, 3), (4, .bipush 11, 2), (6, .iconst 2, 1), (7, .iload_n 1, 1), (8, .imul, 1), (9, .iadd, 1), (10, .iload_n 2, 1), (11, .iastore, 1), (12, .aload_n 0, 1), (13, .getfield 7, 3), (16, .bipush 11, 2), (18, .iconst 2, 1), (19, .iload_n 1, 1), (20, .imul, 1), (21, .iadd, 1), (22, .iconst 1, 1), (23, .iadd, 1), (24, .iload_n 3, 1), (25, .iastore, 1), (26, .return_, 1)]
theorem tab_Mo_put : Tab 9 prog_11_method_27_code K_Mo_put B_Mo_put := tab_of rfl (by decide +kernel)
def B_Mo_hand : List (Nat × Instr × Nat) := [(0, .iload_n 1, 1), (1, .iconst 0, 1), (2, .ldc 119, 2), (4, .invokestatic 81, 3), (7, .ifCond .eq 23, 3), (10, .iload_n 2, 1), (11, .iconst 0, 1), (12, .ldc 119, 2), (14, .invokestatic 81, 3), (17, .ifCond .eq 13, 3), (20, .aload_n 0, 1), (21, .getfield 7, 3), (24, .iconst 0, 1), (25, .iaload, 1), (26, .iconst 4, 1), (27, .if_icmp .ne 5, 3), (30, .iconst (-1), 1), (31, .ireturn, 1), (32, .aload_n 0, 1), (33, .getfield 7, 3), (36, .bipush 32, 2), (38, .iconst 2, 1), (39, .aload_n 0, 1), (40, .getfield 7, 3), (43, .iconst 0, 1), (44, .iaload, 1), (45, .imul, 1), (46, .iadd, 1), (47, .iload_n 1, 1), (48, .iastore, 1), (49, .aload_n 0, 1), (50, .getfield 7, 3), (53, .bipush 32, 2), (55, .iconst 2, 1), (56, .aload_n 0, 1), (57, .getfield 7, 3), (60, .iconst 0, 1), (61, .iaload, 1), (62, .imul, 1), (63, .iadd, 1), (64, .iconst 1, 1), (65, .iadd, 1), (66, .iload_n 2, 1), (67, .iastore, 1), (68, .aload_n 0, 1), (69, .getfield 7, 3), (72, .iconst 0, 1), (73, .dup2, 1), (74, .iaload, 1), (75, .iconst 1, 1), (76, .iadd, 1), (77, .iastore, 1), (78, .aload_n 0, 1), (79, .getfield 7, 3), (82, .iconst 0, 1), (83, .iaload, 1), (84, .iconst 1, 1), (85, .isub, 1), (86, .ireturn, 1)]
theorem tab_Mo_hand : Tab 9 prog_11_method_28_code K_Mo_hand B_Mo_hand := tab_of rfl (by decide +kernel)
def B_Mo_cow : List (Nat × Instr × Nat) := [(0, .iload_n 1, 1), (1, .invokestatic 120, 3), (4, .ifCond .eq 22, 3), (7, .iload_n 2, 1), (8, .iconst 0, 1), (9, .iconst 3, 1), (10, .invokestatic 81, 3), (13, .ifCond .eq 13, 3), (16, .aload_n 0, 1), (17, .getfield 7, 3), (20, .iconst 1, 1), (21, .iaload, 1), (22, .iconst 5, 1), (23, .if_icmp .ne 5, 3), (26, .iconst (-1), 1), (27, .ireturn, 1), (28, .aload_n 0, 1), (29, .getfield 7, 3), (32, .iconst 1, 1), (33, .iaload, 1), (34, .istore_n 3, 1), (35, .aload_n 0, 1), (36, .getfield 7, 3), (39, .bipush 21, 2), (41, .iconst 2, 1), (42, .iload_n 3, 1), (43, .imul, 1), (44, .iadd, 1), (45, .iload_n 1, 1), (46, .iastore, 1), (47, .aload_n 0, 1), (48, .getfield 7, 3), (51, .bipush 21, 2), (53, .iconst 2, 1), (54, .iload_n 3, 1), (55, .imul, 1), (56, .iadd, 1), (57, .iconst 1, 1), (58, .iadd, 1), (59, .iload_n 2, 1), (60, .iastore, 1), (61, .aload_n 0, 1), (62, .iload_n 3, 1), (63, .iload_n 1, 1), (64, .iload_n 2, 1), (65, .invokevirtual 123, 3), (68, .aload_n 0, 1), (69, .getfield 7, 3), (72, .iconst 1, 1), (73, .dup2, 1), (74, .iaload, 1), (75, .iconst 1, 1), (76, .iadd, 1), (77, .iastore, 1), (78, .iload_n 3, 1), (79, .ireturn, 1)]
theorem tab_Mo_cow : Tab 9 prog_11_method_29_code K_Mo_cow B_Mo_cow := tab_of rfl (by decide +kernel)
def B_Mo_gate : List (Nat × Instr × Nat) := [(0, .iload_n 1, 1), (1, .invokestatic 120, 3), (4, .ifCond .eq 10, 3), (7, .iload_n 1, 1), (8, .invokestatic 127, 3), (11, .ifCond .ne 5, 3), (14, .iconst 0, 1), (15, .ireturn, 1), (16, .aload_n 0, 1), (17, .getfield 7, 3), (20, .bipush 31, 2), (22, .iload_n 2, 1), (23, .ifCond .eq 17, 3), (26, .aload_n 0, 1), (27, .getfield 7, 3), (30, .bipush 31, 2), (32, .iaload, 1), (33, .iconst 1, 1), (34, .iload_n 1, 1), (35, .ishl, 1), (36, .ior, 1), (37, .goto 16, 3), (40, .aload_n 0, 1), (41, .getfield 7, 3), (44, .bipush 31, 2), (46, .iaload, 1), (47, .iconst 1, 1), (48, .iload_n 1, 1), (49, .ishl, 1), (50, .iconst (-1), 1), (51, .ixor, 1), (52, .iand, 1), (53, .iastore, 1), (54, .iconst 1, 1), (55, .ireturn, 1)]
theorem tab_Mo_gate : Tab 9 prog_11_method_30_code K_Mo_gate B_Mo_gate := tab_of rfl (by decide +kernel)
def B_Mo_four : List (Nat × Instr × Nat) := [(0, .bipush 24, 2), (2, .istore_n 2, 1), (3, .iload_n 2, 1), (4, .ifCond .lt 35, 3), (7, .aload_n 0, 1), (8, .getfield 22, 3), (11, .aload_n 0, 1), (12, .getfield 130, 3), (15, .iload_n 1, 1), (16, .iload_n 2, 1), (17, .ishr, 1), (18, .sipush 255, 3), (21, .iand, 1), (22, .iastore, 1), (23, .aload_n 0, 1), (24, .dup, 1), (25, .getfield 130, 3), (28, .iconst 1, 1), (29, .iadd, 1), (30, .putfield 130, 3), (33, .iinc 2 (-8), 3), (36, .goto (-33), 3), (39, .return_, 1)]
theorem tab_Mo_four : Tab 9 prog_11_method_31_code K_Mo_four B_Mo_four := tab_of rfl (by decide +kernel)
def B_Mo_feed : List (Nat × Instr × Nat) := [(0, .aload_n 0, 1), (1, .getfield 130, 3), (4, .bipush 20, 2), (6, .iadd, 1), (7, .sipush 300, 3), (10, .if_icmp .le 5, 3), (13, .iconst (-1), 1), (14, .ireturn, 1), (15, .aload_n 0, 1), (16, .iload_n 1, 1), (17, .invokevirtual 133, 3), (20, .aload_n 0, 1), (21, .iload_n 2, 1), (22, .invokevirtual 133, 3), (25, .aload_n 0, 1), (26, .iload_n 3, 1), (27, .invokevirtual 133, 3), (30, .aload_n 0, 1), (31, .iload 4, 2), (33, .invokevirtual 133, 3), (36, .aload_n 0, 1), (37, .iload 5, 2), (39, .invokevirtual 133, 3), (42, .aload_n 0, 1), (43, .getfield 130, 3), (46, .ireturn, 1)]
theorem tab_Mo_feed : Tab 9 prog_11_method_32_code K_Mo_feed B_Mo_feed := tab_of rfl (by decide +kernel)
def B_Mo_end : List (Nat × Instr × Nat) := [(0, .iload_n 1, 1), (1, .iconst 0, 1), (2, .aload_n 0, 1), (3, .getfield 130, 3), (6, .invokestatic 81, 3), (9, .ifCond .ne 5, 3), (12, .iconst (-1), 1), (13, .ireturn, 1), (14, .aload_n 0, 1), (15, .iload_n 1, 1), (16, .putfield 130, 3), (19, .iload_n 1, 1), (20, .ireturn, 1)]
theorem tab_Mo_end : Tab 9 prog_11_method_33_code K_Mo_end B_Mo_end := tab_of rfl (by decide +kernel)
def B_Mo_byteAt : List (Nat × Instr × Nat) := [(0, .iload_n 1, 1), (1, .aload_n 0, 1), (2, .getfield 130, 3), (5, .if_icmp .ge 12, 3), (8, .aload_n 0, 1), (9, .getfield 22, 3), (12, .iload_n 1, 1), (13, .iaload, 1), (14, .goto 4, 3), (17, .iconst (-1), 1), (18, .ireturn, 1)]
theorem tab_Mo_byteAt : Tab 9 prog_11_method_34_code K_Mo_byteAt B_Mo_byteAt := tab_of rfl (by decide +kernel)
def B_Mo_isLetterByte : List (Nat × Instr × Nat) := [(0, .iload_n 0, 1), (1, .bipush 97, 2), (3, .if_icmp .lt 9, 3), (6, .iload_n 0, 1), (7, .bipush 122, 2), (9, .if_icmp .le 15, 3), (12, .iload_n 0, 1), (13, .bipush 65, 2), (15, .if_icmp .lt 13, 3), (18, .iload_n 0, 1), (19, .bipush 90, 2), (21, .if_icmp .gt 7, 3), (24, .iconst 1, 1), (25, .goto 4, 3), (28, .iconst 0, 1), (29, .ireturn, 1)]
theorem tab_Mo_isLetterByte : Tab 9 prog_11_method_35_code K_Mo_isLetterByte B_Mo_isLetterByte := tab_of rfl (by decide +kernel)
def B_Mo_isFigure : List (Nat × Instr × Nat) := [(0, .iload_n 0, 1), (1, .bipush 48, 2), (3, .if_icmp .lt 13, 3), (6, .iload_n 0, 1), (7, .bipush 57, 2), (9, .if_icmp .gt 7, 3), (12, .iconst 1, 1), (13, .goto 4, 3), (16, .iconst 0, 1), (17, .ireturn, 1)]
theorem tab_Mo_isFigure : Tab 9 prog_11_method_36_code K_Mo_isFigure B_Mo_isFigure := tab_of rfl (by decide +kernel)
def B_Mo_isSign : List (Nat × Instr × Nat) := [(0, .iload_n 0, 1), (1, .tableswitch 129 35 62 #[127, 129, 129, 129, 129, 127, 127, 127, 127, 129, 127, 129, 127, 129, 129, 129, 129, 129, 129, 129, 129, 129, 129, 127, 127, 127, 127, 127], 127), (128, .iconst 1, 1), (129, .ireturn, 1), (130, .iconst 0, 1), (131, .ireturn, 1)]
theorem tab_Mo_isSign : Tab 9 prog_11_method_37_code K_Mo_isSign B_Mo_isSign := tab_of rfl (by decide +kernel)
def B_Mo_nextToken : List (Nat × Instr × Nat) := [(0, .aload_n 0, 1), (1, .aload_n 0, 1), (2, .getfield 137, 3), (5, .invokevirtual 140, 3), (8, .bipush 32, 2), (10, .if_icmp .eq 16, 3), (13, .aload_n 0, 1), (14, .aload_n 0, 1), (15, .getfield 137, 3), (18, .invokevirtual 140, 3), (21, .bipush 10, 2), (23, .if_icmp .ne 16, 3), (26, .aload_n 0, 1), (27, .dup, 1), (28, .getfield 137, 3), (31, .iconst 1, 1), (32, .iadd, 1), (33, .putfield 137, 3), (36, .goto (-36), 3), (39, .aload_n 0, 1), (40, .aload_n 0, 1), (41, .getfield 137, 3), (44, .putfield 143, 3), (47, .aload_n 0, 1), (48, .aload_n 0, 1), (49, .getfield 137, 3), (52, .invokevirtual 140, 3), (55, .istore_n 1, 1), (56, .iload_n 1, 1), (57, .ifCond .ge 11, 3), (60, .aload_n 0, 1), (61, .iconst 0, 1), (62, .putfield 146, 3), (65, .goto 245, 3), (68, .iload_n 1, 1), (69, .invokestatic 149, 3), (72, .ifCond .eq 79, 3), (75, .aload_n 0, 1), (76, .iconst 1, 1), (77, .putfield 146, 3), (80, .aload_n 0, 1), (81, .iconst 0, 1), (82, .putfield 152, 3), (85, .aload_n 0, 1), (86, .aload_n 0, 1), (87, .getfield 137, 3), (90, .invokevirtual 140, 3), (93, .invokestatic 149, 3), (96, .ifCond .eq 214, 3), (99, .aload_n 0, 1), (100, .aload_n 0, 1), (101, .getfield 152, 3), (104, .ldc 155, 2), (106, .if_icmp .le 10, 3), (109, .aload_n 0, 1), (110, .getfield 152, 3), (113, .goto 22, 3), (116, .bipush 10, 2), (118, .aload_n 0, 1), (119, .getfield 152, 3), (122, .imul, 1), (123, .aload_n 0, 1), (124, .aload_n 0, 1), (125, .getfield 137, 3), (128, .invokevirtual 140, 3), (131, .iadd, 1), (132, .bipush 48, 2), (134, .isub, 1), (135, .putfield 152, 3), (138, .aload_n 0, 1), (139, .dup, 1), (140, .getfield 137, 3), (143, .iconst 1, 1), (144, .iadd, 1), (145, .putfield 137, 3), (148, .goto (-63), 3), (151, .iload_n 1, 1), (152, .invokestatic 156, 3), (155, .ifCond .eq 79, 3), (158, .aload_n 0, 1), (159, .iconst 2, 1), (160, .putfield 146, 3), (163, .aload_n 0, 1), (164, .lconst 0, 1), (165, .putfield 159, 3), (168, .aload_n 0, 1), (169, .aload_n 0, 1), (170, .getfield 137, 3), (173, .invokevirtual 140, 3), (176, .invokestatic 156, 3), (179, .ifCond .eq 131, 3), (182, .aload_n 0, 1), (183, .aload_n 0, 1), (184, .getfield 159, 3), (187, .bipush 48, 2), (189, .lshr, 1), (190, .lconst 0, 1), (191, .lcmp, 1), (192, .ifCond .eq 9, 3), (195, .ldc2_w 163, 3), (198, .goto 20, 3), (201, .aload_n 0, 1), (202, .getfield 159, 3), (205, .bipush 8, 2), (207, .lshl, 1), (208, .aload_n 0, 1), (209, .aload_n 0, 1), (210, .getfield 137, 3), (213, .invokevirtual 140, 3), (216, .i2l, 1), (217, .lor, 1), (218, .putfield 159, 3), (221, .aload_n 0, 1), (222, .dup, 1), (223, .getfield 137, 3), (226, .iconst 1, 1), (227, .iadd, 1), (228, .putfield 137, 3), (231, .goto (-63), 3), (234, .aload_n 0, 1), (235, .iload_n 1, 1), (236, .invokestatic 165, 3), (239, .ifCond .eq 7, 3), (242, .iload_n 1, 1), (243, .goto 4, 3), (246, .iconst 3, 1), (247, .putfield 146, 3), (250, .aload_n 0, 1), (251, .dup, 1), (252, .getfield 137, 3), (255, .iconst 1, 1), (256, .iadd, 1), (257, .putfield 137, 3), (260, .iload_n 1, 1), (261, .bipush 60, 2), (263, .if_icmp .eq 9, 3), (266, .iload_n 1, 1), (267, .bipush 62, 2), (269, .if_icmp .ne 41, 3), (272, .aload_n 0, 1), (273, .aload_n 0, 1), (274, .getfield 137, 3), (277, .invokevirtual 140, 3), (280, .bipush 61, 2), (282, .if_icmp .ne 28, 3), (285, .aload_n 0, 1), (286, .iload_n 1, 1), (287, .bipush 60, 2), (289, .if_icmp .ne 7, 3), (292, .iconst 4, 1), (293, .goto 4, 3), (296, .iconst 5, 1), (297, .putfield 146, 3), (300, .aload_n 0, 1), (301, .dup, 1), (302, .getfield 137, 3), (305, .iconst 1, 1), (306, .iadd, 1), (307, .putfield 137, 3), (310, .return_, 1)]
theorem tab_Mo_nextToken : Tab 9 prog_11_method_38_code K_Mo_nextToken B_Mo_nextToken := tab_of rfl (by decide +kernel)
def B_Mo_w2 : List (Nat × Instr × Nat) := [(0, .iload_n 0, 1), (1, .i2l, 1), (2, .bipush 8, 2), (4, .lshl, 1), (5, .iload_n 1, 1), (6, .i2l, 1), (7, .lor, 1), (8, .lreturn, 1)]
theorem tab_Mo_w2 : Tab 9 prog_11_method_39_code K_Mo_w2 B_Mo_w2 := tab_of rfl (by decide +kernel)
def B_Mo_w3 : List (Nat × Instr × Nat) := [(0, .iload_n 0, 1), (1, .iload_n 1, 1), (2, .invokestatic 168, 3), (5, .bipush 8, 2), (7, .lshl, 1), (8, .iload_n 2, 1), (9, .i2l, 1), (10, .lor, 1), (11, .lreturn, 1)]
theorem tab_Mo_w3 : Tab 9 prog_11_method_40_code K_Mo_w3 B_Mo_w3 := tab_of rfl (by decide +kernel)
def B_Mo_w4 : List (Nat × Instr × Nat) := [(0, .iload_n 0, 1), (1, .iload_n 1, 1), (2, .iload_n 2, 1), (3, .invokestatic 172, 3), (6, .bipush 8, 2), (8, .lshl, 1), (9, .iload_n 3, 1), (10, .i2l, 1), (11, .lor, 1), (12, .lreturn, 1)]
theorem tab_Mo_w4 : Tab 9 prog_11_method_41_code K_Mo_w4 B_Mo_w4 := tab_of rfl (by decide +kernel)
def B_Mo_w5 : List (Nat × Instr × Nat) := [(0, .iload_n 0, 1), (1, .iload_n 1, 1), (2, .iload_n 2, 1), (3, .iload_n 3, 1), (4, .invokestatic 176, 3), (7, .bipush 8, 2), (9, .lshl, 1), (10, .iload 4, 2), (12, .i2l, 1), (13, .lor, 1), (14, .lreturn, 1)]
theorem tab_Mo_w5 : Tab 9 prog_11_method_42_code K_Mo_w5 B_Mo_w5 := tab_of rfl (by decide +kernel)
def B_Mo_w6 : List (Nat × Instr × Nat) := [(0, .iload_n 0, 1), (1, .iload_n 1, 1), (2, .iload_n 2, 1), (3, .iload_n 3, 1), (4, .iload 4, 2), (6, .invokestatic 180, 3), (9, .bipush 8, 2), (11, .lshl, 1), (12, .iload 5, 2), (14, .i2l, 1), (15, .lor, 1), (16, .lreturn, 1)]
theorem tab_Mo_w6 : Tab 9 prog_11_method_43_code K_Mo_w6 B_Mo_w6 := tab_of rfl (by decide +kernel)
def B_Mo_isWord : List (Nat × Instr × Nat) := [(0, .aload_n 0, 1), (1, .getfield 146, 3), (4, .iconst 2, 1), (5, .if_icmp .ne 16, 3), (8, .aload_n 0, 1), (9, .getfield 159, 3), (12, .lload_n 1, 1), (13, .lcmp, 1), (14, .ifCond .ne 7, 3), (17, .iconst 1, 1), (18, .goto 4, 3), (21, .iconst 0, 1), (22, .ireturn, 1)]
theorem tab_Mo_isWord : Tab 9 prog_11_method_44_code K_Mo_isWord B_Mo_isWord := tab_of rfl (by decide +kernel)
def B_Mo_emit : List (Nat × Instr × Nat) := [(0, .aload_n 0, 1), (1, .getfield 16, 3), (4, .aload_n 0, 1), (5, .getfield 184, 3), (8, .bipush 73, 2), (10, .iadd, 1), (11, .iconst 2, 1), (12, .aload_n 0, 1), (13, .getfield 187, 3), (16, .imul, 1), (17, .iadd, 1), (18, .iload_n 1, 1), (19, .iastore, 1), (20, .aload_n 0, 1), (21, .getfield 16, 3), (24, .aload_n 0, 1), (25, .getfield 184, 3), (28, .bipush 73, 2), (30, .iadd, 1), (31, .iconst 2, 1), (32, .aload_n 0, 1), (33, .getfield 187, 3), (36, .imul, 1), (37, .iadd, 1), (38, .iconst 1, 1), (39, .iadd, 1), (40, .iload_n 2, 1), (41, .iastore, 1), (42, .aload_n 0, 1), (43, .dup, 1), (44, .getfield 187, 3), (47, .iconst 1, 1), (48, .iadd, 1), (49, .putfield 187, 3), (52, .return_, 1)]
theorem tab_Mo_emit : Tab 9 prog_11_method_45_code K_Mo_emit B_Mo_emit := tab_of rfl (by decide +kernel)
def B_Mo_nameOf : List (Nat × Instr × Nat) := [(0, .aload_n 0, 1), (1, .getfield 146, 3), (4, .iconst 2, 1), (5, .if_icmp .eq 5, 3), (8, .iconst (-1), 1), (9, .ireturn, 1), (10, .aload_n 0, 1), (11, .getfield 159, 3), (14, .bipush 104, 2), (16, .bipush 111, 2), (18, .bipush 117, 2), (20, .bipush 114, 2), (22, .invokestatic 176, 3), (25, .lcmp, 1), (26, .ifCond .ne 5, 3), (29, .iconst 0, 1), (30, .ireturn, 1), (31, .aload_n 0, 1), (32, .getfield 159, 3), (35, .bipush 99, 2), (37, .bipush 101, 2), (39, .bipush 108, 2), (41, .bipush 108, 2), (43, .invokestatic 176, 3), (46, .lcmp, 1), (47, .ifCond .ne 5, 3), (50, .iconst 1, 1), (51, .ireturn, 1), (52, .aload_n 0, 1), (53, .getfield 159, 3), (56, .bipush 97, 2), (58, .bipush 114, 2), (60, .bipush 111, 2), (62, .bipush 117, 2), (64, .bipush 110, 2), (66, .bipush 100, 2), (68, .invokestatic 190, 3), (71, .lcmp, 1), (72, .ifCond .ne 5, 3), (75, .iconst 2, 1), (76, .ireturn, 1), (77, .aload_n 0, 1), (78, .getfield 159, 3), (81, .bipush 97, 2), (83, .bipush 108, 2), (85, .bipush 108, 2), (87, .invokestatic 172, 3), (90, .lcmp, 1), (91, .ifCond .ne 5, 3), (94, .iconst 3, 1), (95, .ireturn, 1), (96, .aload_n 0, 1), (97, .getfield 159, 3), (100, .bipush 110, 2), (102, .bipush 117, 2), (104, .bipush 109, 2), (106, .bipush 98, 2), (108, .bipush 101, 2), (110, .bipush 114, 2), (112, .invokestatic 190, 3), (115, .lcmp, 1), (116, .ifCond .ne 5, 3), (119, .iconst 4, 1), (120, .ireturn, 1), (121, .aload_n 0, 1), (122, .getfield 159, 3), (125, .bipush 119, 2), (127, .bipush 104, 2), (129, .bipush 111, 2), (131, .invokestatic 172, 3), (134, .lcmp, 1), (135, .ifCond .ne 7, 3), (138, .iconst 5, 1), (139, .goto 26, 3), (142, .aload_n 0, 1), (143, .getfield 159, 3), (146, .bipush 119, 2), (148, .bipush 97, 2), (150, .bipush 121, 2), (152, .invokestatic 172, 3), (155, .lcmp, 1), (156, .ifCond .ne 8, 3), (159, .bipush 6, 2), (161, .goto 4, 3), (164, .iconst (-1), 1), (165, .ireturn, 1)]
theorem tab_Mo_nameOf : Tab 9 prog_11_method_46_code K_Mo_nameOf B_Mo_nameOf := tab_of rfl (by decide +kernel)
def B_Mo_isOf : List (Nat × Instr × Nat) := [(0, .iload_n 1, 1), (1, .iconst 4, 1), (2, .if_icmp .lt 26, 3), (5, .iload_n 1, 1), (6, .iconst 4, 1), (7, .if_icmp .ne 13, 3), (10, .aload_n 0, 1), (11, .getfield 194, 3), (14, .ifCond .ne 18, 3), (17, .goto 11, 3), (20, .aload_n 0, 1), (21, .getfield 194, 3), (24, .iconst 1, 1), (25, .if_icmp .ne 7, 3), (28, .iconst 1, 1), (29, .goto 4, 3), (32, .iconst 0, 1), (33, .ireturn, 1)]
theorem tab_Mo_isOf : Tab 9 prog_11_method_47_code K_Mo_isOf B_Mo_isOf := tab_of rfl (by decide +kernel)
def B_Mo_rank : List (Nat × Instr × Nat) := [(0, .iload_n 0, 1), (1, .bipush 40, 2), (3, .if_icmp .lt 7, 3), (6, .iconst 0, 1), (7, .goto 75, 3), (10, .iload_n 0, 1), (11, .bipush 22, 2), (13, .if_icmp .ne 7, 3), (16, .iconst 1, 1), (17, .goto 65, 3), (20, .iload_n 0, 1), (21, .bipush 21, 2), (23, .if_icmp .ne 7, 3), (26, .iconst 2, 1), (27, .goto 55, 3), (30, .iload_n 0, 1), (31, .bipush 20, 2), (33, .if_icmp .ne 7, 3), (36, .iconst 3, 1), (37, .goto 45, 3), (40, .iload_n 0, 1), (41, .bipush 10, 2), (43, .if_icmp .lt 7, 3), (46, .iconst 4, 1), (47, .goto 35, 3), (50, .iload_n 0, 1), (51, .iconst 5, 1), (52, .if_icmp .eq 13, 3), (55, .iload_n 0, 1), (56, .iconst 2, 1), (57, .if_icmp .eq 8, 3), (60, .iload_n 0, 1), (61, .iconst 4, 1), (62, .if_icmp .ne 8, 3), (65, .bipush 7, 2), (67, .goto 15, 3), (70, .iload_n 0, 1), (71, .bipush 8, 2), (73, .if_icmp .lt 8, 3), (76, .bipush 6, 2), (78, .goto 4, 3), (81, .iconst 5, 1), (82, .ireturn, 1)]
theorem tab_Mo_rank : Tab 9 prog_11_method_48_code K_Mo_rank B_Mo_rank := tab_of rfl (by decide +kernel)
end
section
def B_Mo_settle : List (Nat × Instr × Nat) := [(0, .aload_n 0, 1), (1, .getfield 197, 3), (4, .ifCond .le 89, 3), (7, .aload_n 0, 1), (8, .getfield 32, 3), (11, .aload_n 0, 1), (12, .getfield 197, 3), (15, .iconst 1, 1), (16, .isub, 1), (17, .iaload, 1), (18, .invokestatic 200, 3), (21, .iload_n 1, 1), (22, .if_icmp .lt 71, 3), (25, .aload_n 0, 1), (26, .dup, 1), (27, .getfield 197, 3), (30, .iconst 1, 1), (31, .isub, 1), (32, .putfield 197, 3), (35, .aload_n 0, 1), (36, .aload_n 0, 1), (37, .getfield 32, 3), (40, .aload_n 0, 1), (41, .getfield 197, 3), (44, .iaload, 1), (45, .iconst 0, 1), (46, .invokevirtual 203, 3), (49, .aload_n 0, 1), (50, .getfield 32, 3), (53, .aload_n 0, 1), (54, .getfield 197, 3), (57, .iaload, 1), (58, .invokestatic 200, 3), (61, .bipush 7, 2), (63, .if_icmp .eq 17, 3), (66, .aload_n 0, 1), (67, .getfield 32, 3), (70, .aload_n 0, 1), (71, .getfield 197, 3), (74, .iaload, 1), (75, .bipush 20, 2), (77, .if_icmp .ne (-77), 3), (80, .aload_n 0, 1), (81, .dup, 1), (82, .getfield 207, 3), (85, .iconst 1, 1), (86, .isub, 1), (87, .putfield 207, 3), (90, .goto (-90), 3), (93, .return_, 1)]
theorem tab_Mo_settle : Tab 9 prog_11_method_49_code K_Mo_settle B_Mo_settle := tab_of rfl (by decide +kernel)
def B_Mo_openAt : List (Nat × Instr × Nat) := [(0, .aload_n 0, 1), (1, .getfield 197, 3), (4, .iconst 1, 1), (5, .isub, 1), (6, .istore_n 1, 1), (7, .iload_n 1, 1), (8, .ifCond .lt 20, 3), (11, .aload_n 0, 1), (12, .getfield 32, 3), (15, .iload_n 1, 1), (16, .iaload, 1), (17, .bipush 40, 2), (19, .if_icmp .ge 9, 3), (22, .iinc 1 (-1), 3), (25, .goto (-18), 3), (28, .iload_n 1, 1), (29, .ireturn, 1)]
theorem tab_Mo_openAt : Tab 9 prog_11_method_50_code K_Mo_openAt B_Mo_openAt := tab_of rfl (by decide +kernel)
def B_Mo_openNow : List (Nat × Instr × Nat) := [(0, .aload_n 0, 1), (1, .invokevirtual 210, 3), (4, .ifCond .ge 7, 3), (7, .iconst (-1), 1), (8, .goto 12, 3), (11, .aload_n 0, 1), (12, .getfield 32, 3), (15, .aload_n 0, 1), (16, .invokevirtual 210, 3), (19, .iaload, 1), (20, .ireturn, 1)]
theorem tab_Mo_openNow : Tab 9 prog_11_method_51_code K_Mo_openNow B_Mo_openNow := tab_of rfl (by decide +kernel)
def B_Mo_isCompared : List (Nat × Instr × Nat) := [(0, .aload_n 0, 1), (1, .getfield 197, 3), (4, .iconst 1, 1), (5, .isub, 1), (6, .istore_n 1, 1), (7, .iload_n 1, 1), (8, .ifCond .lt 22, 3), (11, .aload_n 0, 1), (12, .getfield 32, 3), (15, .iload_n 1, 1), (16, .iaload, 1), (17, .invokestatic 200, 3), (20, .iconst 4, 1), (21, .if_icmp .le 9, 3), (24, .iinc 1 (-1), 3), (27, .goto (-20), 3), (30, .iload_n 1, 1), (31, .ifCond .lt 20, 3), (34, .aload_n 0, 1), (35, .getfield 32, 3), (38, .iload_n 1, 1), (39, .iaload, 1), (40, .invokestatic 200, 3), (43, .iconst 4, 1), (44, .if_icmp .ne 7, 3), (47, .iconst 1, 1), (48, .goto 4, 3), (51, .iconst 0, 1), (52, .ireturn, 1)]
theorem tab_Mo_isCompared : Tab 9 prog_11_method_52_code K_Mo_isCompared B_Mo_isCompared := tab_of rfl (by decide +kernel)
def B_Mo_isAskAhead : List (Nat × Instr × Nat) := [(0, .aload_n 0, 1), (1, .invokevirtual 214, 3), (4, .bipush 42, 2), (6, .if_icmp .ne 45, 3), (9, .aload_n 0, 1), (10, .getfield 32, 3), (13, .aload_n 0, 1), (14, .getfield 197, 3), (17, .iconst 1, 1), (18, .isub, 1), (19, .iaload, 1), (20, .bipush 40, 2), (22, .if_icmp .ge 25, 3), (25, .aload_n 0, 1), (26, .getfield 32, 3), (29, .aload_n 0, 1), (30, .getfield 197, 3), (33, .iconst 1, 1), (34, .isub, 1), (35, .iaload, 1), (36, .invokestatic 200, 3), (39, .iconst 1, 1), (40, .iconst 3, 1), (41, .invokestatic 81, 3), (44, .ifCond .eq 7, 3), (47, .iconst 1, 1), (48, .goto 4, 3), (51, .iconst 0, 1), (52, .ireturn, 1)]
theorem tab_Mo_isAskAhead : Tab 9 prog_11_method_53_code K_Mo_isAskAhead B_Mo_isAskAhead := tab_of rfl (by decide +kernel)
def B_Mo_opened : List (Nat × Instr × Nat) := [(0, .aload_n 0, 1), (1, .getfield 207, 3), (4, .bipush 8, 2), (6, .if_icmp .ne 5, 3), (9, .iconst 3, 1), (10, .ireturn, 1), (11, .aload_n 0, 1), (12, .dup, 1), (13, .getfield 207, 3), (16, .iconst 1, 1), (17, .iadd, 1), (18, .putfield 207, 3), (21, .aload_n 0, 1), (22, .getfield 32, 3), (25, .aload_n 0, 1), (26, .getfield 197, 3), (29, .iload_n 1, 1), (30, .iastore, 1), (31, .aload_n 0, 1), (32, .dup, 1), (33, .getfield 197, 3), (36, .iconst 1, 1), (37, .iadd, 1), (38, .putfield 197, 3), (41, .aload_n 0, 1), (42, .invokevirtual 217, 3), (45, .iconst 0, 1), (46, .ireturn, 1)]
theorem tab_Mo_opened : Tab 9 prog_11_method_54_code K_Mo_opened B_Mo_opened := tab_of rfl (by decide +kernel)
def B_Mo_beginOne : List (Nat × Instr × Nat) := [(0, .aload_n 0, 1), (1, .getfield 146, 3), (4, .iconst 1, 1), (5, .if_icmp .ne 15, 3), (8, .aload_n 0, 1), (9, .getfield 152, 3), (12, .sipush 9999, 3), (15, .if_icmp .le 5, 3), (18, .iconst 2, 1), (19, .ireturn, 1), (20, .aload_n 0, 1), (21, .invokevirtual 220, 3), (24, .istore_n 1, 1), (25, .iload_n 1, 1), (26, .ifCond .lt 13, 3), (29, .aload_n 0, 1), (30, .iload_n 1, 1), (31, .invokevirtual 223, 3), (34, .ifCond .ne 5, 3), (37, .iconst 5, 1), (38, .ireturn, 1), (39, .aload_n 0, 1), (40, .getfield 146, 3), (43, .iconst 1, 1), (44, .if_icmp .eq 7, 3), (47, .iload_n 1, 1), (48, .ifCond .lt 45, 3), (51, .aload_n 0, 1), (52, .aload_n 0, 1), (53, .getfield 146, 3), (56, .iconst 1, 1), (57, .if_icmp .ne 7, 3), (60, .iconst 0, 1), (61, .goto 4, 3), (64, .iconst 1, 1), (65, .aload_n 0, 1), (66, .getfield 146, 3), (69, .iconst 1, 1), (70, .if_icmp .ne 10, 3), (73, .aload_n 0, 1), (74, .getfield 152, 3), (77, .goto 4, 3), (80, .iload_n 1, 1), (81, .invokevirtual 203, 3), (84, .aload_n 0, 1), (85, .invokevirtual 217, 3), (88, .aload_n 0, 1), (89, .invokevirtual 226, 3), (92, .ireturn, 1), (93, .aload_n 0, 1), (94, .getfield 146, 3), (97, .bipush 40, 2), (99, .if_icmp .ne 10, 3), (102, .aload_n 0, 1), (103, .bipush 40, 2), (105, .invokevirtual 229, 3), (108, .ireturn, 1), (109, .aload_n 0, 1), (110, .getfield 146, 3), (113, .bipush 45, 2), (115, .if_icmp .ne 9, 3), (118, .aload_n 0, 1), (119, .iconst 5, 1), (120, .invokevirtual 229, 3), (123, .ireturn, 1), (124, .aload_n 0, 1), (125, .bipush 102, 2), (127, .bipush 97, 2), (129, .bipush 114, 2), (131, .invokestatic 172, 3), (134, .invokevirtual 232, 3), (137, .ifCond .eq 10, 3), (140, .aload_n 0, 1), (141, .bipush 41, 2), (143, .invokevirtual 229, 3), (146, .ireturn, 1), (147, .aload_n 0, 1), (148, .bipush 104, 2), (150, .bipush 101, 2), (152, .bipush 100, 2), (154, .bipush 103, 2), (156, .bipush 101, 2), (158, .invokestatic 180, 3), (161, .invokevirtual 232, 3), (164, .ifCond .eq 9, 3), (167, .aload_n 0, 1), (168, .iconst 2, 1), (169, .invokevirtual 229, 3), (172, .ireturn, 1), (173, .aload_n 0, 1), (174, .bipush 105, 2), (176, .bipush 102, 2), (178, .invokestatic 168, 3), (181, .invokevirtual 232, 3), (184, .ifCond .eq 10, 3), (187, .aload_n 0, 1), (188, .bipush 42, 2), (190, .invokevirtual 229, 3), (193, .ireturn, 1), (194, .aload_n 0, 1), (195, .bipush 110, 2), (197, .bipush 111, 2), (199, .bipush 116, 2), (201, .invokestatic 172, 3), (204, .invokevirtual 232, 3), (207, .ifCond .eq 19, 3), (210, .aload_n 0, 1), (211, .invokevirtual 236, 3), (214, .ifCond .eq 12, 3), (217, .aload_n 0, 1), (218, .bipush 20, 2), (220, .invokevirtual 229, 3), (223, .goto 4, 3), (226, .iconst 1, 1), (227, .ireturn, 1)]
theorem tab_Mo_beginOne : Tab 9 prog_11_method_55_code K_Mo_beginOne B_Mo_beginOne := tab_of rfl (by decide +kernel)
def B_Mo_endOne : List (Nat × Instr × Nat) := [(0, .aload_n 0, 1), (1, .bipush 7, 2), (3, .invokevirtual 240, 3), (6, .aload_n 0, 1), (7, .iconst 1, 1), (8, .putfield 243, 3), (11, .aload_n 0, 1), (12, .getfield 197, 3), (15, .ifCond .eq 19, 3), (18, .aload_n 0, 1), (19, .getfield 32, 3), (22, .aload_n 0, 1), (23, .getfield 197, 3), (26, .iconst 1, 1), (27, .isub, 1), (28, .iaload, 1), (29, .bipush 41, 2), (31, .if_icmp .eq 5, 3), (34, .iconst 0, 1), (35, .ireturn, 1), (36, .aload_n 0, 1), (37, .bipush 111, 2), (39, .bipush 102, 2), (41, .invokestatic 168, 3), (44, .invokevirtual 232, 3), (47, .ifCond .ne 5, 3), (50, .iconst 1, 1), (51, .ireturn, 1), (52, .aload_n 0, 1), (53, .invokevirtual 217, 3), (56, .aload_n 0, 1), (57, .getfield 32, 3), (60, .aload_n 0, 1), (61, .getfield 197, 3), (64, .iconst 1, 1), (65, .isub, 1), (66, .iconst 4, 1), (67, .iastore, 1), (68, .aload_n 0, 1), (69, .iconst 0, 1), (70, .putfield 243, 3), (73, .iconst 0, 1), (74, .ireturn, 1)]
theorem tab_Mo_endOne : Tab 9 prog_11_method_56_code K_Mo_endOne B_Mo_endOne := tab_of rfl (by decide +kernel)
def B_Mo_compareOf : List (Nat × Instr × Nat) := [(0, .aload_n 0, 1), (1, .getfield 146, 3), (4, .bipush 60, 2), (6, .if_icmp .ne 8, 3), (9, .bipush 10, 2), (11, .goto 72, 3), (14, .aload_n 0, 1), (15, .getfield 146, 3), (18, .iconst 4, 1), (19, .if_icmp .ne 8, 3), (22, .bipush 11, 2), (24, .goto 59, 3), (27, .aload_n 0, 1), (28, .getfield 146, 3), (31, .bipush 62, 2), (33, .if_icmp .ne 8, 3), (36, .bipush 12, 2), (38, .goto 45, 3), (41, .aload_n 0, 1), (42, .getfield 146, 3), (45, .iconst 5, 1), (46, .if_icmp .ne 8, 3), (49, .bipush 13, 2), (51, .goto 32, 3), (54, .aload_n 0, 1), (55, .getfield 146, 3), (58, .bipush 61, 2), (60, .if_icmp .ne 8, 3), (63, .bipush 14, 2), (65, .goto 18, 3), (68, .aload_n 0, 1), (69, .getfield 146, 3), (72, .bipush 35, 2), (74, .if_icmp .ne 8, 3), (77, .bipush 15, 2), (79, .goto 4, 3), (82, .iconst (-1), 1), (83, .ireturn, 1)]
theorem tab_Mo_compareOf : Tab 9 prog_11_method_57_code K_Mo_compareOf B_Mo_compareOf := tab_of rfl (by decide +kernel)
def B_Mo_betweenOf : List (Nat × Instr × Nat) := [(0, .aload_n 0, 1), (1, .getfield 146, 3), (4, .bipush 43, 2), (6, .if_icmp .ne 6, 3), (9, .bipush 6, 2), (11, .ireturn, 1), (12, .aload_n 0, 1), (13, .getfield 146, 3), (16, .bipush 45, 2), (18, .if_icmp .ne 6, 3), (21, .bipush 7, 2), (23, .ireturn, 1), (24, .aload_n 0, 1), (25, .getfield 146, 3), (28, .bipush 42, 2), (30, .if_icmp .ne 6, 3), (33, .bipush 8, 2), (35, .ireturn, 1), (36, .aload_n 0, 1), (37, .getfield 146, 3), (40, .bipush 47, 2), (42, .if_icmp .ne 6, 3), (45, .bipush 9, 2), (47, .ireturn, 1), (48, .aload_n 0, 1), (49, .invokevirtual 214, 3), (52, .bipush 42, 2), (54, .if_icmp .eq 5, 3), (57, .iconst (-1), 1), (58, .ireturn, 1), (59, .aload_n 0, 1), (60, .invokevirtual 246, 3), (63, .ifCond .ne 8, 3), (66, .aload_n 0, 1), (67, .invokevirtual 249, 3), (70, .ireturn, 1), (71, .aload_n 0, 1), (72, .bipush 97, 2), (74, .bipush 110, 2), (76, .bipush 100, 2), (78, .invokestatic 172, 3), (81, .invokevirtual 232, 3), (84, .ifCond .eq 8, 3), (87, .bipush 21, 2), (89, .goto 23, 3), (92, .aload_n 0, 1), (93, .bipush 111, 2), (95, .bipush 114, 2), (97, .invokestatic 168, 3), (100, .invokevirtual 232, 3), (103, .ifCond .eq 8, 3), (106, .bipush 22, 2), (108, .goto 4, 3), (111, .iconst (-1), 1), (112, .ireturn, 1)]
theorem tab_Mo_betweenOf : Tab 9 prog_11_method_58_code K_Mo_betweenOf B_Mo_betweenOf := tab_of rfl (by decide +kernel)
def B_Mo_partOf : List (Nat × Instr × Nat) := [(0, .iload_n 1, 1), (1, .tableswitch 129 40 44 #[35, 129, 50, 82, 107], 35), (36, .aload_n 0, 1), (37, .getfield 146, 3), (40, .bipush 41, 2), (42, .if_icmp .ne 7, 3), (45, .iconst 0, 1), (46, .goto 4, 3), (49, .iconst (-1), 1), (50, .ireturn, 1), (51, .aload_n 0, 1), (52, .bipush 116, 2), (54, .bipush 104, 2), (56, .bipush 101, 2), (58, .bipush 110, 2), (60, .invokestatic 176, 3), (63, .invokevirtual 232, 3), (66, .ifCond .eq 15, 3), (69, .aload_n 0, 1), (70, .invokevirtual 246, 3), (73, .ifCond .eq 8, 3), (76, .bipush 43, 2), (78, .goto 4, 3), (81, .iconst (-1), 1), (82, .ireturn, 1), (83, .aload_n 0, 1), (84, .bipush 101, 2), (86, .bipush 108, 2), (88, .bipush 115, 2), (90, .bipush 101, 2), (92, .invokestatic 176, 3), (95, .invokevirtual 232, 3), (98, .ifCond .eq 8, 3), (101, .bipush 44, 2), (103, .goto 4, 3), (106, .iconst (-1), 1), (107, .ireturn, 1), (108, .aload_n 0, 1), (109, .bipush 101, 2), (111, .bipush 110, 2), (113, .bipush 100, 2), (115, .invokestatic 172, 3), (118, .invokevirtual 232, 3), (121, .ifCond .eq 7, 3), (124, .iconst 0, 1), (125, .goto 4, 3), (128, .iconst (-1), 1), (129, .ireturn, 1), (130, .iconst (-1), 1), (131, .ireturn, 1)]
theorem tab_Mo_partOf : Tab 9 prog_11_method_59_code K_Mo_partOf B_Mo_partOf := tab_of rfl (by decide +kernel)
def B_Mo_behindOne : List (Nat × Instr × Nat) := [(0, .aload_n 0, 1), (1, .invokevirtual 252, 3), (4, .istore_n 1, 1), (5, .iload_n 1, 1), (6, .ifCond .lt 54, 3), (9, .aload_n 0, 1), (10, .iload_n 1, 1), (11, .invokestatic 200, 3), (14, .iconst 4, 1), (15, .if_icmp .ne 7, 3), (18, .iconst 5, 1), (19, .goto 7, 3), (22, .iload_n 1, 1), (23, .invokestatic 200, 3), (26, .invokevirtual 240, 3), (29, .aload_n 0, 1), (30, .getfield 32, 3), (33, .aload_n 0, 1), (34, .getfield 197, 3), (37, .iload_n 1, 1), (38, .iastore, 1), (39, .aload_n 0, 1), (40, .dup, 1), (41, .getfield 197, 3), (44, .iconst 1, 1), (45, .iadd, 1), (46, .putfield 197, 3), (49, .aload_n 0, 1), (50, .iconst 0, 1), (51, .putfield 243, 3), (54, .aload_n 0, 1), (55, .invokevirtual 217, 3), (58, .iconst 0, 1), (59, .ireturn, 1), (60, .aload_n 0, 1), (61, .invokevirtual 214, 3), (64, .istore_n 2, 1), (65, .aload_n 0, 1), (66, .iload_n 2, 1), (67, .invokevirtual 255, 3), (70, .istore_n 3, 1), (71, .iload_n 3, 1), (72, .ifCond .ge 5, 3), (75, .iconst (-1), 1), (76, .ireturn, 1), (77, .aload_n 0, 1), (78, .iconst 1, 1), (79, .invokevirtual 240, 3), (82, .aload_n 0, 1), (83, .invokevirtual 217, 3), (86, .iload_n 3, 1), (87, .ifCond .ne 40, 3), (90, .aload_n 0, 1), (91, .dup, 1), (92, .getfield 207, 3), (95, .iconst 1, 1), (96, .isub, 1), (97, .putfield 207, 3), (100, .aload_n 0, 1), (101, .dup, 1), (102, .getfield 197, 3), (105, .iconst 1, 1), (106, .isub, 1), (107, .putfield 197, 3), (110, .iload_n 2, 1), (111, .bipush 44, 2), (113, .if_icmp .ne 9, 3), (116, .aload_n 0, 1), (117, .iconst 3, 1), (118, .iconst 0, 1), (119, .invokevirtual 203, 3), (122, .aload_n 0, 1), (123, .invokevirtual 226, 3), (126, .ireturn, 1), (127, .aload_n 0, 1), (128, .getfield 32, 3), (131, .aload_n 0, 1), (132, .invokevirtual 210, 3), (135, .iload_n 3, 1), (136, .iastore, 1), (137, .aload_n 0, 1), (138, .iconst 0, 1), (139, .putfield 243, 3), (142, .iconst 0, 1), (143, .ireturn, 1)]
theorem tab_Mo_behindOne : Tab 9 prog_11_method_60_code K_Mo_behindOne B_Mo_behindOne := tab_of rfl (by decide +kernel)
def B_Mo_summed : List (Nat × Instr × Nat) := [(0, .aload_n 0, 1), (1, .iconst 0, 1), (2, .putfield 197, 3), (5, .aload_n 0, 1), (6, .iconst 0, 1), (7, .putfield 207, 3), (10, .aload_n 0, 1), (11, .iconst 0, 1), (12, .putfield 243, 3), (15, .aload_n 0, 1), (16, .getfield 243, 3), (19, .ifCond .eq 10, 3), (22, .aload_n 0, 1), (23, .invokevirtual 258, 3), (26, .goto 7, 3), (29, .aload_n 0, 1), (30, .invokevirtual 261, 3), (33, .istore_n 1, 1), (34, .iload_n 1, 1), (35, .ifCond .le 5, 3), (38, .iload_n 1, 1), (39, .ireturn, 1), (40, .iload_n 1, 1), (41, .ifCond .ne 6, 3), (44, .goto (-29), 3), (47, .aload_n 0, 1), (48, .invokevirtual 214, 3), (51, .ifCond .lt 5, 3), (54, .iconst 1, 1), (55, .ireturn, 1), (56, .aload_n 0, 1), (57, .iconst 1, 1), (58, .invokevirtual 240, 3), (61, .iconst 0, 1), (62, .ireturn, 1)]
theorem tab_Mo_summed : Tab 9 prog_11_method_61_code K_Mo_summed B_Mo_summed := tab_of rfl (by decide +kernel)
def B_Mo_figure : List (Nat × Instr × Nat) := [(0, .aload_n 0, 1), (1, .getfield 146, 3), (4, .iconst 1, 1), (5, .if_icmp .eq 5, 3), (8, .iconst 1, 1), (9, .ireturn, 1), (10, .aload_n 0, 1), (11, .getfield 152, 3), (14, .iload_n 2, 1), (15, .iload_n 3, 1), (16, .invokestatic 81, 3), (19, .ifCond .ne 5, 3), (22, .iconst 2, 1), (23, .ireturn, 1), (24, .aload_n 0, 1), (25, .getfield 16, 3), (28, .iload_n 1, 1), (29, .aload_n 0, 1), (30, .getfield 152, 3), (33, .iastore, 1), (34, .aload_n 0, 1), (35, .invokevirtual 217, 3), (38, .iconst 0, 1), (39, .ireturn, 1)]
theorem tab_Mo_figure : Tab 9 prog_11_method_62_code K_Mo_figure B_Mo_figure := tab_of rfl (by decide +kernel)
def B_Mo_lawClause : List (Nat × Instr × Nat) := [(0, .aload_n 0, 1), (1, .getfield 16, 3), (4, .iload_n 1, 1), (5, .iconst 1, 1), (6, .iadd, 1), (7, .aload_n 0, 1), (8, .getfield 187, 3), (11, .iastore, 1), (12, .aload_n 0, 1), (13, .invokevirtual 264, 3), (16, .istore_n 2, 1), (17, .aload_n 0, 1), (18, .getfield 16, 3), (21, .iload_n 1, 1), (22, .iconst 2, 1), (23, .iadd, 1), (24, .aload_n 0, 1), (25, .getfield 187, 3), (28, .iastore, 1), (29, .iload_n 2, 1), (30, .ireturn, 1)]
theorem tab_Mo_lawClause : Tab 9 prog_11_method_63_code K_Mo_lawClause B_Mo_lawClause := tab_of rfl (by decide +kernel)
def B_Mo_pair : List (Nat × Instr × Nat) := [(0, .aload_n 0, 1), (1, .iload_n 1, 1), (2, .iconst 1, 1), (3, .iadd, 1), (4, .iconst 0, 1), (5, .iload_n 2, 1), (6, .invokevirtual 267, 3), (9, .istore 6, 2), (11, .iload 6, 2), (13, .ifCond .eq 6, 3), (16, .iload 6, 2), (18, .ireturn, 1), (19, .aload_n 0, 1), (20, .lload_n 3, 1), (21, .invokevirtual 232, 3), (24, .ifCond .ne 5, 3), (27, .iconst 1, 1), (28, .ireturn, 1), (29, .aload_n 0, 1), (30, .invokevirtual 217, 3), (33, .aload_n 0, 1), (34, .iload_n 1, 1), (35, .iconst 2, 1), (36, .iadd, 1), (37, .iconst 0, 1), (38, .iload 5, 2), (40, .invokevirtual 267, 3), (43, .ireturn, 1)]
theorem tab_Mo_pair : Tab 9 prog_11_method_64_code K_Mo_pair B_Mo_pair := tab_of rfl (by decide +kernel)
def B_Mo_body : List (Nat × Instr × Nat) := [(0, .iload_n 1, 1), (1, .tableswitch 140 2 8 #[43, 61, 72, 83, 94, 114, 129], 43), (44, .aload_n 0, 1), (45, .iload_n 2, 1), (46, .bipush 24, 2), (48, .bipush 119, 2), (50, .bipush 97, 2), (52, .bipush 121, 2), (54, .invokestatic 172, 3), (57, .iconst 3, 1), (58, .invokevirtual 271, 3), (61, .ireturn, 1), (62, .aload_n 0, 1), (63, .iload_n 2, 1), (64, .iconst 1, 1), (65, .iadd, 1), (66, .iconst 0, 1), (67, .bipush 24, 2), (69, .invokevirtual 267, 3), (72, .ireturn, 1), (73, .aload_n 0, 1), (74, .iload_n 2, 1), (75, .iconst 1, 1), (76, .iadd, 1), (77, .iconst 0, 1), (78, .bipush 39, 2), (80, .invokevirtual 267, 3), (83, .ireturn, 1), (84, .aload_n 0, 1), (85, .iload_n 2, 1), (86, .iconst 1, 1), (87, .iadd, 1), (88, .iconst 0, 1), (89, .bipush 39, 2), (91, .invokevirtual 267, 3), (94, .ireturn, 1), (95, .aload_n 0, 1), (96, .iload_n 2, 1), (97, .iconst 3, 1), (98, .bipush 116, 2), (100, .bipush 117, 2), (102, .bipush 114, 2), (104, .bipush 110, 2), (106, .invokestatic 176, 3), (109, .bipush 7, 2), (111, .invokevirtual 271, 3), (114, .ireturn, 1), (115, .aload_n 0, 1), (116, .iload_n 2, 1), (117, .iconst 3, 1), (118, .bipush 98, 2), (120, .bipush 121, 2), (122, .invokestatic 168, 3), (125, .iconst 4, 1), (126, .invokevirtual 271, 3), (129, .ireturn, 1), (130, .aload_n 0, 1), (131, .iload_n 2, 1), (132, .iconst 1, 1), (133, .iadd, 1), (134, .iconst 1, 1), (135, .bipush 60, 2), (137, .invokevirtual 267, 3), (140, .ireturn, 1), (141, .aload_n 0, 1), (142, .iload_n 2, 1), (143, .invokevirtual 275, 3), (146, .ireturn, 1)]
theorem tab_Mo_body : Tab 9 prog_11_method_65_code K_Mo_body B_Mo_body := tab_of rfl (by decide +kernel)
def B_Mo_sortOf : List (Nat × Instr × Nat) := [(0, .aload_n 0, 1), (1, .bipush 102, 2), (3, .bipush 114, 2), (5, .bipush 111, 2), (7, .bipush 115, 2), (9, .bipush 116, 2), (11, .bipush 115, 2), (13, .invokestatic 190, 3), (16, .invokevirtual 232, 3), (19, .ifCond .eq 5, 3), (22, .iconst 0, 1), (23, .ireturn, 1), (24, .aload_n 0, 1), (25, .bipush 103, 2), (27, .bipush 111, 2), (29, .bipush 101, 2), (31, .bipush 115, 2), (33, .invokestatic 176, 3), (36, .invokevirtual 232, 3), (39, .ifCond .eq 5, 3), (42, .iconst 1, 1), (43, .ireturn, 1), (44, .aload_n 0, 1), (45, .bipush 99, 2), (47, .bipush 111, 2), (49, .bipush 119, 2), (51, .invokestatic 172, 3), (54, .invokevirtual 232, 3), (57, .ifCond .eq 5, 3), (60, .iconst 2, 1), (61, .ireturn, 1), (62, .aload_n 0, 1), (63, .bipush 103, 2), (65, .bipush 97, 2), (67, .bipush 116, 2), (69, .bipush 101, 2), (71, .invokestatic 176, 3), (74, .invokevirtual 232, 3), (77, .ifCond .eq 5, 3), (80, .iconst 3, 1), (81, .ireturn, 1), (82, .aload_n 0, 1), (83, .bipush 112, 2), (85, .bipush 108, 2), (87, .bipush 97, 2), (89, .bipush 110, 2), (91, .bipush 116, 2), (93, .invokestatic 180, 3), (96, .invokevirtual 232, 3), (99, .ifCond .eq 5, 3), (102, .iconst 4, 1), (103, .ireturn, 1), (104, .aload_n 0, 1), (105, .bipush 99, 2), (107, .bipush 117, 2), (109, .bipush 116, 2), (111, .invokestatic 172, 3), (114, .invokevirtual 232, 3), (117, .ifCond .eq 5, 3), (120, .iconst 5, 1), (121, .ireturn, 1), (122, .aload_n 0, 1), (123, .bipush 112, 2), (125, .bipush 114, 2), (127, .bipush 101, 2), (129, .bipush 115, 2), (131, .bipush 115, 2), (133, .invokestatic 180, 3), (136, .invokevirtual 232, 3), (139, .ifCond .eq 6, 3), (142, .bipush 6, 2), (144, .ireturn, 1), (145, .aload_n 0, 1), (146, .bipush 103, 2), (148, .bipush 111, 2), (150, .invokestatic 168, 3), (153, .invokevirtual 232, 3), (156, .ifCond .eq 8, 3), (159, .bipush 7, 2), (161, .goto 27, 3), (164, .aload_n 0, 1), (165, .bipush 104, 2), (167, .bipush 111, 2), (169, .bipush 117, 2), (171, .bipush 114, 2), (173, .invokestatic 176, 3), (176, .invokevirtual 232, 3), (179, .ifCond .eq 8, 3), (182, .bipush 8, 2), (184, .goto 4, 3), (187, .iconst (-1), 1), (188, .ireturn, 1)]
theorem tab_Mo_sortOf : Tab 9 prog_11_method_66_code K_Mo_sortOf B_Mo_sortOf := tab_of rfl (by decide +kernel)
def B_Mo_clause : List (Nat × Instr × Nat) := [(0, .aload_n 0, 1), (1, .invokevirtual 278, 3), (4, .istore_n 1, 1), (5, .iload_n 1, 1), (6, .ifCond .ge 5, 3), (9, .iconst 1, 1), (10, .ireturn, 1), (11, .iload_n 1, 1), (12, .iconst 1, 1), (13, .if_icmp .gt 16, 3), (16, .aload_n 0, 1), (17, .getfield 281, 3), (20, .iload_n 1, 1), (21, .invokestatic 102, 3), (24, .ifCond .eq 5, 3), (27, .iconst 4, 1), (28, .ireturn, 1), (29, .aload_n 0, 1), (30, .getfield 16, 3), (33, .aload_n 0, 1), (34, .getfield 184, 3), (37, .iaload, 1), (38, .istore_n 2, 1), (39, .iload_n 2, 1), (40, .bipush 24, 2), (42, .if_icmp .ne 6, 3), (45, .bipush 6, 2), (47, .ireturn, 1), (48, .iload_n 1, 1), (49, .iconst 1, 1), (50, .if_icmp .gt 15, 3), (53, .aload_n 0, 1), (54, .dup, 1), (55, .getfield 281, 3), (58, .iconst 1, 1), (59, .iload_n 1, 1), (60, .ishl, 1), (61, .ior, 1), (62, .putfield 281, 3), (65, .aload_n 0, 1), (66, .iload_n 1, 1), (67, .putfield 194, 3), (70, .aload_n 0, 1), (71, .invokevirtual 217, 3), (74, .aload_n 0, 1), (75, .getfield 184, 3), (78, .iconst 1, 1), (79, .iadd, 1), (80, .iconst 3, 1), (81, .iload_n 2, 1), (82, .imul, 1), (83, .iadd, 1), (84, .istore_n 3, 1), (85, .aload_n 0, 1), (86, .getfield 16, 3), (89, .iload_n 3, 1), (90, .iload_n 1, 1), (91, .iastore, 1), (92, .aload_n 0, 1), (93, .iload_n 1, 1), (94, .iload_n 3, 1), (95, .invokevirtual 284, 3), (98, .istore 4, 2), (100, .iload 4, 2), (102, .ifCond .eq 6, 3), (105, .iload 4, 2), (107, .ireturn, 1), (108, .aload_n 0, 1), (109, .getfield 16, 3), (112, .aload_n 0, 1), (113, .getfield 184, 3), (116, .dup2, 1), (117, .iaload, 1), (118, .iconst 1, 1), (119, .iadd, 1), (120, .iastore, 1), (121, .aload_n 0, 1), (122, .getfield 146, 3), (125, .bipush 59, 2), (127, .if_icmp .eq 5, 3), (130, .iconst 1, 1), (131, .ireturn, 1), (132, .aload_n 0, 1), (133, .invokevirtual 217, 3), (136, .iconst 0, 1), (137, .ireturn, 1)]
theorem tab_Mo_clause : Tab 9 prog_11_method_67_code K_Mo_clause B_Mo_clause := tab_of rfl (by decide +kernel)
def B_Mo_readText : List (Nat × Instr × Nat) := [(0, .aload_n 0, 1), (1, .sipush 681, 3), (4, .aload_n 0, 1), (5, .getfield 7, 3), (8, .iconst 2, 1), (9, .iaload, 1), (10, .imul, 1), (11, .putfield 184, 3), (14, .aload_n 0, 1), (15, .getfield 16, 3), (18, .aload_n 0, 1), (19, .getfield 184, 3), (22, .iconst 0, 1), (23, .iastore, 1), (24, .aload_n 0, 1), (25, .iconst 0, 1), (26, .putfield 187, 3), (29, .aload_n 0, 1), (30, .iconst 0, 1), (31, .putfield 281, 3), (34, .aload_n 0, 1), (35, .iconst 0, 1), (36, .putfield 137, 3), (39, .aload_n 0, 1), (40, .invokevirtual 217, 3), (43, .aload_n 0, 1), (44, .getfield 146, 3), (47, .ifCond .eq 17, 3), (50, .aload_n 0, 1), (51, .invokevirtual 287, 3), (54, .istore_n 1, 1), (55, .iload_n 1, 1), (56, .ifCond .eq 5, 3), (59, .iload_n 1, 1), (60, .ireturn, 1), (61, .goto (-18), 3), (64, .iconst 0, 1), (65, .ireturn, 1)]
theorem tab_Mo_readText : Tab 9 prog_11_method_68_code K_Mo_readText B_Mo_readText := tab_of rfl (by decide +kernel)
def B_Mo_text : List (Nat × Instr × Nat) := [(0, .aload_n 0, 1), (1, .getfield 7, 3), (4, .iconst 2, 1), (5, .iaload, 1), (6, .iconst 4, 1), (7, .if_icmp .ne 5, 3), (10, .iconst (-1), 1), (11, .ireturn, 1), (12, .aload_n 0, 1), (13, .aload_n 0, 1), (14, .invokevirtual 290, 3), (17, .putfield 25, 3), (20, .aload_n 0, 1), (21, .aload_n 0, 1), (22, .getfield 25, 3), (25, .ifCond .ne 7, 3), (28, .iconst (-1), 1), (29, .goto 7, 3), (32, .aload_n 0, 1), (33, .getfield 143, 3), (36, .putfield 29, 3), (39, .aload_n 0, 1), (40, .iconst 0, 1), (41, .putfield 130, 3), (44, .aload_n 0, 1), (45, .getfield 25, 3), (48, .ifCond .eq 5, 3), (51, .iconst (-1), 1), (52, .ireturn, 1), (53, .aload_n 0, 1), (54, .getfield 7, 3), (57, .iconst 2, 1), (58, .dup2, 1), (59, .iaload, 1), (60, .iconst 1, 1), (61, .iadd, 1), (62, .iastore, 1), (63, .aload_n 0, 1), (64, .getfield 7, 3), (67, .iconst 2, 1), (68, .iaload, 1), (69, .iconst 1, 1), (70, .isub, 1), (71, .ireturn, 1)]
theorem tab_Mo_text : Tab 9 prog_11_method_69_code K_Mo_text B_Mo_text := tab_of rfl (by decide +kernel)
def B_Mo_fault : List (Nat × Instr × Nat) := [(0, .iload_n 1, 1), (1, .ifCond .ne 10, 3), (4, .aload_n 0, 1), (5, .getfield 25, 3), (8, .goto 16, 3), (11, .iload_n 1, 1), (12, .iconst 1, 1), (13, .if_icmp .ne 10, 3), (16, .aload_n 0, 1), (17, .getfield 29, 3), (20, .goto 4, 3), (23, .iconst (-1), 1), (24, .ireturn, 1)]
theorem tab_Mo_fault : Tab 9 prog_11_method_70_code K_Mo_fault B_Mo_fault := tab_of rfl (by decide +kernel)
def B_Mo_by : List (Nat × Instr × Nat) := [(0, .iload_n 1, 1), (1, .iconst (-1), 1), (2, .aload_n 0, 1), (3, .getfield 7, 3), (6, .iconst 2, 1), (7, .iaload, 1), (8, .iconst 1, 1), (9, .isub, 1), (10, .invokestatic 81, 3), (13, .ifCond .ne 5, 3), (16, .iconst 0, 1), (17, .ireturn, 1), (18, .aload_n 0, 1), (19, .getfield 7, 3), (22, .iconst 3, 1), (23, .iload_n 1, 1), (24, .iastore, 1), (25, .iconst 1, 1), (26, .ireturn, 1)]
theorem tab_Mo_by : Tab 9 prog_11_method_71_code K_Mo_by B_Mo_by := tab_of rfl (by decide +kernel)
def B_Mo_clip : List (Nat × Instr × Nat) := [(0, .lload_n 0, 1), (1, .ldc2_w 293, 3), (4, .lcmp, 1), (5, .ifCond .le 9, 3), (8, .ldc2_w 293, 3), (11, .goto 18, 3), (14, .lload_n 0, 1), (15, .ldc2_w 295, 3), (18, .lcmp, 1), (19, .ifCond .ge 9, 3), (22, .ldc2_w 295, 3), (25, .goto 4, 3), (28, .lload_n 0, 1), (29, .lreturn, 1)]
theorem tab_Mo_clip : Tab 9 prog_11_method_72_code K_Mo_clip B_Mo_clip := tab_of rfl (by decide +kernel)
def B_Mo_two : List (Nat × Instr × Nat) := [(0, .iload_n 0, 1), (1, .tableswitch 48 6 8 #[27, 34, 41], 27), (28, .lload_n 1, 1), (29, .lload_n 3, 1), (30, .ladd, 1), (31, .invokestatic 297, 3), (34, .lreturn, 1), (35, .lload_n 1, 1), (36, .lload_n 3, 1), (37, .lsub, 1), (38, .invokestatic 297, 3), (41, .lreturn, 1), (42, .lload_n 1, 1), (43, .lload_n 3, 1), (44, .lmul, 1), (45, .invokestatic 297, 3), (48, .lreturn, 1), (49, .lload_n 3, 1), (50, .lconst 0, 1), (51, .lcmp, 1), (52, .ifCond .ne 7, 3), (55, .lconst 0, 1), (56, .goto 9, 3), (59, .lload_n 1, 1), (60, .lload_n 3, 1), (61, .ldiv, 1), (62, .invokestatic 297, 3), (65, .lreturn, 1)]
theorem tab_Mo_two : Tab 9 prog_11_method_73_code K_Mo_two B_Mo_two := tab_of rfl (by decide +kernel)
def B_Mo_isAsked : List (Nat × Instr × Nat) := [(0, .iload_n 0, 1), (1, .bipush 10, 2), (3, .if_icmp .ne 17, 3), (6, .lload_n 1, 1), (7, .lload_n 3, 1), (8, .lcmp, 1), (9, .ifCond .ge 7, 3), (12, .iconst 1, 1), (13, .goto 98, 3), (16, .iconst 0, 1), (17, .goto 94, 3), (20, .iload_n 0, 1), (21, .bipush 11, 2), (23, .if_icmp .ne 17, 3), (26, .lload_n 1, 1), (27, .lload_n 3, 1), (28, .lcmp, 1), (29, .ifCond .gt 7, 3), (32, .iconst 1, 1), (33, .goto 78, 3), (36, .iconst 0, 1), (37, .goto 74, 3), (40, .iload_n 0, 1), (41, .bipush 12, 2), (43, .if_icmp .ne 17, 3), (46, .lload_n 1, 1), (47, .lload_n 3, 1), (48, .lcmp, 1), (49, .ifCond .le 7, 3), (52, .iconst 1, 1), (53, .goto 58, 3), (56, .iconst 0, 1), (57, .goto 54, 3), (60, .iload_n 0, 1), (61, .bipush 13, 2), (63, .if_icmp .ne 17, 3), (66, .lload_n 1, 1), (67, .lload_n 3, 1), (68, .lcmp, 1), (69, .ifCond .lt 7, 3), (72, .iconst 1, 1), (73, .goto 38, 3), (76, .iconst 0, 1), (77, .goto 34, 3), (80, .iload_n 0, 1), (81, .bipush 14, 2), (83, .if_icmp .ne 17, 3), (86, .lload_n 1, 1), (87, .lload_n 3, 1), (88, .lcmp, 1), (89, .ifCond .ne 7, 3), (92, .iconst 1, 1), (93, .goto 18, 3), (96, .iconst 0, 1), (97, .goto 14, 3), (100, .lload_n 1, 1), (101, .lload_n 3, 1), (102, .lcmp, 1), (103, .ifCond .eq 7, 3), (106, .iconst 1, 1), (107, .goto 4, 3), (110, .iconst 0, 1), (111, .ireturn, 1)]
theorem tab_Mo_isAsked : Tab 9 prog_11_method_74_code K_Mo_isAsked B_Mo_isAsked := tab_of rfl (by decide +kernel)
def B_Mo_hedgeThere : List (Nat × Instr × Nat) := [(0, .lload_n 1, 1), (1, .lconst 0, 1), (2, .lcmp, 1), (3, .ifCond .lt 24, 3), (6, .lload_n 1, 1), (7, .ldc2_w 301, 3), (10, .lcmp, 1), (11, .ifCond .ge 16, 3), (14, .aload_n 0, 1), (15, .lload_n 1, 1), (16, .l2i, 1), (17, .invokevirtual 109, 3), (20, .ifCond .eq 7, 3), (23, .lconst 1, 1), (24, .goto 4, 3), (27, .lconst 0, 1), (28, .lreturn, 1)]
theorem tab_Mo_hedgeThere : Tab 9 prog_11_method_75_code K_Mo_hedgeThere B_Mo_hedgeThere := tab_of rfl (by decide +kernel)
def B_Mo_apart : List (Nat × Instr × Nat) := [(0, .iload_n 0, 1), (1, .iconst 5, 1), (2, .idiv, 1), (3, .iload_n 1, 1), (4, .iconst 5, 1), (5, .idiv, 1), (6, .isub, 1), (7, .invokestatic 85, 3), (10, .iload_n 0, 1), (11, .iconst 5, 1), (12, .irem, 1), (13, .iload_n 1, 1), (14, .iconst 5, 1), (15, .irem, 1), (16, .isub, 1), (17, .invokestatic 85, 3), (20, .iadd, 1), (21, .ireturn, 1)]
theorem tab_Mo_apart : Tab 9 prog_11_method_76_code K_Mo_apart B_Mo_apart := tab_of rfl (by decide +kernel)
def B_Mo_farOf : List (Nat × Instr × Nat) := [(0, .lload_n 0, 1), (1, .lconst 0, 1), (2, .lcmp, 1), (3, .ifCond .lt 25, 3), (6, .lload_n 0, 1), (7, .ldc2_w 303, 3), (10, .lcmp, 1), (11, .ifCond .ge 17, 3), (14, .lload_n 2, 1), (15, .lconst 0, 1), (16, .lcmp, 1), (17, .ifCond .lt 11, 3), (20, .lload_n 2, 1), (21, .ldc2_w 303, 3), (24, .lcmp, 1), (25, .ifCond .lt 7, 3), (28, .lconst 0, 1), (29, .goto 11, 3), (32, .lload_n 0, 1), (33, .l2i, 1), (34, .lload_n 2, 1), (35, .l2i, 1), (36, .invokestatic 305, 3), (39, .i2l, 1), (40, .lreturn, 1)]
theorem tab_Mo_farOf : Tab 9 prog_11_method_77_code K_Mo_farOf B_Mo_farOf := tab_of rfl (by decide +kernel)
def B_Mo_joined : List (Nat × Instr × Nat) := [(0, .iload_n 0, 1), (1, .bipush 21, 2), (3, .if_icmp .ne 19, 3), (6, .iload_n 1, 1), (7, .ifCond .eq 11, 3), (10, .iload_n 2, 1), (11, .ifCond .eq 7, 3), (14, .iconst 1, 1), (15, .goto 20, 3), (18, .iconst 0, 1), (19, .goto 16, 3), (22, .iload_n 1, 1), (23, .ifCond .ne 7, 3), (26, .iload_n 2, 1), (27, .ifCond .eq 7, 3), (30, .iconst 1, 1), (31, .goto 4, 3), (34, .iconst 0, 1), (35, .ireturn, 1)]
theorem tab_Mo_joined : Tab 9 prog_11_method_78_code K_Mo_joined B_Mo_joined := tab_of rfl (by decide +kernel)
def B_Mo_summedUp : List (Nat × Instr × Nat) := [(0, .sipush 681, 3), (3, .iload_n 1, 1), (4, .imul, 1), (5, .iconst 1, 1), (6, .iadd, 1), (7, .iconst 3, 1), (8, .iload_n 2, 1), (9, .imul, 1), (10, .iadd, 1), (11, .istore_n 3, 1), (12, .sipush 681, 3), (15, .iload_n 1, 1), (16, .imul, 1), (17, .bipush 73, 2), (19, .iadd, 1), (20, .istore 4, 2), (22, .iconst 0, 1), (23, .istore 5, 2), (25, .iconst 0, 1), (26, .istore 6, 2), (28, .aload_n 0, 1), (29, .getfield 16, 3), (32, .iload_n 3, 1), (33, .iconst 1, 1), (34, .iadd, 1), (35, .iaload, 1), (36, .istore 7, 2), (38, .iload 7, 2), (40, .aload_n 0, 1), (41, .getfield 16, 3), (44, .iload_n 3, 1), (45, .iconst 2, 1), (46, .iadd, 1), (47, .iaload, 1), (48, .if_icmp .ge 358, 3), (51, .aload_n 0, 1), (52, .getfield 16, 3), (55, .iload 4, 2), (57, .iconst 2, 1), (58, .iload 7, 2), (60, .imul, 1), (61, .iadd, 1), (62, .iaload, 1), (63, .istore 8, 2), (65, .aload_n 0, 1), (66, .getfield 16, 3), (69, .iload 4, 2), (71, .iconst 2, 1), (72, .iload 7, 2), (74, .imul, 1), (75, .iadd, 1), (76, .iconst 1, 1), (77, .iadd, 1), (78, .iaload, 1), (79, .istore 9, 2), (81, .iload 8, 2), (83, .iconst 1, 1), (84, .if_icmp .gt 35, 3), (87, .aload_n 0, 1), (88, .getfield 38, 3), (91, .iload 5, 2), (93, .iload 8, 2), (95, .ifCond .ne 9, 3), (98, .iload 9, 2), (100, .i2l, 1), (101, .goto 11, 3), (104, .aload_n 0, 1), (105, .getfield 35, 3), (108, .iload 9, 2), (110, .iaload, 1), (111, .i2l, 1), (112, .lastore, 1), (113, .iinc 5 1, 3), (116, .goto 284, 3), (119, .iload 8, 2), (121, .iconst 3, 1), (122, .if_icmp .ne 38, 3), (125, .iinc 5 (-1), 3), (128, .iinc 6 (-1), 3), (131, .aload_n 0, 1), (132, .getfield 42, 3), (135, .iload 6, 2), (137, .baload, 1), (138, .ifCond .ne 262, 3), (141, .aload_n 0, 1), (142, .getfield 38, 3), (145, .iload 5, 2), (147, .iconst 1, 1), (148, .isub, 1), (149, .aload_n 0, 1), (150, .getfield 38, 3), (153, .iload 5, 2), (155, .laload, 1), (156, .lastore, 1), (157, .goto 243, 3), (160, .iload 8, 2), (162, .iconst 5, 1), (163, .if_icmp .eq 9, 3), (166, .iload 8, 2), (168, .iconst 2, 1), (169, .if_icmp .ne 47, 3), (172, .aload_n 0, 1), (173, .getfield 38, 3), (176, .iload 5, 2), (178, .iconst 1, 1), (179, .isub, 1), (180, .iload 8, 2), (182, .iconst 5, 1), (183, .if_icmp .ne 16, 3), (186, .aload_n 0, 1), (187, .getfield 38, 3), (190, .iload 5, 2), (192, .iconst 1, 1), (193, .isub, 1), (194, .laload, 1), (195, .lneg, 1), (196, .goto 16, 3), (199, .aload_n 0, 1), (200, .aload_n 0, 1), (201, .getfield 38, 3), (204, .iload 5, 2), (206, .iconst 1, 1), (207, .isub, 1), (208, .laload, 1), (209, .invokevirtual 308, 3), (212, .lastore, 1), (213, .goto 187, 3), (216, .iload 8, 2), (218, .bipush 10, 2), (220, .if_icmp .ge 67, 3), (223, .iinc 5 (-1), 3), (226, .aload_n 0, 1), (227, .getfield 38, 3), (230, .iload 5, 2), (232, .iconst 1, 1), (233, .isub, 1), (234, .iload 8, 2), (236, .iconst 4, 1), (237, .if_icmp .ne 25, 3), (240, .aload_n 0, 1), (241, .getfield 38, 3), (244, .iload 5, 2), (246, .iconst 1, 1), (247, .isub, 1), (248, .laload, 1), (249, .aload_n 0, 1), (250, .getfield 38, 3), (253, .iload 5, 2), (255, .laload, 1), (256, .invokestatic 311, 3), (259, .goto 24, 3), (262, .iload 8, 2), (264, .aload_n 0, 1), (265, .getfield 38, 3), (268, .iload 5, 2), (270, .iconst 1, 1), (271, .isub, 1), (272, .laload, 1), (273, .aload_n 0, 1), (274, .getfield 38, 3), (277, .iload 5, 2), (279, .laload, 1), (280, .invokestatic 315, 3), (283, .lastore, 1), (284, .goto 116, 3), (287, .iload 8, 2), (289, .bipush 20, 2), (291, .if_icmp .ge 40, 3), (294, .iinc 5 (-2), 3), (297, .aload_n 0, 1), (298, .getfield 42, 3), (301, .iload 6, 2), (303, .iload 8, 2), (305, .aload_n 0, 1), (306, .getfield 38, 3), (309, .iload 5, 2), (311, .laload, 1), (312, .aload_n 0, 1), (313, .getfield 38, 3), (316, .iload 5, 2), (318, .iconst 1, 1), (319, .iadd, 1), (320, .laload, 1), (321, .invokestatic 319, 3), (324, .bastore, 1), (325, .iinc 6 1, 3), (328, .goto 72, 3), (331, .iload 8, 2), (333, .bipush 20, 2), (335, .if_icmp .ne 32, 3), (338, .aload_n 0, 1), (339, .getfield 42, 3), (342, .iload 6, 2), (344, .iconst 1, 1), (345, .isub, 1), (346, .aload_n 0, 1), (347, .getfield 42, 3), (350, .iload 6, 2), (352, .iconst 1, 1), (353, .isub, 1), (354, .baload, 1), (355, .ifCond .ne 7, 3), (358, .iconst 1, 1), (359, .goto 4, 3), (362, .iconst 0, 1), (363, .bastore, 1), (364, .goto 36, 3), (367, .iinc 6 (-1), 3), (370, .aload_n 0, 1), (371, .getfield 42, 3), (374, .iload 6, 2), (376, .iconst 1, 1), (377, .isub, 1), (378, .iload 8, 2), (380, .aload_n 0, 1), (381, .getfield 42, 3), (384, .iload 6, 2), (386, .iconst 1, 1), (387, .isub, 1), (388, .baload, 1), (389, .aload_n 0, 1), (390, .getfield 42, 3), (393, .iload 6, 2), (395, .baload, 1), (396, .invokestatic 323, 3), (399, .bastore, 1), (400, .iinc 7 1, 3), (403, .goto (-365), 3), (406, .aload_n 0, 1), (407, .getfield 38, 3), (410, .iconst 0, 1), (411, .laload, 1), (412, .lreturn, 1)]
theorem tab_Mo_summedUp : Tab 9 prog_11_method_79_code K_Mo_summedUp B_Mo_summedUp := tab_of rfl (by decide +kernel)
def B_Mo_says : List (Nat × Instr × Nat) := [(0, .iconst 0, 1), (1, .istore 6, 2), (3, .iload_n 1, 1), (4, .ifCond .lt 60, 3), (7, .iload 6, 2), (9, .aload_n 0, 1), (10, .getfield 16, 3), (13, .sipush 681, 3), (16, .iload_n 1, 1), (17, .imul, 1), (18, .iaload, 1), (19, .if_icmp .ge 45, 3), (22, .aload_n 0, 1), (23, .getfield 16, 3), (26, .sipush 681, 3), (29, .iload_n 1, 1), (30, .imul, 1), (31, .iconst 1, 1), (32, .iadd, 1), (33, .iconst 3, 1), (34, .iload 6, 2), (36, .imul, 1), (37, .iadd, 1), (38, .iaload, 1), (39, .iload_n 2, 1), (40, .if_icmp .ne 18, 3), (43, .aload_n 0, 1), (44, .iload_n 1, 1), (45, .iload 6, 2), (47, .invokevirtual 327, 3), (50, .iload 4, 2), (52, .iload 5, 2), (54, .invokestatic 330, 3), (57, .ireturn, 1), (58, .iinc 6 1, 3), (61, .goto (-58), 3), (64, .iload_n 3, 1), (65, .ireturn, 1)]
theorem tab_Mo_says : Tab 9 prog_11_method_80_code K_Mo_says B_Mo_says := tab_of rfl (by decide +kernel)
def B_Mo_name : List (Nat × Instr × Nat) := [(0, .aload_n 0, 1), (1, .getfield 35, 3), (4, .iconst 0, 1), (5, .aload_n 0, 1), (6, .getfield 7, 3), (9, .bipush 6, 2), (11, .iaload, 1), (12, .iastore, 1), (13, .aload_n 0, 1), (14, .getfield 35, 3), (17, .iconst 1, 1), (18, .iload_n 1, 1), (19, .iastore, 1), (20, .aload_n 0, 1), (21, .getfield 35, 3), (24, .iconst 2, 1), (25, .aload_n 0, 1), (26, .iload_n 1, 1), (27, .invokevirtual 334, 3), (30, .iastore, 1), (31, .aload_n 0, 1), (32, .getfield 35, 3), (35, .iconst 3, 1), (36, .aload_n 0, 1), (37, .invokevirtual 337, 3), (40, .iastore, 1), (41, .return_, 1)]
theorem tab_Mo_name : Tab 9 prog_11_method_81_code K_Mo_name B_Mo_name := tab_of rfl (by decide +kernel)
def B_Mo_frostsOf : List (Nat × Instr × Nat) := [(0, .aload_n 0, 1), (1, .iload_n 2, 1), (2, .invokestatic 89, 3), (5, .invokevirtual 340, 3), (8, .aload_n 0, 1), (9, .getfield 35, 3), (12, .iconst 4, 1), (13, .iload_n 2, 1), (14, .iastore, 1), (15, .aload_n 0, 1), (16, .iload_n 1, 1), (17, .iconst 0, 1), (18, .iconst 3, 1), (19, .iconst 0, 1), (20, .bipush 10, 2), (22, .invokevirtual 343, 3), (25, .ireturn, 1)]
theorem tab_Mo_frostsOf : Tab 9 prog_11_method_82_code K_Mo_frostsOf B_Mo_frostsOf := tab_of rfl (by decide +kernel)
end
section
def B_Mo_goesOf : List (Nat × Instr × Nat) := [(0, .aload_n 0, 1), (1, .aload_n 0, 1), (2, .iload_n 1, 1), (3, .invokevirtual 347, 3), (6, .invokevirtual 340, 3), (9, .aload_n 0, 1), (10, .getfield 35, 3), (13, .iconst 5, 1), (14, .iload_n 1, 1), (15, .iastore, 1), (16, .aload_n 0, 1), (17, .getfield 35, 3), (20, .bipush 6, 2), (22, .aload_n 0, 1), (23, .iload_n 1, 1), (24, .invokevirtual 350, 3), (27, .iastore, 1), (28, .aload_n 0, 1), (29, .aload_n 0, 1), (30, .getfield 7, 3), (33, .iconst 3, 1), (34, .iaload, 1), (35, .iconst 1, 1), (36, .iconst 1, 1), (37, .bipush (-99), 2), (39, .bipush 99, 2), (41, .invokevirtual 343, 3), (44, .ireturn, 1)]
theorem tab_Mo_goesOf : Tab 9 prog_11_method_83_code K_Mo_goesOf B_Mo_goesOf := tab_of rfl (by decide +kernel)
def B_Mo_write : List (Nat × Instr × Nat) := [(0, .aload_n 0, 1), (1, .getfield 46, 3), (4, .ifCond .ne 4, 3), (7, .return_, 1), (8, .aload_n 0, 1), (9, .getfield 7, 3), (12, .bipush 10, 2), (14, .iaload, 1), (15, .bipush 30, 2), (17, .if_icmp .ne 50, 3), (20, .iconst 1, 1), (21, .istore_n 3, 1), (22, .iload_n 3, 1), (23, .bipush 30, 2), (25, .if_icmp .ge 31, 3), (28, .aload_n 0, 1), (29, .getfield 7, 3), (32, .sipush 1436, 3), (35, .iload_n 3, 1), (36, .iadd, 1), (37, .iconst 1, 1), (38, .isub, 1), (39, .aload_n 0, 1), (40, .getfield 7, 3), (43, .sipush 1436, 3), (46, .iload_n 3, 1), (47, .iadd, 1), (48, .iaload, 1), (49, .iastore, 1), (50, .iinc 3 1, 3), (53, .goto (-31), 3), (56, .aload_n 0, 1), (57, .getfield 7, 3), (60, .bipush 10, 2), (62, .dup2, 1), (63, .iaload, 1), (64, .iconst 1, 1), (65, .isub, 1), (66, .iastore, 1), (67, .aload_n 0, 1), (68, .getfield 7, 3), (71, .sipush 1436, 3), (74, .aload_n 0, 1), (75, .getfield 7, 3), (78, .bipush 10, 2), (80, .iaload, 1), (81, .iadd, 1), (82, .aload_n 0, 1), (83, .getfield 7, 3), (86, .bipush 6, 2), (88, .iaload, 1), (89, .iconst 2, 1), (90, .imul, 1), (91, .iload_n 1, 1), (92, .iadd, 1), (93, .bipush 40, 2), (95, .imul, 1), (96, .iload_n 2, 1), (97, .iadd, 1), (98, .iastore, 1), (99, .aload_n 0, 1), (100, .getfield 7, 3), (103, .bipush 10, 2), (105, .dup2, 1), (106, .iaload, 1), (107, .iconst 1, 1), (108, .iadd, 1), (109, .iastore, 1), (110, .return_, 1)]
theorem tab_Mo_write : Tab 9 prog_11_method_84_code K_Mo_write B_Mo_write := tab_of rfl (by decide +kernel)
def B_Mo_drawnBy : List (Nat × Instr × Nat) := [(0, .aload_n 0, 1), (1, .getfield 7, 3), (4, .bipush 7, 2), (6, .iaload, 1), (7, .iload_n 1, 1), (8, .irem, 1), (9, .istore_n 2, 1), (10, .aload_n 0, 1), (11, .invokevirtual 353, 3), (14, .iload_n 2, 1), (15, .ireturn, 1)]
theorem tab_Mo_drawnBy : Tab 9 prog_11_method_85_code K_Mo_drawnBy B_Mo_drawnBy := tab_of rfl (by decide +kernel)
def B_Mo_anew : List (Nat × Instr × Nat) := [(0, .aload_n 0, 1), (1, .getfield 7, 3), (4, .bipush 7, 2), (6, .aload_n 0, 1), (7, .getfield 7, 3), (10, .bipush 7, 2), (12, .iaload, 1), (13, .i2l, 1), (14, .ldc2_w 356, 3), (17, .lmul, 1), (18, .ldc2_w 358, 3), (21, .ladd, 1), (22, .ldc2_w 360, 3), (25, .lrem, 1), (26, .l2i, 1), (27, .iastore, 1), (28, .return_, 1)]
theorem tab_Mo_anew : Tab 9 prog_11_method_86_code K_Mo_anew B_Mo_anew := tab_of rfl (by decide +kernel)
def B_Mo_isHome : List (Nat × Instr × Nat) := [(0, .aload_n 0, 1), (1, .iload_n 1, 1), (2, .invokevirtual 347, 3), (5, .iconst (-1), 1), (6, .if_icmp .ne 7, 3), (9, .iconst 1, 1), (10, .goto 4, 3), (13, .iconst 0, 1), (14, .ireturn, 1)]
theorem tab_Mo_isHome : Tab 9 prog_11_method_87_code K_Mo_isHome B_Mo_isHome := tab_of rfl (by decide +kernel)
def B_Mo_goNow : List (Nat × Instr × Nat) := [(0, .aload_n 0, 1), (1, .iload_n 1, 1), (2, .invokevirtual 347, 3), (5, .iload_n 2, 1), (6, .invokestatic 106, 3), (9, .istore_n 3, 1), (10, .aload_n 0, 1), (11, .iload_n 1, 1), (12, .aload_n 0, 1), (13, .getfield 7, 3), (16, .bipush 31, 2), (18, .iaload, 1), (19, .iload_n 3, 1), (20, .invokestatic 102, 3), (23, .ifCond .eq 7, 3), (26, .iconst (-1), 1), (27, .goto 4, 3), (30, .iload_n 3, 1), (31, .iload_n 2, 1), (32, .invokevirtual 123, 3), (35, .iload_n 3, 1), (36, .ireturn, 1)]
theorem tab_Mo_goNow : Tab 9 prog_11_method_88_code K_Mo_goNow B_Mo_goNow := tab_of rfl (by decide +kernel)
def B_Mo_onward : List (Nat × Instr × Nat) := [(0, .aload_n 0, 1), (1, .iload_n 1, 1), (2, .iload_n 2, 1), (3, .iconst 1, 1), (4, .iadd, 1), (5, .iconst 4, 1), (6, .irem, 1), (7, .invokevirtual 113, 3), (10, .ifCond .eq 9, 3), (13, .iload_n 2, 1), (14, .iconst 1, 1), (15, .iadd, 1), (16, .iconst 4, 1), (17, .irem, 1), (18, .ireturn, 1), (19, .aload_n 0, 1), (20, .iload_n 1, 1), (21, .iload_n 2, 1), (22, .invokevirtual 113, 3), (25, .ifCond .eq 5, 3), (28, .iload_n 2, 1), (29, .ireturn, 1), (30, .aload_n 0, 1), (31, .iload_n 1, 1), (32, .iload_n 2, 1), (33, .iconst 3, 1), (34, .iadd, 1), (35, .iconst 4, 1), (36, .irem, 1), (37, .invokevirtual 113, 3), (40, .ifCond .eq 9, 3), (43, .iload_n 2, 1), (44, .iconst 3, 1), (45, .iadd, 1), (46, .iconst 4, 1), (47, .irem, 1), (48, .ireturn, 1), (49, .aload_n 0, 1), (50, .iload_n 1, 1), (51, .iload_n 2, 1), (52, .iconst 2, 1), (53, .iadd, 1), (54, .iconst 4, 1), (55, .irem, 1), (56, .invokevirtual 113, 3), (59, .ifCond .eq 11, 3), (62, .iload_n 2, 1), (63, .iconst 2, 1), (64, .iadd, 1), (65, .iconst 4, 1), (66, .irem, 1), (67, .goto 4, 3), (70, .iconst (-1), 1), (71, .ireturn, 1)]
theorem tab_Mo_onward : Tab 9 prog_11_method_89_code K_Mo_onward B_Mo_onward := tab_of rfl (by decide +kernel)
def B_Mo_goOn : List (Nat × Instr × Nat) := [(0, .aload_n 0, 1), (1, .aload_n 0, 1), (2, .iload_n 1, 1), (3, .invokevirtual 347, 3), (6, .aload_n 0, 1), (7, .iload_n 1, 1), (8, .invokevirtual 350, 3), (11, .invokevirtual 362, 3), (14, .istore_n 2, 1), (15, .iload_n 2, 1), (16, .iconst (-1), 1), (17, .if_icmp .ne 4, 3), (20, .return_, 1), (21, .aload_n 0, 1), (22, .iload_n 1, 1), (23, .iload_n 2, 1), (24, .invokevirtual 365, 3), (27, .pop, 1), (28, .aload_n 0, 1), (29, .iload_n 1, 1), (30, .invokevirtual 368, 3), (33, .ifCond .ne 4, 3), (36, .return_, 1), (37, .aload_n 0, 1), (38, .dup, 1), (39, .getfield 371, 3), (42, .iconst 1, 1), (43, .iadd, 1), (44, .putfield 371, 3), (47, .aload_n 0, 1), (48, .iconst 1, 1), (49, .iload_n 1, 1), (50, .invokevirtual 374, 3), (53, .return_, 1)]
theorem tab_Mo_goOn : Tab 9 prog_11_method_90_code K_Mo_goOn B_Mo_goOn := tab_of rfl (by decide +kernel)
def B_Mo_pass : List (Nat × Instr × Nat) := [(0, .iconst 0, 1), (1, .istore_n 1, 1), (2, .iload_n 1, 1), (3, .aload_n 0, 1), (4, .getfield 7, 3), (7, .iconst 1, 1), (8, .iaload, 1), (9, .if_icmp .ge 30, 3), (12, .aload_n 0, 1), (13, .iload_n 1, 1), (14, .invokevirtual 368, 3), (17, .ifCond .ne 16, 3), (20, .aload_n 0, 1), (21, .iload_n 1, 1), (22, .invokevirtual 377, 3), (25, .ifCond .le 8, 3), (28, .aload_n 0, 1), (29, .iload_n 1, 1), (30, .invokevirtual 380, 3), (33, .iinc 1 1, 3), (36, .goto (-34), 3), (39, .aload_n 0, 1), (40, .bipush 40, 2), (42, .invokevirtual 383, 3), (45, .istore_n 1, 1), (46, .aload_n 0, 1), (47, .iload_n 1, 1), (48, .invokevirtual 109, 3), (51, .ifCond .eq 34, 3), (54, .aload_n 0, 1), (55, .bipush 10, 2), (57, .invokevirtual 383, 3), (60, .aload_n 0, 1), (61, .aload_n 0, 1), (62, .getfield 7, 3), (65, .iconst 3, 1), (66, .iaload, 1), (67, .iload_n 1, 1), (68, .invokevirtual 386, 3), (71, .if_icmp .ge 14, 3), (74, .aload_n 0, 1), (75, .iload_n 1, 1), (76, .invokevirtual 389, 3), (79, .aload_n 0, 1), (80, .iconst 0, 1), (81, .iload_n 1, 1), (82, .invokevirtual 374, 3), (85, .aload_n 0, 1), (86, .getfield 7, 3), (89, .bipush 6, 2), (91, .dup2, 1), (92, .iaload, 1), (93, .iconst 1, 1), (94, .iadd, 1), (95, .iastore, 1), (96, .return_, 1)]
theorem tab_Mo_pass : Tab 9 prog_11_method_91_code K_Mo_pass B_Mo_pass := tab_of rfl (by decide +kernel)
def B_Mo_turnedBy : List (Nat × Instr × Nat) := [(0, .iconst 0, 1), (1, .istore 5, 2), (3, .iconst 0, 1), (4, .istore 6, 2), (6, .iload 6, 2), (8, .bipush 20, 2), (10, .if_icmp .ge 80, 3), (13, .aload_n 0, 1), (14, .getfield 19, 3), (17, .bipush 40, 2), (19, .iload_n 3, 1), (20, .imul, 1), (21, .iload 4, 2), (23, .ifCond .eq 11, 3), (26, .bipush 20, 2), (28, .iload 6, 2), (30, .iadd, 1), (31, .goto 5, 3), (34, .iload 6, 2), (36, .iadd, 1), (37, .iaload, 1), (38, .istore 7, 2), (40, .iload 5, 2), (42, .iload 7, 2), (44, .bipush 20, 2), (46, .if_icmp .ge 15, 3), (49, .iload_n 1, 1), (50, .iload 7, 2), (52, .invokestatic 102, 3), (55, .ifCond .eq 25, 3), (58, .goto 15, 3), (61, .iload_n 2, 1), (62, .iload 7, 2), (64, .bipush 20, 2), (66, .isub, 1), (67, .invokestatic 102, 3), (70, .ifCond .eq 10, 3), (73, .iconst 1, 1), (74, .iload 6, 2), (76, .ishl, 1), (77, .goto 4, 3), (80, .iconst 0, 1), (81, .ior, 1), (82, .istore 5, 2), (84, .iinc 6 1, 3), (87, .goto (-81), 3), (90, .iload 5, 2), (92, .ireturn, 1)]
theorem tab_Mo_turnedBy : Tab 9 prog_11_method_92_code K_Mo_turnedBy B_Mo_turnedBy := tab_of rfl (by decide +kernel)
def B_Mo_ofHand : List (Nat × Instr × Nat) := [(0, .aload_n 0, 1), (1, .aload_n 0, 1), (2, .getfield 7, 3), (5, .bipush 32, 2), (7, .iconst 2, 1), (8, .iload_n 1, 1), (9, .imul, 1), (10, .iadd, 1), (11, .iaload, 1), (12, .aload_n 0, 1), (13, .getfield 7, 3), (16, .bipush 32, 2), (18, .iconst 2, 1), (19, .iload_n 1, 1), (20, .imul, 1), (21, .iadd, 1), (22, .iconst 1, 1), (23, .iadd, 1), (24, .iaload, 1), (25, .iload_n 2, 1), (26, .iload_n 3, 1), (27, .invokevirtual 392, 3), (30, .ireturn, 1)]
theorem tab_Mo_ofHand : Tab 9 prog_11_method_93_code K_Mo_ofHand B_Mo_ofHand := tab_of rfl (by decide +kernel)
def B_Mo_pressNow : List (Nat × Instr × Nat) := [(0, .aload_n 0, 1), (1, .getfield 7, 3), (4, .bipush 8, 2), (6, .aload_n 0, 1), (7, .iload_n 1, 1), (8, .iload_n 2, 1), (9, .iconst 0, 1), (10, .invokevirtual 396, 3), (13, .iastore, 1), (14, .aload_n 0, 1), (15, .getfield 7, 3), (18, .bipush 9, 2), (20, .aload_n 0, 1), (21, .iload_n 1, 1), (22, .iload_n 2, 1), (23, .iconst 1, 1), (24, .invokevirtual 396, 3), (27, .iastore, 1), (28, .return_, 1)]
theorem tab_Mo_pressNow : Tab 9 prog_11_method_94_code K_Mo_pressNow B_Mo_pressNow := tab_of rfl (by decide +kernel)
def B_Mo_keep : List (Nat × Instr × Nat) := [(0, .aload_n 0, 1), (1, .getfield 7, 3), (4, .iconst 4, 1), (5, .iaload, 1), (6, .bipush 30, 2), (8, .if_icmp .ne 46, 3), (11, .iconst 0, 1), (12, .istore_n 1, 1), (13, .iload_n 1, 1), (14, .sipush 1334, 3), (17, .if_icmp .ge 27, 3), (20, .aload_n 0, 1), (21, .getfield 7, 3), (24, .bipush 56, 2), (26, .iload_n 1, 1), (27, .iadd, 1), (28, .aload_n 0, 1), (29, .getfield 7, 3), (32, .bipush 102, 2), (34, .iload_n 1, 1), (35, .iadd, 1), (36, .iaload, 1), (37, .iastore, 1), (38, .iinc 1 1, 3), (41, .goto (-28), 3), (44, .aload_n 0, 1), (45, .getfield 7, 3), (48, .iconst 4, 1), (49, .dup2, 1), (50, .iaload, 1), (51, .iconst 1, 1), (52, .isub, 1), (53, .iastore, 1), (54, .bipush 56, 2), (56, .bipush 46, 2), (58, .aload_n 0, 1), (59, .getfield 7, 3), (62, .iconst 4, 1), (63, .iaload, 1), (64, .imul, 1), (65, .iadd, 1), (66, .istore_n 1, 1), (67, .aload_n 0, 1), (68, .getfield 7, 3), (71, .iload_n 1, 1), (72, .aload_n 0, 1), (73, .getfield 7, 3), (76, .iconst 1, 1), (77, .iaload, 1), (78, .iastore, 1), (79, .iconst 0, 1), (80, .istore_n 2, 1), (81, .iload_n 2, 1), (82, .bipush 15, 2), (84, .if_icmp .ge 28, 3), (87, .aload_n 0, 1), (88, .getfield 7, 3), (91, .iload_n 1, 1), (92, .iconst 1, 1), (93, .iadd, 1), (94, .iload_n 2, 1), (95, .iadd, 1), (96, .aload_n 0, 1), (97, .getfield 7, 3), (100, .bipush 6, 2), (102, .iload_n 2, 1), (103, .iadd, 1), (104, .iaload, 1), (105, .iastore, 1), (106, .iinc 2 1, 3), (109, .goto (-28), 3), (112, .iconst 0, 1), (113, .istore_n 2, 1), (114, .iload_n 2, 1), (115, .bipush 30, 2), (117, .if_icmp .ge 30, 3), (120, .aload_n 0, 1), (121, .getfield 7, 3), (124, .iload_n 1, 1), (125, .bipush 16, 2), (127, .iadd, 1), (128, .iload_n 2, 1), (129, .iadd, 1), (130, .aload_n 0, 1), (131, .getfield 7, 3), (134, .sipush 1436, 3), (137, .iload_n 2, 1), (138, .iadd, 1), (139, .iaload, 1), (140, .iastore, 1), (141, .iinc 2 1, 3), (144, .goto (-30), 3), (147, .aload_n 0, 1), (148, .getfield 7, 3), (151, .iconst 4, 1), (152, .dup2, 1), (153, .iaload, 1), (154, .iconst 1, 1), (155, .iadd, 1), (156, .iastore, 1), (157, .return_, 1)]
theorem tab_Mo_keep : Tab 9 prog_11_method_95_code K_Mo_keep B_Mo_keep := tab_of rfl (by decide +kernel)
def B_Mo_undo : List (Nat × Instr × Nat) := [(0, .aload_n 0, 1), (1, .getfield 7, 3), (4, .iconst 4, 1), (5, .iaload, 1), (6, .ifCond .ne 5, 3), (9, .iconst (-1), 1), (10, .ireturn, 1), (11, .aload_n 0, 1), (12, .getfield 7, 3), (15, .iconst 4, 1), (16, .dup2, 1), (17, .iaload, 1), (18, .iconst 1, 1), (19, .isub, 1), (20, .iastore, 1), (21, .bipush 56, 2), (23, .bipush 46, 2), (25, .aload_n 0, 1), (26, .getfield 7, 3), (29, .iconst 4, 1), (30, .iaload, 1), (31, .imul, 1), (32, .iadd, 1), (33, .istore_n 1, 1), (34, .iconst 0, 1), (35, .istore_n 2, 1), (36, .iload_n 2, 1), (37, .bipush 15, 2), (39, .if_icmp .ge 28, 3), (42, .aload_n 0, 1), (43, .getfield 7, 3), (46, .bipush 6, 2), (48, .iload_n 2, 1), (49, .iadd, 1), (50, .aload_n 0, 1), (51, .getfield 7, 3), (54, .iload_n 1, 1), (55, .iconst 1, 1), (56, .iadd, 1), (57, .iload_n 2, 1), (58, .iadd, 1), (59, .iaload, 1), (60, .iastore, 1), (61, .iinc 2 1, 3), (64, .goto (-28), 3), (67, .aload_n 0, 1), (68, .getfield 7, 3), (71, .iload_n 1, 1), (72, .iaload, 1), (73, .istore_n 2, 1), (74, .iload_n 2, 1), (75, .aload_n 0, 1), (76, .getfield 7, 3), (79, .iconst 1, 1), (80, .iaload, 1), (81, .if_icmp .ge 38, 3), (84, .aload_n 0, 1), (85, .iload_n 2, 1), (86, .aload_n 0, 1), (87, .getfield 7, 3), (90, .bipush 21, 2), (92, .iconst 2, 1), (93, .iload_n 2, 1), (94, .imul, 1), (95, .iadd, 1), (96, .iaload, 1), (97, .aload_n 0, 1), (98, .getfield 7, 3), (101, .bipush 21, 2), (103, .iconst 2, 1), (104, .iload_n 2, 1), (105, .imul, 1), (106, .iadd, 1), (107, .iconst 1, 1), (108, .iadd, 1), (109, .iaload, 1), (110, .invokevirtual 123, 3), (113, .iinc 2 1, 3), (116, .goto (-42), 3), (119, .iconst 0, 1), (120, .istore_n 2, 1), (121, .iload_n 2, 1), (122, .bipush 30, 2), (124, .if_icmp .ge 30, 3), (127, .aload_n 0, 1), (128, .getfield 7, 3), (131, .sipush 1436, 3), (134, .iload_n 2, 1), (135, .iadd, 1), (136, .aload_n 0, 1), (137, .getfield 7, 3), (140, .iload_n 1, 1), (141, .bipush 16, 2), (143, .iadd, 1), (144, .iload_n 2, 1), (145, .iadd, 1), (146, .iaload, 1), (147, .iastore, 1), (148, .iinc 2 1, 3), (151, .goto (-30), 3), (154, .aload_n 0, 1), (155, .getfield 7, 3), (158, .iconst 4, 1), (159, .iaload, 1), (160, .ireturn, 1)]
theorem tab_Mo_undo : Tab 9 prog_11_method_96_code K_Mo_undo B_Mo_undo := tab_of rfl (by decide +kernel)
def B_Mo_plant : List (Nat × Instr × Nat) := [(0, .iload_n 1, 1), (1, .invokestatic 400, 3), (4, .ifCond .eq 11, 3), (7, .aload_n 0, 1), (8, .iload_n 1, 1), (9, .invokevirtual 109, 3), (12, .ifCond .eq 5, 3), (15, .iconst 0, 1), (16, .ireturn, 1), (17, .aload_n 0, 1), (18, .invokevirtual 403, 3), (21, .aload_n 0, 1), (22, .iload_n 1, 1), (23, .invokevirtual 389, 3), (26, .iconst 1, 1), (27, .ireturn, 1)]
theorem tab_Mo_plant : Tab 9 prog_11_method_97_code K_Mo_plant B_Mo_plant := tab_of rfl (by decide +kernel)
def B_Mo_cut : List (Nat × Instr × Nat) := [(0, .iload_n 1, 1), (1, .invokestatic 400, 3), (4, .ifCond .eq 11, 3), (7, .aload_n 0, 1), (8, .iload_n 1, 1), (9, .invokevirtual 109, 3), (12, .ifCond .ne 5, 3), (15, .iconst 0, 1), (16, .ireturn, 1), (17, .aload_n 0, 1), (18, .invokevirtual 403, 3), (21, .aload_n 0, 1), (22, .iload_n 1, 1), (23, .invokevirtual 389, 3), (26, .iconst 1, 1), (27, .ireturn, 1)]
theorem tab_Mo_cut : Tab 9 prog_11_method_98_code K_Mo_cut B_Mo_cut := tab_of rfl (by decide +kernel)
def B_Mo_press : List (Nat × Instr × Nat) := [(0, .aload_n 0, 1), (1, .iload_n 1, 1), (2, .invokevirtual 406, 3), (5, .ifCond .eq 13, 3), (8, .iload_n 2, 1), (9, .iconst 0, 1), (10, .bipush 7, 2), (12, .invokestatic 81, 3), (15, .ifCond .ne 5, 3), (18, .iconst 0, 1), (19, .ireturn, 1), (20, .aload_n 0, 1), (21, .invokevirtual 403, 3), (24, .aload_n 0, 1), (25, .iload_n 1, 1), (26, .iload_n 2, 1), (27, .invokevirtual 409, 3), (30, .iconst 1, 1), (31, .ireturn, 1)]
theorem tab_Mo_press : Tab 9 prog_11_method_99_code K_Mo_press B_Mo_press := tab_of rfl (by decide +kernel)
def B_Mo_canGo : List (Nat × Instr × Nat) := [(0, .aload_n 0, 1), (1, .iload_n 1, 1), (2, .invokevirtual 412, 3), (5, .ifCond .eq 37, 3), (8, .iload_n 2, 1), (9, .iconst 0, 1), (10, .iconst 3, 1), (11, .invokestatic 81, 3), (14, .ifCond .eq 28, 3), (17, .aload_n 0, 1), (18, .iload_n 1, 1), (19, .invokevirtual 368, 3), (22, .ifCond .ne 20, 3), (25, .aload_n 0, 1), (26, .aload_n 0, 1), (27, .iload_n 1, 1), (28, .invokevirtual 347, 3), (31, .iload_n 2, 1), (32, .invokevirtual 113, 3), (35, .ifCond .eq 7, 3), (38, .iconst 1, 1), (39, .goto 4, 3), (42, .iconst 0, 1), (43, .ireturn, 1)]
theorem tab_Mo_canGo : Tab 9 prog_11_method_100_code K_Mo_canGo B_Mo_canGo := tab_of rfl (by decide +kernel)
def B_Mo_go : List (Nat × Instr × Nat) := [(0, .aload_n 0, 1), (1, .iload_n 1, 1), (2, .iload_n 2, 1), (3, .invokevirtual 415, 3), (6, .ifCond .ne 5, 3), (9, .iconst (-1), 1), (10, .ireturn, 1), (11, .aload_n 0, 1), (12, .invokevirtual 403, 3), (15, .aload_n 0, 1), (16, .iload_n 1, 1), (17, .iload_n 2, 1), (18, .invokevirtual 365, 3), (21, .ireturn, 1)]
theorem tab_Mo_go : Tab 9 prog_11_method_101_code K_Mo_go B_Mo_go := tab_of rfl (by decide +kernel)
def B_Mo_arePassed : List (Nat × Instr × Nat) := [(0, .aload_n 0, 1), (1, .iconst 0, 1), (2, .putfield 371, 3), (5, .iconst 0, 1), (6, .istore_n 2, 1), (7, .iload_n 2, 1), (8, .iload_n 1, 1), (9, .if_icmp .ge 32, 3), (12, .aload_n 0, 1), (13, .getfield 7, 3), (16, .bipush 6, 2), (18, .iaload, 1), (19, .sipush 9999, 3), (22, .if_icmp .ne 5, 3), (25, .iconst 0, 1), (26, .ireturn, 1), (27, .aload_n 0, 1), (28, .invokevirtual 403, 3), (31, .aload_n 0, 1), (32, .invokevirtual 418, 3), (35, .iinc 2 1, 3), (38, .goto (-31), 3), (41, .iconst 1, 1), (42, .ireturn, 1)]
theorem tab_Mo_arePassed : Tab 9 prog_11_method_102_code K_Mo_arePassed B_Mo_arePassed := tab_of rfl (by decide +kernel)
def B_Mo_hour : List (Nat × Instr × Nat) := [(0, .iload_n 1, 1), (1, .iconst 1, 1), (2, .bipush 60, 2), (4, .invokestatic 81, 3), (7, .ifCond .eq 33, 3), (10, .aload_n 0, 1), (11, .getfield 7, 3), (14, .bipush 6, 2), (16, .iaload, 1), (17, .iload_n 1, 1), (18, .iadd, 1), (19, .sipush 9999, 3), (22, .if_icmp .gt 18, 3), (25, .aload_n 0, 1), (26, .iload_n 1, 1), (27, .invokevirtual 421, 3), (30, .ifCond .eq 10, 3), (33, .aload_n 0, 1), (34, .getfield 371, 3), (37, .goto 4, 3), (40, .iconst (-1), 1), (41, .ireturn, 1)]
theorem tab_Mo_hour : Tab 9 prog_11_method_103_code K_Mo_hour B_Mo_hour := tab_of rfl (by decide +kernel)
def B_Mo_isPlayed : List (Nat × Instr × Nat) := [(0, .aload_n 0, 1), (1, .getfield 16, 3), (4, .iload_n 1, 1), (5, .iconst 1, 1), (6, .iadd, 1), (7, .iaload, 1), (8, .istore_n 2, 1), (9, .aload_n 0, 1), (10, .getfield 16, 3), (13, .iload_n 1, 1), (14, .iconst 2, 1), (15, .iadd, 1), (16, .iaload, 1), (17, .istore_n 3, 1), (18, .aload_n 0, 1), (19, .getfield 16, 3), (22, .iload_n 1, 1), (23, .iaload, 1), (24, .tableswitch 106 2 8 #[44, 59, 66, 72, 78, 85, 100], 44), (68, .aload_n 0, 1), (69, .iload_n 2, 1), (70, .iload_n 3, 1), (71, .invokevirtual 424, 3), (74, .ifCond .lt 7, 3), (77, .iconst 1, 1), (78, .goto 4, 3), (81, .iconst 0, 1), (82, .ireturn, 1), (83, .aload_n 0, 1), (84, .iload_n 2, 1), (85, .iconst 1, 1), (86, .invokevirtual 427, 3), (89, .ireturn, 1), (90, .aload_n 0, 1), (91, .iload_n 2, 1), (92, .invokevirtual 431, 3), (95, .ireturn, 1), (96, .aload_n 0, 1), (97, .iload_n 2, 1), (98, .invokevirtual 434, 3), (101, .ireturn, 1), (102, .aload_n 0, 1), (103, .iload_n 2, 1), (104, .iload_n 3, 1), (105, .invokevirtual 437, 3), (108, .ireturn, 1), (109, .aload_n 0, 1), (110, .iload_n 3, 1), (111, .iload_n 2, 1), (112, .invokevirtual 440, 3), (115, .ifCond .lt 7, 3), (118, .iconst 1, 1), (119, .goto 4, 3), (122, .iconst 0, 1), (123, .ireturn, 1), (124, .aload_n 0, 1), (125, .iload_n 2, 1), (126, .invokevirtual 421, 3), (129, .ireturn, 1), (130, .iconst 1, 1), (131, .ireturn, 1)]
theorem tab_Mo_isPlayed : Tab 9 prog_11_method_104_code K_Mo_isPlayed B_Mo_isPlayed := tab_of rfl (by decide +kernel)
def B_Mo_played : List (Nat × Instr × Nat) := [(0, .iload_n 1, 1), (1, .iconst 0, 1), (2, .aload_n 0, 1), (3, .getfield 7, 3), (6, .iconst 2, 1), (7, .iaload, 1), (8, .iconst 1, 1), (9, .isub, 1), (10, .invokestatic 81, 3), (13, .ifCond .ne 6, 3), (16, .bipush (-2), 2), (18, .ireturn, 1), (19, .iconst 0, 1), (20, .istore_n 2, 1), (21, .iload_n 2, 1), (22, .aload_n 0, 1), (23, .getfield 16, 3), (26, .sipush 681, 3), (29, .iload_n 1, 1), (30, .imul, 1), (31, .iaload, 1), (32, .if_icmp .ge 29, 3), (35, .aload_n 0, 1), (36, .sipush 681, 3), (39, .iload_n 1, 1), (40, .imul, 1), (41, .iconst 1, 1), (42, .iadd, 1), (43, .iconst 3, 1), (44, .iload_n 2, 1), (45, .imul, 1), (46, .iadd, 1), (47, .invokevirtual 443, 3), (50, .ifCond .ne 5, 3), (53, .iload_n 2, 1), (54, .ireturn, 1), (55, .iinc 2 1, 3), (58, .goto (-37), 3), (61, .iconst (-1), 1), (62, .ireturn, 1)]
theorem tab_Mo_played : Tab 9 prog_11_method_105_code K_Mo_played B_Mo_played := tab_of rfl (by decide +kernel)
def B_Mo_happens : List (Nat × Instr × Nat) := [(0, .iload_n 1, 1), (1, .bipush 7, 2), (3, .idiv, 1), (4, .bipush 40, 2), (6, .irem, 1), (7, .istore_n 2, 1), (8, .iload_n 1, 1), (9, .bipush 7, 2), (11, .irem, 1), (12, .tableswitch 147 0 3 #[32, 48, 64, 95], 32), (44, .aload_n 0, 1), (45, .iload_n 2, 1), (46, .invokevirtual 109, 3), (49, .ifCond .ne 127, 3), (52, .aload_n 0, 1), (53, .iload_n 2, 1), (54, .invokevirtual 389, 3), (57, .goto 119, 3), (60, .aload_n 0, 1), (61, .iload_n 2, 1), (62, .invokevirtual 109, 3), (65, .ifCond .eq 111, 3), (68, .aload_n 0, 1), (69, .iload_n 2, 1), (70, .invokevirtual 389, 3), (73, .goto 103, 3), (76, .aload_n 0, 1), (77, .getfield 7, 3), (80, .iconst 0, 1), (81, .iaload, 1), (82, .ifCond .le 94, 3), (85, .aload_n 0, 1), (86, .iload_n 1, 1), (87, .aload_n 0, 1), (88, .getfield 7, 3), (91, .iconst 0, 1), (92, .iaload, 1), (93, .irem, 1), (94, .iload_n 1, 1), (95, .bipush 7, 2), (97, .idiv, 1), (98, .bipush 8, 2), (100, .irem, 1), (101, .invokevirtual 409, 3), (104, .goto 72, 3), (107, .aload_n 0, 1), (108, .getfield 7, 3), (111, .iconst 1, 1), (112, .iaload, 1), (113, .ifCond .le 63, 3), (116, .aload_n 0, 1), (117, .iload_n 1, 1), (118, .aload_n 0, 1), (119, .getfield 7, 3), (122, .iconst 1, 1), (123, .iaload, 1), (124, .irem, 1), (125, .iload_n 1, 1), (126, .bipush 7, 2), (128, .idiv, 1), (129, .iconst 4, 1), (130, .irem, 1), (131, .invokevirtual 415, 3), (134, .ifCond .eq 42, 3), (137, .aload_n 0, 1), (138, .iload_n 1, 1), (139, .aload_n 0, 1), (140, .getfield 7, 3), (143, .iconst 1, 1), (144, .iaload, 1), (145, .irem, 1), (146, .iload_n 1, 1), (147, .bipush 7, 2), (149, .idiv, 1), (150, .iconst 4, 1), (151, .irem, 1), (152, .invokevirtual 365, 3), (155, .ifCond .ge 21, 3), (158, .return_, 1), (159, .aload_n 0, 1), (160, .getfield 7, 3), (163, .bipush 6, 2), (165, .iaload, 1), (166, .sipush 9999, 3), (169, .if_icmp .ge 7, 3), (172, .aload_n 0, 1), (173, .invokevirtual 418, 3), (176, .return_, 1)]
theorem tab_Mo_happens : Tab 9 prog_11_method_106_code K_Mo_happens B_Mo_happens := tab_of rfl (by decide +kernel)
def B_Mo_years : List (Nat × Instr × Nat) := [(0, .iload_n 1, 1), (1, .iconst 0, 1), (2, .sipush 9999, 3), (5, .invokestatic 81, 3), (8, .ifCond .eq 13, 3), (11, .iload_n 2, 1), (12, .iconst 1, 1), (13, .bipush 40, 2), (15, .invokestatic 81, 3), (18, .ifCond .ne 5, 3), (21, .iconst (-1), 1), (22, .ireturn, 1), (23, .aload_n 0, 1), (24, .invokevirtual 403, 3), (27, .aload_n 0, 1), (28, .getfield 7, 3), (31, .bipush 7, 2), (33, .iload_n 1, 1), (34, .iconst 2, 1), (35, .imul, 1), (36, .sipush 331, 3), (39, .iadd, 1), (40, .iastore, 1), (41, .iconst 0, 1), (42, .istore_n 3, 1), (43, .iload_n 3, 1), (44, .iload_n 2, 1), (45, .if_icmp .ge 28, 3), (48, .aload_n 0, 1), (49, .getfield 7, 3), (52, .bipush 7, 2), (54, .iaload, 1), (55, .istore 4, 2), (57, .aload_n 0, 1), (58, .invokevirtual 353, 3), (61, .aload_n 0, 1), (62, .iload 4, 2), (64, .invokevirtual 446, 3), (67, .iinc 3 1, 3), (70, .goto (-27), 3), (73, .aload_n 0, 1), (74, .getfield 7, 3), (77, .bipush 6, 2), (79, .iaload, 1), (80, .ireturn, 1)]
theorem tab_Mo_years : Tab 9 prog_11_method_107_code K_Mo_years B_Mo_years := tab_of rfl (by decide +kernel)
def B_Mo_of : List (Nat × Instr × Nat) := [(0, .aload_n 0, 1), (1, .iload_n 1, 1), (2, .invokevirtual 412, 3), (5, .ifCond .ne 6, 3), (8, .bipush (-100), 2), (10, .ireturn, 1), (11, .iload_n 2, 1), (12, .ifCond .ne 11, 3), (15, .aload_n 0, 1), (16, .iload_n 1, 1), (17, .invokevirtual 347, 3), (20, .goto 39, 3), (23, .iload_n 2, 1), (24, .iconst 1, 1), (25, .if_icmp .ne 11, 3), (28, .aload_n 0, 1), (29, .iload_n 1, 1), (30, .invokevirtual 350, 3), (33, .goto 26, 3), (36, .iload_n 2, 1), (37, .iconst 2, 1), (38, .if_icmp .ne 19, 3), (41, .aload_n 0, 1), (42, .iload_n 1, 1), (43, .invokevirtual 368, 3), (46, .ifCond .ne 11, 3), (49, .aload_n 0, 1), (50, .iload_n 1, 1), (51, .invokevirtual 377, 3), (54, .goto 5, 3), (57, .bipush (-100), 2), (59, .ireturn, 1)]
theorem tab_Mo_of : Tab 9 prog_11_method_108_code K_Mo_of B_Mo_of := tab_of rfl (by decide +kernel)
def B_Mo_cell : List (Nat × Instr × Nat) := [(0, .iload_n 1, 1), (1, .invokestatic 120, 3), (4, .ifCond .ne 5, 3), (7, .iconst (-1), 1), (8, .ireturn, 1), (9, .iload_n 2, 1), (10, .ifCond .ne 11, 3), (13, .aload_n 0, 1), (14, .iload_n 1, 1), (15, .invokevirtual 334, 3), (18, .goto 53, 3), (21, .iload_n 2, 1), (22, .iconst 1, 1), (23, .if_icmp .ne 11, 3), (26, .aload_n 0, 1), (27, .iload_n 1, 1), (28, .invokevirtual 449, 3), (31, .goto 40, 3), (34, .iload_n 2, 1), (35, .iconst 2, 1), (36, .if_icmp .ne 17, 3), (39, .aload_n 0, 1), (40, .getfield 7, 3), (43, .bipush 31, 2), (45, .iaload, 1), (46, .iload_n 1, 1), (47, .ishr, 1), (48, .iconst 1, 1), (49, .iand, 1), (50, .goto 21, 3), (53, .iload_n 2, 1), (54, .iconst 3, 1), (55, .if_icmp .ne 15, 3), (58, .aload_n 0, 1), (59, .iload_n 1, 1), (60, .iconst (-1), 1), (61, .invokevirtual 452, 3), (64, .invokestatic 116, 3), (67, .goto 4, 3), (70, .iconst (-1), 1), (71, .ireturn, 1)]
theorem tab_Mo_cell : Tab 9 prog_11_method_109_code K_Mo_cell B_Mo_cell := tab_of rfl (by decide +kernel)
def B_Mo_hedge : List (Nat × Instr × Nat) := [(0, .iload_n 1, 1), (1, .invokestatic 400, 3), (4, .ifCond .ne 5, 3), (7, .iconst (-1), 1), (8, .ireturn, 1), (9, .iload_n 2, 1), (10, .ifCond .ne 19, 3), (13, .aload_n 0, 1), (14, .iload_n 1, 1), (15, .invokevirtual 109, 3), (18, .ifCond .eq 7, 3), (21, .iconst 1, 1), (22, .goto 51, 3), (25, .iconst 0, 1), (26, .goto 47, 3), (29, .iload_n 2, 1), (30, .iconst 1, 1), (31, .if_icmp .ne 10, 3), (34, .iload_n 1, 1), (35, .invokestatic 89, 3), (38, .goto 35, 3), (41, .iload_n 2, 1), (42, .iconst 2, 1), (43, .if_icmp .ne 10, 3), (46, .iload_n 1, 1), (47, .invokestatic 96, 3), (50, .goto 23, 3), (53, .iload_n 2, 1), (54, .iconst 3, 1), (55, .if_icmp .ne 17, 3), (58, .aload_n 0, 1), (59, .aload_n 0, 1), (60, .getfield 7, 3), (63, .iconst 3, 1), (64, .iaload, 1), (65, .iload_n 1, 1), (66, .invokevirtual 386, 3), (69, .goto 4, 3), (72, .iconst (-1), 1), (73, .ireturn, 1)]
theorem tab_Mo_hedge : Tab 9 prog_11_method_110_code K_Mo_hedge B_Mo_hedge := tab_of rfl (by decide +kernel)
def B_Mo_between : List (Nat × Instr × Nat) := [(0, .iload_n 1, 1), (1, .invokestatic 120, 3), (4, .ifCond .eq 27, 3), (7, .iload_n 2, 1), (8, .invokestatic 120, 3), (11, .ifCond .eq 20, 3), (14, .iload_n 1, 1), (15, .iload_n 2, 1), (16, .invokestatic 305, 3), (19, .iconst 1, 1), (20, .if_icmp .ne 11, 3), (23, .iload_n 1, 1), (24, .iload_n 2, 1), (25, .invokestatic 99, 3), (28, .goto 4, 3), (31, .iconst (-1), 1), (32, .ireturn, 1)]
theorem tab_Mo_between : Tab 9 prog_11_method_111_code K_Mo_between B_Mo_between := tab_of rfl (by decide +kernel)
def B_Mo_is : List (Nat × Instr × Nat) := [(0, .iload_n 1, 1), (1, .iconst 0, 1), (2, .iconst 3, 1), (3, .invokestatic 81, 3), (6, .ifCond .eq 15, 3), (9, .aload_n 0, 1), (10, .getfield 7, 3), (13, .bipush 6, 2), (15, .iload_n 1, 1), (16, .iadd, 1), (17, .iaload, 1), (18, .goto 17, 3), (21, .iload_n 1, 1), (22, .iconst 4, 1), (23, .if_icmp .ne 10, 3), (26, .aload_n 0, 1), (27, .invokevirtual 337, 3), (30, .goto 5, 3), (33, .bipush (-2), 2), (35, .ireturn, 1)]
theorem tab_Mo_is : Tab 9 prog_11_method_112_code K_Mo_is B_Mo_is := tab_of rfl (by decide +kernel)
def B_Mo_entry : List (Nat × Instr × Nat) := [(0, .aload_n 0, 1), (1, .getfield 7, 3), (4, .sipush 1436, 3), (7, .iload_n 1, 1), (8, .iadd, 1), (9, .iaload, 1), (10, .istore_n 3, 1), (11, .iload_n 2, 1), (12, .ifCond .ne 10, 3), (15, .iload_n 3, 1), (16, .bipush 80, 2), (18, .idiv, 1), (19, .goto 21, 3), (22, .iload_n 2, 1), (23, .iconst 1, 1), (24, .if_icmp .ne 12, 3), (27, .iload_n 3, 1), (28, .bipush 40, 2), (30, .idiv, 1), (31, .iconst 2, 1), (32, .irem, 1), (33, .goto 7, 3), (36, .iload_n 3, 1), (37, .bipush 40, 2), (39, .irem, 1), (40, .ireturn, 1)]
theorem tab_Mo_entry : Tab 9 prog_11_method_113_code K_Mo_entry B_Mo_entry := tab_of rfl (by decide +kernel)
def B_Mo_book : List (Nat × Instr × Nat) := [(0, .iload_n 1, 1), (1, .iconst (-1), 1), (2, .if_icmp .ne 11, 3), (5, .aload_n 0, 1), (6, .getfield 7, 3), (9, .bipush 10, 2), (11, .iaload, 1), (12, .ireturn, 1), (13, .iload_n 1, 1), (14, .iconst 0, 1), (15, .aload_n 0, 1), (16, .getfield 7, 3), (19, .bipush 10, 2), (21, .iaload, 1), (22, .iconst 1, 1), (23, .isub, 1), (24, .invokestatic 81, 3), (27, .ifCond .eq 21, 3), (30, .iload_n 2, 1), (31, .iconst 0, 1), (32, .iconst 2, 1), (33, .invokestatic 81, 3), (36, .ifCond .eq 12, 3), (39, .aload_n 0, 1), (40, .iload_n 1, 1), (41, .iload_n 2, 1), (42, .invokevirtual 455, 3), (45, .goto 5, 3), (48, .bipush (-2), 2), (50, .ireturn, 1)]
theorem tab_Mo_book : Tab 9 prog_11_method_114_code K_Mo_book B_Mo_book := tab_of rfl (by decide +kernel)
def B_Mo_ledger : List (Nat × Instr × Nat) := [(0, .iload_n 1, 1), (1, .iconst 0, 1), (2, .iconst 1, 1), (3, .invokestatic 81, 3), (6, .ifCond .ne 6, 3), (9, .bipush (-2), 2), (11, .ireturn, 1), (12, .iconst 0, 1), (13, .istore_n 2, 1), (14, .iconst 0, 1), (15, .istore_n 3, 1), (16, .iload_n 3, 1), (17, .aload_n 0, 1), (18, .getfield 7, 3), (21, .bipush 10, 2), (23, .iaload, 1), (24, .if_icmp .ge 27, 3), (27, .iload_n 2, 1), (28, .aload_n 0, 1), (29, .iload_n 3, 1), (30, .iconst 1, 1), (31, .invokevirtual 455, 3), (34, .iload_n 1, 1), (35, .if_icmp .ne 7, 3), (38, .iconst 1, 1), (39, .goto 4, 3), (42, .iconst 0, 1), (43, .iadd, 1), (44, .istore_n 2, 1), (45, .iinc 3 1, 3), (48, .goto (-32), 3), (51, .iload_n 2, 1), (52, .ireturn, 1)]
theorem tab_Mo_ledger : Tab 9 prog_11_method_115_code K_Mo_ledger B_Mo_ledger := tab_of rfl (by decide +kernel)
def B_Mo_thickest : List (Nat × Instr × Nat) := [(0, .iconst 0, 1), (1, .istore_n 1, 1), (2, .iconst 1, 1), (3, .istore_n 2, 1), (4, .iload_n 2, 1), (5, .bipush 25, 2), (7, .if_icmp .ge 24, 3), (10, .aload_n 0, 1), (11, .iload_n 2, 1), (12, .invokevirtual 334, 3), (15, .aload_n 0, 1), (16, .iload_n 1, 1), (17, .invokevirtual 334, 3), (20, .if_icmp .le 5, 3), (23, .iload_n 2, 1), (24, .istore_n 1, 1), (25, .iinc 2 1, 3), (28, .goto (-24), 3), (31, .iload_n 1, 1), (32, .ireturn, 1)]
theorem tab_Mo_thickest : Tab 9 prog_11_method_116_code K_Mo_thickest B_Mo_thickest := tab_of rfl (by decide +kernel)
def B_Mo_foretold : List (Nat × Instr × Nat) := [(0, .iload_n 1, 1), (1, .iconst 1, 1), (2, .bipush 60, 2), (4, .invokestatic 81, 3), (7, .ifCond .eq 11, 3), (10, .aload_n 0, 1), (11, .iload_n 2, 1), (12, .invokevirtual 412, 3), (15, .ifCond .ne 6, 3), (18, .bipush (-2), 2), (20, .ireturn, 1), (21, .bipush 6, 2), (23, .istore_n 3, 1), (24, .iload_n 3, 1), (25, .bipush 21, 2), (27, .if_icmp .ge 21, 3), (30, .aload_n 0, 1), (31, .getfield 50, 3), (34, .iload_n 3, 1), (35, .aload_n 0, 1), (36, .getfield 7, 3), (39, .iload_n 3, 1), (40, .iaload, 1), (41, .iastore, 1), (42, .iinc 3 1, 3), (45, .goto (-21), 3), (48, .aload_n 0, 1), (49, .iconst 0, 1), (50, .putfield 46, 3), (53, .iconst 0, 1), (54, .istore_n 3, 1), (55, .iload_n 3, 1), (56, .iload_n 1, 1), (57, .if_icmp .ge 26, 3), (60, .aload_n 0, 1), (61, .getfield 7, 3), (64, .bipush 6, 2), (66, .iaload, 1), (67, .sipush 9999, 3), (70, .if_icmp .ge 7, 3), (73, .aload_n 0, 1), (74, .invokevirtual 418, 3), (77, .iinc 3 1, 3), (80, .goto (-25), 3), (83, .aload_n 0, 1), (84, .iload_n 2, 1), (85, .invokevirtual 347, 3), (88, .istore_n 3, 1), (89, .bipush 6, 2), (91, .istore 4, 2), (93, .iload 4, 2), (95, .bipush 21, 2), (97, .if_icmp .ge 23, 3), (100, .aload_n 0, 1), (101, .getfield 7, 3), (104, .iload 4, 2), (106, .aload_n 0, 1), (107, .getfield 50, 3), (110, .iload 4, 2), (112, .iaload, 1), (113, .iastore, 1), (114, .iinc 4 1, 3), (117, .goto (-24), 3), (120, .aload_n 0, 1), (121, .iconst 1, 1), (122, .putfield 46, 3), (125, .iload_n 3, 1), (126, .ireturn, 1)]
theorem tab_Mo_foretold : Tab 9 prog_11_method_117_code K_Mo_foretold B_Mo_foretold := tab_of rfl (by decide +kernel)
def B_Mo_layFar : List (Nat × Instr × Nat) := [(0, .iconst 0, 1), (1, .istore_n 3, 1), (2, .iload_n 3, 1), (3, .bipush 25, 2), (5, .if_icmp .ge 27, 3), (8, .aload_n 0, 1), (9, .getfield 53, 3), (12, .iload_n 3, 1), (13, .iload_n 3, 1), (14, .iload_n 1, 1), (15, .if_icmp .ne 7, 3), (18, .iconst 0, 1), (19, .goto 6, 3), (22, .ldc_w 458, 3), (25, .iastore, 1), (26, .iinc 3 1, 3), (29, .goto (-27), 3), (32, .iconst 1, 1), (33, .istore_n 3, 1), (34, .iload_n 3, 1), (35, .ifCond .eq 128, 3), (38, .iconst 0, 1), (39, .istore_n 3, 1), (40, .iconst 0, 1), (41, .istore 4, 2), (43, .iload 4, 2), (45, .bipush 25, 2), (47, .if_icmp .ge 113, 3), (50, .iconst 0, 1), (51, .istore 5, 2), (53, .iload 5, 2), (55, .iconst 4, 1), (56, .if_icmp .ge 98, 3), (59, .iload 4, 2), (61, .iload 5, 2), (63, .invokestatic 106, 3), (66, .istore 6, 2), (68, .iload 6, 2), (70, .iconst (-1), 1), (71, .if_icmp .eq 77, 3), (74, .iload_n 2, 1), (75, .ifCond .ne 17, 3), (78, .aload_n 0, 1), (79, .iload 4, 2), (81, .iload 5, 2), (83, .invokevirtual 113, 3), (86, .ifCond .ne 6, 3), (89, .goto 59, 3), (92, .aload_n 0, 1), (93, .getfield 53, 3), (96, .iload 4, 2), (98, .iaload, 1), (99, .iload_n 2, 1), (100, .ifCond .eq 18, 3), (103, .aload_n 0, 1), (104, .iload 4, 2), (106, .iload 5, 2), (108, .invokevirtual 113, 3), (111, .ifCond .eq 7, 3), (114, .iconst 0, 1), (115, .goto 4, 3), (118, .iconst 1, 1), (119, .iadd, 1), (120, .istore 7, 2), (122, .iload 7, 2), (124, .aload_n 0, 1), (125, .getfield 53, 3), (128, .iload 6, 2), (130, .iaload, 1), (131, .if_icmp .lt 6, 3), (134, .goto 14, 3), (137, .aload_n 0, 1), (138, .getfield 53, 3), (141, .iload 6, 2), (143, .iload 7, 2), (145, .iastore, 1), (146, .iconst 1, 1), (147, .istore_n 3, 1), (148, .iinc 5 1, 3), (151, .goto (-98), 3), (154, .iinc 4 1, 3), (157, .goto (-114), 3), (160, .goto (-126), 3), (163, .return_, 1)]
theorem tab_Mo_layFar : Tab 9 prog_11_method_118_code K_Mo_layFar B_Mo_layFar := tab_of rfl (by decide +kernel)
def B_Mo_areCells : List (Nat × Instr × Nat) := [(0, .iload_n 0, 1), (1, .invokestatic 120, 3), (4, .ifCond .eq 14, 3), (7, .iload_n 1, 1), (8, .invokestatic 120, 3), (11, .ifCond .eq 7, 3), (14, .iconst 1, 1), (15, .goto 4, 3), (18, .iconst 0, 1), (19, .ireturn, 1)]
theorem tab_Mo_areCells : Tab 9 prog_11_method_119_code K_Mo_areCells B_Mo_areCells := tab_of rfl (by decide +kernel)
def B_Mo_miles : List (Nat × Instr × Nat) := [(0, .iload_n 1, 1), (1, .iload_n 2, 1), (2, .invokestatic 459, 3), (5, .ifCond .ne 5, 3), (8, .iconst (-1), 1), (9, .ireturn, 1), (10, .aload_n 0, 1), (11, .iload_n 2, 1), (12, .iconst 0, 1), (13, .invokevirtual 462, 3), (16, .aload_n 0, 1), (17, .getfield 53, 3), (20, .iload_n 1, 1), (21, .iaload, 1), (22, .ldc_w 458, 3), (25, .if_icmp .ne 7, 3), (28, .iconst (-1), 1), (29, .goto 9, 3), (32, .aload_n 0, 1), (33, .getfield 53, 3), (36, .iload_n 1, 1), (37, .iaload, 1), (38, .ireturn, 1)]
theorem tab_Mo_miles : Tab 9 prog_11_method_120_code K_Mo_miles B_Mo_miles := tab_of rfl (by decide +kernel)
def B_Mo_way : List (Nat × Instr × Nat) := [(0, .aload_n 0, 1), (1, .iload_n 1, 1), (2, .iload_n 2, 1), (3, .invokevirtual 466, 3), (6, .istore 4, 2), (8, .iload_n 3, 1), (9, .iconst 0, 1), (10, .iload 4, 2), (12, .iconst 1, 1), (13, .isub, 1), (14, .invokestatic 81, 3), (17, .ifCond .ne 6, 3), (20, .bipush (-2), 2), (22, .ireturn, 1), (23, .iload_n 1, 1), (24, .istore 5, 2), (26, .iconst 0, 1), (27, .istore 6, 2), (29, .iconst 0, 1), (30, .istore 7, 2), (32, .iload 7, 2), (34, .iload_n 3, 1), (35, .if_icmp .gt 62, 3), (38, .iconst 0, 1), (39, .istore 6, 2), (41, .aload_n 0, 1), (42, .iload 5, 2), (44, .iload 6, 2), (46, .invokevirtual 113, 3), (49, .ifCond .eq 27, 3), (52, .aload_n 0, 1), (53, .getfield 53, 3), (56, .iload 5, 2), (58, .iload 6, 2), (60, .invokestatic 106, 3), (63, .iaload, 1), (64, .aload_n 0, 1), (65, .getfield 53, 3), (68, .iload 5, 2), (70, .iaload, 1), (71, .iconst 1, 1), (72, .isub, 1), (73, .if_icmp .eq 9, 3), (76, .iinc 6 1, 3), (79, .goto (-38), 3), (82, .iload 5, 2), (84, .iload 6, 2), (86, .invokestatic 106, 3), (89, .istore 5, 2), (91, .iinc 7 1, 3), (94, .goto (-62), 3), (97, .iload 6, 2), (99, .ireturn, 1)]
theorem tab_Mo_way : Tab 9 prog_11_method_121_code K_Mo_way B_Mo_way := tab_of rfl (by decide +kernel)
def B_Mo_cuts : List (Nat × Instr × Nat) := [(0, .iload_n 1, 1), (1, .iload_n 2, 1), (2, .invokestatic 459, 3), (5, .ifCond .ne 5, 3), (8, .iconst (-1), 1), (9, .ireturn, 1), (10, .aload_n 0, 1), (11, .iload_n 1, 1), (12, .iconst 1, 1), (13, .invokevirtual 462, 3), (16, .aload_n 0, 1), (17, .getfield 53, 3), (20, .iload_n 2, 1), (21, .iaload, 1), (22, .ireturn, 1)]
theorem tab_Mo_cuts : Tab 9 prog_11_method_122_code K_Mo_cuts B_Mo_cuts := tab_of rfl (by decide +kernel)
def B_Mo_farthestNow : List (Nat × Instr × Nat) := [(0, .iconst (-1), 1), (1, .istore_n 1, 1), (2, .iconst 0, 1), (3, .istore_n 2, 1), (4, .iload_n 2, 1), (5, .bipush 25, 2), (7, .if_icmp .ge 43, 3), (10, .aload_n 0, 1), (11, .getfield 53, 3), (14, .iload_n 2, 1), (15, .iaload, 1), (16, .ldc_w 458, 3), (19, .if_icmp .eq 25, 3), (22, .iload_n 1, 1), (23, .iconst (-1), 1), (24, .if_icmp .eq 18, 3), (27, .aload_n 0, 1), (28, .getfield 53, 3), (31, .iload_n 2, 1), (32, .iaload, 1), (33, .aload_n 0, 1), (34, .getfield 53, 3), (37, .iload_n 1, 1), (38, .iaload, 1), (39, .if_icmp .le 5, 3), (42, .iload_n 2, 1), (43, .istore_n 1, 1), (44, .iinc 2 1, 3), (47, .goto (-43), 3), (50, .iload_n 1, 1), (51, .ireturn, 1)]
theorem tab_Mo_farthestNow : Tab 9 prog_11_method_123_code K_Mo_farthestNow B_Mo_farthestNow := tab_of rfl (by decide +kernel)
end
section
def B_Mo_farthest : List (Nat × Instr × Nat) := [(0, .iload_n 1, 1), (1, .invokestatic 120, 3), (4, .ifCond .ne 5, 3), (7, .iconst (-1), 1), (8, .ireturn, 1), (9, .aload_n 0, 1), (10, .iload_n 1, 1), (11, .iconst 0, 1), (12, .invokevirtual 462, 3), (15, .aload_n 0, 1), (16, .invokevirtual 469, 3), (19, .ireturn, 1)]
theorem tab_Mo_farthest : Tab 9 prog_11_method_124_code K_Mo_farthest B_Mo_farthest := tab_of rfl (by decide +kernel)
def B_Mo_wide : List (Nat × Instr × Nat) := [(0, .iconst 0, 1), (1, .istore_n 1, 1), (2, .iconst 0, 1), (3, .istore_n 2, 1), (4, .iload_n 2, 1), (5, .bipush 25, 2), (7, .if_icmp .ge 42, 3), (10, .aload_n 0, 1), (11, .iload_n 2, 1), (12, .iconst 0, 1), (13, .invokevirtual 462, 3), (16, .aload_n 0, 1), (17, .getfield 53, 3), (20, .aload_n 0, 1), (21, .invokevirtual 469, 3), (24, .iaload, 1), (25, .iload_n 1, 1), (26, .if_icmp .le 15, 3), (29, .aload_n 0, 1), (30, .getfield 53, 3), (33, .aload_n 0, 1), (34, .invokevirtual 469, 3), (37, .iaload, 1), (38, .goto 4, 3), (41, .iload_n 1, 1), (42, .istore_n 1, 1), (43, .iinc 2 1, 3), (46, .goto (-42), 3), (49, .iload_n 1, 1), (50, .ireturn, 1)]
theorem tab_Mo_wide : Tab 9 prog_11_method_125_code K_Mo_wide B_Mo_wide := tab_of rfl (by decide +kernel)
def B_Mo_regionOf : List (Nat × Instr × Nat) := [(0, .iconst 1, 1), (1, .iload_n 1, 1), (2, .ishl, 1), (3, .istore_n 3, 1), (4, .iconst 0, 1), (5, .istore 4, 2), (7, .iload 4, 2), (9, .iload_n 3, 1), (10, .if_icmp .eq 83, 3), (13, .iload_n 3, 1), (14, .istore 4, 2), (16, .iconst 0, 1), (17, .istore 5, 2), (19, .iload 5, 2), (21, .bipush 25, 2), (23, .if_icmp .ge 67, 3), (26, .iconst 0, 1), (27, .istore 6, 2), (29, .iload 6, 2), (31, .iconst 4, 1), (32, .if_icmp .ge 52, 3), (35, .iload_n 3, 1), (36, .iload 5, 2), (38, .invokestatic 102, 3), (41, .ifCond .eq 43, 3), (44, .aload_n 0, 1), (45, .iload 5, 2), (47, .iload 6, 2), (49, .invokevirtual 113, 3), (52, .ifCond .eq 26, 3), (55, .iload 5, 2), (57, .iload 6, 2), (59, .invokestatic 106, 3), (62, .iload_n 2, 1), (63, .if_icmp .eq 15, 3), (66, .iload_n 3, 1), (67, .iconst 1, 1), (68, .iload 5, 2), (70, .iload 6, 2), (72, .invokestatic 106, 3), (75, .ishl, 1), (76, .ior, 1), (77, .istore_n 3, 1), (78, .iinc 6 1, 3), (81, .goto (-52), 3), (84, .iinc 5 1, 3), (87, .goto (-68), 3), (90, .goto (-83), 3), (93, .iload_n 3, 1), (94, .ireturn, 1)]
theorem tab_Mo_regionOf : Tab 9 prog_11_method_126_code K_Mo_regionOf B_Mo_regionOf := tab_of rfl (by decide +kernel)
def B_Mo_regions : List (Nat × Instr × Nat) := [(0, .iconst 0, 1), (1, .istore_n 2, 1), (2, .iconst 0, 1), (3, .istore_n 3, 1), (4, .ldc_w 472, 3), (7, .istore 4, 2), (9, .iconst 0, 1), (10, .istore 5, 2), (12, .iload 5, 2), (14, .bipush 25, 2), (16, .if_icmp .ge 62, 3), (19, .iload 4, 2), (21, .iload 5, 2), (23, .invokestatic 102, 3), (26, .ifCond .ne 6, 3), (29, .goto 43, 3), (32, .aload_n 0, 1), (33, .iload 5, 2), (35, .iconst (-1), 1), (36, .invokevirtual 452, 3), (39, .istore 6, 2), (41, .iload 4, 2), (43, .iload 6, 2), (45, .iconst (-1), 1), (46, .ixor, 1), (47, .iand, 1), (48, .istore 4, 2), (50, .iinc 2 1, 3), (53, .iload 6, 2), (55, .invokestatic 116, 3), (58, .iload_n 3, 1), (59, .if_icmp .le 11, 3), (62, .iload 6, 2), (64, .invokestatic 116, 3), (67, .goto 4, 3), (70, .iload_n 3, 1), (71, .istore_n 3, 1), (72, .iinc 5 1, 3), (75, .goto (-63), 3), (78, .iload_n 1, 1), (79, .ifCond .eq 7, 3), (82, .iload_n 3, 1), (83, .goto 4, 3), (86, .iload_n 2, 1), (87, .ireturn, 1)]
theorem tab_Mo_regions : Tab 9 prog_11_method_127_code K_Mo_regions B_Mo_regions := tab_of rfl (by decide +kernel)
def B_Mo_rings : List (Nat × Instr × Nat) := [(0, .bipush 40, 2), (2, .aload_n 0, 1), (3, .invokevirtual 337, 3), (6, .isub, 1), (7, .bipush 25, 2), (9, .isub, 1), (10, .aload_n 0, 1), (11, .iconst 0, 1), (12, .invokevirtual 473, 3), (15, .iadd, 1), (16, .ireturn, 1)]
theorem tab_Mo_rings : Tab 9 prog_11_method_128_code K_Mo_rings B_Mo_rings := tab_of rfl (by decide +kernel)
def B_Mo_ends : List (Nat × Instr × Nat) := [(0, .iconst 0, 1), (1, .istore_n 1, 1), (2, .iconst 0, 1), (3, .istore_n 2, 1), (4, .iload_n 2, 1), (5, .bipush 25, 2), (7, .if_icmp .ge 31, 3), (10, .iload_n 1, 1), (11, .aload_n 0, 1), (12, .iload_n 2, 1), (13, .invokevirtual 449, 3), (16, .invokestatic 116, 3), (19, .iconst 1, 1), (20, .if_icmp .ne 9, 3), (23, .iconst 1, 1), (24, .iload_n 2, 1), (25, .ishl, 1), (26, .goto 4, 3), (29, .iconst 0, 1), (30, .ior, 1), (31, .istore_n 1, 1), (32, .iinc 2 1, 3), (35, .goto (-31), 3), (38, .iload_n 1, 1), (39, .ireturn, 1)]
theorem tab_Mo_ends : Tab 9 prog_11_method_129_code K_Mo_ends B_Mo_ends := tab_of rfl (by decide +kernel)
def B_Mo_isNeck : List (Nat × Instr × Nat) := [(0, .aload_n 0, 1), (1, .iload_n 1, 1), (2, .iconst (-1), 1), (3, .invokevirtual 452, 3), (6, .iconst 1, 1), (7, .iload_n 1, 1), (8, .ishl, 1), (9, .iconst (-1), 1), (10, .ixor, 1), (11, .iand, 1), (12, .istore_n 2, 1), (13, .iload_n 2, 1), (14, .ifCond .ne 5, 3), (17, .iconst 0, 1), (18, .ireturn, 1), (19, .iconst 0, 1), (20, .istore_n 3, 1), (21, .iload_n 2, 1), (22, .iload_n 3, 1), (23, .invokestatic 102, 3), (26, .ifCond .ne 9, 3), (29, .iinc 3 1, 3), (32, .goto (-11), 3), (35, .aload_n 0, 1), (36, .iload_n 3, 1), (37, .iload_n 1, 1), (38, .invokevirtual 452, 3), (41, .iload_n 2, 1), (42, .if_icmp .eq 7, 3), (45, .iconst 1, 1), (46, .goto 4, 3), (49, .iconst 0, 1), (50, .ireturn, 1)]
theorem tab_Mo_isNeck : Tab 9 prog_11_method_130_code K_Mo_isNeck B_Mo_isNeck := tab_of rfl (by decide +kernel)
def B_Mo_necks : List (Nat × Instr × Nat) := [(0, .iconst 0, 1), (1, .istore_n 1, 1), (2, .iconst 0, 1), (3, .istore_n 2, 1), (4, .iload_n 2, 1), (5, .bipush 25, 2), (7, .if_icmp .ge 27, 3), (10, .iload_n 1, 1), (11, .aload_n 0, 1), (12, .iload_n 2, 1), (13, .invokevirtual 477, 3), (16, .ifCond .eq 9, 3), (19, .iconst 1, 1), (20, .iload_n 2, 1), (21, .ishl, 1), (22, .goto 4, 3), (25, .iconst 0, 1), (26, .ior, 1), (27, .istore_n 1, 1), (28, .iinc 2 1, 3), (31, .goto (-27), 3), (34, .iload_n 1, 1), (35, .ireturn, 1)]
theorem tab_Mo_necks : Tab 9 prog_11_method_131_code K_Mo_necks B_Mo_necks := tab_of rfl (by decide +kernel)
def B_Mo_paths : List (Nat × Instr × Nat) := [(0, .iload_n 1, 1), (1, .iload_n 2, 1), (2, .invokestatic 459, 3), (5, .ifCond .ne 7, 3), (8, .ldc2_w 480, 3), (11, .lreturn, 1), (12, .lconst 0, 1), (13, .lstore_n 3, 1), (14, .iconst 0, 1), (15, .istore 5, 2), (17, .iconst 1, 1), (18, .iload_n 1, 1), (19, .ishl, 1), (20, .istore 6, 2), (22, .aload_n 0, 1), (23, .getfield 56, 3), (26, .iconst 0, 1), (27, .iload_n 1, 1), (28, .iastore, 1), (29, .aload_n 0, 1), (30, .getfield 59, 3), (33, .iconst 0, 1), (34, .iconst (-1), 1), (35, .iastore, 1), (36, .iload 5, 2), (38, .ifCond .lt 182, 3), (41, .aload_n 0, 1), (42, .getfield 59, 3), (45, .iload 5, 2), (47, .dup2, 1), (48, .iaload, 1), (49, .iconst 1, 1), (50, .iadd, 1), (51, .iastore, 1), (52, .aload_n 0, 1), (53, .getfield 56, 3), (56, .iload 5, 2), (58, .iaload, 1), (59, .iload_n 2, 1), (60, .if_icmp .eq 14, 3), (63, .aload_n 0, 1), (64, .getfield 59, 3), (67, .iload 5, 2), (69, .iaload, 1), (70, .iconst 4, 1), (71, .if_icmp .ne 44, 3), (74, .lload_n 3, 1), (75, .aload_n 0, 1), (76, .getfield 56, 3), (79, .iload 5, 2), (81, .iaload, 1), (82, .iload_n 2, 1), (83, .if_icmp .ne 7, 3), (86, .lconst 1, 1), (87, .goto 4, 3), (90, .lconst 0, 1), (91, .ladd, 1), (92, .lstore_n 3, 1), (93, .iload 6, 2), (95, .iconst 1, 1), (96, .aload_n 0, 1), (97, .getfield 56, 3), (100, .iload 5, 2), (102, .iaload, 1), (103, .ishl, 1), (104, .iconst (-1), 1), (105, .ixor, 1), (106, .iand, 1), (107, .istore 6, 2), (109, .iinc 5 (-1), 3), (112, .goto (-76), 3), (115, .aload_n 0, 1), (116, .aload_n 0, 1), (117, .getfield 56, 3), (120, .iload 5, 2), (122, .iaload, 1), (123, .aload_n 0, 1), (124, .getfield 59, 3), (127, .iload 5, 2), (129, .iaload, 1), (130, .invokevirtual 113, 3), (133, .ifCond .eq (-97), 3), (136, .iload 6, 2), (138, .aload_n 0, 1), (139, .getfield 56, 3), (142, .iload 5, 2), (144, .iaload, 1), (145, .aload_n 0, 1), (146, .getfield 59, 3), (149, .iload 5, 2), (151, .iaload, 1), (152, .invokestatic 106, 3), (155, .invokestatic 102, 3), (158, .ifCond .eq 6, 3), (161, .goto (-125), 3), (164, .aload_n 0, 1), (165, .getfield 56, 3), (168, .iload 5, 2), (170, .iconst 1, 1), (171, .iadd, 1), (172, .aload_n 0, 1), (173, .getfield 56, 3), (176, .iload 5, 2), (178, .iaload, 1), (179, .aload_n 0, 1), (180, .getfield 59, 3), (183, .iload 5, 2), (185, .iaload, 1), (186, .invokestatic 106, 3), (189, .iastore, 1), (190, .aload_n 0, 1), (191, .getfield 59, 3), (194, .iload 5, 2), (196, .iconst 1, 1), (197, .iadd, 1), (198, .iconst (-1), 1), (199, .iastore, 1), (200, .iinc 5 1, 3), (203, .iload 6, 2), (205, .iconst 1, 1), (206, .aload_n 0, 1), (207, .getfield 56, 3), (210, .iload 5, 2), (212, .iaload, 1), (213, .ishl, 1), (214, .ior, 1), (215, .istore 6, 2), (217, .goto (-181), 3), (220, .lload_n 3, 1), (221, .lreturn, 1)]
theorem tab_Mo_paths : Tab 9 prog_11_method_132_code K_Mo_paths B_Mo_paths := tab_of rfl (by decide +kernel)
def B_Mo_walk : List (Nat × Instr × Nat) := [(0, .aload_n 0, 1), (1, .iload_n 1, 1), (2, .invokevirtual 412, 3), (5, .ifCond .ne 5, 3), (8, .iconst (-1), 1), (9, .ireturn, 1), (10, .iconst 0, 1), (11, .istore_n 3, 1), (12, .iload_n 3, 1), (13, .bipush 100, 2), (15, .if_icmp .ge 16, 3), (18, .aload_n 0, 1), (19, .getfield 62, 3), (22, .iload_n 3, 1), (23, .iconst (-1), 1), (24, .iastore, 1), (25, .iinc 3 1, 3), (28, .goto (-16), 3), (31, .aload_n 0, 1), (32, .iload_n 1, 1), (33, .invokevirtual 347, 3), (36, .istore_n 3, 1), (37, .aload_n 0, 1), (38, .iload_n 1, 1), (39, .invokevirtual 350, 3), (42, .istore 4, 2), (44, .iconst 0, 1), (45, .istore 5, 2), (47, .iload_n 3, 1), (48, .iconst (-1), 1), (49, .if_icmp .eq 96, 3), (52, .aload_n 0, 1), (53, .getfield 62, 3), (56, .iconst 4, 1), (57, .iload_n 3, 1), (58, .imul, 1), (59, .iload 4, 2), (61, .iadd, 1), (62, .iaload, 1), (63, .iconst (-1), 1), (64, .if_icmp .ne 81, 3), (67, .aload_n 0, 1), (68, .getfield 62, 3), (71, .iconst 4, 1), (72, .iload_n 3, 1), (73, .imul, 1), (74, .iload 4, 2), (76, .iadd, 1), (77, .iload 5, 2), (79, .iastore, 1), (80, .aload_n 0, 1), (81, .iload_n 3, 1), (82, .iload 4, 2), (84, .invokevirtual 362, 3), (87, .istore 6, 2), (89, .iload 6, 2), (91, .iconst (-1), 1), (92, .if_icmp .ne 13, 3), (95, .iload_n 2, 1), (96, .ifCond .eq 7, 3), (99, .iconst 0, 1), (100, .goto 4, 3), (103, .iconst (-1), 1), (104, .ireturn, 1), (105, .aload_n 0, 1), (106, .getfield 7, 3), (109, .bipush 31, 2), (111, .iaload, 1), (112, .iload_n 3, 1), (113, .iload 6, 2), (115, .invokestatic 106, 3), (118, .invokestatic 102, 3), (121, .ifCond .eq 7, 3), (124, .iconst (-1), 1), (125, .goto 9, 3), (128, .iload_n 3, 1), (129, .iload 6, 2), (131, .invokestatic 106, 3), (134, .istore_n 3, 1), (135, .iload 6, 2), (137, .istore 4, 2), (139, .iinc 5 1, 3), (142, .goto (-95), 3), (145, .iload_n 3, 1), (146, .iconst (-1), 1), (147, .if_icmp .ne 16, 3), (150, .iload_n 2, 1), (151, .ifCond .eq 7, 3), (154, .iconst (-1), 1), (155, .goto 30, 3), (158, .iload 5, 2), (160, .goto 25, 3), (163, .iload_n 2, 1), (164, .ifCond .eq 20, 3), (167, .iload 5, 2), (169, .aload_n 0, 1), (170, .getfield 62, 3), (173, .iconst 4, 1), (174, .iload_n 3, 1), (175, .imul, 1), (176, .iload 4, 2), (178, .iadd, 1), (179, .iaload, 1), (180, .isub, 1), (181, .goto 4, 3), (184, .iconst (-1), 1), (185, .ireturn, 1)]
theorem tab_Mo_walk : Tab 9 prog_11_method_133_code K_Mo_walk B_Mo_walk := tab_of rfl (by decide +kernel)
def B_Mo_home : List (Nat × Instr × Nat) := [(0, .iload_n 1, 1), (1, .iconst 0, 1), (2, .bipush 99, 2), (4, .invokestatic 81, 3), (7, .ifCond .ne 5, 3), (10, .iconst (-1), 1), (11, .ireturn, 1), (12, .iconst 0, 1), (13, .istore_n 2, 1), (14, .iconst 0, 1), (15, .istore_n 3, 1), (16, .iload_n 3, 1), (17, .aload_n 0, 1), (18, .getfield 7, 3), (21, .iconst 1, 1), (22, .iaload, 1), (23, .if_icmp .ge 100, 3), (26, .aload_n 0, 1), (27, .iload_n 3, 1), (28, .invokevirtual 368, 3), (31, .istore 4, 2), (33, .iload 4, 2), (35, .ifCond .ne 13, 3), (38, .aload_n 0, 1), (39, .aload_n 0, 1), (40, .iload_n 3, 1), (41, .invokevirtual 347, 3), (44, .iconst 0, 1), (45, .invokevirtual 462, 3), (48, .iconst 0, 1), (49, .istore 5, 2), (51, .iload 5, 2), (53, .bipush 25, 2), (55, .if_icmp .ge 47, 3), (58, .iload 4, 2), (60, .ifCond .ne 42, 3), (63, .aload_n 0, 1), (64, .getfield 7, 3), (67, .bipush 31, 2), (69, .iaload, 1), (70, .iload 5, 2), (72, .invokestatic 102, 3), (75, .ifCond .eq 18, 3), (78, .aload_n 0, 1), (79, .getfield 53, 3), (82, .iload 5, 2), (84, .iaload, 1), (85, .iload_n 1, 1), (86, .if_icmp .gt 7, 3), (89, .iconst 1, 1), (90, .goto 4, 3), (93, .iconst 0, 1), (94, .istore 4, 2), (96, .iinc 5 1, 3), (99, .goto (-48), 3), (102, .iload_n 2, 1), (103, .iload 4, 2), (105, .ifCond .eq 9, 3), (108, .iconst 1, 1), (109, .iload_n 3, 1), (110, .ishl, 1), (111, .goto 4, 3), (114, .iconst 0, 1), (115, .ior, 1), (116, .istore_n 2, 1), (117, .iinc 3 1, 3), (120, .goto (-104), 3), (123, .iload_n 2, 1), (124, .ireturn, 1)]
theorem tab_Mo_home : Tab 9 prog_11_method_134_code K_Mo_home B_Mo_home := tab_of rfl (by decide +kernel)
def B_Mo_gates : List (Nat × Instr × Nat) := [(0, .iload_n 1, 1), (1, .iconst 0, 1), (2, .bipush 24, 2), (4, .invokestatic 81, 3), (7, .ifCond .ne 5, 3), (10, .iconst (-1), 1), (11, .ireturn, 1), (12, .aload_n 0, 1), (13, .iload_n 1, 1), (14, .invokevirtual 482, 3), (17, .iconst 1, 1), (18, .istore_n 3, 1), (19, .iload_n 3, 1), (20, .iconst 5, 1), (21, .if_icmp .ge 33, 3), (24, .aload_n 0, 1), (25, .iload_n 3, 1), (26, .invokevirtual 485, 3), (29, .istore 4, 2), (31, .iload 4, 2), (33, .iconst (-1), 1), (34, .if_icmp .eq 14, 3), (37, .iload_n 2, 1), (38, .ifCond .eq 7, 3), (41, .iload_n 3, 1), (42, .goto 5, 3), (45, .iload 4, 2), (47, .ireturn, 1), (48, .iinc 3 1, 3), (51, .goto (-32), 3), (54, .iconst (-1), 1), (55, .ireturn, 1)]
theorem tab_Mo_gates : Tab 9 prog_11_method_135_code K_Mo_gates B_Mo_gates := tab_of rfl (by decide +kernel)
def B_Mo_layReach : List (Nat × Instr × Nat) := [(0, .iconst 0, 1), (1, .istore_n 2, 1), (2, .iload_n 2, 1), (3, .bipush 25, 2), (5, .if_icmp .ge 72, 3), (8, .aload_n 0, 1), (9, .getfield 65, 3), (12, .iload_n 2, 1), (13, .iconst 0, 1), (14, .iastore, 1), (15, .iload_n 2, 1), (16, .invokestatic 127, 3), (19, .ifCond .ne 6, 3), (22, .goto 49, 3), (25, .aload_n 0, 1), (26, .iload_n 2, 1), (27, .iconst 0, 1), (28, .invokevirtual 462, 3), (31, .iconst 0, 1), (32, .istore_n 3, 1), (33, .iload_n 3, 1), (34, .bipush 25, 2), (36, .if_icmp .ge 35, 3), (39, .aload_n 0, 1), (40, .getfield 65, 3), (43, .iload_n 2, 1), (44, .dup2, 1), (45, .iaload, 1), (46, .aload_n 0, 1), (47, .getfield 53, 3), (50, .iload_n 3, 1), (51, .iaload, 1), (52, .iload_n 1, 1), (53, .if_icmp .gt 9, 3), (56, .iconst 1, 1), (57, .iload_n 3, 1), (58, .ishl, 1), (59, .goto 4, 3), (62, .iconst 0, 1), (63, .ior, 1), (64, .iastore, 1), (65, .iinc 3 1, 3), (68, .goto (-35), 3), (71, .iinc 2 1, 3), (74, .goto (-72), 3), (77, .return_, 1)]
theorem tab_Mo_layReach : Tab 9 prog_11_method_136_code K_Mo_layReach B_Mo_layReach := tab_of rfl (by decide +kernel)
def B_Mo_lowestGates : List (Nat × Instr × Nat) := [(0, .iconst 0, 1), (1, .istore_n 2, 1), (2, .aload_n 0, 1), (3, .getfield 68, 3), (6, .iconst 0, 1), (7, .iconst (-1), 1), (8, .iastore, 1), (9, .iload_n 2, 1), (10, .ifCond .lt 148, 3), (13, .aload_n 0, 1), (14, .getfield 68, 3), (17, .iload_n 2, 1), (18, .dup2, 1), (19, .iaload, 1), (20, .iconst 1, 1), (21, .iadd, 1), (22, .iastore, 1), (23, .iload_n 2, 1), (24, .ifCond .ne 8, 3), (27, .bipush 25, 2), (29, .goto 11, 3), (32, .aload_n 0, 1), (33, .getfield 68, 3), (36, .iload_n 2, 1), (37, .iconst 1, 1), (38, .isub, 1), (39, .iaload, 1), (40, .istore_n 3, 1), (41, .aload_n 0, 1), (42, .getfield 68, 3), (45, .iload_n 2, 1), (46, .iaload, 1), (47, .iload_n 3, 1), (48, .if_icmp .lt 9, 3), (51, .iinc 2 (-1), 3), (54, .goto (-45), 3), (57, .aload_n 0, 1), (58, .getfield 68, 3), (61, .iload_n 2, 1), (62, .iaload, 1), (63, .invokestatic 127, 3), (66, .ifCond .ne 6, 3), (69, .goto (-60), 3), (72, .iload_n 2, 1), (73, .iload_n 1, 1), (74, .iconst 1, 1), (75, .isub, 1), (76, .if_icmp .ge 16, 3), (79, .iinc 2 1, 3), (82, .aload_n 0, 1), (83, .getfield 68, 3), (86, .iload_n 2, 1), (87, .iconst (-1), 1), (88, .iastore, 1), (89, .goto (-80), 3), (92, .iconst 0, 1), (93, .istore 4, 2), (95, .iconst 0, 1), (96, .istore 5, 2), (98, .iconst 0, 1), (99, .istore 6, 2), (101, .iload 6, 2), (103, .iload_n 1, 1), (104, .if_icmp .ge 40, 3), (107, .iload 4, 2), (109, .aload_n 0, 1), (110, .getfield 65, 3), (113, .aload_n 0, 1), (114, .getfield 68, 3), (117, .iload 6, 2), (119, .iaload, 1), (120, .iaload, 1), (121, .ior, 1), (122, .istore 4, 2), (124, .iload 5, 2), (126, .iconst 1, 1), (127, .aload_n 0, 1), (128, .getfield 68, 3), (131, .iload 6, 2), (133, .iaload, 1), (134, .ishl, 1), (135, .ior, 1), (136, .istore 5, 2), (138, .iinc 6 1, 3), (141, .goto (-40), 3), (144, .iload 4, 2), (146, .ldc_w 472, 3), (149, .if_icmp .ne 6, 3), (152, .iload 5, 2), (154, .ireturn, 1), (155, .goto (-146), 3), (158, .iconst (-1), 1), (159, .ireturn, 1)]
theorem tab_Mo_lowestGates : Tab 9 prog_11_method_137_code K_Mo_lowestGates B_Mo_lowestGates := tab_of rfl (by decide +kernel)
def B_Mo_turned : List (Nat × Instr × Nat) := [(0, .aload_n 0, 1), (1, .iload_n 1, 1), (2, .invokevirtual 406, 3), (5, .ifCond .eq 23, 3), (8, .iload_n 2, 1), (9, .iconst 0, 1), (10, .bipush 7, 2), (12, .invokestatic 81, 3), (15, .ifCond .eq 13, 3), (18, .aload_n 0, 1), (19, .iload_n 1, 1), (20, .iload_n 2, 1), (21, .iload_n 3, 1), (22, .invokevirtual 396, 3), (25, .goto 4, 3), (28, .iconst (-1), 1), (29, .ireturn, 1)]
theorem tab_Mo_turned : Tab 9 prog_11_method_138_code K_Mo_turned B_Mo_turned := tab_of rfl (by decide +kernel)
def B_Mo_unlikeBy : List (Nat × Instr × Nat) := [(0, .aload_n 0, 1), (1, .iload_n 1, 1), (2, .iload_n 2, 1), (3, .iconst 0, 1), (4, .invokevirtual 396, 3), (7, .aload_n 0, 1), (8, .getfield 7, 3), (11, .bipush 8, 2), (13, .iaload, 1), (14, .ixor, 1), (15, .invokestatic 116, 3), (18, .aload_n 0, 1), (19, .iload_n 1, 1), (20, .iload_n 2, 1), (21, .iconst 1, 1), (22, .invokevirtual 396, 3), (25, .aload_n 0, 1), (26, .getfield 7, 3), (29, .bipush 9, 2), (31, .iaload, 1), (32, .ixor, 1), (33, .invokestatic 116, 3), (36, .iadd, 1), (37, .ireturn, 1)]
theorem tab_Mo_unlikeBy : Tab 9 prog_11_method_139_code K_Mo_unlikeBy B_Mo_unlikeBy := tab_of rfl (by decide +kernel)
def B_Mo_bestTurn : List (Nat × Instr × Nat) := [(0, .iconst 0, 1), (1, .istore_n 2, 1), (2, .iconst 1, 1), (3, .istore_n 3, 1), (4, .iload_n 3, 1), (5, .bipush 8, 2), (7, .if_icmp .ge 26, 3), (10, .aload_n 0, 1), (11, .iload_n 1, 1), (12, .iload_n 3, 1), (13, .invokevirtual 488, 3), (16, .aload_n 0, 1), (17, .iload_n 1, 1), (18, .iload_n 2, 1), (19, .invokevirtual 488, 3), (22, .if_icmp .ge 5, 3), (25, .iload_n 3, 1), (26, .istore_n 2, 1), (27, .iinc 3 1, 3), (30, .goto (-26), 3), (33, .iload_n 2, 1), (34, .ireturn, 1)]
theorem tab_Mo_bestTurn : Tab 9 prog_11_method_140_code K_Mo_bestTurn B_Mo_bestTurn := tab_of rfl (by decide +kernel)
def B_Mo_unlike : List (Nat × Instr × Nat) := [(0, .aload_n 0, 1), (1, .iload_n 1, 1), (2, .invokevirtual 406, 3), (5, .ifCond .ne 7, 3), (8, .iconst (-1), 1), (9, .goto 25, 3), (12, .iload_n 2, 1), (13, .ifCond .eq 11, 3), (16, .aload_n 0, 1), (17, .iload_n 1, 1), (18, .invokevirtual 491, 3), (21, .goto 13, 3), (24, .aload_n 0, 1), (25, .iload_n 1, 1), (26, .aload_n 0, 1), (27, .iload_n 1, 1), (28, .invokevirtual 491, 3), (31, .invokevirtual 488, 3), (34, .ireturn, 1)]
theorem tab_Mo_unlike : Tab 9 prog_11_method_141_code K_Mo_unlike B_Mo_unlike := tab_of rfl (by decide +kernel)
def B_Mo_owner : List (Nat × Instr × Nat) := [(0, .iload_n 1, 1), (1, .iconst 0, 1), (2, .bipush 40, 2), (4, .invokestatic 81, 3), (7, .ifCond .ne 5, 3), (10, .iconst (-1), 1), (11, .ireturn, 1), (12, .iconst (-1), 1), (13, .istore_n 2, 1), (14, .iload_n 1, 1), (15, .iconst 1, 1), (16, .iadd, 1), (17, .istore_n 3, 1), (18, .iconst 0, 1), (19, .istore 4, 2), (21, .iload 4, 2), (23, .aload_n 0, 1), (24, .getfield 7, 3), (27, .iconst 0, 1), (28, .iaload, 1), (29, .if_icmp .ge 33, 3), (32, .aload_n 0, 1), (33, .iload 4, 2), (35, .iconst 0, 1), (36, .invokevirtual 494, 3), (39, .istore 5, 2), (41, .iload 5, 2), (43, .iload_n 3, 1), (44, .if_icmp .lt 6, 3), (47, .goto 9, 3), (50, .iload 5, 2), (52, .istore_n 3, 1), (53, .iload 4, 2), (55, .istore_n 2, 1), (56, .iinc 4 1, 3), (59, .goto (-38), 3), (62, .iload_n 2, 1), (63, .ireturn, 1)]
theorem tab_Mo_owner : Tab 9 prog_11_method_142_code K_Mo_owner B_Mo_owner := tab_of rfl (by decide +kernel)
def B_Mo_twinBy : List (Nat × Instr × Nat) := [(0, .iconst 0, 1), (1, .istore_n 3, 1), (2, .iload_n 3, 1), (3, .bipush 8, 2), (5, .if_icmp .ge 45, 3), (8, .aload_n 0, 1), (9, .iload_n 1, 1), (10, .iload_n 3, 1), (11, .iconst 0, 1), (12, .invokevirtual 396, 3), (15, .aload_n 0, 1), (16, .iload_n 2, 1), (17, .iconst 0, 1), (18, .iconst 0, 1), (19, .invokevirtual 396, 3), (22, .if_icmp .ne 22, 3), (25, .aload_n 0, 1), (26, .iload_n 1, 1), (27, .iload_n 3, 1), (28, .iconst 1, 1), (29, .invokevirtual 396, 3), (32, .aload_n 0, 1), (33, .iload_n 2, 1), (34, .iconst 0, 1), (35, .iconst 1, 1), (36, .invokevirtual 396, 3), (39, .if_icmp .ne 5, 3), (42, .iload_n 3, 1), (43, .ireturn, 1), (44, .iinc 3 1, 3), (47, .goto (-45), 3), (50, .iconst (-1), 1), (51, .ireturn, 1)]
theorem tab_Mo_twinBy : Tab 9 prog_11_method_143_code K_Mo_twinBy B_Mo_twinBy := tab_of rfl (by decide +kernel)
def B_Mo_twins : List (Nat × Instr × Nat) := [(0, .aload_n 0, 1), (1, .iload_n 1, 1), (2, .invokevirtual 406, 3), (5, .ifCond .eq 25, 3), (8, .aload_n 0, 1), (9, .iload_n 2, 1), (10, .invokevirtual 406, 3), (13, .ifCond .eq 17, 3), (16, .iload_n 1, 1), (17, .iload_n 2, 1), (18, .if_icmp .eq 12, 3), (21, .aload_n 0, 1), (22, .iload_n 1, 1), (23, .iload_n 2, 1), (24, .invokevirtual 498, 3), (27, .goto 4, 3), (30, .iconst (-1), 1), (31, .ireturn, 1)]
theorem tab_Mo_twins : Tab 9 prog_11_method_144_code K_Mo_twins B_Mo_twins := tab_of rfl (by decide +kernel)
def B_Mo_kinds : List (Nat × Instr × Nat) := [(0, .iconst 0, 1), (1, .istore_n 1, 1), (2, .iconst 0, 1), (3, .istore_n 2, 1), (4, .iload_n 2, 1), (5, .aload_n 0, 1), (6, .getfield 7, 3), (9, .iconst 0, 1), (10, .iaload, 1), (11, .if_icmp .ge 57, 3), (14, .iconst 1, 1), (15, .istore_n 3, 1), (16, .iconst 0, 1), (17, .istore 4, 2), (19, .iload 4, 2), (21, .iload_n 2, 1), (22, .if_icmp .ge 28, 3), (25, .iload_n 3, 1), (26, .aload_n 0, 1), (27, .iload 4, 2), (29, .iload_n 2, 1), (30, .invokevirtual 498, 3), (33, .iconst (-1), 1), (34, .if_icmp .ne 7, 3), (37, .iconst 1, 1), (38, .goto 4, 3), (41, .iconst 0, 1), (42, .iand, 1), (43, .istore_n 3, 1), (44, .iinc 4 1, 3), (47, .goto (-28), 3), (50, .iload_n 1, 1), (51, .iload_n 3, 1), (52, .ifCond .eq 7, 3), (55, .iconst 1, 1), (56, .goto 4, 3), (59, .iconst 0, 1), (60, .iadd, 1), (61, .istore_n 1, 1), (62, .iinc 2 1, 3), (65, .goto (-61), 3), (68, .iload_n 1, 1), (69, .ireturn, 1)]
theorem tab_Mo_kinds : Tab 9 prog_11_method_145_code K_Mo_kinds B_Mo_kinds := tab_of rfl (by decide +kernel)
def B_Mo_selves : List (Nat × Instr × Nat) := [(0, .aload_n 0, 1), (1, .iload_n 1, 1), (2, .invokevirtual 406, 3), (5, .ifCond .ne 5, 3), (8, .iconst (-1), 1), (9, .ireturn, 1), (10, .iconst 0, 1), (11, .istore_n 2, 1), (12, .iconst 0, 1), (13, .istore_n 3, 1), (14, .iload_n 3, 1), (15, .bipush 8, 2), (17, .if_icmp .ge 51, 3), (20, .iload_n 2, 1), (21, .aload_n 0, 1), (22, .iload_n 1, 1), (23, .iload_n 3, 1), (24, .iconst 0, 1), (25, .invokevirtual 396, 3), (28, .aload_n 0, 1), (29, .iload_n 1, 1), (30, .iconst 0, 1), (31, .iconst 0, 1), (32, .invokevirtual 396, 3), (35, .if_icmp .ne 24, 3), (38, .aload_n 0, 1), (39, .iload_n 1, 1), (40, .iload_n 3, 1), (41, .iconst 1, 1), (42, .invokevirtual 396, 3), (45, .aload_n 0, 1), (46, .iload_n 1, 1), (47, .iconst 0, 1), (48, .iconst 1, 1), (49, .invokevirtual 396, 3), (52, .if_icmp .ne 7, 3), (55, .iconst 1, 1), (56, .goto 4, 3), (59, .iconst 0, 1), (60, .iadd, 1), (61, .istore_n 2, 1), (62, .iinc 3 1, 3), (65, .goto (-51), 3), (68, .iload_n 2, 1), (69, .ireturn, 1)]
theorem tab_Mo_selves : Tab 9 prog_11_method_146_code K_Mo_selves B_Mo_selves := tab_of rfl (by decide +kernel)
def B_Mo_look : List (Nat × Instr × Nat) := [(0, .iload_n 1, 1), (1, .iconst 0, 1), (2, .bipush 40, 2), (4, .invokestatic 81, 3), (7, .ifCond .ne 5, 3), (10, .iconst (-1), 1), (11, .ireturn, 1), (12, .iconst 0, 1), (13, .istore_n 2, 1), (14, .iload_n 2, 1), (15, .bipush 40, 2), (17, .if_icmp .ge 16, 3), (20, .aload_n 0, 1), (21, .getfield 71, 3), (24, .iload_n 2, 1), (25, .iconst 0, 1), (26, .iastore, 1), (27, .iinc 2 1, 3), (30, .goto (-16), 3), (33, .iconst 0, 1), (34, .istore_n 2, 1), (35, .iconst 0, 1), (36, .istore_n 3, 1), (37, .iload_n 3, 1), (38, .aload_n 0, 1), (39, .getfield 7, 3), (42, .iconst 0, 1), (43, .iaload, 1), (44, .if_icmp .ge 126, 3), (47, .iconst 0, 1), (48, .istore 4, 2), (50, .iload 4, 2), (52, .bipush 8, 2), (54, .if_icmp .ge 110, 3), (57, .aload_n 0, 1), (58, .iload_n 3, 1), (59, .iload 4, 2), (61, .invokevirtual 488, 3), (64, .iload_n 1, 1), (65, .if_icmp .le 6, 3), (68, .goto 90, 3), (71, .iinc 2 1, 3), (74, .aload_n 0, 1), (75, .iload_n 3, 1), (76, .iload 4, 2), (78, .iconst 0, 1), (79, .invokevirtual 396, 3), (82, .istore 5, 2), (84, .aload_n 0, 1), (85, .iload_n 3, 1), (86, .iload 4, 2), (88, .iconst 1, 1), (89, .invokevirtual 396, 3), (92, .istore 6, 2), (94, .iconst 0, 1), (95, .istore 7, 2), (97, .iload 7, 2), (99, .bipush 40, 2), (101, .if_icmp .ge 57, 3), (104, .aload_n 0, 1), (105, .getfield 71, 3), (108, .iload 7, 2), (110, .dup2, 1), (111, .iaload, 1), (112, .iload 7, 2), (114, .bipush 20, 2), (116, .if_icmp .ge 16, 3), (119, .iload 5, 2), (121, .iload 7, 2), (123, .invokestatic 102, 3), (126, .ifCond .eq 23, 3), (129, .goto 16, 3), (132, .iload 6, 2), (134, .iload 7, 2), (136, .bipush 20, 2), (138, .isub, 1), (139, .invokestatic 102, 3), (142, .ifCond .eq 7, 3), (145, .iconst 1, 1), (146, .goto 4, 3), (149, .iconst 0, 1), (150, .iadd, 1), (151, .iastore, 1), (152, .iinc 7 1, 3), (155, .goto (-58), 3), (158, .iinc 4 1, 3), (161, .goto (-111), 3), (164, .iinc 3 1, 3), (167, .goto (-130), 3), (170, .iconst (-1), 1), (171, .istore_n 3, 1), (172, .ldc_w 458, 3), (175, .istore 4, 2), (177, .iconst 0, 1), (178, .istore 5, 2), (180, .iload 5, 2), (182, .bipush 40, 2), (184, .if_icmp .ge 71, 3), (187, .iload_n 2, 1), (188, .iconst 1, 1), (189, .if_icmp .le 66, 3), (192, .aload_n 0, 1), (193, .getfield 71, 3), (196, .iload 5, 2), (198, .iaload, 1), (199, .iload_n 2, 1), (200, .aload_n 0, 1), (201, .getfield 71, 3), (204, .iload 5, 2), (206, .iaload, 1), (207, .isub, 1), (208, .if_icmp .le 13, 3), (211, .aload_n 0, 1), (212, .getfield 71, 3), (215, .iload 5, 2), (217, .iaload, 1), (218, .goto 12, 3), (221, .iload_n 2, 1), (222, .aload_n 0, 1), (223, .getfield 71, 3), (226, .iload 5, 2), (228, .iaload, 1), (229, .isub, 1), (230, .istore 6, 2), (232, .iload 6, 2), (234, .iload 4, 2), (236, .if_icmp .lt 6, 3), (239, .goto 10, 3), (242, .iload 6, 2), (244, .istore 4, 2), (246, .iload 5, 2), (248, .istore_n 3, 1), (249, .iinc 5 1, 3), (252, .goto (-72), 3), (255, .iload_n 3, 1), (256, .ireturn, 1)]
theorem tab_Mo_look : Tab 9 prog_11_method_147_code K_Mo_look B_Mo_look := tab_of rfl (by decide +kernel)
def B_Mo_said : List (Nat × Instr × Nat) := [(0, .iload_n 1, 1), (1, .iconst (-1), 1), (2, .if_icmp .ne 12, 3), (5, .aload_n 0, 1), (6, .getfield 7, 3), (9, .iconst 5, 1), (10, .iconst 0, 1), (11, .iastore, 1), (12, .iconst 0, 1), (13, .ireturn, 1), (14, .iload_n 1, 1), (15, .invokestatic 400, 3), (18, .ifCond .eq 24, 3), (21, .iload_n 2, 1), (22, .iconst 0, 1), (23, .bipush 10, 2), (25, .invokestatic 81, 3), (28, .ifCond .eq 14, 3), (31, .aload_n 0, 1), (32, .getfield 7, 3), (35, .iconst 5, 1), (36, .iaload, 1), (37, .bipush 8, 2), (39, .if_icmp .ne 6, 3), (42, .bipush (-2), 2), (44, .ireturn, 1), (45, .aload_n 0, 1), (46, .getfield 7, 3), (49, .bipush 40, 2), (51, .iconst 2, 1), (52, .aload_n 0, 1), (53, .getfield 7, 3), (56, .iconst 5, 1), (57, .iaload, 1), (58, .imul, 1), (59, .iadd, 1), (60, .iload_n 1, 1), (61, .iastore, 1), (62, .aload_n 0, 1), (63, .getfield 7, 3), (66, .bipush 40, 2), (68, .iconst 2, 1), (69, .aload_n 0, 1), (70, .getfield 7, 3), (73, .iconst 5, 1), (74, .iaload, 1), (75, .imul, 1), (76, .iadd, 1), (77, .iconst 1, 1), (78, .iadd, 1), (79, .iload_n 2, 1), (80, .iastore, 1), (81, .aload_n 0, 1), (82, .getfield 7, 3), (85, .iconst 5, 1), (86, .dup2, 1), (87, .iaload, 1), (88, .iconst 1, 1), (89, .iadd, 1), (90, .iastore, 1), (91, .aload_n 0, 1), (92, .getfield 7, 3), (95, .iconst 5, 1), (96, .iaload, 1), (97, .ireturn, 1)]
theorem tab_Mo_said : Tab 9 prog_11_method_148_code K_Mo_said B_Mo_said := tab_of rfl (by decide +kernel)
def B_Mo_whose : List (Nat × Instr × Nat) := [(0, .iconst 0, 1), (1, .istore_n 1, 1), (2, .iconst 0, 1), (3, .istore_n 2, 1), (4, .iload_n 2, 1), (5, .aload_n 0, 1), (6, .getfield 7, 3), (9, .iconst 2, 1), (10, .iaload, 1), (11, .if_icmp .ge 85, 3), (14, .iconst 1, 1), (15, .istore_n 3, 1), (16, .bipush 40, 2), (18, .istore 4, 2), (20, .iload 4, 2), (22, .bipush 40, 2), (24, .iconst 2, 1), (25, .aload_n 0, 1), (26, .getfield 7, 3), (29, .iconst 5, 1), (30, .iaload, 1), (31, .imul, 1), (32, .iadd, 1), (33, .if_icmp .ge 43, 3), (36, .iload_n 3, 1), (37, .ifCond .eq 31, 3), (40, .aload_n 0, 1), (41, .iload_n 2, 1), (42, .aload_n 0, 1), (43, .getfield 7, 3), (46, .iload 4, 2), (48, .iaload, 1), (49, .invokevirtual 386, 3), (52, .aload_n 0, 1), (53, .getfield 7, 3), (56, .iload 4, 2), (58, .iconst 1, 1), (59, .iadd, 1), (60, .iaload, 1), (61, .if_icmp .ne 7, 3), (64, .iconst 1, 1), (65, .goto 4, 3), (68, .iconst 0, 1), (69, .istore_n 3, 1), (70, .iinc 4 2, 3), (73, .goto (-53), 3), (76, .iload_n 1, 1), (77, .iload_n 3, 1), (78, .ifCond .eq 9, 3), (81, .iconst 1, 1), (82, .iload_n 2, 1), (83, .ishl, 1), (84, .goto 4, 3), (87, .iconst 0, 1), (88, .ior, 1), (89, .istore_n 1, 1), (90, .iinc 2 1, 3), (93, .goto (-89), 3), (96, .iload_n 1, 1), (97, .ireturn, 1)]
theorem tab_Mo_whose : Tab 9 prog_11_method_149_code K_Mo_whose B_Mo_whose := tab_of rfl (by decide +kernel)
def B_Mo_image : List (Nat × Instr × Nat) := [(0, .aload_n 0, 1), (1, .getfield 7, 3), (4, .aload_n 0, 1), (5, .getfield 13, 3), (8, .invokestatic 77, 3), (11, .aload_n 0, 1), (12, .getfield 7, 3), (15, .bipush 6, 2), (17, .iaload, 1), (18, .ireturn, 1)]
theorem tab_Mo_image : Tab 9 prog_11_method_150_code K_Mo_image B_Mo_image := tab_of rfl (by decide +kernel)
def B_Mo_back : List (Nat × Instr × Nat) := [(0, .aload_n 0, 1), (1, .getfield 13, 3), (4, .aload_n 0, 1), (5, .getfield 7, 3), (8, .invokestatic 77, 3), (11, .aload_n 0, 1), (12, .getfield 7, 3), (15, .bipush 6, 2), (17, .iaload, 1), (18, .ireturn, 1)]
theorem tab_Mo_back : Tab 9 prog_11_method_151_code K_Mo_back B_Mo_back := tab_of rfl (by decide +kernel)
def B_Mo_about : List (Nat × Instr × Nat) := [(0, .iload_n 1, 1), (1, .iconst 0, 1), (2, .iconst 5, 1), (3, .invokestatic 81, 3), (6, .ifCond .eq 12, 3), (9, .aload_n 0, 1), (10, .getfield 7, 3), (13, .iload_n 1, 1), (14, .iaload, 1), (15, .goto 34, 3), (18, .iload_n 1, 1), (19, .bipush 6, 2), (21, .if_icmp .ne 10, 3), (24, .aload_n 0, 1), (25, .getfield 130, 3), (28, .goto 21, 3), (31, .iload_n 1, 1), (32, .bipush 7, 2), (34, .if_icmp .ne 13, 3), (37, .aload_n 0, 1), (38, .getfield 7, 3), (41, .bipush 31, 2), (43, .iaload, 1), (44, .goto 5, 3), (47, .bipush (-2), 2), (49, .ireturn, 1)]
theorem tab_Mo_about : Tab 9 prog_11_method_152_code K_Mo_about B_Mo_about := tab_of rfl (by decide +kernel)
def B_In_bitCount : List (Nat × Instr × Nat) := [(0, .iload_n 0, 1), (1, .iload_n 0, 1), (2, .iconst 1, 1), (3, .iushr, 1), (4, .ldc_w 265, 3), (7, .iand, 1), (8, .isub, 1), (9, .istore_n 0, 1), (10, .iload_n 0, 1), (11, .ldc_w 266, 3), (14, .iand, 1), (15, .iload_n 0, 1), (16, .iconst 2, 1), (17, .iushr, 1), (18, .ldc_w 266, 3), (21, .iand, 1), (22, .iadd, 1), (23, .istore_n 0, 1), (24, .iload_n 0, 1), (25, .iload_n 0, 1), (26, .iconst 4, 1), (27, .iushr, 1), (28, .iadd, 1), (29, .ldc_w 267, 3), (32, .iand, 1), (33, .istore_n 0, 1), (34, .iload_n 0, 1), (35, .iload_n 0, 1), (36, .bipush 8, 2), (38, .iushr, 1), (39, .iadd, 1), (40, .istore_n 0, 1), (41, .iload_n 0, 1), (42, .iload_n 0, 1), (43, .bipush 16, 2), (45, .iushr, 1), (46, .iadd, 1), (47, .istore_n 0, 1), (48, .iload_n 0, 1), (49, .bipush 63, 2), (51, .iand, 1), (52, .ireturn, 1)]
theorem tab_In_bitCount : Tab 11 prog_13_method_49_code K_In_bitCount B_In_bitCount := tab_of rfl (by decide +kernel)
def B_Lo_bitCount : List (Nat × Instr × Nat) := [(0, .lload_n 0, 1), (1, .lload_n 0, 1), (2, .iconst 1, 1), (3, .lushr, 1), (4, .ldc2_w 314, 3), (7, .land, 1), (8, .lsub, 1), (9, .lstore_n 0, 1), (10, .lload_n 0, 1), (11, .ldc2_w 316, 3), (14, .land, 1), (15, .lload_n 0, 1), (16, .iconst 2, 1), (17, .lushr, 1), (18, .ldc2_w 316, 3), (21, .land, 1), (22, .ladd, 1), (23, .lstore_n 0, 1), (24, .lload_n 0, 1), (25, .lload_n 0, 1), (26, .iconst 4, 1), (27, .lushr, 1), (28, .ladd, 1), (29, .ldc2_w 318, 3), (32, .land, 1), (33, .lstore_n 0, 1), (34, .lload_n 0, 1), (35, .lload_n 0, 1), (36, .bipush 8, 2), (38, .lushr, 1), (39, .ladd, 1), (40, .lstore_n 0, 1), (41, .lload_n 0, 1), (42, .lload_n 0, 1), (43, .bipush 16, 2), (45, .lushr, 1), (46, .ladd, 1), (47, .lstore_n 0, 1), (48, .lload_n 0, 1), (49, .lload_n 0, 1), (50, .bipush 32, 2), (52, .lushr, 1), (53, .ladd, 1), (54, .lstore_n 0, 1), (55, .lload_n 0, 1), (56, .l2i, 1), (57, .bipush 127, 2), (59, .iand, 1), (60, .ireturn, 1)]
theorem tab_Lo_bitCount : Tab 12 prog_14_method_50_code K_Lo_bitCount B_Lo_bitCount := tab_of rfl (by decide +kernel)
end
section
/-! ALL TABLES TOGETHER -/
def MS0 : List MSr := [(⟨"ThumbHedges$Farm", "copyFrom", "(LThumbHedges$Farm;)V"⟩, prog_2_method_2_code, none, false, 0, B_Fa_copyFrom), (⟨"ThumbHedges$Farm", "markStep", "()V"⟩, prog_2_method_3_code, none, false, 0, B_Fa_markStep), (⟨"ThumbHedges$Farm", "takeBack", "()Z"⟩, prog_2_method_4_code, (some .boolean), false, 0, B_Fa_takeBack), (⟨"ThumbHedges$Hands", "isTurn", "(I)Z"⟩, prog_3_method_2_code, (some .boolean), true, 1, B_Ha_isTurn), (⟨"ThumbHedges$Hands", "eastOf", "(J)I"⟩, prog_3_method_3_code, (some .int), true, 1, B_Ha_eastOf), (⟨"ThumbHedges$Hands", "southOf", "(J)I"⟩, prog_3_method_4_code, (some .int), true, 1, B_Ha_southOf), (⟨"ThumbHedges$Hands", "keep", "(IJ)V"⟩, prog_3_method_5_code, none, false, 1, B_Ha_keep), (⟨"ThumbHedges$Hands", "mirrored", "(J)J"⟩, prog_3_method_6_code, (some .long), true, 1, B_Ha_mirrored), (⟨"ThumbHedges$Hands", "mirroredHedge", "(I)I"⟩, prog_3_method_7_code, (some .int), true, 1, B_Ha_mirroredHedge), (⟨"ThumbHedges$Hands", "quarterRight", "(J)J"⟩, prog_3_method_8_code, (some .long), true, 1, B_Ha_quarterRight), (⟨"ThumbHedges$Hands", "quarterHedge", "(I)I"⟩, prog_3_method_9_code, (some .int), true, 1, B_Ha_quarterHedge), (⟨"ThumbHedges$Hands", "pattern", "(II)J"⟩, prog_3_method_10_code, (some .long), false, 1, B_Ha_pattern), (⟨"ThumbHedges$Hands", "unlikeness", "(IIJ)I"⟩, prog_3_method_11_code, (some .int), false, 1, B_Ha_unlikeness), (⟨"ThumbHedges$Hands", "likestTurn", "(IJ)I"⟩, prog_3_method_12_code, (some .int), false, 1, B_Ha_likestTurn), (⟨"ThumbHedges$Hands", "turnInto", "(II)I"⟩, prog_3_method_13_code, (some .int), false, 1, B_Ha_turnInto), (⟨"ThumbHedges$Hands", "hasElderTwin", "(I)Z"⟩, prog_3_method_14_code, (some .boolean), false, 1, B_Ha_hasElderTwin), (⟨"ThumbHedges$Hands", "selfTurns", "(I)I"⟩, prog_3_method_15_code, (some .int), false, 1, B_Ha_selfTurns), (⟨"ThumbHedges$Hands", "partingHedge", "(IJI)I"⟩, prog_3_method_16_code, (some .int), false, 1, B_Ha_partingHedge), (⟨"ThumbHedges$Hands", "likePatterns", "(IJII)I"⟩, prog_3_method_17_code, (some .int), false, 1, B_Ha_likePatterns), (⟨"ThumbHedges$Judge", "frostsOf", "(LThumbHedges$Text;LThumbHedges$Land;I)I"⟩, prog_4_method_2_code, (some .int), false, 2, B_Ju_frostsOf), (⟨"ThumbHedges$Judge", "goesOf", "(LThumbHedges$Text;LThumbHedges$Land;I)I"⟩, prog_4_method_3_code, (some .int), false, 2, B_Ju_goesOf), (⟨"ThumbHedges$Judge", "nameCommon", "(LThumbHedges$Land;I)V"⟩, prog_4_method_4_code, none, false, 2, B_Ju_nameCommon), (⟨"ThumbHedges$Judge", "valueOf", "([IIILThumbHedges$Land;)I"⟩, prog_4_method_5_code, (some .int), false, 2, B_Ju_valueOf), (⟨"ThumbHedges$Judge", "pop", "()I"⟩, prog_4_method_6_code, (some .int), false, 2, B_Ju_pop), (⟨"ThumbHedges$Judge", "push", "(I)V"⟩, prog_4_method_7_code, none, false, 2, B_Ju_push), (⟨"ThumbHedges$Judge", "ofTwo", "(III)I"⟩, prog_4_method_8_code, (some .int), true, 2, B_Ju_ofTwo), (⟨"ThumbHedges$Judge", "bounded", "(J)I"⟩, prog_4_method_9_code, (some .int), true, 2, B_Ju_bounded), (⟨"ThumbHedges$Judge", "compares", "(III)Z"⟩, prog_4_method_10_code, (some .boolean), true, 2, B_Ju_compares), (⟨"ThumbHedges$Land", "copyFrom", "(LThumbHedges$Land;)V"⟩, prog_5_method_2_code, none, false, 3, B_La_copyFrom), (⟨"ThumbHedges$Land", "takeBackTo", "(LThumbHedges$Land;)V"⟩, prog_5_method_3_code, none, false, 3, B_La_takeBackTo), (⟨"ThumbHedges$Land", "tellCow", "(II)I"⟩, prog_5_method_4_code, (some .int), false, 3, B_La_tellCow), (⟨"ThumbHedges$Land", "isCow", "(I)Z"⟩, prog_5_method_5_code, (some .boolean), false, 3, B_La_isCow), (⟨"ThumbHedges$Land", "isHome", "(I)Z"⟩, prog_5_method_6_code, (some .boolean), false, 3, B_La_isHome), (⟨"ThumbHedges$Land", "hasHedge", "(I)Z"⟩, prog_5_method_7_code, (some .boolean), false, 3, B_La_hasHedge), (⟨"ThumbHedges$Land", "addHedge", "(I)V"⟩, prog_5_method_8_code, none, false, 3, B_La_addHedge), (⟨"ThumbHedges$Land", "removeHedge", "(I)V"⟩, prog_5_method_9_code, none, false, 3, B_La_removeHedge), (⟨"ThumbHedges$Land", "isOpen", "(II)Z"⟩, prog_5_method_10_code, (some .boolean), false, 3, B_La_isOpen), (⟨"ThumbHedges$Land", "openWays", "(I)I"⟩, prog_5_method_11_code, (some .int), false, 3, B_La_openWays), (⟨"ThumbHedges$Land", "around", "(I)I"⟩, prog_5_method_12_code, (some .int), false, 3, B_La_around), (⟨"ThumbHedges$Land", "canGo", "(II)Z"⟩, prog_5_method_13_code, (some .boolean), false, 3, B_La_canGo), (⟨"ThumbHedges$Land", "comesHome", "(III)Z"⟩, prog_5_method_14_code, (some .boolean), false, 3, B_La_comesHome), (⟨"ThumbHedges$Land", "wander", "(II)V"⟩, prog_5_method_15_code, none, false, 3, B_La_wander), (⟨"ThumbHedges$Land", "wayByHedge", "(II)I"⟩, prog_5_method_16_code, (some .int), false, 3, B_La_wayByHedge), (⟨"ThumbHedges$Land", "draw", "()I"⟩, prog_5_method_17_code, (some .int), false, 3, B_La_draw), (⟨"ThumbHedges$Land", "write", "(II)V"⟩, prog_5_method_18_code, none, false, 3, B_La_write), (⟨"ThumbHedges$Land", "lineHour", "(I)I"⟩, prog_5_method_19_code, (some .int), false, 3, B_La_lineHour), (⟨"ThumbHedges$Land", "lineKind", "(I)I"⟩, prog_5_method_20_code, (some .int), false, 3, B_La_lineKind)]
def MS1 : List MSr := [(⟨"ThumbHedges$Land", "lineWhich", "(I)I"⟩, prog_5_method_21_code, (some .int), false, 3, B_La_lineWhich), (⟨"ThumbHedges$Land", "stepsHome", "(II)I"⟩, prog_5_method_22_code, (some .int), false, 3, B_La_stepsHome), (⟨"ThumbHedges$Land", "ringOf", "(I)I"⟩, prog_5_method_23_code, (some .int), false, 3, B_La_ringOf), (⟨"ThumbHedges$Maze", "layOut", "(J)V"⟩, prog_6_method_2_code, none, false, 4, B_Mz_layOut), (⟨"ThumbHedges$Maze", "grown", "(I)I"⟩, prog_6_method_3_code, (some .int), false, 4, B_Mz_grown), (⟨"ThumbHedges$Maze", "grownOver", "(I)I"⟩, prog_6_method_4_code, (some .int), true, 4, B_Mz_grownOver), (⟨"ThumbHedges$Maze", "within", "(II)I"⟩, prog_6_method_5_code, (some .int), false, 4, B_Mz_within), (⟨"ThumbHedges$Maze", "flooded", "(II)I"⟩, prog_6_method_6_code, (some .int), false, 4, B_Mz_flooded), (⟨"ThumbHedges$Maze", "regionOf", "(I)I"⟩, prog_6_method_7_code, (some .int), false, 4, B_Mz_regionOf), (⟨"ThumbHedges$Maze", "milesTo", "(II)I"⟩, prog_6_method_8_code, (some .int), false, 4, B_Mz_milesTo), (⟨"ThumbHedges$Maze", "wayNearer", "(III)I"⟩, prog_6_method_9_code, (some .int), false, 4, B_Mz_wayNearer), (⟨"ThumbHedges$Maze", "cutsTo", "(II)I"⟩, prog_6_method_10_code, (some .int), false, 4, B_Mz_cutsTo), (⟨"ThumbHedges$Maze", "farthestFrom", "(I)I"⟩, prog_6_method_11_code, (some .int), false, 4, B_Mz_farthestFrom), (⟨"ThumbHedges$Maze", "lowest", "(I)I"⟩, prog_6_method_12_code, (some .int), true, 4, B_Mz_lowest), (⟨"ThumbHedges$Maze", "regionCount", "()I"⟩, prog_6_method_13_code, (some .int), false, 4, B_Mz_regionCount), (⟨"ThumbHedges$Maze", "greatestRegion", "()I"⟩, prog_6_method_14_code, (some .int), false, 4, B_Mz_greatestRegion), (⟨"ThumbHedges$Maze", "isNeck", "(I)Z"⟩, prog_6_method_15_code, (some .boolean), false, 4, B_Mz_isNeck), (⟨"ThumbHedges$Maze", "pathsTo", "(II)J"⟩, prog_6_method_16_code, (some .long), false, 4, B_Mz_pathsTo), (⟨"ThumbHedges$Maze", "pathsOn", "(IIII)J"⟩, prog_6_method_17_code, (some .long), false, 4, B_Mz_pathsOn), (⟨"ThumbHedges$Maze", "fewestGates", "(I)I"⟩, prog_6_method_18_code, (some .int), false, 4, B_Mz_fewestGates), (⟨"ThumbHedges$Maze", "lowestCover", "(III)I"⟩, prog_6_method_19_code, (some .int), false, 4, B_Mz_lowestCover), (⟨"ThumbHedges$Plan", "isCell", "(I)Z"⟩, prog_7_method_2_code, (some .boolean), true, 5, B_Pl_isCell), (⟨"ThumbHedges$Plan", "isWay", "(I)Z"⟩, prog_7_method_3_code, (some .boolean), true, 5, B_Pl_isWay), (⟨"ThumbHedges$Plan", "isHedge", "(I)Z"⟩, prog_7_method_4_code, (some .boolean), true, 5, B_Pl_isHedge), (⟨"ThumbHedges$Plan", "cellBeyond", "(II)I"⟩, prog_7_method_5_code, (some .int), true, 5, B_Pl_cellBeyond), (⟨"ThumbHedges$Plan", "hedgeBy", "(II)I"⟩, prog_7_method_6_code, (some .int), true, 5, B_Pl_hedgeBy), (⟨"ThumbHedges$Plan", "firstCell", "(I)I"⟩, prog_7_method_7_code, (some .int), true, 5, B_Pl_firstCell), (⟨"ThumbHedges$Plan", "secondCell", "(I)I"⟩, prog_7_method_8_code, (some .int), true, 5, B_Pl_secondCell), (⟨"ThumbHedges$Plan", "apart", "(II)I"⟩, prog_7_method_9_code, (some .int), true, 5, B_Pl_apart), (⟨"ThumbHedges$Reader", "hasRoomFor", "(I)Z"⟩, prog_8_method_2_code, (some .boolean), false, 6, B_Rd_hasRoomFor), (⟨"ThumbHedges$Reader", "addFour", "(I)V"⟩, prog_8_method_3_code, none, false, 6, B_Rd_addFour), (⟨"ThumbHedges$Reader", "reads", "()Z"⟩, prog_8_method_4_code, (some .boolean), false, 6, B_Rd_reads), (⟨"ThumbHedges$Reader", "refuse", "(I)Z"⟩, prog_8_method_5_code, (some .boolean), false, 6, B_Rd_refuse), (⟨"ThumbHedges$Reader", "take", "(I)Z"⟩, prog_8_method_6_code, (some .boolean), false, 6, B_Rd_take), (⟨"ThumbHedges$Reader", "clause", "()Z"⟩, prog_8_method_7_code, (some .boolean), false, 6, B_Rd_clause), (⟨"ThumbHedges$Reader", "deed", "(I)Z"⟩, prog_8_method_8_code, (some .boolean), false, 6, B_Rd_deed), (⟨"ThumbHedges$Reader", "oneNumber", "(III)Z"⟩, prog_8_method_9_code, (some .boolean), false, 6, B_Rd_oneNumber), (⟨"ThumbHedges$Reader", "secondNumber", "(II)Z"⟩, prog_8_method_10_code, (some .boolean), false, 6, B_Rd_secondNumber), (⟨"ThumbHedges$Reader", "isNumber", "(II)Z"⟩, prog_8_method_11_code, (some .boolean), false, 6, B_Rd_isNumber), (⟨"ThumbHedges$Reader", "sum", "()Z"⟩, prog_8_method_12_code, (some .boolean), false, 6, B_Rd_sum), (⟨"ThumbHedges$Reader", "product", "()Z"⟩, prog_8_method_13_code, (some .boolean), false, 6, B_Rd_product), (⟨"ThumbHedges$Reader", "one", "()Z"⟩, prog_8_method_14_code, (some .boolean), false, 6, B_Rd_one), (⟨"ThumbHedges$Reader", "emitAndAdvance", "(II)Z"⟩, prog_8_method_15_code, (some .boolean), false, 6, B_Rd_emitAndAdvance), (⟨"ThumbHedges$Reader", "isNameHere", "()Z"⟩, prog_8_method_16_code, (some .boolean), false, 6, B_Rd_isNameHere), (⟨"ThumbHedges$Reader", "nested", "()Z"⟩, prog_8_method_17_code, (some .boolean), false, 6, B_Rd_nested), (⟨"ThumbHedges$Reader", "inside", "(I)Z"⟩, prog_8_method_18_code, (some .boolean), false, 6, B_Rd_inside), (⟨"ThumbHedges$Reader", "choice", "()Z"⟩, prog_8_method_19_code, (some .boolean), false, 6, B_Rd_choice)]
def MS2 : List MSr := [(⟨"ThumbHedges$Reader", "either", "()Z"⟩, prog_8_method_20_code, (some .boolean), false, 6, B_Rd_either), (⟨"ThumbHedges$Reader", "both", "()Z"⟩, prog_8_method_21_code, (some .boolean), false, 6, B_Rd_both), (⟨"ThumbHedges$Reader", "ask", "()Z"⟩, prog_8_method_22_code, (some .boolean), false, 6, B_Rd_ask), (⟨"ThumbHedges$Reader", "advance", "()V"⟩, prog_8_method_23_code, none, false, 6, B_Rd_advance), (⟨"ThumbHedges$Reader", "isBlank", "(I)Z"⟩, prog_8_method_24_code, (some .boolean), true, 6, B_Rd_isBlank), (⟨"ThumbHedges$Reader", "isLetter", "(I)Z"⟩, prog_8_method_25_code, (some .boolean), true, 6, B_Rd_isLetter), (⟨"ThumbHedges$Reader", "isDigit", "(I)Z"⟩, prog_8_method_26_code, (some .boolean), true, 6, B_Rd_isDigit), (⟨"ThumbHedges$Reader", "wordRead", "()I"⟩, prog_8_method_27_code, (some .int), false, 6, B_Rd_wordRead), (⟨"ThumbHedges$Reader", "digitsRead", "()I"⟩, prog_8_method_28_code, (some .int), false, 6, B_Rd_digitsRead), (⟨"ThumbHedges$Reader", "signRead", "()I"⟩, prog_8_method_29_code, (some .int), false, 6, B_Rd_signRead), (⟨"ThumbHedges$Text", "clear", "()V"⟩, prog_9_method_2_code, none, false, 7, B_Tx_clear), (⟨"ThumbHedges$Text", "copyFrom", "(LThumbHedges$Text;)V"⟩, prog_9_method_3_code, none, false, 7, B_Tx_copyFrom), (⟨"ThumbHedges$Text", "addClause", "(III)V"⟩, prog_9_method_4_code, none, false, 7, B_Tx_addClause), (⟨"ThumbHedges$Text", "has", "(I)Z"⟩, prog_9_method_5_code, (some .boolean), false, 7, B_Tx_has), (⟨"ThumbHedges$Text", "beginLaw", "(I)V"⟩, prog_9_method_6_code, none, false, 7, B_Tx_beginLaw), (⟨"ThumbHedges$Text", "endLaw", "(I)V"⟩, prog_9_method_7_code, none, false, 7, B_Tx_endLaw), (⟨"ThumbHedges$Text", "emit", "(II)Z"⟩, prog_9_method_8_code, (some .boolean), false, 7, B_Tx_emit), (⟨"ThumbHedges$Text", "landHere", "(I)V"⟩, prog_9_method_9_code, none, false, 7, B_Tx_landHere), (⟨"ThumbHedges", "hand", "(II)I"⟩, prog_1_method_2_code, (some .int), false, 8, B_Th_hand), (⟨"ThumbHedges", "cow", "(II)I"⟩, prog_1_method_3_code, (some .int), false, 8, B_Th_cow), (⟨"ThumbHedges", "gate", "(IZ)Z"⟩, prog_1_method_4_code, (some .boolean), false, 8, B_Th_gate), (⟨"ThumbHedges", "feed", "(IIIII)I"⟩, prog_1_method_5_code, (some .int), false, 8, B_Th_feed), (⟨"ThumbHedges", "end", "(I)I"⟩, prog_1_method_6_code, (some .int), false, 8, B_Th_end), (⟨"ThumbHedges", "text", "()I"⟩, prog_1_method_7_code, (some .int), false, 8, B_Th_text), (⟨"ThumbHedges", "fault", "(I)I"⟩, prog_1_method_8_code, (some .int), false, 8, B_Th_fault), (⟨"ThumbHedges", "by", "(I)Z"⟩, prog_1_method_9_code, (some .boolean), false, 8, B_Th_by), (⟨"ThumbHedges", "plant", "(I)Z"⟩, prog_1_method_10_code, (some .boolean), false, 8, B_Th_plant), (⟨"ThumbHedges", "cut", "(I)Z"⟩, prog_1_method_11_code, (some .boolean), false, 8, B_Th_cut), (⟨"ThumbHedges", "press", "(II)Z"⟩, prog_1_method_12_code, (some .boolean), false, 8, B_Th_press), (⟨"ThumbHedges", "go", "(II)I"⟩, prog_1_method_13_code, (some .int), false, 8, B_Th_go), (⟨"ThumbHedges", "hour", "(I)I"⟩, prog_1_method_14_code, (some .int), false, 8, B_Th_hour), (⟨"ThumbHedges", "played", "(I)I"⟩, prog_1_method_15_code, (some .int), false, 8, B_Th_played), (⟨"ThumbHedges", "years", "(II)I"⟩, prog_1_method_16_code, (some .int), false, 8, B_Th_years), (⟨"ThumbHedges", "undo", "()I"⟩, prog_1_method_17_code, (some .int), false, 8, B_Th_undo), (⟨"ThumbHedges", "of", "(II)I"⟩, prog_1_method_18_code, (some .int), false, 8, B_Th_of), (⟨"ThumbHedges", "cell", "(II)I"⟩, prog_1_method_19_code, (some .int), false, 8, B_Th_cell), (⟨"ThumbHedges", "hedge", "(II)I"⟩, prog_1_method_20_code, (some .int), false, 8, B_Th_hedge), (⟨"ThumbHedges", "between", "(II)I"⟩, prog_1_method_21_code, (some .int), false, 8, B_Th_between), (⟨"ThumbHedges", "is", "(I)I"⟩, prog_1_method_22_code, (some .int), false, 8, B_Th_is), (⟨"ThumbHedges", "book", "(II)I"⟩, prog_1_method_23_code, (some .int), false, 8, B_Th_book), (⟨"ThumbHedges", "foretold", "(II)I"⟩, prog_1_method_24_code, (some .int), false, 8, B_Th_foretold), (⟨"ThumbHedges", "miles", "(II)I"⟩, prog_1_method_25_code, (some .int), false, 8, B_Th_miles), (⟨"ThumbHedges", "way", "(III)I"⟩, prog_1_method_26_code, (some .int), false, 8, B_Th_way), (⟨"ThumbHedges", "cuts", "(II)I"⟩, prog_1_method_27_code, (some .int), false, 8, B_Th_cuts), (⟨"ThumbHedges", "farthest", "(I)I"⟩, prog_1_method_28_code, (some .int), false, 8, B_Th_farthest), (⟨"ThumbHedges", "wide", "()I"⟩, prog_1_method_29_code, (some .int), false, 8, B_Th_wide), (⟨"ThumbHedges", "regions", "(Z)I"⟩, prog_1_method_30_code, (some .int), false, 8, B_Th_regions)]
def MS3 : List MSr := [(⟨"ThumbHedges", "rings", "()I"⟩, prog_1_method_31_code, (some .int), false, 8, B_Th_rings), (⟨"ThumbHedges", "ends", "()I"⟩, prog_1_method_32_code, (some .int), false, 8, B_Th_ends), (⟨"ThumbHedges", "necks", "()I"⟩, prog_1_method_33_code, (some .int), false, 8, B_Th_necks), (⟨"ThumbHedges", "paths", "(II)J"⟩, prog_1_method_34_code, (some .long), false, 8, B_Th_paths), (⟨"ThumbHedges", "walk", "(IZ)I"⟩, prog_1_method_35_code, (some .int), false, 8, B_Th_walk), (⟨"ThumbHedges", "home", "(I)I"⟩, prog_1_method_36_code, (some .int), false, 8, B_Th_home), (⟨"ThumbHedges", "gates", "(IZ)I"⟩, prog_1_method_37_code, (some .int), false, 8, B_Th_gates), (⟨"ThumbHedges", "turned", "(IIZ)I"⟩, prog_1_method_38_code, (some .int), false, 8, B_Th_turned), (⟨"ThumbHedges", "unlike", "(IZ)I"⟩, prog_1_method_39_code, (some .int), false, 8, B_Th_unlike), (⟨"ThumbHedges", "owner", "(I)I"⟩, prog_1_method_40_code, (some .int), false, 8, B_Th_owner), (⟨"ThumbHedges", "twins", "(II)I"⟩, prog_1_method_41_code, (some .int), false, 8, B_Th_twins), (⟨"ThumbHedges", "kinds", "()I"⟩, prog_1_method_42_code, (some .int), false, 8, B_Th_kinds), (⟨"ThumbHedges", "selves", "(I)I"⟩, prog_1_method_43_code, (some .int), false, 8, B_Th_selves), (⟨"ThumbHedges", "look", "(I)I"⟩, prog_1_method_44_code, (some .int), false, 8, B_Th_look), (⟨"ThumbHedges", "said", "(II)I"⟩, prog_1_method_45_code, (some .int), false, 8, B_Th_said), (⟨"ThumbHedges", "whose", "()I"⟩, prog_1_method_46_code, (some .int), false, 8, B_Th_whose), (⟨"ThumbHedges", "thickest", "()I"⟩, prog_1_method_47_code, (some .int), false, 8, B_Th_thickest), (⟨"ThumbHedges", "ledger", "(I)I"⟩, prog_1_method_48_code, (some .int), false, 8, B_Th_ledger), (⟨"ThumbHedges", "image", "()I"⟩, prog_1_method_49_code, (some .int), false, 8, B_Th_image), (⟨"ThumbHedges", "back", "()I"⟩, prog_1_method_50_code, (some .int), false, 8, B_Th_back), (⟨"ThumbHedges", "about", "(I)I"⟩, prog_1_method_51_code, (some .int), false, 8, B_Th_about), (⟨"ThumbHedges", "isHand", "(I)Z"⟩, prog_1_method_52_code, (some .boolean), false, 8, B_Th_isHand), (⟨"ThumbHedges", "isText", "(I)Z"⟩, prog_1_method_53_code, (some .boolean), false, 8, B_Th_isText), (⟨"ThumbHedges", "ruling", "()LThumbHedges$Text;"⟩, prog_1_method_54_code, (some (.object "ThumbHedges$Text")), false, 8, B_Th_ruling), (⟨"ThumbHedges", "mazeNow", "()LThumbHedges$Maze;"⟩, prog_1_method_55_code, (some (.object "ThumbHedges$Maze")), false, 8, B_Th_mazeNow), (⟨"ThumbHedges", "passHours", "(I)Z"⟩, prog_1_method_56_code, (some .boolean), false, 8, B_Th_passHours), (⟨"ThumbHedges", "passHour", "(LThumbHedges$Land;)V"⟩, prog_1_method_57_code, none, false, 8, B_Th_passHour), (⟨"ThumbHedges", "does", "(III)Z"⟩, prog_1_method_58_code, (some .boolean), false, 8, B_Th_does), (⟨"ThumbHedges", "befall", "(I)V"⟩, prog_1_method_59_code, none, false, 8, B_Th_befall), (⟨"ThumbHedges", "saysAll", "(LThumbHedges$Text;)Z"⟩, prog_1_method_60_code, (some .boolean), false, 8, B_Th_saysAll), (⟨"ThumbHedgesModel", "copy", "([I[I)V"⟩, prog_11_method_2_code, none, true, 9, B_Mo_copy), (⟨"ThumbHedgesModel", "isIn", "(III)Z"⟩, prog_11_method_3_code, (some .boolean), true, 9, B_Mo_isIn), (⟨"ThumbHedgesModel", "held", "(JII)I"⟩, prog_11_method_4_code, (some .int), true, 9, B_Mo_held), (⟨"ThumbHedgesModel", "size", "(I)I"⟩, prog_11_method_5_code, (some .int), true, 9, B_Mo_size), (⟨"ThumbHedgesModel", "has", "(II)Z"⟩, prog_11_method_6_code, (some .boolean), true, 9, B_Mo_has), (⟨"ThumbHedgesModel", "bits", "(I)I"⟩, prog_11_method_7_code, (some .int), true, 9, B_Mo_bits), (⟨"ThumbHedgesModel", "isCell", "(I)Z"⟩, prog_11_method_8_code, (some .boolean), true, 9, B_Mo_isCell), (⟨"ThumbHedgesModel", "isHedge", "(I)Z"⟩, prog_11_method_9_code, (some .boolean), true, 9, B_Mo_isHedge), (⟨"ThumbHedgesModel", "isRim", "(I)Z"⟩, prog_11_method_10_code, (some .boolean), true, 9, B_Mo_isRim), (⟨"ThumbHedgesModel", "isHand", "(I)Z"⟩, prog_11_method_11_code, (some .boolean), false, 9, B_Mo_isHand), (⟨"ThumbHedgesModel", "isCow", "(I)Z"⟩, prog_11_method_12_code, (some .boolean), false, 9, B_Mo_isCow), (⟨"ThumbHedgesModel", "beside", "(II)I"⟩, prog_11_method_13_code, (some .int), true, 9, B_Mo_beside), (⟨"ThumbHedgesModel", "hedgeOf", "(II)I"⟩, prog_11_method_14_code, (some .int), true, 9, B_Mo_hedgeOf), (⟨"ThumbHedgesModel", "westOf", "(I)I"⟩, prog_11_method_15_code, (some .int), true, 9, B_Mo_westOf), (⟨"ThumbHedgesModel", "eastOf", "(I)I"⟩, prog_11_method_16_code, (some .int), true, 9, B_Mo_eastOf), (⟨"ThumbHedgesModel", "cellTurned", "(II)I"⟩, prog_11_method_17_code, (some .int), true, 9, B_Mo_cellTurned), (⟨"ThumbHedgesModel", "layTurns", "()V"⟩, prog_11_method_18_code, none, false, 9, B_Mo_layTurns)]
def MS4 : List MSr := [(⟨"ThumbHedgesModel", "isThere", "(I)Z"⟩, prog_11_method_19_code, (some .boolean), false, 9, B_Mo_isThere), (⟨"ThumbHedgesModel", "change", "(I)V"⟩, prog_11_method_20_code, none, false, 9, B_Mo_change), (⟨"ThumbHedgesModel", "isOpen", "(II)Z"⟩, prog_11_method_21_code, (some .boolean), false, 9, B_Mo_isOpen), (⟨"ThumbHedgesModel", "openOf", "(I)I"⟩, prog_11_method_22_code, (some .int), false, 9, B_Mo_openOf), (⟨"ThumbHedgesModel", "aroundOf", "(I)I"⟩, prog_11_method_23_code, (some .int), false, 9, B_Mo_aroundOf), (⟨"ThumbHedgesModel", "allNow", "()I"⟩, prog_11_method_24_code, (some .int), false, 9, B_Mo_allNow), (⟨"ThumbHedgesModel", "cellOf", "(I)I"⟩, prog_11_method_25_code, (some .int), false, 9, B_Mo_cellOf), (⟨"ThumbHedgesModel", "wayOf", "(I)I"⟩, prog_11_method_26_code, (some .int), false, 9, B_Mo_wayOf), (⟨"ThumbHedgesModel", "put", "(III)V"⟩, prog_11_method_27_code, none, false, 9, B_Mo_put), (⟨"ThumbHedgesModel", "hand", "(II)I"⟩, prog_11_method_28_code, (some .int), false, 9, B_Mo_hand), (⟨"ThumbHedgesModel", "cow", "(II)I"⟩, prog_11_method_29_code, (some .int), false, 9, B_Mo_cow), (⟨"ThumbHedgesModel", "gate", "(IZ)Z"⟩, prog_11_method_30_code, (some .boolean), false, 9, B_Mo_gate), (⟨"ThumbHedgesModel", "four", "(I)V"⟩, prog_11_method_31_code, none, false, 9, B_Mo_four), (⟨"ThumbHedgesModel", "feed", "(IIIII)I"⟩, prog_11_method_32_code, (some .int), false, 9, B_Mo_feed), (⟨"ThumbHedgesModel", "end", "(I)I"⟩, prog_11_method_33_code, (some .int), false, 9, B_Mo_end), (⟨"ThumbHedgesModel", "byteAt", "(I)I"⟩, prog_11_method_34_code, (some .int), false, 9, B_Mo_byteAt), (⟨"ThumbHedgesModel", "isLetterByte", "(I)Z"⟩, prog_11_method_35_code, (some .boolean), true, 9, B_Mo_isLetterByte), (⟨"ThumbHedgesModel", "isFigure", "(I)Z"⟩, prog_11_method_36_code, (some .boolean), true, 9, B_Mo_isFigure), (⟨"ThumbHedgesModel", "isSign", "(I)Z"⟩, prog_11_method_37_code, (some .boolean), true, 9, B_Mo_isSign), (⟨"ThumbHedgesModel", "nextToken", "()V"⟩, prog_11_method_38_code, none, false, 9, B_Mo_nextToken), (⟨"ThumbHedgesModel", "w2", "(II)J"⟩, prog_11_method_39_code, (some .long), true, 9, B_Mo_w2), (⟨"ThumbHedgesModel", "w3", "(III)J"⟩, prog_11_method_40_code, (some .long), true, 9, B_Mo_w3), (⟨"ThumbHedgesModel", "w4", "(IIII)J"⟩, prog_11_method_41_code, (some .long), true, 9, B_Mo_w4), (⟨"ThumbHedgesModel", "w5", "(IIIII)J"⟩, prog_11_method_42_code, (some .long), true, 9, B_Mo_w5), (⟨"ThumbHedgesModel", "w6", "(IIIIII)J"⟩, prog_11_method_43_code, (some .long), true, 9, B_Mo_w6), (⟨"ThumbHedgesModel", "isWord", "(J)Z"⟩, prog_11_method_44_code, (some .boolean), false, 9, B_Mo_isWord), (⟨"ThumbHedgesModel", "emit", "(II)V"⟩, prog_11_method_45_code, none, false, 9, B_Mo_emit), (⟨"ThumbHedgesModel", "nameOf", "()I"⟩, prog_11_method_46_code, (some .int), false, 9, B_Mo_nameOf), (⟨"ThumbHedgesModel", "isOf", "(I)Z"⟩, prog_11_method_47_code, (some .boolean), false, 9, B_Mo_isOf), (⟨"ThumbHedgesModel", "rank", "(I)I"⟩, prog_11_method_48_code, (some .int), true, 9, B_Mo_rank), (⟨"ThumbHedgesModel", "settle", "(I)V"⟩, prog_11_method_49_code, none, false, 9, B_Mo_settle), (⟨"ThumbHedgesModel", "openAt", "()I"⟩, prog_11_method_50_code, (some .int), false, 9, B_Mo_openAt), (⟨"ThumbHedgesModel", "openNow", "()I"⟩, prog_11_method_51_code, (some .int), false, 9, B_Mo_openNow), (⟨"ThumbHedgesModel", "isCompared", "()Z"⟩, prog_11_method_52_code, (some .boolean), false, 9, B_Mo_isCompared), (⟨"ThumbHedgesModel", "isAskAhead", "()Z"⟩, prog_11_method_53_code, (some .boolean), false, 9, B_Mo_isAskAhead), (⟨"ThumbHedgesModel", "opened", "(I)I"⟩, prog_11_method_54_code, (some .int), false, 9, B_Mo_opened), (⟨"ThumbHedgesModel", "beginOne", "()I"⟩, prog_11_method_55_code, (some .int), false, 9, B_Mo_beginOne), (⟨"ThumbHedgesModel", "endOne", "()I"⟩, prog_11_method_56_code, (some .int), false, 9, B_Mo_endOne), (⟨"ThumbHedgesModel", "compareOf", "()I"⟩, prog_11_method_57_code, (some .int), false, 9, B_Mo_compareOf), (⟨"ThumbHedgesModel", "betweenOf", "()I"⟩, prog_11_method_58_code, (some .int), false, 9, B_Mo_betweenOf), (⟨"ThumbHedgesModel", "partOf", "(I)I"⟩, prog_11_method_59_code, (some .int), false, 9, B_Mo_partOf), (⟨"ThumbHedgesModel", "behindOne", "()I"⟩, prog_11_method_60_code, (some .int), false, 9, B_Mo_behindOne), (⟨"ThumbHedgesModel", "summed", "()I"⟩, prog_11_method_61_code, (some .int), false, 9, B_Mo_summed), (⟨"ThumbHedgesModel", "figure", "(III)I"⟩, prog_11_method_62_code, (some .int), false, 9, B_Mo_figure), (⟨"ThumbHedgesModel", "lawClause", "(I)I"⟩, prog_11_method_63_code, (some .int), false, 9, B_Mo_lawClause), (⟨"ThumbHedgesModel", "pair", "(IIJI)I"⟩, prog_11_method_64_code, (some .int), false, 9, B_Mo_pair), (⟨"ThumbHedgesModel", "body", "(II)I"⟩, prog_11_method_65_code, (some .int), false, 9, B_Mo_body)]
def MS5 : List MSr := [(⟨"ThumbHedgesModel", "sortOf", "()I"⟩, prog_11_method_66_code, (some .int), false, 9, B_Mo_sortOf), (⟨"ThumbHedgesModel", "clause", "()I"⟩, prog_11_method_67_code, (some .int), false, 9, B_Mo_clause), (⟨"ThumbHedgesModel", "readText", "()I"⟩, prog_11_method_68_code, (some .int), false, 9, B_Mo_readText), (⟨"ThumbHedgesModel", "text", "()I"⟩, prog_11_method_69_code, (some .int), false, 9, B_Mo_text), (⟨"ThumbHedgesModel", "fault", "(I)I"⟩, prog_11_method_70_code, (some .int), false, 9, B_Mo_fault), (⟨"ThumbHedgesModel", "by", "(I)Z"⟩, prog_11_method_71_code, (some .boolean), false, 9, B_Mo_by), (⟨"ThumbHedgesModel", "clip", "(J)J"⟩, prog_11_method_72_code, (some .long), true, 9, B_Mo_clip), (⟨"ThumbHedgesModel", "two", "(IJJ)J"⟩, prog_11_method_73_code, (some .long), true, 9, B_Mo_two), (⟨"ThumbHedgesModel", "isAsked", "(IJJ)Z"⟩, prog_11_method_74_code, (some .boolean), true, 9, B_Mo_isAsked), (⟨"ThumbHedgesModel", "hedgeThere", "(J)J"⟩, prog_11_method_75_code, (some .long), false, 9, B_Mo_hedgeThere), (⟨"ThumbHedgesModel", "apart", "(II)I"⟩, prog_11_method_76_code, (some .int), true, 9, B_Mo_apart), (⟨"ThumbHedgesModel", "farOf", "(JJ)J"⟩, prog_11_method_77_code, (some .long), true, 9, B_Mo_farOf), (⟨"ThumbHedgesModel", "joined", "(IZZ)Z"⟩, prog_11_method_78_code, (some .boolean), true, 9, B_Mo_joined), (⟨"ThumbHedgesModel", "summedUp", "(II)J"⟩, prog_11_method_79_code, (some .long), false, 9, B_Mo_summedUp), (⟨"ThumbHedgesModel", "says", "(IIIII)I"⟩, prog_11_method_80_code, (some .int), false, 9, B_Mo_says), (⟨"ThumbHedgesModel", "name", "(I)V"⟩, prog_11_method_81_code, none, false, 9, B_Mo_name), (⟨"ThumbHedgesModel", "frostsOf", "(II)I"⟩, prog_11_method_82_code, (some .int), false, 9, B_Mo_frostsOf), (⟨"ThumbHedgesModel", "goesOf", "(I)I"⟩, prog_11_method_83_code, (some .int), false, 9, B_Mo_goesOf), (⟨"ThumbHedgesModel", "write", "(II)V"⟩, prog_11_method_84_code, none, false, 9, B_Mo_write), (⟨"ThumbHedgesModel", "drawnBy", "(I)I"⟩, prog_11_method_85_code, (some .int), false, 9, B_Mo_drawnBy), (⟨"ThumbHedgesModel", "anew", "()V"⟩, prog_11_method_86_code, none, false, 9, B_Mo_anew), (⟨"ThumbHedgesModel", "isHome", "(I)Z"⟩, prog_11_method_87_code, (some .boolean), false, 9, B_Mo_isHome), (⟨"ThumbHedgesModel", "goNow", "(II)I"⟩, prog_11_method_88_code, (some .int), false, 9, B_Mo_goNow), (⟨"ThumbHedgesModel", "onward", "(II)I"⟩, prog_11_method_89_code, (some .int), false, 9, B_Mo_onward), (⟨"ThumbHedgesModel", "goOn", "(I)V"⟩, prog_11_method_90_code, none, false, 9, B_Mo_goOn), (⟨"ThumbHedgesModel", "pass", "()V"⟩, prog_11_method_91_code, none, false, 9, B_Mo_pass), (⟨"ThumbHedgesModel", "turnedBy", "(IIIZ)I"⟩, prog_11_method_92_code, (some .int), false, 9, B_Mo_turnedBy), (⟨"ThumbHedgesModel", "ofHand", "(IIZ)I"⟩, prog_11_method_93_code, (some .int), false, 9, B_Mo_ofHand), (⟨"ThumbHedgesModel", "pressNow", "(II)V"⟩, prog_11_method_94_code, none, false, 9, B_Mo_pressNow), (⟨"ThumbHedgesModel", "keep", "()V"⟩, prog_11_method_95_code, none, false, 9, B_Mo_keep), (⟨"ThumbHedgesModel", "undo", "()I"⟩, prog_11_method_96_code, (some .int), false, 9, B_Mo_undo), (⟨"ThumbHedgesModel", "plant", "(I)Z"⟩, prog_11_method_97_code, (some .boolean), false, 9, B_Mo_plant), (⟨"ThumbHedgesModel", "cut", "(I)Z"⟩, prog_11_method_98_code, (some .boolean), false, 9, B_Mo_cut), (⟨"ThumbHedgesModel", "press", "(II)Z"⟩, prog_11_method_99_code, (some .boolean), false, 9, B_Mo_press), (⟨"ThumbHedgesModel", "canGo", "(II)Z"⟩, prog_11_method_100_code, (some .boolean), false, 9, B_Mo_canGo), (⟨"ThumbHedgesModel", "go", "(II)I"⟩, prog_11_method_101_code, (some .int), false, 9, B_Mo_go), (⟨"ThumbHedgesModel", "arePassed", "(I)Z"⟩, prog_11_method_102_code, (some .boolean), false, 9, B_Mo_arePassed), (⟨"ThumbHedgesModel", "hour", "(I)I"⟩, prog_11_method_103_code, (some .int), false, 9, B_Mo_hour), (⟨"ThumbHedgesModel", "isPlayed", "(I)Z"⟩, prog_11_method_104_code, (some .boolean), false, 9, B_Mo_isPlayed), (⟨"ThumbHedgesModel", "played", "(I)I"⟩, prog_11_method_105_code, (some .int), false, 9, B_Mo_played), (⟨"ThumbHedgesModel", "happens", "(I)V"⟩, prog_11_method_106_code, none, false, 9, B_Mo_happens), (⟨"ThumbHedgesModel", "years", "(II)I"⟩, prog_11_method_107_code, (some .int), false, 9, B_Mo_years), (⟨"ThumbHedgesModel", "of", "(II)I"⟩, prog_11_method_108_code, (some .int), false, 9, B_Mo_of), (⟨"ThumbHedgesModel", "cell", "(II)I"⟩, prog_11_method_109_code, (some .int), false, 9, B_Mo_cell), (⟨"ThumbHedgesModel", "hedge", "(II)I"⟩, prog_11_method_110_code, (some .int), false, 9, B_Mo_hedge), (⟨"ThumbHedgesModel", "between", "(II)I"⟩, prog_11_method_111_code, (some .int), false, 9, B_Mo_between), (⟨"ThumbHedgesModel", "is", "(I)I"⟩, prog_11_method_112_code, (some .int), false, 9, B_Mo_is)]
def MS6 : List MSr := [(⟨"ThumbHedgesModel", "entry", "(II)I"⟩, prog_11_method_113_code, (some .int), false, 9, B_Mo_entry), (⟨"ThumbHedgesModel", "book", "(II)I"⟩, prog_11_method_114_code, (some .int), false, 9, B_Mo_book), (⟨"ThumbHedgesModel", "ledger", "(I)I"⟩, prog_11_method_115_code, (some .int), false, 9, B_Mo_ledger), (⟨"ThumbHedgesModel", "thickest", "()I"⟩, prog_11_method_116_code, (some .int), false, 9, B_Mo_thickest), (⟨"ThumbHedgesModel", "foretold", "(II)I"⟩, prog_11_method_117_code, (some .int), false, 9, B_Mo_foretold), (⟨"ThumbHedgesModel", "layFar", "(IZ)V"⟩, prog_11_method_118_code, none, false, 9, B_Mo_layFar), (⟨"ThumbHedgesModel", "areCells", "(II)Z"⟩, prog_11_method_119_code, (some .boolean), true, 9, B_Mo_areCells), (⟨"ThumbHedgesModel", "miles", "(II)I"⟩, prog_11_method_120_code, (some .int), false, 9, B_Mo_miles), (⟨"ThumbHedgesModel", "way", "(III)I"⟩, prog_11_method_121_code, (some .int), false, 9, B_Mo_way), (⟨"ThumbHedgesModel", "cuts", "(II)I"⟩, prog_11_method_122_code, (some .int), false, 9, B_Mo_cuts), (⟨"ThumbHedgesModel", "farthestNow", "()I"⟩, prog_11_method_123_code, (some .int), false, 9, B_Mo_farthestNow), (⟨"ThumbHedgesModel", "farthest", "(I)I"⟩, prog_11_method_124_code, (some .int), false, 9, B_Mo_farthest), (⟨"ThumbHedgesModel", "wide", "()I"⟩, prog_11_method_125_code, (some .int), false, 9, B_Mo_wide), (⟨"ThumbHedgesModel", "regionOf", "(II)I"⟩, prog_11_method_126_code, (some .int), false, 9, B_Mo_regionOf), (⟨"ThumbHedgesModel", "regions", "(Z)I"⟩, prog_11_method_127_code, (some .int), false, 9, B_Mo_regions), (⟨"ThumbHedgesModel", "rings", "()I"⟩, prog_11_method_128_code, (some .int), false, 9, B_Mo_rings), (⟨"ThumbHedgesModel", "ends", "()I"⟩, prog_11_method_129_code, (some .int), false, 9, B_Mo_ends), (⟨"ThumbHedgesModel", "isNeck", "(I)Z"⟩, prog_11_method_130_code, (some .boolean), false, 9, B_Mo_isNeck), (⟨"ThumbHedgesModel", "necks", "()I"⟩, prog_11_method_131_code, (some .int), false, 9, B_Mo_necks), (⟨"ThumbHedgesModel", "paths", "(II)J"⟩, prog_11_method_132_code, (some .long), false, 9, B_Mo_paths), (⟨"ThumbHedgesModel", "walk", "(IZ)I"⟩, prog_11_method_133_code, (some .int), false, 9, B_Mo_walk), (⟨"ThumbHedgesModel", "home", "(I)I"⟩, prog_11_method_134_code, (some .int), false, 9, B_Mo_home), (⟨"ThumbHedgesModel", "gates", "(IZ)I"⟩, prog_11_method_135_code, (some .int), false, 9, B_Mo_gates), (⟨"ThumbHedgesModel", "layReach", "(I)V"⟩, prog_11_method_136_code, none, false, 9, B_Mo_layReach), (⟨"ThumbHedgesModel", "lowestGates", "(I)I"⟩, prog_11_method_137_code, (some .int), false, 9, B_Mo_lowestGates), (⟨"ThumbHedgesModel", "turned", "(IIZ)I"⟩, prog_11_method_138_code, (some .int), false, 9, B_Mo_turned), (⟨"ThumbHedgesModel", "unlikeBy", "(II)I"⟩, prog_11_method_139_code, (some .int), false, 9, B_Mo_unlikeBy), (⟨"ThumbHedgesModel", "bestTurn", "(I)I"⟩, prog_11_method_140_code, (some .int), false, 9, B_Mo_bestTurn), (⟨"ThumbHedgesModel", "unlike", "(IZ)I"⟩, prog_11_method_141_code, (some .int), false, 9, B_Mo_unlike), (⟨"ThumbHedgesModel", "owner", "(I)I"⟩, prog_11_method_142_code, (some .int), false, 9, B_Mo_owner), (⟨"ThumbHedgesModel", "twinBy", "(II)I"⟩, prog_11_method_143_code, (some .int), false, 9, B_Mo_twinBy), (⟨"ThumbHedgesModel", "twins", "(II)I"⟩, prog_11_method_144_code, (some .int), false, 9, B_Mo_twins), (⟨"ThumbHedgesModel", "kinds", "()I"⟩, prog_11_method_145_code, (some .int), false, 9, B_Mo_kinds), (⟨"ThumbHedgesModel", "selves", "(I)I"⟩, prog_11_method_146_code, (some .int), false, 9, B_Mo_selves), (⟨"ThumbHedgesModel", "look", "(I)I"⟩, prog_11_method_147_code, (some .int), false, 9, B_Mo_look), (⟨"ThumbHedgesModel", "said", "(II)I"⟩, prog_11_method_148_code, (some .int), false, 9, B_Mo_said), (⟨"ThumbHedgesModel", "whose", "()I"⟩, prog_11_method_149_code, (some .int), false, 9, B_Mo_whose), (⟨"ThumbHedgesModel", "image", "()I"⟩, prog_11_method_150_code, (some .int), false, 9, B_Mo_image), (⟨"ThumbHedgesModel", "back", "()I"⟩, prog_11_method_151_code, (some .int), false, 9, B_Mo_back), (⟨"ThumbHedgesModel", "about", "(I)I"⟩, prog_11_method_152_code, (some .int), false, 9, B_Mo_about), (⟨"java/lang/Integer", "bitCount", "(I)I"⟩, prog_13_method_49_code, (some .int), true, 11, B_In_bitCount), (⟨"java/lang/Long", "bitCount", "(J)I"⟩, prog_14_method_50_code, (some .int), true, 12, B_Lo_bitCount)]
def MS : List MSr := MS0 ++ (MS1 ++ (MS2 ++ (MS3 ++ (MS4 ++ (MS5 ++ (MS6))))))
def CW0 : List Cond := [.code ⟨"ThumbHedges$Farm", "copyFrom", "(LThumbHedges$Farm;)V"⟩ prog_2_method_2_code 4 none, .code ⟨"ThumbHedges$Farm", "markStep", "()V"⟩ prog_2_method_3_code 1 none, .code ⟨"ThumbHedges$Farm", "takeBack", "()Z"⟩ prog_2_method_4_code 1 (some .boolean), .code ⟨"ThumbHedges$Hands", "isTurn", "(I)Z"⟩ prog_3_method_2_code 1 (some .boolean), .code ⟨"ThumbHedges$Hands", "eastOf", "(J)I"⟩ prog_3_method_3_code 2 (some .int), .code ⟨"ThumbHedges$Hands", "southOf", "(J)I"⟩ prog_3_method_4_code 2 (some .int), .code ⟨"ThumbHedges$Hands", "keep", "(IJ)V"⟩ prog_3_method_5_code 7 none, .code ⟨"ThumbHedges$Hands", "mirrored", "(J)J"⟩ prog_3_method_6_code 5 (some .long), .code ⟨"ThumbHedges$Hands", "mirroredHedge", "(I)I"⟩ prog_3_method_7_code 3 (some .int), .code ⟨"ThumbHedges$Hands", "quarterRight", "(J)J"⟩ prog_3_method_8_code 5 (some .long), .code ⟨"ThumbHedges$Hands", "quarterHedge", "(I)I"⟩ prog_3_method_9_code 4 (some .int), .code ⟨"ThumbHedges$Hands", "pattern", "(II)J"⟩ prog_3_method_10_code 3 (some .long), .code ⟨"ThumbHedges$Hands", "unlikeness", "(IIJ)I"⟩ prog_3_method_11_code 5 (some .int), .code ⟨"ThumbHedges$Hands", "likestTurn", "(IJ)I"⟩ prog_3_method_12_code 6 (some .int), .code ⟨"ThumbHedges$Hands", "turnInto", "(II)I"⟩ prog_3_method_13_code 4 (some .int), .code ⟨"ThumbHedges$Hands", "hasElderTwin", "(I)Z"⟩ prog_3_method_14_code 3 (some .boolean), .code ⟨"ThumbHedges$Hands", "selfTurns", "(I)I"⟩ prog_3_method_15_code 4 (some .int), .code ⟨"ThumbHedges$Hands", "partingHedge", "(IJI)I"⟩ prog_3_method_16_code 11 (some .int), .code ⟨"ThumbHedges$Hands", "likePatterns", "(IJII)I"⟩ prog_3_method_17_code 9 (some .int), .code ⟨"ThumbHedges$Judge", "frostsOf", "(LThumbHedges$Text;LThumbHedges$Land;I)I"⟩ prog_4_method_2_code 4 (some .int), .code ⟨"ThumbHedges$Judge", "goesOf", "(LThumbHedges$Text;LThumbHedges$Land;I)I"⟩ prog_4_method_3_code 4 (some .int), .code ⟨"ThumbHedges$Judge", "nameCommon", "(LThumbHedges$Land;I)V"⟩ prog_4_method_4_code 3 none, .code ⟨"ThumbHedges$Judge", "valueOf", "([IIILThumbHedges$Land;)I"⟩ prog_4_method_5_code 10 (some .int), .code ⟨"ThumbHedges$Judge", "pop", "()I"⟩ prog_4_method_6_code 1 (some .int), .code ⟨"ThumbHedges$Judge", "push", "(I)V"⟩ prog_4_method_7_code 2 none, .code ⟨"ThumbHedges$Judge", "ofTwo", "(III)I"⟩ prog_4_method_8_code 3 (some .int), .code ⟨"ThumbHedges$Judge", "bounded", "(J)I"⟩ prog_4_method_9_code 2 (some .int), .code ⟨"ThumbHedges$Judge", "compares", "(III)Z"⟩ prog_4_method_10_code 3 (some .boolean), .code ⟨"ThumbHedges$Land", "copyFrom", "(LThumbHedges$Land;)V"⟩ prog_5_method_2_code 2 none, .code ⟨"ThumbHedges$Land", "takeBackTo", "(LThumbHedges$Land;)V"⟩ prog_5_method_3_code 4 none, .code ⟨"ThumbHedges$Land", "tellCow", "(II)I"⟩ prog_5_method_4_code 3 (some .int), .code ⟨"ThumbHedges$Land", "isCow", "(I)Z"⟩ prog_5_method_5_code 2 (some .boolean), .code ⟨"ThumbHedges$Land", "isHome", "(I)Z"⟩ prog_5_method_6_code 2 (some .boolean), .code ⟨"ThumbHedges$Land", "hasHedge", "(I)Z"⟩ prog_5_method_7_code 2 (some .boolean), .code ⟨"ThumbHedges$Land", "addHedge", "(I)V"⟩ prog_5_method_8_code 2 none, .code ⟨"ThumbHedges$Land", "removeHedge", "(I)V"⟩ prog_5_method_9_code 2 none, .code ⟨"ThumbHedges$Land", "isOpen", "(II)Z"⟩ prog_5_method_10_code 4 (some .boolean), .code ⟨"ThumbHedges$Land", "openWays", "(I)I"⟩ prog_5_method_11_code 4 (some .int), .code ⟨"ThumbHedges$Land", "around", "(I)I"⟩ prog_5_method_12_code 4 (some .int), .code ⟨"ThumbHedges$Land", "canGo", "(II)Z"⟩ prog_5_method_13_code 3 (some .boolean), .code ⟨"ThumbHedges$Land", "comesHome", "(III)Z"⟩ prog_5_method_14_code 4 (some .boolean), .code ⟨"ThumbHedges$Land", "wander", "(II)V"⟩ prog_5_method_15_code 4 none, .code ⟨"ThumbHedges$Land", "wayByHedge", "(II)I"⟩ prog_5_method_16_code 6 (some .int), .code ⟨"ThumbHedges$Land", "draw", "()I"⟩ prog_5_method_17_code 2 (some .int), .code ⟨"ThumbHedges$Land", "write", "(II)V"⟩ prog_5_method_18_code 3 none, .code ⟨"ThumbHedges$Land", "lineHour", "(I)I"⟩ prog_5_method_19_code 2 (some .int), .code ⟨"ThumbHedges$Land", "lineKind", "(I)I"⟩ prog_5_method_20_code 2 (some .int)]
set_option maxRecDepth 100000 in
theorem CW0_in : ∀ w ∈ CW0, w ∈ lw_tbl := mem_places [1257, 754, 961, 787, 984, 988, 425, 428, 431, 437, 440, 791, 1184, 1180, 1199, 1207, 1216, 1224, 1228, 929, 850, 854, 868, 872, 876, 880, 883, 900, 758, 762, 454, 803, 807, 750, 767, 775, 812, 914, 858, 799, 820, 906, 910, 925, 921, 1032, 1036] rfl
theorem IW0_in : ∀ w ∈ MS0.map (fun S => Cond.initialized S.1.cls), w ∈ lw_tbl := mem_places [113, 113, 113, 115, 115, 115, 115, 115, 115, 115, 115, 115, 115, 115, 115, 115, 115, 115, 115, 118, 118, 118, 118, 118, 118, 118, 118, 118, 114, 114, 114, 114, 114, 114, 114, 114, 114, 114, 114, 114, 114, 114, 114, 114, 114, 114, 114] (by decide +kernel)
theorem SW0_in : ∀ w ∈ (MS0.filter (fun S => S.2.2.2.1)).map (fun S => Cond.static S.1), w ∈ lw_tbl := mem_places [786, 983, 987, 427, 430, 436, 439, 879, 882, 899] (by decide +kernel)
theorem NI0_in : ∀ w ∈ (MS0.filter (fun S => !S.2.2.2.1)).map (fun S => Cond.instanceMethod S.1), w ∈ lw_tbl := mem_places [1255, 752, 959, 423, 789, 1182, 1178, 1197, 1205, 1214, 1222, 1227, 927, 848, 853, 867, 871, 875, 756, 760, 452, 801, 805, 748, 765, 773, 810, 912, 856, 797, 818, 904, 908, 923, 919, 1030, 1034] (by decide +kernel)
theorem NS0_in : ∀ w ∈ (MS0.filter (fun S => !S.2.2.2.1)).map (fun S => Cond.selects S.1.cls S.1 S.1), w ∈ lw_tbl := mem_places [1256, 753, 960, 424, 790, 1183, 1179, 1198, 1206, 1215, 1223, 38, 928, 849, 27, 28, 29, 30, 757, 761, 453, 802, 806, 749, 766, 774, 811, 913, 857, 798, 819, 905, 909, 924, 920, 1031, 1035] (by decide +kernel)
def CW1 : List Cond := [.code ⟨"ThumbHedges$Land", "lineWhich", "(I)I"⟩ prog_5_method_21_code 2 (some .int), .code ⟨"ThumbHedges$Land", "stepsHome", "(II)I"⟩ prog_5_method_22_code 6 (some .int), .code ⟨"ThumbHedges$Land", "ringOf", "(I)I"⟩ prog_5_method_23_code 7 (some .int), .code ⟨"ThumbHedges$Maze", "layOut", "(J)V"⟩ prog_6_method_2_code 5 none, .code ⟨"ThumbHedges$Maze", "grown", "(I)I"⟩ prog_6_method_3_code 2 (some .int), .code ⟨"ThumbHedges$Maze", "grownOver", "(I)I"⟩ prog_6_method_4_code 1 (some .int), .code ⟨"ThumbHedges$Maze", "within", "(II)I"⟩ prog_6_method_5_code 5 (some .int), .code ⟨"ThumbHedges$Maze", "flooded", "(II)I"⟩ prog_6_method_6_code 6 (some .int), .code ⟨"ThumbHedges$Maze", "regionOf", "(I)I"⟩ prog_6_method_7_code 2 (some .int), .code ⟨"ThumbHedges$Maze", "milesTo", "(II)I"⟩ prog_6_method_8_code 5 (some .int), .code ⟨"ThumbHedges$Maze", "wayNearer", "(III)I"⟩ prog_6_method_9_code 7 (some .int), .code ⟨"ThumbHedges$Maze", "cutsTo", "(II)I"⟩ prog_6_method_10_code 5 (some .int), .code ⟨"ThumbHedges$Maze", "farthestFrom", "(I)I"⟩ prog_6_method_11_code 6 (some .int), .code ⟨"ThumbHedges$Maze", "lowest", "(I)I"⟩ prog_6_method_12_code 1 (some .int), .code ⟨"ThumbHedges$Maze", "regionCount", "()I"⟩ prog_6_method_13_code 4 (some .int), .code ⟨"ThumbHedges$Maze", "greatestRegion", "()I"⟩ prog_6_method_14_code 5 (some .int), .code ⟨"ThumbHedges$Maze", "isNeck", "(I)Z"⟩ prog_6_method_15_code 3 (some .boolean), .code ⟨"ThumbHedges$Maze", "pathsTo", "(II)J"⟩ prog_6_method_16_code 3 (some .long), .code ⟨"ThumbHedges$Maze", "pathsOn", "(IIII)J"⟩ prog_6_method_17_code 10 (some .long), .code ⟨"ThumbHedges$Maze", "fewestGates", "(I)I"⟩ prog_6_method_18_code 4 (some .int), .code ⟨"ThumbHedges$Maze", "lowestCover", "(III)I"⟩ prog_6_method_19_code 6 (some .int), .code ⟨"ThumbHedges$Plan", "isCell", "(I)Z"⟩ prog_7_method_2_code 1 (some .boolean), .code ⟨"ThumbHedges$Plan", "isWay", "(I)Z"⟩ prog_7_method_3_code 1 (some .boolean), .code ⟨"ThumbHedges$Plan", "isHedge", "(I)Z"⟩ prog_7_method_4_code 1 (some .boolean), .code ⟨"ThumbHedges$Plan", "cellBeyond", "(II)I"⟩ prog_7_method_5_code 2 (some .int), .code ⟨"ThumbHedges$Plan", "hedgeBy", "(II)I"⟩ prog_7_method_6_code 5 (some .int), .code ⟨"ThumbHedges$Plan", "firstCell", "(I)I"⟩ prog_7_method_7_code 1 (some .int), .code ⟨"ThumbHedges$Plan", "secondCell", "(I)I"⟩ prog_7_method_8_code 1 (some .int), .code ⟨"ThumbHedges$Plan", "apart", "(II)I"⟩ prog_7_method_9_code 2 (some .int), .code ⟨"ThumbHedges$Reader", "hasRoomFor", "(I)Z"⟩ prog_8_method_2_code 2 (some .boolean), .code ⟨"ThumbHedges$Reader", "addFour", "(I)V"⟩ prog_8_method_3_code 3 none, .code ⟨"ThumbHedges$Reader", "reads", "()Z"⟩ prog_8_method_4_code 2 (some .boolean), .code ⟨"ThumbHedges$Reader", "refuse", "(I)Z"⟩ prog_8_method_5_code 2 (some .boolean), .code ⟨"ThumbHedges$Reader", "take", "(I)Z"⟩ prog_8_method_6_code 2 (some .boolean), .code ⟨"ThumbHedges$Reader", "clause", "()Z"⟩ prog_8_method_7_code 4 (some .boolean), .code ⟨"ThumbHedges$Reader", "deed", "(I)Z"⟩ prog_8_method_8_code 2 (some .boolean), .code ⟨"ThumbHedges$Reader", "oneNumber", "(III)Z"⟩ prog_8_method_9_code 4 (some .boolean), .code ⟨"ThumbHedges$Reader", "secondNumber", "(II)Z"⟩ prog_8_method_10_code 3 (some .boolean), .code ⟨"ThumbHedges$Reader", "isNumber", "(II)Z"⟩ prog_8_method_11_code 3 (some .boolean), .code ⟨"ThumbHedges$Reader", "sum", "()Z"⟩ prog_8_method_12_code 3 (some .boolean), .code ⟨"ThumbHedges$Reader", "product", "()Z"⟩ prog_8_method_13_code 3 (some .boolean), .code ⟨"ThumbHedges$Reader", "one", "()Z"⟩ prog_8_method_14_code 2 (some .boolean), .code ⟨"ThumbHedges$Reader", "emitAndAdvance", "(II)Z"⟩ prog_8_method_15_code 3 (some .boolean), .code ⟨"ThumbHedges$Reader", "isNameHere", "()Z"⟩ prog_8_method_16_code 2 (some .boolean), .code ⟨"ThumbHedges$Reader", "nested", "()Z"⟩ prog_8_method_17_code 3 (some .boolean), .code ⟨"ThumbHedges$Reader", "inside", "(I)Z"⟩ prog_8_method_18_code 2 (some .boolean), .code ⟨"ThumbHedges$Reader", "choice", "()Z"⟩ prog_8_method_19_code 4 (some .boolean)]
set_option maxRecDepth 100000 in
theorem CW1_in : ∀ w ∈ CW1, w ∈ lw_tbl := mem_places [1040, 1146, 1150, 981, 1002, 1078, 1065, 998, 993, 1053, 1061, 1074, 1087, 1090, 1109, 1104, 1125, 1134, 1138, 1163, 1167, 447, 450, 746, 823, 815, 434, 1010, 894, 467, 471, 483, 630, 658, 626, 638, 642, 654, 646, 667, 671, 675, 679, 687, 691, 695, 703] rfl
theorem IW1_in : ∀ w ∈ MS1.map (fun S => Cond.initialized S.1.cls), w ∈ lw_tbl := mem_places [114, 114, 114, 119, 119, 119, 119, 119, 119, 119, 119, 119, 119, 119, 119, 119, 119, 119, 119, 119, 119, 121, 121, 121, 121, 121, 121, 121, 121, 117, 117, 117, 117, 117, 117, 117, 117, 117, 117, 117, 117, 117, 117, 117, 117, 117, 117] (by decide +kernel)
theorem SW1_in : ∀ w ∈ (MS1.filter (fun S => S.2.2.2.1)).map (fun S => Cond.static S.1), w ∈ lw_tbl := mem_places [1077, 1089, 446, 449, 745, 822, 814, 433, 1009, 893] (by decide +kernel)
theorem NI1_in : ∀ w ∈ (MS1.filter (fun S => !S.2.2.2.1)).map (fun S => Cond.instanceMethod S.1), w ∈ lw_tbl := mem_places [1038, 1144, 1148, 979, 1001, 1063, 997, 991, 1051, 1059, 1072, 1085, 1107, 1102, 1123, 1132, 1137, 1161, 1166, 465, 469, 481, 629, 657, 625, 637, 641, 653, 645, 666, 670, 674, 678, 686, 690, 694, 702] (by decide +kernel)
theorem NS1_in : ∀ w ∈ (MS1.filter (fun S => !S.2.2.2.1)).map (fun S => Cond.selects S.1.cls S.1 S.1), w ∈ lw_tbl := mem_places [1039, 1145, 1149, 980, 35, 1064, 34, 992, 1052, 1060, 1073, 1086, 1108, 1103, 1124, 1133, 36, 1162, 37, 466, 470, 482, 5, 10, 4, 6, 7, 9, 8, 11, 12, 13, 14, 15, 16, 17, 19] (by decide +kernel)
def CW2 : List Cond := [.code ⟨"ThumbHedges$Reader", "either", "()Z"⟩ prog_8_method_20_code 2 (some .boolean), .code ⟨"ThumbHedges$Reader", "both", "()Z"⟩ prog_8_method_21_code 2 (some .boolean), .code ⟨"ThumbHedges$Reader", "ask", "()Z"⟩ prog_8_method_22_code 3 (some .boolean), .code ⟨"ThumbHedges$Reader", "advance", "()V"⟩ prog_8_method_23_code 1 none, .code ⟨"ThumbHedges$Reader", "isBlank", "(I)Z"⟩ prog_8_method_24_code 1 (some .boolean), .code ⟨"ThumbHedges$Reader", "isLetter", "(I)Z"⟩ prog_8_method_25_code 1 (some .boolean), .code ⟨"ThumbHedges$Reader", "isDigit", "(I)Z"⟩ prog_8_method_26_code 1 (some .boolean), .code ⟨"ThumbHedges$Reader", "wordRead", "()I"⟩ prog_8_method_27_code 6 (some .int), .code ⟨"ThumbHedges$Reader", "digitsRead", "()I"⟩ prog_8_method_28_code 1 (some .int), .code ⟨"ThumbHedges$Reader", "signRead", "()I"⟩ prog_8_method_29_code 4 (some .int), .code ⟨"ThumbHedges$Text", "clear", "()V"⟩ prog_9_method_2_code 1 none, .code ⟨"ThumbHedges$Text", "copyFrom", "(LThumbHedges$Text;)V"⟩ prog_9_method_3_code 2 none, .code ⟨"ThumbHedges$Text", "addClause", "(III)V"⟩ prog_9_method_4_code 4 none, .code ⟨"ThumbHedges$Text", "has", "(I)Z"⟩ prog_9_method_5_code 2 (some .boolean), .code ⟨"ThumbHedges$Text", "beginLaw", "(I)V"⟩ prog_9_method_6_code 2 none, .code ⟨"ThumbHedges$Text", "endLaw", "(I)V"⟩ prog_9_method_7_code 2 none, .code ⟨"ThumbHedges$Text", "emit", "(II)Z"⟩ prog_9_method_8_code 3 (some .boolean), .code ⟨"ThumbHedges$Text", "landHere", "(I)V"⟩ prog_9_method_9_code 2 none, .code ⟨"ThumbHedges", "hand", "(II)I"⟩ prog_1_method_2_code 3 (some .int), .code ⟨"ThumbHedges", "cow", "(II)I"⟩ prog_1_method_3_code 3 (some .int), .code ⟨"ThumbHedges", "gate", "(IZ)Z"⟩ prog_1_method_4_code 3 (some .boolean), .code ⟨"ThumbHedges", "feed", "(IIIII)I"⟩ prog_1_method_5_code 6 (some .int), .code ⟨"ThumbHedges", "end", "(I)I"⟩ prog_1_method_6_code 2 (some .int), .code ⟨"ThumbHedges", "text", "()I"⟩ prog_1_method_7_code 2 (some .int), .code ⟨"ThumbHedges", "fault", "(I)I"⟩ prog_1_method_8_code 2 (some .int), .code ⟨"ThumbHedges", "by", "(I)Z"⟩ prog_1_method_9_code 2 (some .boolean), .code ⟨"ThumbHedges", "plant", "(I)Z"⟩ prog_1_method_10_code 2 (some .boolean), .code ⟨"ThumbHedges", "cut", "(I)Z"⟩ prog_1_method_11_code 2 (some .boolean), .code ⟨"ThumbHedges", "press", "(II)Z"⟩ prog_1_method_12_code 3 (some .boolean), .code ⟨"ThumbHedges", "go", "(II)I"⟩ prog_1_method_13_code 3 (some .int), .code ⟨"ThumbHedges", "hour", "(I)I"⟩ prog_1_method_14_code 3 (some .int), .code ⟨"ThumbHedges", "played", "(I)I"⟩ prog_1_method_15_code 6 (some .int), .code ⟨"ThumbHedges", "years", "(II)I"⟩ prog_1_method_16_code 4 (some .int), .code ⟨"ThumbHedges", "undo", "()I"⟩ prog_1_method_17_code 1 (some .int), .code ⟨"ThumbHedges", "of", "(II)I"⟩ prog_1_method_18_code 5 (some .int), .code ⟨"ThumbHedges", "cell", "(II)I"⟩ prog_1_method_19_code 3 (some .int), .code ⟨"ThumbHedges", "hedge", "(II)I"⟩ prog_1_method_20_code 3 (some .int), .code ⟨"ThumbHedges", "between", "(II)I"⟩ prog_1_method_21_code 4 (some .int), .code ⟨"ThumbHedges", "is", "(I)I"⟩ prog_1_method_22_code 3 (some .int), .code ⟨"ThumbHedges", "book", "(II)I"⟩ prog_1_method_23_code 4 (some .int), .code ⟨"ThumbHedges", "foretold", "(II)I"⟩ prog_1_method_24_code 4 (some .int), .code ⟨"ThumbHedges", "miles", "(II)I"⟩ prog_1_method_25_code 3 (some .int), .code ⟨"ThumbHedges", "way", "(III)I"⟩ prog_1_method_26_code 8 (some .int), .code ⟨"ThumbHedges", "cuts", "(II)I"⟩ prog_1_method_27_code 3 (some .int), .code ⟨"ThumbHedges", "farthest", "(I)I"⟩ prog_1_method_28_code 2 (some .int), .code ⟨"ThumbHedges", "wide", "()I"⟩ prog_1_method_29_code 3 (some .int), .code ⟨"ThumbHedges", "regions", "(Z)I"⟩ prog_1_method_30_code 2 (some .int)]
set_option maxRecDepth 100000 in
theorem CW2_in : ∀ w ∈ CW2, w ∈ lw_tbl := mem_places [707, 711, 699, 491, 494, 497, 553, 501, 557, 564, 487, 723, 650, 634, 662, 719, 683, 715, 420, 444, 458, 463, 475, 479, 731, 735, 743, 771, 780, 795, 827, 935, 949, 957, 966, 971, 1006, 1015, 1021, 1028, 1044, 1049, 1057, 1070, 1083, 1095, 1100] rfl
theorem IW2_in : ∀ w ∈ MS2.map (fun S => Cond.initialized S.1.cls), w ∈ lw_tbl := mem_places [117, 117, 117, 117, 117, 117, 117, 117, 117, 117, 116, 116, 116, 116, 116, 116, 116, 116, 112, 112, 112, 112, 112, 112, 112, 112, 112, 112, 112, 112, 112, 112, 112, 112, 112, 112, 112, 112, 112, 112, 112, 112, 112, 112, 112, 112, 112] (by decide +kernel)
theorem SW2_in : ∀ w ∈ (MS2.filter (fun S => S.2.2.2.1)).map (fun S => Cond.static S.1), w ∈ lw_tbl := mem_places [493, 496, 552] (by decide +kernel)
theorem NI2_in : ∀ w ∈ (MS2.filter (fun S => !S.2.2.2.1)).map (fun S => Cond.instanceMethod S.1), w ∈ lw_tbl := mem_places [706, 710, 698, 490, 500, 556, 563, 485, 721, 648, 632, 660, 717, 681, 713, 418, 442, 456, 461, 473, 477, 729, 733, 741, 769, 778, 793, 825, 933, 947, 955, 964, 969, 1004, 1013, 1019, 1026, 1042, 1047, 1055, 1068, 1081, 1093, 1098] (by decide +kernel)
theorem NS2_in : ∀ w ∈ (MS2.filter (fun S => !S.2.2.2.1)).map (fun S => Cond.selects S.1.cls S.1 S.1), w ∈ lw_tbl := mem_places [20, 21, 18, 0, 1, 2, 3, 486, 722, 649, 633, 661, 718, 682, 714, 419, 443, 457, 462, 474, 478, 730, 734, 742, 770, 779, 794, 826, 934, 948, 956, 965, 970, 1005, 1014, 1020, 1027, 1043, 1048, 1056, 1069, 1082, 1094, 1099] (by decide +kernel)
def CW3 : List Cond := [.code ⟨"ThumbHedges", "rings", "()I"⟩ prog_1_method_31_code 1 (some .int), .code ⟨"ThumbHedges", "ends", "()I"⟩ prog_1_method_32_code 3 (some .int), .code ⟨"ThumbHedges", "necks", "()I"⟩ prog_1_method_33_code 3 (some .int), .code ⟨"ThumbHedges", "paths", "(II)J"⟩ prog_1_method_34_code 3 (some .long), .code ⟨"ThumbHedges", "walk", "(IZ)I"⟩ prog_1_method_35_code 5 (some .int), .code ⟨"ThumbHedges", "home", "(I)I"⟩ prog_1_method_36_code 5 (some .int), .code ⟨"ThumbHedges", "gates", "(IZ)I"⟩ prog_1_method_37_code 4 (some .int), .code ⟨"ThumbHedges", "turned", "(IIZ)I"⟩ prog_1_method_38_code 6 (some .int), .code ⟨"ThumbHedges", "unlike", "(IZ)I"⟩ prog_1_method_39_code 4 (some .int), .code ⟨"ThumbHedges", "owner", "(I)I"⟩ prog_1_method_40_code 6 (some .int), .code ⟨"ThumbHedges", "twins", "(II)I"⟩ prog_1_method_41_code 3 (some .int), .code ⟨"ThumbHedges", "kinds", "()I"⟩ prog_1_method_42_code 3 (some .int), .code ⟨"ThumbHedges", "selves", "(I)I"⟩ prog_1_method_43_code 2 (some .int), .code ⟨"ThumbHedges", "look", "(I)I"⟩ prog_1_method_44_code 2 (some .int), .code ⟨"ThumbHedges", "said", "(II)I"⟩ prog_1_method_45_code 3 (some .int), .code ⟨"ThumbHedges", "whose", "()I"⟩ prog_1_method_46_code 3 (some .int), .code ⟨"ThumbHedges", "thickest", "()I"⟩ prog_1_method_47_code 3 (some .int), .code ⟨"ThumbHedges", "ledger", "(I)I"⟩ prog_1_method_48_code 4 (some .int), .code ⟨"ThumbHedges", "image", "()I"⟩ prog_1_method_49_code 1 (some .int), .code ⟨"ThumbHedges", "back", "()I"⟩ prog_1_method_50_code 1 (some .int), .code ⟨"ThumbHedges", "about", "(I)I"⟩ prog_1_method_51_code 2 (some .int), .code ⟨"ThumbHedges", "isHand", "(I)Z"⟩ prog_1_method_52_code 2 (some .boolean), .code ⟨"ThumbHedges", "isText", "(I)Z"⟩ prog_1_method_53_code 2 (some .boolean), .code ⟨"ThumbHedges", "ruling", "()LThumbHedges$Text;"⟩ prog_1_method_54_code 1 (some (.object "ThumbHedges$Text")), .code ⟨"ThumbHedges", "mazeNow", "()LThumbHedges$Maze;"⟩ prog_1_method_55_code 1 (some (.object "ThumbHedges$Maze")), .code ⟨"ThumbHedges", "passHours", "(I)Z"⟩ prog_1_method_56_code 3 (some .boolean), .code ⟨"ThumbHedges", "passHour", "(LThumbHedges$Land;)V"⟩ prog_1_method_57_code 4 none, .code ⟨"ThumbHedges", "does", "(III)Z"⟩ prog_1_method_58_code 4 (some .boolean), .code ⟨"ThumbHedges", "befall", "(I)V"⟩ prog_1_method_59_code 4 none, .code ⟨"ThumbHedges", "saysAll", "(LThumbHedges$Text;)Z"⟩ prog_1_method_60_code 3 (some .boolean), .code ⟨"ThumbHedgesModel", "copy", "([I[I)V"⟩ prog_11_method_2_code 3 none, .code ⟨"ThumbHedgesModel", "isIn", "(III)Z"⟩ prog_11_method_3_code 3 (some .boolean), .code ⟨"ThumbHedgesModel", "held", "(JII)I"⟩ prog_11_method_4_code 4 (some .int), .code ⟨"ThumbHedgesModel", "size", "(I)I"⟩ prog_11_method_5_code 1 (some .int), .code ⟨"ThumbHedgesModel", "has", "(II)Z"⟩ prog_11_method_6_code 2 (some .boolean), .code ⟨"ThumbHedgesModel", "bits", "(I)I"⟩ prog_11_method_7_code 3 (some .int), .code ⟨"ThumbHedgesModel", "isCell", "(I)Z"⟩ prog_11_method_8_code 1 (some .boolean), .code ⟨"ThumbHedgesModel", "isHedge", "(I)Z"⟩ prog_11_method_9_code 1 (some .boolean), .code ⟨"ThumbHedgesModel", "isRim", "(I)Z"⟩ prog_11_method_10_code 1 (some .boolean), .code ⟨"ThumbHedgesModel", "isHand", "(I)Z"⟩ prog_11_method_11_code 2 (some .boolean), .code ⟨"ThumbHedgesModel", "isCow", "(I)Z"⟩ prog_11_method_12_code 2 (some .boolean), .code ⟨"ThumbHedgesModel", "beside", "(II)I"⟩ prog_11_method_13_code 2 (some .int), .code ⟨"ThumbHedgesModel", "hedgeOf", "(II)I"⟩ prog_11_method_14_code 3 (some .int), .code ⟨"ThumbHedgesModel", "westOf", "(I)I"⟩ prog_11_method_15_code 1 (some .int), .code ⟨"ThumbHedgesModel", "eastOf", "(I)I"⟩ prog_11_method_16_code 1 (some .int), .code ⟨"ThumbHedgesModel", "cellTurned", "(II)I"⟩ prog_11_method_17_code 6 (some .int), .code ⟨"ThumbHedgesModel", "layTurns", "()V"⟩ prog_11_method_18_code 3 none]
set_option maxRecDepth 100000 in
theorem CW3_in : ∀ w ∈ CW3, w ∈ lw_tbl := mem_places [1113, 1117, 1121, 1129, 1142, 1154, 1159, 1172, 1176, 1191, 1195, 1203, 1212, 1220, 1233, 1237, 1245, 1249, 1253, 1262, 1266, 784, 739, 845, 977, 837, 841, 939, 953, 1241, 1294, 1406, 1734, 1291, 1493, 1693, 1413, 1595, 1424, 1619, 1643, 1658, 1288, 1279, 1285, 1282, 1276] rfl
theorem IW3_in : ∀ w ∈ MS3.map (fun S => Cond.initialized S.1.cls), w ∈ lw_tbl := mem_places [112, 112, 112, 112, 112, 112, 112, 112, 112, 112, 112, 112, 112, 112, 112, 112, 112, 112, 112, 112, 112, 112, 112, 112, 112, 112, 112, 112, 112, 112, 120, 120, 120, 120, 120, 120, 120, 120, 120, 120, 120, 120, 120, 120, 120, 120, 120] (by decide +kernel)
theorem SW3_in : ∀ w ∈ (MS3.filter (fun S => S.2.2.2.1)).map (fun S => Cond.static S.1), w ∈ lw_tbl := mem_places [1293, 1405, 1733, 1290, 1492, 1692, 1412, 1594, 1423, 1657, 1287, 1278, 1284, 1281] (by decide +kernel)
theorem NI3_in : ∀ w ∈ (MS3.filter (fun S => !S.2.2.2.1)).map (fun S => Cond.instanceMethod S.1), w ∈ lw_tbl := mem_places [1111, 1115, 1119, 1127, 1140, 1152, 1157, 1170, 1174, 1189, 1193, 1201, 1210, 1218, 1231, 1235, 1243, 1247, 1251, 1260, 1264, 783, 738, 844, 976, 836, 840, 938, 952, 1240, 1618, 1642, 1275] (by decide +kernel)
theorem NS3_in : ∀ w ∈ (MS3.filter (fun S => !S.2.2.2.1)).map (fun S => Cond.selects S.1.cls S.1 S.1), w ∈ lw_tbl := mem_places [1112, 1116, 1120, 1128, 1141, 1153, 1158, 1171, 1175, 1190, 1194, 1202, 1211, 1219, 1232, 1236, 1244, 1248, 1252, 1261, 1265, 23, 22, 26, 33, 24, 25, 31, 32, 39, 72, 77, 40] (by decide +kernel)
def CW4 : List Cond := [.code ⟨"ThumbHedgesModel", "isThere", "(I)Z"⟩ prog_11_method_19_code 2 (some .boolean), .code ⟨"ThumbHedgesModel", "change", "(I)V"⟩ prog_11_method_20_code 2 none, .code ⟨"ThumbHedgesModel", "isOpen", "(II)Z"⟩ prog_11_method_21_code 3 (some .boolean), .code ⟨"ThumbHedgesModel", "openOf", "(I)I"⟩ prog_11_method_22_code 4 (some .int), .code ⟨"ThumbHedgesModel", "aroundOf", "(I)I"⟩ prog_11_method_23_code 4 (some .int), .code ⟨"ThumbHedgesModel", "allNow", "()I"⟩ prog_11_method_24_code 1 (some .int), .code ⟨"ThumbHedgesModel", "cellOf", "(I)I"⟩ prog_11_method_25_code 2 (some .int), .code ⟨"ThumbHedgesModel", "wayOf", "(I)I"⟩ prog_11_method_26_code 2 (some .int), .code ⟨"ThumbHedgesModel", "put", "(III)V"⟩ prog_11_method_27_code 4 none, .code ⟨"ThumbHedgesModel", "hand", "(II)I"⟩ prog_11_method_28_code 3 (some .int), .code ⟨"ThumbHedgesModel", "cow", "(II)I"⟩ prog_11_method_29_code 4 (some .int), .code ⟨"ThumbHedgesModel", "gate", "(IZ)Z"⟩ prog_11_method_30_code 3 (some .boolean), .code ⟨"ThumbHedgesModel", "four", "(I)V"⟩ prog_11_method_31_code 3 none, .code ⟨"ThumbHedgesModel", "feed", "(IIIII)I"⟩ prog_11_method_32_code 6 (some .int), .code ⟨"ThumbHedgesModel", "end", "(I)I"⟩ prog_11_method_33_code 2 (some .int), .code ⟨"ThumbHedgesModel", "byteAt", "(I)I"⟩ prog_11_method_34_code 2 (some .int), .code ⟨"ThumbHedgesModel", "isLetterByte", "(I)Z"⟩ prog_11_method_35_code 1 (some .boolean), .code ⟨"ThumbHedgesModel", "isFigure", "(I)Z"⟩ prog_11_method_36_code 1 (some .boolean), .code ⟨"ThumbHedgesModel", "isSign", "(I)Z"⟩ prog_11_method_37_code 1 (some .boolean), .code ⟨"ThumbHedgesModel", "nextToken", "()V"⟩ prog_11_method_38_code 2 none, .code ⟨"ThumbHedgesModel", "w2", "(II)J"⟩ prog_11_method_39_code 2 (some .long), .code ⟨"ThumbHedgesModel", "w3", "(III)J"⟩ prog_11_method_40_code 3 (some .long), .code ⟨"ThumbHedgesModel", "w4", "(IIII)J"⟩ prog_11_method_41_code 4 (some .long), .code ⟨"ThumbHedgesModel", "w5", "(IIIII)J"⟩ prog_11_method_42_code 5 (some .long), .code ⟨"ThumbHedgesModel", "w6", "(IIIIII)J"⟩ prog_11_method_43_code 6 (some .long), .code ⟨"ThumbHedgesModel", "isWord", "(J)Z"⟩ prog_11_method_44_code 3 (some .boolean), .code ⟨"ThumbHedgesModel", "emit", "(II)V"⟩ prog_11_method_45_code 3 none, .code ⟨"ThumbHedgesModel", "nameOf", "()I"⟩ prog_11_method_46_code 1 (some .int), .code ⟨"ThumbHedgesModel", "isOf", "(I)Z"⟩ prog_11_method_47_code 2 (some .boolean), .code ⟨"ThumbHedgesModel", "rank", "(I)I"⟩ prog_11_method_48_code 1 (some .int), .code ⟨"ThumbHedgesModel", "settle", "(I)V"⟩ prog_11_method_49_code 2 none, .code ⟨"ThumbHedgesModel", "openAt", "()I"⟩ prog_11_method_50_code 2 (some .int), .code ⟨"ThumbHedgesModel", "openNow", "()I"⟩ prog_11_method_51_code 1 (some .int), .code ⟨"ThumbHedgesModel", "isCompared", "()Z"⟩ prog_11_method_52_code 2 (some .boolean), .code ⟨"ThumbHedgesModel", "isAskAhead", "()Z"⟩ prog_11_method_53_code 1 (some .boolean), .code ⟨"ThumbHedgesModel", "opened", "(I)I"⟩ prog_11_method_54_code 2 (some .int), .code ⟨"ThumbHedgesModel", "beginOne", "()I"⟩ prog_11_method_55_code 2 (some .int), .code ⟨"ThumbHedgesModel", "endOne", "()I"⟩ prog_11_method_56_code 1 (some .int), .code ⟨"ThumbHedgesModel", "compareOf", "()I"⟩ prog_11_method_57_code 1 (some .int), .code ⟨"ThumbHedgesModel", "betweenOf", "()I"⟩ prog_11_method_58_code 1 (some .int), .code ⟨"ThumbHedgesModel", "partOf", "(I)I"⟩ prog_11_method_59_code 2 (some .int), .code ⟨"ThumbHedgesModel", "behindOne", "()I"⟩ prog_11_method_60_code 4 (some .int), .code ⟨"ThumbHedgesModel", "summed", "()I"⟩ prog_11_method_61_code 2 (some .int), .code ⟨"ThumbHedgesModel", "figure", "(III)I"⟩ prog_11_method_62_code 4 (some .int), .code ⟨"ThumbHedgesModel", "lawClause", "(I)I"⟩ prog_11_method_63_code 3 (some .int), .code ⟨"ThumbHedgesModel", "pair", "(IIJI)I"⟩ prog_11_method_64_code 7 (some .int), .code ⟨"ThumbHedgesModel", "body", "(II)I"⟩ prog_11_method_65_code 3 (some .int)]
set_option maxRecDepth 100000 in
theorem CW4_in : ∀ w ∈ CW4, w ∈ lw_tbl := mem_places [1599, 1607, 1655, 1795, 1686, 1690, 1651, 1697, 1417, 1402, 1410, 1421, 1432, 1428, 1436, 1452, 1459, 1455, 1463, 1448, 1486, 1483, 1480, 1477, 1474, 1490, 1548, 1564, 1568, 1536, 1544, 1529, 1525, 1533, 1576, 1572, 1560, 1556, 1540, 1521, 1552, 1517, 1513, 1505, 1509, 1501, 1497] rfl
theorem IW4_in : ∀ w ∈ MS4.map (fun S => Cond.initialized S.1.cls), w ∈ lw_tbl := mem_places [120, 120, 120, 120, 120, 120, 120, 120, 120, 120, 120, 120, 120, 120, 120, 120, 120, 120, 120, 120, 120, 120, 120, 120, 120, 120, 120, 120, 120, 120, 120, 120, 120, 120, 120, 120, 120, 120, 120, 120, 120, 120, 120, 120, 120, 120, 120] (by decide +kernel)
theorem SW4_in : ∀ w ∈ (MS4.filter (fun S => S.2.2.2.1)).map (fun S => Cond.static S.1), w ∈ lw_tbl := mem_places [1458, 1454, 1462, 1485, 1482, 1479, 1476, 1473, 1535] (by decide +kernel)
theorem NI4_in : ∀ w ∈ (MS4.filter (fun S => !S.2.2.2.1)).map (fun S => Cond.instanceMethod S.1), w ∈ lw_tbl := mem_places [1598, 1606, 1654, 1794, 1685, 1689, 1650, 1696, 1416, 1400, 1408, 1419, 1431, 1426, 1434, 1451, 1447, 1489, 1547, 1563, 1567, 1543, 1528, 1524, 1532, 1575, 1571, 1559, 1555, 1539, 1520, 1551, 1516, 1512, 1504, 1508, 1500, 1496] (by decide +kernel)
theorem NS4_in : ∀ w ∈ (MS4.filter (fun S => !S.2.2.2.1)).map (fun S => Cond.selects S.1.cls S.1 S.1), w ∈ lw_tbl := mem_places [69, 71, 80, 100, 86, 87, 79, 88, 41, 1401, 1409, 1420, 42, 1427, 1435, 45, 44, 48, 61, 65, 66, 60, 57, 56, 58, 68, 67, 64, 63, 59, 55, 62, 54, 53, 51, 52, 50, 49] (by decide +kernel)
def CW5 : List Cond := [.code ⟨"ThumbHedgesModel", "sortOf", "()I"⟩ prog_11_method_66_code 1 (some .int), .code ⟨"ThumbHedgesModel", "clause", "()I"⟩ prog_11_method_67_code 5 (some .int), .code ⟨"ThumbHedgesModel", "readText", "()I"⟩ prog_11_method_68_code 2 (some .int), .code ⟨"ThumbHedgesModel", "text", "()I"⟩ prog_11_method_69_code 1 (some .int), .code ⟨"ThumbHedgesModel", "fault", "(I)I"⟩ prog_11_method_70_code 2 (some .int), .code ⟨"ThumbHedgesModel", "by", "(I)Z"⟩ prog_11_method_71_code 2 (some .boolean), .code ⟨"ThumbHedgesModel", "clip", "(J)J"⟩ prog_11_method_72_code 2 (some .long), .code ⟨"ThumbHedgesModel", "two", "(IJJ)J"⟩ prog_11_method_73_code 5 (some .long), .code ⟨"ThumbHedgesModel", "isAsked", "(IJJ)Z"⟩ prog_11_method_74_code 5 (some .boolean), .code ⟨"ThumbHedgesModel", "hedgeThere", "(J)J"⟩ prog_11_method_75_code 3 (some .long), .code ⟨"ThumbHedgesModel", "apart", "(II)I"⟩ prog_11_method_76_code 2 (some .int), .code ⟨"ThumbHedgesModel", "farOf", "(JJ)J"⟩ prog_11_method_77_code 4 (some .long), .code ⟨"ThumbHedgesModel", "joined", "(IZZ)Z"⟩ prog_11_method_78_code 3 (some .boolean), .code ⟨"ThumbHedgesModel", "summedUp", "(II)J"⟩ prog_11_method_79_code 10 (some .long), .code ⟨"ThumbHedgesModel", "says", "(IIIII)I"⟩ prog_11_method_80_code 7 (some .int), .code ⟨"ThumbHedgesModel", "name", "(I)V"⟩ prog_11_method_81_code 2 none, .code ⟨"ThumbHedgesModel", "frostsOf", "(II)I"⟩ prog_11_method_82_code 3 (some .int), .code ⟨"ThumbHedgesModel", "goesOf", "(I)I"⟩ prog_11_method_83_code 2 (some .int), .code ⟨"ThumbHedgesModel", "write", "(II)V"⟩ prog_11_method_84_code 4 none, .code ⟨"ThumbHedgesModel", "drawnBy", "(I)I"⟩ prog_11_method_85_code 3 (some .int), .code ⟨"ThumbHedgesModel", "anew", "()V"⟩ prog_11_method_86_code 1 none, .code ⟨"ThumbHedgesModel", "isHome", "(I)Z"⟩ prog_11_method_87_code 2 (some .boolean), .code ⟨"ThumbHedgesModel", "goNow", "(II)I"⟩ prog_11_method_88_code 4 (some .int), .code ⟨"ThumbHedgesModel", "onward", "(II)I"⟩ prog_11_method_89_code 3 (some .int), .code ⟨"ThumbHedgesModel", "goOn", "(I)V"⟩ prog_11_method_90_code 3 none, .code ⟨"ThumbHedgesModel", "pass", "()V"⟩ prog_11_method_91_code 2 none, .code ⟨"ThumbHedgesModel", "turnedBy", "(IIIZ)I"⟩ prog_11_method_92_code 8 (some .int), .code ⟨"ThumbHedgesModel", "ofHand", "(IIZ)I"⟩ prog_11_method_93_code 4 (some .int), .code ⟨"ThumbHedgesModel", "pressNow", "(II)V"⟩ prog_11_method_94_code 3 none, .code ⟨"ThumbHedgesModel", "keep", "()V"⟩ prog_11_method_95_code 3 none, .code ⟨"ThumbHedgesModel", "undo", "()I"⟩ prog_11_method_96_code 3 (some .int), .code ⟨"ThumbHedgesModel", "plant", "(I)Z"⟩ prog_11_method_97_code 2 (some .boolean), .code ⟨"ThumbHedgesModel", "cut", "(I)Z"⟩ prog_11_method_98_code 2 (some .boolean), .code ⟨"ThumbHedgesModel", "press", "(II)Z"⟩ prog_11_method_99_code 3 (some .boolean), .code ⟨"ThumbHedgesModel", "canGo", "(II)Z"⟩ prog_11_method_100_code 3 (some .boolean), .code ⟨"ThumbHedgesModel", "go", "(II)I"⟩ prog_11_method_101_code 3 (some .int), .code ⟨"ThumbHedgesModel", "arePassed", "(I)Z"⟩ prog_11_method_102_code 3 (some .boolean), .code ⟨"ThumbHedgesModel", "hour", "(I)I"⟩ prog_11_method_103_code 2 (some .int), .code ⟨"ThumbHedgesModel", "isPlayed", "(I)Z"⟩ prog_11_method_104_code 4 (some .boolean), .code ⟨"ThumbHedgesModel", "played", "(I)I"⟩ prog_11_method_105_code 3 (some .int), .code ⟨"ThumbHedgesModel", "happens", "(I)V"⟩ prog_11_method_106_code 3 none, .code ⟨"ThumbHedgesModel", "years", "(II)I"⟩ prog_11_method_107_code 5 (some .int), .code ⟨"ThumbHedgesModel", "of", "(II)I"⟩ prog_11_method_108_code 3 (some .int), .code ⟨"ThumbHedgesModel", "cell", "(II)I"⟩ prog_11_method_109_code 3 (some .int), .code ⟨"ThumbHedgesModel", "hedge", "(II)I"⟩ prog_11_method_110_code 3 (some .int), .code ⟨"ThumbHedgesModel", "between", "(II)I"⟩ prog_11_method_111_code 3 (some .int), .code ⟨"ThumbHedgesModel", "is", "(I)I"⟩ prog_11_method_112_code 2 (some .int)]
set_option maxRecDepth 100000 in
theorem CW5_in : ∀ w ∈ CW5, w ∈ lw_tbl := mem_places [1471, 1467, 1444, 1440, 1580, 1584, 1723, 1720, 1728, 1709, 1717, 1713, 1731, 1705, 1701, 1682, 1761, 1678, 1746, 1750, 1754, 1647, 1662, 1742, 1738, 1674, 1631, 1627, 1623, 1603, 1588, 1592, 1611, 1615, 1639, 1635, 1670, 1666, 1769, 1765, 1783, 1779, 1787, 1791, 1803, 1807, 1811] rfl
theorem IW5_in : ∀ w ∈ MS5.map (fun S => Cond.initialized S.1.cls), w ∈ lw_tbl := mem_places [120, 120, 120, 120, 120, 120, 120, 120, 120, 120, 120, 120, 120, 120, 120, 120, 120, 120, 120, 120, 120, 120, 120, 120, 120, 120, 120, 120, 120, 120, 120, 120, 120, 120, 120, 120, 120, 120, 120, 120, 120, 120, 120, 120, 120, 120, 120] (by decide +kernel)
theorem SW5_in : ∀ w ∈ (MS5.filter (fun S => S.2.2.2.1)).map (fun S => Cond.static S.1), w ∈ lw_tbl := mem_places [1722, 1719, 1727, 1716, 1712, 1730] (by decide +kernel)
theorem NI5_in : ∀ w ∈ (MS5.filter (fun S => !S.2.2.2.1)).map (fun S => Cond.instanceMethod S.1), w ∈ lw_tbl := mem_places [1470, 1466, 1443, 1438, 1578, 1582, 1708, 1704, 1700, 1681, 1760, 1677, 1745, 1749, 1753, 1646, 1661, 1741, 1737, 1673, 1630, 1626, 1622, 1602, 1586, 1590, 1609, 1613, 1638, 1633, 1669, 1664, 1768, 1763, 1782, 1777, 1785, 1789, 1801, 1805, 1809] (by decide +kernel)
theorem NS5_in : ∀ w ∈ (MS5.filter (fun S => !S.2.2.2.1)).map (fun S => Cond.selects S.1.cls S.1 S.1), w ∈ lw_tbl := mem_places [47, 46, 43, 1439, 1579, 1583, 91, 90, 89, 85, 97, 84, 94, 95, 96, 78, 81, 93, 92, 83, 75, 74, 73, 70, 1587, 1591, 1610, 1614, 76, 1634, 82, 1665, 98, 1764, 99, 1778, 1786, 1790, 1802, 1806, 1810] (by decide +kernel)
def CW6 : List Cond := [.code ⟨"ThumbHedgesModel", "entry", "(II)I"⟩ prog_11_method_113_code 4 (some .int), .code ⟨"ThumbHedgesModel", "book", "(II)I"⟩ prog_11_method_114_code 3 (some .int), .code ⟨"ThumbHedgesModel", "ledger", "(I)I"⟩ prog_11_method_115_code 4 (some .int), .code ⟨"ThumbHedgesModel", "thickest", "()I"⟩ prog_11_method_116_code 3 (some .int), .code ⟨"ThumbHedgesModel", "foretold", "(II)I"⟩ prog_11_method_117_code 5 (some .int), .code ⟨"ThumbHedgesModel", "layFar", "(IZ)V"⟩ prog_11_method_118_code 8 none, .code ⟨"ThumbHedgesModel", "areCells", "(II)Z"⟩ prog_11_method_119_code 2 (some .boolean), .code ⟨"ThumbHedgesModel", "miles", "(II)I"⟩ prog_11_method_120_code 3 (some .int), .code ⟨"ThumbHedgesModel", "way", "(III)I"⟩ prog_11_method_121_code 8 (some .int), .code ⟨"ThumbHedgesModel", "cuts", "(II)I"⟩ prog_11_method_122_code 3 (some .int), .code ⟨"ThumbHedgesModel", "farthestNow", "()I"⟩ prog_11_method_123_code 3 (some .int), .code ⟨"ThumbHedgesModel", "farthest", "(I)I"⟩ prog_11_method_124_code 2 (some .int), .code ⟨"ThumbHedgesModel", "wide", "()I"⟩ prog_11_method_125_code 3 (some .int), .code ⟨"ThumbHedgesModel", "regionOf", "(II)I"⟩ prog_11_method_126_code 7 (some .int), .code ⟨"ThumbHedgesModel", "regions", "(Z)I"⟩ prog_11_method_127_code 7 (some .int), .code ⟨"ThumbHedgesModel", "rings", "()I"⟩ prog_11_method_128_code 1 (some .int), .code ⟨"ThumbHedgesModel", "ends", "()I"⟩ prog_11_method_129_code 3 (some .int), .code ⟨"ThumbHedgesModel", "isNeck", "(I)Z"⟩ prog_11_method_130_code 4 (some .boolean), .code ⟨"ThumbHedgesModel", "necks", "()I"⟩ prog_11_method_131_code 3 (some .int), .code ⟨"ThumbHedgesModel", "paths", "(II)J"⟩ prog_11_method_132_code 7 (some .long), .code ⟨"ThumbHedgesModel", "walk", "(IZ)I"⟩ prog_11_method_133_code 7 (some .int), .code ⟨"ThumbHedgesModel", "home", "(I)I"⟩ prog_11_method_134_code 6 (some .int), .code ⟨"ThumbHedgesModel", "gates", "(IZ)I"⟩ prog_11_method_135_code 5 (some .int), .code ⟨"ThumbHedgesModel", "layReach", "(I)V"⟩ prog_11_method_136_code 4 none, .code ⟨"ThumbHedgesModel", "lowestGates", "(I)I"⟩ prog_11_method_137_code 7 (some .int), .code ⟨"ThumbHedgesModel", "turned", "(IIZ)I"⟩ prog_11_method_138_code 4 (some .int), .code ⟨"ThumbHedgesModel", "unlikeBy", "(II)I"⟩ prog_11_method_139_code 3 (some .int), .code ⟨"ThumbHedgesModel", "bestTurn", "(I)I"⟩ prog_11_method_140_code 4 (some .int), .code ⟨"ThumbHedgesModel", "unlike", "(IZ)I"⟩ prog_11_method_141_code 3 (some .int), .code ⟨"ThumbHedgesModel", "owner", "(I)I"⟩ prog_11_method_142_code 6 (some .int), .code ⟨"ThumbHedgesModel", "twinBy", "(II)I"⟩ prog_11_method_143_code 4 (some .int), .code ⟨"ThumbHedgesModel", "twins", "(II)I"⟩ prog_11_method_144_code 3 (some .int), .code ⟨"ThumbHedgesModel", "kinds", "()I"⟩ prog_11_method_145_code 5 (some .int), .code ⟨"ThumbHedgesModel", "selves", "(I)I"⟩ prog_11_method_146_code 4 (some .int), .code ⟨"ThumbHedgesModel", "look", "(I)I"⟩ prog_11_method_147_code 8 (some .int), .code ⟨"ThumbHedgesModel", "said", "(II)I"⟩ prog_11_method_148_code 3 (some .int), .code ⟨"ThumbHedgesModel", "whose", "()I"⟩ prog_11_method_149_code 5 (some .int), .code ⟨"ThumbHedgesModel", "image", "()I"⟩ prog_11_method_150_code 1 (some .int), .code ⟨"ThumbHedgesModel", "back", "()I"⟩ prog_11_method_151_code 1 (some .int), .code ⟨"ThumbHedgesModel", "about", "(I)I"⟩ prog_11_method_152_code 2 (some .int), .code ⟨"java/lang/Integer", "bitCount", "(I)I"⟩ prog_13_method_49_code 1 (some .int), .code ⟨"java/lang/Long", "bitCount", "(J)I"⟩ prog_14_method_50_code 2 (some .int)]
set_option maxRecDepth 100000 in
theorem CW6_in : ∀ w ∈ CW6, w ∈ lw_tbl := mem_places [1819, 1815, 1823, 1827, 1831, 1842, 1838, 1835, 1847, 1852, 1860, 1856, 1864, 1799, 1868, 1873, 1878, 1886, 1882, 1890, 1895, 1899, 1903, 1907, 1911, 1915, 1927, 1923, 1919, 1931, 1940, 1936, 1944, 1948, 1952, 1956, 1960, 1964, 1968, 1972, 830, 861] rfl
theorem IW6_in : ∀ w ∈ MS6.map (fun S => Cond.initialized S.1.cls), w ∈ lw_tbl := mem_places [120, 120, 120, 120, 120, 120, 120, 120, 120, 120, 120, 120, 120, 120, 120, 120, 120, 120, 120, 120, 120, 120, 120, 120, 120, 120, 120, 120, 120, 120, 120, 120, 120, 120, 120, 120, 120, 120, 120, 120, 129, 130] (by decide +kernel)
theorem SW6_in : ∀ w ∈ (MS6.filter (fun S => S.2.2.2.1)).map (fun S => Cond.static S.1), w ∈ lw_tbl := mem_places [1837, 829, 860] (by decide +kernel)
theorem NI6_in : ∀ w ∈ (MS6.filter (fun S => !S.2.2.2.1)).map (fun S => Cond.instanceMethod S.1), w ∈ lw_tbl := mem_places [1818, 1813, 1821, 1825, 1829, 1841, 1833, 1845, 1850, 1859, 1854, 1862, 1798, 1866, 1871, 1876, 1885, 1880, 1888, 1893, 1897, 1901, 1906, 1910, 1913, 1926, 1922, 1917, 1929, 1939, 1934, 1942, 1946, 1950, 1954, 1958, 1962, 1966, 1970] (by decide +kernel)
theorem NS6_in : ∀ w ∈ (MS6.filter (fun S => !S.2.2.2.1)).map (fun S => Cond.selects S.1.cls S.1 S.1), w ∈ lw_tbl := mem_places [102, 1814, 1822, 1826, 1830, 103, 1834, 1846, 1851, 104, 1855, 1863, 101, 1867, 1872, 1877, 105, 1881, 1889, 1894, 1898, 1902, 106, 107, 1914, 109, 108, 1918, 1930, 110, 1935, 1943, 1947, 1951, 1955, 1959, 1963, 1967, 1971] (by decide +kernel)
def retB (rt : Nat) (ret : Option FieldType) : Bool := match ret with
  | none => decide (rt = 3)
  | some .int => decide (rt = 0)
  | some .long => decide (rt = 1)
  | some .boolean => decide (rt = 2)
  | some (.object _) => decide (10 ≤ rt)
  | _ => false
theorem retB_ok {rt : Nat} {ret : Option FieldType} (h : retB rt ret = true) : retOK rt ret := by
  unfold retB at h
  unfold retOK
  split at h
  · exact Or.inr (Or.inr (Or.inr (Or.inl ⟨of_decide_eq_true h, rfl⟩)))
  · exact Or.inl ⟨of_decide_eq_true h, rfl⟩
  · exact Or.inr (Or.inl ⟨of_decide_eq_true h, rfl⟩)
  · exact Or.inr (Or.inr (Or.inl ⟨of_decide_eq_true h, rfl⟩))
  · exact Or.inr (Or.inr (Or.inr (Or.inr ⟨of_decide_eq_true h, _, rfl⟩)))
  · cases h
def chkS (k : Nat) (M : MI) (S : MSr) : Bool :=
  decide (S.2.2.2.1 = true ↔ k ∈ STK) && (plainName S.1.cls && (decide (YN k = S.1) && (decide (OWNN S.2.2.2.2.1 = S.1.cls) && (decide (S.1.cls ≠ "java/lang/invoke/MethodHandle" ∧ S.1.cls ≠ "java/lang/invoke/VarHandle") &&
  ((if S.2.2.2.1 = true then decide ((parseMethodDescriptor S.1.desc).map (fun d => d.parameters.length) = some M.1.length) else (match M.1 with
    | [] => false
    | t :: tl => decide (10 ≤ t ∧ t - 10 < 9 ∧ CR (t - 10) = S.1.cls ∧ (parseMethodDescriptor S.1.desc).map (fun d => d.parameters.length) = some tl.length))) &&
  (retB M.2.1 S.2.2.1 && decide (M.2.2.1 ≤ 40 ∧ (M.1.map tagW).sum ≤ M.2.2.1 ∧ 0 < S.2.2.2.2.2.length ∧ bpOf S.2.2.2.2.2 0 = 0)))))))
theorem mok_of {k : Nat} {M : MI} {S : MSr} (h : chkS k M S = true) (hT : Tab S.2.2.2.2.1 S.2.1 M.2.2.2 S.2.2.2.2.2) (h1 : Cond.code S.1 S.2.1 M.2.2.1 S.2.2.1 ∈ lw_tbl) (h2 : Cond.initialized S.1.cls ∈ lw_tbl) (h3 : S.2.2.2.1 = true → Cond.static S.1 ∈ lw_tbl) (h4 : S.2.2.2.1 = false → Cond.instanceMethod S.1 ∈ lw_tbl ∧ Cond.selects S.1.cls S.1 S.1 ∈ lw_tbl) : MOK k M S := by
  unfold chkS at h
  simp only [Bool.and_eq_true, decide_eq_true_eq] at h
  obtain ⟨a1, a2, a3, a4, a5, a6, a7, a8, a9, a10, a11⟩ := h
  refine ⟨a1, a2, a3, a4, WT_in h1 rfl, WT_in h2 rfl, a5, fun hs => ⟨WT_in (h3 hs) rfl, ?_⟩, fun hs => ⟨WT_in (h4 hs).1 rfl, WT_in (h4 hs).2 rfl, ?_⟩, retB_ok a7, a8, a9, hT, a10, a11⟩
  · rw [if_pos hs] at a6
    exact of_decide_eq_true a6
  · rw [if_neg (by rw [hs]; exact Bool.false_ne_true)] at a6
    split at a6
    · cases a6
    · rename_i t tl he
      obtain ⟨b1, b2, b3, b4⟩ := of_decide_eq_true a6
      exact ⟨t - 10, tl, by rw [he, show t - 10 + 10 = t by omega], b2, b3, b4⟩
theorem mok_list {MTc : List MI} {MSc : List MSr} {CW : List Cond} (base : Nat) (hl : MTc.length = MSc.length) (hc : ∀ (k : Nat) (M : MI) (S : MSr), MTc[k]? = some M → MSc[k]? = some S → chkS (base + k) M S = true) (hT : ∀ (k : Nat) (M : MI) (S : MSr), MTc[k]? = some M → MSc[k]? = some S → Tab S.2.2.2.2.1 S.2.1 M.2.2.2 S.2.2.2.2.2) (hcw : ∀ (k : Nat) (M : MI) (S : MSr), MTc[k]? = some M → MSc[k]? = some S → Cond.code S.1 S.2.1 M.2.2.1 S.2.2.1 ∈ CW)
    (h1 : ∀ w ∈ CW, w ∈ lw_tbl) (h2 : ∀ w ∈ MSc.map (fun S => Cond.initialized S.1.cls), w ∈ lw_tbl) (h3 : ∀ w ∈ (MSc.filter (fun S => S.2.2.2.1)).map (fun S => Cond.static S.1), w ∈ lw_tbl) (h4 : ∀ w ∈ (MSc.filter (fun S => !S.2.2.2.1)).map (fun S => Cond.instanceMethod S.1), w ∈ lw_tbl) (h5 : ∀ w ∈ (MSc.filter (fun S => !S.2.2.2.1)).map (fun S => Cond.selects S.1.cls S.1 S.1), w ∈ lw_tbl) :
    ∀ (k : Nat) (M : MI), MTc[k]? = some M → ∃ S, MSc[k]? = some S ∧ MOK (base + k) M S := by
  intro k M hM
  have hk : k < MSc.length := by rw [← hl]; exact (List.getElem?_eq_some_iff.mp hM).1
  have hS : MSc[k]? = some MSc[k] := List.getElem?_eq_getElem hk
  have hm := List.mem_of_getElem? hS
  refine ⟨_, hS, mok_of (hc k _ _ hM hS) (hT k _ _ hM hS) (h1 _ (hcw k _ _ hM hS)) (h2 _ (List.mem_map.mpr ⟨_, hm, rfl⟩)) (fun hs => h3 _ (List.mem_map.mpr ⟨_, List.mem_filter.mpr ⟨hm, hs⟩, rfl⟩)) (fun hs => ⟨h4 _ (List.mem_map.mpr ⟨_, List.mem_filter.mpr ⟨hm, by rw [hs]; rfl⟩, rfl⟩), h5 _ (List.mem_map.mpr ⟨_, List.mem_filter.mpr ⟨hm, by rw [hs]; rfl⟩, rfl⟩)⟩)⟩
theorem all3 {MTc : List MI} {MSc : List MSr} {base : Nat} (h : (List.range MTc.length).all (fun k => match MTc[k]?, MSc[k]? with
  | some M, some S => chkS (base + k) M S
  | _, _ => false) = true) : ∀ (k : Nat) (M : MI) (S : MSr), MTc[k]? = some M → MSc[k]? = some S → chkS (base + k) M S = true := by
  intro k M S hM hS
  have := List.all_eq_true.mp h k (List.mem_range.mpr (List.getElem?_eq_some_iff.mp hM).1)
  simpa [hM, hS] using this
theorem nilT : ∀ (k : Nat) (M : MI) (S : MSr), ([] : List MI)[k]? = some M → ([] : List MSr)[k]? = some S → Tab S.2.2.2.2.1 S.2.1 M.2.2.2 S.2.2.2.2.2 := by
  intro k M S h
  simp at h
theorem consT {M0 : MI} {S0 : MSr} {Ms : List MI} {Ss : List MSr} (h0 : Tab S0.2.2.2.2.1 S0.2.1 M0.2.2.2 S0.2.2.2.2.2) (h : ∀ (k : Nat) (M : MI) (S : MSr), Ms[k]? = some M → Ss[k]? = some S → Tab S.2.2.2.2.1 S.2.1 M.2.2.2 S.2.2.2.2.2) : ∀ (k : Nat) (M : MI) (S : MSr), (M0 :: Ms)[k]? = some M → (S0 :: Ss)[k]? = some S → Tab S.2.2.2.2.1 S.2.1 M.2.2.2 S.2.2.2.2.2 := by
  intro k M S hM hS
  cases k with
  | zero =>
    simp only [List.getElem?_cons_zero, Option.some.injEq] at hM hS
    subst hM; subst hS
    exact h0
  | succ k =>
    simp only [List.getElem?_cons_succ] at hM hS
    exact h k M S hM hS
theorem nilC : ∀ (k : Nat) (M : MI) (S : MSr), ([] : List MI)[k]? = some M → ([] : List MSr)[k]? = some S → Cond.code S.1 S.2.1 M.2.2.1 S.2.2.1 ∈ ([] : List Cond) := by
  intro k M S h
  simp at h
theorem consC {M0 : MI} {S0 : MSr} {Ms : List MI} {Ss : List MSr} {c0 : Cond} {Cs : List Cond} (h0 : c0 = Cond.code S0.1 S0.2.1 M0.2.2.1 S0.2.2.1) (h : ∀ (k : Nat) (M : MI) (S : MSr), Ms[k]? = some M → Ss[k]? = some S → Cond.code S.1 S.2.1 M.2.2.1 S.2.2.1 ∈ Cs) : ∀ (k : Nat) (M : MI) (S : MSr), (M0 :: Ms)[k]? = some M → (S0 :: Ss)[k]? = some S → Cond.code S.1 S.2.1 M.2.2.1 S.2.2.1 ∈ c0 :: Cs := by
  intro k M S hM hS
  cases k with
  | zero =>
    simp only [List.getElem?_cons_zero, Option.some.injEq] at hM hS
    subst hM; subst hS
    rw [h0]
    exact List.mem_cons_self
  | succ k =>
    simp only [List.getElem?_cons_succ] at hM hS
    exact List.mem_cons_of_mem _ (h k M S hM hS)
theorem app_tabs {M1 M2 : List MI} {S1 S2 : List MSr} {base : Nat} (hl : M1.length = S1.length) (h1 : ∀ (k : Nat) (M : MI), M1[k]? = some M → ∃ S, S1[k]? = some S ∧ MOK (base + k) M S) (h2 : ∀ (k : Nat) (M : MI), M2[k]? = some M → ∃ S, S2[k]? = some S ∧ MOK (base + M1.length + k) M S) : ∀ (k : Nat) (M : MI), (M1 ++ M2)[k]? = some M → ∃ S, (S1 ++ S2)[k]? = some S ∧ MOK (base + k) M S := by
  intro k M hM
  by_cases hk : k < M1.length
  · rw [List.getElem?_append_left hk] at hM
    rw [List.getElem?_append_left (by omega)]
    exact h1 k M hM
  · rw [List.getElem?_append_right (by omega)] at hM
    rw [List.getElem?_append_right (by omega), ← hl]
    obtain ⟨S, a, b⟩ := h2 _ M hM
    exact ⟨S, a, by rw [show base + k = base + M1.length + (k - M1.length) by omega]; exact b⟩
set_option maxRecDepth 100000 in
theorem mok0 : ∀ (k : Nat) (M : MI), MT0[k]? = some M → ∃ S, MS0[k]? = some S ∧ MOK (0 + k) M S := mok_list 0 rfl (all3 (by decide +kernel)) (consT tab_Fa_copyFrom (consT tab_Fa_markStep (consT tab_Fa_takeBack (consT tab_Ha_isTurn (consT tab_Ha_eastOf (consT tab_Ha_southOf (consT tab_Ha_keep (consT tab_Ha_mirrored (consT tab_Ha_mirroredHedge (consT tab_Ha_quarterRight (consT tab_Ha_quarterHedge (consT tab_Ha_pattern (consT tab_Ha_unlikeness (consT tab_Ha_likestTurn (consT tab_Ha_turnInto (consT tab_Ha_hasElderTwin (consT tab_Ha_selfTurns (consT tab_Ha_partingHedge (consT tab_Ha_likePatterns (consT tab_Ju_frostsOf (consT tab_Ju_goesOf (consT tab_Ju_nameCommon (consT tab_Ju_valueOf (consT tab_Ju_pop (consT tab_Ju_push (consT tab_Ju_ofTwo (consT tab_Ju_bounded (consT tab_Ju_compares (consT tab_La_copyFrom (consT tab_La_takeBackTo (consT tab_La_tellCow (consT tab_La_isCow (consT tab_La_isHome (consT tab_La_hasHedge (consT tab_La_addHedge (consT tab_La_removeHedge (consT tab_La_isOpen (consT tab_La_openWays (consT tab_La_around (consT tab_La_canGo (consT tab_La_comesHome (consT tab_La_wander (consT tab_La_wayByHedge (consT tab_La_draw (consT tab_La_write (consT tab_La_lineHour (consT tab_La_lineKind nilT))))))))))))))))))))))))))))))))))))))))))))))) (consC rfl (consC rfl (consC rfl (consC rfl (consC rfl (consC rfl (consC rfl (consC rfl (consC rfl (consC rfl (consC rfl (consC rfl (consC rfl (consC rfl (consC rfl (consC rfl (consC rfl (consC rfl (consC rfl (consC rfl (consC rfl (consC rfl (consC rfl (consC rfl (consC rfl (consC rfl (consC rfl (consC rfl (consC rfl (consC rfl (consC rfl (consC rfl (consC rfl (consC rfl (consC rfl (consC rfl (consC rfl (consC rfl (consC rfl (consC rfl (consC rfl (consC rfl (consC rfl (consC rfl (consC rfl (consC rfl (consC rfl nilC))))))))))))))))))))))))))))))))))))))))))))))) CW0_in IW0_in SW0_in NI0_in NS0_in
set_option maxRecDepth 100000 in
theorem mok1 : ∀ (k : Nat) (M : MI), MT1[k]? = some M → ∃ S, MS1[k]? = some S ∧ MOK (47 + k) M S := mok_list 47 rfl (all3 (by decide +kernel)) (consT tab_La_lineWhich (consT tab_La_stepsHome (consT tab_La_ringOf (consT tab_Mz_layOut (consT tab_Mz_grown (consT tab_Mz_grownOver (consT tab_Mz_within (consT tab_Mz_flooded (consT tab_Mz_regionOf (consT tab_Mz_milesTo (consT tab_Mz_wayNearer (consT tab_Mz_cutsTo (consT tab_Mz_farthestFrom (consT tab_Mz_lowest (consT tab_Mz_regionCount (consT tab_Mz_greatestRegion (consT tab_Mz_isNeck (consT tab_Mz_pathsTo (consT tab_Mz_pathsOn (consT tab_Mz_fewestGates (consT tab_Mz_lowestCover (consT tab_Pl_isCell (consT tab_Pl_isWay (consT tab_Pl_isHedge (consT tab_Pl_cellBeyond (consT tab_Pl_hedgeBy (consT tab_Pl_firstCell (consT tab_Pl_secondCell (consT tab_Pl_apart (consT tab_Rd_hasRoomFor (consT tab_Rd_addFour (consT tab_Rd_reads (consT tab_Rd_refuse (consT tab_Rd_take (consT tab_Rd_clause (consT tab_Rd_deed (consT tab_Rd_oneNumber (consT tab_Rd_secondNumber (consT tab_Rd_isNumber (consT tab_Rd_sum (consT tab_Rd_product (consT tab_Rd_one (consT tab_Rd_emitAndAdvance (consT tab_Rd_isNameHere (consT tab_Rd_nested (consT tab_Rd_inside (consT tab_Rd_choice nilT))))))))))))))))))))))))))))))))))))))))))))))) (consC rfl (consC rfl (consC rfl (consC rfl (consC rfl (consC rfl (consC rfl (consC rfl (consC rfl (consC rfl (consC rfl (consC rfl (consC rfl (consC rfl (consC rfl (consC rfl (consC rfl (consC rfl (consC rfl (consC rfl (consC rfl (consC rfl (consC rfl (consC rfl (consC rfl (consC rfl (consC rfl (consC rfl (consC rfl (consC rfl (consC rfl (consC rfl (consC rfl (consC rfl (consC rfl (consC rfl (consC rfl (consC rfl (consC rfl (consC rfl (consC rfl (consC rfl (consC rfl (consC rfl (consC rfl (consC rfl (consC rfl nilC))))))))))))))))))))))))))))))))))))))))))))))) CW1_in IW1_in SW1_in NI1_in NS1_in
set_option maxRecDepth 100000 in
theorem mok2 : ∀ (k : Nat) (M : MI), MT2[k]? = some M → ∃ S, MS2[k]? = some S ∧ MOK (94 + k) M S := mok_list 94 rfl (all3 (by decide +kernel)) (consT tab_Rd_either (consT tab_Rd_both (consT tab_Rd_ask (consT tab_Rd_advance (consT tab_Rd_isBlank (consT tab_Rd_isLetter (consT tab_Rd_isDigit (consT tab_Rd_wordRead (consT tab_Rd_digitsRead (consT tab_Rd_signRead (consT tab_Tx_clear (consT tab_Tx_copyFrom (consT tab_Tx_addClause (consT tab_Tx_has (consT tab_Tx_beginLaw (consT tab_Tx_endLaw (consT tab_Tx_emit (consT tab_Tx_landHere (consT tab_Th_hand (consT tab_Th_cow (consT tab_Th_gate (consT tab_Th_feed (consT tab_Th_end (consT tab_Th_text (consT tab_Th_fault (consT tab_Th_by (consT tab_Th_plant (consT tab_Th_cut (consT tab_Th_press (consT tab_Th_go (consT tab_Th_hour (consT tab_Th_played (consT tab_Th_years (consT tab_Th_undo (consT tab_Th_of (consT tab_Th_cell (consT tab_Th_hedge (consT tab_Th_between (consT tab_Th_is (consT tab_Th_book (consT tab_Th_foretold (consT tab_Th_miles (consT tab_Th_way (consT tab_Th_cuts (consT tab_Th_farthest (consT tab_Th_wide (consT tab_Th_regions nilT))))))))))))))))))))))))))))))))))))))))))))))) (consC rfl (consC rfl (consC rfl (consC rfl (consC rfl (consC rfl (consC rfl (consC rfl (consC rfl (consC rfl (consC rfl (consC rfl (consC rfl (consC rfl (consC rfl (consC rfl (consC rfl (consC rfl (consC rfl (consC rfl (consC rfl (consC rfl (consC rfl (consC rfl (consC rfl (consC rfl (consC rfl (consC rfl (consC rfl (consC rfl (consC rfl (consC rfl (consC rfl (consC rfl (consC rfl (consC rfl (consC rfl (consC rfl (consC rfl (consC rfl (consC rfl (consC rfl (consC rfl (consC rfl (consC rfl (consC rfl (consC rfl nilC))))))))))))))))))))))))))))))))))))))))))))))) CW2_in IW2_in SW2_in NI2_in NS2_in
set_option maxRecDepth 100000 in
theorem mok3 : ∀ (k : Nat) (M : MI), MT3[k]? = some M → ∃ S, MS3[k]? = some S ∧ MOK (141 + k) M S := mok_list 141 rfl (all3 (by decide +kernel)) (consT tab_Th_rings (consT tab_Th_ends (consT tab_Th_necks (consT tab_Th_paths (consT tab_Th_walk (consT tab_Th_home (consT tab_Th_gates (consT tab_Th_turned (consT tab_Th_unlike (consT tab_Th_owner (consT tab_Th_twins (consT tab_Th_kinds (consT tab_Th_selves (consT tab_Th_look (consT tab_Th_said (consT tab_Th_whose (consT tab_Th_thickest (consT tab_Th_ledger (consT tab_Th_image (consT tab_Th_back (consT tab_Th_about (consT tab_Th_isHand (consT tab_Th_isText (consT tab_Th_ruling (consT tab_Th_mazeNow (consT tab_Th_passHours (consT tab_Th_passHour (consT tab_Th_does (consT tab_Th_befall (consT tab_Th_saysAll (consT tab_Mo_copy (consT tab_Mo_isIn (consT tab_Mo_held (consT tab_Mo_size (consT tab_Mo_has (consT tab_Mo_bits (consT tab_Mo_isCell (consT tab_Mo_isHedge (consT tab_Mo_isRim (consT tab_Mo_isHand (consT tab_Mo_isCow (consT tab_Mo_beside (consT tab_Mo_hedgeOf (consT tab_Mo_westOf (consT tab_Mo_eastOf (consT tab_Mo_cellTurned (consT tab_Mo_layTurns nilT))))))))))))))))))))))))))))))))))))))))))))))) (consC rfl (consC rfl (consC rfl (consC rfl (consC rfl (consC rfl (consC rfl (consC rfl (consC rfl (consC rfl (consC rfl (consC rfl (consC rfl (consC rfl (consC rfl (consC rfl (consC rfl (consC rfl (consC rfl (consC rfl (consC rfl (consC rfl (consC rfl (consC rfl (consC rfl (consC rfl (consC rfl (consC rfl (consC rfl (consC rfl (consC rfl (consC rfl (consC rfl (consC rfl (consC rfl (consC rfl (consC rfl (consC rfl (consC rfl (consC rfl (consC rfl (consC rfl (consC rfl (consC rfl (consC rfl (consC rfl (consC rfl nilC))))))))))))))))))))))))))))))))))))))))))))))) CW3_in IW3_in SW3_in NI3_in NS3_in
set_option maxRecDepth 100000 in
theorem mok4 : ∀ (k : Nat) (M : MI), MT4[k]? = some M → ∃ S, MS4[k]? = some S ∧ MOK (188 + k) M S := mok_list 188 rfl (all3 (by decide +kernel)) (consT tab_Mo_isThere (consT tab_Mo_change (consT tab_Mo_isOpen (consT tab_Mo_openOf (consT tab_Mo_aroundOf (consT tab_Mo_allNow (consT tab_Mo_cellOf (consT tab_Mo_wayOf (consT tab_Mo_put (consT tab_Mo_hand (consT tab_Mo_cow (consT tab_Mo_gate (consT tab_Mo_four (consT tab_Mo_feed (consT tab_Mo_end (consT tab_Mo_byteAt (consT tab_Mo_isLetterByte (consT tab_Mo_isFigure (consT tab_Mo_isSign (consT tab_Mo_nextToken (consT tab_Mo_w2 (consT tab_Mo_w3 (consT tab_Mo_w4 (consT tab_Mo_w5 (consT tab_Mo_w6 (consT tab_Mo_isWord (consT tab_Mo_emit (consT tab_Mo_nameOf (consT tab_Mo_isOf (consT tab_Mo_rank (consT tab_Mo_settle (consT tab_Mo_openAt (consT tab_Mo_openNow (consT tab_Mo_isCompared (consT tab_Mo_isAskAhead (consT tab_Mo_opened (consT tab_Mo_beginOne (consT tab_Mo_endOne (consT tab_Mo_compareOf (consT tab_Mo_betweenOf (consT tab_Mo_partOf (consT tab_Mo_behindOne (consT tab_Mo_summed (consT tab_Mo_figure (consT tab_Mo_lawClause (consT tab_Mo_pair (consT tab_Mo_body nilT))))))))))))))))))))))))))))))))))))))))))))))) (consC rfl (consC rfl (consC rfl (consC rfl (consC rfl (consC rfl (consC rfl (consC rfl (consC rfl (consC rfl (consC rfl (consC rfl (consC rfl (consC rfl (consC rfl (consC rfl (consC rfl (consC rfl (consC rfl (consC rfl (consC rfl (consC rfl (consC rfl (consC rfl (consC rfl (consC rfl (consC rfl (consC rfl (consC rfl (consC rfl (consC rfl (consC rfl (consC rfl (consC rfl (consC rfl (consC rfl (consC rfl (consC rfl (consC rfl (consC rfl (consC rfl (consC rfl (consC rfl (consC rfl (consC rfl (consC rfl (consC rfl nilC))))))))))))))))))))))))))))))))))))))))))))))) CW4_in IW4_in SW4_in NI4_in NS4_in
set_option maxRecDepth 100000 in
theorem mok5 : ∀ (k : Nat) (M : MI), MT5[k]? = some M → ∃ S, MS5[k]? = some S ∧ MOK (235 + k) M S := mok_list 235 rfl (all3 (by decide +kernel)) (consT tab_Mo_sortOf (consT tab_Mo_clause (consT tab_Mo_readText (consT tab_Mo_text (consT tab_Mo_fault (consT tab_Mo_by (consT tab_Mo_clip (consT tab_Mo_two (consT tab_Mo_isAsked (consT tab_Mo_hedgeThere (consT tab_Mo_apart (consT tab_Mo_farOf (consT tab_Mo_joined (consT tab_Mo_summedUp (consT tab_Mo_says (consT tab_Mo_name (consT tab_Mo_frostsOf (consT tab_Mo_goesOf (consT tab_Mo_write (consT tab_Mo_drawnBy (consT tab_Mo_anew (consT tab_Mo_isHome (consT tab_Mo_goNow (consT tab_Mo_onward (consT tab_Mo_goOn (consT tab_Mo_pass (consT tab_Mo_turnedBy (consT tab_Mo_ofHand (consT tab_Mo_pressNow (consT tab_Mo_keep (consT tab_Mo_undo (consT tab_Mo_plant (consT tab_Mo_cut (consT tab_Mo_press (consT tab_Mo_canGo (consT tab_Mo_go (consT tab_Mo_arePassed (consT tab_Mo_hour (consT tab_Mo_isPlayed (consT tab_Mo_played (consT tab_Mo_happens (consT tab_Mo_years (consT tab_Mo_of (consT tab_Mo_cell (consT tab_Mo_hedge (consT tab_Mo_between (consT tab_Mo_is nilT))))))))))))))))))))))))))))))))))))))))))))))) (consC rfl (consC rfl (consC rfl (consC rfl (consC rfl (consC rfl (consC rfl (consC rfl (consC rfl (consC rfl (consC rfl (consC rfl (consC rfl (consC rfl (consC rfl (consC rfl (consC rfl (consC rfl (consC rfl (consC rfl (consC rfl (consC rfl (consC rfl (consC rfl (consC rfl (consC rfl (consC rfl (consC rfl (consC rfl (consC rfl (consC rfl (consC rfl (consC rfl (consC rfl (consC rfl (consC rfl (consC rfl (consC rfl (consC rfl (consC rfl (consC rfl (consC rfl (consC rfl (consC rfl (consC rfl (consC rfl (consC rfl nilC))))))))))))))))))))))))))))))))))))))))))))))) CW5_in IW5_in SW5_in NI5_in NS5_in
set_option maxRecDepth 100000 in
theorem mok6 : ∀ (k : Nat) (M : MI), MT6[k]? = some M → ∃ S, MS6[k]? = some S ∧ MOK (282 + k) M S := mok_list 282 rfl (all3 (by decide +kernel)) (consT tab_Mo_entry (consT tab_Mo_book (consT tab_Mo_ledger (consT tab_Mo_thickest (consT tab_Mo_foretold (consT tab_Mo_layFar (consT tab_Mo_areCells (consT tab_Mo_miles (consT tab_Mo_way (consT tab_Mo_cuts (consT tab_Mo_farthestNow (consT tab_Mo_farthest (consT tab_Mo_wide (consT tab_Mo_regionOf (consT tab_Mo_regions (consT tab_Mo_rings (consT tab_Mo_ends (consT tab_Mo_isNeck (consT tab_Mo_necks (consT tab_Mo_paths (consT tab_Mo_walk (consT tab_Mo_home (consT tab_Mo_gates (consT tab_Mo_layReach (consT tab_Mo_lowestGates (consT tab_Mo_turned (consT tab_Mo_unlikeBy (consT tab_Mo_bestTurn (consT tab_Mo_unlike (consT tab_Mo_owner (consT tab_Mo_twinBy (consT tab_Mo_twins (consT tab_Mo_kinds (consT tab_Mo_selves (consT tab_Mo_look (consT tab_Mo_said (consT tab_Mo_whose (consT tab_Mo_image (consT tab_Mo_back (consT tab_Mo_about (consT tab_In_bitCount (consT tab_Lo_bitCount nilT)))))))))))))))))))))))))))))))))))))))))) (consC rfl (consC rfl (consC rfl (consC rfl (consC rfl (consC rfl (consC rfl (consC rfl (consC rfl (consC rfl (consC rfl (consC rfl (consC rfl (consC rfl (consC rfl (consC rfl (consC rfl (consC rfl (consC rfl (consC rfl (consC rfl (consC rfl (consC rfl (consC rfl (consC rfl (consC rfl (consC rfl (consC rfl (consC rfl (consC rfl (consC rfl (consC rfl (consC rfl (consC rfl (consC rfl (consC rfl (consC rfl (consC rfl (consC rfl (consC rfl (consC rfl (consC rfl nilC)))))))))))))))))))))))))))))))))))))))))) CW6_in IW6_in SW6_in NI6_in NS6_in
theorem tabs_ok : Tabs MT MS := by
  intro k M hM
  have := (app_tabs (base := 0) rfl mok0 (app_tabs (base := 47) rfl mok1 (app_tabs (base := 94) rfl mok2 (app_tabs (base := 141) rfl mok3 (app_tabs (base := 188) rfl mok4 (app_tabs (base := 235) rfl mok5 (mok6))))))) k M hM
  rw [Nat.zero_add] at this
  exact this
end
section
/-! RUNS OF THE NUMBER MACHINE AS RELATIONS -/
theorem ex_mono (MT : List MI) : ∀ (n d : Nat) (C : List Instr) (rt pc : Nat) (L st : List Vv) (m : Mm) (r : Option Vv × Mm), ex MT n d C rt pc L st m = some r → ∀ n' d', n ≤ n' → d ≤ d' → ex MT n' d' C rt pc L st m = some r := by
  intro n
  induction n with
  | zero => intro d C rt pc L st m r h; simp [ex] at h
  | succ n IH =>
    intro d C rt pc L st m r h n' d' hn hd
    obtain ⟨n'', rfl⟩ : ∃ n'', n' = n'' + 1 := ⟨n' - 1, by omega⟩
    have hn2 : n ≤ n'' := by omega
    cases hC : C[pc]? with
    | none => simp [ex, hC] at h
    | some i =>
      by_cases hcall : ∃ k, i = .invokestatic k
      · obtain ⟨k, rfl⟩ := hcall
        rw [ex_call hC] at h ⊢
        cases d with
        | zero => simp at h
        | succ d =>
          obtain ⟨d'', rfl⟩ : ∃ d'', d' = d'' + 1 := ⟨d' - 1, by omega⟩
          cases hMk : MT[k]? with
          | none => simp [hMk] at h
          | some M =>
            simp only [hMk] at h ⊢
            split at h
            · rename_i hc
              rw [if_pos hc]
              cases hrun : ex MT n d M.2.2.2 M.2.1 0 (ent (st.take M.1.length).reverse M.2.2.1) [] m with
              | none => simp [hrun] at h
              | some q =>
                obtain ⟨v1, m1⟩ := q
                simp only [hrun] at h
                rw [IH d _ _ _ _ _ _ _ hrun n'' d'' hn2 (by omega)]
                exact IH (d + 1) _ _ _ _ _ _ _ h n'' (d'' + 1) hn2 hd
            · cases h
      · rw [ex_other hC (fun k z => hcall ⟨k, z⟩)] at h ⊢
        cases hr : ret1 i rt st with
        | some v => simp only [hr] at h ⊢; exact h
        | none =>
          simp only [hr] at h ⊢
          cases hs : st1 i pc L st m with
          | none => simp [hs] at h
          | some q =>
            obtain ⟨pc1, L1, st1', m1⟩ := q
            simp only [hs] at h ⊢
            exact IH d _ _ _ _ _ _ _ h n'' d' hn2 hd
def Ev (d : Nat) (C : List Instr) (rt pc : Nat) (L st : List Vv) (m : Mm) (r : Option Vv × Mm) : Prop := ∃ n, ex MT n d C rt pc L st m = some r
def Cl (d k : Nat) (a : List Vv) (m : Mm) (r : Option Vv × Mm) : Prop := ∃ M : MI, MT[k]? = some M ∧ a.map (fun v => v.1) = M.1 ∧ Ev d M.2.2.2 M.2.1 0 (ent a M.2.2.1) [] m r
theorem Ev.up {d d' : Nat} {C : List Instr} {rt pc : Nat} {L st : List Vv} {m : Mm} {r : Option Vv × Mm} (h : Ev d C rt pc L st m r) (hd : d ≤ d') : Ev d' C rt pc L st m r := by
  obtain ⟨n, hn⟩ := h
  exact ⟨n, ex_mono MT n d C rt pc L st m r hn n d' (Nat.le_refl _) hd⟩
theorem Cl.up {d d' k : Nat} {a : List Vv} {m : Mm} {r : Option Vv × Mm} (h : Cl d k a m r) (hd : d ≤ d') : Cl d' k a m r := by
  obtain ⟨M, h1, h2, h3⟩ := h
  exact ⟨M, h1, h2, h3.up hd⟩
def at_ : List Instr → Nat → Option Instr
  | [], _ => none
  | x :: _, 0 => some x
  | _ :: r, n + 1 => at_ r n
theorem at_eq : ∀ (C : List Instr) (j : Nat), at_ C j = C[j]? := by
  intro C
  induction C with
  | nil => intro j; simp [at_]
  | cons x r ih =>
    intro j
    cases j with
    | zero => rfl
    | succ j => simp [at_, ih]
theorem st1_ret {i : Instr} {pc rt : Nat} {L st : List Vv} {m : Mm} {q : Cf} (h : st1 i pc L st m = some q) : ret1 i rt st = none ∧ ∀ k, i ≠ .invokestatic k := by
  cases i with
  | invokestatic k => simp [st1] at h
  | ireturn => simp [st1] at h
  | lreturn => simp [st1] at h
  | areturn => simp [st1] at h
  | return_ => simp [st1] at h
  | _ => exact ⟨rfl, fun k z => by cases z⟩
theorem Ev_step {d : Nat} {C : List Instr} {rt pc : Nat} {L st : List Vv} {m : Mm} {r : Option Vv × Mm} {i : Instr} {q : Cf} (h : at_ C pc = some i) (hs : st1 i pc L st m = some q) (k : Ev d C rt q.1 q.2.1 q.2.2.1 q.2.2.2 r) : Ev d C rt pc L st m r := by
  obtain ⟨n, hn⟩ := k
  obtain ⟨h1, h2⟩ := st1_ret (rt := rt) hs
  refine ⟨n + 1, ?_⟩
  rw [at_eq] at h
  rw [ex_other h h2, h1]
  simp only [hs]
  exact hn
def rn : Nat → List Instr → Nat → List Vv → List Vv → Mm → Option Cf
  | 0, _, pc, L, st, m => some (pc, L, st, m)
  | j + 1, C, pc, L, st, m => match at_ C pc with
    | none => none
    | some i => match st1 i pc L st m with
      | none => none
      | some q => rn j C q.1 q.2.1 q.2.2.1 q.2.2.2
theorem Ev_rn {d : Nat} {C : List Instr} {rt : Nat} {r : Option Vv × Mm} : ∀ (j : Nat) {pc : Nat} {L st : List Vv} {m : Mm} {q : Cf}, rn j C pc L st m = some q → Ev d C rt q.1 q.2.1 q.2.2.1 q.2.2.2 r → Ev d C rt pc L st m r := by
  intro j
  induction j with
  | zero =>
    intro pc L st m q h k
    cases h
    exact k
  | succ j ih =>
    intro pc L st m q h k
    unfold rn at h
    cases ha : at_ C pc with
    | none => simp [ha] at h
    | some i =>
      simp only [ha] at h
      cases hs : st1 i pc L st m with
      | none => simp [hs] at h
      | some q1 =>
        simp only [hs] at h
        exact Ev_step ha hs (ih h k)
theorem Ev_ret {d : Nat} {C : List Instr} {rt pc : Nat} {L st : List Vv} {m : Mm} {r : Option Vv × Mm} {i : Instr} {v : Option Vv} (h : at_ C pc = some i) (hr : ret1 i rt st = some v) (he : r = (v, m)) : Ev d C rt pc L st m r := by
  subst he
  refine ⟨1, ?_⟩
  rw [at_eq] at h
  have hi : ∀ k, i ≠ .invokestatic k := by
    intro k z
    subst z
    simp [ret1] at hr
  rw [ex_other h hi, hr]
def cmpP (c : Jvm.ClassFile.Cond) (a b : Int) : Prop := match c with
  | .eq => a = b
  | .ne => ¬ a = b
  | .lt => a < b
  | .ge => b ≤ a
  | .gt => b < a
  | .le => a ≤ b
theorem cmpP_B {c : Jvm.ClassFile.Cond} {a b : Int} : cmpB c a b = true ↔ cmpP c a b := by cases c <;> simp [cmpB, cmpP]
theorem Ev_icmp {d : Nat} {C : List Instr} {rt pc : Nat} {L st : List Vv} {m : Mm} {r : Option Vv × Mm} {cd : Jvm.ClassFile.Cond} {t a b : Int} (h : at_ C pc = some (.if_icmp cd t)) (kt : cmpP cd a b → Ev d C rt t.toNat L st m r) (kf : ¬ cmpP cd a b → Ev d C rt (pc + 1) L st m r) : Ev d C rt pc L ((0, b) :: (0, a) :: st) m r := by
  refine Ev_step h rfl ?_
  show Ev d C rt (if cmpB cd a b = true then t.toNat else pc + 1) L st m r
  by_cases hc : cmpB cd a b = true
  · rw [if_pos hc]; exact kt (cmpP_B.mp hc)
  · rw [if_neg hc]; exact kf (fun z => hc (cmpP_B.mpr z))
theorem Ev_if {d : Nat} {C : List Instr} {rt pc : Nat} {L st : List Vv} {m : Mm} {r : Option Vv × Mm} {cd : Jvm.ClassFile.Cond} {t a : Int} (h : at_ C pc = some (.ifCond cd t)) (kt : cmpP cd a 0 → Ev d C rt t.toNat L st m r) (kf : ¬ cmpP cd a 0 → Ev d C rt (pc + 1) L st m r) : Ev d C rt pc L ((0, a) :: st) m r := by
  refine Ev_step h rfl ?_
  show Ev d C rt (if cmpB cd a 0 = true then t.toNat else pc + 1) L st m r
  by_cases hc : cmpB cd a 0 = true
  · rw [if_pos hc]; exact kt (cmpP_B.mp hc)
  · rw [if_neg hc]; exact kf (fun z => hc (cmpP_B.mpr z))
def tswP (X : Int → Prop) (d : Int) : Int → List Int → Int → Prop
  | _, [], _ => X d
  | lo, t :: r, x => (x = lo → X t) ∧ (¬ x = lo → tswP X d (lo + 1) r x)
theorem tswP_ok {X : Int → Prop} {d : Int} : ∀ {ts : List Int} {lo x : Int}, tswP X d lo ts x → X (tsw d lo ts x) := by
  intro ts
  induction ts with
  | nil => intro lo x h; exact h
  | cons t r ih =>
    intro lo x h
    unfold tsw
    split
    · rename_i hx; exact h.1 hx
    · rename_i hx; exact ih (h.2 hx)
def lswP (X : Int → Prop) (d : Int) : List (Int × Int) → Int → Prop
  | [], _ => X d
  | q :: r, x => (x = q.1 → X q.2) ∧ (¬ x = q.1 → lswP X d r x)
theorem lswP_ok {X : Int → Prop} {d : Int} : ∀ {ts : List (Int × Int)} {x : Int}, lswP X d ts x → X (lsw d ts x) := by
  intro ts
  induction ts with
  | nil => intro x h; exact h
  | cons t r ih =>
    intro x h
    unfold lsw
    split
    · rename_i hx; exact h.1 hx
    · rename_i hx; exact ih (h.2 hx)
theorem Ev_tsw {d : Nat} {C : List Instr} {rt pc : Nat} {L st : List Vv} {m : Mm} {r : Option Vv × Mm} {df lo hi x : Int} {ts : Array Int} (h : at_ C pc = some (.tableswitch df lo hi ts)) (k : tswP (fun t => Ev d C rt t.toNat L st m r) df lo ts.toList x) : Ev d C rt pc L ((0, x) :: st) m r := Ev_step h rfl (tswP_ok k)
theorem Ev_lsw {d : Nat} {C : List Instr} {rt pc : Nat} {L st : List Vv} {m : Mm} {r : Option Vv × Mm} {df x : Int} {ts : Array (Int × Int)} (h : at_ C pc = some (.lookupswitch df ts)) (k : lswP (fun t => Ev d C rt t.toNat L st m r) df ts.toList x) : Ev d C rt pc L ((0, x) :: st) m r := Ev_step h rfl (lswP_ok k)
theorem Ev_call {d : Nat} {C : List Instr} {rt pc k : Nat} {L st rest a : List Vv} {m m1 : Mm} {v : Option Vv} {r : Option Vv × Mm} (h : at_ C pc = some (.invokestatic k)) (hs : st = a.reverse ++ rest) (hc : catS rest ≤ 8) (hcl : Cl d k a m (v, m1)) (kk : Ev (d + 1) C rt (pc + 1) L (v.toList ++ rest) m1 r) : Ev (d + 1) C rt pc L st m r := by
  obtain ⟨M, h1, h2, n1, h3⟩ := hcl
  obtain ⟨n2, h4⟩ := kk
  refine ⟨max n1 n2 + 1, ?_⟩
  rw [at_eq] at h
  have hl : M.1.length = a.length := by rw [← h2, List.length_map]
  have e1 : (st.take M.1.length).reverse = a := by
    rw [hs, hl, ← List.length_reverse (as := a), List.take_left, List.reverse_reverse]
  have e2 : st.drop M.1.length = rest := by
    rw [hs, hl, ← List.length_reverse (as := a), List.drop_left]
  rw [ex_call h]
  simp only [h1, e1, e2]
  rw [if_pos ⟨h2, hc⟩, ex_mono MT n1 d _ _ _ _ _ _ _ h3 (max n1 n2) d (by omega) (Nat.le_refl _)]
  exact ex_mono MT n2 (d + 1) _ _ _ _ _ _ _ h4 (max n1 n2) (d + 1) (by omega) (Nat.le_refl _)
/-! rows with a test -/
section TESTED
variable {d : Nat} {C : List Instr} {rt pc : Nat} {L r0 : List Vv} {m : Mm} {r : Option Vv × Mm}
theorem Ev_iald {t : Nat} {o i n : Int} (h : at_ C pc = some .iaload) (ht : aty t = 0 ∧ t ≠ 50 ∧ t ≠ 51) (hn : aln t = n) (hi : 0 ≤ i ∧ i < n) (k : Ev d C rt (pc + 1) L ((0, m o i) :: r0) m r) : Ev d C rt pc L ((0, i) :: (t, o) :: r0) m r := by
  subst hn
  exact Ev_step (q := (pc + 1, L, (0, m o i) :: r0, m)) h (by simp only [st1, sld, if_neg ht.2.1, if_neg ht.2.2, ald, if_pos ht.1, if_pos hi]) k
theorem Ev_scr {o i : Int} (h : at_ C pc = some .iaload) (hi : 0 ≤ i ∧ i < m 500 (-1)) (k : Ev d C rt (pc + 1) L ((0, m 500 i) :: r0) m r) : Ev d C rt pc L ((0, i) :: (50, o) :: r0) m r :=
  Ev_step (q := (pc + 1, L, (0, m 500 i) :: r0, m)) h (by simp only [st1, sld, if_true, if_pos hi]) k
theorem Ev_tri {o i : Int} (h : at_ C pc = some .iaload) (hi : 0 ≤ i ∧ i < 4) (k : Ev d C rt (pc + 1) L ((0, m 501 i) :: r0) m r) : Ev d C rt pc L ((0, i) :: (51, o) :: r0) m r :=
  Ev_step (q := (pc + 1, L, (0, m 501 i) :: r0, m)) h (by simp [st1, sld, hi]) k
theorem Ev_lald {t : Nat} {o i n : Int} (h : at_ C pc = some .laload) (ht : aty t = 1) (hn : aln t = n) (hi : 0 ≤ i ∧ i < n) (k : Ev d C rt (pc + 1) L ((1, m o i) :: r0) m r) : Ev d C rt pc L ((0, i) :: (t, o) :: r0) m r := by
  subst hn
  exact Ev_step (q := (pc + 1, L, (1, m o i) :: r0, m)) h (by simp only [st1, ald, if_pos ht, if_pos hi]) k
theorem Ev_bald {t : Nat} {o i n : Int} (h : at_ C pc = some .baload) (ht : aty t = 2) (hn : aln t = n) (hi : 0 ≤ i ∧ i < n) (k : Ev d C rt (pc + 1) L ((0, m o i) :: r0) m r) : Ev d C rt pc L ((0, i) :: (t, o) :: r0) m r := by
  subst hn
  exact Ev_step (q := (pc + 1, L, (0, m o i) :: r0, m)) h (by simp only [st1, ald, if_pos ht, if_pos hi]) k
theorem Ev_aald3 {t : Nat} {o i n : Int} (h : at_ C pc = some .aaload) (ht : aty t = 3) (hn : aln t = n) (hi : 0 ≤ i ∧ i < n) (k : Ev d C rt (pc + 1) L ((13, o + 1 + 4 * i) :: r0) m r) : Ev d C rt pc L ((0, i) :: (t, o) :: r0) m r := by
  subst hn
  exact Ev_step (q := (pc + 1, L, (13, o + 1 + 4 * i) :: r0, m)) h (by simp only [st1, rld, if_pos ht, if_pos hi]; rfl) k
theorem Ev_aald4 {t : Nat} {o i n : Int} (h : at_ C pc = some .aaload) (ht : aty t = 4) (hn : aln t = n) (hi : 0 ≤ i ∧ i < n) (k : Ev d C rt (pc + 1) L ((16, o + 13 + 8 * i) :: r0) m r) : Ev d C rt pc L ((0, i) :: (t, o) :: r0) m r := by
  subst hn
  have h3 : ¬ aty t = 3 := by omega
  exact Ev_step (q := (pc + 1, L, (16, o + 13 + 8 * i) :: r0, m)) h (by simp only [st1, rld, if_neg h3, if_pos ht, if_pos hi]; rfl) k
theorem Ev_iast {t : Nat} {o i v n : Int} (h : at_ C pc = some .iastore) (ht : aty t = 0) (hn : aln t = n) (hi : 0 ≤ i ∧ i < n) (k : Ev d C rt (pc + 1) L r0 (up m o i v) r) : Ev d C rt pc L ((0, v) :: (0, i) :: (t, o) :: r0) m r := by
  subst hn
  exact Ev_step (q := (pc + 1, L, r0, up m o i v)) h (by simp only [st1, ast, if_true, if_pos ht, if_pos hi]) k
theorem Ev_last {t : Nat} {o i v n : Int} (h : at_ C pc = some .lastore) (ht : aty t = 1) (hn : aln t = n) (hi : 0 ≤ i ∧ i < n) (k : Ev d C rt (pc + 1) L r0 (up m o i v) r) : Ev d C rt pc L ((1, v) :: (0, i) :: (t, o) :: r0) m r := by
  subst hn
  exact Ev_step (q := (pc + 1, L, r0, up m o i v)) h (by simp only [st1, ast, if_true, if_pos ht, if_pos hi]) k
theorem Ev_bast {t : Nat} {o i v n : Int} (h : at_ C pc = some .bastore) (ht : aty t = 2) (hn : aln t = n) (hv : v = 0 ∨ v = 1) (hi : 0 ≤ i ∧ i < n) (k : Ev d C rt (pc + 1) L r0 (up m o i v) r) : Ev d C rt pc L ((0, v) :: (0, i) :: (t, o) :: r0) m r := by
  subst hn
  exact Ev_step (q := (pc + 1, L, r0, up m o i v)) h (by simp only [st1, bst, if_pos ht, if_pos (And.intro hv hi)]) k
theorem Ev_ptz {c k : Nat} {o v : Int} (h : at_ C pc = some (.invokeinterface c k)) (hf : k < CN c ∧ FT c k = 2) (hv : v = 0 ∨ v = 1) (kk : Ev d C rt (pc + 1) L r0 (up m o k v) r) : Ev d C rt pc L ((0, v) :: (c + 10, o) :: r0) m r := by
  have h0 : ¬ (FT c k = 0 ∧ (0 : Nat) = 0) := by omega
  have h1 : ¬ (FT c k = 1 ∧ (0 : Nat) = 1) := by omega
  exact Ev_step (q := (pc + 1, L, r0, up m o k v)) h (by simp [st1, ptf, hf.1, hf.2, hv]) kk
theorem Ev_idiv {a b : Int} (h : at_ C pc = some .idiv) (hb : b ≠ 0) (k : Ev d C rt (pc + 1) L ((0, idv a b) :: r0) m r) : Ev d C rt pc L ((0, b) :: (0, a) :: r0) m r :=
  Ev_step (q := (pc + 1, L, (0, idv a b) :: r0, m)) h (by simp only [st1, bd2, if_neg hb]) k
theorem Ev_irem {a b : Int} (h : at_ C pc = some .irem) (hb : b ≠ 0) (k : Ev d C rt (pc + 1) L ((0, irm a b) :: r0) m r) : Ev d C rt pc L ((0, b) :: (0, a) :: r0) m r :=
  Ev_step (q := (pc + 1, L, (0, irm a b) :: r0, m)) h (by simp only [st1, bd2, if_neg hb]) k
theorem Ev_ldiv {a b : Int} (h : at_ C pc = some .ldiv) (hb : b ≠ 0) (k : Ev d C rt (pc + 1) L ((1, ldv a b) :: r0) m r) : Ev d C rt pc L ((1, b) :: (1, a) :: r0) m r :=
  Ev_step (q := (pc + 1, L, (1, ldv a b) :: r0, m)) h (by simp only [st1, bq2, if_neg hb]) k
theorem Ev_lrem {a b : Int} (h : at_ C pc = some .lrem) (hb : b ≠ 0) (k : Ev d C rt (pc + 1) L ((1, lrm a b) :: r0) m r) : Ev d C rt pc L ((1, b) :: (1, a) :: r0) m r :=
  Ev_step (q := (pc + 1, L, (1, lrm a b) :: r0, m)) h (by simp only [st1, bq2, if_neg hb]) k
theorem Ev_acp {ts td : Nat} {s sp dd dp n ls ld : Int} (h : at_ C pc = some (.invokedynamic 0)) (ht : aty ts = 0 ∧ aty td = 0) (hl : aln ts = ls ∧ aln td = ld) (hi : 0 ≤ n ∧ 0 ≤ sp ∧ 0 ≤ dp ∧ sp + n ≤ ls ∧ dp + n ≤ ld) (k : Ev d C rt (pc + 1) L [] (cpy m s sp dd dp n) r) : Ev d C rt pc L [(0, n), (0, dp), (td, dd), (0, sp), (ts, s)] m r := by
  obtain ⟨rfl, rfl⟩ := hl
  exact Ev_step (q := (pc + 1, L, [], cpy m s sp dd dp n)) h (by simp only [st1, if_true, acp, if_pos ht, if_pos hi]) k
theorem Ev_char {i y : Int} (h : at_ C pc = some (.invokedynamic 2)) (hi : 0 ≤ i ∧ i < 125) (k : Ev d C rt (pc + 1) L [(0, wchar i)] m r) : Ev d C rt pc L [(0, i), (52, y)] m r :=
  Ev_step (q := (pc + 1, L, [(0, wchar i)], m)) h (by simp [st1, hi]) k
theorem Ev_idx {x y : Int} (h : at_ C pc = some (.invokedynamic 3)) (hi : 0 ≤ x ∧ x < 65536) (k : Ev d C rt (pc + 1) L [(0, idxOf SIGNSL x 0)] m r) : Ev d C rt pc L [(0, x), (53, y)] m r :=
  Ev_step (q := (pc + 1, L, [(0, idxOf SIGNSL x 0)], m)) h (by simp [st1, hi]) k
theorem Ev_zret {v : Int} (h : at_ C pc = some .ireturn) (hr : rt = 2) (hv : v = 0 ∨ v = 1) (he : r = (some (0, v), m)) : Ev d C rt pc L [(0, v)] m r := by
  subst hr
  exact Ev_ret h (by simp [ret1, hv]) he
end TESTED
end
section
/-! PURE BASE: numbers -/
theorem w32n {x : Int} (h1 : -2147483648 ≤ x) (h2 : x ≤ 2147483647) : w32 x = x := w32_of ⟨h1, h2⟩
theorem w64n {x : Int} (h1 : -9223372036854775808 ≤ x) (h2 : x ≤ 9223372036854775807) : w64 x = x := w64_of ⟨h1, h2⟩
theorem idv_n {a b : Int} (ha : 0 ≤ a) (ha2 : a ≤ 2147483647) (hb : 0 < b) (hb2 : b ≤ 2147483647) : idv a b = a / b := by
  have e1 : (Int32.ofInt a).toInt = a := i32_of ⟨by omega, ha2⟩
  have e2 : (Int32.ofInt b).toInt = b := i32_of ⟨by omega, hb2⟩
  unfold idv
  rw [Int32.toInt_div, e1, e2, Int.tdiv_eq_ediv_of_nonneg ha]
  have h0 : 0 ≤ a / b := Int.ediv_nonneg ha (by omega)
  have h1 : a / b ≤ a := Int.ediv_le_self _ ha
  rw [Int.bmod_eq_of_le] <;> omega
theorem irm_n {a b : Int} (ha : 0 ≤ a) (ha2 : a ≤ 2147483647) (hb : 0 < b) (hb2 : b ≤ 2147483647) : irm a b = a % b := by
  have e1 : (Int32.ofInt a).toInt = a := i32_of ⟨by omega, ha2⟩
  have e2 : (Int32.ofInt b).toInt = b := i32_of ⟨by omega, hb2⟩
  have e3 : (Int32.ofInt a / Int32.ofInt b).toInt = a / b := idv_n ha ha2 hb hb2
  have h0 : 0 ≤ a / b := Int.ediv_nonneg ha (by omega)
  have h3 : a / b * b ≤ a := Int.ediv_mul_le _ (by omega)
  have h4 : 0 ≤ a / b * b := Int.mul_nonneg h0 (by omega)
  unfold irm
  rw [Int32.toInt_sub, Int32.toInt_mul, e1, e3, e2]
  rw [Int.bmod_eq_of_le (n := a / b * b) (by omega) (by omega)]
  have h5 : a - a / b * b = a % b := by rw [Int.emod_def, Int.mul_comm]
  rw [h5]
  have h6 := Int.emod_nonneg a (b := b) (by omega)
  have h7 := Int.emod_lt_of_pos a hb
  rw [Int.bmod_eq_of_le] <;> omega
/-! bits: numbers that are not negative, as Nat -/
theorem tb32 {n : Nat} (h : n < 2147483648) : (Int32.ofInt (n : Int)).toBitVec = BitVec.ofNat 32 n := rfl
theorem ti32 {n : Nat} {x : Int32} (h : x.toBitVec = BitVec.ofNat 32 n) (hn : n < 2147483648) : x.toInt = n := by
  have : x = Int32.ofInt (n : Int) := Int32.toBitVec_inj.mp h
  rw [this]
  exact i32_of ⟨by omega, by omega⟩
theorem ti64 {n : Nat} {x : Int64} (h : x.toBitVec = BitVec.ofNat 64 n) (hn : n < 9223372036854775808) : x.toInt = n := by
  have : x = Int64.ofInt (n : Int) := Int64.toBitVec_inj.mp h
  rw [this]
  exact i64_of ⟨by omega, by omega⟩
theorem ian_nat {a b : Nat} (ha : a < 2147483648) (hb : b < 2147483648) : ian a b = ((a &&& b : Nat) : Int) := by
  refine ti32 ?_ (Nat.lt_of_le_of_lt Nat.and_le_left ha)
  rw [Int32.toBitVec_and]
  show BitVec.ofNat 32 a &&& BitVec.ofNat 32 b = _
  apply BitVec.eq_of_toNat_eq
  simp only [BitVec.toNat_and, BitVec.toNat_ofNat]
  rw [Nat.mod_eq_of_lt (by omega), Nat.mod_eq_of_lt (by omega), Nat.mod_eq_of_lt (Nat.lt_of_le_of_lt Nat.and_le_left (by omega))]
theorem or_lt {a b k : Nat} (ha : a < 2 ^ k) (hb : b < 2 ^ k) : a ||| b < 2 ^ k := Nat.or_lt_two_pow ha hb
theorem xor_lt {a b k : Nat} (ha : a < 2 ^ k) (hb : b < 2 ^ k) : a ^^^ b < 2 ^ k := Nat.xor_lt_two_pow ha hb
theorem iro_nat {a b : Nat} (ha : a < 2147483648) (hb : b < 2147483648) : iro a b = ((a ||| b : Nat) : Int) := by
  have hlt : a ||| b < 2147483648 := or_lt (k := 31) ha hb
  refine ti32 ?_ hlt
  rw [Int32.toBitVec_or]
  show BitVec.ofNat 32 a ||| BitVec.ofNat 32 b = _
  apply BitVec.eq_of_toNat_eq
  simp only [BitVec.toNat_or, BitVec.toNat_ofNat]
  rw [Nat.mod_eq_of_lt (by omega), Nat.mod_eq_of_lt (by omega), Nat.mod_eq_of_lt (by omega)]
theorem ixo_nat {a b : Nat} (ha : a < 2147483648) (hb : b < 2147483648) : ixo a b = ((a ^^^ b : Nat) : Int) := by
  have hlt : a ^^^ b < 2147483648 := xor_lt (k := 31) ha hb
  refine ti32 ?_ hlt
  rw [Int32.toBitVec_xor]
  show BitVec.ofNat 32 a ^^^ BitVec.ofNat 32 b = _
  apply BitVec.eq_of_toNat_eq
  simp only [BitVec.toNat_xor, BitVec.toNat_ofNat]
  rw [Nat.mod_eq_of_lt (by omega), Nat.mod_eq_of_lt (by omega), Nat.mod_eq_of_lt (by omega)]
theorem lan_nat {a b : Nat} (ha : a < 9223372036854775808) (hb : b < 9223372036854775808) : lan a b = ((a &&& b : Nat) : Int) := by
  refine ti64 ?_ (Nat.lt_of_le_of_lt Nat.and_le_left ha)
  rw [Int64.toBitVec_and]
  show BitVec.ofNat 64 a &&& BitVec.ofNat 64 b = _
  apply BitVec.eq_of_toNat_eq
  simp only [BitVec.toNat_and, BitVec.toNat_ofNat]
  rw [Nat.mod_eq_of_lt (by omega), Nat.mod_eq_of_lt (by omega), Nat.mod_eq_of_lt (Nat.lt_of_le_of_lt Nat.and_le_left (by omega))]
theorem lro_nat {a b : Nat} (ha : a < 9223372036854775808) (hb : b < 9223372036854775808) : lro a b = ((a ||| b : Nat) : Int) := by
  have hlt : a ||| b < 9223372036854775808 := or_lt (k := 63) ha hb
  refine ti64 ?_ hlt
  rw [Int64.toBitVec_or]
  show BitVec.ofNat 64 a ||| BitVec.ofNat 64 b = _
  apply BitVec.eq_of_toNat_eq
  simp only [BitVec.toNat_or, BitVec.toNat_ofNat]
  rw [Nat.mod_eq_of_lt (by omega), Nat.mod_eq_of_lt (by omega), Nat.mod_eq_of_lt (by omega)]
theorem lxo_nat {a b : Nat} (ha : a < 9223372036854775808) (hb : b < 9223372036854775808) : lxo a b = ((a ^^^ b : Nat) : Int) := by
  have hlt : a ^^^ b < 9223372036854775808 := xor_lt (k := 63) ha hb
  refine ti64 ?_ hlt
  rw [Int64.toBitVec_xor]
  show BitVec.ofNat 64 a ^^^ BitVec.ofNat 64 b = _
  apply BitVec.eq_of_toNat_eq
  simp only [BitVec.toNat_xor, BitVec.toNat_ofNat]
  rw [Nat.mod_eq_of_lt (by omega), Nat.mod_eq_of_lt (by omega), Nat.mod_eq_of_lt (by omega)]
theorem sh32 : ∀ n, n < 32 → ((Int32.ofInt ((n : Nat) : Int) &&& 31).toBitVec.smod 32).toNat = n := by decide +kernel
theorem su32 : ∀ n, n < 32 → (((Int32.ofInt ((n : Nat) : Int)).toUInt32 &&& Int32.toUInt32 31).toBitVec % 32).toNat = n := by decide +kernel
theorem isr_nat {a k : Nat} (ha : a < 2147483648) (hk : k < 32) : isr a k = ((a / 2 ^ k : Nat) : Int) := by
  unfold isr
  rw [pk_shr (Int32.ofInt a) _ k (sh32 k hk), i32_of ⟨by omega, by omega⟩]
  rw [Int.shiftRight_eq_div_pow]
  rfl
theorem isl_nat {a k : Nat} (hk : k < 32) (h : a * 2 ^ k < 2147483648) : isl a k = ((a * 2 ^ k : Nat) : Int) := by
  unfold isl
  have := pk_shlN (n := a) (Int32.ofInt ((k : Nat) : Int) &&& 31) k (sh32 k hk) (by omega)
  rw [show Int32.ofInt ((a : Nat) : Int) = nI a from rfl, this]
  exact i32_of (x := ((a * 2 ^ k : Nat) : Int)) ⟨by omega, by omega⟩
theorem c64 : ∀ k, k < 64 → ((Int32.ofInt ((k : Nat) : Int)).toInt64 &&& 63) = Int64.ofInt ((k : Nat) : Int) := by decide +kernel
theorem sm64 : ∀ k, k < 64 → ((BitVec.ofNat 64 k).smod 64) = BitVec.ofNat 64 k := by decide +kernel
theorem lsl_nat {a k : Nat} (hk : k < 64) (h : a * 2 ^ k < 9223372036854775808) : lsl a k = ((a * 2 ^ k : Nat) : Int) := by
  unfold lsl
  rw [c64 k hk]
  refine ti64 ?_ h
  rw [Int64.toBitVec_shiftLeft]
  show BitVec.ofNat 64 a <<< ((BitVec.ofNat 64 k).smod 64) = _
  rw [sm64 k hk]
  apply BitVec.eq_of_toNat_eq
  rw [BitVec.shiftLeft_eq', BitVec.toNat_shiftLeft]
  simp only [BitVec.toNat_ofNat]
  rw [Nat.mod_eq_of_lt (show k < 2 ^ 64 by omega), Nat.shiftLeft_eq, Nat.mod_mul_mod]
theorem lsr_nat {a k : Nat} (ha : a < 9223372036854775808) (hk : k < 64) : lsr a k = ((a / 2 ^ k : Nat) : Int) := by
  unfold lsr
  rw [c64 k hk]
  have hq : a / 2 ^ k < 9223372036854775808 := Nat.lt_of_le_of_lt (Nat.div_le_self _ _) ha
  refine ti64 ?_ hq
  rw [Int64.toBitVec_shiftRight]
  show (BitVec.ofNat 64 a).sshiftRight' ((BitVec.ofNat 64 k).smod 64) = _
  rw [sm64 k hk]
  apply BitVec.eq_of_toInt_eq
  rw [BitVec.sshiftRight_eq', BitVec.toInt_sshiftRight]
  simp only [BitVec.toNat_ofNat]
  rw [Nat.mod_eq_of_lt (show k < 2 ^ 64 by omega)]
  have e1 : (BitVec.ofNat 64 a).toInt = a := by
    rw [BitVec.toInt_eq_toNat_of_lt (by simp only [BitVec.toNat_ofNat]; omega)]
    simp only [BitVec.toNat_ofNat]
    omega
  have e2 : (BitVec.ofNat 64 (a / 2 ^ k)).toInt = ((a / 2 ^ k : Nat) : Int) := by
    generalize a / 2 ^ k = q at hq ⊢
    rw [BitVec.toInt_eq_toNat_of_lt (by simp only [BitVec.toNat_ofNat]; omega)]
    simp only [BitVec.toNat_ofNat]
    omega
  rw [e1, e2, Int.shiftRight_eq_div_pow]
  rfl
/-! a bit of a number -/
def bt_ (x : Int) (k : Int) : Bool := x.toNat.testBit k.toNat
theorem bit32 {x k : Int} (hx : 0 ≤ x ∧ x < 2147483648) (hk : 0 ≤ k ∧ k < 32) : ian (isr x k) 1 = if bt_ x k then 1 else 0 := by
  obtain ⟨n, rfl⟩ := Int.eq_ofNat_of_zero_le hx.1
  obtain ⟨j, rfl⟩ := Int.eq_ofNat_of_zero_le hk.1
  have h1 : n < 2147483648 := by omega
  rw [isr_nat h1 (by omega)]
  have := ian_nat (a := n / 2 ^ j) (b := 1) (Nat.lt_of_le_of_lt (Nat.div_le_self _ _) h1) (by omega)
  rw [show ((1 : Nat) : Int) = 1 from rfl] at this
  rw [this, Nat.and_one_is_mod]
  show _ = if n.testBit j = true then (1 : Int) else 0
  rw [Nat.testBit_eq_decide_div_mod_eq]
  have h2 := Nat.mod_two_eq_zero_or_one (n / 2 ^ j)
  by_cases h : n / 2 ^ j % 2 = 1
  · simp [h]
  · have : n / 2 ^ j % 2 = 0 := by omega
    simp [this]
theorem bit64 {x k : Int} (hx : 0 ≤ x ∧ x < 9223372036854775808) (hk : 0 ≤ k ∧ k < 64) : lan (lsr x k) 1 = if bt_ x k then 1 else 0 := by
  obtain ⟨n, rfl⟩ := Int.eq_ofNat_of_zero_le hx.1
  obtain ⟨j, rfl⟩ := Int.eq_ofNat_of_zero_le hk.1
  have h1 : n < 9223372036854775808 := by omega
  rw [lsr_nat h1 (by omega)]
  have := lan_nat (a := n / 2 ^ j) (b := 1) (Nat.lt_of_le_of_lt (Nat.div_le_self _ _) h1) (by omega)
  rw [show ((1 : Nat) : Int) = 1 from rfl] at this
  rw [this, Nat.and_one_is_mod]
  show _ = if n.testBit j = true then (1 : Int) else 0
  rw [Nat.testBit_eq_decide_div_mod_eq]
  have h2 := Nat.mod_two_eq_zero_or_one (n / 2 ^ j)
  by_cases h : n / 2 ^ j % 2 = 1
  · simp [h]
  · have : n / 2 ^ j % 2 = 0 := by omega
    simp [this]
end
section
theorem cl_Fa_copyFrom {d : Nat} {r : Option Vv × Mm} {m : Mm} {o0 o1 : Int} (h : Ev d K_Fa_copyFrom 3 0 [(10, o0), (10, o1), (9, 0), (9, 0)] [] m r) : Cl d 0 [(10, o0), (10, o1)] m r := ⟨([10, 10], 3, 4, K_Fa_copyFrom), rfl, rfl, h⟩
theorem cl_Fa_markStep {d : Nat} {r : Option Vv × Mm} {m : Mm} {o0 : Int} (h : Ev d K_Fa_markStep 3 0 [(10, o0)] [] m r) : Cl d 1 [(10, o0)] m r := ⟨([10], 3, 1, K_Fa_markStep), rfl, rfl, h⟩
theorem cl_Fa_takeBack {d : Nat} {r : Option Vv × Mm} {m : Mm} {o0 : Int} (h : Ev d K_Fa_takeBack 2 0 [(10, o0)] [] m r) : Cl d 2 [(10, o0)] m r := ⟨([10], 2, 1, K_Fa_takeBack), rfl, rfl, h⟩
theorem cl_Ha_isTurn {d : Nat} {r : Option Vv × Mm} {m : Mm} {x0 : Int} (h : Ev d K_Ha_isTurn 2 0 [(0, x0)] [] m r) : Cl d 3 [(0, x0)] m r := ⟨([0], 2, 1, K_Ha_isTurn), rfl, rfl, h⟩
theorem cl_Ha_eastOf {d : Nat} {r : Option Vv × Mm} {m : Mm} {x0 : Int} (h : Ev d K_Ha_eastOf 0 0 [(1, x0), (9, 0)] [] m r) : Cl d 4 [(1, x0)] m r := ⟨([1], 0, 2, K_Ha_eastOf), rfl, rfl, h⟩
theorem cl_Ha_southOf {d : Nat} {r : Option Vv × Mm} {m : Mm} {x0 : Int} (h : Ev d K_Ha_southOf 0 0 [(1, x0), (9, 0)] [] m r) : Cl d 5 [(1, x0)] m r := ⟨([1], 0, 2, K_Ha_southOf), rfl, rfl, h⟩
theorem cl_Ha_keep {d : Nat} {r : Option Vv × Mm} {m : Mm} {x1 x2 : Int} (h : Ev d K_Ha_keep 3 0 [(11, 1), (0, x1), (1, x2), (9, 0), (9, 0), (9, 0), (9, 0)] [] m r) : Cl d 6 [(11, 1), (0, x1), (1, x2)] m r := ⟨([11, 0, 1], 3, 7, K_Ha_keep), rfl, rfl, h⟩
theorem cl_Ha_mirrored {d : Nat} {r : Option Vv × Mm} {m : Mm} {x0 : Int} (h : Ev d K_Ha_mirrored 1 0 [(1, x0), (9, 0), (9, 0), (9, 0), (9, 0)] [] m r) : Cl d 7 [(1, x0)] m r := ⟨([1], 1, 5, K_Ha_mirrored), rfl, rfl, h⟩
theorem cl_Ha_mirroredHedge {d : Nat} {r : Option Vv × Mm} {m : Mm} {x0 : Int} (h : Ev d K_Ha_mirroredHedge 0 0 [(0, x0), (9, 0), (9, 0)] [] m r) : Cl d 8 [(0, x0)] m r := ⟨([0], 0, 3, K_Ha_mirroredHedge), rfl, rfl, h⟩
theorem cl_Ha_quarterRight {d : Nat} {r : Option Vv × Mm} {m : Mm} {x0 : Int} (h : Ev d K_Ha_quarterRight 1 0 [(1, x0), (9, 0), (9, 0), (9, 0), (9, 0)] [] m r) : Cl d 9 [(1, x0)] m r := ⟨([1], 1, 5, K_Ha_quarterRight), rfl, rfl, h⟩
theorem cl_Ha_quarterHedge {d : Nat} {r : Option Vv × Mm} {m : Mm} {x0 : Int} (h : Ev d K_Ha_quarterHedge 0 0 [(0, x0), (9, 0), (9, 0), (9, 0)] [] m r) : Cl d 10 [(0, x0)] m r := ⟨([0], 0, 4, K_Ha_quarterHedge), rfl, rfl, h⟩
theorem cl_Ha_pattern {d : Nat} {r : Option Vv × Mm} {m : Mm} {x1 x2 : Int} (h : Ev d K_Ha_pattern 1 0 [(11, 1), (0, x1), (0, x2)] [] m r) : Cl d 11 [(11, 1), (0, x1), (0, x2)] m r := ⟨([11, 0, 0], 1, 3, K_Ha_pattern), rfl, rfl, h⟩
theorem cl_Ha_unlikeness {d : Nat} {r : Option Vv × Mm} {m : Mm} {x1 x2 x3 : Int} (h : Ev d K_Ha_unlikeness 0 0 [(11, 1), (0, x1), (0, x2), (1, x3), (9, 0)] [] m r) : Cl d 12 [(11, 1), (0, x1), (0, x2), (1, x3)] m r := ⟨([11, 0, 0, 1], 0, 5, K_Ha_unlikeness), rfl, rfl, h⟩
theorem cl_Ha_likestTurn {d : Nat} {r : Option Vv × Mm} {m : Mm} {x1 x2 : Int} (h : Ev d K_Ha_likestTurn 0 0 [(11, 1), (0, x1), (1, x2), (9, 0), (9, 0), (9, 0)] [] m r) : Cl d 13 [(11, 1), (0, x1), (1, x2)] m r := ⟨([11, 0, 1], 0, 6, K_Ha_likestTurn), rfl, rfl, h⟩
theorem cl_Ha_turnInto {d : Nat} {r : Option Vv × Mm} {m : Mm} {x1 x2 : Int} (h : Ev d K_Ha_turnInto 0 0 [(11, 1), (0, x1), (0, x2), (9, 0)] [] m r) : Cl d 14 [(11, 1), (0, x1), (0, x2)] m r := ⟨([11, 0, 0], 0, 4, K_Ha_turnInto), rfl, rfl, h⟩
theorem cl_Ha_hasElderTwin {d : Nat} {r : Option Vv × Mm} {m : Mm} {x1 : Int} (h : Ev d K_Ha_hasElderTwin 2 0 [(11, 1), (0, x1), (9, 0)] [] m r) : Cl d 15 [(11, 1), (0, x1)] m r := ⟨([11, 0], 2, 3, K_Ha_hasElderTwin), rfl, rfl, h⟩
theorem cl_Ha_selfTurns {d : Nat} {r : Option Vv × Mm} {m : Mm} {x1 : Int} (h : Ev d K_Ha_selfTurns 0 0 [(11, 1), (0, x1), (9, 0), (9, 0)] [] m r) : Cl d 16 [(11, 1), (0, x1)] m r := ⟨([11, 0], 0, 4, K_Ha_selfTurns), rfl, rfl, h⟩
theorem cl_Ha_partingHedge {d : Nat} {r : Option Vv × Mm} {m : Mm} {x1 x2 x4 : Int} (h : Ev d K_Ha_partingHedge 0 0 [(11, 1), (0, x1), (1, x2), (9, 0), (0, x4), (9, 0), (9, 0), (9, 0), (9, 0), (9, 0), (9, 0)] [] m r) : Cl d 17 [(11, 1), (0, x1), (1, x2), (0, x4)] m r := ⟨([11, 0, 1, 0], 0, 11, K_Ha_partingHedge), rfl, rfl, h⟩
theorem cl_Ha_likePatterns {d : Nat} {r : Option Vv × Mm} {m : Mm} {x1 x2 x4 x5 : Int} (h : Ev d K_Ha_likePatterns 0 0 [(11, 1), (0, x1), (1, x2), (9, 0), (0, x4), (0, x5), (9, 0), (9, 0), (9, 0)] [] m r) : Cl d 18 [(11, 1), (0, x1), (1, x2), (0, x4), (0, x5)] m r := ⟨([11, 0, 1, 0, 0], 0, 9, K_Ha_likePatterns), rfl, rfl, h⟩
theorem cl_Ju_frostsOf {d : Nat} {r : Option Vv × Mm} {m : Mm} {o1 o2 x3 : Int} (h : Ev d K_Ju_frostsOf 0 0 [(12, 10), (16, o1), (13, o2), (0, x3)] [] m r) : Cl d 19 [(12, 10), (16, o1), (13, o2), (0, x3)] m r := ⟨([12, 16, 13, 0], 0, 4, K_Ju_frostsOf), rfl, rfl, h⟩
theorem cl_Ju_goesOf {d : Nat} {r : Option Vv × Mm} {m : Mm} {o1 o2 x3 : Int} (h : Ev d K_Ju_goesOf 0 0 [(12, 10), (16, o1), (13, o2), (0, x3)] [] m r) : Cl d 20 [(12, 10), (16, o1), (13, o2), (0, x3)] m r := ⟨([12, 16, 13, 0], 0, 4, K_Ju_goesOf), rfl, rfl, h⟩
theorem cl_Ju_nameCommon {d : Nat} {r : Option Vv × Mm} {m : Mm} {o1 x2 : Int} (h : Ev d K_Ju_nameCommon 3 0 [(12, 10), (13, o1), (0, x2)] [] m r) : Cl d 21 [(12, 10), (13, o1), (0, x2)] m r := ⟨([12, 13, 0], 3, 3, K_Ju_nameCommon), rfl, rfl, h⟩
theorem cl_Ju_valueOf {d : Nat} {r : Option Vv × Mm} {m : Mm} {a1 x2 x3 o4 : Int} (h : Ev d K_Ju_valueOf 0 0 [(12, 10), (2500, a1), (0, x2), (0, x3), (13, o4), (9, 0), (9, 0), (9, 0), (9, 0), (9, 0)] [] m r) : Cl d 22 [(12, 10), (2500, a1), (0, x2), (0, x3), (13, o4)] m r := ⟨([12, 2500, 0, 0, 13], 0, 10, K_Ju_valueOf), rfl, rfl, h⟩
theorem cl_Ju_pop {d : Nat} {r : Option Vv × Mm} {m : Mm} (h : Ev d K_Ju_pop 0 0 [(12, 10)] [] m r) : Cl d 23 [(12, 10)] m r := ⟨([12], 0, 1, K_Ju_pop), rfl, rfl, h⟩
theorem cl_Ju_push {d : Nat} {r : Option Vv × Mm} {m : Mm} {x1 : Int} (h : Ev d K_Ju_push 3 0 [(12, 10), (0, x1)] [] m r) : Cl d 24 [(12, 10), (0, x1)] m r := ⟨([12, 0], 3, 2, K_Ju_push), rfl, rfl, h⟩
theorem cl_Ju_ofTwo {d : Nat} {r : Option Vv × Mm} {m : Mm} {x0 x1 x2 : Int} (h : Ev d K_Ju_ofTwo 0 0 [(0, x0), (0, x1), (0, x2)] [] m r) : Cl d 25 [(0, x0), (0, x1), (0, x2)] m r := ⟨([0, 0, 0], 0, 3, K_Ju_ofTwo), rfl, rfl, h⟩
theorem cl_Ju_bounded {d : Nat} {r : Option Vv × Mm} {m : Mm} {x0 : Int} (h : Ev d K_Ju_bounded 0 0 [(1, x0), (9, 0)] [] m r) : Cl d 26 [(1, x0)] m r := ⟨([1], 0, 2, K_Ju_bounded), rfl, rfl, h⟩
theorem cl_Ju_compares {d : Nat} {r : Option Vv × Mm} {m : Mm} {x0 x1 x2 : Int} (h : Ev d K_Ju_compares 2 0 [(0, x0), (0, x1), (0, x2)] [] m r) : Cl d 27 [(0, x0), (0, x1), (0, x2)] m r := ⟨([0, 0, 0], 2, 3, K_Ju_compares), rfl, rfl, h⟩
theorem cl_La_copyFrom {d : Nat} {r : Option Vv × Mm} {m : Mm} {o0 o1 : Int} (h : Ev d K_La_copyFrom 3 0 [(13, o0), (13, o1)] [] m r) : Cl d 28 [(13, o0), (13, o1)] m r := ⟨([13, 13], 3, 2, K_La_copyFrom), rfl, rfl, h⟩
theorem cl_La_takeBackTo {d : Nat} {r : Option Vv × Mm} {m : Mm} {o0 o1 : Int} (h : Ev d K_La_takeBackTo 3 0 [(13, o0), (13, o1), (9, 0), (9, 0)] [] m r) : Cl d 29 [(13, o0), (13, o1)] m r := ⟨([13, 13], 3, 4, K_La_takeBackTo), rfl, rfl, h⟩
theorem cl_La_tellCow {d : Nat} {r : Option Vv × Mm} {m : Mm} {o0 x1 x2 : Int} (h : Ev d K_La_tellCow 0 0 [(13, o0), (0, x1), (0, x2)] [] m r) : Cl d 30 [(13, o0), (0, x1), (0, x2)] m r := ⟨([13, 0, 0], 0, 3, K_La_tellCow), rfl, rfl, h⟩
theorem cl_La_isCow {d : Nat} {r : Option Vv × Mm} {m : Mm} {o0 x1 : Int} (h : Ev d K_La_isCow 2 0 [(13, o0), (0, x1)] [] m r) : Cl d 31 [(13, o0), (0, x1)] m r := ⟨([13, 0], 2, 2, K_La_isCow), rfl, rfl, h⟩
theorem cl_La_isHome {d : Nat} {r : Option Vv × Mm} {m : Mm} {o0 x1 : Int} (h : Ev d K_La_isHome 2 0 [(13, o0), (0, x1)] [] m r) : Cl d 32 [(13, o0), (0, x1)] m r := ⟨([13, 0], 2, 2, K_La_isHome), rfl, rfl, h⟩
theorem cl_La_hasHedge {d : Nat} {r : Option Vv × Mm} {m : Mm} {o0 x1 : Int} (h : Ev d K_La_hasHedge 2 0 [(13, o0), (0, x1)] [] m r) : Cl d 33 [(13, o0), (0, x1)] m r := ⟨([13, 0], 2, 2, K_La_hasHedge), rfl, rfl, h⟩
theorem cl_La_addHedge {d : Nat} {r : Option Vv × Mm} {m : Mm} {o0 x1 : Int} (h : Ev d K_La_addHedge 3 0 [(13, o0), (0, x1)] [] m r) : Cl d 34 [(13, o0), (0, x1)] m r := ⟨([13, 0], 3, 2, K_La_addHedge), rfl, rfl, h⟩
theorem cl_La_removeHedge {d : Nat} {r : Option Vv × Mm} {m : Mm} {o0 x1 : Int} (h : Ev d K_La_removeHedge 3 0 [(13, o0), (0, x1)] [] m r) : Cl d 35 [(13, o0), (0, x1)] m r := ⟨([13, 0], 3, 2, K_La_removeHedge), rfl, rfl, h⟩
theorem cl_La_isOpen {d : Nat} {r : Option Vv × Mm} {m : Mm} {o0 x1 x2 : Int} (h : Ev d K_La_isOpen 2 0 [(13, o0), (0, x1), (0, x2), (9, 0)] [] m r) : Cl d 36 [(13, o0), (0, x1), (0, x2)] m r := ⟨([13, 0, 0], 2, 4, K_La_isOpen), rfl, rfl, h⟩
theorem cl_La_openWays {d : Nat} {r : Option Vv × Mm} {m : Mm} {o0 x1 : Int} (h : Ev d K_La_openWays 0 0 [(13, o0), (0, x1), (9, 0), (9, 0)] [] m r) : Cl d 37 [(13, o0), (0, x1)] m r := ⟨([13, 0], 0, 4, K_La_openWays), rfl, rfl, h⟩
theorem cl_La_around {d : Nat} {r : Option Vv × Mm} {m : Mm} {o0 x1 : Int} (h : Ev d K_La_around 0 0 [(13, o0), (0, x1), (9, 0), (9, 0)] [] m r) : Cl d 38 [(13, o0), (0, x1)] m r := ⟨([13, 0], 0, 4, K_La_around), rfl, rfl, h⟩
theorem cl_La_canGo {d : Nat} {r : Option Vv × Mm} {m : Mm} {o0 x1 x2 : Int} (h : Ev d K_La_canGo 2 0 [(13, o0), (0, x1), (0, x2)] [] m r) : Cl d 39 [(13, o0), (0, x1), (0, x2)] m r := ⟨([13, 0, 0], 2, 3, K_La_canGo), rfl, rfl, h⟩
theorem cl_La_comesHome {d : Nat} {r : Option Vv × Mm} {m : Mm} {o0 x1 x2 x3 : Int} (h : Ev d K_La_comesHome 2 0 [(13, o0), (0, x1), (0, x2), (0, x3)] [] m r) : Cl d 40 [(13, o0), (0, x1), (0, x2), (0, x3)] m r := ⟨([13, 0, 0, 0], 2, 4, K_La_comesHome), rfl, rfl, h⟩
theorem cl_La_wander {d : Nat} {r : Option Vv × Mm} {m : Mm} {o0 x1 x2 : Int} (h : Ev d K_La_wander 3 0 [(13, o0), (0, x1), (0, x2), (9, 0)] [] m r) : Cl d 41 [(13, o0), (0, x1), (0, x2)] m r := ⟨([13, 0, 0], 3, 4, K_La_wander), rfl, rfl, h⟩
theorem cl_La_wayByHedge {d : Nat} {r : Option Vv × Mm} {m : Mm} {o0 x1 x2 : Int} (h : Ev d K_La_wayByHedge 0 0 [(13, o0), (0, x1), (0, x2), (9, 0), (9, 0), (9, 0)] [] m r) : Cl d 42 [(13, o0), (0, x1), (0, x2)] m r := ⟨([13, 0, 0], 0, 6, K_La_wayByHedge), rfl, rfl, h⟩
theorem cl_La_draw {d : Nat} {r : Option Vv × Mm} {m : Mm} {o0 : Int} (h : Ev d K_La_draw 0 0 [(13, o0), (9, 0)] [] m r) : Cl d 43 [(13, o0)] m r := ⟨([13], 0, 2, K_La_draw), rfl, rfl, h⟩
theorem cl_La_write {d : Nat} {r : Option Vv × Mm} {m : Mm} {o0 x1 x2 : Int} (h : Ev d K_La_write 3 0 [(13, o0), (0, x1), (0, x2)] [] m r) : Cl d 44 [(13, o0), (0, x1), (0, x2)] m r := ⟨([13, 0, 0], 3, 3, K_La_write), rfl, rfl, h⟩
theorem cl_La_lineHour {d : Nat} {r : Option Vv × Mm} {m : Mm} {o0 x1 : Int} (h : Ev d K_La_lineHour 0 0 [(13, o0), (0, x1)] [] m r) : Cl d 45 [(13, o0), (0, x1)] m r := ⟨([13, 0], 0, 2, K_La_lineHour), rfl, rfl, h⟩
theorem cl_La_lineKind {d : Nat} {r : Option Vv × Mm} {m : Mm} {o0 x1 : Int} (h : Ev d K_La_lineKind 0 0 [(13, o0), (0, x1)] [] m r) : Cl d 46 [(13, o0), (0, x1)] m r := ⟨([13, 0], 0, 2, K_La_lineKind), rfl, rfl, h⟩
theorem cl_La_lineWhich {d : Nat} {r : Option Vv × Mm} {m : Mm} {o0 x1 : Int} (h : Ev d K_La_lineWhich 0 0 [(13, o0), (0, x1)] [] m r) : Cl d 47 [(13, o0), (0, x1)] m r := ⟨([13, 0], 0, 2, K_La_lineWhich), rfl, rfl, h⟩
theorem cl_La_stepsHome {d : Nat} {r : Option Vv × Mm} {m : Mm} {o0 x1 x2 : Int} (h : Ev d K_La_stepsHome 0 0 [(13, o0), (0, x1), (0, x2), (9, 0), (9, 0), (9, 0)] [] m r) : Cl d 48 [(13, o0), (0, x1), (0, x2)] m r := ⟨([13, 0, 0], 0, 6, K_La_stepsHome), rfl, rfl, h⟩
theorem cl_La_ringOf {d : Nat} {r : Option Vv × Mm} {m : Mm} {o0 x1 : Int} (h : Ev d K_La_ringOf 0 0 [(13, o0), (0, x1), (9, 0), (9, 0), (9, 0), (9, 0), (9, 0)] [] m r) : Cl d 49 [(13, o0), (0, x1)] m r := ⟨([13, 0], 0, 7, K_La_ringOf), rfl, rfl, h⟩
theorem cl_Mz_layOut {d : Nat} {r : Option Vv × Mm} {m : Mm} {x1 : Int} (h : Ev d K_Mz_layOut 3 0 [(14, 13), (1, x1), (9, 0), (9, 0), (9, 0)] [] m r) : Cl d 50 [(14, 13), (1, x1)] m r := ⟨([14, 1], 3, 5, K_Mz_layOut), rfl, rfl, h⟩
theorem cl_Mz_grown {d : Nat} {r : Option Vv × Mm} {m : Mm} {x1 : Int} (h : Ev d K_Mz_grown 0 0 [(14, 13), (0, x1)] [] m r) : Cl d 51 [(14, 13), (0, x1)] m r := ⟨([14, 0], 0, 2, K_Mz_grown), rfl, rfl, h⟩
theorem cl_Mz_grownOver {d : Nat} {r : Option Vv × Mm} {m : Mm} {x0 : Int} (h : Ev d K_Mz_grownOver 0 0 [(0, x0)] [] m r) : Cl d 52 [(0, x0)] m r := ⟨([0], 0, 1, K_Mz_grownOver), rfl, rfl, h⟩
theorem cl_Mz_within {d : Nat} {r : Option Vv × Mm} {m : Mm} {x1 x2 : Int} (h : Ev d K_Mz_within 0 0 [(14, 13), (0, x1), (0, x2), (9, 0), (9, 0)] [] m r) : Cl d 53 [(14, 13), (0, x1), (0, x2)] m r := ⟨([14, 0, 0], 0, 5, K_Mz_within), rfl, rfl, h⟩
theorem cl_Mz_flooded {d : Nat} {r : Option Vv × Mm} {m : Mm} {x1 x2 : Int} (h : Ev d K_Mz_flooded 0 0 [(14, 13), (0, x1), (0, x2), (9, 0), (9, 0), (9, 0)] [] m r) : Cl d 54 [(14, 13), (0, x1), (0, x2)] m r := ⟨([14, 0, 0], 0, 6, K_Mz_flooded), rfl, rfl, h⟩
theorem cl_Mz_regionOf {d : Nat} {r : Option Vv × Mm} {m : Mm} {x1 : Int} (h : Ev d K_Mz_regionOf 0 0 [(14, 13), (0, x1)] [] m r) : Cl d 55 [(14, 13), (0, x1)] m r := ⟨([14, 0], 0, 2, K_Mz_regionOf), rfl, rfl, h⟩
theorem cl_Mz_milesTo {d : Nat} {r : Option Vv × Mm} {m : Mm} {x1 x2 : Int} (h : Ev d K_Mz_milesTo 0 0 [(14, 13), (0, x1), (0, x2), (9, 0), (9, 0)] [] m r) : Cl d 56 [(14, 13), (0, x1), (0, x2)] m r := ⟨([14, 0, 0], 0, 5, K_Mz_milesTo), rfl, rfl, h⟩
theorem cl_Mz_wayNearer {d : Nat} {r : Option Vv × Mm} {m : Mm} {x1 x2 x3 : Int} (h : Ev d K_Mz_wayNearer 0 0 [(14, 13), (0, x1), (0, x2), (0, x3), (9, 0), (9, 0), (9, 0)] [] m r) : Cl d 57 [(14, 13), (0, x1), (0, x2), (0, x3)] m r := ⟨([14, 0, 0, 0], 0, 7, K_Mz_wayNearer), rfl, rfl, h⟩
theorem cl_Mz_cutsTo {d : Nat} {r : Option Vv × Mm} {m : Mm} {x1 x2 : Int} (h : Ev d K_Mz_cutsTo 0 0 [(14, 13), (0, x1), (0, x2), (9, 0), (9, 0)] [] m r) : Cl d 58 [(14, 13), (0, x1), (0, x2)] m r := ⟨([14, 0, 0], 0, 5, K_Mz_cutsTo), rfl, rfl, h⟩
theorem cl_Mz_farthestFrom {d : Nat} {r : Option Vv × Mm} {m : Mm} {x1 : Int} (h : Ev d K_Mz_farthestFrom 0 0 [(14, 13), (0, x1), (9, 0), (9, 0), (9, 0), (9, 0)] [] m r) : Cl d 59 [(14, 13), (0, x1)] m r := ⟨([14, 0], 0, 6, K_Mz_farthestFrom), rfl, rfl, h⟩
theorem cl_Mz_lowest {d : Nat} {r : Option Vv × Mm} {m : Mm} {x0 : Int} (h : Ev d K_Mz_lowest 0 0 [(0, x0)] [] m r) : Cl d 60 [(0, x0)] m r := ⟨([0], 0, 1, K_Mz_lowest), rfl, rfl, h⟩
theorem cl_Mz_regionCount {d : Nat} {r : Option Vv × Mm} {m : Mm} (h : Ev d K_Mz_regionCount 0 0 [(14, 13), (9, 0), (9, 0), (9, 0)] [] m r) : Cl d 61 [(14, 13)] m r := ⟨([14], 0, 4, K_Mz_regionCount), rfl, rfl, h⟩
theorem cl_Mz_greatestRegion {d : Nat} {r : Option Vv × Mm} {m : Mm} (h : Ev d K_Mz_greatestRegion 0 0 [(14, 13), (9, 0), (9, 0), (9, 0), (9, 0)] [] m r) : Cl d 62 [(14, 13)] m r := ⟨([14], 0, 5, K_Mz_greatestRegion), rfl, rfl, h⟩
theorem cl_Mz_isNeck {d : Nat} {r : Option Vv × Mm} {m : Mm} {x1 : Int} (h : Ev d K_Mz_isNeck 2 0 [(14, 13), (0, x1), (9, 0)] [] m r) : Cl d 63 [(14, 13), (0, x1)] m r := ⟨([14, 0], 2, 3, K_Mz_isNeck), rfl, rfl, h⟩
theorem cl_Mz_pathsTo {d : Nat} {r : Option Vv × Mm} {m : Mm} {x1 x2 : Int} (h : Ev d K_Mz_pathsTo 1 0 [(14, 13), (0, x1), (0, x2)] [] m r) : Cl d 64 [(14, 13), (0, x1), (0, x2)] m r := ⟨([14, 0, 0], 1, 3, K_Mz_pathsTo), rfl, rfl, h⟩
theorem cl_Mz_pathsOn {d : Nat} {r : Option Vv × Mm} {m : Mm} {x1 x2 x3 x4 : Int} (h : Ev d K_Mz_pathsOn 1 0 [(14, 13), (0, x1), (0, x2), (0, x3), (0, x4), (9, 0), (9, 0), (9, 0), (9, 0), (9, 0)] [] m r) : Cl d 65 [(14, 13), (0, x1), (0, x2), (0, x3), (0, x4)] m r := ⟨([14, 0, 0, 0, 0], 1, 10, K_Mz_pathsOn), rfl, rfl, h⟩
theorem cl_Mz_fewestGates {d : Nat} {r : Option Vv × Mm} {m : Mm} {x1 : Int} (h : Ev d K_Mz_fewestGates 0 0 [(14, 13), (0, x1), (9, 0), (9, 0)] [] m r) : Cl d 66 [(14, 13), (0, x1)] m r := ⟨([14, 0], 0, 4, K_Mz_fewestGates), rfl, rfl, h⟩
theorem cl_Mz_lowestCover {d : Nat} {r : Option Vv × Mm} {m : Mm} {x1 x2 x3 : Int} (h : Ev d K_Mz_lowestCover 0 0 [(14, 13), (0, x1), (0, x2), (0, x3), (9, 0), (9, 0)] [] m r) : Cl d 67 [(14, 13), (0, x1), (0, x2), (0, x3)] m r := ⟨([14, 0, 0, 0], 0, 6, K_Mz_lowestCover), rfl, rfl, h⟩
theorem cl_Pl_isCell {d : Nat} {r : Option Vv × Mm} {m : Mm} {x0 : Int} (h : Ev d K_Pl_isCell 2 0 [(0, x0)] [] m r) : Cl d 68 [(0, x0)] m r := ⟨([0], 2, 1, K_Pl_isCell), rfl, rfl, h⟩
theorem cl_Pl_isWay {d : Nat} {r : Option Vv × Mm} {m : Mm} {x0 : Int} (h : Ev d K_Pl_isWay 2 0 [(0, x0)] [] m r) : Cl d 69 [(0, x0)] m r := ⟨([0], 2, 1, K_Pl_isWay), rfl, rfl, h⟩
theorem cl_Pl_isHedge {d : Nat} {r : Option Vv × Mm} {m : Mm} {x0 : Int} (h : Ev d K_Pl_isHedge 2 0 [(0, x0)] [] m r) : Cl d 70 [(0, x0)] m r := ⟨([0], 2, 1, K_Pl_isHedge), rfl, rfl, h⟩
theorem cl_Pl_cellBeyond {d : Nat} {r : Option Vv × Mm} {m : Mm} {x0 x1 : Int} (h : Ev d K_Pl_cellBeyond 0 0 [(0, x0), (0, x1)] [] m r) : Cl d 71 [(0, x0), (0, x1)] m r := ⟨([0, 0], 0, 2, K_Pl_cellBeyond), rfl, rfl, h⟩
theorem cl_Pl_hedgeBy {d : Nat} {r : Option Vv × Mm} {m : Mm} {x0 x1 : Int} (h : Ev d K_Pl_hedgeBy 0 0 [(0, x0), (0, x1), (9, 0), (9, 0), (9, 0)] [] m r) : Cl d 72 [(0, x0), (0, x1)] m r := ⟨([0, 0], 0, 5, K_Pl_hedgeBy), rfl, rfl, h⟩
theorem cl_Pl_firstCell {d : Nat} {r : Option Vv × Mm} {m : Mm} {x0 : Int} (h : Ev d K_Pl_firstCell 0 0 [(0, x0)] [] m r) : Cl d 73 [(0, x0)] m r := ⟨([0], 0, 1, K_Pl_firstCell), rfl, rfl, h⟩
theorem cl_Pl_secondCell {d : Nat} {r : Option Vv × Mm} {m : Mm} {x0 : Int} (h : Ev d K_Pl_secondCell 0 0 [(0, x0)] [] m r) : Cl d 74 [(0, x0)] m r := ⟨([0], 0, 1, K_Pl_secondCell), rfl, rfl, h⟩
theorem cl_Pl_apart {d : Nat} {r : Option Vv × Mm} {m : Mm} {x0 x1 : Int} (h : Ev d K_Pl_apart 0 0 [(0, x0), (0, x1)] [] m r) : Cl d 75 [(0, x0), (0, x1)] m r := ⟨([0, 0], 0, 2, K_Pl_apart), rfl, rfl, h⟩
theorem cl_Rd_hasRoomFor {d : Nat} {r : Option Vv × Mm} {m : Mm} {x1 : Int} (h : Ev d K_Rd_hasRoomFor 2 0 [(15, 80), (0, x1)] [] m r) : Cl d 76 [(15, 80), (0, x1)] m r := ⟨([15, 0], 2, 2, K_Rd_hasRoomFor), rfl, rfl, h⟩
theorem cl_Rd_addFour {d : Nat} {r : Option Vv × Mm} {m : Mm} {x1 : Int} (h : Ev d K_Rd_addFour 3 0 [(15, 80), (0, x1), (9, 0)] [] m r) : Cl d 77 [(15, 80), (0, x1)] m r := ⟨([15, 0], 3, 3, K_Rd_addFour), rfl, rfl, h⟩
theorem cl_Rd_reads {d : Nat} {r : Option Vv × Mm} {m : Mm} (h : Ev d K_Rd_reads 2 0 [(15, 80), (9, 0)] [] m r) : Cl d 78 [(15, 80)] m r := ⟨([15], 2, 2, K_Rd_reads), rfl, rfl, h⟩
theorem cl_Rd_refuse {d : Nat} {r : Option Vv × Mm} {m : Mm} {x1 : Int} (h : Ev d K_Rd_refuse 2 0 [(15, 80), (0, x1)] [] m r) : Cl d 79 [(15, 80), (0, x1)] m r := ⟨([15, 0], 2, 2, K_Rd_refuse), rfl, rfl, h⟩
theorem cl_Rd_take {d : Nat} {r : Option Vv × Mm} {m : Mm} {x1 : Int} (h : Ev d K_Rd_take 2 0 [(15, 80), (0, x1)] [] m r) : Cl d 80 [(15, 80), (0, x1)] m r := ⟨([15, 0], 2, 2, K_Rd_take), rfl, rfl, h⟩
theorem cl_Rd_clause {d : Nat} {r : Option Vv × Mm} {m : Mm} (h : Ev d K_Rd_clause 2 0 [(15, 80), (9, 0), (9, 0), (9, 0)] [] m r) : Cl d 81 [(15, 80)] m r := ⟨([15], 2, 4, K_Rd_clause), rfl, rfl, h⟩
theorem cl_Rd_deed {d : Nat} {r : Option Vv × Mm} {m : Mm} {x1 : Int} (h : Ev d K_Rd_deed 2 0 [(15, 80), (0, x1)] [] m r) : Cl d 82 [(15, 80), (0, x1)] m r := ⟨([15, 0], 2, 2, K_Rd_deed), rfl, rfl, h⟩
theorem cl_Rd_oneNumber {d : Nat} {r : Option Vv × Mm} {m : Mm} {x1 x2 x3 : Int} (h : Ev d K_Rd_oneNumber 2 0 [(15, 80), (0, x1), (0, x2), (0, x3)] [] m r) : Cl d 83 [(15, 80), (0, x1), (0, x2), (0, x3)] m r := ⟨([15, 0, 0, 0], 2, 4, K_Rd_oneNumber), rfl, rfl, h⟩
theorem cl_Rd_secondNumber {d : Nat} {r : Option Vv × Mm} {m : Mm} {x1 x2 : Int} (h : Ev d K_Rd_secondNumber 2 0 [(15, 80), (0, x1), (0, x2)] [] m r) : Cl d 84 [(15, 80), (0, x1), (0, x2)] m r := ⟨([15, 0, 0], 2, 3, K_Rd_secondNumber), rfl, rfl, h⟩
theorem cl_Rd_isNumber {d : Nat} {r : Option Vv × Mm} {m : Mm} {x1 x2 : Int} (h : Ev d K_Rd_isNumber 2 0 [(15, 80), (0, x1), (0, x2)] [] m r) : Cl d 85 [(15, 80), (0, x1), (0, x2)] m r := ⟨([15, 0, 0], 2, 3, K_Rd_isNumber), rfl, rfl, h⟩
theorem cl_Rd_sum {d : Nat} {r : Option Vv × Mm} {m : Mm} (h : Ev d K_Rd_sum 2 0 [(15, 80), (9, 0), (9, 0)] [] m r) : Cl d 86 [(15, 80)] m r := ⟨([15], 2, 3, K_Rd_sum), rfl, rfl, h⟩
theorem cl_Rd_product {d : Nat} {r : Option Vv × Mm} {m : Mm} (h : Ev d K_Rd_product 2 0 [(15, 80), (9, 0), (9, 0)] [] m r) : Cl d 87 [(15, 80)] m r := ⟨([15], 2, 3, K_Rd_product), rfl, rfl, h⟩
theorem cl_Rd_one {d : Nat} {r : Option Vv × Mm} {m : Mm} (h : Ev d K_Rd_one 2 0 [(15, 80), (9, 0)] [] m r) : Cl d 88 [(15, 80)] m r := ⟨([15], 2, 2, K_Rd_one), rfl, rfl, h⟩
theorem cl_Rd_emitAndAdvance {d : Nat} {r : Option Vv × Mm} {m : Mm} {x1 x2 : Int} (h : Ev d K_Rd_emitAndAdvance 2 0 [(15, 80), (0, x1), (0, x2)] [] m r) : Cl d 89 [(15, 80), (0, x1), (0, x2)] m r := ⟨([15, 0, 0], 2, 3, K_Rd_emitAndAdvance), rfl, rfl, h⟩
theorem cl_Rd_isNameHere {d : Nat} {r : Option Vv × Mm} {m : Mm} (h : Ev d K_Rd_isNameHere 2 0 [(15, 80), (9, 0)] [] m r) : Cl d 90 [(15, 80)] m r := ⟨([15], 2, 2, K_Rd_isNameHere), rfl, rfl, h⟩
theorem cl_Rd_nested {d : Nat} {r : Option Vv × Mm} {m : Mm} (h : Ev d K_Rd_nested 2 0 [(15, 80), (9, 0), (9, 0)] [] m r) : Cl d 91 [(15, 80)] m r := ⟨([15], 2, 3, K_Rd_nested), rfl, rfl, h⟩
theorem cl_Rd_inside {d : Nat} {r : Option Vv × Mm} {m : Mm} {x1 : Int} (h : Ev d K_Rd_inside 2 0 [(15, 80), (0, x1)] [] m r) : Cl d 92 [(15, 80), (0, x1)] m r := ⟨([15, 0], 2, 2, K_Rd_inside), rfl, rfl, h⟩
theorem cl_Rd_choice {d : Nat} {r : Option Vv × Mm} {m : Mm} (h : Ev d K_Rd_choice 2 0 [(15, 80), (9, 0), (9, 0), (9, 0)] [] m r) : Cl d 93 [(15, 80)] m r := ⟨([15], 2, 4, K_Rd_choice), rfl, rfl, h⟩
theorem cl_Rd_either {d : Nat} {r : Option Vv × Mm} {m : Mm} (h : Ev d K_Rd_either 2 0 [(15, 80), (9, 0)] [] m r) : Cl d 94 [(15, 80)] m r := ⟨([15], 2, 2, K_Rd_either), rfl, rfl, h⟩
theorem cl_Rd_both {d : Nat} {r : Option Vv × Mm} {m : Mm} (h : Ev d K_Rd_both 2 0 [(15, 80), (9, 0)] [] m r) : Cl d 95 [(15, 80)] m r := ⟨([15], 2, 2, K_Rd_both), rfl, rfl, h⟩
theorem cl_Rd_ask {d : Nat} {r : Option Vv × Mm} {m : Mm} (h : Ev d K_Rd_ask 2 0 [(15, 80), (9, 0), (9, 0)] [] m r) : Cl d 96 [(15, 80)] m r := ⟨([15], 2, 3, K_Rd_ask), rfl, rfl, h⟩
theorem cl_Rd_advance {d : Nat} {r : Option Vv × Mm} {m : Mm} (h : Ev d K_Rd_advance 3 0 [(15, 80)] [] m r) : Cl d 97 [(15, 80)] m r := ⟨([15], 3, 1, K_Rd_advance), rfl, rfl, h⟩
theorem cl_Rd_isBlank {d : Nat} {r : Option Vv × Mm} {m : Mm} {x0 : Int} (h : Ev d K_Rd_isBlank 2 0 [(0, x0)] [] m r) : Cl d 98 [(0, x0)] m r := ⟨([0], 2, 1, K_Rd_isBlank), rfl, rfl, h⟩
theorem cl_Rd_isLetter {d : Nat} {r : Option Vv × Mm} {m : Mm} {x0 : Int} (h : Ev d K_Rd_isLetter 2 0 [(0, x0)] [] m r) : Cl d 99 [(0, x0)] m r := ⟨([0], 2, 1, K_Rd_isLetter), rfl, rfl, h⟩
theorem cl_Rd_isDigit {d : Nat} {r : Option Vv × Mm} {m : Mm} {x0 : Int} (h : Ev d K_Rd_isDigit 2 0 [(0, x0)] [] m r) : Cl d 100 [(0, x0)] m r := ⟨([0], 2, 1, K_Rd_isDigit), rfl, rfl, h⟩
theorem cl_Rd_wordRead {d : Nat} {r : Option Vv × Mm} {m : Mm} (h : Ev d K_Rd_wordRead 0 0 [(15, 80), (9, 0), (9, 0), (9, 0), (9, 0), (9, 0)] [] m r) : Cl d 101 [(15, 80)] m r := ⟨([15], 0, 6, K_Rd_wordRead), rfl, rfl, h⟩
theorem cl_Rd_digitsRead {d : Nat} {r : Option Vv × Mm} {m : Mm} (h : Ev d K_Rd_digitsRead 0 0 [(15, 80)] [] m r) : Cl d 102 [(15, 80)] m r := ⟨([15], 0, 1, K_Rd_digitsRead), rfl, rfl, h⟩
theorem cl_Rd_signRead {d : Nat} {r : Option Vv × Mm} {m : Mm} (h : Ev d K_Rd_signRead 0 0 [(15, 80), (9, 0), (9, 0), (9, 0)] [] m r) : Cl d 103 [(15, 80)] m r := ⟨([15], 0, 4, K_Rd_signRead), rfl, rfl, h⟩
theorem cl_Tx_clear {d : Nat} {r : Option Vv × Mm} {m : Mm} {o0 : Int} (h : Ev d K_Tx_clear 3 0 [(16, o0)] [] m r) : Cl d 104 [(16, o0)] m r := ⟨([16], 3, 1, K_Tx_clear), rfl, rfl, h⟩
theorem cl_Tx_copyFrom {d : Nat} {r : Option Vv × Mm} {m : Mm} {o0 o1 : Int} (h : Ev d K_Tx_copyFrom 3 0 [(16, o0), (16, o1)] [] m r) : Cl d 105 [(16, o0), (16, o1)] m r := ⟨([16, 16], 3, 2, K_Tx_copyFrom), rfl, rfl, h⟩
theorem cl_Tx_addClause {d : Nat} {r : Option Vv × Mm} {m : Mm} {o0 x1 x2 x3 : Int} (h : Ev d K_Tx_addClause 3 0 [(16, o0), (0, x1), (0, x2), (0, x3)] [] m r) : Cl d 106 [(16, o0), (0, x1), (0, x2), (0, x3)] m r := ⟨([16, 0, 0, 0], 3, 4, K_Tx_addClause), rfl, rfl, h⟩
theorem cl_Tx_has {d : Nat} {r : Option Vv × Mm} {m : Mm} {o0 x1 : Int} (h : Ev d K_Tx_has 2 0 [(16, o0), (0, x1)] [] m r) : Cl d 107 [(16, o0), (0, x1)] m r := ⟨([16, 0], 2, 2, K_Tx_has), rfl, rfl, h⟩
theorem cl_Tx_beginLaw {d : Nat} {r : Option Vv × Mm} {m : Mm} {o0 x1 : Int} (h : Ev d K_Tx_beginLaw 3 0 [(16, o0), (0, x1)] [] m r) : Cl d 108 [(16, o0), (0, x1)] m r := ⟨([16, 0], 3, 2, K_Tx_beginLaw), rfl, rfl, h⟩
theorem cl_Tx_endLaw {d : Nat} {r : Option Vv × Mm} {m : Mm} {o0 x1 : Int} (h : Ev d K_Tx_endLaw 3 0 [(16, o0), (0, x1)] [] m r) : Cl d 109 [(16, o0), (0, x1)] m r := ⟨([16, 0], 3, 2, K_Tx_endLaw), rfl, rfl, h⟩
theorem cl_Tx_emit {d : Nat} {r : Option Vv × Mm} {m : Mm} {o0 x1 x2 : Int} (h : Ev d K_Tx_emit 2 0 [(16, o0), (0, x1), (0, x2)] [] m r) : Cl d 110 [(16, o0), (0, x1), (0, x2)] m r := ⟨([16, 0, 0], 2, 3, K_Tx_emit), rfl, rfl, h⟩
theorem cl_Tx_landHere {d : Nat} {r : Option Vv × Mm} {m : Mm} {o0 x1 : Int} (h : Ev d K_Tx_landHere 3 0 [(16, o0), (0, x1)] [] m r) : Cl d 111 [(16, o0), (0, x1)] m r := ⟨([16, 0], 3, 2, K_Tx_landHere), rfl, rfl, h⟩
theorem cl_Th_hand {d : Nat} {r : Option Vv × Mm} {m : Mm} {x1 x2 : Int} (h : Ev d K_Th_hand 0 0 [(17, 0), (0, x1), (0, x2)] [] m r) : Cl d 112 [(17, 0), (0, x1), (0, x2)] m r := ⟨([17, 0, 0], 0, 3, K_Th_hand), rfl, rfl, h⟩
theorem cl_Th_cow {d : Nat} {r : Option Vv × Mm} {m : Mm} {x1 x2 : Int} (h : Ev d K_Th_cow 0 0 [(17, 0), (0, x1), (0, x2)] [] m r) : Cl d 113 [(17, 0), (0, x1), (0, x2)] m r := ⟨([17, 0, 0], 0, 3, K_Th_cow), rfl, rfl, h⟩
theorem cl_Th_gate {d : Nat} {r : Option Vv × Mm} {m : Mm} {x1 x2 : Int} (h : Ev d K_Th_gate 2 0 [(17, 0), (0, x1), (0, x2)] [] m r) : Cl d 114 [(17, 0), (0, x1), (0, x2)] m r := ⟨([17, 0, 0], 2, 3, K_Th_gate), rfl, rfl, h⟩
theorem cl_Th_feed {d : Nat} {r : Option Vv × Mm} {m : Mm} {x1 x2 x3 x4 x5 : Int} (h : Ev d K_Th_feed 0 0 [(17, 0), (0, x1), (0, x2), (0, x3), (0, x4), (0, x5)] [] m r) : Cl d 115 [(17, 0), (0, x1), (0, x2), (0, x3), (0, x4), (0, x5)] m r := ⟨([17, 0, 0, 0, 0, 0], 0, 6, K_Th_feed), rfl, rfl, h⟩
theorem cl_Th_end {d : Nat} {r : Option Vv × Mm} {m : Mm} {x1 : Int} (h : Ev d K_Th_end 0 0 [(17, 0), (0, x1)] [] m r) : Cl d 116 [(17, 0), (0, x1)] m r := ⟨([17, 0], 0, 2, K_Th_end), rfl, rfl, h⟩
theorem cl_Th_text {d : Nat} {r : Option Vv × Mm} {m : Mm} (h : Ev d K_Th_text 0 0 [(17, 0), (9, 0)] [] m r) : Cl d 117 [(17, 0)] m r := ⟨([17], 0, 2, K_Th_text), rfl, rfl, h⟩
theorem cl_Th_fault {d : Nat} {r : Option Vv × Mm} {m : Mm} {x1 : Int} (h : Ev d K_Th_fault 0 0 [(17, 0), (0, x1)] [] m r) : Cl d 118 [(17, 0), (0, x1)] m r := ⟨([17, 0], 0, 2, K_Th_fault), rfl, rfl, h⟩
theorem cl_Th_by {d : Nat} {r : Option Vv × Mm} {m : Mm} {x1 : Int} (h : Ev d K_Th_by 2 0 [(17, 0), (0, x1)] [] m r) : Cl d 119 [(17, 0), (0, x1)] m r := ⟨([17, 0], 2, 2, K_Th_by), rfl, rfl, h⟩
theorem cl_Th_plant {d : Nat} {r : Option Vv × Mm} {m : Mm} {x1 : Int} (h : Ev d K_Th_plant 2 0 [(17, 0), (0, x1)] [] m r) : Cl d 120 [(17, 0), (0, x1)] m r := ⟨([17, 0], 2, 2, K_Th_plant), rfl, rfl, h⟩
theorem cl_Th_cut {d : Nat} {r : Option Vv × Mm} {m : Mm} {x1 : Int} (h : Ev d K_Th_cut 2 0 [(17, 0), (0, x1)] [] m r) : Cl d 121 [(17, 0), (0, x1)] m r := ⟨([17, 0], 2, 2, K_Th_cut), rfl, rfl, h⟩
theorem cl_Th_press {d : Nat} {r : Option Vv × Mm} {m : Mm} {x1 x2 : Int} (h : Ev d K_Th_press 2 0 [(17, 0), (0, x1), (0, x2)] [] m r) : Cl d 122 [(17, 0), (0, x1), (0, x2)] m r := ⟨([17, 0, 0], 2, 3, K_Th_press), rfl, rfl, h⟩
theorem cl_Th_go {d : Nat} {r : Option Vv × Mm} {m : Mm} {x1 x2 : Int} (h : Ev d K_Th_go 0 0 [(17, 0), (0, x1), (0, x2)] [] m r) : Cl d 123 [(17, 0), (0, x1), (0, x2)] m r := ⟨([17, 0, 0], 0, 3, K_Th_go), rfl, rfl, h⟩
theorem cl_Th_hour {d : Nat} {r : Option Vv × Mm} {m : Mm} {x1 : Int} (h : Ev d K_Th_hour 0 0 [(17, 0), (0, x1), (9, 0)] [] m r) : Cl d 124 [(17, 0), (0, x1)] m r := ⟨([17, 0], 0, 3, K_Th_hour), rfl, rfl, h⟩
theorem cl_Th_played {d : Nat} {r : Option Vv × Mm} {m : Mm} {x1 : Int} (h : Ev d K_Th_played 0 0 [(17, 0), (0, x1), (9, 0), (9, 0), (9, 0), (9, 0)] [] m r) : Cl d 125 [(17, 0), (0, x1)] m r := ⟨([17, 0], 0, 6, K_Th_played), rfl, rfl, h⟩
theorem cl_Th_years {d : Nat} {r : Option Vv × Mm} {m : Mm} {x1 x2 : Int} (h : Ev d K_Th_years 0 0 [(17, 0), (0, x1), (0, x2), (9, 0)] [] m r) : Cl d 126 [(17, 0), (0, x1), (0, x2)] m r := ⟨([17, 0, 0], 0, 4, K_Th_years), rfl, rfl, h⟩
theorem cl_Th_undo {d : Nat} {r : Option Vv × Mm} {m : Mm} (h : Ev d K_Th_undo 0 0 [(17, 0)] [] m r) : Cl d 127 [(17, 0)] m r := ⟨([17], 0, 1, K_Th_undo), rfl, rfl, h⟩
theorem cl_Th_of {d : Nat} {r : Option Vv × Mm} {m : Mm} {x1 x2 : Int} (h : Ev d K_Th_of 0 0 [(17, 0), (0, x1), (0, x2), (9, 0), (9, 0)] [] m r) : Cl d 128 [(17, 0), (0, x1), (0, x2)] m r := ⟨([17, 0, 0], 0, 5, K_Th_of), rfl, rfl, h⟩
theorem cl_Th_cell {d : Nat} {r : Option Vv × Mm} {m : Mm} {x1 x2 : Int} (h : Ev d K_Th_cell 0 0 [(17, 0), (0, x1), (0, x2)] [] m r) : Cl d 129 [(17, 0), (0, x1), (0, x2)] m r := ⟨([17, 0, 0], 0, 3, K_Th_cell), rfl, rfl, h⟩
theorem cl_Th_hedge {d : Nat} {r : Option Vv × Mm} {m : Mm} {x1 x2 : Int} (h : Ev d K_Th_hedge 0 0 [(17, 0), (0, x1), (0, x2)] [] m r) : Cl d 130 [(17, 0), (0, x1), (0, x2)] m r := ⟨([17, 0, 0], 0, 3, K_Th_hedge), rfl, rfl, h⟩
theorem cl_Th_between {d : Nat} {r : Option Vv × Mm} {m : Mm} {x1 x2 : Int} (h : Ev d K_Th_between 0 0 [(17, 0), (0, x1), (0, x2), (9, 0)] [] m r) : Cl d 131 [(17, 0), (0, x1), (0, x2)] m r := ⟨([17, 0, 0], 0, 4, K_Th_between), rfl, rfl, h⟩
theorem cl_Th_is {d : Nat} {r : Option Vv × Mm} {m : Mm} {x1 : Int} (h : Ev d K_Th_is 0 0 [(17, 0), (0, x1), (9, 0)] [] m r) : Cl d 132 [(17, 0), (0, x1)] m r := ⟨([17, 0], 0, 3, K_Th_is), rfl, rfl, h⟩
theorem cl_Th_book {d : Nat} {r : Option Vv × Mm} {m : Mm} {x1 x2 : Int} (h : Ev d K_Th_book 0 0 [(17, 0), (0, x1), (0, x2), (9, 0)] [] m r) : Cl d 133 [(17, 0), (0, x1), (0, x2)] m r := ⟨([17, 0, 0], 0, 4, K_Th_book), rfl, rfl, h⟩
theorem cl_Th_foretold {d : Nat} {r : Option Vv × Mm} {m : Mm} {x1 x2 : Int} (h : Ev d K_Th_foretold 0 0 [(17, 0), (0, x1), (0, x2), (9, 0)] [] m r) : Cl d 134 [(17, 0), (0, x1), (0, x2)] m r := ⟨([17, 0, 0], 0, 4, K_Th_foretold), rfl, rfl, h⟩
theorem cl_Th_miles {d : Nat} {r : Option Vv × Mm} {m : Mm} {x1 x2 : Int} (h : Ev d K_Th_miles 0 0 [(17, 0), (0, x1), (0, x2)] [] m r) : Cl d 135 [(17, 0), (0, x1), (0, x2)] m r := ⟨([17, 0, 0], 0, 3, K_Th_miles), rfl, rfl, h⟩
theorem cl_Th_way {d : Nat} {r : Option Vv × Mm} {m : Mm} {x1 x2 x3 : Int} (h : Ev d K_Th_way 0 0 [(17, 0), (0, x1), (0, x2), (0, x3), (9, 0), (9, 0), (9, 0), (9, 0)] [] m r) : Cl d 136 [(17, 0), (0, x1), (0, x2), (0, x3)] m r := ⟨([17, 0, 0, 0], 0, 8, K_Th_way), rfl, rfl, h⟩
theorem cl_Th_cuts {d : Nat} {r : Option Vv × Mm} {m : Mm} {x1 x2 : Int} (h : Ev d K_Th_cuts 0 0 [(17, 0), (0, x1), (0, x2)] [] m r) : Cl d 137 [(17, 0), (0, x1), (0, x2)] m r := ⟨([17, 0, 0], 0, 3, K_Th_cuts), rfl, rfl, h⟩
theorem cl_Th_farthest {d : Nat} {r : Option Vv × Mm} {m : Mm} {x1 : Int} (h : Ev d K_Th_farthest 0 0 [(17, 0), (0, x1)] [] m r) : Cl d 138 [(17, 0), (0, x1)] m r := ⟨([17, 0], 0, 2, K_Th_farthest), rfl, rfl, h⟩
theorem cl_Th_wide {d : Nat} {r : Option Vv × Mm} {m : Mm} (h : Ev d K_Th_wide 0 0 [(17, 0), (9, 0), (9, 0)] [] m r) : Cl d 139 [(17, 0)] m r := ⟨([17], 0, 3, K_Th_wide), rfl, rfl, h⟩
theorem cl_Th_regions {d : Nat} {r : Option Vv × Mm} {m : Mm} {x1 : Int} (h : Ev d K_Th_regions 0 0 [(17, 0), (0, x1)] [] m r) : Cl d 140 [(17, 0), (0, x1)] m r := ⟨([17, 0], 0, 2, K_Th_regions), rfl, rfl, h⟩
theorem cl_Th_rings {d : Nat} {r : Option Vv × Mm} {m : Mm} (h : Ev d K_Th_rings 0 0 [(17, 0)] [] m r) : Cl d 141 [(17, 0)] m r := ⟨([17], 0, 1, K_Th_rings), rfl, rfl, h⟩
theorem cl_Th_ends {d : Nat} {r : Option Vv × Mm} {m : Mm} (h : Ev d K_Th_ends 0 0 [(17, 0), (9, 0), (9, 0)] [] m r) : Cl d 142 [(17, 0)] m r := ⟨([17], 0, 3, K_Th_ends), rfl, rfl, h⟩
theorem cl_Th_necks {d : Nat} {r : Option Vv × Mm} {m : Mm} (h : Ev d K_Th_necks 0 0 [(17, 0), (9, 0), (9, 0)] [] m r) : Cl d 143 [(17, 0)] m r := ⟨([17], 0, 3, K_Th_necks), rfl, rfl, h⟩
theorem cl_Th_paths {d : Nat} {r : Option Vv × Mm} {m : Mm} {x1 x2 : Int} (h : Ev d K_Th_paths 1 0 [(17, 0), (0, x1), (0, x2)] [] m r) : Cl d 144 [(17, 0), (0, x1), (0, x2)] m r := ⟨([17, 0, 0], 1, 3, K_Th_paths), rfl, rfl, h⟩
theorem cl_Th_walk {d : Nat} {r : Option Vv × Mm} {m : Mm} {x1 x2 : Int} (h : Ev d K_Th_walk 0 0 [(17, 0), (0, x1), (0, x2), (9, 0), (9, 0)] [] m r) : Cl d 145 [(17, 0), (0, x1), (0, x2)] m r := ⟨([17, 0, 0], 0, 5, K_Th_walk), rfl, rfl, h⟩
theorem cl_Th_home {d : Nat} {r : Option Vv × Mm} {m : Mm} {x1 : Int} (h : Ev d K_Th_home 0 0 [(17, 0), (0, x1), (9, 0), (9, 0), (9, 0)] [] m r) : Cl d 146 [(17, 0), (0, x1)] m r := ⟨([17, 0], 0, 5, K_Th_home), rfl, rfl, h⟩
theorem cl_Th_gates {d : Nat} {r : Option Vv × Mm} {m : Mm} {x1 x2 : Int} (h : Ev d K_Th_gates 0 0 [(17, 0), (0, x1), (0, x2), (9, 0)] [] m r) : Cl d 147 [(17, 0), (0, x1), (0, x2)] m r := ⟨([17, 0, 0], 0, 4, K_Th_gates), rfl, rfl, h⟩
theorem cl_Th_turned {d : Nat} {r : Option Vv × Mm} {m : Mm} {x1 x2 x3 : Int} (h : Ev d K_Th_turned 0 0 [(17, 0), (0, x1), (0, x2), (0, x3), (9, 0), (9, 0)] [] m r) : Cl d 148 [(17, 0), (0, x1), (0, x2), (0, x3)] m r := ⟨([17, 0, 0, 0], 0, 6, K_Th_turned), rfl, rfl, h⟩
theorem cl_Th_unlike {d : Nat} {r : Option Vv × Mm} {m : Mm} {x1 x2 : Int} (h : Ev d K_Th_unlike 0 0 [(17, 0), (0, x1), (0, x2), (9, 0)] [] m r) : Cl d 149 [(17, 0), (0, x1), (0, x2)] m r := ⟨([17, 0, 0], 0, 4, K_Th_unlike), rfl, rfl, h⟩
theorem cl_Th_owner {d : Nat} {r : Option Vv × Mm} {m : Mm} {x1 : Int} (h : Ev d K_Th_owner 0 0 [(17, 0), (0, x1), (9, 0), (9, 0), (9, 0), (9, 0)] [] m r) : Cl d 150 [(17, 0), (0, x1)] m r := ⟨([17, 0], 0, 6, K_Th_owner), rfl, rfl, h⟩
theorem cl_Th_twins {d : Nat} {r : Option Vv × Mm} {m : Mm} {x1 x2 : Int} (h : Ev d K_Th_twins 0 0 [(17, 0), (0, x1), (0, x2)] [] m r) : Cl d 151 [(17, 0), (0, x1), (0, x2)] m r := ⟨([17, 0, 0], 0, 3, K_Th_twins), rfl, rfl, h⟩
theorem cl_Th_kinds {d : Nat} {r : Option Vv × Mm} {m : Mm} (h : Ev d K_Th_kinds 0 0 [(17, 0), (9, 0), (9, 0)] [] m r) : Cl d 152 [(17, 0)] m r := ⟨([17], 0, 3, K_Th_kinds), rfl, rfl, h⟩
theorem cl_Th_selves {d : Nat} {r : Option Vv × Mm} {m : Mm} {x1 : Int} (h : Ev d K_Th_selves 0 0 [(17, 0), (0, x1)] [] m r) : Cl d 153 [(17, 0), (0, x1)] m r := ⟨([17, 0], 0, 2, K_Th_selves), rfl, rfl, h⟩
theorem cl_Th_look {d : Nat} {r : Option Vv × Mm} {m : Mm} {x1 : Int} (h : Ev d K_Th_look 0 0 [(17, 0), (0, x1)] [] m r) : Cl d 154 [(17, 0), (0, x1)] m r := ⟨([17, 0], 0, 2, K_Th_look), rfl, rfl, h⟩
theorem cl_Th_said {d : Nat} {r : Option Vv × Mm} {m : Mm} {x1 x2 : Int} (h : Ev d K_Th_said 0 0 [(17, 0), (0, x1), (0, x2)] [] m r) : Cl d 155 [(17, 0), (0, x1), (0, x2)] m r := ⟨([17, 0, 0], 0, 3, K_Th_said), rfl, rfl, h⟩
theorem cl_Th_whose {d : Nat} {r : Option Vv × Mm} {m : Mm} (h : Ev d K_Th_whose 0 0 [(17, 0), (9, 0), (9, 0)] [] m r) : Cl d 156 [(17, 0)] m r := ⟨([17], 0, 3, K_Th_whose), rfl, rfl, h⟩
theorem cl_Th_thickest {d : Nat} {r : Option Vv × Mm} {m : Mm} (h : Ev d K_Th_thickest 0 0 [(17, 0), (9, 0), (9, 0)] [] m r) : Cl d 157 [(17, 0)] m r := ⟨([17], 0, 3, K_Th_thickest), rfl, rfl, h⟩
theorem cl_Th_ledger {d : Nat} {r : Option Vv × Mm} {m : Mm} {x1 : Int} (h : Ev d K_Th_ledger 0 0 [(17, 0), (0, x1), (9, 0), (9, 0)] [] m r) : Cl d 158 [(17, 0), (0, x1)] m r := ⟨([17, 0], 0, 4, K_Th_ledger), rfl, rfl, h⟩
theorem cl_Th_image {d : Nat} {r : Option Vv × Mm} {m : Mm} (h : Ev d K_Th_image 0 0 [(17, 0)] [] m r) : Cl d 159 [(17, 0)] m r := ⟨([17], 0, 1, K_Th_image), rfl, rfl, h⟩
theorem cl_Th_back {d : Nat} {r : Option Vv × Mm} {m : Mm} (h : Ev d K_Th_back 0 0 [(17, 0)] [] m r) : Cl d 160 [(17, 0)] m r := ⟨([17], 0, 1, K_Th_back), rfl, rfl, h⟩
theorem cl_Th_about {d : Nat} {r : Option Vv × Mm} {m : Mm} {x1 : Int} (h : Ev d K_Th_about 0 0 [(17, 0), (0, x1)] [] m r) : Cl d 161 [(17, 0), (0, x1)] m r := ⟨([17, 0], 0, 2, K_Th_about), rfl, rfl, h⟩
theorem cl_Th_isHand {d : Nat} {r : Option Vv × Mm} {m : Mm} {x1 : Int} (h : Ev d K_Th_isHand 2 0 [(17, 0), (0, x1)] [] m r) : Cl d 162 [(17, 0), (0, x1)] m r := ⟨([17, 0], 2, 2, K_Th_isHand), rfl, rfl, h⟩
theorem cl_Th_isText {d : Nat} {r : Option Vv × Mm} {m : Mm} {x1 : Int} (h : Ev d K_Th_isText 2 0 [(17, 0), (0, x1)] [] m r) : Cl d 163 [(17, 0), (0, x1)] m r := ⟨([17, 0], 2, 2, K_Th_isText), rfl, rfl, h⟩
theorem cl_Th_ruling {d : Nat} {r : Option Vv × Mm} {m : Mm} (h : Ev d K_Th_ruling 16 0 [(17, 0)] [] m r) : Cl d 164 [(17, 0)] m r := ⟨([17], 16, 1, K_Th_ruling), rfl, rfl, h⟩
theorem cl_Th_mazeNow {d : Nat} {r : Option Vv × Mm} {m : Mm} (h : Ev d K_Th_mazeNow 14 0 [(17, 0)] [] m r) : Cl d 165 [(17, 0)] m r := ⟨([17], 14, 1, K_Th_mazeNow), rfl, rfl, h⟩
theorem cl_Th_passHours {d : Nat} {r : Option Vv × Mm} {m : Mm} {x1 : Int} (h : Ev d K_Th_passHours 2 0 [(17, 0), (0, x1), (9, 0)] [] m r) : Cl d 166 [(17, 0), (0, x1)] m r := ⟨([17, 0], 2, 3, K_Th_passHours), rfl, rfl, h⟩
theorem cl_Th_passHour {d : Nat} {r : Option Vv × Mm} {m : Mm} {o1 : Int} (h : Ev d K_Th_passHour 3 0 [(17, 0), (13, o1), (9, 0), (9, 0)] [] m r) : Cl d 167 [(17, 0), (13, o1)] m r := ⟨([17, 13], 3, 4, K_Th_passHour), rfl, rfl, h⟩
theorem cl_Th_does {d : Nat} {r : Option Vv × Mm} {m : Mm} {x1 x2 x3 : Int} (h : Ev d K_Th_does 2 0 [(17, 0), (0, x1), (0, x2), (0, x3)] [] m r) : Cl d 168 [(17, 0), (0, x1), (0, x2), (0, x3)] m r := ⟨([17, 0, 0, 0], 2, 4, K_Th_does), rfl, rfl, h⟩
theorem cl_Th_befall {d : Nat} {r : Option Vv × Mm} {m : Mm} {x1 : Int} (h : Ev d K_Th_befall 3 0 [(17, 0), (0, x1), (9, 0), (9, 0)] [] m r) : Cl d 169 [(17, 0), (0, x1)] m r := ⟨([17, 0], 3, 4, K_Th_befall), rfl, rfl, h⟩
theorem cl_Th_saysAll {d : Nat} {r : Option Vv × Mm} {m : Mm} {o1 : Int} (h : Ev d K_Th_saysAll 2 0 [(17, 0), (16, o1), (9, 0)] [] m r) : Cl d 170 [(17, 0), (16, o1)] m r := ⟨([17, 16], 2, 3, K_Th_saysAll), rfl, rfl, h⟩
theorem cl_Mo_copy {d : Nat} {r : Option Vv × Mm} {m : Mm} {a0 a1 : Int} (h : Ev d K_Mo_copy 3 0 [(11828, a0), (11828, a1), (9, 0)] [] m r) : Cl d 171 [(11828, a0), (11828, a1)] m r := ⟨([11828, 11828], 3, 3, K_Mo_copy), rfl, rfl, h⟩
theorem cl_Mo_isIn {d : Nat} {r : Option Vv × Mm} {m : Mm} {x0 x1 x2 : Int} (h : Ev d K_Mo_isIn 2 0 [(0, x0), (0, x1), (0, x2)] [] m r) : Cl d 172 [(0, x0), (0, x1), (0, x2)] m r := ⟨([0, 0, 0], 2, 3, K_Mo_isIn), rfl, rfl, h⟩
theorem cl_Mo_held {d : Nat} {r : Option Vv × Mm} {m : Mm} {x0 x2 x3 : Int} (h : Ev d K_Mo_held 0 0 [(1, x0), (9, 0), (0, x2), (0, x3)] [] m r) : Cl d 173 [(1, x0), (0, x2), (0, x3)] m r := ⟨([1, 0, 0], 0, 4, K_Mo_held), rfl, rfl, h⟩
theorem cl_Mo_size {d : Nat} {r : Option Vv × Mm} {m : Mm} {x0 : Int} (h : Ev d K_Mo_size 0 0 [(0, x0)] [] m r) : Cl d 174 [(0, x0)] m r := ⟨([0], 0, 1, K_Mo_size), rfl, rfl, h⟩
theorem cl_Mo_has {d : Nat} {r : Option Vv × Mm} {m : Mm} {x0 x1 : Int} (h : Ev d K_Mo_has 2 0 [(0, x0), (0, x1)] [] m r) : Cl d 175 [(0, x0), (0, x1)] m r := ⟨([0, 0], 2, 2, K_Mo_has), rfl, rfl, h⟩
theorem cl_Mo_bits {d : Nat} {r : Option Vv × Mm} {m : Mm} {x0 : Int} (h : Ev d K_Mo_bits 0 0 [(0, x0), (9, 0), (9, 0)] [] m r) : Cl d 176 [(0, x0)] m r := ⟨([0], 0, 3, K_Mo_bits), rfl, rfl, h⟩
theorem cl_Mo_isCell {d : Nat} {r : Option Vv × Mm} {m : Mm} {x0 : Int} (h : Ev d K_Mo_isCell 2 0 [(0, x0)] [] m r) : Cl d 177 [(0, x0)] m r := ⟨([0], 2, 1, K_Mo_isCell), rfl, rfl, h⟩
theorem cl_Mo_isHedge {d : Nat} {r : Option Vv × Mm} {m : Mm} {x0 : Int} (h : Ev d K_Mo_isHedge 2 0 [(0, x0)] [] m r) : Cl d 178 [(0, x0)] m r := ⟨([0], 2, 1, K_Mo_isHedge), rfl, rfl, h⟩
theorem cl_Mo_isRim {d : Nat} {r : Option Vv × Mm} {m : Mm} {x0 : Int} (h : Ev d K_Mo_isRim 2 0 [(0, x0)] [] m r) : Cl d 179 [(0, x0)] m r := ⟨([0], 2, 1, K_Mo_isRim), rfl, rfl, h⟩
theorem cl_Mo_isHand {d : Nat} {r : Option Vv × Mm} {m : Mm} {x1 : Int} (h : Ev d K_Mo_isHand 2 0 [(18, 400), (0, x1)] [] m r) : Cl d 180 [(18, 400), (0, x1)] m r := ⟨([18, 0], 2, 2, K_Mo_isHand), rfl, rfl, h⟩
theorem cl_Mo_isCow {d : Nat} {r : Option Vv × Mm} {m : Mm} {x1 : Int} (h : Ev d K_Mo_isCow 2 0 [(18, 400), (0, x1)] [] m r) : Cl d 181 [(18, 400), (0, x1)] m r := ⟨([18, 0], 2, 2, K_Mo_isCow), rfl, rfl, h⟩
theorem cl_Mo_beside {d : Nat} {r : Option Vv × Mm} {m : Mm} {x0 x1 : Int} (h : Ev d K_Mo_beside 0 0 [(0, x0), (0, x1)] [] m r) : Cl d 182 [(0, x0), (0, x1)] m r := ⟨([0, 0], 0, 2, K_Mo_beside), rfl, rfl, h⟩
theorem cl_Mo_hedgeOf {d : Nat} {r : Option Vv × Mm} {m : Mm} {x0 x1 : Int} (h : Ev d K_Mo_hedgeOf 0 0 [(0, x0), (0, x1), (9, 0)] [] m r) : Cl d 183 [(0, x0), (0, x1)] m r := ⟨([0, 0], 0, 3, K_Mo_hedgeOf), rfl, rfl, h⟩
theorem cl_Mo_westOf {d : Nat} {r : Option Vv × Mm} {m : Mm} {x0 : Int} (h : Ev d K_Mo_westOf 0 0 [(0, x0)] [] m r) : Cl d 184 [(0, x0)] m r := ⟨([0], 0, 1, K_Mo_westOf), rfl, rfl, h⟩
theorem cl_Mo_eastOf {d : Nat} {r : Option Vv × Mm} {m : Mm} {x0 : Int} (h : Ev d K_Mo_eastOf 0 0 [(0, x0)] [] m r) : Cl d 185 [(0, x0)] m r := ⟨([0], 0, 1, K_Mo_eastOf), rfl, rfl, h⟩
theorem cl_Mo_cellTurned {d : Nat} {r : Option Vv × Mm} {m : Mm} {x0 x1 : Int} (h : Ev d K_Mo_cellTurned 0 0 [(0, x0), (0, x1), (9, 0), (9, 0), (9, 0), (9, 0)] [] m r) : Cl d 186 [(0, x0), (0, x1)] m r := ⟨([0, 0], 0, 6, K_Mo_cellTurned), rfl, rfl, h⟩
theorem cl_Mo_layTurns {d : Nat} {r : Option Vv × Mm} {m : Mm} (h : Ev d K_Mo_layTurns 3 0 [(18, 400), (9, 0), (9, 0)] [] m r) : Cl d 187 [(18, 400)] m r := ⟨([18], 3, 3, K_Mo_layTurns), rfl, rfl, h⟩
theorem cl_Mo_isThere {d : Nat} {r : Option Vv × Mm} {m : Mm} {x1 : Int} (h : Ev d K_Mo_isThere 2 0 [(18, 400), (0, x1)] [] m r) : Cl d 188 [(18, 400), (0, x1)] m r := ⟨([18, 0], 2, 2, K_Mo_isThere), rfl, rfl, h⟩
theorem cl_Mo_change {d : Nat} {r : Option Vv × Mm} {m : Mm} {x1 : Int} (h : Ev d K_Mo_change 3 0 [(18, 400), (0, x1)] [] m r) : Cl d 189 [(18, 400), (0, x1)] m r := ⟨([18, 0], 3, 2, K_Mo_change), rfl, rfl, h⟩
theorem cl_Mo_isOpen {d : Nat} {r : Option Vv × Mm} {m : Mm} {x1 x2 : Int} (h : Ev d K_Mo_isOpen 2 0 [(18, 400), (0, x1), (0, x2)] [] m r) : Cl d 190 [(18, 400), (0, x1), (0, x2)] m r := ⟨([18, 0, 0], 2, 3, K_Mo_isOpen), rfl, rfl, h⟩
theorem cl_Mo_openOf {d : Nat} {r : Option Vv × Mm} {m : Mm} {x1 : Int} (h : Ev d K_Mo_openOf 0 0 [(18, 400), (0, x1), (9, 0), (9, 0)] [] m r) : Cl d 191 [(18, 400), (0, x1)] m r := ⟨([18, 0], 0, 4, K_Mo_openOf), rfl, rfl, h⟩
theorem cl_Mo_aroundOf {d : Nat} {r : Option Vv × Mm} {m : Mm} {x1 : Int} (h : Ev d K_Mo_aroundOf 0 0 [(18, 400), (0, x1), (9, 0), (9, 0)] [] m r) : Cl d 192 [(18, 400), (0, x1)] m r := ⟨([18, 0], 0, 4, K_Mo_aroundOf), rfl, rfl, h⟩
theorem cl_Mo_allNow {d : Nat} {r : Option Vv × Mm} {m : Mm} (h : Ev d K_Mo_allNow 0 0 [(18, 400)] [] m r) : Cl d 193 [(18, 400)] m r := ⟨([18], 0, 1, K_Mo_allNow), rfl, rfl, h⟩
theorem cl_Mo_cellOf {d : Nat} {r : Option Vv × Mm} {m : Mm} {x1 : Int} (h : Ev d K_Mo_cellOf 0 0 [(18, 400), (0, x1)] [] m r) : Cl d 194 [(18, 400), (0, x1)] m r := ⟨([18, 0], 0, 2, K_Mo_cellOf), rfl, rfl, h⟩
theorem cl_Mo_wayOf {d : Nat} {r : Option Vv × Mm} {m : Mm} {x1 : Int} (h : Ev d K_Mo_wayOf 0 0 [(18, 400), (0, x1)] [] m r) : Cl d 195 [(18, 400), (0, x1)] m r := ⟨([18, 0], 0, 2, K_Mo_wayOf), rfl, rfl, h⟩
theorem cl_Mo_put {d : Nat} {r : Option Vv × Mm} {m : Mm} {x1 x2 x3 : Int} (h : Ev d K_Mo_put 3 0 [(18, 400), (0, x1), (0, x2), (0, x3)] [] m r) : Cl d 196 [(18, 400), (0, x1), (0, x2), (0, x3)] m r := ⟨([18, 0, 0, 0], 3, 4, K_Mo_put), rfl, rfl, h⟩
theorem cl_Mo_hand {d : Nat} {r : Option Vv × Mm} {m : Mm} {x1 x2 : Int} (h : Ev d K_Mo_hand 0 0 [(18, 400), (0, x1), (0, x2)] [] m r) : Cl d 197 [(18, 400), (0, x1), (0, x2)] m r := ⟨([18, 0, 0], 0, 3, K_Mo_hand), rfl, rfl, h⟩
theorem cl_Mo_cow {d : Nat} {r : Option Vv × Mm} {m : Mm} {x1 x2 : Int} (h : Ev d K_Mo_cow 0 0 [(18, 400), (0, x1), (0, x2), (9, 0)] [] m r) : Cl d 198 [(18, 400), (0, x1), (0, x2)] m r := ⟨([18, 0, 0], 0, 4, K_Mo_cow), rfl, rfl, h⟩
theorem cl_Mo_gate {d : Nat} {r : Option Vv × Mm} {m : Mm} {x1 x2 : Int} (h : Ev d K_Mo_gate 2 0 [(18, 400), (0, x1), (0, x2)] [] m r) : Cl d 199 [(18, 400), (0, x1), (0, x2)] m r := ⟨([18, 0, 0], 2, 3, K_Mo_gate), rfl, rfl, h⟩
theorem cl_Mo_four {d : Nat} {r : Option Vv × Mm} {m : Mm} {x1 : Int} (h : Ev d K_Mo_four 3 0 [(18, 400), (0, x1), (9, 0)] [] m r) : Cl d 200 [(18, 400), (0, x1)] m r := ⟨([18, 0], 3, 3, K_Mo_four), rfl, rfl, h⟩
theorem cl_Mo_feed {d : Nat} {r : Option Vv × Mm} {m : Mm} {x1 x2 x3 x4 x5 : Int} (h : Ev d K_Mo_feed 0 0 [(18, 400), (0, x1), (0, x2), (0, x3), (0, x4), (0, x5)] [] m r) : Cl d 201 [(18, 400), (0, x1), (0, x2), (0, x3), (0, x4), (0, x5)] m r := ⟨([18, 0, 0, 0, 0, 0], 0, 6, K_Mo_feed), rfl, rfl, h⟩
theorem cl_Mo_end {d : Nat} {r : Option Vv × Mm} {m : Mm} {x1 : Int} (h : Ev d K_Mo_end 0 0 [(18, 400), (0, x1)] [] m r) : Cl d 202 [(18, 400), (0, x1)] m r := ⟨([18, 0], 0, 2, K_Mo_end), rfl, rfl, h⟩
theorem cl_Mo_byteAt {d : Nat} {r : Option Vv × Mm} {m : Mm} {x1 : Int} (h : Ev d K_Mo_byteAt 0 0 [(18, 400), (0, x1)] [] m r) : Cl d 203 [(18, 400), (0, x1)] m r := ⟨([18, 0], 0, 2, K_Mo_byteAt), rfl, rfl, h⟩
theorem cl_Mo_isLetterByte {d : Nat} {r : Option Vv × Mm} {m : Mm} {x0 : Int} (h : Ev d K_Mo_isLetterByte 2 0 [(0, x0)] [] m r) : Cl d 204 [(0, x0)] m r := ⟨([0], 2, 1, K_Mo_isLetterByte), rfl, rfl, h⟩
theorem cl_Mo_isFigure {d : Nat} {r : Option Vv × Mm} {m : Mm} {x0 : Int} (h : Ev d K_Mo_isFigure 2 0 [(0, x0)] [] m r) : Cl d 205 [(0, x0)] m r := ⟨([0], 2, 1, K_Mo_isFigure), rfl, rfl, h⟩
theorem cl_Mo_isSign {d : Nat} {r : Option Vv × Mm} {m : Mm} {x0 : Int} (h : Ev d K_Mo_isSign 2 0 [(0, x0)] [] m r) : Cl d 206 [(0, x0)] m r := ⟨([0], 2, 1, K_Mo_isSign), rfl, rfl, h⟩
theorem cl_Mo_nextToken {d : Nat} {r : Option Vv × Mm} {m : Mm} (h : Ev d K_Mo_nextToken 3 0 [(18, 400), (9, 0)] [] m r) : Cl d 207 [(18, 400)] m r := ⟨([18], 3, 2, K_Mo_nextToken), rfl, rfl, h⟩
theorem cl_Mo_w2 {d : Nat} {r : Option Vv × Mm} {m : Mm} {x0 x1 : Int} (h : Ev d K_Mo_w2 1 0 [(0, x0), (0, x1)] [] m r) : Cl d 208 [(0, x0), (0, x1)] m r := ⟨([0, 0], 1, 2, K_Mo_w2), rfl, rfl, h⟩
theorem cl_Mo_w3 {d : Nat} {r : Option Vv × Mm} {m : Mm} {x0 x1 x2 : Int} (h : Ev d K_Mo_w3 1 0 [(0, x0), (0, x1), (0, x2)] [] m r) : Cl d 209 [(0, x0), (0, x1), (0, x2)] m r := ⟨([0, 0, 0], 1, 3, K_Mo_w3), rfl, rfl, h⟩
theorem cl_Mo_w4 {d : Nat} {r : Option Vv × Mm} {m : Mm} {x0 x1 x2 x3 : Int} (h : Ev d K_Mo_w4 1 0 [(0, x0), (0, x1), (0, x2), (0, x3)] [] m r) : Cl d 210 [(0, x0), (0, x1), (0, x2), (0, x3)] m r := ⟨([0, 0, 0, 0], 1, 4, K_Mo_w4), rfl, rfl, h⟩
theorem cl_Mo_w5 {d : Nat} {r : Option Vv × Mm} {m : Mm} {x0 x1 x2 x3 x4 : Int} (h : Ev d K_Mo_w5 1 0 [(0, x0), (0, x1), (0, x2), (0, x3), (0, x4)] [] m r) : Cl d 211 [(0, x0), (0, x1), (0, x2), (0, x3), (0, x4)] m r := ⟨([0, 0, 0, 0, 0], 1, 5, K_Mo_w5), rfl, rfl, h⟩
theorem cl_Mo_w6 {d : Nat} {r : Option Vv × Mm} {m : Mm} {x0 x1 x2 x3 x4 x5 : Int} (h : Ev d K_Mo_w6 1 0 [(0, x0), (0, x1), (0, x2), (0, x3), (0, x4), (0, x5)] [] m r) : Cl d 212 [(0, x0), (0, x1), (0, x2), (0, x3), (0, x4), (0, x5)] m r := ⟨([0, 0, 0, 0, 0, 0], 1, 6, K_Mo_w6), rfl, rfl, h⟩
theorem cl_Mo_isWord {d : Nat} {r : Option Vv × Mm} {m : Mm} {x1 : Int} (h : Ev d K_Mo_isWord 2 0 [(18, 400), (1, x1), (9, 0)] [] m r) : Cl d 213 [(18, 400), (1, x1)] m r := ⟨([18, 1], 2, 3, K_Mo_isWord), rfl, rfl, h⟩
theorem cl_Mo_emit {d : Nat} {r : Option Vv × Mm} {m : Mm} {x1 x2 : Int} (h : Ev d K_Mo_emit 3 0 [(18, 400), (0, x1), (0, x2)] [] m r) : Cl d 214 [(18, 400), (0, x1), (0, x2)] m r := ⟨([18, 0, 0], 3, 3, K_Mo_emit), rfl, rfl, h⟩
theorem cl_Mo_nameOf {d : Nat} {r : Option Vv × Mm} {m : Mm} (h : Ev d K_Mo_nameOf 0 0 [(18, 400)] [] m r) : Cl d 215 [(18, 400)] m r := ⟨([18], 0, 1, K_Mo_nameOf), rfl, rfl, h⟩
theorem cl_Mo_isOf {d : Nat} {r : Option Vv × Mm} {m : Mm} {x1 : Int} (h : Ev d K_Mo_isOf 2 0 [(18, 400), (0, x1)] [] m r) : Cl d 216 [(18, 400), (0, x1)] m r := ⟨([18, 0], 2, 2, K_Mo_isOf), rfl, rfl, h⟩
theorem cl_Mo_rank {d : Nat} {r : Option Vv × Mm} {m : Mm} {x0 : Int} (h : Ev d K_Mo_rank 0 0 [(0, x0)] [] m r) : Cl d 217 [(0, x0)] m r := ⟨([0], 0, 1, K_Mo_rank), rfl, rfl, h⟩
theorem cl_Mo_settle {d : Nat} {r : Option Vv × Mm} {m : Mm} {x1 : Int} (h : Ev d K_Mo_settle 3 0 [(18, 400), (0, x1)] [] m r) : Cl d 218 [(18, 400), (0, x1)] m r := ⟨([18, 0], 3, 2, K_Mo_settle), rfl, rfl, h⟩
theorem cl_Mo_openAt {d : Nat} {r : Option Vv × Mm} {m : Mm} (h : Ev d K_Mo_openAt 0 0 [(18, 400), (9, 0)] [] m r) : Cl d 219 [(18, 400)] m r := ⟨([18], 0, 2, K_Mo_openAt), rfl, rfl, h⟩
theorem cl_Mo_openNow {d : Nat} {r : Option Vv × Mm} {m : Mm} (h : Ev d K_Mo_openNow 0 0 [(18, 400)] [] m r) : Cl d 220 [(18, 400)] m r := ⟨([18], 0, 1, K_Mo_openNow), rfl, rfl, h⟩
theorem cl_Mo_isCompared {d : Nat} {r : Option Vv × Mm} {m : Mm} (h : Ev d K_Mo_isCompared 2 0 [(18, 400), (9, 0)] [] m r) : Cl d 221 [(18, 400)] m r := ⟨([18], 2, 2, K_Mo_isCompared), rfl, rfl, h⟩
theorem cl_Mo_isAskAhead {d : Nat} {r : Option Vv × Mm} {m : Mm} (h : Ev d K_Mo_isAskAhead 2 0 [(18, 400)] [] m r) : Cl d 222 [(18, 400)] m r := ⟨([18], 2, 1, K_Mo_isAskAhead), rfl, rfl, h⟩
theorem cl_Mo_opened {d : Nat} {r : Option Vv × Mm} {m : Mm} {x1 : Int} (h : Ev d K_Mo_opened 0 0 [(18, 400), (0, x1)] [] m r) : Cl d 223 [(18, 400), (0, x1)] m r := ⟨([18, 0], 0, 2, K_Mo_opened), rfl, rfl, h⟩
theorem cl_Mo_beginOne {d : Nat} {r : Option Vv × Mm} {m : Mm} (h : Ev d K_Mo_beginOne 0 0 [(18, 400), (9, 0)] [] m r) : Cl d 224 [(18, 400)] m r := ⟨([18], 0, 2, K_Mo_beginOne), rfl, rfl, h⟩
theorem cl_Mo_endOne {d : Nat} {r : Option Vv × Mm} {m : Mm} (h : Ev d K_Mo_endOne 0 0 [(18, 400)] [] m r) : Cl d 225 [(18, 400)] m r := ⟨([18], 0, 1, K_Mo_endOne), rfl, rfl, h⟩
theorem cl_Mo_compareOf {d : Nat} {r : Option Vv × Mm} {m : Mm} (h : Ev d K_Mo_compareOf 0 0 [(18, 400)] [] m r) : Cl d 226 [(18, 400)] m r := ⟨([18], 0, 1, K_Mo_compareOf), rfl, rfl, h⟩
theorem cl_Mo_betweenOf {d : Nat} {r : Option Vv × Mm} {m : Mm} (h : Ev d K_Mo_betweenOf 0 0 [(18, 400)] [] m r) : Cl d 227 [(18, 400)] m r := ⟨([18], 0, 1, K_Mo_betweenOf), rfl, rfl, h⟩
theorem cl_Mo_partOf {d : Nat} {r : Option Vv × Mm} {m : Mm} {x1 : Int} (h : Ev d K_Mo_partOf 0 0 [(18, 400), (0, x1)] [] m r) : Cl d 228 [(18, 400), (0, x1)] m r := ⟨([18, 0], 0, 2, K_Mo_partOf), rfl, rfl, h⟩
theorem cl_Mo_behindOne {d : Nat} {r : Option Vv × Mm} {m : Mm} (h : Ev d K_Mo_behindOne 0 0 [(18, 400), (9, 0), (9, 0), (9, 0)] [] m r) : Cl d 229 [(18, 400)] m r := ⟨([18], 0, 4, K_Mo_behindOne), rfl, rfl, h⟩
theorem cl_Mo_summed {d : Nat} {r : Option Vv × Mm} {m : Mm} (h : Ev d K_Mo_summed 0 0 [(18, 400), (9, 0)] [] m r) : Cl d 230 [(18, 400)] m r := ⟨([18], 0, 2, K_Mo_summed), rfl, rfl, h⟩
theorem cl_Mo_figure {d : Nat} {r : Option Vv × Mm} {m : Mm} {x1 x2 x3 : Int} (h : Ev d K_Mo_figure 0 0 [(18, 400), (0, x1), (0, x2), (0, x3)] [] m r) : Cl d 231 [(18, 400), (0, x1), (0, x2), (0, x3)] m r := ⟨([18, 0, 0, 0], 0, 4, K_Mo_figure), rfl, rfl, h⟩
theorem cl_Mo_lawClause {d : Nat} {r : Option Vv × Mm} {m : Mm} {x1 : Int} (h : Ev d K_Mo_lawClause 0 0 [(18, 400), (0, x1), (9, 0)] [] m r) : Cl d 232 [(18, 400), (0, x1)] m r := ⟨([18, 0], 0, 3, K_Mo_lawClause), rfl, rfl, h⟩
theorem cl_Mo_pair {d : Nat} {r : Option Vv × Mm} {m : Mm} {x1 x2 x3 x5 : Int} (h : Ev d K_Mo_pair 0 0 [(18, 400), (0, x1), (0, x2), (1, x3), (9, 0), (0, x5), (9, 0)] [] m r) : Cl d 233 [(18, 400), (0, x1), (0, x2), (1, x3), (0, x5)] m r := ⟨([18, 0, 0, 1, 0], 0, 7, K_Mo_pair), rfl, rfl, h⟩
theorem cl_Mo_body {d : Nat} {r : Option Vv × Mm} {m : Mm} {x1 x2 : Int} (h : Ev d K_Mo_body 0 0 [(18, 400), (0, x1), (0, x2)] [] m r) : Cl d 234 [(18, 400), (0, x1), (0, x2)] m r := ⟨([18, 0, 0], 0, 3, K_Mo_body), rfl, rfl, h⟩
theorem cl_Mo_sortOf {d : Nat} {r : Option Vv × Mm} {m : Mm} (h : Ev d K_Mo_sortOf 0 0 [(18, 400)] [] m r) : Cl d 235 [(18, 400)] m r := ⟨([18], 0, 1, K_Mo_sortOf), rfl, rfl, h⟩
theorem cl_Mo_clause {d : Nat} {r : Option Vv × Mm} {m : Mm} (h : Ev d K_Mo_clause 0 0 [(18, 400), (9, 0), (9, 0), (9, 0), (9, 0)] [] m r) : Cl d 236 [(18, 400)] m r := ⟨([18], 0, 5, K_Mo_clause), rfl, rfl, h⟩
theorem cl_Mo_readText {d : Nat} {r : Option Vv × Mm} {m : Mm} (h : Ev d K_Mo_readText 0 0 [(18, 400), (9, 0)] [] m r) : Cl d 237 [(18, 400)] m r := ⟨([18], 0, 2, K_Mo_readText), rfl, rfl, h⟩
theorem cl_Mo_text {d : Nat} {r : Option Vv × Mm} {m : Mm} (h : Ev d K_Mo_text 0 0 [(18, 400)] [] m r) : Cl d 238 [(18, 400)] m r := ⟨([18], 0, 1, K_Mo_text), rfl, rfl, h⟩
theorem cl_Mo_fault {d : Nat} {r : Option Vv × Mm} {m : Mm} {x1 : Int} (h : Ev d K_Mo_fault 0 0 [(18, 400), (0, x1)] [] m r) : Cl d 239 [(18, 400), (0, x1)] m r := ⟨([18, 0], 0, 2, K_Mo_fault), rfl, rfl, h⟩
theorem cl_Mo_by {d : Nat} {r : Option Vv × Mm} {m : Mm} {x1 : Int} (h : Ev d K_Mo_by 2 0 [(18, 400), (0, x1)] [] m r) : Cl d 240 [(18, 400), (0, x1)] m r := ⟨([18, 0], 2, 2, K_Mo_by), rfl, rfl, h⟩
theorem cl_Mo_clip {d : Nat} {r : Option Vv × Mm} {m : Mm} {x0 : Int} (h : Ev d K_Mo_clip 1 0 [(1, x0), (9, 0)] [] m r) : Cl d 241 [(1, x0)] m r := ⟨([1], 1, 2, K_Mo_clip), rfl, rfl, h⟩
theorem cl_Mo_two {d : Nat} {r : Option Vv × Mm} {m : Mm} {x0 x1 x3 : Int} (h : Ev d K_Mo_two 1 0 [(0, x0), (1, x1), (9, 0), (1, x3), (9, 0)] [] m r) : Cl d 242 [(0, x0), (1, x1), (1, x3)] m r := ⟨([0, 1, 1], 1, 5, K_Mo_two), rfl, rfl, h⟩
theorem cl_Mo_isAsked {d : Nat} {r : Option Vv × Mm} {m : Mm} {x0 x1 x3 : Int} (h : Ev d K_Mo_isAsked 2 0 [(0, x0), (1, x1), (9, 0), (1, x3), (9, 0)] [] m r) : Cl d 243 [(0, x0), (1, x1), (1, x3)] m r := ⟨([0, 1, 1], 2, 5, K_Mo_isAsked), rfl, rfl, h⟩
theorem cl_Mo_hedgeThere {d : Nat} {r : Option Vv × Mm} {m : Mm} {x1 : Int} (h : Ev d K_Mo_hedgeThere 1 0 [(18, 400), (1, x1), (9, 0)] [] m r) : Cl d 244 [(18, 400), (1, x1)] m r := ⟨([18, 1], 1, 3, K_Mo_hedgeThere), rfl, rfl, h⟩
theorem cl_Mo_apart {d : Nat} {r : Option Vv × Mm} {m : Mm} {x0 x1 : Int} (h : Ev d K_Mo_apart 0 0 [(0, x0), (0, x1)] [] m r) : Cl d 245 [(0, x0), (0, x1)] m r := ⟨([0, 0], 0, 2, K_Mo_apart), rfl, rfl, h⟩
theorem cl_Mo_farOf {d : Nat} {r : Option Vv × Mm} {m : Mm} {x0 x2 : Int} (h : Ev d K_Mo_farOf 1 0 [(1, x0), (9, 0), (1, x2), (9, 0)] [] m r) : Cl d 246 [(1, x0), (1, x2)] m r := ⟨([1, 1], 1, 4, K_Mo_farOf), rfl, rfl, h⟩
theorem cl_Mo_joined {d : Nat} {r : Option Vv × Mm} {m : Mm} {x0 x1 x2 : Int} (h : Ev d K_Mo_joined 2 0 [(0, x0), (0, x1), (0, x2)] [] m r) : Cl d 247 [(0, x0), (0, x1), (0, x2)] m r := ⟨([0, 0, 0], 2, 3, K_Mo_joined), rfl, rfl, h⟩
theorem cl_Mo_summedUp {d : Nat} {r : Option Vv × Mm} {m : Mm} {x1 x2 : Int} (h : Ev d K_Mo_summedUp 1 0 [(18, 400), (0, x1), (0, x2), (9, 0), (9, 0), (9, 0), (9, 0), (9, 0), (9, 0), (9, 0)] [] m r) : Cl d 248 [(18, 400), (0, x1), (0, x2)] m r := ⟨([18, 0, 0], 1, 10, K_Mo_summedUp), rfl, rfl, h⟩
theorem cl_Mo_says {d : Nat} {r : Option Vv × Mm} {m : Mm} {x1 x2 x3 x4 x5 : Int} (h : Ev d K_Mo_says 0 0 [(18, 400), (0, x1), (0, x2), (0, x3), (0, x4), (0, x5), (9, 0)] [] m r) : Cl d 249 [(18, 400), (0, x1), (0, x2), (0, x3), (0, x4), (0, x5)] m r := ⟨([18, 0, 0, 0, 0, 0], 0, 7, K_Mo_says), rfl, rfl, h⟩
theorem cl_Mo_name {d : Nat} {r : Option Vv × Mm} {m : Mm} {x1 : Int} (h : Ev d K_Mo_name 3 0 [(18, 400), (0, x1)] [] m r) : Cl d 250 [(18, 400), (0, x1)] m r := ⟨([18, 0], 3, 2, K_Mo_name), rfl, rfl, h⟩
theorem cl_Mo_frostsOf {d : Nat} {r : Option Vv × Mm} {m : Mm} {x1 x2 : Int} (h : Ev d K_Mo_frostsOf 0 0 [(18, 400), (0, x1), (0, x2)] [] m r) : Cl d 251 [(18, 400), (0, x1), (0, x2)] m r := ⟨([18, 0, 0], 0, 3, K_Mo_frostsOf), rfl, rfl, h⟩
theorem cl_Mo_goesOf {d : Nat} {r : Option Vv × Mm} {m : Mm} {x1 : Int} (h : Ev d K_Mo_goesOf 0 0 [(18, 400), (0, x1)] [] m r) : Cl d 252 [(18, 400), (0, x1)] m r := ⟨([18, 0], 0, 2, K_Mo_goesOf), rfl, rfl, h⟩
theorem cl_Mo_write {d : Nat} {r : Option Vv × Mm} {m : Mm} {x1 x2 : Int} (h : Ev d K_Mo_write 3 0 [(18, 400), (0, x1), (0, x2), (9, 0)] [] m r) : Cl d 253 [(18, 400), (0, x1), (0, x2)] m r := ⟨([18, 0, 0], 3, 4, K_Mo_write), rfl, rfl, h⟩
theorem cl_Mo_drawnBy {d : Nat} {r : Option Vv × Mm} {m : Mm} {x1 : Int} (h : Ev d K_Mo_drawnBy 0 0 [(18, 400), (0, x1), (9, 0)] [] m r) : Cl d 254 [(18, 400), (0, x1)] m r := ⟨([18, 0], 0, 3, K_Mo_drawnBy), rfl, rfl, h⟩
theorem cl_Mo_anew {d : Nat} {r : Option Vv × Mm} {m : Mm} (h : Ev d K_Mo_anew 3 0 [(18, 400)] [] m r) : Cl d 255 [(18, 400)] m r := ⟨([18], 3, 1, K_Mo_anew), rfl, rfl, h⟩
theorem cl_Mo_isHome {d : Nat} {r : Option Vv × Mm} {m : Mm} {x1 : Int} (h : Ev d K_Mo_isHome 2 0 [(18, 400), (0, x1)] [] m r) : Cl d 256 [(18, 400), (0, x1)] m r := ⟨([18, 0], 2, 2, K_Mo_isHome), rfl, rfl, h⟩
theorem cl_Mo_goNow {d : Nat} {r : Option Vv × Mm} {m : Mm} {x1 x2 : Int} (h : Ev d K_Mo_goNow 0 0 [(18, 400), (0, x1), (0, x2), (9, 0)] [] m r) : Cl d 257 [(18, 400), (0, x1), (0, x2)] m r := ⟨([18, 0, 0], 0, 4, K_Mo_goNow), rfl, rfl, h⟩
theorem cl_Mo_onward {d : Nat} {r : Option Vv × Mm} {m : Mm} {x1 x2 : Int} (h : Ev d K_Mo_onward 0 0 [(18, 400), (0, x1), (0, x2)] [] m r) : Cl d 258 [(18, 400), (0, x1), (0, x2)] m r := ⟨([18, 0, 0], 0, 3, K_Mo_onward), rfl, rfl, h⟩
theorem cl_Mo_goOn {d : Nat} {r : Option Vv × Mm} {m : Mm} {x1 : Int} (h : Ev d K_Mo_goOn 3 0 [(18, 400), (0, x1), (9, 0)] [] m r) : Cl d 259 [(18, 400), (0, x1)] m r := ⟨([18, 0], 3, 3, K_Mo_goOn), rfl, rfl, h⟩
theorem cl_Mo_pass {d : Nat} {r : Option Vv × Mm} {m : Mm} (h : Ev d K_Mo_pass 3 0 [(18, 400), (9, 0)] [] m r) : Cl d 260 [(18, 400)] m r := ⟨([18], 3, 2, K_Mo_pass), rfl, rfl, h⟩
theorem cl_Mo_turnedBy {d : Nat} {r : Option Vv × Mm} {m : Mm} {x1 x2 x3 x4 : Int} (h : Ev d K_Mo_turnedBy 0 0 [(18, 400), (0, x1), (0, x2), (0, x3), (0, x4), (9, 0), (9, 0), (9, 0)] [] m r) : Cl d 261 [(18, 400), (0, x1), (0, x2), (0, x3), (0, x4)] m r := ⟨([18, 0, 0, 0, 0], 0, 8, K_Mo_turnedBy), rfl, rfl, h⟩
theorem cl_Mo_ofHand {d : Nat} {r : Option Vv × Mm} {m : Mm} {x1 x2 x3 : Int} (h : Ev d K_Mo_ofHand 0 0 [(18, 400), (0, x1), (0, x2), (0, x3)] [] m r) : Cl d 262 [(18, 400), (0, x1), (0, x2), (0, x3)] m r := ⟨([18, 0, 0, 0], 0, 4, K_Mo_ofHand), rfl, rfl, h⟩
theorem cl_Mo_pressNow {d : Nat} {r : Option Vv × Mm} {m : Mm} {x1 x2 : Int} (h : Ev d K_Mo_pressNow 3 0 [(18, 400), (0, x1), (0, x2)] [] m r) : Cl d 263 [(18, 400), (0, x1), (0, x2)] m r := ⟨([18, 0, 0], 3, 3, K_Mo_pressNow), rfl, rfl, h⟩
theorem cl_Mo_keep {d : Nat} {r : Option Vv × Mm} {m : Mm} (h : Ev d K_Mo_keep 3 0 [(18, 400), (9, 0), (9, 0)] [] m r) : Cl d 264 [(18, 400)] m r := ⟨([18], 3, 3, K_Mo_keep), rfl, rfl, h⟩
theorem cl_Mo_undo {d : Nat} {r : Option Vv × Mm} {m : Mm} (h : Ev d K_Mo_undo 0 0 [(18, 400), (9, 0), (9, 0)] [] m r) : Cl d 265 [(18, 400)] m r := ⟨([18], 0, 3, K_Mo_undo), rfl, rfl, h⟩
theorem cl_Mo_plant {d : Nat} {r : Option Vv × Mm} {m : Mm} {x1 : Int} (h : Ev d K_Mo_plant 2 0 [(18, 400), (0, x1)] [] m r) : Cl d 266 [(18, 400), (0, x1)] m r := ⟨([18, 0], 2, 2, K_Mo_plant), rfl, rfl, h⟩
theorem cl_Mo_cut {d : Nat} {r : Option Vv × Mm} {m : Mm} {x1 : Int} (h : Ev d K_Mo_cut 2 0 [(18, 400), (0, x1)] [] m r) : Cl d 267 [(18, 400), (0, x1)] m r := ⟨([18, 0], 2, 2, K_Mo_cut), rfl, rfl, h⟩
theorem cl_Mo_press {d : Nat} {r : Option Vv × Mm} {m : Mm} {x1 x2 : Int} (h : Ev d K_Mo_press 2 0 [(18, 400), (0, x1), (0, x2)] [] m r) : Cl d 268 [(18, 400), (0, x1), (0, x2)] m r := ⟨([18, 0, 0], 2, 3, K_Mo_press), rfl, rfl, h⟩
theorem cl_Mo_canGo {d : Nat} {r : Option Vv × Mm} {m : Mm} {x1 x2 : Int} (h : Ev d K_Mo_canGo 2 0 [(18, 400), (0, x1), (0, x2)] [] m r) : Cl d 269 [(18, 400), (0, x1), (0, x2)] m r := ⟨([18, 0, 0], 2, 3, K_Mo_canGo), rfl, rfl, h⟩
theorem cl_Mo_go {d : Nat} {r : Option Vv × Mm} {m : Mm} {x1 x2 : Int} (h : Ev d K_Mo_go 0 0 [(18, 400), (0, x1), (0, x2)] [] m r) : Cl d 270 [(18, 400), (0, x1), (0, x2)] m r := ⟨([18, 0, 0], 0, 3, K_Mo_go), rfl, rfl, h⟩
theorem cl_Mo_arePassed {d : Nat} {r : Option Vv × Mm} {m : Mm} {x1 : Int} (h : Ev d K_Mo_arePassed 2 0 [(18, 400), (0, x1), (9, 0)] [] m r) : Cl d 271 [(18, 400), (0, x1)] m r := ⟨([18, 0], 2, 3, K_Mo_arePassed), rfl, rfl, h⟩
theorem cl_Mo_hour {d : Nat} {r : Option Vv × Mm} {m : Mm} {x1 : Int} (h : Ev d K_Mo_hour 0 0 [(18, 400), (0, x1)] [] m r) : Cl d 272 [(18, 400), (0, x1)] m r := ⟨([18, 0], 0, 2, K_Mo_hour), rfl, rfl, h⟩
theorem cl_Mo_isPlayed {d : Nat} {r : Option Vv × Mm} {m : Mm} {x1 : Int} (h : Ev d K_Mo_isPlayed 2 0 [(18, 400), (0, x1), (9, 0), (9, 0)] [] m r) : Cl d 273 [(18, 400), (0, x1)] m r := ⟨([18, 0], 2, 4, K_Mo_isPlayed), rfl, rfl, h⟩
theorem cl_Mo_played {d : Nat} {r : Option Vv × Mm} {m : Mm} {x1 : Int} (h : Ev d K_Mo_played 0 0 [(18, 400), (0, x1), (9, 0)] [] m r) : Cl d 274 [(18, 400), (0, x1)] m r := ⟨([18, 0], 0, 3, K_Mo_played), rfl, rfl, h⟩
theorem cl_Mo_happens {d : Nat} {r : Option Vv × Mm} {m : Mm} {x1 : Int} (h : Ev d K_Mo_happens 3 0 [(18, 400), (0, x1), (9, 0)] [] m r) : Cl d 275 [(18, 400), (0, x1)] m r := ⟨([18, 0], 3, 3, K_Mo_happens), rfl, rfl, h⟩
theorem cl_Mo_years {d : Nat} {r : Option Vv × Mm} {m : Mm} {x1 x2 : Int} (h : Ev d K_Mo_years 0 0 [(18, 400), (0, x1), (0, x2), (9, 0), (9, 0)] [] m r) : Cl d 276 [(18, 400), (0, x1), (0, x2)] m r := ⟨([18, 0, 0], 0, 5, K_Mo_years), rfl, rfl, h⟩
theorem cl_Mo_of {d : Nat} {r : Option Vv × Mm} {m : Mm} {x1 x2 : Int} (h : Ev d K_Mo_of 0 0 [(18, 400), (0, x1), (0, x2)] [] m r) : Cl d 277 [(18, 400), (0, x1), (0, x2)] m r := ⟨([18, 0, 0], 0, 3, K_Mo_of), rfl, rfl, h⟩
theorem cl_Mo_cell {d : Nat} {r : Option Vv × Mm} {m : Mm} {x1 x2 : Int} (h : Ev d K_Mo_cell 0 0 [(18, 400), (0, x1), (0, x2)] [] m r) : Cl d 278 [(18, 400), (0, x1), (0, x2)] m r := ⟨([18, 0, 0], 0, 3, K_Mo_cell), rfl, rfl, h⟩
theorem cl_Mo_hedge {d : Nat} {r : Option Vv × Mm} {m : Mm} {x1 x2 : Int} (h : Ev d K_Mo_hedge 0 0 [(18, 400), (0, x1), (0, x2)] [] m r) : Cl d 279 [(18, 400), (0, x1), (0, x2)] m r := ⟨([18, 0, 0], 0, 3, K_Mo_hedge), rfl, rfl, h⟩
theorem cl_Mo_between {d : Nat} {r : Option Vv × Mm} {m : Mm} {x1 x2 : Int} (h : Ev d K_Mo_between 0 0 [(18, 400), (0, x1), (0, x2)] [] m r) : Cl d 280 [(18, 400), (0, x1), (0, x2)] m r := ⟨([18, 0, 0], 0, 3, K_Mo_between), rfl, rfl, h⟩
theorem cl_Mo_is {d : Nat} {r : Option Vv × Mm} {m : Mm} {x1 : Int} (h : Ev d K_Mo_is 0 0 [(18, 400), (0, x1)] [] m r) : Cl d 281 [(18, 400), (0, x1)] m r := ⟨([18, 0], 0, 2, K_Mo_is), rfl, rfl, h⟩
theorem cl_Mo_entry {d : Nat} {r : Option Vv × Mm} {m : Mm} {x1 x2 : Int} (h : Ev d K_Mo_entry 0 0 [(18, 400), (0, x1), (0, x2), (9, 0)] [] m r) : Cl d 282 [(18, 400), (0, x1), (0, x2)] m r := ⟨([18, 0, 0], 0, 4, K_Mo_entry), rfl, rfl, h⟩
theorem cl_Mo_book {d : Nat} {r : Option Vv × Mm} {m : Mm} {x1 x2 : Int} (h : Ev d K_Mo_book 0 0 [(18, 400), (0, x1), (0, x2)] [] m r) : Cl d 283 [(18, 400), (0, x1), (0, x2)] m r := ⟨([18, 0, 0], 0, 3, K_Mo_book), rfl, rfl, h⟩
theorem cl_Mo_ledger {d : Nat} {r : Option Vv × Mm} {m : Mm} {x1 : Int} (h : Ev d K_Mo_ledger 0 0 [(18, 400), (0, x1), (9, 0), (9, 0)] [] m r) : Cl d 284 [(18, 400), (0, x1)] m r := ⟨([18, 0], 0, 4, K_Mo_ledger), rfl, rfl, h⟩
theorem cl_Mo_thickest {d : Nat} {r : Option Vv × Mm} {m : Mm} (h : Ev d K_Mo_thickest 0 0 [(18, 400), (9, 0), (9, 0)] [] m r) : Cl d 285 [(18, 400)] m r := ⟨([18], 0, 3, K_Mo_thickest), rfl, rfl, h⟩
theorem cl_Mo_foretold {d : Nat} {r : Option Vv × Mm} {m : Mm} {x1 x2 : Int} (h : Ev d K_Mo_foretold 0 0 [(18, 400), (0, x1), (0, x2), (9, 0), (9, 0)] [] m r) : Cl d 286 [(18, 400), (0, x1), (0, x2)] m r := ⟨([18, 0, 0], 0, 5, K_Mo_foretold), rfl, rfl, h⟩
theorem cl_Mo_layFar {d : Nat} {r : Option Vv × Mm} {m : Mm} {x1 x2 : Int} (h : Ev d K_Mo_layFar 3 0 [(18, 400), (0, x1), (0, x2), (9, 0), (9, 0), (9, 0), (9, 0), (9, 0)] [] m r) : Cl d 287 [(18, 400), (0, x1), (0, x2)] m r := ⟨([18, 0, 0], 3, 8, K_Mo_layFar), rfl, rfl, h⟩
theorem cl_Mo_areCells {d : Nat} {r : Option Vv × Mm} {m : Mm} {x0 x1 : Int} (h : Ev d K_Mo_areCells 2 0 [(0, x0), (0, x1)] [] m r) : Cl d 288 [(0, x0), (0, x1)] m r := ⟨([0, 0], 2, 2, K_Mo_areCells), rfl, rfl, h⟩
theorem cl_Mo_miles {d : Nat} {r : Option Vv × Mm} {m : Mm} {x1 x2 : Int} (h : Ev d K_Mo_miles 0 0 [(18, 400), (0, x1), (0, x2)] [] m r) : Cl d 289 [(18, 400), (0, x1), (0, x2)] m r := ⟨([18, 0, 0], 0, 3, K_Mo_miles), rfl, rfl, h⟩
theorem cl_Mo_way {d : Nat} {r : Option Vv × Mm} {m : Mm} {x1 x2 x3 : Int} (h : Ev d K_Mo_way 0 0 [(18, 400), (0, x1), (0, x2), (0, x3), (9, 0), (9, 0), (9, 0), (9, 0)] [] m r) : Cl d 290 [(18, 400), (0, x1), (0, x2), (0, x3)] m r := ⟨([18, 0, 0, 0], 0, 8, K_Mo_way), rfl, rfl, h⟩
theorem cl_Mo_cuts {d : Nat} {r : Option Vv × Mm} {m : Mm} {x1 x2 : Int} (h : Ev d K_Mo_cuts 0 0 [(18, 400), (0, x1), (0, x2)] [] m r) : Cl d 291 [(18, 400), (0, x1), (0, x2)] m r := ⟨([18, 0, 0], 0, 3, K_Mo_cuts), rfl, rfl, h⟩
theorem cl_Mo_farthestNow {d : Nat} {r : Option Vv × Mm} {m : Mm} (h : Ev d K_Mo_farthestNow 0 0 [(18, 400), (9, 0), (9, 0)] [] m r) : Cl d 292 [(18, 400)] m r := ⟨([18], 0, 3, K_Mo_farthestNow), rfl, rfl, h⟩
theorem cl_Mo_farthest {d : Nat} {r : Option Vv × Mm} {m : Mm} {x1 : Int} (h : Ev d K_Mo_farthest 0 0 [(18, 400), (0, x1)] [] m r) : Cl d 293 [(18, 400), (0, x1)] m r := ⟨([18, 0], 0, 2, K_Mo_farthest), rfl, rfl, h⟩
theorem cl_Mo_wide {d : Nat} {r : Option Vv × Mm} {m : Mm} (h : Ev d K_Mo_wide 0 0 [(18, 400), (9, 0), (9, 0)] [] m r) : Cl d 294 [(18, 400)] m r := ⟨([18], 0, 3, K_Mo_wide), rfl, rfl, h⟩
theorem cl_Mo_regionOf {d : Nat} {r : Option Vv × Mm} {m : Mm} {x1 x2 : Int} (h : Ev d K_Mo_regionOf 0 0 [(18, 400), (0, x1), (0, x2), (9, 0), (9, 0), (9, 0), (9, 0)] [] m r) : Cl d 295 [(18, 400), (0, x1), (0, x2)] m r := ⟨([18, 0, 0], 0, 7, K_Mo_regionOf), rfl, rfl, h⟩
theorem cl_Mo_regions {d : Nat} {r : Option Vv × Mm} {m : Mm} {x1 : Int} (h : Ev d K_Mo_regions 0 0 [(18, 400), (0, x1), (9, 0), (9, 0), (9, 0), (9, 0), (9, 0)] [] m r) : Cl d 296 [(18, 400), (0, x1)] m r := ⟨([18, 0], 0, 7, K_Mo_regions), rfl, rfl, h⟩
theorem cl_Mo_rings {d : Nat} {r : Option Vv × Mm} {m : Mm} (h : Ev d K_Mo_rings 0 0 [(18, 400)] [] m r) : Cl d 297 [(18, 400)] m r := ⟨([18], 0, 1, K_Mo_rings), rfl, rfl, h⟩
theorem cl_Mo_ends {d : Nat} {r : Option Vv × Mm} {m : Mm} (h : Ev d K_Mo_ends 0 0 [(18, 400), (9, 0), (9, 0)] [] m r) : Cl d 298 [(18, 400)] m r := ⟨([18], 0, 3, K_Mo_ends), rfl, rfl, h⟩
theorem cl_Mo_isNeck {d : Nat} {r : Option Vv × Mm} {m : Mm} {x1 : Int} (h : Ev d K_Mo_isNeck 2 0 [(18, 400), (0, x1), (9, 0), (9, 0)] [] m r) : Cl d 299 [(18, 400), (0, x1)] m r := ⟨([18, 0], 2, 4, K_Mo_isNeck), rfl, rfl, h⟩
theorem cl_Mo_necks {d : Nat} {r : Option Vv × Mm} {m : Mm} (h : Ev d K_Mo_necks 0 0 [(18, 400), (9, 0), (9, 0)] [] m r) : Cl d 300 [(18, 400)] m r := ⟨([18], 0, 3, K_Mo_necks), rfl, rfl, h⟩
theorem cl_Mo_paths {d : Nat} {r : Option Vv × Mm} {m : Mm} {x1 x2 : Int} (h : Ev d K_Mo_paths 1 0 [(18, 400), (0, x1), (0, x2), (9, 0), (9, 0), (9, 0), (9, 0)] [] m r) : Cl d 301 [(18, 400), (0, x1), (0, x2)] m r := ⟨([18, 0, 0], 1, 7, K_Mo_paths), rfl, rfl, h⟩
theorem cl_Mo_walk {d : Nat} {r : Option Vv × Mm} {m : Mm} {x1 x2 : Int} (h : Ev d K_Mo_walk 0 0 [(18, 400), (0, x1), (0, x2), (9, 0), (9, 0), (9, 0), (9, 0)] [] m r) : Cl d 302 [(18, 400), (0, x1), (0, x2)] m r := ⟨([18, 0, 0], 0, 7, K_Mo_walk), rfl, rfl, h⟩
theorem cl_Mo_home {d : Nat} {r : Option Vv × Mm} {m : Mm} {x1 : Int} (h : Ev d K_Mo_home 0 0 [(18, 400), (0, x1), (9, 0), (9, 0), (9, 0), (9, 0)] [] m r) : Cl d 303 [(18, 400), (0, x1)] m r := ⟨([18, 0], 0, 6, K_Mo_home), rfl, rfl, h⟩
theorem cl_Mo_gates {d : Nat} {r : Option Vv × Mm} {m : Mm} {x1 x2 : Int} (h : Ev d K_Mo_gates 0 0 [(18, 400), (0, x1), (0, x2), (9, 0), (9, 0)] [] m r) : Cl d 304 [(18, 400), (0, x1), (0, x2)] m r := ⟨([18, 0, 0], 0, 5, K_Mo_gates), rfl, rfl, h⟩
theorem cl_Mo_layReach {d : Nat} {r : Option Vv × Mm} {m : Mm} {x1 : Int} (h : Ev d K_Mo_layReach 3 0 [(18, 400), (0, x1), (9, 0), (9, 0)] [] m r) : Cl d 305 [(18, 400), (0, x1)] m r := ⟨([18, 0], 3, 4, K_Mo_layReach), rfl, rfl, h⟩
theorem cl_Mo_lowestGates {d : Nat} {r : Option Vv × Mm} {m : Mm} {x1 : Int} (h : Ev d K_Mo_lowestGates 0 0 [(18, 400), (0, x1), (9, 0), (9, 0), (9, 0), (9, 0), (9, 0)] [] m r) : Cl d 306 [(18, 400), (0, x1)] m r := ⟨([18, 0], 0, 7, K_Mo_lowestGates), rfl, rfl, h⟩
theorem cl_Mo_turned {d : Nat} {r : Option Vv × Mm} {m : Mm} {x1 x2 x3 : Int} (h : Ev d K_Mo_turned 0 0 [(18, 400), (0, x1), (0, x2), (0, x3)] [] m r) : Cl d 307 [(18, 400), (0, x1), (0, x2), (0, x3)] m r := ⟨([18, 0, 0, 0], 0, 4, K_Mo_turned), rfl, rfl, h⟩
theorem cl_Mo_unlikeBy {d : Nat} {r : Option Vv × Mm} {m : Mm} {x1 x2 : Int} (h : Ev d K_Mo_unlikeBy 0 0 [(18, 400), (0, x1), (0, x2)] [] m r) : Cl d 308 [(18, 400), (0, x1), (0, x2)] m r := ⟨([18, 0, 0], 0, 3, K_Mo_unlikeBy), rfl, rfl, h⟩
theorem cl_Mo_bestTurn {d : Nat} {r : Option Vv × Mm} {m : Mm} {x1 : Int} (h : Ev d K_Mo_bestTurn 0 0 [(18, 400), (0, x1), (9, 0), (9, 0)] [] m r) : Cl d 309 [(18, 400), (0, x1)] m r := ⟨([18, 0], 0, 4, K_Mo_bestTurn), rfl, rfl, h⟩
theorem cl_Mo_unlike {d : Nat} {r : Option Vv × Mm} {m : Mm} {x1 x2 : Int} (h : Ev d K_Mo_unlike 0 0 [(18, 400), (0, x1), (0, x2)] [] m r) : Cl d 310 [(18, 400), (0, x1), (0, x2)] m r := ⟨([18, 0, 0], 0, 3, K_Mo_unlike), rfl, rfl, h⟩
theorem cl_Mo_owner {d : Nat} {r : Option Vv × Mm} {m : Mm} {x1 : Int} (h : Ev d K_Mo_owner 0 0 [(18, 400), (0, x1), (9, 0), (9, 0), (9, 0), (9, 0)] [] m r) : Cl d 311 [(18, 400), (0, x1)] m r := ⟨([18, 0], 0, 6, K_Mo_owner), rfl, rfl, h⟩
theorem cl_Mo_twinBy {d : Nat} {r : Option Vv × Mm} {m : Mm} {x1 x2 : Int} (h : Ev d K_Mo_twinBy 0 0 [(18, 400), (0, x1), (0, x2), (9, 0)] [] m r) : Cl d 312 [(18, 400), (0, x1), (0, x2)] m r := ⟨([18, 0, 0], 0, 4, K_Mo_twinBy), rfl, rfl, h⟩
theorem cl_Mo_twins {d : Nat} {r : Option Vv × Mm} {m : Mm} {x1 x2 : Int} (h : Ev d K_Mo_twins 0 0 [(18, 400), (0, x1), (0, x2)] [] m r) : Cl d 313 [(18, 400), (0, x1), (0, x2)] m r := ⟨([18, 0, 0], 0, 3, K_Mo_twins), rfl, rfl, h⟩
theorem cl_Mo_kinds {d : Nat} {r : Option Vv × Mm} {m : Mm} (h : Ev d K_Mo_kinds 0 0 [(18, 400), (9, 0), (9, 0), (9, 0), (9, 0)] [] m r) : Cl d 314 [(18, 400)] m r := ⟨([18], 0, 5, K_Mo_kinds), rfl, rfl, h⟩
theorem cl_Mo_selves {d : Nat} {r : Option Vv × Mm} {m : Mm} {x1 : Int} (h : Ev d K_Mo_selves 0 0 [(18, 400), (0, x1), (9, 0), (9, 0)] [] m r) : Cl d 315 [(18, 400), (0, x1)] m r := ⟨([18, 0], 0, 4, K_Mo_selves), rfl, rfl, h⟩
theorem cl_Mo_look {d : Nat} {r : Option Vv × Mm} {m : Mm} {x1 : Int} (h : Ev d K_Mo_look 0 0 [(18, 400), (0, x1), (9, 0), (9, 0), (9, 0), (9, 0), (9, 0), (9, 0)] [] m r) : Cl d 316 [(18, 400), (0, x1)] m r := ⟨([18, 0], 0, 8, K_Mo_look), rfl, rfl, h⟩
theorem cl_Mo_said {d : Nat} {r : Option Vv × Mm} {m : Mm} {x1 x2 : Int} (h : Ev d K_Mo_said 0 0 [(18, 400), (0, x1), (0, x2)] [] m r) : Cl d 317 [(18, 400), (0, x1), (0, x2)] m r := ⟨([18, 0, 0], 0, 3, K_Mo_said), rfl, rfl, h⟩
theorem cl_Mo_whose {d : Nat} {r : Option Vv × Mm} {m : Mm} (h : Ev d K_Mo_whose 0 0 [(18, 400), (9, 0), (9, 0), (9, 0), (9, 0)] [] m r) : Cl d 318 [(18, 400)] m r := ⟨([18], 0, 5, K_Mo_whose), rfl, rfl, h⟩
theorem cl_Mo_image {d : Nat} {r : Option Vv × Mm} {m : Mm} (h : Ev d K_Mo_image 0 0 [(18, 400)] [] m r) : Cl d 319 [(18, 400)] m r := ⟨([18], 0, 1, K_Mo_image), rfl, rfl, h⟩
theorem cl_Mo_back {d : Nat} {r : Option Vv × Mm} {m : Mm} (h : Ev d K_Mo_back 0 0 [(18, 400)] [] m r) : Cl d 320 [(18, 400)] m r := ⟨([18], 0, 1, K_Mo_back), rfl, rfl, h⟩
theorem cl_Mo_about {d : Nat} {r : Option Vv × Mm} {m : Mm} {x1 : Int} (h : Ev d K_Mo_about 0 0 [(18, 400), (0, x1)] [] m r) : Cl d 321 [(18, 400), (0, x1)] m r := ⟨([18, 0], 0, 2, K_Mo_about), rfl, rfl, h⟩
theorem cl_In_bitCount {d : Nat} {r : Option Vv × Mm} {m : Mm} {x0 : Int} (h : Ev d K_In_bitCount 0 0 [(0, x0)] [] m r) : Cl d 322 [(0, x0)] m r := ⟨([0], 0, 1, K_In_bitCount), rfl, rfl, h⟩
theorem cl_Lo_bitCount {d : Nat} {r : Option Vv × Mm} {m : Mm} {x0 : Int} (h : Ev d K_Lo_bitCount 0 0 [(1, x0), (9, 0)] [] m r) : Cl d 323 [(1, x0)] m r := ⟨([1], 0, 2, K_Lo_bitCount), rfl, rfl, h⟩
end
