section
-- ===== PART A: goes FIRST, ahead of the names: the tables' words, and 'selects' of the private methods out of them =====
/-- a private method of a class that the tables say can be made, by its rows of tables_1 -/
def lw_okq (q : MethodName × Nat) : Prop := (q.1.cls ≠ "java/lang/invoke/MethodHandle" ∧ q.1.cls ≠ "java/lang/invoke/VarHandle") ∧ Cond.instantiable q.1.cls q.2 ∈ tables_1 ∧ Cond.privateMethod q.1 ∈ tables_1 ∧ Cond.instanceMethod q.1 ∈ tables_1
theorem lw_p0 : lw_okq (⟨"StockingLine", "noKing", "(I)Z"⟩, 13) := ⟨⟨by decide +kernel, by decide +kernel⟩, List.mem_of_getElem? (i := 19) (by decide +kernel), List.mem_of_getElem? (i := 407) (by decide +kernel), List.mem_of_getElem? (i := 408) (by decide +kernel)⟩
theorem lw_p1 : lw_okq (⟨"StockingLine$Court", "wrongnessAt", "(IILStockingLine$Rope;I)I"⟩, 5) := ⟨⟨by decide +kernel, by decide +kernel⟩, List.mem_of_getElem? (i := 43) (by decide +kernel), List.mem_of_getElem? (i := 415) (by decide +kernel), List.mem_of_getElem? (i := 416) (by decide +kernel)⟩
theorem lw_p2 : lw_okq (⟨"StockingLine", "wrongOfBest", "(I)I"⟩, 13) := ⟨⟨by decide +kernel, by decide +kernel⟩, List.mem_of_getElem? (i := 19) (by decide +kernel), List.mem_of_getElem? (i := 460) (by decide +kernel), List.mem_of_getElem? (i := 461) (by decide +kernel)⟩
theorem lw_p3 : lw_okq (⟨"StockingLine", "calvesOf", "(I)I"⟩, 13) := ⟨⟨by decide +kernel, by decide +kernel⟩, List.mem_of_getElem? (i := 19) (by decide +kernel), List.mem_of_getElem? (i := 465) (by decide +kernel), List.mem_of_getElem? (i := 466) (by decide +kernel)⟩
theorem lw_p4 : lw_okq (⟨"StockingLine", "bestToTry", "(I)I"⟩, 13) := ⟨⟨by decide +kernel, by decide +kernel⟩, List.mem_of_getElem? (i := 19) (by decide +kernel), List.mem_of_getElem? (i := 473) (by decide +kernel), List.mem_of_getElem? (i := 474) (by decide +kernel)⟩
theorem lw_p5 : lw_okq (⟨"StockingLine", "noStocking", "(I)Z"⟩, 13) := ⟨⟨by decide +kernel, by decide +kernel⟩, List.mem_of_getElem? (i := 19) (by decide +kernel), List.mem_of_getElem? (i := 492) (by decide +kernel), List.mem_of_getElem? (i := 493) (by decide +kernel)⟩
theorem lw_p6 : lw_okq (⟨"StockingLine", "noLine", "()Z"⟩, 13) := ⟨⟨by decide +kernel, by decide +kernel⟩, List.mem_of_getElem? (i := 19) (by decide +kernel), List.mem_of_getElem? (i := 522) (by decide +kernel), List.mem_of_getElem? (i := 523) (by decide +kernel)⟩
theorem lw_p7 : lw_okq (⟨"StockingLine$Court", "hasPair", "(ILStockingLine$Rope;)Z"⟩, 5) := ⟨⟨by decide +kernel, by decide +kernel⟩, List.mem_of_getElem? (i := 43) (by decide +kernel), List.mem_of_getElem? (i := 583) (by decide +kernel), List.mem_of_getElem? (i := 584) (by decide +kernel)⟩
theorem lw_p8 : lw_okq (⟨"StockingLine$Wedding", "weigh", "(ILStockingLine$Court;LStockingLine$Rope;)V"⟩, 6) := ⟨⟨by decide +kernel, by decide +kernel⟩, List.mem_of_getElem? (i := 156) (by decide +kernel), List.mem_of_getElem? (i := 600) (by decide +kernel), List.mem_of_getElem? (i := 601) (by decide +kernel)⟩
theorem lw_p9 : lw_okq (⟨"StockingLine$Wedding", "giveFrom", "(IIII)V"⟩, 6) := ⟨⟨by decide +kernel, by decide +kernel⟩, List.mem_of_getElem? (i := 156) (by decide +kernel), List.mem_of_getElem? (i := 608) (by decide +kernel), List.mem_of_getElem? (i := 609) (by decide +kernel)⟩
theorem lw_p10 : lw_okq (⟨"StockingLine$Wedding", "keepIfBetter", "(II)V"⟩, 6) := ⟨⟨by decide +kernel, by decide +kernel⟩, List.mem_of_getElem? (i := 156) (by decide +kernel), List.mem_of_getElem? (i := 612) (by decide +kernel), List.mem_of_getElem? (i := 613) (by decide +kernel)⟩
theorem lw_p11 : lw_okq (⟨"StockingLine$Kennel", "fewestOver", "(I)I"⟩, 3) := ⟨⟨by decide +kernel, by decide +kernel⟩, List.mem_of_getElem? (i := 186) (by decide +kernel), List.mem_of_getElem? (i := 636) (by decide +kernel), List.mem_of_getElem? (i := 637) (by decide +kernel)⟩
theorem lw_p12 : lw_okq (⟨"StockingLine$Kennel", "triesFrom", "(II)I"⟩, 3) := ⟨⟨by decide +kernel, by decide +kernel⟩, List.mem_of_getElem? (i := 186) (by decide +kernel), List.mem_of_getElem? (i := 640) (by decide +kernel), List.mem_of_getElem? (i := 641) (by decide +kernel)⟩
theorem lw_p13 : lw_okq (⟨"StockingLine", "leastActOn", "(II)I"⟩, 13) := ⟨⟨by decide +kernel, by decide +kernel⟩, List.mem_of_getElem? (i := 19) (by decide +kernel), List.mem_of_getElem? (i := 663) (by decide +kernel), List.mem_of_getElem? (i := 664) (by decide +kernel)⟩
theorem lw_p14 : lw_okq (⟨"StockingLine", "findPartners", "()V"⟩, 13) := ⟨⟨by decide +kernel, by decide +kernel⟩, List.mem_of_getElem? (i := 19) (by decide +kernel), List.mem_of_getElem? (i := 673) (by decide +kernel), List.mem_of_getElem? (i := 674) (by decide +kernel)⟩
theorem lw_p15 : lw_okq (⟨"StockingLine", "leavesNoPair", "(I)Z"⟩, 13) := ⟨⟨by decide +kernel, by decide +kernel⟩, List.mem_of_getElem? (i := 19) (by decide +kernel), List.mem_of_getElem? (i := 680) (by decide +kernel), List.mem_of_getElem? (i := 681) (by decide +kernel)⟩
def lw_privs_1 : List (MethodName × Nat) := [(⟨"StockingLine", "noKing", "(I)Z"⟩, 13), (⟨"StockingLine$Court", "wrongnessAt", "(IILStockingLine$Rope;I)I"⟩, 5), (⟨"StockingLine", "wrongOfBest", "(I)I"⟩, 13), (⟨"StockingLine", "calvesOf", "(I)I"⟩, 13), (⟨"StockingLine", "bestToTry", "(I)I"⟩, 13), (⟨"StockingLine", "noStocking", "(I)Z"⟩, 13), (⟨"StockingLine", "noLine", "()Z"⟩, 13), (⟨"StockingLine$Court", "hasPair", "(ILStockingLine$Rope;)Z"⟩, 5), (⟨"StockingLine$Wedding", "weigh", "(ILStockingLine$Court;LStockingLine$Rope;)V"⟩, 6), (⟨"StockingLine$Wedding", "giveFrom", "(IIII)V"⟩, 6), (⟨"StockingLine$Wedding", "keepIfBetter", "(II)V"⟩, 6), (⟨"StockingLine$Kennel", "fewestOver", "(I)I"⟩, 3), (⟨"StockingLine$Kennel", "triesFrom", "(II)I"⟩, 3), (⟨"StockingLine", "leastActOn", "(II)I"⟩, 13), (⟨"StockingLine", "findPartners", "()V"⟩, 13), (⟨"StockingLine", "leavesNoPair", "(I)Z"⟩, 13)]
theorem lw_r1 : ∀ q ∈ lw_privs_1, lw_okq q := List.forall_mem_cons.mpr ⟨lw_p0, List.forall_mem_cons.mpr ⟨lw_p1, List.forall_mem_cons.mpr ⟨lw_p2, List.forall_mem_cons.mpr ⟨lw_p3, List.forall_mem_cons.mpr ⟨lw_p4, List.forall_mem_cons.mpr ⟨lw_p5, List.forall_mem_cons.mpr ⟨lw_p6, List.forall_mem_cons.mpr ⟨lw_p7, List.forall_mem_cons.mpr ⟨lw_p8, List.forall_mem_cons.mpr ⟨lw_p9, List.forall_mem_cons.mpr ⟨lw_p10, List.forall_mem_cons.mpr ⟨lw_p11, List.forall_mem_cons.mpr ⟨lw_p12, List.forall_mem_cons.mpr ⟨lw_p13, List.forall_mem_cons.mpr ⟨lw_p14, List.forall_mem_cons.mpr ⟨lw_p15, fun _ h => absurd h List.not_mem_nil⟩⟩⟩⟩⟩⟩⟩⟩⟩⟩⟩⟩⟩⟩⟩⟩
theorem lw_p16 : lw_okq (⟨"StockingLine", "countWinds", "()I"⟩, 13) := ⟨⟨by decide +kernel, by decide +kernel⟩, List.mem_of_getElem? (i := 19) (by decide +kernel), List.mem_of_getElem? (i := 701) (by decide +kernel), List.mem_of_getElem? (i := 702) (by decide +kernel)⟩
theorem lw_p17 : lw_okq (⟨"StockingLine", "canHaveBlown", "(I)Z"⟩, 13) := ⟨⟨by decide +kernel, by decide +kernel⟩, List.mem_of_getElem? (i := 19) (by decide +kernel), List.mem_of_getElem? (i := 705) (by decide +kernel), List.mem_of_getElem? (i := 706) (by decide +kernel)⟩
theorem lw_p18 : lw_okq (⟨"StockingLine", "leastWind", "()I"⟩, 13) := ⟨⟨by decide +kernel, by decide +kernel⟩, List.mem_of_getElem? (i := 19) (by decide +kernel), List.mem_of_getElem? (i := 710) (by decide +kernel), List.mem_of_getElem? (i := 711) (by decide +kernel)⟩
theorem lw_p19 : lw_okq (⟨"StockingLine", "greatestWind", "()I"⟩, 13) := ⟨⟨by decide +kernel, by decide +kernel⟩, List.mem_of_getElem? (i := 19) (by decide +kernel), List.mem_of_getElem? (i := 714) (by decide +kernel), List.mem_of_getElem? (i := 715) (by decide +kernel)⟩
theorem lw_p20 : lw_okq (⟨"StockingLine", "bestToAsk", "()I"⟩, 13) := ⟨⟨by decide +kernel, by decide +kernel⟩, List.mem_of_getElem? (i := 19) (by decide +kernel), List.mem_of_getElem? (i := 718) (by decide +kernel), List.mem_of_getElem? (i := 719) (by decide +kernel)⟩
theorem lw_p21 : lw_okq (⟨"StockingLine", "windsLeftAtWorst", "(I)I"⟩, 13) := ⟨⟨by decide +kernel, by decide +kernel⟩, List.mem_of_getElem? (i := 19) (by decide +kernel), List.mem_of_getElem? (i := 722) (by decide +kernel), List.mem_of_getElem? (i := 723) (by decide +kernel)⟩
theorem lw_p22 : lw_okq (⟨"StockingLine", "withThrone", "(J)J"⟩, 13) := ⟨⟨by decide +kernel, by decide +kernel⟩, List.mem_of_getElem? (i := 19) (by decide +kernel), List.mem_of_getElem? (i := 786) (by decide +kernel), List.mem_of_getElem? (i := 787) (by decide +kernel)⟩
theorem lw_p23 : lw_okq (⟨"StockingLineModel", "read", "()I"⟩, 55) := ⟨⟨by decide +kernel, by decide +kernel⟩, List.mem_of_getElem? (i := 795) (by decide +kernel), List.mem_of_getElem? (i := 982) (by decide +kernel), List.mem_of_getElem? (i := 983) (by decide +kernel)⟩
theorem lw_p24 : lw_okq (⟨"StockingLineModel", "at", "(I)I"⟩, 55) := ⟨⟨by decide +kernel, by decide +kernel⟩, List.mem_of_getElem? (i := 795) (by decide +kernel), List.mem_of_getElem? (i := 986) (by decide +kernel), List.mem_of_getElem? (i := 987) (by decide +kernel)⟩
theorem lw_p25 : lw_okq (⟨"StockingLineModel", "readThree", "(I)I"⟩, 55) := ⟨⟨by decide +kernel, by decide +kernel⟩, List.mem_of_getElem? (i := 795) (by decide +kernel), List.mem_of_getElem? (i := 993) (by decide +kernel), List.mem_of_getElem? (i := 994) (by decide +kernel)⟩
theorem lw_p26 : lw_okq (⟨"StockingLineModel", "isFigure", "(II)Z"⟩, 55) := ⟨⟨by decide +kernel, by decide +kernel⟩, List.mem_of_getElem? (i := 795) (by decide +kernel), List.mem_of_getElem? (i := 997) (by decide +kernel), List.mem_of_getElem? (i := 998) (by decide +kernel)⟩
theorem lw_p27 : lw_okq (⟨"StockingLineModel", "readStockings", "(I)I"⟩, 55) := ⟨⟨by decide +kernel, by decide +kernel⟩, List.mem_of_getElem? (i := 795) (by decide +kernel), List.mem_of_getElem? (i := 1001) (by decide +kernel), List.mem_of_getElem? (i := 1002) (by decide +kernel)⟩
theorem lw_p28 : lw_okq (⟨"StockingLineModel", "isKing", "(I)Z"⟩, 55) := ⟨⟨by decide +kernel, by decide +kernel⟩, List.mem_of_getElem? (i := 795) (by decide +kernel), List.mem_of_getElem? (i := 1013) (by decide +kernel), List.mem_of_getElem? (i := 1014) (by decide +kernel)⟩
theorem lw_p29 : lw_okq (⟨"StockingLineModel", "kingNow", "(II)I"⟩, 55) := ⟨⟨by decide +kernel, by decide +kernel⟩, List.mem_of_getElem? (i := 795) (by decide +kernel), List.mem_of_getElem? (i := 1017) (by decide +kernel), List.mem_of_getElem? (i := 1018) (by decide +kernel)⟩
theorem lw_p30 : lw_okq (⟨"StockingLineModel", "mayBits", "(I)I"⟩, 55) := ⟨⟨by decide +kernel, by decide +kernel⟩, List.mem_of_getElem? (i := 795) (by decide +kernel), List.mem_of_getElem? (i := 1021) (by decide +kernel), List.mem_of_getElem? (i := 1022) (by decide +kernel)⟩
theorem lw_p31 : lw_okq (⟨"StockingLineModel", "mayBe", "(II)Z"⟩, 55) := ⟨⟨by decide +kernel, by decide +kernel⟩, List.mem_of_getElem? (i := 795) (by decide +kernel), List.mem_of_getElem? (i := 1025) (by decide +kernel), List.mem_of_getElem? (i := 1026) (by decide +kernel)⟩
def lw_privs_2 : List (MethodName × Nat) := [(⟨"StockingLine", "countWinds", "()I"⟩, 13), (⟨"StockingLine", "canHaveBlown", "(I)Z"⟩, 13), (⟨"StockingLine", "leastWind", "()I"⟩, 13), (⟨"StockingLine", "greatestWind", "()I"⟩, 13), (⟨"StockingLine", "bestToAsk", "()I"⟩, 13), (⟨"StockingLine", "windsLeftAtWorst", "(I)I"⟩, 13), (⟨"StockingLine", "withThrone", "(J)J"⟩, 13), (⟨"StockingLineModel", "read", "()I"⟩, 55), (⟨"StockingLineModel", "at", "(I)I"⟩, 55), (⟨"StockingLineModel", "readThree", "(I)I"⟩, 55), (⟨"StockingLineModel", "isFigure", "(II)Z"⟩, 55), (⟨"StockingLineModel", "readStockings", "(I)I"⟩, 55), (⟨"StockingLineModel", "isKing", "(I)Z"⟩, 55), (⟨"StockingLineModel", "kingNow", "(II)I"⟩, 55), (⟨"StockingLineModel", "mayBits", "(I)I"⟩, 55), (⟨"StockingLineModel", "mayBe", "(II)Z"⟩, 55)]
theorem lw_r2 : ∀ q ∈ lw_privs_2, lw_okq q := List.forall_mem_cons.mpr ⟨lw_p16, List.forall_mem_cons.mpr ⟨lw_p17, List.forall_mem_cons.mpr ⟨lw_p18, List.forall_mem_cons.mpr ⟨lw_p19, List.forall_mem_cons.mpr ⟨lw_p20, List.forall_mem_cons.mpr ⟨lw_p21, List.forall_mem_cons.mpr ⟨lw_p22, List.forall_mem_cons.mpr ⟨lw_p23, List.forall_mem_cons.mpr ⟨lw_p24, List.forall_mem_cons.mpr ⟨lw_p25, List.forall_mem_cons.mpr ⟨lw_p26, List.forall_mem_cons.mpr ⟨lw_p27, List.forall_mem_cons.mpr ⟨lw_p28, List.forall_mem_cons.mpr ⟨lw_p29, List.forall_mem_cons.mpr ⟨lw_p30, List.forall_mem_cons.mpr ⟨lw_p31, fun _ h => absurd h List.not_mem_nil⟩⟩⟩⟩⟩⟩⟩⟩⟩⟩⟩⟩⟩⟩⟩⟩
theorem lw_p32 : lw_okq (⟨"StockingLineModel", "wrongOf", "(II)I"⟩, 55) := ⟨⟨by decide +kernel, by decide +kernel⟩, List.mem_of_getElem? (i := 795) (by decide +kernel), List.mem_of_getElem? (i := 1029) (by decide +kernel), List.mem_of_getElem? (i := 1030) (by decide +kernel)⟩
theorem lw_p33 : lw_okq (⟨"StockingLineModel", "calf", "(I)I"⟩, 55) := ⟨⟨by decide +kernel, by decide +kernel⟩, List.mem_of_getElem? (i := 795) (by decide +kernel), List.mem_of_getElem? (i := 1033) (by decide +kernel), List.mem_of_getElem? (i := 1034) (by decide +kernel)⟩
theorem lw_p34 : lw_okq (⟨"StockingLineModel", "pairsOf", "(I)I"⟩, 55) := ⟨⟨by decide +kernel, by decide +kernel⟩, List.mem_of_getElem? (i := 795) (by decide +kernel), List.mem_of_getElem? (i := 1040) (by decide +kernel), List.mem_of_getElem? (i := 1041) (by decide +kernel)⟩
theorem lw_p35 : lw_okq (⟨"StockingLineModel", "isPairOf", "(III)Z"⟩, 55) := ⟨⟨by decide +kernel, by decide +kernel⟩, List.mem_of_getElem? (i := 795) (by decide +kernel), List.mem_of_getElem? (i := 1044) (by decide +kernel), List.mem_of_getElem? (i := 1045) (by decide +kernel)⟩
theorem lw_p36 : lw_okq (⟨"StockingLineModel", "areLike", "(II)Z"⟩, 55) := ⟨⟨by decide +kernel, by decide +kernel⟩, List.mem_of_getElem? (i := 795) (by decide +kernel), List.mem_of_getElem? (i := 1048) (by decide +kernel), List.mem_of_getElem? (i := 1049) (by decide +kernel)⟩
theorem lw_p37 : lw_okq (⟨"StockingLineModel", "hangs", "(I)Z"⟩, 55) := ⟨⟨by decide +kernel, by decide +kernel⟩, List.mem_of_getElem? (i := 795) (by decide +kernel), List.mem_of_getElem? (i := 1052) (by decide +kernel), List.mem_of_getElem? (i := 1053) (by decide +kernel)⟩
theorem lw_p38 : lw_okq (⟨"StockingLineModel", "leastPair", "(I)I"⟩, 55) := ⟨⟨by decide +kernel, by decide +kernel⟩, List.mem_of_getElem? (i := 795) (by decide +kernel), List.mem_of_getElem? (i := 1056) (by decide +kernel), List.mem_of_getElem? (i := 1057) (by decide +kernel)⟩
theorem lw_p39 : lw_okq (⟨"StockingLineModel", "wrongOfPair", "(II)I"⟩, 55) := ⟨⟨by decide +kernel, by decide +kernel⟩, List.mem_of_getElem? (i := 795) (by decide +kernel), List.mem_of_getElem? (i := 1061) (by decide +kernel), List.mem_of_getElem? (i := 1062) (by decide +kernel)⟩
theorem lw_p40 : lw_okq (⟨"StockingLineModel", "calvesOf", "(I)I"⟩, 55) := ⟨⟨by decide +kernel, by decide +kernel⟩, List.mem_of_getElem? (i := 795) (by decide +kernel), List.mem_of_getElem? (i := 1065) (by decide +kernel), List.mem_of_getElem? (i := 1066) (by decide +kernel)⟩
theorem lw_p41 : lw_okq (⟨"StockingLineModel", "mayBeWith", "(III)Z"⟩, 55) := ⟨⟨by decide +kernel, by decide +kernel⟩, List.mem_of_getElem? (i := 795) (by decide +kernel), List.mem_of_getElem? (i := 1069) (by decide +kernel), List.mem_of_getElem? (i := 1070) (by decide +kernel)⟩
theorem lw_p42 : lw_okq (⟨"StockingLineModel", "tryOf", "(I)I"⟩, 55) := ⟨⟨by decide +kernel, by decide +kernel⟩, List.mem_of_getElem? (i := 795) (by decide +kernel), List.mem_of_getElem? (i := 1073) (by decide +kernel), List.mem_of_getElem? (i := 1074) (by decide +kernel)⟩
theorem lw_p43 : lw_okq (⟨"StockingLineModel", "isStocking", "(I)Z"⟩, 55) := ⟨⟨by decide +kernel, by decide +kernel⟩, List.mem_of_getElem? (i := 795) (by decide +kernel), List.mem_of_getElem? (i := 1091) (by decide +kernel), List.mem_of_getElem? (i := 1092) (by decide +kernel)⟩
theorem lw_p44 : lw_okq (⟨"StockingLineModel", "stockingNow", "(II)I"⟩, 55) := ⟨⟨by decide +kernel, by decide +kernel⟩, List.mem_of_getElem? (i := 795) (by decide +kernel), List.mem_of_getElem? (i := 1095) (by decide +kernel), List.mem_of_getElem? (i := 1096) (by decide +kernel)⟩
theorem lw_p45 : lw_okq (⟨"StockingLineModel", "whoseBits", "(I)I"⟩, 55) := ⟨⟨by decide +kernel, by decide +kernel⟩, List.mem_of_getElem? (i := 795) (by decide +kernel), List.mem_of_getElem? (i := 1099) (by decide +kernel), List.mem_of_getElem? (i := 1100) (by decide +kernel)⟩
theorem lw_p46 : lw_okq (⟨"StockingLineModel", "nearest", "(I)I"⟩, 55) := ⟨⟨by decide +kernel, by decide +kernel⟩, List.mem_of_getElem? (i := 795) (by decide +kernel), List.mem_of_getElem? (i := 1103) (by decide +kernel), List.mem_of_getElem? (i := 1104) (by decide +kernel)⟩
theorem lw_p47 : lw_okq (⟨"StockingLineModel", "matchBits", "(I)I"⟩, 55) := ⟨⟨by decide +kernel, by decide +kernel⟩, List.mem_of_getElem? (i := 795) (by decide +kernel), List.mem_of_getElem? (i := 1107) (by decide +kernel), List.mem_of_getElem? (i := 1108) (by decide +kernel)⟩
def lw_privs_3 : List (MethodName × Nat) := [(⟨"StockingLineModel", "wrongOf", "(II)I"⟩, 55), (⟨"StockingLineModel", "calf", "(I)I"⟩, 55), (⟨"StockingLineModel", "pairsOf", "(I)I"⟩, 55), (⟨"StockingLineModel", "isPairOf", "(III)Z"⟩, 55), (⟨"StockingLineModel", "areLike", "(II)Z"⟩, 55), (⟨"StockingLineModel", "hangs", "(I)Z"⟩, 55), (⟨"StockingLineModel", "leastPair", "(I)I"⟩, 55), (⟨"StockingLineModel", "wrongOfPair", "(II)I"⟩, 55), (⟨"StockingLineModel", "calvesOf", "(I)I"⟩, 55), (⟨"StockingLineModel", "mayBeWith", "(III)Z"⟩, 55), (⟨"StockingLineModel", "tryOf", "(I)I"⟩, 55), (⟨"StockingLineModel", "isStocking", "(I)Z"⟩, 55), (⟨"StockingLineModel", "stockingNow", "(II)I"⟩, 55), (⟨"StockingLineModel", "whoseBits", "(I)I"⟩, 55), (⟨"StockingLineModel", "nearest", "(I)I"⟩, 55), (⟨"StockingLineModel", "matchBits", "(I)I"⟩, 55)]
theorem lw_r3 : ∀ q ∈ lw_privs_3, lw_okq q := List.forall_mem_cons.mpr ⟨lw_p32, List.forall_mem_cons.mpr ⟨lw_p33, List.forall_mem_cons.mpr ⟨lw_p34, List.forall_mem_cons.mpr ⟨lw_p35, List.forall_mem_cons.mpr ⟨lw_p36, List.forall_mem_cons.mpr ⟨lw_p37, List.forall_mem_cons.mpr ⟨lw_p38, List.forall_mem_cons.mpr ⟨lw_p39, List.forall_mem_cons.mpr ⟨lw_p40, List.forall_mem_cons.mpr ⟨lw_p41, List.forall_mem_cons.mpr ⟨lw_p42, List.forall_mem_cons.mpr ⟨lw_p43, List.forall_mem_cons.mpr ⟨lw_p44, List.forall_mem_cons.mpr ⟨lw_p45, List.forall_mem_cons.mpr ⟨lw_p46, List.forall_mem_cons.mpr ⟨lw_p47, fun _ h => absurd h List.not_mem_nil⟩⟩⟩⟩⟩⟩⟩⟩⟩⟩⟩⟩⟩⟩⟩⟩
theorem lw_p48 : lw_okq (⟨"StockingLineModel", "hangsAt", "(I)I"⟩, 55) := ⟨⟨by decide +kernel, by decide +kernel⟩, List.mem_of_getElem? (i := 795) (by decide +kernel), List.mem_of_getElem? (i := 1122) (by decide +kernel), List.mem_of_getElem? (i := 1123) (by decide +kernel)⟩
theorem lw_p49 : lw_okq (⟨"StockingLineModel", "shrink", "()V"⟩, 55) := ⟨⟨by decide +kernel, by decide +kernel⟩, List.mem_of_getElem? (i := 795) (by decide +kernel), List.mem_of_getElem? (i := 1130) (by decide +kernel), List.mem_of_getElem? (i := 1131) (by decide +kernel)⟩
theorem lw_p50 : lw_okq (⟨"StockingLineModel", "hanging", "()I"⟩, 55) := ⟨⟨by decide +kernel, by decide +kernel⟩, List.mem_of_getElem? (i := 795) (by decide +kernel), List.mem_of_getElem? (i := 1134) (by decide +kernel), List.mem_of_getElem? (i := 1135) (by decide +kernel)⟩
theorem lw_p51 : lw_okq (⟨"StockingLineModel", "blow", "(I)V"⟩, 55) := ⟨⟨by decide +kernel, by decide +kernel⟩, List.mem_of_getElem? (i := 795) (by decide +kernel), List.mem_of_getElem? (i := 1150) (by decide +kernel), List.mem_of_getElem? (i := 1151) (by decide +kernel)⟩
theorem lw_p52 : lw_okq (⟨"StockingLineModel", "throneNow", "(I)I"⟩, 55) := ⟨⟨by decide +kernel, by decide +kernel⟩, List.mem_of_getElem? (i := 795) (by decide +kernel), List.mem_of_getElem? (i := 1169) (by decide +kernel), List.mem_of_getElem? (i := 1170) (by decide +kernel)⟩
theorem lw_p53 : lw_okq (⟨"StockingLineModel", "having", "()I"⟩, 55) := ⟨⟨by decide +kernel, by decide +kernel⟩, List.mem_of_getElem? (i := 795) (by decide +kernel), List.mem_of_getElem? (i := 1173) (by decide +kernel), List.mem_of_getElem? (i := 1174) (by decide +kernel)⟩
theorem lw_p54 : lw_okq (⟨"StockingLineModel", "throneBy", "(I)I"⟩, 55) := ⟨⟨by decide +kernel, by decide +kernel⟩, List.mem_of_getElem? (i := 795) (by decide +kernel), List.mem_of_getElem? (i := 1177) (by decide +kernel), List.mem_of_getElem? (i := 1178) (by decide +kernel)⟩
theorem lw_p55 : lw_okq (⟨"StockingLineModel", "leastIn", "(I)I"⟩, 55) := ⟨⟨by decide +kernel, by decide +kernel⟩, List.mem_of_getElem? (i := 795) (by decide +kernel), List.mem_of_getElem? (i := 1181) (by decide +kernel), List.mem_of_getElem? (i := 1182) (by decide +kernel)⟩
theorem lw_p56 : lw_okq (⟨"StockingLineModel", "matchNow", "(I)I"⟩, 55) := ⟨⟨by decide +kernel, by decide +kernel⟩, List.mem_of_getElem? (i := 795) (by decide +kernel), List.mem_of_getElem? (i := 1189) (by decide +kernel), List.mem_of_getElem? (i := 1190) (by decide +kernel)⟩
theorem lw_p57 : lw_okq (⟨"StockingLineModel", "layPairs", "()V"⟩, 55) := ⟨⟨by decide +kernel, by decide +kernel⟩, List.mem_of_getElem? (i := 795) (by decide +kernel), List.mem_of_getElem? (i := 1193) (by decide +kernel), List.mem_of_getElem? (i := 1194) (by decide +kernel)⟩
theorem lw_p58 : lw_okq (⟨"StockingLineModel", "layWrong", "(II)V"⟩, 55) := ⟨⟨by decide +kernel, by decide +kernel⟩, List.mem_of_getElem? (i := 795) (by decide +kernel), List.mem_of_getElem? (i := 1197) (by decide +kernel), List.mem_of_getElem? (i := 1198) (by decide +kernel)⟩
theorem lw_p59 : lw_okq (⟨"StockingLineModel", "isRow", "()Z"⟩, 55) := ⟨⟨by decide +kernel, by decide +kernel⟩, List.mem_of_getElem? (i := 795) (by decide +kernel), List.mem_of_getElem? (i := 1201) (by decide +kernel), List.mem_of_getElem? (i := 1202) (by decide +kernel)⟩
theorem lw_p60 : lw_okq (⟨"StockingLineModel", "nextRow", "()Z"⟩, 55) := ⟨⟨by decide +kernel, by decide +kernel⟩, List.mem_of_getElem? (i := 795) (by decide +kernel), List.mem_of_getElem? (i := 1205) (by decide +kernel), List.mem_of_getElem? (i := 1206) (by decide +kernel)⟩
theorem lw_p61 : lw_okq (⟨"StockingLineModel", "chanceNow", "(II)I"⟩, 55) := ⟨⟨by decide +kernel, by decide +kernel⟩, List.mem_of_getElem? (i := 795) (by decide +kernel), List.mem_of_getElem? (i := 1213) (by decide +kernel), List.mem_of_getElem? (i := 1214) (by decide +kernel)⟩
theorem lw_p62 : lw_okq (⟨"StockingLineModel", "dogNow", "(I)I"⟩, 55) := ⟨⟨by decide +kernel, by decide +kernel⟩, List.mem_of_getElem? (i := 795) (by decide +kernel), List.mem_of_getElem? (i := 1224) (by decide +kernel), List.mem_of_getElem? (i := 1225) (by decide +kernel)⟩
theorem lw_p63 : lw_okq (⟨"StockingLineModel", "fewestTries", "(I)I"⟩, 55) := ⟨⟨by decide +kernel, by decide +kernel⟩, List.mem_of_getElem? (i := 795) (by decide +kernel), List.mem_of_getElem? (i := 1228) (by decide +kernel), List.mem_of_getElem? (i := 1229) (by decide +kernel)⟩
def lw_privs_4 : List (MethodName × Nat) := [(⟨"StockingLineModel", "hangsAt", "(I)I"⟩, 55), (⟨"StockingLineModel", "shrink", "()V"⟩, 55), (⟨"StockingLineModel", "hanging", "()I"⟩, 55), (⟨"StockingLineModel", "blow", "(I)V"⟩, 55), (⟨"StockingLineModel", "throneNow", "(I)I"⟩, 55), (⟨"StockingLineModel", "having", "()I"⟩, 55), (⟨"StockingLineModel", "throneBy", "(I)I"⟩, 55), (⟨"StockingLineModel", "leastIn", "(I)I"⟩, 55), (⟨"StockingLineModel", "matchNow", "(I)I"⟩, 55), (⟨"StockingLineModel", "layPairs", "()V"⟩, 55), (⟨"StockingLineModel", "layWrong", "(II)V"⟩, 55), (⟨"StockingLineModel", "isRow", "()Z"⟩, 55), (⟨"StockingLineModel", "nextRow", "()Z"⟩, 55), (⟨"StockingLineModel", "chanceNow", "(II)I"⟩, 55), (⟨"StockingLineModel", "dogNow", "(I)I"⟩, 55), (⟨"StockingLineModel", "fewestTries", "(I)I"⟩, 55)]
theorem lw_r4 : ∀ q ∈ lw_privs_4, lw_okq q := List.forall_mem_cons.mpr ⟨lw_p48, List.forall_mem_cons.mpr ⟨lw_p49, List.forall_mem_cons.mpr ⟨lw_p50, List.forall_mem_cons.mpr ⟨lw_p51, List.forall_mem_cons.mpr ⟨lw_p52, List.forall_mem_cons.mpr ⟨lw_p53, List.forall_mem_cons.mpr ⟨lw_p54, List.forall_mem_cons.mpr ⟨lw_p55, List.forall_mem_cons.mpr ⟨lw_p56, List.forall_mem_cons.mpr ⟨lw_p57, List.forall_mem_cons.mpr ⟨lw_p58, List.forall_mem_cons.mpr ⟨lw_p59, List.forall_mem_cons.mpr ⟨lw_p60, List.forall_mem_cons.mpr ⟨lw_p61, List.forall_mem_cons.mpr ⟨lw_p62, List.forall_mem_cons.mpr ⟨lw_p63, fun _ h => absurd h List.not_mem_nil⟩⟩⟩⟩⟩⟩⟩⟩⟩⟩⟩⟩⟩⟩⟩⟩
theorem lw_p64 : lw_okq (⟨"StockingLineModel", "triesWith", "(II)I"⟩, 55) := ⟨⟨by decide +kernel, by decide +kernel⟩, List.mem_of_getElem? (i := 795) (by decide +kernel), List.mem_of_getElem? (i := 1232) (by decide +kernel), List.mem_of_getElem? (i := 1233) (by decide +kernel)⟩
theorem lw_p65 : lw_okq (⟨"StockingLineModel", "coupNow", "(I)I"⟩, 55) := ⟨⟨by decide +kernel, by decide +kernel⟩, List.mem_of_getElem? (i := 795) (by decide +kernel), List.mem_of_getElem? (i := 1240) (by decide +kernel), List.mem_of_getElem? (i := 1241) (by decide +kernel)⟩
theorem lw_p66 : lw_okq (⟨"StockingLineModel", "isHis", "(I)Z"⟩, 55) := ⟨⟨by decide +kernel, by decide +kernel⟩, List.mem_of_getElem? (i := 795) (by decide +kernel), List.mem_of_getElem? (i := 1244) (by decide +kernel), List.mem_of_getElem? (i := 1245) (by decide +kernel)⟩
theorem lw_p67 : lw_okq (⟨"StockingLineModel", "isHisBy", "(III)Z"⟩, 55) := ⟨⟨by decide +kernel, by decide +kernel⟩, List.mem_of_getElem? (i := 795) (by decide +kernel), List.mem_of_getElem? (i := 1248) (by decide +kernel), List.mem_of_getElem? (i := 1249) (by decide +kernel)⟩
theorem lw_p68 : lw_okq (⟨"StockingLineModel", "foldNow", "()I"⟩, 55) := ⟨⟨by decide +kernel, by decide +kernel⟩, List.mem_of_getElem? (i := 795) (by decide +kernel), List.mem_of_getElem? (i := 1256) (by decide +kernel), List.mem_of_getElem? (i := 1257) (by decide +kernel)⟩
theorem lw_p69 : lw_okq (⟨"StockingLineModel", "savePegs", "()V"⟩, 55) := ⟨⟨by decide +kernel, by decide +kernel⟩, List.mem_of_getElem? (i := 795) (by decide +kernel), List.mem_of_getElem? (i := 1260) (by decide +kernel), List.mem_of_getElem? (i := 1261) (by decide +kernel)⟩
theorem lw_p70 : lw_okq (⟨"StockingLineModel", "isFolded", "(I)Z"⟩, 55) := ⟨⟨by decide +kernel, by decide +kernel⟩, List.mem_of_getElem? (i := 795) (by decide +kernel), List.mem_of_getElem? (i := 1264) (by decide +kernel), List.mem_of_getElem? (i := 1265) (by decide +kernel)⟩
theorem lw_p71 : lw_okq (⟨"StockingLineModel", "loadPegs", "()V"⟩, 55) := ⟨⟨by decide +kernel, by decide +kernel⟩, List.mem_of_getElem? (i := 795) (by decide +kernel), List.mem_of_getElem? (i := 1268) (by decide +kernel), List.mem_of_getElem? (i := 1269) (by decide +kernel)⟩
theorem lw_p72 : lw_okq (⟨"StockingLineModel", "windsNow", "(I)I"⟩, 55) := ⟨⟨by decide +kernel, by decide +kernel⟩, List.mem_of_getElem? (i := 795) (by decide +kernel), List.mem_of_getElem? (i := 1284) (by decide +kernel), List.mem_of_getElem? (i := 1285) (by decide +kernel)⟩
theorem lw_p73 : lw_okq (⟨"StockingLineModel", "isWind", "(I)Z"⟩, 55) := ⟨⟨by decide +kernel, by decide +kernel⟩, List.mem_of_getElem? (i := 795) (by decide +kernel), List.mem_of_getElem? (i := 1288) (by decide +kernel), List.mem_of_getElem? (i := 1289) (by decide +kernel)⟩
theorem lw_p74 : lw_okq (⟨"StockingLineModel", "askNow", "()I"⟩, 55) := ⟨⟨by decide +kernel, by decide +kernel⟩, List.mem_of_getElem? (i := 795) (by decide +kernel), List.mem_of_getElem? (i := 1292) (by decide +kernel), List.mem_of_getElem? (i := 1293) (by decide +kernel)⟩
theorem lw_p75 : lw_okq (⟨"StockingLineModel", "worstWind", "(I)I"⟩, 55) := ⟨⟨by decide +kernel, by decide +kernel⟩, List.mem_of_getElem? (i := 795) (by decide +kernel), List.mem_of_getElem? (i := 1296) (by decide +kernel), List.mem_of_getElem? (i := 1297) (by decide +kernel)⟩
theorem lw_p76 : lw_okq (⟨"StockingLineModel", "yearsNow", "(III)I"⟩, 55) := ⟨⟨by decide +kernel, by decide +kernel⟩, List.mem_of_getElem? (i := 795) (by decide +kernel), List.mem_of_getElem? (i := 1312) (by decide +kernel), List.mem_of_getElem? (i := 1313) (by decide +kernel)⟩
theorem lw_p77 : lw_okq (⟨"StockingLineModel", "draw", "(I)I"⟩, 55) := ⟨⟨by decide +kernel, by decide +kernel⟩, List.mem_of_getElem? (i := 795) (by decide +kernel), List.mem_of_getElem? (i := 1316) (by decide +kernel), List.mem_of_getElem? (i := 1317) (by decide +kernel)⟩
theorem lw_p78 : lw_okq (⟨"StockingLineModel", "howMany", "(I)I"⟩, 55) := ⟨⟨by decide +kernel, by decide +kernel⟩, List.mem_of_getElem? (i := 795) (by decide +kernel), List.mem_of_getElem? (i := 1336) (by decide +kernel), List.mem_of_getElem? (i := 1337) (by decide +kernel)⟩
theorem lw_p79 : lw_okq (⟨"StockingLineModel", "sizes", "()I"⟩, 55) := ⟨⟨by decide +kernel, by decide +kernel⟩, List.mem_of_getElem? (i := 795) (by decide +kernel), List.mem_of_getElem? (i := 1340) (by decide +kernel), List.mem_of_getElem? (i := 1341) (by decide +kernel)⟩
def lw_privs_5 : List (MethodName × Nat) := [(⟨"StockingLineModel", "triesWith", "(II)I"⟩, 55), (⟨"StockingLineModel", "coupNow", "(I)I"⟩, 55), (⟨"StockingLineModel", "isHis", "(I)Z"⟩, 55), (⟨"StockingLineModel", "isHisBy", "(III)Z"⟩, 55), (⟨"StockingLineModel", "foldNow", "()I"⟩, 55), (⟨"StockingLineModel", "savePegs", "()V"⟩, 55), (⟨"StockingLineModel", "isFolded", "(I)Z"⟩, 55), (⟨"StockingLineModel", "loadPegs", "()V"⟩, 55), (⟨"StockingLineModel", "windsNow", "(I)I"⟩, 55), (⟨"StockingLineModel", "isWind", "(I)Z"⟩, 55), (⟨"StockingLineModel", "askNow", "()I"⟩, 55), (⟨"StockingLineModel", "worstWind", "(I)I"⟩, 55), (⟨"StockingLineModel", "yearsNow", "(III)I"⟩, 55), (⟨"StockingLineModel", "draw", "(I)I"⟩, 55), (⟨"StockingLineModel", "howMany", "(I)I"⟩, 55), (⟨"StockingLineModel", "sizes", "()I"⟩, 55)]
theorem lw_r5 : ∀ q ∈ lw_privs_5, lw_okq q := List.forall_mem_cons.mpr ⟨lw_p64, List.forall_mem_cons.mpr ⟨lw_p65, List.forall_mem_cons.mpr ⟨lw_p66, List.forall_mem_cons.mpr ⟨lw_p67, List.forall_mem_cons.mpr ⟨lw_p68, List.forall_mem_cons.mpr ⟨lw_p69, List.forall_mem_cons.mpr ⟨lw_p70, List.forall_mem_cons.mpr ⟨lw_p71, List.forall_mem_cons.mpr ⟨lw_p72, List.forall_mem_cons.mpr ⟨lw_p73, List.forall_mem_cons.mpr ⟨lw_p74, List.forall_mem_cons.mpr ⟨lw_p75, List.forall_mem_cons.mpr ⟨lw_p76, List.forall_mem_cons.mpr ⟨lw_p77, List.forall_mem_cons.mpr ⟨lw_p78, List.forall_mem_cons.mpr ⟨lw_p79, fun _ h => absurd h List.not_mem_nil⟩⟩⟩⟩⟩⟩⟩⟩⟩⟩⟩⟩⟩⟩⟩⟩
theorem lw_p80 : lw_okq (⟨"StockingLineModel", "matching", "()I"⟩, 55) := ⟨⟨by decide +kernel, by decide +kernel⟩, List.mem_of_getElem? (i := 795) (by decide +kernel), List.mem_of_getElem? (i := 1344) (by decide +kernel), List.mem_of_getElem? (i := 1345) (by decide +kernel)⟩
theorem lw_p81 : lw_okq (⟨"StockingLineModel", "mixKing", "(I)V"⟩, 55) := ⟨⟨by decide +kernel, by decide +kernel⟩, List.mem_of_getElem? (i := 795) (by decide +kernel), List.mem_of_getElem? (i := 1353) (by decide +kernel), List.mem_of_getElem? (i := 1354) (by decide +kernel)⟩
theorem lw_p82 : lw_okq (⟨"StockingLineModel", "mix", "(J)V"⟩, 55) := ⟨⟨by decide +kernel, by decide +kernel⟩, List.mem_of_getElem? (i := 795) (by decide +kernel), List.mem_of_getElem? (i := 1357) (by decide +kernel), List.mem_of_getElem? (i := 1358) (by decide +kernel)⟩
theorem lw_p83 : lw_okq (⟨"StockingLineModel", "mixStocking", "(I)V"⟩, 55) := ⟨⟨by decide +kernel, by decide +kernel⟩, List.mem_of_getElem? (i := 795) (by decide +kernel), List.mem_of_getElem? (i := 1362) (by decide +kernel), List.mem_of_getElem? (i := 1363) (by decide +kernel)⟩
def lw_privs_6 : List (MethodName × Nat) := [(⟨"StockingLineModel", "matching", "()I"⟩, 55), (⟨"StockingLineModel", "mixKing", "(I)V"⟩, 55), (⟨"StockingLineModel", "mix", "(J)V"⟩, 55), (⟨"StockingLineModel", "mixStocking", "(I)V"⟩, 55)]
theorem lw_r6 : ∀ q ∈ lw_privs_6, lw_okq q := List.forall_mem_cons.mpr ⟨lw_p80, List.forall_mem_cons.mpr ⟨lw_p81, List.forall_mem_cons.mpr ⟨lw_p82, List.forall_mem_cons.mpr ⟨lw_p83, fun _ h => absurd h List.not_mem_nil⟩⟩⟩⟩
def lw_privs : List (MethodName × Nat) := lw_privs_1 ++ (lw_privs_2 ++ (lw_privs_3 ++ (lw_privs_4 ++ (lw_privs_5 ++ (lw_privs_6)))))
def lw_tbl : List Cond := k2_sels lw_privs ++ tables_1
theorem lw_privs_ok : ∀ q ∈ lw_privs, lw_okq q := by
  show ∀ q ∈ lw_privs_1 ++ (lw_privs_2 ++ (lw_privs_3 ++ (lw_privs_4 ++ (lw_privs_5 ++ (lw_privs_6))))), lw_okq q
  exact List.forall_mem_append.mpr ⟨lw_r1, List.forall_mem_append.mpr ⟨lw_r2, List.forall_mem_append.mpr ⟨lw_r3, List.forall_mem_append.mpr ⟨lw_r4, List.forall_mem_append.mpr ⟨lw_r5, lw_r6⟩⟩⟩⟩⟩
end
section
/-! a small machine over a heap of numbered cells: what an instruction asks, as a predicate; pure -/
abbrev Hp : Type := (Nat → Nat → Int32) × (Nat → Nat → Int64)
abbrev Pst : Type := Option Value → Hp → Prop
abbrev Shp : Type := (Nat × Nat) ⊕ (Nat × List (Nat × Nat))
abbrev Ops : Type := Instr × Nat × Nat × Nat × Nat
abbrev Kon : Type := Nat → List Value → List Value → Hp → Prop
abbrev Evt : Type := Nat → List Value → Hp → Pst → Prop
def hs (h : Hp) (i : Nat) (f : Nat → Int32) : Hp := (fun a => bif Nat.beq a i then f else h.1 a, h.2)
def hsL (h : Hp) (i k : Nat) (x : Int64) : Hp := (h.1, fun a b => bif Nat.beq a i && Nat.beq b k then x else h.2 a b)
def unv : Value := .retAddr 0
def isun : Value → Bool
  | .retAddr _ => true
  | _ => false
/-- the static rows: PAIRS, ACTS, CALF_LESS, OTHER_STARCH, OTHER_KNITTER, WHOLE_HEEL, WORN_HEEL; then the bytes of the one text -/
def sta : Nat → List Int32
  | 0 => [1, 2, 3, 4, 5, 12, 13, 14, 15, 23, 24, 25, 34, 35, 45]
  | 1 => [0, 1, 2, 3, 4, 9]
  | 2 => [0, 0, 2, 0, 2]
  | 3 => [2, 2, 2, 0, 2]
  | 4 => [3, 3, 3, 3, 0]
  | 5 => [0, 2, 0, 0, 0]
  | 6 => [1, 0, 1, 1, 1]
  | 7 => [107, 108, 121, 98, 114]
  | _ => []
def nthV : List Value → Nat → Option Value
  | [], _ => none
  | v :: _, 0 => some v
  | _ :: l, n + 1 => nthV l n
def nthF : List (Nat × Nat) → Nat → Option (Nat × Nat)
  | [], _ => none
  | v :: _, 0 => some v
  | _ :: l, n + 1 => nthF l n
def setV : List Value → Nat → Value → List Value
  | [], _, _ => []
  | _ :: l, 0, x => x :: l
  | v :: l, n + 1, x => v :: setV l n x
/-- a store of one word at i: a long in the place before it is gone -/
def put1 (L : List Value) (i : Nat) (x : Value) : List Value :=
  match i with
  | 0 => setV L 0 x
  | k + 1 => match nthV L k with
    | some (.int _) => setV L (k + 1) x
    | some (.ref _) => setV L (k + 1) x
    | _ => setV (setV L k unv) (k + 1) x
def put2 (L : List Value) (i : Nat) (x : Value) : List Value := put1 (setV L (i + 1) unv) i x
def popn : Nat → List Value → List Value → Option (List Value × List Value)
  | 0, acc, S => some (acc, S)
  | n + 1, acc, v :: S => popn n (v :: acc) S
  | _ + 1, _, [] => none
def catS : List Value → Nat
  | [] => 0
  | .long _ :: S => 2 + catS S
  | .double _ :: S => 2 + catS S
  | _ :: S => 1 + catS S
def qI (K : Int32 → Hp → Prop) : Pst := fun r h => match r with
  | some (.int v) => K v h
  | _ => False
def qL (K : Int64 → Hp → Prop) : Pst := fun r h => match r with
  | some (.long v) => K v h
  | _ => False
def qV (K : Hp → Prop) : Pst := fun r h => match r with
  | none => K h
  | _ => False
def rty : Nat → Option FieldType
  | 0 => none
  | 1 => some .int
  | 2 => some .boolean
  | 3 => some .long
  | 4 => some .byte
  | _ => some .char
/-- an array's length and contents: a cell of the heap, or a static row; of kind 0 int, 1 byte, 2 boolean -/
def arr (sh : Nat → Option Shp) (h : Hp) (i kd : Nat) : Option (Nat × (Nat → Int32)) :=
  bif Nat.blt i 100 then (match sh i with
    | some (.inl (k, n)) => bif Nat.beq k kd then some (n, h.1 i) else none
    | _ => none)
  else bif Nat.blt i 107 then (bif Nat.beq kd 0 then some ((sta (i - 100)).length, fun j => (sta (i - 100)).getD j 0) else none)
  else bif Nat.beq i 107 && Nat.beq kd 1 then some ((sta 7).length, fun j => (sta 7).getD j 0) else none
def arn (sh : Nat → Option Shp) (i kd : Nat) : Option Nat :=
  bif Nat.blt i 100 then (match sh i with
    | some (.inl (k, n)) => bif Nat.beq k kd then some n else none
    | _ => none)
  else none
def akd (sh : Nat → Option Shp) (i : Nat) : Nat :=
  bif Nat.blt i 100 then (match sh i with
    | some (.inl (k, _)) => k
    | _ => 9)
  else bif Nat.beq i 107 then 1 else 0
def aty : Nat → FieldType
  | 0 => .int
  | 1 => .byte
  | _ => .boolean
def iLd (K : Kon) (pc n : Nat) (L S : List Value) (h : Hp) (i : Nat) : Prop := match nthV L i with
  | some (.int x) => K (pc + n) L (.int x :: S) h
  | _ => False
def aLd (K : Kon) (pc n : Nat) (L S : List Value) (h : Hp) (i : Nat) : Prop := match nthV L i with
  | some (.ref x) => K (pc + n) L (.ref x :: S) h
  | _ => False
def lLd (K : Kon) (pc n : Nat) (L S : List Value) (h : Hp) (i : Nat) : Prop := match nthV L i with
  | some (.long x) => K (pc + n) L (.long x :: S) h
  | _ => False
def iSt (K : Kon) (pc n : Nat) (L S : List Value) (h : Hp) (i : Nat) : Prop := match S with
  | .int x :: S => K (pc + n) (put1 L i (.int x)) S h
  | _ => False
def aSt (K : Kon) (pc n : Nat) (L S : List Value) (h : Hp) (i : Nat) : Prop := match S with
  | .ref x :: S => K (pc + n) (put1 L i (.ref x)) S h
  | _ => False
def lSt (K : Kon) (pc n : Nat) (L S : List Value) (h : Hp) (i : Nat) : Prop := match S with
  | .long x :: S => K (pc + n) (put2 L i (.long x)) S h
  | _ => False
def bI (f : Int32 → Int32 → Int32) (K : Kon) (pc : Nat) (L S : List Value) (h : Hp) : Prop := match S with
  | .int y :: .int x :: S => K (pc + 1) L (.int (f x y) :: S) h
  | _ => False
def bD (f : Int32 → Int32 → Int32) (K : Kon) (pc : Nat) (L S : List Value) (h : Hp) : Prop := match S with
  | .int y :: .int x :: S => ¬ y = 0 ∧ K (pc + 1) L (.int (f x y) :: S) h
  | _ => False
def bL (f : Int64 → Int64 → Int64) (K : Kon) (pc : Nat) (L S : List Value) (h : Hp) : Prop := match S with
  | .long y :: .long x :: S => K (pc + 1) L (.long (f x y) :: S) h
  | _ => False
def bLD (f : Int64 → Int64 → Int64) (K : Kon) (pc : Nat) (L S : List Value) (h : Hp) : Prop := match S with
  | .long y :: .long x :: S => ¬ y = 0 ∧ K (pc + 1) L (.long (f x y) :: S) h
  | _ => False
def uI (f : Int32 → Int32) (K : Kon) (pc : Nat) (L S : List Value) (h : Hp) : Prop := match S with
  | .int x :: S => K (pc + 1) L (.int (f x) :: S) h
  | _ => False
def brZ (c : ClassFile.Cond) (K : Kon) (pc t : Nat) (L S : List Value) (h : Hp) : Prop := match S with
  | .int x :: S => (match c with
    | .eq => (x = 0 → K t L S h) ∧ (¬ x = 0 → K (pc + 3) L S h)
    | .ne => (¬ x = 0 → K t L S h) ∧ (x = 0 → K (pc + 3) L S h)
    | .lt => (x < 0 → K t L S h) ∧ (¬ x < 0 → K (pc + 3) L S h)
    | .ge => (0 ≤ x → K t L S h) ∧ (¬ 0 ≤ x → K (pc + 3) L S h)
    | .gt => (0 < x → K t L S h) ∧ (¬ 0 < x → K (pc + 3) L S h)
    | .le => (x ≤ 0 → K t L S h) ∧ (¬ x ≤ 0 → K (pc + 3) L S h))
  | _ => False
def brI (c : ClassFile.Cond) (K : Kon) (pc t : Nat) (L S : List Value) (h : Hp) : Prop := match S with
  | .int y :: .int x :: S => (match c with
    | .eq => (x = y → K t L S h) ∧ (¬ x = y → K (pc + 3) L S h)
    | .ne => (¬ x = y → K t L S h) ∧ (x = y → K (pc + 3) L S h)
    | .lt => (x < y → K t L S h) ∧ (¬ x < y → K (pc + 3) L S h)
    | .ge => (y ≤ x → K t L S h) ∧ (¬ y ≤ x → K (pc + 3) L S h)
    | .gt => (y < x → K t L S h) ∧ (¬ y < x → K (pc + 3) L S h)
    | .le => (x ≤ y → K t L S h) ∧ (¬ x ≤ y → K (pc + 3) L S h))
  | _ => False
/-- a switch over keys in order: (key, offset) -/
def swt (x : Int32) (G : Int → Prop) (d : Int) : List (Int × Int) → Prop
  | [] => G d
  | (c, o) :: l => (x = Int32.ofInt c → G o) ∧ (¬ x = Int32.ofInt c → swt x G d l)
def keysFrom (c : Int) : List Int → List (Int × Int)
  | [] => []
  | o :: l => (c, o) :: keysFrom (c + 1) l
def aL (K : Kon) (pc : Nat) (L S : List Value) (h : Hp) (sh : Nat → Option Shp) (kd : Nat) : Prop := match S with
  | .int j :: .ref i :: S => (match arr sh h i kd with
    | some (n, f) => vp_in j n ∧ K (pc + 1) L (.int (f j.toNatClampNeg) :: S) h
    | none => False)
  | _ => False
def bLo (K : Kon) (pc : Nat) (L S : List Value) (h : Hp) (sh : Nat → Option Shp) : Prop := match S with
  | .int j :: .ref i :: S => (match akd sh i with
    | 1 => aL K pc L (.int j :: .ref i :: S) h sh 1
    | 2 => aL K pc L (.int j :: .ref i :: S) h sh 2
    | _ => False)
  | _ => False
def aS (nr : Int32 → Int32) (K : Kon) (pc : Nat) (L S : List Value) (h : Hp) (sh : Nat → Option Shp) (kd : Nat) : Prop := match S with
  | .int x :: .int j :: .ref i :: S => (match arn sh i kd with
    | some n => vp_in j n ∧ K (pc + 1) L S (hs h i (upd (h.1 i) j.toNatClampNeg (nr x)))
    | none => False)
  | _ => False
def bSt (K : Kon) (pc : Nat) (L S : List Value) (h : Hp) (sh : Nat → Option Shp) : Prop := match S with
  | .int x :: .int j :: .ref i :: S => (match akd sh i with
    | 1 => aS (vp_nar .byte) K pc L (.int x :: .int j :: .ref i :: S) h sh 1
    | 2 => aS (vp_nar .boolean) K pc L (.int x :: .int j :: .ref i :: S) h sh 2
    | _ => False)
  | _ => False
def aLn (K : Kon) (pc : Nat) (L S : List Value) (h : Hp) (sh : Nat → Option Shp) : Prop := match S with
  | .ref i :: S => (match arr sh h i (akd sh i) with
    | some (n, _) => K (pc + 1) L (.int (Int32.ofNat n) :: S) h
    | none => False)
  | _ => False
/-- getfield of field k of class ci; ci 100: the text, whose field 0 is its bytes, 1 its coder -/
def gF (K : Kon) (pc : Nat) (L S : List Value) (h : Hp) (sh : Nat → Option Shp) (ci k : Nat) : Prop := match S with
  | .ref i :: S => bif Nat.beq ci 100 then (bif Nat.beq i 110 then (match k with
      | 0 => K (pc + 3) L (.ref 107 :: S) h
      | _ => K (pc + 3) L (.int 0 :: S) h) else False)
    else bif Nat.blt i 100 then (match sh i with
      | some (.inr (c, fs)) => bif Nat.beq c ci then (match nthF fs k with
        | some (3, j) => K (pc + 3) L (.ref j :: S) h
        | some (2, _) => K (pc + 3) L (.long (h.2 i k) :: S) h
        | some (_, _) => K (pc + 3) L (.int (h.1 i k) :: S) h
        | none => False) else False
      | _ => False) else False
  | _ => False
def pF (K : Kon) (pc : Nat) (L S : List Value) (h : Hp) (sh : Nat → Option Shp) (ci k : Nat) : Prop := match S with
  | .int x :: .ref i :: S => bif Nat.blt i 100 then (match sh i with
      | some (.inr (c, fs)) => bif Nat.beq c ci then (match nthF fs k with
        | some (0, _) => K (pc + 3) L S (hs h i (upd (h.1 i) k x))
        | some (1, _) => narrow .boolean (.int x) = .int x ∧ K (pc + 3) L S (hs h i (upd (h.1 i) k x))
        | _ => False) else False
      | _ => False) else False
  | .long x :: .ref i :: S => bif Nat.blt i 100 then (match sh i with
      | some (.inr (c, fs)) => bif Nat.beq c ci then (match nthF fs k with
        | some (2, _) => K (pc + 3) L S (hsL h i k x)
        | _ => False) else False
      | _ => False) else False
  | _ => False
def gS (K : Kon) (pc : Nat) (L S : List Value) (h : Hp) (a : Nat) : Prop :=
  bif Nat.beq a 200 then K (pc + 3) L (.int 1 :: S) h
  else bif Nat.ble 100 a && Nat.blt a 107 then K (pc + 3) L (.ref a :: S) h else False
def rK (rt : Nat) (K : Kon) (pc : Nat) (L S : List Value) : Pst := match rt with
  | 0 => qV (fun h => K (pc + 3) L S h)
  | 3 => qL (fun v h => K (pc + 3) L (.long v :: S) h)
  | _ => qI (fun v h => K (pc + 3) L (.int v :: S) h)
/-- a virtual call of y, n arguments, the receiver of class ci -/
def cV (E : Evt) (K : Kon) (pc : Nat) (L S : List Value) (h : Hp) (sh : Nat → Option Shp) (y n rt ci : Nat) : Prop := match popn n [] S with
  | some (As, .ref i :: S) => bif Nat.ble (catS S) 8 && (bif Nat.beq ci 100 then Nat.beq i 110 else Nat.blt i 100 && (match sh i with
      | some (.inr (c, _)) => Nat.beq c ci
      | _ => false)) then E y (.ref i :: As) h (rK rt K pc L S) else False
  | _ => False
def cS (E : Evt) (K : Kon) (pc : Nat) (L S : List Value) (h : Hp) (y n rt : Nat) : Prop := match popn n [] S with
  | some (As, S) => bif Nat.ble (catS S) 8 then E y As h (rK rt K pc L S) else False
  | _ => False
def mx (x y : Int32) : Int32 := if x < y then y else x
def mn (x y : Int32) : Int32 := if y < x then y else x
def ab (x : Int32) : Int32 := if x < 0 then -x else x
def acp (K : Kon) (pc : Nat) (L S : List Value) (h : Hp) (sh : Nat → Option Shp) : Prop := match S with
  | .int n :: .int dp :: .ref i :: .int sp :: .ref j :: S => bif Nat.ble (catS S) 8 then (match arn sh j (akd sh i), arn sh i (akd sh i) with
    | some n0, some n1 => ¬ sp < 0 ∧ ¬ dp < 0 ∧ ¬ n < 0 ∧ sp.toNatClampNeg + n.toNatClampNeg ≤ n0 ∧ dp.toNatClampNeg + n.toNatClampNeg ≤ n1 ∧ (∀ q, q < n.toNatClampNeg → fits (aty (akd sh i)) (.int (h.1 j (sp.toNatClampNeg + q))) = true) ∧ K (pc + 3) L S (hs h i (va_cpy (h.1 j) (h.1 i) sp.toNatClampNeg dp.toNatClampNeg n.toNatClampNeg))
    | _, _ => False) else False
  | _ => False
def m2 (f : Int32 → Int32 → Int32) (K : Kon) (pc : Nat) (L S : List Value) (h : Hp) : Prop := match S with
  | .int y :: .int x :: S => bif Nat.ble (catS S) 8 then K (pc + 3) L (.int (f x y) :: S) h else False
  | _ => False
def m1 (f : Int32 → Int32) (K : Kon) (pc : Nat) (L S : List Value) (h : Hp) : Prop := match S with
  | .int x :: S => bif Nat.ble (catS S) 8 then K (pc + 3) L (.int (f x) :: S) h else False
  | _ => False
def iRet (rt : Nat) (Q : Pst) (S : List Value) (h : Hp) : Prop := match S with
  | [.int v] => (match rt with
    | 1 => Q (some (.int v)) h
    | 2 => narrow .boolean (.int v) = .int v ∧ Q (some (.int v)) h
    | 4 => narrow .byte (.int v) = .int v ∧ Q (some (.int v)) h
    | _ => False)
  | _ => False
def lRet (rt : Nat) (Q : Pst) (S : List Value) (h : Hp) : Prop := match S with
  | [.long v] => (match rt with
    | 3 => Q (some (.long v)) h
    | _ => False)
  | _ => False
def vRet (rt : Nat) (Q : Pst) (S : List Value) (h : Hp) : Prop := match S with
  | [] => (match rt with
    | 0 => Q none h
    | _ => False)
  | _ => False
def dup1 (K : Kon) (pc : Nat) (L S : List Value) (h : Hp) : Prop := match S with
  | .int x :: S => K (pc + 1) L (.int x :: .int x :: S) h
  | .ref x :: S => K (pc + 1) L (.ref x :: .ref x :: S) h
  | _ => False
def dup22 (K : Kon) (pc : Nat) (L S : List Value) (h : Hp) : Prop := match S with
  | .int y :: .ref x :: S => K (pc + 1) L (.int y :: .ref x :: .int y :: .ref x :: S) h
  | _ => False
def pop1 (K : Kon) (pc : Nat) (L S : List Value) (h : Hp) : Prop := match S with
  | .int _ :: S => K (pc + 1) L S h
  | _ => False
def iinC (K : Kon) (pc : Nat) (L S : List Value) (h : Hp) (i : Nat) (n : Int) : Prop := match nthV L i with
  | some (.int x) => K (pc + 3) (put1 L i (.int (x + Int32.ofInt n))) S h
  | _ => False
def swi (K : Kon) (pc : Nat) (L S : List Value) (h : Hp) (d : Int) (l : List (Int × Int)) : Prop := match S with
  | .int x :: S => swt x (fun o => K ((pc : Int) + o).toNat L S h) d l
  | _ => False
def i2lC (K : Kon) (pc : Nat) (L S : List Value) (h : Hp) : Prop := match S with
  | .int x :: S => K (pc + 1) L (.long x.toInt64 :: S) h
  | _ => False
def l2iC (K : Kon) (pc : Nat) (L S : List Value) (h : Hp) : Prop := match S with
  | .long x :: S => K (pc + 1) L (.int x.toInt32 :: S) h
  | _ => False
/-- what one instruction asks -/
def st1 (E : Evt) (sh : Nat → Option Shp) (rt : Nat) (o : Ops) (K : Kon) (Q : Pst) (pc : Nat) (L S : List Value) (h : Hp) : Prop :=
  match o with
  | (i, a, b, c, d) => match i with
    | .iconst n => K (pc + 1) L (.int (Int32.ofInt n) :: S) h
    | .bipush n => K (pc + 2) L (.int (Int8.ofInt n).toInt32 :: S) h
    | .sipush n => K (pc + 3) L (.int (Int16.ofInt n).toInt32 :: S) h
    | .ldc _ => (match a with
      | 0 => K (pc + 2) L (.int (Int32.ofNat c) :: S) h
      | _ => K (pc + 2) L (.ref 110 :: S) h)
    | .ldc_w _ => K (pc + 3) L (.int (Int32.ofNat c) :: S) h
    | .ldc2_w _ => K (pc + 3) L (.long (Int64.ofNat c) :: S) h
    | .iload_n k => iLd K pc 1 L S h k.val
    | .iload k => iLd K pc 2 L S h k
    | .aload_n k => aLd K pc 1 L S h k.val
    | .aload k => aLd K pc 2 L S h k
    | .lload_n k => lLd K pc 1 L S h k.val
    | .lload k => lLd K pc 2 L S h k
    | .istore_n k => iSt K pc 1 L S h k.val
    | .istore k => iSt K pc 2 L S h k
    | .astore_n k => aSt K pc 1 L S h k.val
    | .astore k => aSt K pc 2 L S h k
    | .lstore_n k => lSt K pc 1 L S h k.val
    | .lstore k => lSt K pc 2 L S h k
    | .iinc k n => iinC K pc L S h k n
    | .iadd => bI (fun x y => x + y) K pc L S h
    | .isub => bI (fun x y => x - y) K pc L S h
    | .imul => bI (fun x y => x * y) K pc L S h
    | .iand => bI (fun x y => x &&& y) K pc L S h
    | .ior => bI (fun x y => x ||| y) K pc L S h
    | .ixor => bI (fun x y => x ^^^ y) K pc L S h
    | .ishl => bI (fun x y => x <<< (y &&& 31)) K pc L S h
    | .ishr => bI (fun x y => x >>> (y &&& 31)) K pc L S h
    | .iushr => bI (fun x y => (x.toUInt32 >>> (y.toUInt32 &&& Int32.toUInt32 31)).toInt32) K pc L S h
    | .idiv => bD (fun x y => x / y) K pc L S h
    | .irem => bD (fun x y => x - x / y * y) K pc L S h
    | .ladd => bL (fun x y => x + y) K pc L S h
    | .lmul => bL (fun x y => x * y) K pc L S h
    | .land => bL (fun x y => x &&& y) K pc L S h
    | .ldiv => bLD (fun x y => x / y) K pc L S h
    | .lrem => bLD (fun x y => x - x / y * y) K pc L S h
    | .i2l => i2lC K pc L S h
    | .l2i => l2iC K pc L S h
    | .i2b => uI (fun x => x.toInt8.toInt32) K pc L S h
    | .i2c => uI (fun x => (x.toUInt32 % 65536).toInt32) K pc L S h
    | .dup => dup1 K pc L S h
    | .dup2 => dup22 K pc L S h
    | .pop => pop1 K pc L S h
    | .goto _ => K a L S h
    | .ifCond c _ => brZ c K pc a L S h
    | .if_icmp c _ => brI c K pc a L S h
    | .tableswitch dflt lo _ offs => swi K pc L S h dflt (keysFrom lo offs.toList)
    | .lookupswitch dflt ps => swi K pc L S h dflt ps.toList
    | .iaload => aL K pc L S h sh 0
    | .baload => bLo K pc L S h sh
    | .iastore => aS (fun x => x) K pc L S h sh 0
    | .bastore => bSt K pc L S h sh
    | .arraylength => aLn K pc L S h sh
    | .getfield _ => gF K pc L S h sh a b
    | .putfield _ => pF K pc L S h sh a b
    | .getstatic _ => gS K pc L S h a
    | .invokevirtual _ => cV E K pc L S h sh a (c % 16) (c / 16) d
    | .invokestatic _ => (match d with
      | 1 => m2 mx K pc L S h
      | 2 => m2 mn K pc L S h
      | 3 => m1 ab K pc L S h
      | 4 => acp K pc L S h sh
      | _ => cS E K pc L S h a (c % 16) (c / 16))
    | .ireturn => iRet rt Q S h
    | .lreturn => lRet rt Q S h
    | .return_ => vRet rt Q S h
    | _ => False
def stp (E : Evt) (sh : Nat → Option Shp) (C : Nat → Option Ops) (rt : Nat) (K : Kon) (Q : Pst) (pc : Nat) (L S : List Value) (h : Hp) : Prop := match C pc with
  | some o => st1 E sh rt o K Q pc L S h
  | none => False
/-- from here the method comes to its end with Q -/
def PP (E : Evt) (sh : Nat → Option Shp) (C : Nat → Option Ops) (rt : Nat) (Q : Pst) (pc : Nat) (L S : List Value) (h : Hp) : Prop :=
  ∀ X : Kon, (∀ pc L S h, stp E sh C rt X Q pc L S h → X pc L S h) → X pc L S h
end
section
/-! the small machine's laws: bigger continuations, one step, runs to given places, calls by depth -/
section MONO
variable {E : Evt} {sh : Nat → Option Shp} {K K' : Kon} {pc n rt a b y ci : Nat} {L S : List Value} {h : Hp} {Q Q' : Pst}
theorem qI_mono {k k' : Int32 → Hp → Prop} (H : ∀ v h, k v h → k' v h) : ∀ r h, qI k r h → qI k' r h := by
  intro r h hq
  unfold qI at hq ⊢
  split at hq
  · exact H _ _ hq
  · exact hq.elim
theorem qL_mono {k k' : Int64 → Hp → Prop} (H : ∀ v h, k v h → k' v h) : ∀ r h, qL k r h → qL k' r h := by
  intro r h hq
  unfold qL at hq ⊢
  split at hq
  · exact H _ _ hq
  · exact hq.elim
theorem qV_mono {k k' : Hp → Prop} (H : ∀ h, k h → k' h) : ∀ r h, qV k r h → qV k' r h := by
  intro r h hq
  unfold qV at hq ⊢
  split at hq
  · exact H _ hq
  · exact hq.elim
theorem rK_mono (hK : ∀ pc L S h, K pc L S h → K' pc L S h) : ∀ r h, rK rt K pc L S r h → rK rt K' pc L S r h := by
  intro r h hq
  rcases rt with _ | _ | _ | _ | n
  · exact qV_mono (fun h => hK _ _ _ h) r h hq
  · exact qI_mono (fun v h => hK _ _ _ h) r h hq
  · exact qI_mono (fun v h => hK _ _ _ h) r h hq
  · exact qL_mono (fun v h => hK _ _ _ h) r h hq
  · exact qI_mono (fun v h => hK _ _ _ h) r h hq
theorem iLd_mono (hK : ∀ pc L S h, K pc L S h → K' pc L S h) (H : iLd K pc n L S h a) : iLd K' pc n L S h a := by
  unfold iLd at H ⊢
  split at H
  · exact hK _ _ _ _ H
  · exact H.elim
theorem aLd_mono (hK : ∀ pc L S h, K pc L S h → K' pc L S h) (H : aLd K pc n L S h a) : aLd K' pc n L S h a := by
  unfold aLd at H ⊢
  split at H
  · exact hK _ _ _ _ H
  · exact H.elim
theorem lLd_mono (hK : ∀ pc L S h, K pc L S h → K' pc L S h) (H : lLd K pc n L S h a) : lLd K' pc n L S h a := by
  unfold lLd at H ⊢
  split at H
  · exact hK _ _ _ _ H
  · exact H.elim
theorem iSt_mono (hK : ∀ pc L S h, K pc L S h → K' pc L S h) (H : iSt K pc n L S h a) : iSt K' pc n L S h a := by
  unfold iSt at H ⊢
  split at H
  · exact hK _ _ _ _ H
  · exact H.elim
theorem aSt_mono (hK : ∀ pc L S h, K pc L S h → K' pc L S h) (H : aSt K pc n L S h a) : aSt K' pc n L S h a := by
  unfold aSt at H ⊢
  split at H
  · exact hK _ _ _ _ H
  · exact H.elim
theorem lSt_mono (hK : ∀ pc L S h, K pc L S h → K' pc L S h) (H : lSt K pc n L S h a) : lSt K' pc n L S h a := by
  unfold lSt at H ⊢
  split at H
  · exact hK _ _ _ _ H
  · exact H.elim
theorem bI_mono {f : Int32 → Int32 → Int32} (hK : ∀ pc L S h, K pc L S h → K' pc L S h) (H : bI f K pc L S h) : bI f K' pc L S h := by
  unfold bI at H ⊢
  split at H
  · exact hK _ _ _ _ H
  · exact H.elim
theorem bD_mono {f : Int32 → Int32 → Int32} (hK : ∀ pc L S h, K pc L S h → K' pc L S h) (H : bD f K pc L S h) : bD f K' pc L S h := by
  unfold bD at H ⊢
  split at H
  · exact ⟨H.1, hK _ _ _ _ H.2⟩
  · exact H.elim
theorem bL_mono {f : Int64 → Int64 → Int64} (hK : ∀ pc L S h, K pc L S h → K' pc L S h) (H : bL f K pc L S h) : bL f K' pc L S h := by
  unfold bL at H ⊢
  split at H
  · exact hK _ _ _ _ H
  · exact H.elim
theorem bLD_mono {f : Int64 → Int64 → Int64} (hK : ∀ pc L S h, K pc L S h → K' pc L S h) (H : bLD f K pc L S h) : bLD f K' pc L S h := by
  unfold bLD at H ⊢
  split at H
  · exact ⟨H.1, hK _ _ _ _ H.2⟩
  · exact H.elim
theorem uI_mono {f : Int32 → Int32} (hK : ∀ pc L S h, K pc L S h → K' pc L S h) (H : uI f K pc L S h) : uI f K' pc L S h := by
  unfold uI at H ⊢
  split at H
  · exact hK _ _ _ _ H
  · exact H.elim
theorem brZ_mono {c : ClassFile.Cond} (hK : ∀ pc L S h, K pc L S h → K' pc L S h) (H : brZ c K pc a L S h) : brZ c K' pc a L S h := by
  unfold brZ at H ⊢
  split at H
  · cases c <;> exact ⟨fun q => hK _ _ _ _ (H.1 q), fun q => hK _ _ _ _ (H.2 q)⟩
  · exact H.elim
theorem brI_mono {c : ClassFile.Cond} (hK : ∀ pc L S h, K pc L S h → K' pc L S h) (H : brI c K pc a L S h) : brI c K' pc a L S h := by
  unfold brI at H ⊢
  split at H
  · cases c <;> exact ⟨fun q => hK _ _ _ _ (H.1 q), fun q => hK _ _ _ _ (H.2 q)⟩
  · exact H.elim
theorem swt_mono {x : Int32} {G G' : Int → Prop} {d : Int} (hG : ∀ o, G o → G' o) : ∀ l : List (Int × Int), swt x G d l → swt x G' d l
  | [], H => hG _ H
  | (_, _) :: l, H => ⟨fun q => hG _ (H.1 q), fun q => swt_mono hG l (H.2 q)⟩
theorem swi_mono {d : Int} {l : List (Int × Int)} (hK : ∀ pc L S h, K pc L S h → K' pc L S h) (H : swi K pc L S h d l) : swi K' pc L S h d l := by
  unfold swi at H ⊢
  split at H
  · exact swt_mono (fun o => hK _ _ _ _) l H
  · exact H.elim
theorem aL_mono (hK : ∀ pc L S h, K pc L S h → K' pc L S h) (H : aL K pc L S h sh a) : aL K' pc L S h sh a := by
  unfold aL at H ⊢
  split at H
  · split at H
    · exact ⟨H.1, hK _ _ _ _ H.2⟩
    · exact H.elim
  · exact H.elim
theorem bLo_mono (hK : ∀ pc L S h, K pc L S h → K' pc L S h) (H : bLo K pc L S h sh) : bLo K' pc L S h sh := by
  unfold bLo at H ⊢
  split at H
  · split at H
    · exact aL_mono hK H
    · exact aL_mono hK H
    · exact H.elim
  · exact H.elim
theorem aS_mono {f : Int32 → Int32} (hK : ∀ pc L S h, K pc L S h → K' pc L S h) (H : aS f K pc L S h sh a) : aS f K' pc L S h sh a := by
  unfold aS at H ⊢
  split at H
  · split at H
    · exact ⟨H.1, hK _ _ _ _ H.2⟩
    · exact H.elim
  · exact H.elim
theorem bSt_mono (hK : ∀ pc L S h, K pc L S h → K' pc L S h) (H : bSt K pc L S h sh) : bSt K' pc L S h sh := by
  unfold bSt at H ⊢
  split at H
  · split at H
    · exact aS_mono hK H
    · exact aS_mono hK H
    · exact H.elim
  · exact H.elim
theorem aLn_mono (hK : ∀ pc L S h, K pc L S h → K' pc L S h) (H : aLn K pc L S h sh) : aLn K' pc L S h sh := by
  unfold aLn at H ⊢
  split at H
  · split at H
    · exact hK _ _ _ _ H
    · exact H.elim
  · exact H.elim
theorem bif_mono {c : Bool} {A B : Prop} (hAB : A → B) (H : bif c then A else False) : bif c then B else False := by
  cases c
  · exact H
  · exact hAB H
theorem gF_mono (hK : ∀ pc L S h, K pc L S h → K' pc L S h) (H : gF K pc L S h sh a b) : gF K' pc L S h sh a b := by
  unfold gF at H ⊢
  split at H
  · rename_i i S1
    cases hc : Nat.beq a 100
    · simp only [hc, cond_false] at H ⊢
      refine bif_mono (fun H => ?_) H
      split at H
      · refine bif_mono (fun H => ?_) H
        split at H <;> first | exact hK _ _ _ _ H | exact H.elim
      · exact H.elim
    · simp only [hc, cond_true] at H ⊢
      refine bif_mono (fun H => ?_) H
      split at H <;> exact hK _ _ _ _ H
  · exact H.elim
theorem pF_mono (hK : ∀ pc L S h, K pc L S h → K' pc L S h) (H : pF K pc L S h sh a b) : pF K' pc L S h sh a b := by
  unfold pF at H ⊢
  split at H
  · refine bif_mono (fun H => ?_) H
    split at H
    · refine bif_mono (fun H => ?_) H
      split at H
      · exact hK _ _ _ _ H
      · exact ⟨H.1, hK _ _ _ _ H.2⟩
      · exact H.elim
    · exact H.elim
  · refine bif_mono (fun H => ?_) H
    split at H
    · refine bif_mono (fun H => ?_) H
      split at H
      · exact hK _ _ _ _ H
      · exact H.elim
    · exact H.elim
  · exact H.elim
theorem gS_mono (hK : ∀ pc L S h, K pc L S h → K' pc L S h) (H : gS K pc L S h a) : gS K' pc L S h a := by
  unfold gS at H ⊢
  cases hc : Nat.beq a 200
  · simp only [hc, cond_false] at H ⊢
    exact bif_mono (hK _ _ _ _) H
  · simp only [hc, cond_true] at H ⊢
    exact hK _ _ _ _ H
theorem cV_mono (hE : ∀ y As h Q Q', (∀ r h, Q r h → Q' r h) → E y As h Q → E y As h Q') (hK : ∀ pc L S h, K pc L S h → K' pc L S h) (H : cV E K pc L S h sh y n rt ci) : cV E K' pc L S h sh y n rt ci := by
  unfold cV at H ⊢
  split at H
  · exact bif_mono (hE _ _ _ _ _ (rK_mono hK)) H
  · exact H.elim
theorem cS_mono (hE : ∀ y As h Q Q', (∀ r h, Q r h → Q' r h) → E y As h Q → E y As h Q') (hK : ∀ pc L S h, K pc L S h → K' pc L S h) (H : cS E K pc L S h y n rt) : cS E K' pc L S h y n rt := by
  unfold cS at H ⊢
  split at H
  · exact bif_mono (hE _ _ _ _ _ (rK_mono hK)) H
  · exact H.elim
theorem acp_mono (hK : ∀ pc L S h, K pc L S h → K' pc L S h) (H : acp K pc L S h sh) : acp K' pc L S h sh := by
  unfold acp at H ⊢
  split at H
  · refine bif_mono (fun H => ?_) H
    split at H
    · obtain ⟨h1, h2, h3, h4, h5, h6, h7⟩ := H
      exact ⟨h1, h2, h3, h4, h5, h6, hK _ _ _ _ h7⟩
    · exact H.elim
  · exact H.elim
theorem m2_mono {f : Int32 → Int32 → Int32} (hK : ∀ pc L S h, K pc L S h → K' pc L S h) (H : m2 f K pc L S h) : m2 f K' pc L S h := by
  unfold m2 at H ⊢
  split at H
  · exact bif_mono (hK _ _ _ _) H
  · exact H.elim
theorem m1_mono {f : Int32 → Int32} (hK : ∀ pc L S h, K pc L S h → K' pc L S h) (H : m1 f K pc L S h) : m1 f K' pc L S h := by
  unfold m1 at H ⊢
  split at H
  · exact bif_mono (hK _ _ _ _) H
  · exact H.elim
theorem iRet_mono (hQ : ∀ r h, Q r h → Q' r h) (H : iRet rt Q S h) : iRet rt Q' S h := by
  unfold iRet at H ⊢
  split at H
  · split at H
    · exact hQ _ _ H
    · exact ⟨H.1, hQ _ _ H.2⟩
    · exact ⟨H.1, hQ _ _ H.2⟩
    · exact H.elim
  · exact H.elim
theorem lRet_mono (hQ : ∀ r h, Q r h → Q' r h) (H : lRet rt Q S h) : lRet rt Q' S h := by
  unfold lRet at H ⊢
  split at H
  · split at H
    · exact hQ _ _ H
    · exact H.elim
  · exact H.elim
theorem vRet_mono (hQ : ∀ r h, Q r h → Q' r h) (H : vRet rt Q S h) : vRet rt Q' S h := by
  unfold vRet at H ⊢
  split at H
  · split at H
    · exact hQ _ _ H
    · exact H.elim
  · exact H.elim
theorem dup1_mono (hK : ∀ pc L S h, K pc L S h → K' pc L S h) (H : dup1 K pc L S h) : dup1 K' pc L S h := by
  unfold dup1 at H ⊢
  split at H
  · exact hK _ _ _ _ H
  · exact hK _ _ _ _ H
  · exact H.elim
theorem dup22_mono (hK : ∀ pc L S h, K pc L S h → K' pc L S h) (H : dup22 K pc L S h) : dup22 K' pc L S h := by
  unfold dup22 at H ⊢
  split at H
  · exact hK _ _ _ _ H
  · exact H.elim
theorem pop1_mono (hK : ∀ pc L S h, K pc L S h → K' pc L S h) (H : pop1 K pc L S h) : pop1 K' pc L S h := by
  unfold pop1 at H ⊢
  split at H
  · exact hK _ _ _ _ H
  · exact H.elim
theorem iinC_mono {k : Int} (hK : ∀ pc L S h, K pc L S h → K' pc L S h) (H : iinC K pc L S h a k) : iinC K' pc L S h a k := by
  unfold iinC at H ⊢
  split at H
  · exact hK _ _ _ _ H
  · exact H.elim
theorem i2lC_mono (hK : ∀ pc L S h, K pc L S h → K' pc L S h) (H : i2lC K pc L S h) : i2lC K' pc L S h := by
  unfold i2lC at H ⊢
  split at H
  · exact hK _ _ _ _ H
  · exact H.elim
theorem l2iC_mono (hK : ∀ pc L S h, K pc L S h → K' pc L S h) (H : l2iC K pc L S h) : l2iC K' pc L S h := by
  unfold l2iC at H ⊢
  split at H
  · exact hK _ _ _ _ H
  · exact H.elim
set_option maxHeartbeats 4000000 in
theorem st1_mono {o : Ops} (hE : ∀ y As h Q Q', (∀ r h, Q r h → Q' r h) → E y As h Q → E y As h Q') (hK : ∀ pc L S h, K pc L S h → K' pc L S h) (hQ : ∀ r h, Q r h → Q' r h) (H : st1 E sh rt o K Q pc L S h) : st1 E sh rt o K' Q' pc L S h := by
  obtain ⟨i, a, b, c, d⟩ := o
  cases i
  case ldc => 
    unfold st1 at H ⊢
    dsimp only at H ⊢
    split at H <;> exact hK _ _ _ _ H
  case invokestatic =>
    unfold st1 at H ⊢
    dsimp only at H ⊢
    split at H
    · exact m2_mono hK H
    · exact m2_mono hK H
    · exact m1_mono hK H
    · exact acp_mono hK H
    · exact cS_mono hE hK H
  case invokevirtual => exact cV_mono hE hK H
  case ireturn => exact iRet_mono hQ H
  case lreturn => exact lRet_mono hQ H
  case return_ => exact vRet_mono hQ H
  case iload_n => exact iLd_mono hK H
  case iload => exact iLd_mono hK H
  case aload_n => exact aLd_mono hK H
  case aload => exact aLd_mono hK H
  case lload_n => exact lLd_mono hK H
  case lload => exact lLd_mono hK H
  case istore_n => exact iSt_mono hK H
  case istore => exact iSt_mono hK H
  case astore_n => exact aSt_mono hK H
  case astore => exact aSt_mono hK H
  case lstore_n => exact lSt_mono hK H
  case lstore => exact lSt_mono hK H
  case iinc => exact iinC_mono hK H
  case iadd => exact bI_mono hK H
  case isub => exact bI_mono hK H
  case imul => exact bI_mono hK H
  case iand => exact bI_mono hK H
  case ior => exact bI_mono hK H
  case ixor => exact bI_mono hK H
  case ishl => exact bI_mono hK H
  case ishr => exact bI_mono hK H
  case iushr => exact bI_mono hK H
  case idiv => exact bD_mono hK H
  case irem => exact bD_mono hK H
  case ladd => exact bL_mono hK H
  case lmul => exact bL_mono hK H
  case land => exact bL_mono hK H
  case ldiv => exact bLD_mono hK H
  case lrem => exact bLD_mono hK H
  case i2l => exact i2lC_mono hK H
  case l2i => exact l2iC_mono hK H
  case i2b => exact uI_mono hK H
  case i2c => exact uI_mono hK H
  case dup => exact dup1_mono hK H
  case dup2 => exact dup22_mono hK H
  case pop => exact pop1_mono hK H
  case ifCond => exact brZ_mono hK H
  case if_icmp => exact brI_mono hK H
  case tableswitch => exact swi_mono hK H
  case lookupswitch => exact swi_mono hK H
  case iaload => exact aL_mono hK H
  case baload => exact bLo_mono hK H
  case iastore => exact aS_mono hK H
  case bastore => exact bSt_mono hK H
  case arraylength => exact aLn_mono hK H
  case getfield => exact gF_mono hK H
  case putfield => exact pF_mono hK H
  case getstatic => exact gS_mono hK H
  all_goals first | exact hK _ _ _ _ H | exact False.elim H
theorem stp_mono {C : Nat → Option Ops} (hE : ∀ y As h Q Q', (∀ r h, Q r h → Q' r h) → E y As h Q → E y As h Q') (hK : ∀ pc L S h, K pc L S h → K' pc L S h) (hQ : ∀ r h, Q r h → Q' r h) (H : stp E sh C rt K Q pc L S h) : stp E sh C rt K' Q' pc L S h := by
  unfold stp at H ⊢
  split at H
  · exact st1_mono hE hK hQ H
  · exact H.elim
theorem PP.step {C : Nat → Option Ops} (hE : ∀ y As h Q Q', (∀ r h, Q r h → Q' r h) → E y As h Q → E y As h Q') (H : stp E sh C rt (PP E sh C rt Q) Q pc L S h) : PP E sh C rt Q pc L S h := by
  intro X hX
  exact hX _ _ _ _ (stp_mono hE (fun pc L S h HP => HP X hX) (fun _ _ q => q) H)
theorem PP.mono {C : Nat → Option Ops} (hE : ∀ y As h Q Q', (∀ r h, Q r h → Q' r h) → E y As h Q → E y As h Q') (hQ : ∀ r h, Q r h → Q' r h) (H : PP E sh C rt Q pc L S h) : PP E sh C rt Q' pc L S h :=
  H (PP E sh C rt Q') (fun _ _ _ _ HX => PP.step hE (stp_mono hE (fun _ _ _ _ q => q) hQ HX))
end MONO
def elemN (x : Nat) : List Nat → Bool
  | [] => false
  | a :: l => bif Nat.beq a x then true else elemN x l
/-- up to n instructions on, but not past the places in 'st' -/
def wps (E : Evt) (sh : Nat → Option Shp) (C : Nat → Option Ops) (rt : Nat) (Q : Pst) (st : List Nat) : Nat → Kon
  | 0, pc, L, S, h => PP E sh C rt Q pc L S h
  | n + 1, pc, L, S, h => bif elemN pc st then PP E sh C rt Q pc L S h else stp E sh C rt (wps E sh C rt Q st n) Q pc L S h
theorem wps_sound {E : Evt} {sh : Nat → Option Shp} {C : Nat → Option Ops} {rt : Nat} {Q : Pst} {st : List Nat} (hE : ∀ y As h Q Q', (∀ r h, Q r h → Q' r h) → E y As h Q → E y As h Q') : ∀ (n pc : Nat) (L S : List Value) (h : Hp), wps E sh C rt Q st n pc L S h → PP E sh C rt Q pc L S h
  | 0, _, _, _, _, H => H
  | n + 1, pc, L, S, h, H => by
    unfold wps at H
    cases hc : elemN pc st
    · rw [hc] at H
      exact PP.step hE (stp_mono hE (wps_sound hE n) (fun _ _ q => q) H)
    · rw [hc] at H
      exact H
theorem wpb_sound {E : Evt} {sh : Nat → Option Shp} {C : Nat → Option Ops} {rt : Nat} {Q : Pst} (st : List Nat) (n : Nat) {pc : Nat} {L S : List Value} {h : Hp} (hE : ∀ y As h Q Q', (∀ r h, Q r h → Q' r h) → E y As h Q → E y As h Q') (H : stp E sh C rt (wps E sh C rt Q st n) Q pc L S h) : PP E sh C rt Q pc L S h :=
  PP.step hE (stp_mono hE (wps_sound hE n) (fun _ _ q => q) H)
/-- a method's first locals: its arguments, a long takes two -/
def entA : List Value → List Value
  | [] => []
  | .long x :: l => .long x :: unv :: entA l
  | .double x :: l => .double x :: unv :: entA l
  | v :: l => v :: entA l
def ent (As : List Value) (n : Nat) : List Value := entA As ++ List.replicate (n - (entA As).length) unv
abbrev Mtb : Type := Nat → Option ((Nat → Option Ops) × Nat × Nat)
/-- a call of method y, no more than d calls deep, comes to Q -/
def Ev (mt : Mtb) (sh : Nat → Option Shp) : Nat → Evt
  | 0, _, _, _, _ => False
  | d + 1, y, As, h, Q => match mt y with
    | some (C, nL, rt) => PP (Ev mt sh d) sh C rt Q 0 (ent As nL) [] h
    | none => False
theorem Ev_mono {mt : Mtb} {sh : Nat → Option Shp} : ∀ (d y : Nat) (As : List Value) (h : Hp) (Q Q' : Pst), (∀ r h, Q r h → Q' r h) → Ev mt sh d y As h Q → Ev mt sh d y As h Q'
  | 0, _, _, _, _, _, _, H => H
  | d + 1, y, As, h, Q, Q', hQ, H => by
    unfold Ev at H ⊢
    split at H
    · exact PP.mono (Ev_mono d) hQ H
    · exact H.elim
end
