section
-- ===== PART A: goes FIRST, ahead of the names: the tables' words, and 'selects' of the private methods out of them =====
/-- a private method of a class that the tables say can be made, by its rows of tables_1 -/
def lw_okq (q : MethodName × Nat) : Prop := (q.1.cls ≠ "java/lang/invoke/MethodHandle" ∧ q.1.cls ≠ "java/lang/invoke/VarHandle") ∧ Cond.instantiable q.1.cls q.2 ∈ tables_1 ∧ Cond.privateMethod q.1 ∈ tables_1 ∧ Cond.instanceMethod q.1 ∈ tables_1
theorem lw_p0 : lw_okq (⟨"java/lang/Throwable", "fillInStackTrace", "(I)Ljava/lang/Throwable;"⟩, 6) := ⟨⟨by decide +kernel, by decide +kernel⟩, List.mem_of_getElem? (i := 301) (by decide +kernel), List.mem_of_getElem? (i := 299) (by decide +kernel), List.mem_of_getElem? (i := 300) (by decide +kernel)⟩
theorem lw_p1 : lw_okq (⟨"RoadOracle", "requireJunction", "(I)V"⟩, 11) := ⟨⟨by decide +kernel, by decide +kernel⟩, List.mem_of_getElem? (i := 20) (by decide +kernel), List.mem_of_getElem? (i := 340) (by decide +kernel), List.mem_of_getElem? (i := 341) (by decide +kernel)⟩
theorem lw_p2 : lw_okq (⟨"RoadOracle", "requireWeight", "(I)V"⟩, 11) := ⟨⟨by decide +kernel, by decide +kernel⟩, List.mem_of_getElem? (i := 20) (by decide +kernel), List.mem_of_getElem? (i := 376) (by decide +kernel), List.mem_of_getElem? (i := 377) (by decide +kernel)⟩
theorem lw_p3 : lw_okq (⟨"RoadOracle", "requireRoad", "(I)V"⟩, 11) := ⟨⟨by decide +kernel, by decide +kernel⟩, List.mem_of_getElem? (i := 20) (by decide +kernel), List.mem_of_getElem? (i := 396) (by decide +kernel), List.mem_of_getElem? (i := 397) (by decide +kernel)⟩
theorem lw_p4 : lw_okq (⟨"RoadOracle$Hierarchy", "renewSteps", "(JJ)V"⟩, 14) := ⟨⟨by decide +kernel, by decide +kernel⟩, List.mem_of_getElem? (i := 85) (by decide +kernel), List.mem_of_getElem? (i := 410) (by decide +kernel), List.mem_of_getElem? (i := 411) (by decide +kernel)⟩
theorem lw_p5 : lw_okq (⟨"RoadOracle$Hierarchy", "markHeads", "(IJ)V"⟩, 14) := ⟨⟨by decide +kernel, by decide +kernel⟩, List.mem_of_getElem? (i := 85) (by decide +kernel), List.mem_of_getElem? (i := 433) (by decide +kernel), List.mem_of_getElem? (i := 434) (by decide +kernel)⟩
theorem lw_p6 : lw_okq (⟨"RoadOracle$Hierarchy", "settle", "()I"⟩, 14) := ⟨⟨by decide +kernel, by decide +kernel⟩, List.mem_of_getElem? (i := 85) (by decide +kernel), List.mem_of_getElem? (i := 438) (by decide +kernel), List.mem_of_getElem? (i := 439) (by decide +kernel)⟩
theorem lw_p7 : lw_okq (⟨"RoadOracle$Hierarchy", "settleArc", "(II)I"⟩, 14) := ⟨⟨by decide +kernel, by decide +kernel⟩, List.mem_of_getElem? (i := 85) (by decide +kernel), List.mem_of_getElem? (i := 442) (by decide +kernel), List.mem_of_getElem? (i := 443) (by decide +kernel)⟩
theorem lw_p8 : lw_okq (⟨"RoadOracle$Hierarchy", "computeArc", "(II)I"⟩, 14) := ⟨⟨by decide +kernel, by decide +kernel⟩, List.mem_of_getElem? (i := 85) (by decide +kernel), List.mem_of_getElem? (i := 446) (by decide +kernel), List.mem_of_getElem? (i := 447) (by decide +kernel)⟩
theorem lw_p9 : lw_okq (⟨"RoadOracle$Hierarchy", "markAbove", "(II)V"⟩, 14) := ⟨⟨by decide +kernel, by decide +kernel⟩, List.mem_of_getElem? (i := 85) (by decide +kernel), List.mem_of_getElem? (i := 453) (by decide +kernel), List.mem_of_getElem? (i := 454) (by decide +kernel)⟩
theorem lw_p10 : lw_okq (⟨"RoadOracle$Hierarchy", "markTails", "(JI)V"⟩, 14) := ⟨⟨by decide +kernel, by decide +kernel⟩, List.mem_of_getElem? (i := 85) (by decide +kernel), List.mem_of_getElem? (i := 458) (by decide +kernel), List.mem_of_getElem? (i := 459) (by decide +kernel)⟩
theorem lw_p11 : lw_okq (⟨"RoadOracle", "openOrClose", "(IZ)I"⟩, 11) := ⟨⟨by decide +kernel, by decide +kernel⟩, List.mem_of_getElem? (i := 20) (by decide +kernel), List.mem_of_getElem? (i := 469) (by decide +kernel), List.mem_of_getElem? (i := 470) (by decide +kernel)⟩
theorem lw_p12 : lw_okq (⟨"RoadOracle", "requireTurn", "(II)V"⟩, 11) := ⟨⟨by decide +kernel, by decide +kernel⟩, List.mem_of_getElem? (i := 20) (by decide +kernel), List.mem_of_getElem? (i := 481) (by decide +kernel), List.mem_of_getElem? (i := 482) (by decide +kernel)⟩
theorem lw_p13 : lw_okq (⟨"RoadOracle$Hierarchy", "linkTurns", "()I"⟩, 14) := ⟨⟨by decide +kernel, by decide +kernel⟩, List.mem_of_getElem? (i := 85) (by decide +kernel), List.mem_of_getElem? (i := 543) (by decide +kernel), List.mem_of_getElem? (i := 544) (by decide +kernel)⟩
theorem lw_p14 : lw_okq (⟨"RoadOracle$Hierarchy", "cheapest", "(J)I"⟩, 14) := ⟨⟨by decide +kernel, by decide +kernel⟩, List.mem_of_getElem? (i := 85) (by decide +kernel), List.mem_of_getElem? (i := 553) (by decide +kernel), List.mem_of_getElem? (i := 554) (by decide +kernel)⟩
theorem lw_p15 : lw_okq (⟨"RoadOracle$Hierarchy", "bridge", "(JJ)V"⟩, 14) := ⟨⟨by decide +kernel, by decide +kernel⟩, List.mem_of_getElem? (i := 85) (by decide +kernel), List.mem_of_getElem? (i := 558) (by decide +kernel), List.mem_of_getElem? (i := 559) (by decide +kernel)⟩
def lw_privs_1 : List (MethodName × Nat) := [(⟨"java/lang/Throwable", "fillInStackTrace", "(I)Ljava/lang/Throwable;"⟩, 6), (⟨"RoadOracle", "requireJunction", "(I)V"⟩, 11), (⟨"RoadOracle", "requireWeight", "(I)V"⟩, 11), (⟨"RoadOracle", "requireRoad", "(I)V"⟩, 11), (⟨"RoadOracle$Hierarchy", "renewSteps", "(JJ)V"⟩, 14), (⟨"RoadOracle$Hierarchy", "markHeads", "(IJ)V"⟩, 14), (⟨"RoadOracle$Hierarchy", "settle", "()I"⟩, 14), (⟨"RoadOracle$Hierarchy", "settleArc", "(II)I"⟩, 14), (⟨"RoadOracle$Hierarchy", "computeArc", "(II)I"⟩, 14), (⟨"RoadOracle$Hierarchy", "markAbove", "(II)V"⟩, 14), (⟨"RoadOracle$Hierarchy", "markTails", "(JI)V"⟩, 14), (⟨"RoadOracle", "openOrClose", "(IZ)I"⟩, 11), (⟨"RoadOracle", "requireTurn", "(II)V"⟩, 11), (⟨"RoadOracle$Hierarchy", "linkTurns", "()I"⟩, 14), (⟨"RoadOracle$Hierarchy", "cheapest", "(J)I"⟩, 14), (⟨"RoadOracle$Hierarchy", "bridge", "(JJ)V"⟩, 14)]
theorem lw_r1 : ∀ q ∈ lw_privs_1, lw_okq q := List.forall_mem_cons.mpr ⟨lw_p0, List.forall_mem_cons.mpr ⟨lw_p1, List.forall_mem_cons.mpr ⟨lw_p2, List.forall_mem_cons.mpr ⟨lw_p3, List.forall_mem_cons.mpr ⟨lw_p4, List.forall_mem_cons.mpr ⟨lw_p5, List.forall_mem_cons.mpr ⟨lw_p6, List.forall_mem_cons.mpr ⟨lw_p7, List.forall_mem_cons.mpr ⟨lw_p8, List.forall_mem_cons.mpr ⟨lw_p9, List.forall_mem_cons.mpr ⟨lw_p10, List.forall_mem_cons.mpr ⟨lw_p11, List.forall_mem_cons.mpr ⟨lw_p12, List.forall_mem_cons.mpr ⟨lw_p13, List.forall_mem_cons.mpr ⟨lw_p14, List.forall_mem_cons.mpr ⟨lw_p15, fun _ h => absurd h List.not_mem_nil⟩⟩⟩⟩⟩⟩⟩⟩⟩⟩⟩⟩⟩⟩⟩⟩
theorem lw_p16 : lw_okq (⟨"RoadOracle", "requireHierarchy", "()V"⟩, 11) := ⟨⟨by decide +kernel, by decide +kernel⟩, List.mem_of_getElem? (i := 20) (by decide +kernel), List.mem_of_getElem? (i := 571) (by decide +kernel), List.mem_of_getElem? (i := 572) (by decide +kernel)⟩
theorem lw_p17 : lw_okq (⟨"RoadOracle", "costBetween", "(II)I"⟩, 11) := ⟨⟨by decide +kernel, by decide +kernel⟩, List.mem_of_getElem? (i := 20) (by decide +kernel), List.mem_of_getElem? (i := 615) (by decide +kernel), List.mem_of_getElem? (i := 616) (by decide +kernel)⟩
theorem lw_p18 : lw_okq (⟨"RoadOracle", "searchFrom", "(I)V"⟩, 11) := ⟨⟨by decide +kernel, by decide +kernel⟩, List.mem_of_getElem? (i := 20) (by decide +kernel), List.mem_of_getElem? (i := 619) (by decide +kernel), List.mem_of_getElem? (i := 620) (by decide +kernel)⟩
theorem lw_p19 : lw_okq (⟨"RoadOracle$Hierarchy", "passOn", "([IIJ)V"⟩, 14) := ⟨⟨by decide +kernel, by decide +kernel⟩, List.mem_of_getElem? (i := 85) (by decide +kernel), List.mem_of_getElem? (i := 630) (by decide +kernel), List.mem_of_getElem? (i := 631) (by decide +kernel)⟩
theorem lw_p20 : lw_okq (⟨"RoadOracle", "foundCost", "(II)I"⟩, 11) := ⟨⟨by decide +kernel, by decide +kernel⟩, List.mem_of_getElem? (i := 20) (by decide +kernel), List.mem_of_getElem? (i := 634) (by decide +kernel), List.mem_of_getElem? (i := 635) (by decide +kernel)⟩
theorem lw_p21 : lw_okq (⟨"RoadOracle", "leastAmong", "(J)I"⟩, 11) := ⟨⟨by decide +kernel, by decide +kernel⟩, List.mem_of_getElem? (i := 20) (by decide +kernel), List.mem_of_getElem? (i := 638) (by decide +kernel), List.mem_of_getElem? (i := 639) (by decide +kernel)⟩
theorem lw_p22 : lw_okq (⟨"RoadOracle", "searchTo", "(I)V"⟩, 11) := ⟨⟨by decide +kernel, by decide +kernel⟩, List.mem_of_getElem? (i := 20) (by decide +kernel), List.mem_of_getElem? (i := 657) (by decide +kernel), List.mem_of_getElem? (i := 658) (by decide +kernel)⟩
theorem lw_p23 : lw_okq (⟨"RoadOracle$Hierarchy", "passBack", "([IIJ)V"⟩, 14) := ⟨⟨by decide +kernel, by decide +kernel⟩, List.mem_of_getElem? (i := 85) (by decide +kernel), List.mem_of_getElem? (i := 665) (by decide +kernel), List.mem_of_getElem? (i := 666) (by decide +kernel)⟩
theorem lw_p24 : lw_okq (⟨"RoadOracle", "bestFirstRoad", "(I)I"⟩, 11) := ⟨⟨by decide +kernel, by decide +kernel⟩, List.mem_of_getElem? (i := 20) (by decide +kernel), List.mem_of_getElem? (i := 669) (by decide +kernel), List.mem_of_getElem? (i := 670) (by decide +kernel)⟩
theorem lw_p25 : lw_okq (⟨"RoadOracle", "writePath", "(I)I"⟩, 11) := ⟨⟨by decide +kernel, by decide +kernel⟩, List.mem_of_getElem? (i := 20) (by decide +kernel), List.mem_of_getElem? (i := 674) (by decide +kernel), List.mem_of_getElem? (i := 675) (by decide +kernel)⟩
theorem lw_p26 : lw_okq (⟨"RoadOracle", "bestNextRoad", "(I)I"⟩, 11) := ⟨⟨by decide +kernel, by decide +kernel⟩, List.mem_of_getElem? (i := 20) (by decide +kernel), List.mem_of_getElem? (i := 678) (by decide +kernel), List.mem_of_getElem? (i := 679) (by decide +kernel)⟩
theorem lw_p27 : lw_okq (⟨"RoadOracle", "keepReached", "(II)V"⟩, 11) := ⟨⟨by decide +kernel, by decide +kernel⟩, List.mem_of_getElem? (i := 20) (by decide +kernel), List.mem_of_getElem? (i := 700) (by decide +kernel), List.mem_of_getElem? (i := 701) (by decide +kernel)⟩
theorem lw_p28 : lw_okq (⟨"RoadOracle", "requireKind", "(I)V"⟩, 11) := ⟨⟨by decide +kernel, by decide +kernel⟩, List.mem_of_getElem? (i := 20) (by decide +kernel), List.mem_of_getElem? (i := 733) (by decide +kernel), List.mem_of_getElem? (i := 734) (by decide +kernel)⟩
theorem lw_p29 : lw_okq (⟨"RoadOracleModel", "fail", "(I)I"⟩, 32) := ⟨⟨by decide +kernel, by decide +kernel⟩, List.mem_of_getElem? (i := 778) (by decide +kernel), List.mem_of_getElem? (i := 890) (by decide +kernel), List.mem_of_getElem? (i := 891) (by decide +kernel)⟩
theorem lw_p30 : lw_okq (⟨"RoadOracleModel", "isJunction", "(I)Z"⟩, 32) := ⟨⟨by decide +kernel, by decide +kernel⟩, List.mem_of_getElem? (i := 778) (by decide +kernel), List.mem_of_getElem? (i := 898) (by decide +kernel), List.mem_of_getElem? (i := 899) (by decide +kernel)⟩
theorem lw_p31 : lw_okq (⟨"RoadOracleModel", "isRoad", "(I)Z"⟩, 32) := ⟨⟨by decide +kernel, by decide +kernel⟩, List.mem_of_getElem? (i := 778) (by decide +kernel), List.mem_of_getElem? (i := 906) (by decide +kernel), List.mem_of_getElem? (i := 907) (by decide +kernel)⟩
def lw_privs_2 : List (MethodName × Nat) := [(⟨"RoadOracle", "requireHierarchy", "()V"⟩, 11), (⟨"RoadOracle", "costBetween", "(II)I"⟩, 11), (⟨"RoadOracle", "searchFrom", "(I)V"⟩, 11), (⟨"RoadOracle$Hierarchy", "passOn", "([IIJ)V"⟩, 14), (⟨"RoadOracle", "foundCost", "(II)I"⟩, 11), (⟨"RoadOracle", "leastAmong", "(J)I"⟩, 11), (⟨"RoadOracle", "searchTo", "(I)V"⟩, 11), (⟨"RoadOracle$Hierarchy", "passBack", "([IIJ)V"⟩, 14), (⟨"RoadOracle", "bestFirstRoad", "(I)I"⟩, 11), (⟨"RoadOracle", "writePath", "(I)I"⟩, 11), (⟨"RoadOracle", "bestNextRoad", "(I)I"⟩, 11), (⟨"RoadOracle", "keepReached", "(II)V"⟩, 11), (⟨"RoadOracle", "requireKind", "(I)V"⟩, 11), (⟨"RoadOracleModel", "fail", "(I)I"⟩, 32), (⟨"RoadOracleModel", "isJunction", "(I)Z"⟩, 32), (⟨"RoadOracleModel", "isRoad", "(I)Z"⟩, 32)]
theorem lw_r2 : ∀ q ∈ lw_privs_2, lw_okq q := List.forall_mem_cons.mpr ⟨lw_p16, List.forall_mem_cons.mpr ⟨lw_p17, List.forall_mem_cons.mpr ⟨lw_p18, List.forall_mem_cons.mpr ⟨lw_p19, List.forall_mem_cons.mpr ⟨lw_p20, List.forall_mem_cons.mpr ⟨lw_p21, List.forall_mem_cons.mpr ⟨lw_p22, List.forall_mem_cons.mpr ⟨lw_p23, List.forall_mem_cons.mpr ⟨lw_p24, List.forall_mem_cons.mpr ⟨lw_p25, List.forall_mem_cons.mpr ⟨lw_p26, List.forall_mem_cons.mpr ⟨lw_p27, List.forall_mem_cons.mpr ⟨lw_p28, List.forall_mem_cons.mpr ⟨lw_p29, List.forall_mem_cons.mpr ⟨lw_p30, List.forall_mem_cons.mpr ⟨lw_p31, fun _ h => absurd h List.not_mem_nil⟩⟩⟩⟩⟩⟩⟩⟩⟩⟩⟩⟩⟩⟩⟩⟩
theorem lw_p32 : lw_okq (⟨"RoadOracleModel", "renewed", "()I"⟩, 32) := ⟨⟨by decide +kernel, by decide +kernel⟩, List.mem_of_getElem? (i := 778) (by decide +kernel), List.mem_of_getElem? (i := 910) (by decide +kernel), List.mem_of_getElem? (i := 911) (by decide +kernel)⟩
theorem lw_p33 : lw_okq (⟨"RoadOracleModel", "findCosts", "()V"⟩, 32) := ⟨⟨by decide +kernel, by decide +kernel⟩, List.mem_of_getElem? (i := 778) (by decide +kernel), List.mem_of_getElem? (i := 914) (by decide +kernel), List.mem_of_getElem? (i := 915) (by decide +kernel)⟩
theorem lw_p34 : lw_okq (⟨"RoadOracleModel", "step", "(II)J"⟩, 32) := ⟨⟨by decide +kernel, by decide +kernel⟩, List.mem_of_getElem? (i := 778) (by decide +kernel), List.mem_of_getElem? (i := 918) (by decide +kernel), List.mem_of_getElem? (i := 919) (by decide +kernel)⟩
theorem lw_p35 : lw_okq (⟨"RoadOracleModel", "follows", "(II)Z"⟩, 32) := ⟨⟨by decide +kernel, by decide +kernel⟩, List.mem_of_getElem? (i := 778) (by decide +kernel), List.mem_of_getElem? (i := 922) (by decide +kernel), List.mem_of_getElem? (i := 923) (by decide +kernel)⟩
theorem lw_p36 : lw_okq (⟨"RoadOracleModel", "penalty", "(II)I"⟩, 32) := ⟨⟨by decide +kernel, by decide +kernel⟩, List.mem_of_getElem? (i := 778) (by decide +kernel), List.mem_of_getElem? (i := 926) (by decide +kernel), List.mem_of_getElem? (i := 927) (by decide +kernel)⟩
theorem lw_p37 : lw_okq (⟨"RoadOracleModel", "next", "()I"⟩, 32) := ⟨⟨by decide +kernel, by decide +kernel⟩, List.mem_of_getElem? (i := 778) (by decide +kernel), List.mem_of_getElem? (i := 970) (by decide +kernel), List.mem_of_getElem? (i := 971) (by decide +kernel)⟩
theorem lw_p38 : lw_okq (⟨"RoadOracleModel", "take", "(II)V"⟩, 32) := ⟨⟨by decide +kernel, by decide +kernel⟩, List.mem_of_getElem? (i := 778) (by decide +kernel), List.mem_of_getElem? (i := 974) (by decide +kernel), List.mem_of_getElem? (i := 975) (by decide +kernel)⟩
theorem lw_p39 : lw_okq (⟨"RoadOracleModel", "costOf", "(II)I"⟩, 32) := ⟨⟨by decide +kernel, by decide +kernel⟩, List.mem_of_getElem? (i := 778) (by decide +kernel), List.mem_of_getElem? (i := 998) (by decide +kernel), List.mem_of_getElem? (i := 999) (by decide +kernel)⟩
theorem lw_p40 : lw_okq (⟨"RoadOracleModel", "lookedAt", "(II)I"⟩, 32) := ⟨⟨by decide +kernel, by decide +kernel⟩, List.mem_of_getElem? (i := 778) (by decide +kernel), List.mem_of_getElem? (i := 1006) (by decide +kernel), List.mem_of_getElem? (i := 1007) (by decide +kernel)⟩
theorem lw_p41 : lw_okq (⟨"RoadOracleModel", "distanceBetween", "(II)I"⟩, 32) := ⟨⟨by decide +kernel, by decide +kernel⟩, List.mem_of_getElem? (i := 778) (by decide +kernel), List.mem_of_getElem? (i := 1010) (by decide +kernel), List.mem_of_getElem? (i := 1011) (by decide +kernel)⟩
theorem lw_p42 : lw_okq (⟨"RoadOracleModel", "findBehind", "(I)V"⟩, 32) := ⟨⟨by decide +kernel, by decide +kernel⟩, List.mem_of_getElem? (i := 778) (by decide +kernel), List.mem_of_getElem? (i := 1014) (by decide +kernel), List.mem_of_getElem? (i := 1015) (by decide +kernel)⟩
theorem lw_p43 : lw_okq (⟨"RoadOracleModel", "improves", "(II)Z"⟩, 32) := ⟨⟨by decide +kernel, by decide +kernel⟩, List.mem_of_getElem? (i := 778) (by decide +kernel), List.mem_of_getElem? (i := 1018) (by decide +kernel), List.mem_of_getElem? (i := 1019) (by decide +kernel)⟩
theorem lw_p44 : lw_okq (⟨"RoadOracleModel", "firstRoad", "(I)I"⟩, 32) := ⟨⟨by decide +kernel, by decide +kernel⟩, List.mem_of_getElem? (i := 778) (by decide +kernel), List.mem_of_getElem? (i := 1022) (by decide +kernel), List.mem_of_getElem? (i := 1023) (by decide +kernel)⟩
theorem lw_p45 : lw_okq (⟨"RoadOracleModel", "nextRoad", "(I)I"⟩, 32) := ⟨⟨by decide +kernel, by decide +kernel⟩, List.mem_of_getElem? (i := 778) (by decide +kernel), List.mem_of_getElem? (i := 1034) (by decide +kernel), List.mem_of_getElem? (i := 1035) (by decide +kernel)⟩
def lw_privs_3 : List (MethodName × Nat) := [(⟨"RoadOracleModel", "renewed", "()I"⟩, 32), (⟨"RoadOracleModel", "findCosts", "()V"⟩, 32), (⟨"RoadOracleModel", "step", "(II)J"⟩, 32), (⟨"RoadOracleModel", "follows", "(II)Z"⟩, 32), (⟨"RoadOracleModel", "penalty", "(II)I"⟩, 32), (⟨"RoadOracleModel", "next", "()I"⟩, 32), (⟨"RoadOracleModel", "take", "(II)V"⟩, 32), (⟨"RoadOracleModel", "costOf", "(II)I"⟩, 32), (⟨"RoadOracleModel", "lookedAt", "(II)I"⟩, 32), (⟨"RoadOracleModel", "distanceBetween", "(II)I"⟩, 32), (⟨"RoadOracleModel", "findBehind", "(I)V"⟩, 32), (⟨"RoadOracleModel", "improves", "(II)Z"⟩, 32), (⟨"RoadOracleModel", "firstRoad", "(I)I"⟩, 32), (⟨"RoadOracleModel", "nextRoad", "(I)I"⟩, 32)]
theorem lw_r3 : ∀ q ∈ lw_privs_3, lw_okq q := List.forall_mem_cons.mpr ⟨lw_p32, List.forall_mem_cons.mpr ⟨lw_p33, List.forall_mem_cons.mpr ⟨lw_p34, List.forall_mem_cons.mpr ⟨lw_p35, List.forall_mem_cons.mpr ⟨lw_p36, List.forall_mem_cons.mpr ⟨lw_p37, List.forall_mem_cons.mpr ⟨lw_p38, List.forall_mem_cons.mpr ⟨lw_p39, List.forall_mem_cons.mpr ⟨lw_p40, List.forall_mem_cons.mpr ⟨lw_p41, List.forall_mem_cons.mpr ⟨lw_p42, List.forall_mem_cons.mpr ⟨lw_p43, List.forall_mem_cons.mpr ⟨lw_p44, List.forall_mem_cons.mpr ⟨lw_p45, fun _ h => absurd h List.not_mem_nil⟩⟩⟩⟩⟩⟩⟩⟩⟩⟩⟩⟩⟩⟩
def lw_privs : List (MethodName × Nat) := lw_privs_1 ++ (lw_privs_2 ++ (lw_privs_3))
def lw_tbl : List Cond := k2_sels lw_privs ++ tables_1
theorem lw_privs_ok : ∀ q ∈ lw_privs, lw_okq q := by
  show ∀ q ∈ lw_privs_1 ++ (lw_privs_2 ++ (lw_privs_3)), lw_okq q
  exact List.forall_mem_append.mpr ⟨lw_r1, List.forall_mem_append.mpr ⟨lw_r2, lw_r3⟩⟩
/-- the streams that the claim lets the run draw from -/
abbrev lw_cs : List Choice := [Jvm.Choice.named "NaN.bits"]
theorem lw_bits : nanBits ∈ lw_cs := by first | decide | exact List.mem_cons_self | simp [lw_cs, nanBits]
-- ===== end of PART A; then your names; then what follows =====
/-! ===== BEGIN words of one list among another's, by their places ===== -/
theorem goodIn_r {big : List Cond} (ws : List Cond) (ps : List Nat) (hp : ws = ps.filterMap (fun i => big[i]?)) (h : ws.all goodWord = true) : GoodIn big ws := by
  intro w hw
  have h1 := List.all_eq_true.mp h w hw
  rw [hp] at hw
  obtain ⟨i, -, hi⟩ := List.mem_filterMap.mp hw
  have hm : w ∈ big := by first | exact List.mem_of_getElem? hi | exact List.getElem?_mem hi
  exact ⟨hm, good_of_word h1⟩
theorem goodIn_app {big a b : List Cond} (ha : GoodIn big a) (hb : GoodIn big b) : GoodIn big (a ++ b) := fun w h => (List.mem_append.mp h).elim (ha w) (hb w)
theorem goodIn_ca {big a b : List Cond} {c : Cond} (ha : GoodIn big (c :: a)) (hb : GoodIn big b) : GoodIn big (c :: (a ++ b)) := fun w h => (List.mem_cons.mp h).elim (fun e => ha w (List.mem_cons.mpr (Or.inl e))) (fun h => (List.mem_append.mp h).elim (fun h => ha w (List.mem_cons.mpr (Or.inr h))) (hb w))
theorem goodIn_sub {big ws : List Cond} (hm : ∀ w ∈ ws, w ∈ big) (h : ws.all goodWord = true) : GoodIn big ws := fun w hw => ⟨hm w hw, good_of_word (List.all_eq_true.mp h w hw)⟩
/-! ===== END ===== -/

/-! ===== BEGIN exceptions that leave a method, and their catching by the caller (launches without stack traces) ===== -/
section VXA
/-! The laws vx_back, vx_callV, vx_callS, vx_callSW, vx_throw0, vx_throwS follow proofs of the library, with one case more: JvmDerived/Free/Laws.lean (Back.of_free), Shelf42/LK1.lean (callV, callS), Shelf/KitTraced.lean (throwNew0V, throwNewS). -/
/-- where a method has thrown q: the class by its name, the cell, what was written, the world -/
def vx_T (XC : String → State → State → Prop) (st : State) (q : Addr) (t : State) (mc ms : Nat) (free : Addr → Prop) : Prop :=
  ∃ (E : String) (ce : Cell) (L : List Loc), XC E st t ∧ t.heap[q]? = some ce ∧ ce.vm = .none ∧ st.vm.findClass E = some ce.cls ∧ st.WarmedH t.vm ∧ st.sameButNew ({ t with vm := st.vm } : State) L mc ms ∧ ∀ z ∈ L, free z.base
def vx_Q (Qc : Array Value → State → Outcome → State → Prop) (XC : String → State → State → Prop) (mc ms : Nat) (free : Addr → Prop) : Array Value → State → Outcome → State → Prop := fun a st o t =>
  (Qc a st o t ∧ ∃ L, FrameEnd st o t L mc ms ∧ ∀ q ∈ L, free q.base) ∨ ∃ q, o = .threw q ∧ vx_T XC st q t mc ms free
/-- a callee that returns or throws -/
def vx_Met (l : Launch) (y : MethodName) (ws : List Cond) (rm : Room) (Pc : Array Value → State → Prop) (Qc : Array Value → State → Outcome → State → Prop) (XC : String → State → State → Prop) (mc ms : Nat) (free : Addr → Prop) : Prop :=
  MetFree l y (headSpec ws rm) Pc (fun _ _ _ _ _ => True) (vx_Q Qc XC mc ms free)
def vx_Post (XC : String → State → State → Prop) (mc ms : Nat) (free : Addr → Prop) : Pt → Array Value → Addr → Pt → Prop := fun A a q B =>
  ∃ (g : JFrame) (mk : MethodId) (t : State) (L : List Loc) (E : String) (ce : Cell), B.U.heap = t.heap ∧ B.U.vm = t.vm ∧ XC E (A.U.calling g mk a) t ∧ t.heap[q]? = some ce ∧ ce.vm = .none ∧ A.U.vm.findClass E = some ce.cls ∧ B.locs = A.locs ++ L ∧ (∀ z ∈ L, free z.base) ∧ B.cells = A.cells + mc ∧ B.slots = A.slots + ms
def vx_Back (l : Launch) (R : Room) (p : Program) (e : Env) (below : List Frame) (s : State) (sargs : Array Value) (y : MethodName) (len W9 : Nat)
    (Pre : Pt → Array Value → Prop) (Post : Pt → Array Value → Option Value → Pt → Prop) (PostX : Pt → Array Value → Addr → Pt → Prop) : Prop :=
  ∀ (m : MethodId) (meth : Method) (c : Code) (A : Pt) (g : JFrame) (ig : Instr) (mk : MethodId) (a : Array Value),
    Stand p l e R s m sargs below meth c A.U A.locs A.cells A.slots → g.method = m → g.locals.size = c.maxLocals → decode c.code g.pc = .ok (ig, len) →
    2 * g.monitorRoom + (g.stack.map fun v => v.category).sum ≤ W9 → A.U.methodNamed? y = some mk → Pre A a →
    (∃ (v : Option Value) (B : Pt), Stand p l e R s m sargs below meth c B.U B.locs B.cells B.slots ∧ Post A a v B ∧
      Steps p.tables e below (doInvoke e (A.U.setTop g) [] mk a).1 (B.U.setTop { g with pc := g.pc + len, stack := v.toList ++ g.stack })) ∨
    (∃ (q : Addr) (B : Pt), Stand p l e R s m sargs below meth c B.U B.locs B.cells B.slots ∧ PostX A a q B ∧
      Steps p.tables e below (doInvoke e (A.U.setTop g) [] mk a).1 ((B.U.setTop g).pushFrame (.throwing q)))
section Payer
variable {l : Launch} {R : Room} {p : Program} {e : Env} {below : List Frame} {s : State} {sargs : Array Value} {y : MethodName} {len W9 : Nat}
theorem vx_back {ws : List Cond} {rm : Room} {Pc : Array Value → State → Prop} {Qc : Array Value → State → Outcome → State → Prop} {XC : String → State → State → Prop} {mc ms : Nat} {free : Addr → Prop} {bytes : ByteArray} {maxL : Nat} {ret : Option FieldType}
    (hM : vx_Met l y ws rm Pc Qc XC mc ms free) (hblind : FrameBlind Pc) (hrc : rm.cells = mc) (hrs : rm.slots = ms)
    (hframes : rm.frames + 1 ≤ R.frames) (hlocals : W9 + (maxL + 11) + rm.locals ≤ R.locals)
    (hws : ∀ w ∈ ws, ∀ a' U, s.WarmedH U.vm → w.before a' U = true) (hcode : Cond.code y bytes maxL ret ∈ ws) (hinit : ∀ a' U, s.WarmedH U.vm → (Cond.initialized y.cls).before a' U = true) :
    vx_Back l R p e below s sargs y len W9 (PreOf R mc ms Pc) (PostOf Qc mc ms free) (vx_Post XC mc ms free) := by
  intro m meth c A g ig mk a X hg hsize hdg hW hn hp
  have h1 : (headSpec ws rm).pre.before a A.U = true := atoms_intro fun w hw => hws w hw _ _ X.warmed
  have h2 : (Cond.code y bytes maxL ret).before a A.U = true := hws _ hcode _ _ X.warmed
  have h3 : (Cond.initialized y.cls).before a A.U = true := hinit _ _ X.warmed
  have h4 : A.cells + (headSpec ws rm).room.cells ≤ R.cells := by rw [show (headSpec ws rm).room.cells = mc from hrc]; exact hp.1
  have h5 : A.slots + (headSpec ws rm).room.slots ≤ R.slots := by rw [show (headSpec ws rm).room.slots = ms from hrs]; exact hp.2.1
  have hPc : Pc a (A.U.calling g mk a) := hblind _ _ _ _ hp.2.2
  obtain ⟨U, Ls, c0, s0⟩ := A
  dsimp only [Pt.U, Pt.locs, Pt.cells, Pt.slots] at h1 h2 h3 h4 h5 X hn hPc ⊢
  obtain ⟨methY, cY, hmY, hcY, -, hlY, -, -, -, -⟩ := Cond.code_spec hn h2
  obtain ⟨kY, hkY, -⟩ := className_of_methodNamed hn
  have hinitY : kY.init = .initialized := Cond.initialized_spec (findClass_of_methodNamed hn) hkY h3
  have h : At U g.method c below := by rw [hg]; exact X.here
  have hlocals9 : W9 + (maxL + 11) + (headSpec ws rm).room.locals ≤ R.locals := hlocals
  have happ : (headSpec ws rm).appliesLoose y e.platform (U.calling g mk a) = true :=
    Spec.appliesLoose_calling (g := g) h hdg hn hkY hinitY
      (X.room_calling (g := g) (R' := (headSpec ws rm).room) hsize hmY hcY hframes (by rw [hlY]; omega) h4 h5) h1
  obtain ⟨mid, hmid⟩ := h.above
  have hfr : (U.setTop g).frames = (.java g :: mid) ++ below := by rw [State.frames_setTop' g h.top, hmid]; rfl
  obtain ⟨o, s₂, hsteps, -, hend, hq⟩ := Steps.callFree hM p X.admits X.cas X.clock (acts := []) hfr happ hPc trivial
  have hq' : vx_Q Qc XC mc ms free a (U.calling g mk a) o s₂ := hq
  rw [State.frames_setTop' g h.top] at hend
  obtain ⟨g₀, hg0⟩ := Option.isSome_iff_exists.mp h.top
  obtain ⟨r, hr⟩ := State.topJava?_eq_some.mp hg0
  have hr' : (({ U with heap := s₂.heap, slotsUsed := s₂.slotsUsed } : State).setVm s₂.vm).frames = .java g₀ :: r := hr
  rcases hq' with ⟨hqc, L, hfe, hL⟩ | ⟨q, rfl, E, ce, L, hx, hce, hcv, hcl, hW₂, hsm, hL⟩
  · obtain ⟨⟨v, rfl⟩, hW₂, e2, q2, q3, q4, q5, q6⟩ := id hfe
    have e3 : s₂ = ({ (U.calling g mk a).setFrames s₂.frames with heap := s₂.heap, slotsUsed := s₂.slotsUsed } : State).setVm s₂.vm := by
      have : s₂ = ({ s₂ with vm := (U.calling g mk a).vm } : State).setVm s₂.vm := rfl
      rw [e2] at this
      exact this
    obtain ⟨c₂, i₂, len₂, hc₂, hd₂, hf₂⟩ := hend
    have hW' : U.WarmedH s₂.vm := hW₂
    have hcc : c₂ = c := by
      have h1 : s₂.code? g.method = U.code? g.method := by
        rw [State.code?_eq, State.code?_eq, hW'.alike.method?]
      exact Option.some.inj (hc₂.symm.trans (h1.trans h.code))
    subst hcc
    have hlen : len₂ = len := by rw [hdg] at hd₂; cases hd₂; rfl
    subst hlen
    have hs₂ : s₂ = (({ U with heap := s₂.heap, slotsUsed := s₂.slotsUsed } : State).setVm s₂.vm).setTop { g with pc := g.pc + len₂, stack := v.toList ++ g.stack } := by
      refine e3.trans ?_
      rw [hf₂, State.calling_eq h.top, State.setFrames_setFrames, State.setTop_of_frames _ hr', hr]
      rfl
    have hsame : U.sameButNew ({ U with heap := s₂.heap, slotsUsed := s₂.slotsUsed } : State) L mc ms := by
      refine ⟨?_, q2, q3, q4, q5, q6⟩
      obtain ⟨t, ht, -⟩ := State.frames_cons hr
      show ({ U with heap := s₂.heap, slotsUsed := s₂.slotsUsed } : State) = { U.setFrames U.frames with heap := s₂.heap, slotsUsed := s₂.slotsUsed }
      rw [State.setFrames_self ht]
    subst hg
    refine Or.inl ⟨v, ⟨(({ U with heap := s₂.heap, slotsUsed := s₂.slotsUsed } : State).setVm s₂.vm), Ls ++ L, c0 + mc, s0 + ms⟩,
      ⟨X.admits, X.cas, X.clock, X.frames, X.room, X.hears, X.method, X.code, (X.here.setHeapUsed s₂.heap s₂.slotsUsed).setVm hW'.alike, X.tail, State.WarmedH.trans X.warmed hW', X.limits, X.bytes, X.same.trans (hsame.setVm s.vm)⟩,
      ⟨g, mk, s₂, L, rfl, rfl, hqc, rfl, hL, rfl, rfl⟩, ?_⟩
    show Steps p.tables e below _ ((({ U with heap := s₂.heap, slotsUsed := s₂.slotsUsed } : State).setVm s₂.vm).setTop { g with pc := g.pc + len₂, stack := v.toList ++ g.stack })
    rw [← hs₂]
    exact hsteps
  · obtain ⟨e2, q2, q3, q4, q5, q6⟩ := id hsm
    have e3 : s₂ = ({ (U.calling g mk a).setFrames s₂.frames with heap := s₂.heap, slotsUsed := s₂.slotsUsed } : State).setVm s₂.vm := by
      have : s₂ = ({ s₂ with vm := (U.calling g mk a).vm } : State).setVm s₂.vm := rfl
      rw [e2] at this
      exact this
    have hf₂ : s₂.frames = .throwing q :: .java g :: U.frames.tail := hend
    have hW' : U.WarmedH s₂.vm := hW₂
    have hs₂ : s₂ = ((({ U with heap := s₂.heap, slotsUsed := s₂.slotsUsed } : State).setVm s₂.vm).setTop g).pushFrame (.throwing q) := by
      refine e3.trans ?_
      rw [hf₂, State.calling_eq h.top, State.setFrames_setFrames, State.pushFrame, State.frames_setTop _ hr', State.setTop_of_frames _ hr', State.setFrames_setFrames, hr]
      rfl
    have hsame : U.sameButNew ({ U with heap := s₂.heap, slotsUsed := s₂.slotsUsed } : State) L mc ms := by
      refine ⟨?_, q2, q3, q4, q5, q6⟩
      obtain ⟨t, ht, -⟩ := State.frames_cons hr
      show ({ U with heap := s₂.heap, slotsUsed := s₂.slotsUsed } : State) = { U.setFrames U.frames with heap := s₂.heap, slotsUsed := s₂.slotsUsed }
      rw [State.setFrames_self ht]
    subst hg
    refine Or.inr ⟨q, ⟨(({ U with heap := s₂.heap, slotsUsed := s₂.slotsUsed } : State).setVm s₂.vm), Ls ++ L, c0 + mc, s0 + ms⟩,
      ⟨X.admits, X.cas, X.clock, X.frames, X.room, X.hears, X.method, X.code, (X.here.setHeapUsed s₂.heap s₂.slotsUsed).setVm hW'.alike, X.tail, State.WarmedH.trans X.warmed hW', X.limits, X.bytes, X.same.trans (hsame.setVm s.vm)⟩,
      ⟨g, mk, s₂, L, E, ce, rfl, rfl, hx, hce, hcv, hcl, rfl, hL, rfl, rfl⟩, ?_⟩
    show Steps p.tables e below _ (((({ U with heap := s₂.heap, slotsUsed := s₂.slotsUsed } : State).setVm s₂.vm).setTop g).pushFrame (.throwing q))
    rw [← hs₂]
    exact hsteps
end Payer
section Calls
variable {p : Program} {l : Launch} {e : Env} {R : Room} {s : State} {m : MethodId} {args : Array Value} {below : List Frame} {meth : Method} {c : Code} {T : State} {locs : List Loc} {cells slots : Nat}
theorem vx_callV (X : Stand p l e R s m args below meth c T locs cells slots) (hexec : p.tables.exec = Jvm.exec) {own C : String} {index : Nat} {y : MethodName} {bytes : ByteArray} {maxL : Nat} {ret : Option FieldType}
    (hown : s.vm.findClass own = some m.cls) (hlink : (Cond.methodLink own index y).before args s = true) (hinst : (Cond.instanceMethod y).before args s = true) (hsel : (Cond.selects C y y).before args s = true)
    (hcode : (Cond.code y bytes maxL ret).before args s = true) (hy : y.cls ≠ "java/lang/invoke/MethodHandle" ∧ y.cls ≠ "java/lang/invoke/VarHandle")
    {W9 : Nat} {Pre : Pt → Array Value → Prop} {Post : Pt → Array Value → Option Value → Pt → Prop} {PostX : Pt → Array Value → Addr → Pt → Prop} (hK : vx_Back l R p e below s args y 3 W9 Pre Post PostX)
    {b : Addr} {cellB : Cell} (hcell : T.heap[b]? = some cellB) (hobj : cellB.vm.isStatics = false) (hcls : s.vm.findClass C = some cellB.cls)
    {g : JFrame} (hg : g.method = m) (hsize : g.locals.size = c.maxLocals) {argsL rest : List Value} (hlen : ∀ sig, parseMethodDescriptor y.desc = some sig → argsL.length = sig.parameters.length)
    (hstack : g.stack = argsL.reverse ++ .ref b :: rest) (hW : 2 * g.monitorRoom + (rest.map fun v => v.category).sum ≤ W9) (hdg : decode c.code g.pc = .ok (.invokevirtual index, 3))
    (hpre : ∀ vm₁, s.WarmedH vm₁ → Pre ⟨T.setVm vm₁, locs, cells, slots⟩ (Value.ref b :: argsL).toArray) :
    (∃ (v : Option Value) (vm₁ : Vm) (B : Pt), s.WarmedH vm₁ ∧ Stand p l e R s m args below meth c B.U B.locs B.cells B.slots ∧ Post ⟨T.setVm vm₁, locs, cells, slots⟩ (Value.ref b :: argsL).toArray v B ∧
      ∀ target, Steps p.tables e below (B.U.setTop { g with pc := g.pc + 3, stack := v.toList ++ rest }) target → Steps p.tables e below (T.setTop g) target) ∨
    (∃ (q : Addr) (vm₁ : Vm) (B : Pt), s.WarmedH vm₁ ∧ Stand p l e R s m args below meth c B.U B.locs B.cells B.slots ∧ PostX ⟨T.setVm vm₁, locs, cells, slots⟩ (Value.ref b :: argsL).toArray q B ∧
      Steps p.tables e below (T.setTop g) ((B.U.setTop { g with stack := rest }).pushFrame (.throwing q))) := by
  obtain ⟨mk, methM, hnamed, hmethM, hstM, habM⟩ := Cond.instanceMethod_spec hinst
  obtain ⟨methM', cM, hmethM', -, -, -, -, -, -, hsigM⟩ := Cond.code_spec hnamed hcode
  cases hmethM.symm.trans hmethM'
  obtain ⟨c2, r2, m2, q1, q2, q3, q4, kP, hkP, hkPi⟩ := Cond.selects_spec hsel
  cases hcls.symm.trans q1
  cases (State.methodFound?_of_named hnamed hy).symm.trans q2
  cases hnamed.symm.trans q3
  have hselP : selectMethod e.platform s.vm cellB.cls mk = .method mk := by rw [Launch.admits_selectMethod X.admits]; exact q4
  obtain ⟨vm₁, X₁, hstep₁⟩ := X.invokevirtual hexec hown hlink hnamed hmethM hstM hkP hkPi hy (a := b) (cell := cellB) hcell
    (fun z h => by rw [h] at hobj; cases hobj) hselP hmethM habM hkP hkPi (g := g) hg (argsL := argsL) (rest := rest) (hlen _ hsigM) hstack hdg
  rcases hK m meth c ⟨T.setVm vm₁, locs, cells, slots⟩ { g with stack := rest } (.invokevirtual index) mk (Value.ref b :: argsL).toArray X₁ hg hsize hdg hW (X₁.named hnamed) (hpre vm₁ X₁.warmed) with ⟨v, B, X', hpost, hsteps⟩ | ⟨q, B, X', hpost, hsteps⟩
  · exact Or.inl ⟨v, vm₁, B, X₁.warmed, X', hpost, fun target h => hstep₁ _ fun acts => by rw [doInvoke_state]; exact hsteps.trans h⟩
  · exact Or.inr ⟨q, vm₁, B, X₁.warmed, X', hpost, hstep₁ _ fun acts => by rw [doInvoke_state]; exact hsteps⟩
theorem vx_callS (X : Stand p l e R s m args below meth c T locs cells slots) (hexec : p.tables.exec = Jvm.exec) {own : String} {index : Nat} {y : MethodName} {bytes : ByteArray} {maxL : Nat} {ret : Option FieldType}
    (hown : s.vm.findClass own = some m.cls) (hlink : (Cond.methodLink own index y).before args s = true) (hstat : (Cond.static y).before args s = true) (hinit : (Cond.initialized y.cls).before args s = true)
    (hcode : (Cond.code y bytes maxL ret).before args s = true) (hy : y.cls ≠ "java/lang/invoke/MethodHandle" ∧ y.cls ≠ "java/lang/invoke/VarHandle")
    {W9 : Nat} {Pre : Pt → Array Value → Prop} {Post : Pt → Array Value → Option Value → Pt → Prop} {PostX : Pt → Array Value → Addr → Pt → Prop} (hK : vx_Back l R p e below s args y 3 W9 Pre Post PostX)
    {g : JFrame} (hg : g.method = m) (hsize : g.locals.size = c.maxLocals) {argsL rest : List Value} (hlen : ∀ sig, parseMethodDescriptor y.desc = some sig → argsL.length = sig.parameters.length)
    (hstack : g.stack = argsL.reverse ++ rest) (hW : 2 * g.monitorRoom + (rest.map fun v => v.category).sum ≤ W9) (hdg : decode c.code g.pc = .ok (.invokestatic index, 3))
    (hpre : ∀ vm₁, s.WarmedH vm₁ → Pre ⟨T.setVm vm₁, locs, cells, slots⟩ argsL.toArray) :
    (∃ (v : Option Value) (vm₁ : Vm) (B : Pt), s.WarmedH vm₁ ∧ Stand p l e R s m args below meth c B.U B.locs B.cells B.slots ∧ Post ⟨T.setVm vm₁, locs, cells, slots⟩ argsL.toArray v B ∧
      ∀ target, Steps p.tables e below (B.U.setTop { g with pc := g.pc + 3, stack := v.toList ++ rest }) target → Steps p.tables e below (T.setTop g) target) ∨
    (∃ (q : Addr) (vm₁ : Vm) (B : Pt), s.WarmedH vm₁ ∧ Stand p l e R s m args below meth c B.U B.locs B.cells B.slots ∧ PostX ⟨T.setVm vm₁, locs, cells, slots⟩ argsL.toArray q B ∧
      Steps p.tables e below (T.setTop g) ((B.U.setTop { g with stack := rest }).pushFrame (.throwing q))) := by
  obtain ⟨mk, hnamed⟩ := Cond.code_named hcode
  obtain ⟨methM, cM, hmethM, -, -, -, -, -, -, hsigM⟩ := Cond.code_spec hnamed hcode
  have hstatic : methM.isStatic = true := Cond.static_spec hnamed hmethM hstat
  obtain ⟨kP, hkP, -⟩ := className_of_methodNamed hnamed
  have hinitP : kP.init = .initialized := Cond.initialized_spec (findClass_of_methodNamed hnamed) hkP hinit
  obtain ⟨vm₁, X₁, hstep₁⟩ := X.invokestatic hexec hown hlink hnamed hmethM hstatic hkP hinitP hy (g := g) hg (argsL := argsL) (rest := rest) (hlen _ hsigM) hstack hdg
  rcases hK m meth c ⟨T.setVm vm₁, locs, cells, slots⟩ { g with stack := rest } (.invokestatic index) mk argsL.toArray X₁ hg hsize hdg hW (X₁.named hnamed) (hpre vm₁ X₁.warmed) with ⟨v, B, X', hpost, hsteps⟩ | ⟨q, B, X', hpost, hsteps⟩
  · exact Or.inl ⟨v, vm₁, B, X₁.warmed, X', hpost, fun target h => hstep₁ _ fun acts => by rw [doInvoke_state]; exact hsteps.trans h⟩
  · exact Or.inr ⟨q, vm₁, B, X₁.warmed, X', hpost, hstep₁ _ fun acts => by rw [doInvoke_state]; exact hsteps⟩
end Calls
theorem vx_cls {s : State} {T : State} {vm₁ : Vm} {E : String} {k : ClassId} (hW : s.WarmedH vm₁) (h : (T.setVm vm₁).vm.findClass E = some k) : s.vm.findClass E = some k := by
  have h1 : vm₁.findClass E = some k := h
  rw [hW.alike.findClass] at h1
  exact h1
/-- the method's frame g, with q thrown over it -/
def vx_W (p : Program) (l : Launch) (e : Env) (R : Room) (s : State) (m : MethodId) (args : Array Value) (below : List Frame) (meth : Method) (c : Code) (H : Heap) (locs : List Loc) (cells slots : Nat) (Q : State → Prop) (g : JFrame) (q : Addr) : Prop :=
  ∀ T : State, T.heap = H → Stand p l e R s m args below meth c T locs cells slots → ∃ t, Steps p.tables e below ((T.setTop g).pushFrame (.throwing q)) t ∧ Q t
def vx_Run (p : Program) (l : Launch) (e : Env) (R : Room) (s : State) (m : MethodId) (args : Array Value) (below : List Frame) (meth : Method) (c : Code) (H : Heap) (locs : List Loc) (cells slots mc ms : Nat) (g : JFrame) (rest : List Value) (Qa : State → Outcome → State → Prop) (XC : String → State → State → Prop) (free : Addr → Prop) : Prop :=
  ∀ T : State, T.heap = H → Stand p l e R s m args below meth c T locs cells slots →
    (∃ (v : Option Value) (st₀ t T' : State) (L : List Loc), st₀.heap = H ∧ Stand p l e R s m args below meth c T' (locs ++ L) (cells + mc) (slots + ms) ∧ (∀ q ∈ L, free q.base) ∧ T'.heap = t.heap ∧ T'.vm = t.vm ∧ Qa st₀ (.returned v) t ∧
      Goes p e below T g T' { g with pc := g.pc + 3, stack := v.toList ++ rest }) ∨
    (∃ (q : Addr) (st₀ t T' : State) (L : List Loc) (E : String) (ce : Cell), st₀.heap = H ∧ Stand p l e R s m args below meth c T' (locs ++ L) (cells + mc) (slots + ms) ∧ (∀ z ∈ L, free z.base) ∧ T'.heap = t.heap ∧ T'.vm = t.vm ∧ XC E st₀ t ∧ t.heap[q]? = some ce ∧ ce.vm = .none ∧ s.vm.findClass E = some ce.cls ∧
      Steps p.tables e below (T.setTop g) ((T'.setTop { g with stack := rest }).pushFrame (.throwing q)))
def vx_X {S : Type} (px : S → Prop) (B : String → S → State → Prop) (A : Nat → Prop) : String → State → State → Prop := fun E st t => ∃ u : S, px u ∧ B E u t ∧ va_F A st t
section Runs
variable {p : Program} {l : Launch} {e : Env} {R : Room} {s : State} {m : MethodId} {args : Array Value} {below : List Frame} {meth : Method} {c : Code} {H : Heap} {locs : List Loc} {cells slots : Nat}
variable {y : MethodName} {bytes cc : ByteArray} {maxL nL mc ms n index : Nat} {ret : Option FieldType} {ws : List Cond} {rm : Room} {Pc : Array Value → State → Prop} {Qc : Array Value → State → Outcome → State → Prop} {XC : String → State → State → Prop} {free : Addr → Prop} {Ts : List Cond} {own C : String} {b : Addr} {As rest : List Value} {g : JFrame}
theorem vx_callBack (cb : CallB R s args own index y bytes maxL ret ws rm mc ms n) (hM : vx_Met l y ws rm Pc Qc XC mc ms free) (hbl : FrameBlind Pc) : vx_Back l R p e below s args y 3 8 (PreOf R mc ms Pc) (PostOf Qc mc ms free) (vx_Post XC mc ms free) := by
  obtain ⟨hrc, hrs, hfr, hlo, hws, hcw, -, hini, -⟩ := cb
  exact vx_back (bytes := bytes) (maxL := maxL) (ret := ret) hM hbl hrc hrs hfr hlo hws hcw (fun a' U hW => word_at hW (Or.inl (by first | rfl | simp [Cond.onTables, Cond.keeps, Cond.steady])) hini)
theorem vx_runV (S : CallFix p m c cc nL s args Ts own) (hM : vx_Met l y ws rm Pc Qc XC mc ms free) (cw : CallW R s args own C index y bytes maxL ret ws rm mc ms n) (hp : PreV s H C b Pc As)
    (hg : g.method = m) (hn : As.length = n) (hsize : g.locals.size = nL) (hstack : g.stack = As.reverse ++ .ref b :: rest) (hW : 2 * g.monitorRoom + (rest.map fun v => v.category).sum ≤ 8) (hdg : decode cc g.pc = .ok (.invokevirtual index, 3)) (hf : cells + mc ≤ R.cells ∧ slots + ms ≤ R.slots) :
    vx_Run p l e R s m args below meth c H locs cells slots mc ms g rest (Qc (Value.ref b :: As).toArray) XC free := by
  have hK : vx_Back l R p e below s args y 3 8 (PreOf R mc ms Pc) (PostOf Qc mc ms free) (vx_Post XC mc ms free) := vx_callBack cw.1 hM hp.1
  obtain ⟨⟨-, -, -, -, -, -, hcode, -, hy, hlen, hl⟩, hin, hse⟩ := cw
  obtain ⟨hx, hb, hml, ho, -⟩ := S
  obtain ⟨-, ⟨cellB, hcB, hoB, hclB⟩, hPc⟩ := hp
  intro T hT X
  rcases vx_callV X hx (C := C) (bytes := bytes) (maxL := maxL) (ret := ret) ho hl hin hse hcode hy hK (by rw [hT]; exact hcB) hoB hclB hg (hsize.trans hml.symm) (argsL := As) (rest := rest) (fun sig h => hn.trans (hlen sig h)) hstack hW (by rw [hb]; exact hdg)
    (fun vm₁ hW₁ => ⟨hf.1, hf.2, hPc (T.setVm vm₁) hT hW₁⟩) with ⟨v, vm₁, ⟨U', l2, c2, s2⟩, hW₁, X', ⟨g', mk, t, L, e1, e2, hq, h1, hL, h2, h3⟩, st⟩ | ⟨q, vm₁, ⟨U', l2, c2, s2⟩, hW₁, X', ⟨g', mk, t, L, E, ce, e1, e2, hq, hce, hcv, hcl, h1, hL, h2, h3⟩, st⟩
  · dsimp only [Pt.U, Pt.locs, Pt.cells, Pt.slots] at X' e1 e2 h1 h2 h3 st
    subst h1; subst h2; subst h3
    exact Or.inl ⟨v, (T.setVm vm₁).calling g' mk (Value.ref b :: As).toArray, t, U', L, hT, X', hL, e1, e2, hq, st⟩
  · dsimp only [Pt.U, Pt.locs, Pt.cells, Pt.slots] at X' e1 e2 h1 h2 h3 st hcl
    subst h1; subst h2; subst h3
    exact Or.inr ⟨q, (T.setVm vm₁).calling g' mk (Value.ref b :: As).toArray, t, U', L, E, ce, hT, X', hL, e1, e2, hq, hce, hcv, vx_cls hW₁ hcl, st⟩
theorem vx_runS (S : CallFix p m c cc nL s args Ts own) (hM : vx_Met l y ws rm Pc Qc XC mc ms free) (cw : CallB R s args own index y bytes maxL ret ws rm mc ms n ∧ (Cond.static y).before args s = true) (hp : PreS s H Pc As)
    (hg : g.method = m) (hn : As.length = n) (hsize : g.locals.size = nL) (hstack : g.stack = As.reverse ++ rest) (hW : 2 * g.monitorRoom + (rest.map fun v => v.category).sum ≤ 8) (hdg : decode cc g.pc = .ok (.invokestatic index, 3)) (hf : cells + mc ≤ R.cells ∧ slots + ms ≤ R.slots) :
    vx_Run p l e R s m args below meth c H locs cells slots mc ms g rest (Qc As.toArray) XC free := by
  have hK : vx_Back l R p e below s args y 3 8 (PreOf R mc ms Pc) (PostOf Qc mc ms free) (vx_Post XC mc ms free) := vx_callBack cw.1 hM hp.1
  obtain ⟨⟨-, -, -, -, -, -, hcode, hini, hy, hlen, hl⟩, hstt⟩ := cw
  obtain ⟨hx, hb, hml, ho, -⟩ := S
  intro T hT X
  rcases vx_callS X hx (bytes := bytes) (maxL := maxL) (ret := ret) ho hl hstt hini hcode hy hK hg (hsize.trans hml.symm) (argsL := As) (rest := rest) (fun sig h => hn.trans (hlen sig h)) hstack hW (by rw [hb]; exact hdg)
    (fun vm₁ hW₁ => ⟨hf.1, hf.2, hp.2 (T.setVm vm₁) hT hW₁⟩) with ⟨v, vm₁, ⟨U', l2, c2, s2⟩, hW₁, X', ⟨g', mk, t, L, e1, e2, hq, h1, hL, h2, h3⟩, st⟩ | ⟨q, vm₁, ⟨U', l2, c2, s2⟩, hW₁, X', ⟨g', mk, t, L, E, ce, e1, e2, hq, hce, hcv, hcl, h1, hL, h2, h3⟩, st⟩
  · dsimp only [Pt.U, Pt.locs, Pt.cells, Pt.slots] at X' e1 e2 h1 h2 h3 st
    subst h1; subst h2; subst h3
    exact Or.inl ⟨v, (T.setVm vm₁).calling g' mk As.toArray, t, U', L, hT, X', hL, e1, e2, hq, st⟩
  · dsimp only [Pt.U, Pt.locs, Pt.cells, Pt.slots] at X' e1 e2 h1 h2 h3 st hcl
    subst h1; subst h2; subst h3
    exact Or.inr ⟨q, (T.setVm vm₁).calling g' mk As.toArray, t, U', L, E, ce, hT, X', hL, e1, e2, hq, hce, hcv, vx_cls hW₁ hcl, st⟩
end Runs
section Rows
variable {p : Program} {l : Launch} {e : Env} {R : Room} {s : State} {m : MethodId} {args : Array Value} {below : List Frame} {meth : Method} {c : Code} {H : Heap} {locs : List Loc} {cells slots : Nat} {Q : State → Prop}
variable {mc ms : Nat} {free : Addr → Prop} {A0 A1 : Nat → Prop} {H0 : Heap} {a : Array Value} {pc : Nat} {ls : Array Slot} {st0 rest : List Value}
theorem vx_keep {st₀ t T' : State} {L : List Loc} (h0 : st₀.heap = H) (e1 : T'.heap = t.heap) (hS : va_S A0 H0 H locs) (hA : ∀ q, q < H.size → A1 q → A0 q) (hf : ∀ q, free q → A0 q) (hL : ∀ q ∈ L, free q.base) (hF : va_F A1 st₀ t) :
    H.size ≤ T'.heap.size ∧ (∀ q : Nat, q < H.size → ¬ A1 q → T'.heap[q]? = H[q]?) ∧ va_S A0 H0 T'.heap (locs ++ L) := by
  obtain ⟨hz, hk⟩ := hF
  rw [h0] at hz hk
  exact ⟨by rw [e1]; exact hz, fun q h1 h2 => by rw [e1]; exact hk q h1 h2,
    ⟨Nat.le_trans hS.1 (by rw [e1]; exact hz), fun q h1 h2 => by rw [e1, hk q (Nat.lt_of_lt_of_le h1 hS.1) (fun z => h2 (hA q (Nat.lt_of_lt_of_le h1 hS.1) z))]; exact hS.2.1 q h1 h2, fun q hq => by
      rcases List.mem_append.mp hq with h | h
      · exact hS.2.2 q h
      · exact hf _ (hL q h)⟩⟩
theorem vx_calli {S SX : Type} {post : Int32 → S → Prop} {px : SX → Prop} {B : S → State → Prop} {BX : String → SX → State → Prop} {AX : Nat → Prop} (hr : vx_Run p l e R s m args below meth c H locs cells slots mc ms (F0 m pc ls st0) rest (va_Qi post B A1 a) (vx_X px BX AX) free) (hS : va_S A0 H0 H locs) (hA : ∀ q, q < H.size → A1 q → A0 q) (hf : ∀ q, free q → A0 q) (hAX : ∀ q, q < H.size → AX q → A0 q)
    (kx : ∀ (E : String) (ce : Cell) (q9 : Addr) (u : SX) (t : State) (H1 : Heap) (locs1 : List Loc), t.heap = H1 → s.vm.Alike t.vm → px u → BX E u t → H.size ≤ H1.size → (∀ q : Nat, q < H.size → ¬ AX q → H1[q]? = H[q]?) → va_S A0 H0 H1 locs1 → H1[q9]? = some ce → ce.vm = .none → s.vm.findClass E = some ce.cls → vx_W p l e R s m args below meth c H1 locs1 (cells + mc) (slots + ms) Q (F0 m pc ls rest) q9)
    (kk : ∀ (r : Int32) (u : S) (t : State) (H1 : Heap) (locs1 : List Loc), t.heap = H1 → s.vm.Alike t.vm → post r u → B u t → H.size ≤ H1.size → (∀ q : Nat, q < H.size → ¬ A1 q → H1[q]? = H[q]?) → va_S A0 H0 H1 locs1 → W p l e R s m args below meth c H1 locs1 (cells + mc) (slots + ms) Q (F0 m (pc + 3) ls (.int r :: rest))) : W p l e R s m args below meth c H locs cells slots Q (F0 m pc ls st0) := by
  intro T hT X
  rcases hr T hT X with ⟨v, st₀, t, T', L, h0, X', hL, e1, e2, ⟨⟨r, u, hv, hp, hb⟩, hF⟩, st⟩ | ⟨q, st₀, t, T', L, E, ce, h0, X', hL, e1, e2, ⟨u, hp, hb, hF⟩, hce, hcv, hcl, st⟩
  · cases hv
    obtain ⟨k1, k2, k3⟩ := vx_keep h0 e1 hS hA hf hL hF
    obtain ⟨t2, a1, b1⟩ := kk r u t T'.heap (locs ++ L) e1.symm (by rw [← e2]; exact X'.warmed.alike) hp hb k1 k2 k3 T' rfl X'
    exact ⟨t2, st t2 a1, b1⟩
  · obtain ⟨k1, k2, k3⟩ := vx_keep h0 e1 hS hAX hf hL hF
    obtain ⟨t2, a1, b1⟩ := kx E ce q u t T'.heap (locs ++ L) e1.symm (by rw [← e2]; exact X'.warmed.alike) hp hb k1 k2 k3 (by rw [e1]; exact hce) hcv hcl T' rfl X'
    exact ⟨t2, st.trans a1, b1⟩
theorem vx_calll {S SX : Type} {post : Int64 → S → Prop} {px : SX → Prop} {B : S → State → Prop} {BX : String → SX → State → Prop} {AX : Nat → Prop} (hr : vx_Run p l e R s m args below meth c H locs cells slots mc ms (F0 m pc ls st0) rest (va_Ql post B A1 a) (vx_X px BX AX) free) (hS : va_S A0 H0 H locs) (hA : ∀ q, q < H.size → A1 q → A0 q) (hf : ∀ q, free q → A0 q) (hAX : ∀ q, q < H.size → AX q → A0 q)
    (kx : ∀ (E : String) (ce : Cell) (q9 : Addr) (u : SX) (t : State) (H1 : Heap) (locs1 : List Loc), t.heap = H1 → s.vm.Alike t.vm → px u → BX E u t → H.size ≤ H1.size → (∀ q : Nat, q < H.size → ¬ AX q → H1[q]? = H[q]?) → va_S A0 H0 H1 locs1 → H1[q9]? = some ce → ce.vm = .none → s.vm.findClass E = some ce.cls → vx_W p l e R s m args below meth c H1 locs1 (cells + mc) (slots + ms) Q (F0 m pc ls rest) q9)
    (kk : ∀ (r : Int64) (u : S) (t : State) (H1 : Heap) (locs1 : List Loc), t.heap = H1 → s.vm.Alike t.vm → post r u → B u t → H.size ≤ H1.size → (∀ q : Nat, q < H.size → ¬ A1 q → H1[q]? = H[q]?) → va_S A0 H0 H1 locs1 → W p l e R s m args below meth c H1 locs1 (cells + mc) (slots + ms) Q (F0 m (pc + 3) ls (.long r :: rest))) : W p l e R s m args below meth c H locs cells slots Q (F0 m pc ls st0) := by
  intro T hT X
  rcases hr T hT X with ⟨v, st₀, t, T', L, h0, X', hL, e1, e2, ⟨⟨r, u, hv, hp, hb⟩, hF⟩, st⟩ | ⟨q, st₀, t, T', L, E, ce, h0, X', hL, e1, e2, ⟨u, hp, hb, hF⟩, hce, hcv, hcl, st⟩
  · cases hv
    obtain ⟨k1, k2, k3⟩ := vx_keep h0 e1 hS hA hf hL hF
    obtain ⟨t2, a1, b1⟩ := kk r u t T'.heap (locs ++ L) e1.symm (by rw [← e2]; exact X'.warmed.alike) hp hb k1 k2 k3 T' rfl X'
    exact ⟨t2, st t2 a1, b1⟩
  · obtain ⟨k1, k2, k3⟩ := vx_keep h0 e1 hS hAX hf hL hF
    obtain ⟨t2, a1, b1⟩ := kx E ce q u t T'.heap (locs ++ L) e1.symm (by rw [← e2]; exact X'.warmed.alike) hp hb k1 k2 k3 (by rw [e1]; exact hce) hcv hcl T' rfl X'
    exact ⟨t2, st.trans a1, b1⟩
theorem vx_callf {S SX : Type} {post : UInt32 → S → Prop} {px : SX → Prop} {B : S → State → Prop} {BX : String → SX → State → Prop} {AX : Nat → Prop} (hr : vx_Run p l e R s m args below meth c H locs cells slots mc ms (F0 m pc ls st0) rest (va_Qf post B A1 a) (vx_X px BX AX) free) (hS : va_S A0 H0 H locs) (hA : ∀ q, q < H.size → A1 q → A0 q) (hf : ∀ q, free q → A0 q) (hAX : ∀ q, q < H.size → AX q → A0 q)
    (kx : ∀ (E : String) (ce : Cell) (q9 : Addr) (u : SX) (t : State) (H1 : Heap) (locs1 : List Loc), t.heap = H1 → s.vm.Alike t.vm → px u → BX E u t → H.size ≤ H1.size → (∀ q : Nat, q < H.size → ¬ AX q → H1[q]? = H[q]?) → va_S A0 H0 H1 locs1 → H1[q9]? = some ce → ce.vm = .none → s.vm.findClass E = some ce.cls → vx_W p l e R s m args below meth c H1 locs1 (cells + mc) (slots + ms) Q (F0 m pc ls rest) q9)
    (kk : ∀ (r : UInt32) (u : S) (t : State) (H1 : Heap) (locs1 : List Loc), t.heap = H1 → s.vm.Alike t.vm → post r u → B u t → H.size ≤ H1.size → (∀ q : Nat, q < H.size → ¬ A1 q → H1[q]? = H[q]?) → va_S A0 H0 H1 locs1 → W p l e R s m args below meth c H1 locs1 (cells + mc) (slots + ms) Q (F0 m (pc + 3) ls (.float r :: rest))) : W p l e R s m args below meth c H locs cells slots Q (F0 m pc ls st0) := by
  intro T hT X
  rcases hr T hT X with ⟨v, st₀, t, T', L, h0, X', hL, e1, e2, ⟨⟨r, u, hv, hp, hb⟩, hF⟩, st⟩ | ⟨q, st₀, t, T', L, E, ce, h0, X', hL, e1, e2, ⟨u, hp, hb, hF⟩, hce, hcv, hcl, st⟩
  · cases hv
    obtain ⟨k1, k2, k3⟩ := vx_keep h0 e1 hS hA hf hL hF
    obtain ⟨t2, a1, b1⟩ := kk r u t T'.heap (locs ++ L) e1.symm (by rw [← e2]; exact X'.warmed.alike) hp hb k1 k2 k3 T' rfl X'
    exact ⟨t2, st t2 a1, b1⟩
  · obtain ⟨k1, k2, k3⟩ := vx_keep h0 e1 hS hAX hf hL hF
    obtain ⟨t2, a1, b1⟩ := kx E ce q u t T'.heap (locs ++ L) e1.symm (by rw [← e2]; exact X'.warmed.alike) hp hb k1 k2 k3 (by rw [e1]; exact hce) hcv hcl T' rfl X'
    exact ⟨t2, st.trans a1, b1⟩
theorem vx_calld {S SX : Type} {post : UInt64 → S → Prop} {px : SX → Prop} {B : S → State → Prop} {BX : String → SX → State → Prop} {AX : Nat → Prop} (hr : vx_Run p l e R s m args below meth c H locs cells slots mc ms (F0 m pc ls st0) rest (va_Qd post B A1 a) (vx_X px BX AX) free) (hS : va_S A0 H0 H locs) (hA : ∀ q, q < H.size → A1 q → A0 q) (hf : ∀ q, free q → A0 q) (hAX : ∀ q, q < H.size → AX q → A0 q)
    (kx : ∀ (E : String) (ce : Cell) (q9 : Addr) (u : SX) (t : State) (H1 : Heap) (locs1 : List Loc), t.heap = H1 → s.vm.Alike t.vm → px u → BX E u t → H.size ≤ H1.size → (∀ q : Nat, q < H.size → ¬ AX q → H1[q]? = H[q]?) → va_S A0 H0 H1 locs1 → H1[q9]? = some ce → ce.vm = .none → s.vm.findClass E = some ce.cls → vx_W p l e R s m args below meth c H1 locs1 (cells + mc) (slots + ms) Q (F0 m pc ls rest) q9)
    (kk : ∀ (r : UInt64) (u : S) (t : State) (H1 : Heap) (locs1 : List Loc), t.heap = H1 → s.vm.Alike t.vm → post r u → B u t → H.size ≤ H1.size → (∀ q : Nat, q < H.size → ¬ A1 q → H1[q]? = H[q]?) → va_S A0 H0 H1 locs1 → W p l e R s m args below meth c H1 locs1 (cells + mc) (slots + ms) Q (F0 m (pc + 3) ls (.double r :: rest))) : W p l e R s m args below meth c H locs cells slots Q (F0 m pc ls st0) := by
  intro T hT X
  rcases hr T hT X with ⟨v, st₀, t, T', L, h0, X', hL, e1, e2, ⟨⟨r, u, hv, hp, hb⟩, hF⟩, st⟩ | ⟨q, st₀, t, T', L, E, ce, h0, X', hL, e1, e2, ⟨u, hp, hb, hF⟩, hce, hcv, hcl, st⟩
  · cases hv
    obtain ⟨k1, k2, k3⟩ := vx_keep h0 e1 hS hA hf hL hF
    obtain ⟨t2, a1, b1⟩ := kk r u t T'.heap (locs ++ L) e1.symm (by rw [← e2]; exact X'.warmed.alike) hp hb k1 k2 k3 T' rfl X'
    exact ⟨t2, st t2 a1, b1⟩
  · obtain ⟨k1, k2, k3⟩ := vx_keep h0 e1 hS hAX hf hL hF
    obtain ⟨t2, a1, b1⟩ := kx E ce q u t T'.heap (locs ++ L) e1.symm (by rw [← e2]; exact X'.warmed.alike) hp hb k1 k2 k3 (by rw [e1]; exact hce) hcv hcl T' rfl X'
    exact ⟨t2, st.trans a1, b1⟩
theorem vx_callv {S SX : Type} {post : S → Prop} {px : SX → Prop} {B : S → State → Prop} {BX : String → SX → State → Prop} {AX : Nat → Prop} (hr : vx_Run p l e R s m args below meth c H locs cells slots mc ms (F0 m pc ls st0) rest (va_Qv post B A1 a) (vx_X px BX AX) free) (hS : va_S A0 H0 H locs) (hA : ∀ q, q < H.size → A1 q → A0 q) (hf : ∀ q, free q → A0 q) (hAX : ∀ q, q < H.size → AX q → A0 q)
    (kx : ∀ (E : String) (ce : Cell) (q9 : Addr) (u : SX) (t : State) (H1 : Heap) (locs1 : List Loc), t.heap = H1 → s.vm.Alike t.vm → px u → BX E u t → H.size ≤ H1.size → (∀ q : Nat, q < H.size → ¬ AX q → H1[q]? = H[q]?) → va_S A0 H0 H1 locs1 → H1[q9]? = some ce → ce.vm = .none → s.vm.findClass E = some ce.cls → vx_W p l e R s m args below meth c H1 locs1 (cells + mc) (slots + ms) Q (F0 m pc ls rest) q9)
    (kk : ∀ (u : S) (t : State) (H1 : Heap) (locs1 : List Loc), t.heap = H1 → s.vm.Alike t.vm → post u → B u t → H.size ≤ H1.size → (∀ q : Nat, q < H.size → ¬ A1 q → H1[q]? = H[q]?) → va_S A0 H0 H1 locs1 → W p l e R s m args below meth c H1 locs1 (cells + mc) (slots + ms) Q (F0 m (pc + 3) ls (rest))) : W p l e R s m args below meth c H locs cells slots Q (F0 m pc ls st0) := by
  intro T hT X
  rcases hr T hT X with ⟨v, st₀, t, T', L, h0, X', hL, e1, e2, ⟨⟨u, hv, hp, hb⟩, hF⟩, st⟩ | ⟨q, st₀, t, T', L, E, ce, h0, X', hL, e1, e2, ⟨u, hp, hb, hF⟩, hce, hcv, hcl, st⟩
  · cases hv
    obtain ⟨k1, k2, k3⟩ := vx_keep h0 e1 hS hA hf hL hF
    obtain ⟨t2, a1, b1⟩ := kk u t T'.heap (locs ++ L) e1.symm (by rw [← e2]; exact X'.warmed.alike) hp hb k1 k2 k3 T' rfl X'
    exact ⟨t2, st t2 a1, b1⟩
  · obtain ⟨k1, k2, k3⟩ := vx_keep h0 e1 hS hAX hf hL hF
    obtain ⟨t2, a1, b1⟩ := kx E ce q u t T'.heap (locs ++ L) e1.symm (by rw [← e2]; exact X'.warmed.alike) hp hb k1 k2 k3 (by rw [e1]; exact hce) hcv hcl T' rfl X'
    exact ⟨t2, st.trans a1, b1⟩
/-- caught by the row x of this method's table; the rows ahead don't take it -/
theorem vx_catch {own name : String} {E : String} {ce : Cell} {q : Addr} (hown : s.vm.findClass own = some m.cls) (pre : List ExceptionTableEntry) (x : ExceptionTableEntry) (suf : List ExceptionTableEntry) (hsplit : c.exceptionTable.toList = pre ++ x :: suf)
    (hpass : ∀ z ∈ pre, covers z pc = false ∨ (z.catchType ≠ 0 ∧ ∃ nm : String, (Cond.classLink own z.catchType nm).before args s = true ∧ va_Nc E nm s)) (hx : covers x pc = true) (h0 : x.catchType ≠ 0)
    (hlink : (Cond.classLink own x.catchType name).before args s = true) (hcast : (Cond.castable E name).before args s = true) (hcell : H[q]? = some ce) (hv : ce.vm = .none) (hcl : s.vm.findClass E = some ce.cls)
    (kk : W p l e R s m args below meth c H locs cells slots Q (F0 m x.handlerPc ls [.ref q])) : vx_W p l e R s m args below meth c H locs cells slots Q (F0 m pc ls rest) q := by
  intro T hT X
  have hpl : e.platform.magicAccessors = ({} : Platform).magicAccessors := by rw [X.admits.platform]
  obtain ⟨c3, c4, hc3, hc4, hasg⟩ := Cond.castable_spec hcast
  cases Option.some.inj (hc3.symm.trans hcl)
  obtain ⟨c5, hc5, hcl5⟩ := Cond.classLink_spec hown hlink e.platform hpl
  cases Option.some.inj (hc4.symm.trans hc5)
  obtain ⟨vm', X', st⟩ := X.thenCaughtThrough q (g := F0 m pc ls rest) rfl (Steps.refl _) (by rw [hT]; exact hcell) (by rw [hv]; rfl) (by obtain ⟨k9, h9, -⟩ := Vm.findClass_spec hcl; exact ⟨k9, h9⟩) pre x suf hsplit
    (fun z hz => by
      rcases hpass z hz with h | ⟨hz0, nm, hl1, hn1⟩
      · exact Or.inl h
      · obtain ⟨c6, hc6, hcl6⟩ := Cond.classLink_spec hown hl1 e.platform hpl
        obtain ⟨a8, b8, h1, h2, h3⟩ := hn1
        cases Option.some.inj (h1.symm.trans hcl)
        cases Option.some.inj (h2.symm.trans hc6)
        exact Or.inr ⟨hz0, _, hcl6, h3⟩) hx (Or.inr ⟨h0, c4, hcl5, hasg⟩)
  obtain ⟨t, a1, b1⟩ := kk (T.setVm vm') hT X'
  exact ⟨t, st.trans a1, b1⟩
end Rows
section Ends
variable {p : Program} {l : Launch} {e : Env} {R : Room} {s : State} {m : MethodId} {args : Array Value} {below : List Frame} {meth : Method} {c : Code} {H : Heap} {locs : List Loc} {cells slots : Nat} {Q : State → Prop}
variable {mc ms : Nat} {free : Addr → Prop} {A0 A1 : Nat → Prop} {H0 : Heap} {a : Array Value} {ls : Array Slot} {st0 rest : List Value}
variable {Qc : Array Value → State → Outcome → State → Prop} {XC : String → State → State → Prop}
/-- what a body that may throw owes at its end -/
def vx_MQ (below : List Frame) (Qc : Array Value → State → Outcome → State → Prop) (XC : String → State → State → Prop) (a : Array Value) (s : State) (mc ms : Nat) (free : Addr → Prop) : State → Prop := fun t =>
  ∃ o, t.status = .running ∧ Ended t below o ∧ vx_Q Qc XC mc ms free a s o t
theorem vx_ret {g : JFrame} {mc ms : Nat} (k : W p l e R s m args below meth c H locs cells slots (MQ below Qc args s mc ms free) g) : W p l e R s m args below meth c H locs cells slots (vx_MQ below Qc XC args s mc ms free) g := by
  intro T hT X
  obtain ⟨t, a1, o, b1, b2, b3, b4⟩ := k T hT X
  exact ⟨t, a1, o, b1, b2, Or.inl ⟨b3, b4⟩⟩
/-- not caught here: it goes on to the caller -/
theorem vx_widen {g : JFrame} {q : Addr} {k n : Nat} (h1 : cells ≤ k) (h2 : slots ≤ n) (kk : vx_W p l e R s m args below meth c H locs k n Q g q) : vx_W p l e R s m args below meth c H locs cells slots Q g q := fun T hT X => kk T hT (stand_widen X h1 h2)
theorem vx_out {pc : Nat} {E : String} {ce : Cell} {q : Addr} {mc ms : Nat} (hout : ∀ x ∈ c.exceptionTable.toList, covers x pc = false) (hlocks : meth.locks = false) (hcell : H[q]? = some ce) (hv : ce.vm = .none) (hcl : s.vm.findClass E = some ce.cls)
    (hx : ∀ t : State, t.heap = H → s.vm.Alike t.vm → XC E s t) (hf : ∀ z ∈ locs, free z.base) (hc : cells ≤ mc) (hs : slots ≤ ms) :
    vx_W p l e R s m args below meth c H locs cells slots (vx_MQ below Qc XC args s mc ms free) (F0 m pc ls rest) q := by
  intro T hT X
  obtain ⟨st1, hrun, hend, hW, hsm⟩ := X.leaveThrown q (g := F0 m pc ls rest) rfl rfl rfl hout hlocks
  have hcell9 : (T.setFrames (.throwing q :: below)).heap[q]? = some ce := by
    show T.heap[q]? = some ce
    rw [hT]; exact hcell
  exact ⟨_, st1, .threw q, hrun, hend, Or.inr ⟨q, rfl, E, ce, locs, hx _ hT hW.alike, hcell9, hv, hcl, hW, hsm.mono hc hs, hf⟩⟩
theorem vx_frame {U : State} {k n : Nat} (h : s.sameButNew ({ U with vm := s.vm } : State) locs k n) : s.heap.size ≤ U.heap.size ∧ ∀ q : Nat, q < s.heap.size → (∀ z ∈ locs, z.base ≠ q) → U.heap[q]? = s.heap[q]? := by
  obtain ⟨-, h2, -, -, -, h6⟩ := h
  refine ⟨h2, fun q hq hz => ?_⟩
  obtain ⟨c9, e1, e2, e3, e4⟩ := h6 q _ (Array.getElem?_eq_getElem hq)
  have hs : c9.slots = (s.heap[q]).slots := Array.ext_getElem? fun i => e4 i fun hm => hz _ hm rfl
  have h9 : c9 = s.heap[q] := by
    rw [hs] at e2
    exact e2
  have e5 : U.heap[q]? = some c9 := e1
  rw [e5, h9, Array.getElem?_eq_getElem hq]
/-- the words of a throw but the four that speak of the heap -/
def vx_no (w : Cond) : Bool := decide (w ≠ .isRef (.static Bundle.tN "UNASSIGNED_STACK" Bundle.steD)) && decide (w ≠ .isRef (.static Bundle.tN "SUPPRESSED_SENTINEL" Bundle.listD)) && decide (w ≠ .laysStatic Bundle.tN "UNASSIGNED_STACK" Bundle.steD) && decide (w ≠ .laysStatic Bundle.tN "SUPPRESSED_SENTINEL" Bundle.listD)
def vx_at0 (own : String) (ic : Nat) (X : String) (names : List String) : List Cond := (Bundle.ownAtoms0 own ic X names).filter vx_no
def vx_atS (own : String) (ic : Nat) (X : String) (names : List String) : List Cond := (Bundle.ownAtoms own ic X names).filter vx_no
/-- a word that the tables alone decide, or a good one -/
def vx_ot (w : Cond) : Bool := w.onTables || goodWord w
theorem vx_ot_at {args a' : Array Value} {s U : State} {w : Cond} (hW : s.WarmedH U.vm) (hvm : s.vm = U.vm) (hg : vx_ot w = true) (h : w.before args s = true) : w.before a' U = true := by
  simp only [vx_ot, Bool.or_eq_true] at hg
  rcases hg with hg | hg
  · exact va_tabs hg hvm h
  · exact word_at hW (good_of_word hg) h
/-- a list's words: the good ones out of the method's own list, the others by premises of their own -/
theorem vx_hat {args : Array Value} {s : State} {L B : List Cond} (h1 : ∀ w ∈ L.filter goodWord, w.before args s = true) (h2 : ∀ w ∈ L.filter (fun w => !goodWord w), w ∈ B) (h3 : ∀ w ∈ B, w.before args s = true) : ∀ w ∈ L, w.before args s = true := by
  intro w hw
  by_cases g : goodWord w = true
  · exact h1 w (List.mem_filter.mpr ⟨hw, g⟩)
  · refine h3 w (h2 w (List.mem_filter.mpr ⟨hw, ?_⟩))
    show (!goodWord w) = true
    cases hgw : goodWord w
    · rfl
    · exact absurd hgw g
theorem vx_c {args : Array Value} {s : State} {w : Cond} {B : List Cond} (h : w.before args s = true) (t : ∀ w ∈ B, w.before args s = true) : ∀ w' ∈ w :: B, w'.before args s = true := fun w' h' => (List.mem_cons.mp h').elim (fun e => by rw [e]; exact h) (t w')
theorem vx_n {args : Array Value} {s : State} : ∀ w ∈ ([] : List Cond), w.before args s = true := fun _ h => nomatch h
theorem vx_own {args : Array Value} {s : State} {L : List Cond} (h1 : ∀ w ∈ L.filter vx_no, w.before args s = true)
    (hU : (Cond.isRef (.static Bundle.tN "UNASSIGNED_STACK" Bundle.steD)).before args s = true) (hN : (Cond.isRef (.static Bundle.tN "SUPPRESSED_SENTINEL" Bundle.listD)).before args s = true)
    (lU : (Cond.laysStatic Bundle.tN "UNASSIGNED_STACK" Bundle.steD).before args s = true) (lN : (Cond.laysStatic Bundle.tN "SUPPRESSED_SENTINEL" Bundle.listD).before args s = true) : ∀ w ∈ L, w.before args s = true := by
  intro w hw
  by_cases e1 : w = .isRef (.static Bundle.tN "UNASSIGNED_STACK" Bundle.steD)
  · rw [e1]; exact hU
  · by_cases e2 : w = .isRef (.static Bundle.tN "SUPPRESSED_SENTINEL" Bundle.listD)
    · rw [e2]; exact hN
    · by_cases e3 : w = .laysStatic Bundle.tN "UNASSIGNED_STACK" Bundle.steD
      · rw [e3]; exact lU
      · by_cases e4 : w = .laysStatic Bundle.tN "SUPPRESSED_SENTINEL" Bundle.listD
        · rw [e4]; exact lN
        · exact h1 w (List.mem_filter.mpr ⟨hw, by unfold vx_no; rw [decide_eq_true e1, decide_eq_true e2, decide_eq_true e3, decide_eq_true e4]; rfl⟩)
/-- where a static field lies, its class's statics cell in H -/
def vx_L (C n d : String) (A : Nat → Prop) (U : State) (H : Heap) : Prop := ∃ (c : ClassId) (k : Class) (i : Nat) (f : Field) (a : Nat) (cell : Cell), U.vm.findClass C = some c ∧ U.fieldFound? C n d = some (c, k, i, f) ∧ f.isStatic = true ∧ k.statics = some a ∧ H[a]? = some cell ∧ cell.vm.isStatics = true ∧ cell.cls = c ∧ f.slot < cell.slots.size ∧ k.staticTypes[f.slot]? = some f.type ∧ ¬ A a
theorem vx_L.moved {C n d : String} {A : Nat → Prop} {u U : State} {H : Heap} (hvm : u.vm.Alike U.vm) (h : vx_L C n d A u H) : vx_L C n d A U H := by
  obtain ⟨c, k, i, f, a, cell, h1, h2, h3, h4, h5, h6, h7, h8, h9, h10⟩ := h
  obtain ⟨k', hi', he⟩ := State.fieldFound?_setVm hvm h2
  exact ⟨c, k', i, f, a, cell, by rw [hvm.findClass]; exact h1, hi', h3, by rw [he]; exact h4, h5, h6, h7, h8, by rw [he]; exact h9, h10⟩
theorem vx_L.kept {C n d : String} {A : Nat → Prop} {U : State} {H H1 : Heap} (h : vx_L C n d A U H) (hq : ∀ a : Nat, a < H.size → ¬ A a → H1[a]? = H[a]?) : vx_L C n d A U H1 := by
  obtain ⟨c, k, i, f, a, cell, h1, h2, h3, h4, h5, h6, h7, h8, h9, h10⟩ := h
  exact ⟨c, k, i, f, a, cell, h1, h2, h3, h4, by rw [hq a (Array.getElem?_eq_some_iff.mp h5).1 h10]; exact h5, h6, h7, h8, h9, h10⟩
theorem vx_L.narrow {C n d : String} {A B : Nat → Prop} {U : State} {H : Heap} (h : vx_L C n d A U H) (hAB : ∀ q, B q → A q) : vx_L C n d B U H := by
  obtain ⟨c, k, i, f, a, cell, h1, h2, h3, h4, h5, h6, h7, h8, h9, h10⟩ := h
  exact ⟨c, k, i, f, a, cell, h1, h2, h3, h4, h5, h6, h7, h8, h9, fun z => h10 (hAB _ z)⟩
theorem vx_L.word {C n d : String} {A : Nat → Prop} {s : State} {args : Array Value} (h : vx_L C n d A s s.heap) : (Cond.laysStatic C n d).before args s = true := by
  obtain ⟨c, k, i, f, a, cell, h1, h2, h3, h4, h5, h6, h7, h8, h9, -⟩ := h
  show (Cond.laysStatic C n d).holds args s none s [] = true
  exact Cond.laysStatic_of h1 h2 h3 h4 h5 h6 h7 h8 h9
/-- .. and what it holds: null or some reference -/
def vx_Zq (C n d : String) (A : Nat → Prop) (U : State) (H : Heap) : Prop := va_Zq C n d A U H ∧ vx_L C n d A U H
theorem vx_Zq.moved {C n d : String} {A : Nat → Prop} {u U : State} {H : Heap} (hvm : u.vm.Alike U.vm) (h : vx_Zq C n d A u H) : vx_Zq C n d A U H := ⟨va_Zq.moved hvm h.1, vx_L.moved hvm h.2⟩
theorem vx_Zq.kept {C n d : String} {A : Nat → Prop} {U : State} {H H1 : Heap} (h : vx_Zq C n d A U H) (hq : ∀ a : Nat, a < H.size → ¬ A a → H1[a]? = H[a]?) : vx_Zq C n d A U H1 := ⟨va_Zq.kept h.1 hq, vx_L.kept h.2 hq⟩
theorem vx_Zq.narrow {C n d : String} {A B : Nat → Prop} {U : State} {H : Heap} (h : vx_Zq C n d A U H) (hAB : ∀ q, B q → A q) : vx_Zq C n d B U H := ⟨va_Zq.narrow h.1 hAB, vx_L.narrow h.2 hAB⟩
theorem vx_Zqof {args : Array Value} {s : State} {C n d : String} {A : Nat → Prop} (hl : (Cond.laysStatic C n d).before args s = true) (hini : (Cond.initialized C).before args s = true) (h : (Cond.isRef (.static C n d)).before args s = true) (hA : ∀ a : Nat, a < s.heap.size → ¬ A a) : vx_Zq C n d A s s.heap := by
  refine ⟨va_Zqof hl hini h hA, ?_⟩
  obtain ⟨c, k, i, f, a, cell, h1, h2, h3, h4, h5, h6, h7, h8, h9⟩ := Cond.laysStatic_spec hl
  exact ⟨c, k, i, f, a, cell, h1, h2, h3, h4, h5, h6, h7, h8, h9, hA a (Array.getElem?_eq_some_iff.mp h5).1⟩
theorem vx_isRef {C n d : String} {v : Value} {A : Nat → Prop} {s : State} {args : Array Value} (h : va_Z C n d v A s s.heap) (hv : v.isRef = true) : (Cond.isRef (.static C n d)).before args s = true := by
  obtain ⟨cf, kf, fi, f, a, cell, h1, h2, h3, h4, h5, h6, h7, -⟩ := h
  have he : (Term.static C n d).eval args s none [] s = some v := by
    simp [Term.eval, State.fieldNamed?, h1, h2, h4, h5, h6, h7]
  simp only [Cond.before, Cond.holds, Cond.value, he]
  cases v <;> simp_all [Value.isRef]
theorem vx_isRefq {C n d : String} {A : Nat → Prop} {s : State} {args : Array Value} (h : va_Zq C n d A s s.heap) : (Cond.isRef (.static C n d)).before args s = true := by
  rcases h with h | ⟨t, h⟩
  · exact vx_isRef h rfl
  · exact vx_isRef h rfl
/-- the same frame, seen from here: as if the method were called anew in this heap -/
theorem vx_rebase {T : State} (X : Stand p l e R s m args below meth c T locs cells slots) {R' : Room} (hf : R'.frames ≤ R.frames) (hl : R'.locals ≤ R.locals) (hc : cells + R'.cells ≤ R.cells) (hs : slots + R'.slots ≤ R.slots) :
    Stand p l e R' ((T.setVm s.vm).setFrames (.invoking m args :: below)) m args below meth c T [] 0 0 := by
  have htop : (T.setVm s.vm).topJava?.isSome := X.here.top
  have hF : ((T.setVm s.vm).setFrames (.invoking m args :: below)).frames = .invoking m args :: below := State.frames_setFrames _ (State.cur_lt_of_top htop)
  obtain ⟨g₀, hg0⟩ := Option.isSome_iff_exists.mp htop
  obtain ⟨r, hr⟩ := State.topJava?_eq_some.mp hg0
  have hl9 : e.platform.stackLimits (T.setVm s.vm).me = e.platform.stackLimits s.me := X.limits
  have hb9 : (T.setVm s.vm).me.stackBytes = s.me.stackBytes := X.bytes
  refine ⟨X.admits, X.cas, X.clock, hF, ?_, X.hears, X.method, X.code, X.here, X.tail, X.warmed, ?_, ?_, ?_⟩
  · have h := X.room
    have hU : ((T.setVm s.vm).setFrames (.invoking m args :: below)).localsInUse = s.localsInUse := by
      rw [State.localsInUse_invoking hF (meth := meth) (c := c) X.method X.code, State.localsInUse_invoking X.frames X.method X.code]
    simp only [State.hasRoom, Bool.and_eq_true, decide_eq_true_eq] at h ⊢
    obtain ⟨⟨⟨⟨h1, h2, h3, h4, h5, h6⟩, h7⟩, h8⟩, h9⟩ := h
    rw [X.frames, List.length_cons] at h2 h3
    have q1 := X.heapSize
    have q2 := X.used
    simp only [hF, hU, List.length_cons, State.stackLimits_setFrames, State.stackBytes_setFrames, hl9, hb9]
    refine ⟨⟨⟨⟨by omega, by omega, by omega, by omega, by omega, h6⟩, ?_⟩, ?_⟩, X.book⟩
    · show T.heap.size + R'.cells ≤ e.platform.maxCells
      omega
    · show T.slotsUsed + R'.slots ≤ e.platform.maxSlots
      omega
  · rw [State.stackLimits_setFrames]; rfl
  · rw [State.stackBytes_setFrames]; rfl
  · refine ⟨?_, Nat.le_refl _, Nat.le_refl _, ?_, ?_, fun a c9 h9 => ⟨c9, h9, rfl, rfl, fun _ _ => rfl⟩⟩
    · obtain ⟨t, ht, -⟩ := State.frames_cons hr
      show T.setVm s.vm = { ((T.setVm s.vm).setFrames (.invoking m args :: below)).setFrames (T.setVm s.vm).frames with heap := T.heap, slotsUsed := T.slotsUsed }
      rw [State.setFrames_setFrames, State.setFrames_self ht]
      rfl
    · show T.slotsUsed = T.slotsUsed + ((T.heap.toList.drop T.heap.size).map (·.slots.size)).sum
      rw [List.drop_eq_nil_of_le (Nat.le_of_eq Array.length_toList)]
      rfl
    · show ((T.heap.toList.drop T.heap.size).map (·.slots.size)).sum ≤ 0
      rw [List.drop_eq_nil_of_le (Nat.le_of_eq Array.length_toList)]
      exact Nat.le_refl _
/-- 'throw new E()': new; dup; invokespecial; athrow -/
theorem vx_throw0 {cc : ByteArray} {pc : Nat} (hexec : p.tables.exec = Jvm.exec) (hb : c.code = cc) (hl : l.stackTraces = false) {own cls : String} {names : List String} {ik ic mc ms : Nat} {A : Nat → Prop}
    (hown : s.vm.findClass own = some m.cls) (hcls : Bundle.fit cls = true) (hnames : ∀ n ∈ names, Bundle.fit n = true)
    (hk : (Cond.classLink own ik cls).before args s = true) (hini : (Cond.initialized cls).before args s = true) (hat : ∀ w ∈ vx_at0 own ic cls names, w.before args s = true)
    (hgood : ∀ w ∈ Cond.classLink own ik cls :: Cond.initialized cls :: vx_at0 own ic cls names, vx_ot w = true)
    (hU : vx_Zq Bundle.tN "UNASSIGNED_STACK" Bundle.steD A s s.heap) (hN : vx_Zq Bundle.tN "SUPPRESSED_SENTINEL" Bundle.listD A s s.heap) (hS : va_S A s.heap H locs) (hsize : ls.size = c.maxLocals)
    (d0 : decode cc pc = .ok (.new ik, 3)) (d3 : decode cc (pc + 3) = .ok (.dup, 1)) (d4 : decode cc (pc + 4) = .ok (.invokespecial ic, 3)) (d7 : decode cc (pc + 7) = .ok (.athrow, 1))
    (hout : ∀ x ∈ c.exceptionTable.toList, covers x (pc + 7) = false)
    (hRframes : names.length + 3 < R.frames) (hRlocals : (rest.map fun v => v.category).sum + (13 * (names.length + 1) + 42) ≤ R.locals) (hRcells : cells + 1 ≤ R.cells) (hRslots : slots + 6 ≤ R.slots) (hlocks : meth.locks = false)
    (hx : ∀ t : State, s.vm.Alike t.vm → H.size ≤ t.heap.size → (∀ q : Nat, q < H.size → t.heap[q]? = H[q]?) → XC cls s t)
    (hf : ∀ z ∈ locs, free z.base) (hc : cells + 1 ≤ mc) (hs : slots + 6 ≤ ms) :
    W p l e R s m args below meth c H locs cells slots (vx_MQ below Qc XC args s mc ms free) (F0 m pc ls rest) := by
  intro T hT X
  have htr : e.platform.stackTraces = false := (show e.platform.stackTraces = l.stackTraces by rw [X.admits.platform]).trans hl
  have Y := vx_rebase X (R' := { frames := R.frames, locals := R.locals, cells := 1, slots := 6 }) (Nat.le_refl _) (Nat.le_refl _) hRcells hRslots
  obtain ⟨s', hA⟩ : ∃ z, z = (T.setVm s.vm).setFrames (.invoking m args :: below) := ⟨_, rfl⟩
  rw [← hA] at Y
  have hvm : s'.vm = s.vm := by rw [hA]; rfl
  have hhp : s'.heap = H := by rw [hA]; exact hT
  have hW0 : s.WarmedH s'.vm := by rw [hvm]; exact State.WarmedH.refl s
  have hat' : ∀ w ∈ vx_at0 own ic cls names, w.before args s' = true := fun w hw => vx_ot_at hW0 hvm.symm (hgood w (List.mem_cons_of_mem _ (List.mem_cons_of_mem _ hw))) (hat w hw)
  have hk' : (Cond.classLink own ik cls).before args s' = true := vx_ot_at hW0 hvm.symm (hgood _ List.mem_cons_self) hk
  have hini' : (Cond.initialized cls).before args s' = true := vx_ot_at hW0 hvm.symm (hgood _ (List.mem_cons_of_mem _ List.mem_cons_self)) hini
  have hU' : vx_Zq Bundle.tN "UNASSIGNED_STACK" Bundle.steD A s' s'.heap := by rw [hhp]; exact vx_Zq.moved hW0.alike (hU.kept hS.2.1)
  have hN' : vx_Zq Bundle.tN "SUPPRESSED_SENTINEL" Bundle.listD A s' s'.heap := by rw [hhp]; exact vx_Zq.moved hW0.alike (hN.kept hS.2.1)
  have h : ∀ w ∈ Bundle.ownAtoms0 own ic cls names, w.before args s' = true := vx_own hat' (vx_isRefq hU'.1) (vx_isRefq hN'.1) hU'.2.word hN'.2.word
  have hown' : s'.vm.findClass own = some m.cls := by rw [hvm]; exact hown
  have hins : (Cond.instantiable cls 6).before args s' = true := h _ (by simp [Bundle.ownAtoms0])
  obtain ⟨vm₁, cX, kX, hfX, hkX, -, -, X₁, st1⟩ := Y.newCold hexec (own := own) (C := cls) (index := ik) (n := 6) hown' hk' hins hini'
    (g := F0 m pc ls rest) rfl (by rw [hb]; exact d0) (Nat.le_refl _) (Nat.le_refl _)
  generalize hT1 : (T.setVm vm₁).pushCell { cls := cX, slots := kX.instanceTypes.map defaultValue, vm := .none } = T1 at X₁ st1
  have hcat : (Value.ref T.heap.size).category = 1 := rfl
  have hcellA : T1.heap[T.heap.size]? = some (freshCell cX kX) := by rw [← hT1]; exact State.heap_pushCell_size _ _
  have d3' : decode c.code (pc + 3) = .ok (.dup, 1) := by rw [hb]; exact d3
  obtain ⟨U, hsteps, hrun, hend, hW, hsame, ce, hce, hO⟩ := X₁.ctorThrow0 hexec htr (own := own) (cls := cls) (names := names) (ic := ic) hown' hcls hnames h (fun x hx => nomatch hx) hfX hkX hcellA (by rw [hhp, hT]; exact Nat.le_refl _)
    (g := { method := m, pc := pc + 4, locals := ls, stack := .ref T.heap.size :: .ref T.heap.size :: rest, locked := none }) rfl hsize rfl rfl (rest := rest) rfl
    (by rw [hb]; exact d4) (by rw [hb]; exact d7) hout hRframes (by simp only [List.map_cons, List.sum_cons, hcat]; omega) hlocks
  obtain ⟨f1, f2⟩ := vx_frame hsame
  rw [hhp] at f1 f2
  have hWs : s.WarmedH U.vm := State.WarmedH.trans hW0 hW
  have hcl : s.vm.findClass cls = some ce.cls := by
    have h9 := hO.cls
    rw [hvm] at h9
    exact h9
  have hall : s.sameButNew ({ U with vm := s.vm } : State) locs mc ms := by
    subst hA
    obtain ⟨e1, e2⟩ := hsame
    rw [State.setFrames_setFrames] at e1
    have h2 : (T.setVm s.vm).sameButNew ({ U with vm := s.vm } : State) [] (0 + 1) (0 + 6) := ⟨e1, e2⟩
    have h3 := X.same.trans h2
    rw [List.append_nil] at h3
    exact h3.mono hc hs
  refine ⟨U, ?_, .threw T.heap.size, hrun, hend, Or.inr ⟨T.heap.size, rfl, cls, ce, locs, hx U hWs.alike f1 (fun q hq => f2 q hq (fun z hz => nomatch hz)), hce, hO.vm, hcl, hWs, hall, hf⟩⟩
  refine st1 _ ?_
  show Steps p.tables e below (T1.setTop { method := m, pc := pc + 3, locals := ls, stack := .ref T.heap.size :: rest, locked := none }) _
  jvm_step X₁.here [X₁.here.top, hexec, d3', Value.category]
  exact hsteps
/-- 'throw new E("text")': new; dup; ldc; invokespecial; athrow -/
theorem vx_throwS {cc : ByteArray} {pc : Nat} (hexec : p.tables.exec = Jvm.exec) (hb : c.code = cc) (hl : l.stackTraces = false) {own cls text : String} {names : List String} {ik is ic mc ms sa : Nat} {A : Nat → Prop}
    (hown : s.vm.findClass own = some m.cls) (hcls : Bundle.fit cls = true) (hnames : ∀ n ∈ names, Bundle.fit n = true)
    (hk : (Cond.classLink own ik cls).before args s = true) (hini : (Cond.initialized cls).before args s = true) (hstr : vk_R own is text sa s) (hat : ∀ w ∈ vx_atS own ic cls names, w.before args s = true)
    (hgood : ∀ w ∈ Cond.classLink own ik cls :: Cond.initialized cls :: vx_atS own ic cls names, vx_ot w = true)
    (hU : vx_Zq Bundle.tN "UNASSIGNED_STACK" Bundle.steD A s s.heap) (hN : vx_Zq Bundle.tN "SUPPRESSED_SENTINEL" Bundle.listD A s s.heap) (hS : va_S A s.heap H locs) (hsize : ls.size = c.maxLocals)
    (d0 : decode cc pc = .ok (.new ik, 3)) (d3 : decode cc (pc + 3) = .ok (.dup, 1)) (d4 : decode cc (pc + 4) = .ok (.ldc is, 2)) (d6 : decode cc (pc + 6) = .ok (.invokespecial ic, 3)) (d9 : decode cc (pc + 9) = .ok (.athrow, 1))
    (hout : ∀ x ∈ c.exceptionTable.toList, covers x (pc + 9) = false)
    (hRframes : names.length + 3 < R.frames) (hRlocals : (rest.map fun v => v.category).sum + (13 * (names.length + 1) + 43) ≤ R.locals) (hRcells : cells + 1 ≤ R.cells) (hRslots : slots + 6 ≤ R.slots) (hlocks : meth.locks = false)
    (hx : ∀ t : State, s.vm.Alike t.vm → H.size ≤ t.heap.size → (∀ q : Nat, q < H.size → t.heap[q]? = H[q]?) → XC cls s t)
    (hf : ∀ z ∈ locs, free z.base) (hc : cells + 1 ≤ mc) (hs : slots + 6 ≤ ms) :
    W p l e R s m args below meth c H locs cells slots (vx_MQ below Qc XC args s mc ms free) (F0 m pc ls rest) := by
  intro T hT X
  have htr : e.platform.stackTraces = false := (show e.platform.stackTraces = l.stackTraces by rw [X.admits.platform]).trans hl
  have Y := vx_rebase X (R' := { frames := R.frames, locals := R.locals, cells := 1, slots := 6 }) (Nat.le_refl _) (Nat.le_refl _) hRcells hRslots
  obtain ⟨s', hA⟩ : ∃ z, z = (T.setVm s.vm).setFrames (.invoking m args :: below) := ⟨_, rfl⟩
  rw [← hA] at Y
  have hvm : s'.vm = s.vm := by rw [hA]; rfl
  have hhp : s'.heap = H := by rw [hA]; exact hT
  have hW0 : s.WarmedH s'.vm := by rw [hvm]; exact State.WarmedH.refl s
  have hat' : ∀ w ∈ vx_atS own ic cls names, w.before args s' = true := fun w hw => vx_ot_at hW0 hvm.symm (hgood w (List.mem_cons_of_mem _ (List.mem_cons_of_mem _ hw))) (hat w hw)
  have hk' : (Cond.classLink own ik cls).before args s' = true := vx_ot_at hW0 hvm.symm (hgood _ List.mem_cons_self) hk
  have hini' : (Cond.initialized cls).before args s' = true := vx_ot_at hW0 hvm.symm (hgood _ (List.mem_cons_of_mem _ List.mem_cons_self)) hini
  have hU' : vx_Zq Bundle.tN "UNASSIGNED_STACK" Bundle.steD A s' s'.heap := by rw [hhp]; exact vx_Zq.moved hW0.alike (hU.kept hS.2.1)
  have hN' : vx_Zq Bundle.tN "SUPPRESSED_SENTINEL" Bundle.listD A s' s'.heap := by rw [hhp]; exact vx_Zq.moved hW0.alike (hN.kept hS.2.1)
  have h : ∀ w ∈ Bundle.ownAtoms own ic cls names, w.before args s' = true := vx_own hat' (vx_isRefq hU'.1) (vx_isRefq hN'.1) hU'.2.word hN'.2.word
  have hown' : s'.vm.findClass own = some m.cls := by rw [hvm]; exact hown
  have hins : (Cond.instantiable cls 6).before args s' = true := h _ (by simp [Bundle.ownAtoms])
  obtain ⟨vm₁, cX, kX, hfX, hkX, -, -, X₁, st1⟩ := Y.newCold hexec (own := own) (C := cls) (index := ik) (n := 6) hown' hk' hins hini'
    (g := F0 m pc ls rest) rfl (by rw [hb]; exact d0) (Nat.le_refl _) (Nat.le_refl _)
  generalize hT1 : (T.setVm vm₁).pushCell { cls := cX, slots := kX.instanceTypes.map defaultValue, vm := .none } = T1 at X₁ st1
  have hcat : (Value.ref T.heap.size).category = 1 := rfl
  have hcellA : T1.heap[T.heap.size]? = some (freshCell cX kX) := by rw [← hT1]; exact State.heap_pushCell_size _ _
  have d3' : decode c.code (pc + 3) = .ok (.dup, 1) := by rw [hb]; exact d3
  have d4' : decode c.code (pc + 4) = .ok (.ldc is, 2) := by rw [hb]; exact d4
  have hstr' : vk_R own is text sa s' := vk_R.warm hW0 hstr
  obtain ⟨U, hsteps, hrun, hend, hW, hsame, ce, hce, hO⟩ := X₁.ctorThrowS hexec htr (own := own) (cls := cls) (names := names) (ic := ic) hown' hcls hnames h (fun x hx => nomatch hx) hfX hkX hcellA (by rw [hhp, hT]; exact Nat.le_refl _) (msg := .ref sa) rfl
    (g := { method := m, pc := pc + 6, locals := ls, stack := .ref sa :: .ref T.heap.size :: .ref T.heap.size :: rest, locked := none }) rfl hsize rfl rfl (rest := rest) rfl
    (by rw [hb]; exact d6) (by rw [hb]; exact d9) hout hRframes (by simp only [List.map_cons, List.sum_cons, hcat]; omega) hlocks
  obtain ⟨f1, f2⟩ := vx_frame hsame
  rw [hhp] at f1 f2
  have hWs : s.WarmedH U.vm := State.WarmedH.trans hW0 hW
  have hcl : s.vm.findClass cls = some ce.cls := by
    have h9 := hO.cls
    rw [hvm] at h9
    exact h9
  have hall : s.sameButNew ({ U with vm := s.vm } : State) locs mc ms := by
    subst hA
    obtain ⟨e1, e2⟩ := hsame
    rw [State.setFrames_setFrames] at e1
    have h2 : (T.setVm s.vm).sameButNew ({ U with vm := s.vm } : State) [] (0 + 1) (0 + 6) := ⟨e1, e2⟩
    have h3 := X.same.trans h2
    rw [List.append_nil] at h3
    exact h3.mono hc hs
  refine ⟨U, ?_, .threw T.heap.size, hrun, hend, Or.inr ⟨T.heap.size, rfl, cls, ce, locs, hx U hWs.alike f1 (fun q hq => f2 q hq (fun z hz => nomatch hz)), hce, hO.vm, hcl, hWs, hall, hf⟩⟩
  refine st1 _ ?_
  show Steps p.tables e below (T1.setTop { method := m, pc := pc + 3, locals := ls, stack := .ref T.heap.size :: rest, locked := none }) _
  jvm_step X₁.here [X₁.here.top, hexec, d3', Value.category]
  exact X₁.ldcString hexec (own := own) (text := text) (index := is) (a := sa) hown' hstr'.1 hstr'.2
    (g := { method := m, pc := pc + 4, locals := ls, stack := .ref T.heap.size :: .ref T.heap.size :: rest, locked := none }) rfl d4' _ hsteps
/-- 'throw new E("text")', the text by a wide index -/
theorem vx_throwSW {cc : ByteArray} {pc : Nat} (hexec : p.tables.exec = Jvm.exec) (hb : c.code = cc) (hl : l.stackTraces = false) {own cls text : String} {names : List String} {ik is ic mc ms sa : Nat} {A : Nat → Prop}
    (hown : s.vm.findClass own = some m.cls) (hcls : Bundle.fit cls = true) (hnames : ∀ n ∈ names, Bundle.fit n = true)
    (hk : (Cond.classLink own ik cls).before args s = true) (hini : (Cond.initialized cls).before args s = true) (hstr : vk_R own is text sa s) (hat : ∀ w ∈ vx_atS own ic cls names, w.before args s = true)
    (hgood : ∀ w ∈ Cond.classLink own ik cls :: Cond.initialized cls :: vx_atS own ic cls names, vx_ot w = true)
    (hU : vx_Zq Bundle.tN "UNASSIGNED_STACK" Bundle.steD A s s.heap) (hN : vx_Zq Bundle.tN "SUPPRESSED_SENTINEL" Bundle.listD A s s.heap) (hS : va_S A s.heap H locs) (hsize : ls.size = c.maxLocals)
    (d0 : decode cc pc = .ok (.new ik, 3)) (d3 : decode cc (pc + 3) = .ok (.dup, 1)) (d4 : decode cc (pc + 4) = .ok (.ldc_w is, 3)) (d7 : decode cc (pc + 7) = .ok (.invokespecial ic, 3)) (d10 : decode cc (pc + 10) = .ok (.athrow, 1))
    (hout : ∀ x ∈ c.exceptionTable.toList, covers x (pc + 10) = false)
    (hRframes : names.length + 3 < R.frames) (hRlocals : (rest.map fun v => v.category).sum + (13 * (names.length + 1) + 43) ≤ R.locals) (hRcells : cells + 1 ≤ R.cells) (hRslots : slots + 6 ≤ R.slots) (hlocks : meth.locks = false)
    (hx : ∀ t : State, s.vm.Alike t.vm → H.size ≤ t.heap.size → (∀ q : Nat, q < H.size → t.heap[q]? = H[q]?) → XC cls s t)
    (hf : ∀ z ∈ locs, free z.base) (hc : cells + 1 ≤ mc) (hs : slots + 6 ≤ ms) :
    W p l e R s m args below meth c H locs cells slots (vx_MQ below Qc XC args s mc ms free) (F0 m pc ls rest) := by
  intro T hT X
  have htr : e.platform.stackTraces = false := (show e.platform.stackTraces = l.stackTraces by rw [X.admits.platform]).trans hl
  have Y := vx_rebase X (R' := { frames := R.frames, locals := R.locals, cells := 1, slots := 6 }) (Nat.le_refl _) (Nat.le_refl _) hRcells hRslots
  obtain ⟨s', hA⟩ : ∃ z, z = (T.setVm s.vm).setFrames (.invoking m args :: below) := ⟨_, rfl⟩
  rw [← hA] at Y
  have hvm : s'.vm = s.vm := by rw [hA]; rfl
  have hhp : s'.heap = H := by rw [hA]; exact hT
  have hW0 : s.WarmedH s'.vm := by rw [hvm]; exact State.WarmedH.refl s
  have hat' : ∀ w ∈ vx_atS own ic cls names, w.before args s' = true := fun w hw => vx_ot_at hW0 hvm.symm (hgood w (List.mem_cons_of_mem _ (List.mem_cons_of_mem _ hw))) (hat w hw)
  have hk' : (Cond.classLink own ik cls).before args s' = true := vx_ot_at hW0 hvm.symm (hgood _ List.mem_cons_self) hk
  have hini' : (Cond.initialized cls).before args s' = true := vx_ot_at hW0 hvm.symm (hgood _ (List.mem_cons_of_mem _ List.mem_cons_self)) hini
  have hU' : vx_Zq Bundle.tN "UNASSIGNED_STACK" Bundle.steD A s' s'.heap := by rw [hhp]; exact vx_Zq.moved hW0.alike (hU.kept hS.2.1)
  have hN' : vx_Zq Bundle.tN "SUPPRESSED_SENTINEL" Bundle.listD A s' s'.heap := by rw [hhp]; exact vx_Zq.moved hW0.alike (hN.kept hS.2.1)
  have h : ∀ w ∈ Bundle.ownAtoms own ic cls names, w.before args s' = true := vx_own hat' (vx_isRefq hU'.1) (vx_isRefq hN'.1) hU'.2.word hN'.2.word
  have hown' : s'.vm.findClass own = some m.cls := by rw [hvm]; exact hown
  have hins : (Cond.instantiable cls 6).before args s' = true := h _ (by simp [Bundle.ownAtoms])
  obtain ⟨vm₁, cX, kX, hfX, hkX, -, -, X₁, st1⟩ := Y.newCold hexec (own := own) (C := cls) (index := ik) (n := 6) hown' hk' hins hini'
    (g := F0 m pc ls rest) rfl (by rw [hb]; exact d0) (Nat.le_refl _) (Nat.le_refl _)
  generalize hT1 : (T.setVm vm₁).pushCell { cls := cX, slots := kX.instanceTypes.map defaultValue, vm := .none } = T1 at X₁ st1
  have hcat : (Value.ref T.heap.size).category = 1 := rfl
  have hcellA : T1.heap[T.heap.size]? = some (freshCell cX kX) := by rw [← hT1]; exact State.heap_pushCell_size _ _
  have d3' : decode c.code (pc + 3) = .ok (.dup, 1) := by rw [hb]; exact d3
  have d4' : decode c.code (pc + 4) = .ok (.ldc_w is, 3) := by rw [hb]; exact d4
  have hstr' : vk_R own is text sa s' := vk_R.warm hW0 hstr
  obtain ⟨U, hsteps, hrun, hend, hW, hsame, ce, hce, hO⟩ := X₁.ctorThrowS hexec htr (own := own) (cls := cls) (names := names) (ic := ic) hown' hcls hnames h (fun x hx => nomatch hx) hfX hkX hcellA (by rw [hhp, hT]; exact Nat.le_refl _) (msg := .ref sa) rfl
    (g := { method := m, pc := pc + 7, locals := ls, stack := .ref sa :: .ref T.heap.size :: .ref T.heap.size :: rest, locked := none }) rfl hsize rfl rfl (rest := rest) rfl
    (by rw [hb]; exact d7) (by rw [hb]; exact d10) hout hRframes (by simp only [List.map_cons, List.sum_cons, hcat]; omega) hlocks
  obtain ⟨f1, f2⟩ := vx_frame hsame
  rw [hhp] at f1 f2
  have hWs : s.WarmedH U.vm := State.WarmedH.trans hW0 hW
  have hcl : s.vm.findClass cls = some ce.cls := by
    have h9 := hO.cls
    rw [hvm] at h9
    exact h9
  have hall : s.sameButNew ({ U with vm := s.vm } : State) locs mc ms := by
    subst hA
    obtain ⟨e1, e2⟩ := hsame
    rw [State.setFrames_setFrames] at e1
    have h2 : (T.setVm s.vm).sameButNew ({ U with vm := s.vm } : State) [] (0 + 1) (0 + 6) := ⟨e1, e2⟩
    have h3 := X.same.trans h2
    rw [List.append_nil] at h3
    exact h3.mono hc hs
  refine ⟨U, ?_, .threw T.heap.size, hrun, hend, Or.inr ⟨T.heap.size, rfl, cls, ce, locs, hx U hWs.alike f1 (fun q hq => f2 q hq (fun z hz => nomatch hz)), hce, hO.vm, hcl, hWs, hall, hf⟩⟩
  refine st1 _ ?_
  show Steps p.tables e below (T1.setTop { method := m, pc := pc + 3, locals := ls, stack := .ref T.heap.size :: rest, locked := none }) _
  jvm_step X₁.here [X₁.here.top, hexec, d3', Value.category]
  exact X₁.ldcStringW hexec (own := own) (text := text) (index := is) (a := sa) hown' hstr'.1 hstr'.2
    (g := { method := m, pc := pc + 4, locals := ls, stack := .ref T.heap.size :: .ref T.heap.size :: rest, locked := none }) rfl d4' _ hsteps
end Ends
section Bodies
variable {l : Launch}
theorem vx_ofW {y : MethodName} {ws ws' : List Cond} {rm : Room} {Pc : Array Value → State → Prop} {Qc : Array Value → State → Outcome → State → Prop} {XC : String → State → State → Prop} {mc ms : Nat} {free : Addr → Prop} {cc : ByteArray} {maxL : Nat} {ret : Option FieldType}
    (hy : plainName y.cls = true) (hw : ws = Cond.code y cc maxL ret :: ws')
    (body : ∀ p e s m args below meth c s₁, BodyLoose p l y (headSpec ws rm) cc maxL ret e s m args below meth c s₁ → c.maxLocals = maxL → (∀ x ∈ c.exceptionTable.toList, False) → Pc args s →
      W p l e (headSpec ws rm).room s m args below meth c s.heap [] 0 0 (vx_MQ below Qc XC args s mc ms free) (entryFrame m args maxL)) : vx_Met l y ws rm Pc Qc XC mc ms free := by
  refine MetFree.of_bodyS (code := cc) (maxLocals := maxL) (ret := ret) hy ?_ ?_
  · intro args s m h hn
    obtain ⟨meth, c, h1, h2, h3, h4, h5, h6, -, -⟩ := Cond.code_spec hn (atoms_spec (ws := ws) h _ (by rw [hw]; exact List.mem_cons_self))
    exact ⟨meth, c, h1, h2, h3, h4, h5, h6⟩
  · intro p e s m args below meth c s₁ B hml hP _
    have hh0 : s₁.heap = s.heap := by rw [B.state]; rfl
    have ht : ∀ x ∈ c.exceptionTable.toList, False := by
      obtain ⟨meth9, c9, h1, h2, -, -, -, -, h7, -⟩ := Cond.code_spec B.named (atoms_spec (ws := ws) B.pre _ (by rw [hw]; exact List.mem_cons_self))
      cases Option.some.inj (h1.symm.trans B.method)
      cases Option.some.inj (h2.symm.trans (Stand.of_body B).code)
      intro x hx
      rw [Array.isEmpty_iff.mp h7] at hx
      cases hx
    obtain ⟨t, a1, o, b1, b2, b3⟩ := body p e s m args below meth c s₁ B hml ht hP s₁ hh0 (Stand.of_body B)
    exact ⟨t, o, a1, b1, b2, b3⟩
/-- the table of a body with handlers -/
theorem vx_table {p : Program} {x y : MethodName} {S : Spec} {cc bytes : ByteArray} {maxL maxL' : Nat} {ret ret' : Option FieldType} {e : Env} {s s₁ : State} {m : MethodId} {args : Array Value} {below : List Frame} {meth : Method} {c : Code} {hh : List (Nat × Nat × Nat × Nat)}
    (B : BodyLoose p l y S cc maxL ret e s m args below meth c s₁) (h : (Cond.codeWith y bytes maxL' ret' hh).before args s = true) : c.exceptionTable.toList = tableOf hh := by
  obtain ⟨m9, meth9, c9, hn9, h1, h2, -, -, h6, -⟩ := Cond.codeWith_spec h
  cases Option.some.inj (hn9.symm.trans B.named)
  cases Option.some.inj (h1.symm.trans B.method)
  cases Option.some.inj (h2.symm.trans (Stand.of_body B).code)
  rw [← h6, table_eq]
end Bodies
end VXA
/-! ===== END ===== -/
/-! ===== BEGIN a static call of a method with an exception table ===== -/
section VXS
variable {p : Program} {l : Launch} {e : Env} {R : Room} {s : State} {m : MethodId} {args : Array Value} {below : List Frame} {meth : Method} {c : Code} {T : State} {H : Heap} {locs : List Loc} {cells slots : Nat}
abbrev vx_CSW (R : Room) (s : State) (args : Array Value) (own : String) (index : Nat) (y : MethodName) (bytes : ByteArray) (maxL : Nat) (ret : Option FieldType) (hh : List (Nat × Nat × Nat × Nat)) (ws : List Cond) (rm : Room) (mc ms n : Nat) : Prop :=
  (rm.cells = mc ∧ rm.slots = ms ∧ rm.frames + 1 ≤ R.frames ∧ 8 + (maxL + 11) + rm.locals ≤ R.locals ∧ (∀ w ∈ ws, ∀ (a' : Array Value) (U : State), s.WarmedH U.vm → w.before a' U = true) ∧ Cond.codeWith y bytes maxL ret hh ∈ ws) ∧
  (Cond.codeWith y bytes maxL ret hh).before args s = true ∧ (Cond.initialized y.cls).before args s = true ∧ (y.cls ≠ "java/lang/invoke/MethodHandle" ∧ y.cls ≠ "java/lang/invoke/VarHandle") ∧
  (∀ sig, parseMethodDescriptor y.desc = some sig → n = sig.parameters.length) ∧ (Cond.methodLink own index y).before args s = true ∧ (Cond.static y).before args s = true
theorem vx_cwSW {own : String} {index maxL mc ms : Nat} {y : MethodName} {bytes : ByteArray} {ret : Option FieldType} {hh : List (Nat × Nat × Nat × Nat)} {Ts ws ws' : List Cond} {rm : Room} (n : Nat) (ht : ∀ w ∈ Ts, w.before args s = true) (hT : GoodIn Ts (va_wsS own index y ws)) (hw : ws = Cond.codeWith y bytes maxL ret hh :: ws') (hrc : rm.cells = mc) (hrs : rm.slots = ms)
    (hd : y.cls ≠ "java/lang/invoke/MethodHandle" ∧ y.cls ≠ "java/lang/invoke/VarHandle" ∧ (parseMethodDescriptor y.desc).map (fun d => d.parameters.length) = some n) (hR : rm.frames + 1 ≤ R.frames ∧ 8 + (maxL + 11) + rm.locals ≤ R.locals) :
    vx_CSW R s args own index y bytes maxL ret hh ws rm mc ms n := by
  have ok : ∀ w ∈ va_wsS own index y ws, w.before args s = true := fun w h => ht w (hT w h).1
  have hG : GoodIn Ts ws := fun w h => hT w (by unfold va_wsS; exact List.mem_append_right _ h)
  have hc : Cond.codeWith y bytes maxL ret hh ∈ ws := by rw [hw]; exact List.mem_cons_self
  refine ⟨⟨hrc, hrs, hR.1, hR.2, pay_in ht hG, hc⟩, ht _ (hG _ hc).1, ok _ (by simp [va_wsS]), ⟨hd.1, hd.2.1⟩, fun sig h => ?_, ok _ (by simp [va_wsS]), ok _ (by simp [va_wsS])⟩
  have h2 := hd.2.2
  rw [h] at h2
  exact (Option.some.inj h2).symm
theorem vx_callSW (X : Stand p l e R s m args below meth c T locs cells slots) (hexec : p.tables.exec = Jvm.exec) {own : String} {index : Nat} {y : MethodName} {bytes : ByteArray} {maxL : Nat} {ret : Option FieldType} {hh : List (Nat × Nat × Nat × Nat)}
    (hown : s.vm.findClass own = some m.cls) (hlink : (Cond.methodLink own index y).before args s = true) (hstat : (Cond.static y).before args s = true) (hinit : (Cond.initialized y.cls).before args s = true)
    (hcode : (Cond.codeWith y bytes maxL ret hh).before args s = true) (hy : y.cls ≠ "java/lang/invoke/MethodHandle" ∧ y.cls ≠ "java/lang/invoke/VarHandle")
    {W9 : Nat} {Pre : Pt → Array Value → Prop} {Post : Pt → Array Value → Option Value → Pt → Prop} (hK : Back l R p e below s args y 3 W9 Pre Post)
    {g : JFrame} (hg : g.method = m) (hsize : g.locals.size = c.maxLocals) {argsL rest : List Value} (hlen : ∀ sig, parseMethodDescriptor y.desc = some sig → argsL.length = sig.parameters.length)
    (hstack : g.stack = argsL.reverse ++ rest) (hW : 2 * g.monitorRoom + (rest.map fun v => v.category).sum ≤ W9) (hdg : decode c.code g.pc = .ok (.invokestatic index, 3))
    (hpre : ∀ vm₁, s.WarmedH vm₁ → Pre ⟨T.setVm vm₁, locs, cells, slots⟩ argsL.toArray) :
    ∃ (v : Option Value) (vm₁ : Vm) (B : Pt), s.WarmedH vm₁ ∧ Stand p l e R s m args below meth c B.U B.locs B.cells B.slots ∧ Post ⟨T.setVm vm₁, locs, cells, slots⟩ argsL.toArray v B ∧
      ∀ target, Steps p.tables e below (B.U.setTop { g with pc := g.pc + 3, stack := v.toList ++ rest }) target → Steps p.tables e below (T.setTop g) target := by
  obtain ⟨mk, methM, cM, hnamed, hmethM, -, -, -, -, -, -, hsigM⟩ := Cond.codeWith_spec hcode
  have hstatic : methM.isStatic = true := Cond.static_spec hnamed hmethM hstat
  obtain ⟨kP, hkP, -⟩ := className_of_methodNamed hnamed
  have hinitP : kP.init = .initialized := Cond.initialized_spec (findClass_of_methodNamed hnamed) hkP hinit
  obtain ⟨vm₁, X₁, hstep₁⟩ := X.invokestatic hexec hown hlink hnamed hmethM hstatic hkP hinitP hy (g := g) hg (argsL := argsL) (rest := rest) (hlen _ hsigM) hstack hdg
  obtain ⟨v, B, X', hpost, hsteps⟩ := hK m meth c ⟨T.setVm vm₁, locs, cells, slots⟩ { g with stack := rest } (.invokestatic index) mk argsL.toArray X₁ hg hsize hdg hW (X₁.named hnamed) (hpre vm₁ X₁.warmed)
  exact ⟨v, vm₁, B, X₁.warmed, X', hpost, fun target h => hstep₁ _ fun acts => by rw [doInvoke_state]; exact hsteps.trans h⟩
theorem vx_runSW {y : MethodName} {bytes cc : ByteArray} {maxL nL mc ms n index : Nat} {ret : Option FieldType} {hh : List (Nat × Nat × Nat × Nat)} {ws : List Cond} {rm : Room} {Pc : Array Value → State → Prop} {Qc : Array Value → State → Outcome → State → Prop} {free : Addr → Prop} {Ts : List Cond} {own : String} {As rest : List Value} {g : JFrame}
    (S : CallFix p m c cc nL s args Ts own) (hM : Met l y ws rm Pc Qc mc ms free) (cw : vx_CSW R s args own index y bytes maxL ret hh ws rm mc ms n) (hp : PreS s H Pc As)
    (hg : g.method = m) (hn : As.length = n) (hsize : g.locals.size = nL) (hstack : g.stack = As.reverse ++ rest) (hW : 2 * g.monitorRoom + (rest.map fun v => v.category).sum ≤ 8) (hdg : decode cc g.pc = .ok (.invokestatic index, 3)) (hf : cells + mc ≤ R.cells ∧ slots + ms ≤ R.slots) :
    va_Run p l e R s m args below meth c H locs cells slots mc ms g rest (Qc As.toArray) (free) := by
  obtain ⟨⟨hrc, hrs, hfr, hlo, hws, hcw⟩, hcode, hini, hy, hlen, hl, hstt⟩ := cw
  have hK : Back l R p e below s args y 3 8 (PreOf R mc ms Pc) (PostOf Qc mc ms free) := va_backW (hh := hh) (bytes := bytes) (maxL := maxL) (ret := ret) hM hp.1 hrc hrs hfr hlo hws hcw (fun a' U hW => word_at hW (Or.inl (by first | rfl | simp [Cond.onTables, Cond.keeps, Cond.steady])) hini)
  obtain ⟨hx, hb, hml, ho, -⟩ := S
  intro T hT X
  obtain ⟨v, vm₁, ⟨U', l2, c2, s2⟩, hW₁, X', ⟨g', mk, t, L, e1, e2, hq, h1, hL, h2, h3⟩, st⟩ := vx_callSW X hx (hh := hh) (bytes := bytes) (maxL := maxL) (ret := ret) ho hl hstt hini hcode hy hK hg (hsize.trans hml.symm) (argsL := As) (rest := rest) (fun sig h => hn.trans (hlen sig h)) hstack hW (by rw [hb]; exact hdg)
    (fun vm₁ hW₁ => ⟨hf.1, hf.2, hp.2 (T.setVm vm₁) hT hW₁⟩)
  dsimp only [Pt.U, Pt.locs, Pt.cells, Pt.slots] at X' e1 e2 h1 h2 h3 st
  subst h1; subst h2; subst h3
  exact ⟨v, (T.setVm vm₁).calling g' mk As.toArray, t, U', L, hT, X', hL, e1, e2, hq, st⟩
/-- not caught here, past rows that name other classes: it goes on to the caller -/
theorem vx_outP {p : Program} {l : Launch} {e : Env} {R : Room} {s : State} {m : MethodId} {args : Array Value} {below : List Frame} {meth : Method} {c : Code} {H : Heap} {locs : List Loc} {cells slots : Nat} {free : Addr → Prop} {ls : Array Slot} {rest : List Value} {Qc : Array Value → State → Outcome → State → Prop} {XC : String → State → State → Prop}
    {pc : Nat} {own E : String} {ce : Cell} {q : Addr} {mc ms : Nat} (hown : s.vm.findClass own = some m.cls) (hlocks : meth.locks = false)
    (hpass : ∀ z ∈ c.exceptionTable.toList, covers z pc = false ∨ (z.catchType ≠ 0 ∧ ∃ nm : String, (Cond.classLink own z.catchType nm).before args s = true ∧ va_Nc E nm s)) (hcell : H[q]? = some ce) (hv : ce.vm = .none) (hcl : s.vm.findClass E = some ce.cls)
    (hx : ∀ t : State, t.heap = H → s.vm.Alike t.vm → XC E s t) (hf : ∀ z ∈ locs, free z.base) (hc : cells ≤ mc) (hs : slots ≤ ms) :
    vx_W p l e R s m args below meth c H locs cells slots (vx_MQ below Qc XC args s mc ms free) (F0 m pc ls rest) q := by
  intro T hT X
  have hpl : e.platform.magicAccessors = ({} : Platform).magicAccessors := by rw [X.admits.platform]
  obtain ⟨vm', hW', X', st⟩ := X.outThrough hlocks q (g := F0 m pc ls rest) rfl rfl rfl (cell := ce) (by rw [hT]; exact hcell) (by rw [hv]; rfl)
    (by obtain ⟨k9, h9, -⟩ := Vm.findClass_spec hcl; exact ⟨k9, h9⟩) (fun z hz => by
      rcases hpass z hz with h | ⟨hz0, nm, hl1, hn1⟩
      · exact Or.inl h
      · obtain ⟨c6, hc6, hcl6⟩ := Cond.classLink_spec hown hl1 e.platform hpl
        obtain ⟨a8, b8, h1, h2, h3⟩ := hn1
        cases Option.some.inj (h1.symm.trans hcl)
        cases Option.some.inj (h2.symm.trans hc6)
        exact Or.inr ⟨hz0, _, hcl6, h3⟩)
  obtain ⟨g₀, hfr⟩ := X'.frames_eq
  have hcell9 : ((T.setVm vm').setFrames (.throwing q :: below)).heap[q]? = some ce := by
    show T.heap[q]? = some ce
    rw [hT]; exact hcell
  have hend : Ended ((T.setVm vm').setFrames (.throwing q :: below)) below (.threw q) := State.frames_setFrames _ (State.cur_lt_of_frames hfr)
  refine ⟨(T.setVm vm').setFrames (.throwing q :: below), ?_, .threw q, X'.here.running, hend, Or.inr ⟨q, rfl, E, ce, locs, hx _ hT (X'.ends _).1.alike, hcell9, hv, hcl, (X'.ends _).1, (X'.ends _).2.mono hc hs, hf⟩⟩
  rw [X.pushThrowing_eq]
  exact st
/-- a thing of a world lies in the heap -/
theorem vx_lt {D : va_G} {cl : List vw_C} {ws : va_W} {H1 : Heap} (h : va_P D cl ws H1) {k : Nat} {q : Nat × va_E} (hk : ws[k]? = some q) : q.1 < H1.size := (h k q hk).lt
end VXS
/-! ===== END ===== -/
/-! ===== BEGIN methods with a table of their own: called by a name, returning or throwing ===== -/
section VXH
/-! vx_backW, vx_callVX, vx_callSX, vx_callVW, vx_runVW, vx_runVX, vx_runSX, vx_ofWH follow the same proofs as their sisters above (Free/Laws.lean, Shelf42/LK1.lean); vx_outP calls Shelf42/NT130.lean (outThrough). -/
section
variable {l : Launch} {R : Room} {p : Program} {e : Env} {below : List Frame} {s : State} {sargs : Array Value} {y : MethodName} {len W9 : Nat}
theorem vx_backW {ws : List Cond} {rm : Room} {Pc : Array Value → State → Prop} {Qc : Array Value → State → Outcome → State → Prop} {XC : String → State → State → Prop} {mc ms : Nat} {free : Addr → Prop} {bytes : ByteArray} {maxL : Nat} {ret : Option FieldType} {hh : List (Nat × Nat × Nat × Nat)}
    (hM : vx_Met l y ws rm Pc Qc XC mc ms free) (hblind : FrameBlind Pc) (hrc : rm.cells = mc) (hrs : rm.slots = ms)
    (hframes : rm.frames + 1 ≤ R.frames) (hlocals : W9 + (maxL + 11) + rm.locals ≤ R.locals)
    (hws : ∀ w ∈ ws, ∀ a' U, s.WarmedH U.vm → w.before a' U = true) (hcode : Cond.codeWith y bytes maxL ret hh ∈ ws) (hinit : ∀ a' U, s.WarmedH U.vm → (Cond.initialized y.cls).before a' U = true) :
    vx_Back l R p e below s sargs y len W9 (PreOf R mc ms Pc) (PostOf Qc mc ms free) (vx_Post XC mc ms free) := by
  intro m meth c A g ig mk a X hg hsize hdg hW hn hp
  have h1 : (headSpec ws rm).pre.before a A.U = true := atoms_intro fun w hw => hws w hw _ _ X.warmed
  have h2 : (Cond.codeWith y bytes maxL ret hh).before a A.U = true := hws _ hcode _ _ X.warmed
  have h3 : (Cond.initialized y.cls).before a A.U = true := hinit _ _ X.warmed
  have h4 : A.cells + (headSpec ws rm).room.cells ≤ R.cells := by rw [show (headSpec ws rm).room.cells = mc from hrc]; exact hp.1
  have h5 : A.slots + (headSpec ws rm).room.slots ≤ R.slots := by rw [show (headSpec ws rm).room.slots = ms from hrs]; exact hp.2.1
  have hPc : Pc a (A.U.calling g mk a) := hblind _ _ _ _ hp.2.2
  obtain ⟨U, Ls, c0, s0⟩ := A
  dsimp only [Pt.U, Pt.locs, Pt.cells, Pt.slots] at h1 h2 h3 h4 h5 X hn hPc ⊢
  obtain ⟨m9, methY, cY, hn9, hmY, hcY, -, hlY, -⟩ := Cond.codeWith_spec h2
  cases Option.some.inj (hn9.symm.trans hn)
  obtain ⟨kY, hkY, -⟩ := className_of_methodNamed hn
  have hinitY : kY.init = .initialized := Cond.initialized_spec (findClass_of_methodNamed hn) hkY h3
  have h : At U g.method c below := by rw [hg]; exact X.here
  have hlocals9 : W9 + (maxL + 11) + (headSpec ws rm).room.locals ≤ R.locals := hlocals
  have happ : (headSpec ws rm).appliesLoose y e.platform (U.calling g mk a) = true :=
    Spec.appliesLoose_calling (g := g) h hdg hn hkY hinitY
      (X.room_calling (g := g) (R' := (headSpec ws rm).room) hsize hmY hcY hframes (by rw [hlY]; omega) h4 h5) h1
  obtain ⟨mid, hmid⟩ := h.above
  have hfr : (U.setTop g).frames = (.java g :: mid) ++ below := by rw [State.frames_setTop' g h.top, hmid]; rfl
  obtain ⟨o, s₂, hsteps, -, hend, hq⟩ := Steps.callFree hM p X.admits X.cas X.clock (acts := []) hfr happ hPc trivial
  have hq' : vx_Q Qc XC mc ms free a (U.calling g mk a) o s₂ := hq
  rw [State.frames_setTop' g h.top] at hend
  obtain ⟨g₀, hg0⟩ := Option.isSome_iff_exists.mp h.top
  obtain ⟨r, hr⟩ := State.topJava?_eq_some.mp hg0
  have hr' : (({ U with heap := s₂.heap, slotsUsed := s₂.slotsUsed } : State).setVm s₂.vm).frames = .java g₀ :: r := hr
  rcases hq' with ⟨hqc, L, hfe, hL⟩ | ⟨q, rfl, E, ce, L, hx, hce, hcv, hcl, hW₂, hsm, hL⟩
  · obtain ⟨⟨v, rfl⟩, hW₂, e2, q2, q3, q4, q5, q6⟩ := id hfe
    have e3 : s₂ = ({ (U.calling g mk a).setFrames s₂.frames with heap := s₂.heap, slotsUsed := s₂.slotsUsed } : State).setVm s₂.vm := by
      have : s₂ = ({ s₂ with vm := (U.calling g mk a).vm } : State).setVm s₂.vm := rfl
      rw [e2] at this
      exact this
    obtain ⟨c₂, i₂, len₂, hc₂, hd₂, hf₂⟩ := hend
    have hW' : U.WarmedH s₂.vm := hW₂
    have hcc : c₂ = c := by
      have h1 : s₂.code? g.method = U.code? g.method := by
        rw [State.code?_eq, State.code?_eq, hW'.alike.method?]
      exact Option.some.inj (hc₂.symm.trans (h1.trans h.code))
    subst hcc
    have hlen : len₂ = len := by rw [hdg] at hd₂; cases hd₂; rfl
    subst hlen
    have hs₂ : s₂ = (({ U with heap := s₂.heap, slotsUsed := s₂.slotsUsed } : State).setVm s₂.vm).setTop { g with pc := g.pc + len₂, stack := v.toList ++ g.stack } := by
      refine e3.trans ?_
      rw [hf₂, State.calling_eq h.top, State.setFrames_setFrames, State.setTop_of_frames _ hr', hr]
      rfl
    have hsame : U.sameButNew ({ U with heap := s₂.heap, slotsUsed := s₂.slotsUsed } : State) L mc ms := by
      refine ⟨?_, q2, q3, q4, q5, q6⟩
      obtain ⟨t, ht, -⟩ := State.frames_cons hr
      show ({ U with heap := s₂.heap, slotsUsed := s₂.slotsUsed } : State) = { U.setFrames U.frames with heap := s₂.heap, slotsUsed := s₂.slotsUsed }
      rw [State.setFrames_self ht]
    subst hg
    refine Or.inl ⟨v, ⟨(({ U with heap := s₂.heap, slotsUsed := s₂.slotsUsed } : State).setVm s₂.vm), Ls ++ L, c0 + mc, s0 + ms⟩,
      ⟨X.admits, X.cas, X.clock, X.frames, X.room, X.hears, X.method, X.code, (X.here.setHeapUsed s₂.heap s₂.slotsUsed).setVm hW'.alike, X.tail, State.WarmedH.trans X.warmed hW', X.limits, X.bytes, X.same.trans (hsame.setVm s.vm)⟩,
      ⟨g, mk, s₂, L, rfl, rfl, hqc, rfl, hL, rfl, rfl⟩, ?_⟩
    show Steps p.tables e below _ ((({ U with heap := s₂.heap, slotsUsed := s₂.slotsUsed } : State).setVm s₂.vm).setTop { g with pc := g.pc + len₂, stack := v.toList ++ g.stack })
    rw [← hs₂]
    exact hsteps
  · obtain ⟨e2, q2, q3, q4, q5, q6⟩ := id hsm
    have e3 : s₂ = ({ (U.calling g mk a).setFrames s₂.frames with heap := s₂.heap, slotsUsed := s₂.slotsUsed } : State).setVm s₂.vm := by
      have : s₂ = ({ s₂ with vm := (U.calling g mk a).vm } : State).setVm s₂.vm := rfl
      rw [e2] at this
      exact this
    have hf₂ : s₂.frames = .throwing q :: .java g :: U.frames.tail := hend
    have hW' : U.WarmedH s₂.vm := hW₂
    have hs₂ : s₂ = ((({ U with heap := s₂.heap, slotsUsed := s₂.slotsUsed } : State).setVm s₂.vm).setTop g).pushFrame (.throwing q) := by
      refine e3.trans ?_
      rw [hf₂, State.calling_eq h.top, State.setFrames_setFrames, State.pushFrame, State.frames_setTop _ hr', State.setTop_of_frames _ hr', State.setFrames_setFrames, hr]
      rfl
    have hsame : U.sameButNew ({ U with heap := s₂.heap, slotsUsed := s₂.slotsUsed } : State) L mc ms := by
      refine ⟨?_, q2, q3, q4, q5, q6⟩
      obtain ⟨t, ht, -⟩ := State.frames_cons hr
      show ({ U with heap := s₂.heap, slotsUsed := s₂.slotsUsed } : State) = { U.setFrames U.frames with heap := s₂.heap, slotsUsed := s₂.slotsUsed }
      rw [State.setFrames_self ht]
    subst hg
    refine Or.inr ⟨q, ⟨(({ U with heap := s₂.heap, slotsUsed := s₂.slotsUsed } : State).setVm s₂.vm), Ls ++ L, c0 + mc, s0 + ms⟩,
      ⟨X.admits, X.cas, X.clock, X.frames, X.room, X.hears, X.method, X.code, (X.here.setHeapUsed s₂.heap s₂.slotsUsed).setVm hW'.alike, X.tail, State.WarmedH.trans X.warmed hW', X.limits, X.bytes, X.same.trans (hsame.setVm s.vm)⟩,
      ⟨g, mk, s₂, L, E, ce, rfl, rfl, hx, hce, hcv, hcl, rfl, hL, rfl, rfl⟩, ?_⟩
    show Steps p.tables e below _ (((({ U with heap := s₂.heap, slotsUsed := s₂.slotsUsed } : State).setVm s₂.vm).setTop g).pushFrame (.throwing q))
    rw [← hs₂]
    exact hsteps
end
variable {p : Program} {l : Launch} {e : Env} {R : Room} {s : State} {m : MethodId} {args : Array Value} {below : List Frame} {meth : Method} {c : Code} {T : State} {H : Heap} {locs : List Loc} {cells slots : Nat}
theorem vx_callVX (X : Stand p l e R s m args below meth c T locs cells slots) (hexec : p.tables.exec = Jvm.exec) {own C : String} {index : Nat} {y : MethodName} {bytes : ByteArray} {maxL : Nat} {ret : Option FieldType} {hh : List (Nat × Nat × Nat × Nat)}
    (hown : s.vm.findClass own = some m.cls) (hlink : (Cond.methodLink own index y).before args s = true) (hinst : (Cond.instanceMethod y).before args s = true) (hsel : (Cond.selects C y y).before args s = true)
    (hcode : (Cond.codeWith y bytes maxL ret hh).before args s = true) (hy : y.cls ≠ "java/lang/invoke/MethodHandle" ∧ y.cls ≠ "java/lang/invoke/VarHandle")
    {W9 : Nat} {Pre : Pt → Array Value → Prop} {Post : Pt → Array Value → Option Value → Pt → Prop} {PostX : Pt → Array Value → Addr → Pt → Prop} (hK : vx_Back l R p e below s args y 3 W9 Pre Post PostX)
    {b : Addr} {cellB : Cell} (hcell : T.heap[b]? = some cellB) (hobj : cellB.vm.isStatics = false) (hcls : s.vm.findClass C = some cellB.cls)
    {g : JFrame} (hg : g.method = m) (hsize : g.locals.size = c.maxLocals) {argsL rest : List Value} (hlen : ∀ sig, parseMethodDescriptor y.desc = some sig → argsL.length = sig.parameters.length)
    (hstack : g.stack = argsL.reverse ++ .ref b :: rest) (hW : 2 * g.monitorRoom + (rest.map fun v => v.category).sum ≤ W9) (hdg : decode c.code g.pc = .ok (.invokevirtual index, 3))
    (hpre : ∀ vm₁, s.WarmedH vm₁ → Pre ⟨T.setVm vm₁, locs, cells, slots⟩ (Value.ref b :: argsL).toArray) :
    (∃ (v : Option Value) (vm₁ : Vm) (B : Pt), s.WarmedH vm₁ ∧ Stand p l e R s m args below meth c B.U B.locs B.cells B.slots ∧ Post ⟨T.setVm vm₁, locs, cells, slots⟩ (Value.ref b :: argsL).toArray v B ∧
      ∀ target, Steps p.tables e below (B.U.setTop { g with pc := g.pc + 3, stack := v.toList ++ rest }) target → Steps p.tables e below (T.setTop g) target) ∨
    (∃ (q : Addr) (vm₁ : Vm) (B : Pt), s.WarmedH vm₁ ∧ Stand p l e R s m args below meth c B.U B.locs B.cells B.slots ∧ PostX ⟨T.setVm vm₁, locs, cells, slots⟩ (Value.ref b :: argsL).toArray q B ∧
      Steps p.tables e below (T.setTop g) ((B.U.setTop { g with stack := rest }).pushFrame (.throwing q))) := by
  obtain ⟨mk, methM, hnamed, hmethM, hstM, habM⟩ := Cond.instanceMethod_spec hinst
  obtain ⟨m8, methM', cM, hn8, hmethM', -, -, -, -, -, -, hsigM⟩ := Cond.codeWith_spec hcode
  cases Option.some.inj (hn8.symm.trans hnamed)
  cases hmethM.symm.trans hmethM'
  obtain ⟨c2, r2, m2, q1, q2, q3, q4, kP, hkP, hkPi⟩ := Cond.selects_spec hsel
  cases hcls.symm.trans q1
  cases (State.methodFound?_of_named hnamed hy).symm.trans q2
  cases hnamed.symm.trans q3
  have hselP : selectMethod e.platform s.vm cellB.cls mk = .method mk := by rw [Launch.admits_selectMethod X.admits]; exact q4
  obtain ⟨vm₁, X₁, hstep₁⟩ := X.invokevirtual hexec hown hlink hnamed hmethM hstM hkP hkPi hy (a := b) (cell := cellB) hcell
    (fun z h => by rw [h] at hobj; cases hobj) hselP hmethM habM hkP hkPi (g := g) hg (argsL := argsL) (rest := rest) (hlen _ hsigM) hstack hdg
  rcases hK m meth c ⟨T.setVm vm₁, locs, cells, slots⟩ { g with stack := rest } (.invokevirtual index) mk (Value.ref b :: argsL).toArray X₁ hg hsize hdg hW (X₁.named hnamed) (hpre vm₁ X₁.warmed) with ⟨v, B, X', hpost, hsteps⟩ | ⟨q, B, X', hpost, hsteps⟩
  · exact Or.inl ⟨v, vm₁, B, X₁.warmed, X', hpost, fun target h => hstep₁ _ fun acts => by rw [doInvoke_state]; exact hsteps.trans h⟩
  · exact Or.inr ⟨q, vm₁, B, X₁.warmed, X', hpost, hstep₁ _ fun acts => by rw [doInvoke_state]; exact hsteps⟩
theorem vx_callSX (X : Stand p l e R s m args below meth c T locs cells slots) (hexec : p.tables.exec = Jvm.exec) {own : String} {index : Nat} {y : MethodName} {bytes : ByteArray} {maxL : Nat} {ret : Option FieldType} {hh : List (Nat × Nat × Nat × Nat)}
    (hown : s.vm.findClass own = some m.cls) (hlink : (Cond.methodLink own index y).before args s = true) (hstat : (Cond.static y).before args s = true) (hinit : (Cond.initialized y.cls).before args s = true)
    (hcode : (Cond.codeWith y bytes maxL ret hh).before args s = true) (hy : y.cls ≠ "java/lang/invoke/MethodHandle" ∧ y.cls ≠ "java/lang/invoke/VarHandle")
    {W9 : Nat} {Pre : Pt → Array Value → Prop} {Post : Pt → Array Value → Option Value → Pt → Prop} {PostX : Pt → Array Value → Addr → Pt → Prop} (hK : vx_Back l R p e below s args y 3 W9 Pre Post PostX)
    {g : JFrame} (hg : g.method = m) (hsize : g.locals.size = c.maxLocals) {argsL rest : List Value} (hlen : ∀ sig, parseMethodDescriptor y.desc = some sig → argsL.length = sig.parameters.length)
    (hstack : g.stack = argsL.reverse ++ rest) (hW : 2 * g.monitorRoom + (rest.map fun v => v.category).sum ≤ W9) (hdg : decode c.code g.pc = .ok (.invokestatic index, 3))
    (hpre : ∀ vm₁, s.WarmedH vm₁ → Pre ⟨T.setVm vm₁, locs, cells, slots⟩ argsL.toArray) :
    (∃ (v : Option Value) (vm₁ : Vm) (B : Pt), s.WarmedH vm₁ ∧ Stand p l e R s m args below meth c B.U B.locs B.cells B.slots ∧ Post ⟨T.setVm vm₁, locs, cells, slots⟩ argsL.toArray v B ∧
      ∀ target, Steps p.tables e below (B.U.setTop { g with pc := g.pc + 3, stack := v.toList ++ rest }) target → Steps p.tables e below (T.setTop g) target) ∨
    (∃ (q : Addr) (vm₁ : Vm) (B : Pt), s.WarmedH vm₁ ∧ Stand p l e R s m args below meth c B.U B.locs B.cells B.slots ∧ PostX ⟨T.setVm vm₁, locs, cells, slots⟩ argsL.toArray q B ∧
      Steps p.tables e below (T.setTop g) ((B.U.setTop { g with stack := rest }).pushFrame (.throwing q))) := by
  obtain ⟨mk, methM, cM, hnamed, hmethM, -, -, -, -, -, -, hsigM⟩ := Cond.codeWith_spec hcode
  have hstatic : methM.isStatic = true := Cond.static_spec hnamed hmethM hstat
  obtain ⟨kP, hkP, -⟩ := className_of_methodNamed hnamed
  have hinitP : kP.init = .initialized := Cond.initialized_spec (findClass_of_methodNamed hnamed) hkP hinit
  obtain ⟨vm₁, X₁, hstep₁⟩ := X.invokestatic hexec hown hlink hnamed hmethM hstatic hkP hinitP hy (g := g) hg (argsL := argsL) (rest := rest) (hlen _ hsigM) hstack hdg
  rcases hK m meth c ⟨T.setVm vm₁, locs, cells, slots⟩ { g with stack := rest } (.invokestatic index) mk argsL.toArray X₁ hg hsize hdg hW (X₁.named hnamed) (hpre vm₁ X₁.warmed) with ⟨v, B, X', hpost, hsteps⟩ | ⟨q, B, X', hpost, hsteps⟩
  · exact Or.inl ⟨v, vm₁, B, X₁.warmed, X', hpost, fun target h => hstep₁ _ fun acts => by rw [doInvoke_state]; exact hsteps.trans h⟩
  · exact Or.inr ⟨q, vm₁, B, X₁.warmed, X', hpost, hstep₁ _ fun acts => by rw [doInvoke_state]; exact hsteps⟩
theorem vx_callVW (X : Stand p l e R s m args below meth c T locs cells slots) (hexec : p.tables.exec = Jvm.exec) {own C : String} {index : Nat} {y : MethodName} {bytes : ByteArray} {maxL : Nat} {ret : Option FieldType} {hh : List (Nat × Nat × Nat × Nat)}
    (hown : s.vm.findClass own = some m.cls) (hlink : (Cond.methodLink own index y).before args s = true) (hinst : (Cond.instanceMethod y).before args s = true) (hsel : (Cond.selects C y y).before args s = true)
    (hcode : (Cond.codeWith y bytes maxL ret hh).before args s = true) (hy : y.cls ≠ "java/lang/invoke/MethodHandle" ∧ y.cls ≠ "java/lang/invoke/VarHandle")
    {W9 : Nat} {Pre : Pt → Array Value → Prop} {Post : Pt → Array Value → Option Value → Pt → Prop} (hK : Back l R p e below s args y 3 W9 Pre Post)
    {b : Addr} {cellB : Cell} (hcell : T.heap[b]? = some cellB) (hobj : cellB.vm.isStatics = false) (hcls : s.vm.findClass C = some cellB.cls)
    {g : JFrame} (hg : g.method = m) (hsize : g.locals.size = c.maxLocals) {argsL rest : List Value} (hlen : ∀ sig, parseMethodDescriptor y.desc = some sig → argsL.length = sig.parameters.length)
    (hstack : g.stack = argsL.reverse ++ .ref b :: rest) (hW : 2 * g.monitorRoom + (rest.map fun v => v.category).sum ≤ W9) (hdg : decode c.code g.pc = .ok (.invokevirtual index, 3))
    (hpre : ∀ vm₁, s.WarmedH vm₁ → Pre ⟨T.setVm vm₁, locs, cells, slots⟩ (Value.ref b :: argsL).toArray) :
    ∃ (v : Option Value) (vm₁ : Vm) (B : Pt), s.WarmedH vm₁ ∧ Stand p l e R s m args below meth c B.U B.locs B.cells B.slots ∧ Post ⟨T.setVm vm₁, locs, cells, slots⟩ (Value.ref b :: argsL).toArray v B ∧
      ∀ target, Steps p.tables e below (B.U.setTop { g with pc := g.pc + 3, stack := v.toList ++ rest }) target → Steps p.tables e below (T.setTop g) target := by
  obtain ⟨mk, methM, hnamed, hmethM, hstM, habM⟩ := Cond.instanceMethod_spec hinst
  obtain ⟨m8, methM', cM, hn8, hmethM', -, -, -, -, -, -, hsigM⟩ := Cond.codeWith_spec hcode
  cases Option.some.inj (hn8.symm.trans hnamed)
  cases hmethM.symm.trans hmethM'
  obtain ⟨c2, r2, m2, q1, q2, q3, q4, kP, hkP, hkPi⟩ := Cond.selects_spec hsel
  cases hcls.symm.trans q1
  cases (State.methodFound?_of_named hnamed hy).symm.trans q2
  cases hnamed.symm.trans q3
  have hselP : selectMethod e.platform s.vm cellB.cls mk = .method mk := by rw [Launch.admits_selectMethod X.admits]; exact q4
  obtain ⟨vm₁, X₁, hstep₁⟩ := X.invokevirtual hexec hown hlink hnamed hmethM hstM hkP hkPi hy (a := b) (cell := cellB) hcell
    (fun z h => by rw [h] at hobj; cases hobj) hselP hmethM habM hkP hkPi (g := g) hg (argsL := argsL) (rest := rest) (hlen _ hsigM) hstack hdg
  obtain ⟨v, B, X', hpost, hsteps⟩ := hK m meth c ⟨T.setVm vm₁, locs, cells, slots⟩ { g with stack := rest } (.invokevirtual index) mk (Value.ref b :: argsL).toArray X₁ hg hsize hdg hW (X₁.named hnamed) (hpre vm₁ X₁.warmed)
  exact ⟨v, vm₁, B, X₁.warmed, X', hpost, fun target h => hstep₁ _ fun acts => by rw [doInvoke_state]; exact hsteps.trans h⟩
abbrev vx_CVW (R : Room) (s : State) (args : Array Value) (own C : String) (index : Nat) (y : MethodName) (bytes : ByteArray) (maxL : Nat) (ret : Option FieldType) (hh : List (Nat × Nat × Nat × Nat)) (ws : List Cond) (rm : Room) (mc ms n : Nat) : Prop :=
  (rm.cells = mc ∧ rm.slots = ms ∧ rm.frames + 1 ≤ R.frames ∧ 8 + (maxL + 11) + rm.locals ≤ R.locals ∧ (∀ w ∈ ws, ∀ (a' : Array Value) (U : State), s.WarmedH U.vm → w.before a' U = true) ∧ Cond.codeWith y bytes maxL ret hh ∈ ws) ∧
  (Cond.codeWith y bytes maxL ret hh).before args s = true ∧ (Cond.initialized y.cls).before args s = true ∧ (y.cls ≠ "java/lang/invoke/MethodHandle" ∧ y.cls ≠ "java/lang/invoke/VarHandle") ∧
  (∀ sig, parseMethodDescriptor y.desc = some sig → n = sig.parameters.length) ∧ (Cond.methodLink own index y).before args s = true ∧ (Cond.instanceMethod y).before args s = true ∧ (Cond.selects C y y).before args s = true
theorem vx_cwVW {own C : String} {index maxL mc ms : Nat} {y : MethodName} {bytes : ByteArray} {ret : Option FieldType} {hh : List (Nat × Nat × Nat × Nat)} {Ts ws ws' : List Cond} {rm : Room} (n : Nat) (ht : ∀ w ∈ Ts, w.before args s = true) (hT : GoodIn Ts (wsV own index C y ws)) (hw : ws = Cond.codeWith y bytes maxL ret hh :: ws') (hrc : rm.cells = mc) (hrs : rm.slots = ms)
    (hd : y.cls = C ∧ y.cls ≠ "java/lang/invoke/MethodHandle" ∧ y.cls ≠ "java/lang/invoke/VarHandle" ∧ (parseMethodDescriptor y.desc).map (fun d => d.parameters.length) = some n) (hR : rm.frames + 1 ≤ R.frames ∧ 8 + (maxL + 11) + rm.locals ≤ R.locals) :
    vx_CVW R s args own C index y bytes maxL ret hh ws rm mc ms n := by
  obtain ⟨hC, hd⟩ := hd
  subst hC
  have ok : ∀ w ∈ wsV own index y.cls y ws, w.before args s = true := fun w h => ht w (hT w h).1
  have hG : GoodIn Ts ws := fun w h => hT w (by unfold wsV; exact List.mem_append_right _ h)
  have hc : Cond.codeWith y bytes maxL ret hh ∈ ws := by rw [hw]; exact List.mem_cons_self
  refine ⟨⟨hrc, hrs, hR.1, hR.2, pay_in ht hG, hc⟩, ht _ (hG _ hc).1, ok _ (by simp [wsV]), ⟨hd.1, hd.2.1⟩, fun sig h => ?_, ok _ (by simp [wsV]), ok _ (by simp [wsV]), ok _ (by simp [wsV])⟩
  have h2 := hd.2.2
  rw [h] at h2
  exact (Option.some.inj h2).symm
theorem vx_runVW {y : MethodName} {bytes cc : ByteArray} {maxL nL mc ms n index : Nat} {ret : Option FieldType} {hh : List (Nat × Nat × Nat × Nat)} {ws : List Cond} {rm : Room} {Pc : Array Value → State → Prop} {Qc : Array Value → State → Outcome → State → Prop} {free : Addr → Prop} {Ts : List Cond} {own C : String} {b : Addr} {As rest : List Value} {g : JFrame}
    (S : CallFix p m c cc nL s args Ts own) (hM : Met l y ws rm Pc Qc mc ms free) (cw : vx_CVW R s args own C index y bytes maxL ret hh ws rm mc ms n) (hp : PreV s H C b Pc As)
    (hg : g.method = m) (hn : As.length = n) (hsize : g.locals.size = nL) (hstack : g.stack = As.reverse ++ .ref b :: rest) (hW : 2 * g.monitorRoom + (rest.map fun v => v.category).sum ≤ 8) (hdg : decode cc g.pc = .ok (.invokevirtual index, 3)) (hf : cells + mc ≤ R.cells ∧ slots + ms ≤ R.slots) :
    va_Run p l e R s m args below meth c H locs cells slots mc ms g rest (Qc (Value.ref b :: As).toArray) free := by
  obtain ⟨⟨hrc, hrs, hfr, hlo, hws, hcw⟩, hcode, hini, hy, hlen, hl, hin, hse⟩ := cw
  have hK : Back l R p e below s args y 3 8 (PreOf R mc ms Pc) (PostOf Qc mc ms free) := va_backW (hh := hh) (bytes := bytes) (maxL := maxL) (ret := ret) hM hp.1 hrc hrs hfr hlo hws hcw (fun a' U hW => word_at hW (Or.inl (by first | rfl | simp [Cond.onTables, Cond.keeps, Cond.steady])) hini)
  obtain ⟨hx, hb, hml, ho, -⟩ := S
  obtain ⟨-, ⟨cellB, hcB, hoB, hclB⟩, hPc⟩ := hp
  intro T hT X
  obtain ⟨v, vm₁, ⟨U', l2, c2, s2⟩, hW₁, X', ⟨g', mk, t, L, e1, e2, hq, h1, hL, h2, h3⟩, st⟩ := vx_callVW X hx (C := C) (hh := hh) (bytes := bytes) (maxL := maxL) (ret := ret) ho hl hin hse hcode hy hK (by rw [hT]; exact hcB) hoB hclB hg (hsize.trans hml.symm) (argsL := As) (rest := rest) (fun sig h => hn.trans (hlen sig h)) hstack hW (by rw [hb]; exact hdg)
    (fun vm₁ hW₁ => ⟨hf.1, hf.2, hPc (T.setVm vm₁) hT hW₁⟩)
  dsimp only [Pt.U, Pt.locs, Pt.cells, Pt.slots] at X' e1 e2 h1 h2 h3 st
  subst h1; subst h2; subst h3
  exact ⟨v, (T.setVm vm₁).calling g' mk (Value.ref b :: As).toArray, t, U', L, hT, X', hL, e1, e2, hq, st⟩
section
variable {y : MethodName} {bytes cc : ByteArray} {maxL nL mc ms n index : Nat} {ret : Option FieldType} {ws : List Cond} {rm : Room} {Pc : Array Value → State → Prop} {Qc : Array Value → State → Outcome → State → Prop} {XC : String → State → State → Prop} {free : Addr → Prop} {Ts : List Cond} {own C : String} {b : Addr} {As rest : List Value} {g : JFrame}
theorem vx_runVX {hh : List (Nat × Nat × Nat × Nat)} (S : CallFix p m c cc nL s args Ts own) (hM : vx_Met l y ws rm Pc Qc XC mc ms free) (cw : vx_CVW R s args own C index y bytes maxL ret hh ws rm mc ms n) (hp : PreV s H C b Pc As)
    (hg : g.method = m) (hn : As.length = n) (hsize : g.locals.size = nL) (hstack : g.stack = As.reverse ++ .ref b :: rest) (hW : 2 * g.monitorRoom + (rest.map fun v => v.category).sum ≤ 8) (hdg : decode cc g.pc = .ok (.invokevirtual index, 3)) (hf : cells + mc ≤ R.cells ∧ slots + ms ≤ R.slots) :
    vx_Run p l e R s m args below meth c H locs cells slots mc ms g rest (Qc (Value.ref b :: As).toArray) XC free := by
  obtain ⟨⟨hrc, hrs, hfr, hlo, hws, hcw⟩, hcode, hini, hy, hlen, hl, hin, hse⟩ := cw
  have hK : vx_Back l R p e below s args y 3 8 (PreOf R mc ms Pc) (PostOf Qc mc ms free) (vx_Post XC mc ms free) := vx_backW (hh := hh) (bytes := bytes) (maxL := maxL) (ret := ret) hM hp.1 hrc hrs hfr hlo hws hcw (fun a' U hW => word_at hW (Or.inl (by first | rfl | simp [Cond.onTables, Cond.keeps, Cond.steady])) hini)
  obtain ⟨hx, hb, hml, ho, -⟩ := S
  obtain ⟨-, ⟨cellB, hcB, hoB, hclB⟩, hPc⟩ := hp
  intro T hT X
  rcases vx_callVX X hx (C := C) (hh := hh) (bytes := bytes) (maxL := maxL) (ret := ret) ho hl hin hse hcode hy hK (by rw [hT]; exact hcB) hoB hclB hg (hsize.trans hml.symm) (argsL := As) (rest := rest) (fun sig h => hn.trans (hlen sig h)) hstack hW (by rw [hb]; exact hdg)
    (fun vm₁ hW₁ => ⟨hf.1, hf.2, hPc (T.setVm vm₁) hT hW₁⟩) with ⟨v, vm₁, ⟨U', l2, c2, s2⟩, hW₁, X', ⟨g', mk, t, L, e1, e2, hq, h1, hL, h2, h3⟩, st⟩ | ⟨q, vm₁, ⟨U', l2, c2, s2⟩, hW₁, X', ⟨g', mk, t, L, E, ce, e1, e2, hq, hce, hcv, hcl, h1, hL, h2, h3⟩, st⟩
  · dsimp only [Pt.U, Pt.locs, Pt.cells, Pt.slots] at X' e1 e2 h1 h2 h3 st
    subst h1; subst h2; subst h3
    exact Or.inl ⟨v, (T.setVm vm₁).calling g' mk (Value.ref b :: As).toArray, t, U', L, hT, X', hL, e1, e2, hq, st⟩
  · dsimp only [Pt.U, Pt.locs, Pt.cells, Pt.slots] at X' e1 e2 h1 h2 h3 st hcl
    subst h1; subst h2; subst h3
    exact Or.inr ⟨q, (T.setVm vm₁).calling g' mk (Value.ref b :: As).toArray, t, U', L, E, ce, hT, X', hL, e1, e2, hq, hce, hcv, vx_cls hW₁ hcl, st⟩
theorem vx_runSX {hh : List (Nat × Nat × Nat × Nat)} (S : CallFix p m c cc nL s args Ts own) (hM : vx_Met l y ws rm Pc Qc XC mc ms free) (cw : vx_CSW R s args own index y bytes maxL ret hh ws rm mc ms n) (hp : PreS s H Pc As)
    (hg : g.method = m) (hn : As.length = n) (hsize : g.locals.size = nL) (hstack : g.stack = As.reverse ++ rest) (hW : 2 * g.monitorRoom + (rest.map fun v => v.category).sum ≤ 8) (hdg : decode cc g.pc = .ok (.invokestatic index, 3)) (hf : cells + mc ≤ R.cells ∧ slots + ms ≤ R.slots) :
    vx_Run p l e R s m args below meth c H locs cells slots mc ms g rest (Qc As.toArray) XC free := by
  obtain ⟨⟨hrc, hrs, hfr, hlo, hws, hcw⟩, hcode, hini, hy, hlen, hl, hstt⟩ := cw
  have hK : vx_Back l R p e below s args y 3 8 (PreOf R mc ms Pc) (PostOf Qc mc ms free) (vx_Post XC mc ms free) := vx_backW (hh := hh) (bytes := bytes) (maxL := maxL) (ret := ret) hM hp.1 hrc hrs hfr hlo hws hcw (fun a' U hW => word_at hW (Or.inl (by first | rfl | simp [Cond.onTables, Cond.keeps, Cond.steady])) hini)
  obtain ⟨hx, hb, hml, ho, -⟩ := S
  intro T hT X
  rcases vx_callSX X hx (hh := hh) (bytes := bytes) (maxL := maxL) (ret := ret) ho hl hstt hini hcode hy hK hg (hsize.trans hml.symm) (argsL := As) (rest := rest) (fun sig h => hn.trans (hlen sig h)) hstack hW (by rw [hb]; exact hdg)
    (fun vm₁ hW₁ => ⟨hf.1, hf.2, hp.2 (T.setVm vm₁) hT hW₁⟩) with ⟨v, vm₁, ⟨U', l2, c2, s2⟩, hW₁, X', ⟨g', mk, t, L, e1, e2, hq, h1, hL, h2, h3⟩, st⟩ | ⟨q, vm₁, ⟨U', l2, c2, s2⟩, hW₁, X', ⟨g', mk, t, L, E, ce, e1, e2, hq, hce, hcv, hcl, h1, hL, h2, h3⟩, st⟩
  · dsimp only [Pt.U, Pt.locs, Pt.cells, Pt.slots] at X' e1 e2 h1 h2 h3 st
    subst h1; subst h2; subst h3
    exact Or.inl ⟨v, (T.setVm vm₁).calling g' mk As.toArray, t, U', L, hT, X', hL, e1, e2, hq, st⟩
  · dsimp only [Pt.U, Pt.locs, Pt.cells, Pt.slots] at X' e1 e2 h1 h2 h3 st hcl
    subst h1; subst h2; subst h3
    exact Or.inr ⟨q, (T.setVm vm₁).calling g' mk As.toArray, t, U', L, E, ce, hT, X', hL, e1, e2, hq, hce, hcv, vx_cls hW₁ hcl, st⟩
end
end VXH
theorem vx_ofWH {l : Launch} {y : MethodName} {ws ws' : List Cond} {rm : Room} {Pc : Array Value → State → Prop} {Qc : Array Value → State → Outcome → State → Prop} {XC : String → State → State → Prop} {mc ms : Nat} {free : Addr → Prop} {cc : ByteArray} {maxL : Nat} {ret : Option FieldType} {hh : List (Nat × Nat × Nat × Nat)}
    (hy : plainName y.cls = true) (hw : ws = Cond.codeWith y cc maxL ret hh :: ws')
    (body : ∀ p e s m args below meth c s₁, BodyLoose p l y (headSpec ws rm) cc maxL ret e s m args below meth c s₁ → c.maxLocals = maxL → Pc args s →
      W p l e (headSpec ws rm).room s m args below meth c s.heap [] 0 0 (vx_MQ below Qc XC args s mc ms free) (entryFrame m args maxL)) : vx_Met l y ws rm Pc Qc XC mc ms free := by
  refine MetFree.of_bodyS (code := cc) (maxLocals := maxL) (ret := ret) hy ?_ ?_
  · intro args s m h hn
    obtain ⟨m9, meth, c, hn9, h1, h2, h3, h4, -, h5, h6, -⟩ := Cond.codeWith_spec (atoms_spec (ws := ws) h _ (by rw [hw]; exact List.mem_cons_self))
    cases hn.symm.trans hn9
    exact ⟨meth, c, h1, h2, h3, h4, h5, h6⟩
  · intro p e s m args below meth c s₁ B hml hP _
    have hh0 : s₁.heap = s.heap := by rw [B.state]; rfl
    obtain ⟨t, a1, o, b1, b2, b3⟩ := body p e s m args below meth c s₁ B hml hP s₁ hh0 (Stand.of_body B)
    exact ⟨t, o, a1, b1, b2, b3⟩
/-! ===== END ===== -/
end
section
def RX0 : String := "RoadOracle$Hierarchy"
def TX0 : u_T := fun k => match k with
  | 0 => ("RoadOracle$Hierarchy", "network", "LRoadOracle$Network;", true)
  | 1 => ("RoadOracle$Hierarchy", "built", "Z", false)
  | 2 => ("RoadOracle$Hierarchy", "roads", "I", false)
  | 3 => ("RoadOracle$Hierarchy", "arcs", "I", false)
  | 4 => ("RoadOracle$Hierarchy", "shortcuts", "I", false)
  | 5 => ("RoadOracle$Hierarchy", "positions", "[I", true)
  | 6 => ("RoadOracle$Hierarchy", "order", "[I", true)
  | 7 => ("RoadOracle$Hierarchy", "lower", "[J", true)
  | 8 => ("RoadOracle$Hierarchy", "heads", "[J", true)
  | 9 => ("RoadOracle$Hierarchy", "tails", "[J", true)
  | 10 => ("RoadOracle$Hierarchy", "lengths", "[I", true)
  | 11 => ("RoadOracle$Hierarchy", "steps", "[I", true)
  | 12 => ("RoadOracle$Hierarchy", "staleHeads", "[J", true)
  | _ => ("RoadOracle$Hierarchy", "staleTails", "[J", true)
def tyX0 : Nat → FieldType := fun k => match k with
  | 0 => .object "RoadOracle$Network"
  | 1 => .boolean
  | 2 => .int
  | 3 => .int
  | 4 => .int
  | 5 => .array .int
  | 6 => .array .int
  | 7 => .array .long
  | 8 => .array .long
  | 9 => .array .long
  | 10 => .array .int
  | 11 => .array .int
  | 12 => .array .long
  | _ => .array .long
abbrev wsX00 : List Cond := u_ws RX0 TX0 14
theorem nmX0 : ∀ a, a < 14 → ∀ b, b < 14 → a ≠ b → (TX0 a).2.1 ≠ (TX0 b).2.1 := by decide +kernel
theorem tyX0_ok : ∀ k, k < 14 → parseFieldDescriptor (TX0 k).2.2.1 = some (tyX0 k) := by decide +kernel
abbrev cX0_init : ByteArray := prog_2_method_1_code
def yX0_init : MethodName := ⟨RX0, "<init>", "(LRoadOracle$Network;)V"⟩
abbrev cX0_build : ByteArray := prog_2_method_2_code
def yX0_build : MethodName := ⟨RX0, "build", "()V"⟩
abbrev cX0_linkTurns : ByteArray := prog_2_method_3_code
def yX0_linkTurns : MethodName := ⟨RX0, "linkTurns", "()I"⟩
abbrev cX0_cheapest : ByteArray := prog_2_method_4_code
def yX0_cheapest : MethodName := ⟨RX0, "cheapest", "(J)I"⟩
abbrev cX0_bridge : ByteArray := prog_2_method_5_code
def yX0_bridge : MethodName := ⟨RX0, "bridge", "(JJ)V"⟩
abbrev cX0_renewRoad : ByteArray := prog_2_method_6_code
def yX0_renewRoad : MethodName := ⟨RX0, "renewRoad", "(I)I"⟩
abbrev cX0_renewTurn : ByteArray := prog_2_method_7_code
def yX0_renewTurn : MethodName := ⟨RX0, "renewTurn", "(II)I"⟩
abbrev cX0_renewAll : ByteArray := prog_2_method_8_code
def yX0_renewAll : MethodName := ⟨RX0, "renewAll", "()I"⟩
abbrev cX0_renewSteps : ByteArray := prog_2_method_9_code
def yX0_renewSteps : MethodName := ⟨RX0, "renewSteps", "(JJ)V"⟩
abbrev cX0_markHeads : ByteArray := prog_2_method_10_code
def yX0_markHeads : MethodName := ⟨RX0, "markHeads", "(IJ)V"⟩
abbrev cX0_markTails : ByteArray := prog_2_method_11_code
def yX0_markTails : MethodName := ⟨RX0, "markTails", "(JI)V"⟩
abbrev cX0_settle : ByteArray := prog_2_method_12_code
def yX0_settle : MethodName := ⟨RX0, "settle", "()I"⟩
abbrev cX0_settleArc : ByteArray := prog_2_method_13_code
def yX0_settleArc : MethodName := ⟨RX0, "settleArc", "(II)I"⟩
abbrev cX0_markAbove : ByteArray := prog_2_method_14_code
def yX0_markAbove : MethodName := ⟨RX0, "markAbove", "(II)V"⟩
abbrev cX0_computeArc : ByteArray := prog_2_method_15_code
def yX0_computeArc : MethodName := ⟨RX0, "computeArc", "(II)I"⟩
abbrev cX0_spreadForward : ByteArray := prog_2_method_16_code
def yX0_spreadForward : MethodName := ⟨RX0, "spreadForward", "([I)V"⟩
abbrev cX0_passOn : ByteArray := prog_2_method_17_code
def yX0_passOn : MethodName := ⟨RX0, "passOn", "([IIJ)V"⟩
abbrev cX0_spreadBackward : ByteArray := prog_2_method_18_code
def yX0_spreadBackward : MethodName := ⟨RX0, "spreadBackward", "([I)V"⟩
abbrev cX0_passBack : ByteArray := prog_2_method_19_code
def yX0_passBack : MethodName := ⟨RX0, "passBack", "([IIJ)V"⟩
abbrev cX0_addArcs : ByteArray := prog_2_method_20_code
def yX0_addArcs : MethodName := ⟨RX0, "addArcs", "(J)J"⟩
def RX1 : String := "RoadOracle$Levels"
def TX1 : u_T := fun k => match k with
  | 0 => ("RoadOracle$Levels", "count", "I", false)
  | 1 => ("RoadOracle$Levels", "roads", "[I", true)
  | 2 => ("RoadOracle$Levels", "weights", "[I", true)
  | 3 => ("RoadOracle$Levels", "settings", "[I", true)
  | 4 => ("RoadOracle$Levels", "openRoads", "[J", true)
  | _ => ("RoadOracle$Levels", "uTurns", "[I", true)
def tyX1 : Nat → FieldType := fun k => match k with
  | 0 => .int
  | 1 => .array .int
  | 2 => .array .int
  | 3 => .array .int
  | 4 => .array .long
  | _ => .array .int
abbrev wsX10 : List Cond := u_ws RX1 TX1 6
theorem nmX1 : ∀ a, a < 6 → ∀ b, b < 6 → a ≠ b → (TX1 a).2.1 ≠ (TX1 b).2.1 := by decide +kernel
theorem tyX1_ok : ∀ k, k < 6 → parseFieldDescriptor (TX1 k).2.2.1 = some (tyX1 k) := by decide +kernel
abbrev cX1_init : ByteArray := prog_3_method_1_code
def yX1_init : MethodName := ⟨RX1, "<init>", "()V"⟩
abbrev cX1_store : ByteArray := prog_3_method_2_code
def yX1_store : MethodName := ⟨RX1, "store", "(LRoadOracle$Network;)V"⟩
abbrev cX1_restore : ByteArray := prog_3_method_3_code
def yX1_restore : MethodName := ⟨RX1, "restore", "(LRoadOracle$Network;)V"⟩
def RX2 : String := "RoadOracle$Network"
def TX2 : u_T := fun k => match k with
  | 0 => ("RoadOracle$Network", "junctions", "I", false)
  | 1 => ("RoadOracle$Network", "roads", "I", false)
  | 2 => ("RoadOracle$Network", "begin", "[I", true)
  | 3 => ("RoadOracle$Network", "end", "[I", true)
  | 4 => ("RoadOracle$Network", "weights", "[I", true)
  | 5 => ("RoadOracle$Network", "settings", "[I", true)
  | 6 => ("RoadOracle$Network", "beginning", "[J", true)
  | 7 => ("RoadOracle$Network", "ending", "[J", true)
  | 8 => ("RoadOracle$Network", "openRoads", "J", false)
  | _ => ("RoadOracle$Network", "uTurn", "I", false)
def tyX2 : Nat → FieldType := fun k => match k with
  | 0 => .int
  | 1 => .int
  | 2 => .array .int
  | 3 => .array .int
  | 4 => .array .int
  | 5 => .array .int
  | 6 => .array .long
  | 7 => .array .long
  | 8 => .long
  | _ => .int
abbrev wsX20 : List Cond := u_ws RX2 TX2 10
theorem nmX2 : ∀ a, a < 10 → ∀ b, b < 10 → a ≠ b → (TX2 a).2.1 ≠ (TX2 b).2.1 := by decide +kernel
theorem tyX2_ok : ∀ k, k < 10 → parseFieldDescriptor (TX2 k).2.2.1 = some (tyX2 k) := by decide +kernel
abbrev cX2_init : ByteArray := prog_4_method_1_code
def yX2_init : MethodName := ⟨RX2, "<init>", "()V"⟩
abbrev cX2_append : ByteArray := prog_4_method_2_code
def yX2_append : MethodName := ⟨RX2, "append", "(III)I"⟩
abbrev cX2_allRoads : ByteArray := prog_4_method_3_code
def yX2_allRoads : MethodName := ⟨RX2, "allRoads", "()J"⟩
abbrev cX2_followersOf : ByteArray := prog_4_method_4_code
def yX2_followersOf : MethodName := ⟨RX2, "followersOf", "(I)J"⟩
abbrev cX2_forerunnersOf : ByteArray := prog_4_method_5_code
def yX2_forerunnersOf : MethodName := ⟨RX2, "forerunnersOf", "(I)J"⟩
abbrev cX2_penaltyOf : ByteArray := prog_4_method_6_code
def yX2_penaltyOf : MethodName := ⟨RX2, "penaltyOf", "(II)I"⟩
abbrev cX2_roadLength : ByteArray := prog_4_method_7_code
def yX2_roadLength : MethodName := ⟨RX2, "roadLength", "(I)I"⟩
abbrev cX2_stepLength : ByteArray := prog_4_method_8_code
def yX2_stepLength : MethodName := ⟨RX2, "stepLength", "(II)I"⟩
def RX3 : String := "RoadOracle"
def TX3 : u_T := fun k => match k with
  | 0 => ("RoadOracle", "network", "LRoadOracle$Network;", true)
  | 1 => ("RoadOracle", "hierarchy", "LRoadOracle$Hierarchy;", true)
  | 2 => ("RoadOracle", "levels", "LRoadOracle$Levels;", true)
  | 3 => ("RoadOracle", "places", "[Z", true)
  | 4 => ("RoadOracle", "lengths", "[I", true)
  | 5 => ("RoadOracle", "pathRoads", "[I", true)
  | 6 => ("RoadOracle", "pathLength", "I", false)
  | 7 => ("RoadOracle", "pathCost", "I", false)
  | 8 => ("RoadOracle", "reachedJunctions", "[I", true)
  | 9 => ("RoadOracle", "reachedCosts", "[I", true)
  | _ => ("RoadOracle", "reachedCount", "I", false)
def tyX3 : Nat → FieldType := fun k => match k with
  | 0 => .object "RoadOracle$Network"
  | 1 => .object "RoadOracle$Hierarchy"
  | 2 => .object "RoadOracle$Levels"
  | 3 => .array .boolean
  | 4 => .array .int
  | 5 => .array .int
  | 6 => .int
  | 7 => .int
  | 8 => .array .int
  | 9 => .array .int
  | _ => .int
abbrev wsX30 : List Cond := u_ws RX3 TX3 11
theorem nmX3 : ∀ a, a < 11 → ∀ b, b < 11 → a ≠ b → (TX3 a).2.1 ≠ (TX3 b).2.1 := by decide +kernel
theorem tyX3_ok : ∀ k, k < 11 → parseFieldDescriptor (TX3 k).2.2.1 = some (tyX3 k) := by decide +kernel
abbrev cX3_init : ByteArray := prog_1_method_1_code
def yX3_init : MethodName := ⟨RX3, "<init>", "()V"⟩
abbrev cX3_addJunction : ByteArray := prog_1_method_2_code
def yX3_addJunction : MethodName := ⟨RX3, "addJunction", "()I"⟩
abbrev cX3_addRoad : ByteArray := prog_1_method_3_code
def yX3_addRoad : MethodName := ⟨RX3, "addRoad", "(III)I"⟩
abbrev cX3_setWeight : ByteArray := prog_1_method_4_code
def yX3_setWeight : MethodName := ⟨RX3, "setWeight", "(II)I"⟩
abbrev cX3_setOpen : ByteArray := prog_1_method_5_code
def yX3_setOpen : MethodName := ⟨RX3, "setOpen", "(IZ)I"⟩
abbrev cX3_setTurn : ByteArray := prog_1_method_6_code
def yX3_setTurn : MethodName := ⟨RX3, "setTurn", "(III)I"⟩
abbrev cX3_setUTurn : ByteArray := prog_1_method_7_code
def yX3_setUTurn : MethodName := ⟨RX3, "setUTurn", "(I)I"⟩
abbrev cX3_junctionCount : ByteArray := prog_1_method_8_code
def yX3_junctionCount : MethodName := ⟨RX3, "junctionCount", "()I"⟩
abbrev cX3_roadCount : ByteArray := prog_1_method_9_code
def yX3_roadCount : MethodName := ⟨RX3, "roadCount", "()I"⟩
abbrev cX3_weight : ByteArray := prog_1_method_10_code
def yX3_weight : MethodName := ⟨RX3, "weight", "(I)I"⟩
abbrev cX3_isOpen : ByteArray := prog_1_method_11_code
def yX3_isOpen : MethodName := ⟨RX3, "isOpen", "(I)Z"⟩
abbrev cX3_turnPenalty : ByteArray := prog_1_method_12_code
def yX3_turnPenalty : MethodName := ⟨RX3, "turnPenalty", "(II)I"⟩
abbrev cX3_prepare : ByteArray := prog_1_method_13_code
def yX3_prepare : MethodName := ⟨RX3, "prepare", "()I"⟩
abbrev cX3_isPrepared : ByteArray := prog_1_method_14_code
def yX3_isPrepared : MethodName := ⟨RX3, "isPrepared", "()Z"⟩
abbrev cX3_position : ByteArray := prog_1_method_15_code
def yX3_position : MethodName := ⟨RX3, "position", "(I)I"⟩
abbrev cX3_arcCount : ByteArray := prog_1_method_16_code
def yX3_arcCount : MethodName := ⟨RX3, "arcCount", "()I"⟩
abbrev cX3_hasArc : ByteArray := prog_1_method_17_code
def yX3_hasArc : MethodName := ⟨RX3, "hasArc", "(II)Z"⟩
abbrev cX3_arcCost : ByteArray := prog_1_method_18_code
def yX3_arcCost : MethodName := ⟨RX3, "arcCost", "(II)I"⟩
abbrev cX3_distance : ByteArray := prog_1_method_19_code
def yX3_distance : MethodName := ⟨RX3, "distance", "(II)I"⟩
abbrev cX3_distanceBehind : ByteArray := prog_1_method_20_code
def yX3_distanceBehind : MethodName := ⟨RX3, "distanceBehind", "(II)I"⟩
abbrev cX3_route : ByteArray := prog_1_method_21_code
def yX3_route : MethodName := ⟨RX3, "route", "(II)I"⟩
abbrev cX3_routeRoad : ByteArray := prog_1_method_22_code
def yX3_routeRoad : MethodName := ⟨RX3, "routeRoad", "(I)I"⟩
abbrev cX3_routeCost : ByteArray := prog_1_method_23_code
def yX3_routeCost : MethodName := ⟨RX3, "routeCost", "()I"⟩
abbrev cX3_reach : ByteArray := prog_1_method_24_code
def yX3_reach : MethodName := ⟨RX3, "reach", "(II)I"⟩
abbrev cX3_reached : ByteArray := prog_1_method_25_code
def yX3_reached : MethodName := ⟨RX3, "reached", "(I)I"⟩
abbrev cX3_averageDistance : ByteArray := prog_1_method_26_code
def yX3_averageDistance : MethodName := ⟨RX3, "averageDistance", "(I)D"⟩
abbrev cX3_detour : ByteArray := prog_1_method_27_code
def yX3_detour : MethodName := ⟨RX3, "detour", "(III)I"⟩
abbrev cX3_setPlace : ByteArray := prog_1_method_28_code
def yX3_setPlace : MethodName := ⟨RX3, "setPlace", "(IIZ)Z"⟩
abbrev cX3_nearest : ByteArray := prog_1_method_29_code
def yX3_nearest : MethodName := ⟨RX3, "nearest", "(II)I"⟩
abbrev cX3_push : ByteArray := prog_1_method_30_code
def yX3_push : MethodName := ⟨RX3, "push", "()I"⟩
abbrev cX3_pop : ByteArray := prog_1_method_31_code
def yX3_pop : MethodName := ⟨RX3, "pop", "()I"⟩
abbrev cX3_digest : ByteArray := prog_1_method_32_code
def yX3_digest : MethodName := ⟨RX3, "digest", "()J"⟩
abbrev cX3_requireJunction : ByteArray := prog_1_method_33_code
def yX3_requireJunction : MethodName := ⟨RX3, "requireJunction", "(I)V"⟩
abbrev cX3_requireRoad : ByteArray := prog_1_method_34_code
def yX3_requireRoad : MethodName := ⟨RX3, "requireRoad", "(I)V"⟩
abbrev cX3_requireTurn : ByteArray := prog_1_method_35_code
def yX3_requireTurn : MethodName := ⟨RX3, "requireTurn", "(II)V"⟩
abbrev cX3_requireKind : ByteArray := prog_1_method_36_code
def yX3_requireKind : MethodName := ⟨RX3, "requireKind", "(I)V"⟩
abbrev cX3_requireWeight : ByteArray := prog_1_method_37_code
def yX3_requireWeight : MethodName := ⟨RX3, "requireWeight", "(I)V"⟩
abbrev cX3_requireHierarchy : ByteArray := prog_1_method_38_code
def yX3_requireHierarchy : MethodName := ⟨RX3, "requireHierarchy", "()V"⟩
abbrev cX3_openOrClose : ByteArray := prog_1_method_39_code
def yX3_openOrClose : MethodName := ⟨RX3, "openOrClose", "(IZ)I"⟩
abbrev cX3_searchFrom : ByteArray := prog_1_method_40_code
def yX3_searchFrom : MethodName := ⟨RX3, "searchFrom", "(I)V"⟩
abbrev cX3_searchTo : ByteArray := prog_1_method_41_code
def yX3_searchTo : MethodName := ⟨RX3, "searchTo", "(I)V"⟩
abbrev cX3_leastAmong : ByteArray := prog_1_method_42_code
def yX3_leastAmong : MethodName := ⟨RX3, "leastAmong", "(J)I"⟩
abbrev cX3_foundCost : ByteArray := prog_1_method_43_code
def yX3_foundCost : MethodName := ⟨RX3, "foundCost", "(II)I"⟩
abbrev cX3_costBetween : ByteArray := prog_1_method_44_code
def yX3_costBetween : MethodName := ⟨RX3, "costBetween", "(II)I"⟩
abbrev cX3_bestFirstRoad : ByteArray := prog_1_method_45_code
def yX3_bestFirstRoad : MethodName := ⟨RX3, "bestFirstRoad", "(I)I"⟩
abbrev cX3_writePath : ByteArray := prog_1_method_46_code
def yX3_writePath : MethodName := ⟨RX3, "writePath", "(I)I"⟩
abbrev cX3_bestNextRoad : ByteArray := prog_1_method_47_code
def yX3_bestNextRoad : MethodName := ⟨RX3, "bestNextRoad", "(I)I"⟩
abbrev cX3_keepReached : ByteArray := prog_1_method_48_code
def yX3_keepReached : MethodName := ⟨RX3, "keepReached", "(II)V"⟩
abbrev cX3_costOf : ByteArray := prog_1_method_49_code
def yX3_costOf : MethodName := ⟨RX3, "costOf", "(I)I"⟩
abbrev cX3_pair : ByteArray := prog_1_method_50_code
def yX3_pair : MethodName := ⟨RX3, "pair", "(II)I"⟩
abbrev cX3_place : ByteArray := prog_1_method_51_code
def yX3_place : MethodName := ⟨RX3, "place", "(II)I"⟩
abbrev cX3_only : ByteArray := prog_1_method_52_code
def yX3_only : MethodName := ⟨RX3, "only", "(I)J"⟩
abbrev cX3_has : ByteArray := prog_1_method_53_code
def yX3_has : MethodName := ⟨RX3, "has", "(JI)Z"⟩
abbrev cX3_next : ByteArray := prog_1_method_54_code
def yX3_next : MethodName := ⟨RX3, "next", "(JI)I"⟩
def RX4 : String := "RoadOracleModel"
def TX4 : u_T := fun k => match k with
  | 0 => ("RoadOracleModel", "thrown", "I", false)
  | 1 => ("RoadOracleModel", "junctions", "I", false)
  | 2 => ("RoadOracleModel", "roads", "I", false)
  | 3 => ("RoadOracleModel", "froms", "[I", true)
  | 4 => ("RoadOracleModel", "tos", "[I", true)
  | 5 => ("RoadOracleModel", "weights", "[I", true)
  | 6 => ("RoadOracleModel", "areOpen", "[Z", true)
  | 7 => ("RoadOracleModel", "settings", "[I", true)
  | 8 => ("RoadOracleModel", "uTurn", "I", false)
  | 9 => ("RoadOracleModel", "isPrepared", "Z", false)
  | 10 => ("RoadOracleModel", "positions", "[I", true)
  | 11 => ("RoadOracleModel", "byPosition", "[I", true)
  | 12 => ("RoadOracleModel", "isArc", "[Z", true)
  | 13 => ("RoadOracleModel", "shortcuts", "I", false)
  | 14 => ("RoadOracleModel", "arcs", "I", false)
  | 15 => ("RoadOracleModel", "arcCosts", "[J", true)
  | 16 => ("RoadOracleModel", "costsBefore", "[J", true)
  | 17 => ("RoadOracleModel", "pairs", "[J", true)
  | 18 => ("RoadOracleModel", "isPlace", "[Z", true)
  | 19 => ("RoadOracleModel", "levels", "I", false)
  | 20 => ("RoadOracleModel", "levelRoads", "[I", true)
  | 21 => ("RoadOracleModel", "levelWeights", "[I", true)
  | 22 => ("RoadOracleModel", "levelOpen", "[Z", true)
  | 23 => ("RoadOracleModel", "levelSettings", "[I", true)
  | 24 => ("RoadOracleModel", "levelUTurns", "[I", true)
  | 25 => ("RoadOracleModel", "path", "[I", true)
  | 26 => ("RoadOracleModel", "pathLength", "I", false)
  | 27 => ("RoadOracleModel", "pathCost", "I", false)
  | 28 => ("RoadOracleModel", "near", "[I", true)
  | 29 => ("RoadOracleModel", "nearMany", "I", false)
  | 30 => ("RoadOracleModel", "behind", "[J", true)
  | _ => ("RoadOracleModel", "counts", "[I", true)
def tyX4 : Nat → FieldType := fun k => match k with
  | 0 => .int
  | 1 => .int
  | 2 => .int
  | 3 => .array .int
  | 4 => .array .int
  | 5 => .array .int
  | 6 => .array .boolean
  | 7 => .array .int
  | 8 => .int
  | 9 => .boolean
  | 10 => .array .int
  | 11 => .array .int
  | 12 => .array .boolean
  | 13 => .int
  | 14 => .int
  | 15 => .array .long
  | 16 => .array .long
  | 17 => .array .long
  | 18 => .array .boolean
  | 19 => .int
  | 20 => .array .int
  | 21 => .array .int
  | 22 => .array .boolean
  | 23 => .array .int
  | 24 => .array .int
  | 25 => .array .int
  | 26 => .int
  | 27 => .int
  | 28 => .array .int
  | 29 => .int
  | 30 => .array .long
  | _ => .array .int
abbrev wsX40 : List Cond := u_ws RX4 TX4 32
theorem nmX4 : ∀ a, a < 32 → ∀ b, b < 32 → a ≠ b → (TX4 a).2.1 ≠ (TX4 b).2.1 := by decide +kernel
theorem tyX4_ok : ∀ k, k < 32 → parseFieldDescriptor (TX4 k).2.2.1 = some (tyX4 k) := by decide +kernel
abbrev cX4_init : ByteArray := prog_6_method_1_code
def yX4_init : MethodName := ⟨RX4, "<init>", "()V"⟩
abbrev cX4_thrown : ByteArray := prog_6_method_2_code
def yX4_thrown : MethodName := ⟨RX4, "thrown", "()I"⟩
abbrev cX4_fail : ByteArray := prog_6_method_3_code
def yX4_fail : MethodName := ⟨RX4, "fail", "(I)I"⟩
abbrev cX4_isJunction : ByteArray := prog_6_method_4_code
def yX4_isJunction : MethodName := ⟨RX4, "isJunction", "(I)Z"⟩
abbrev cX4_isRoad : ByteArray := prog_6_method_5_code
def yX4_isRoad : MethodName := ⟨RX4, "isRoad", "(I)Z"⟩
abbrev cX4_follows : ByteArray := prog_6_method_6_code
def yX4_follows : MethodName := ⟨RX4, "follows", "(II)Z"⟩
abbrev cX4_addJunction : ByteArray := prog_6_method_7_code
def yX4_addJunction : MethodName := ⟨RX4, "addJunction", "()I"⟩
abbrev cX4_addRoad : ByteArray := prog_6_method_8_code
def yX4_addRoad : MethodName := ⟨RX4, "addRoad", "(III)I"⟩
abbrev cX4_penalty : ByteArray := prog_6_method_9_code
def yX4_penalty : MethodName := ⟨RX4, "penalty", "(II)I"⟩
abbrev cX4_step : ByteArray := prog_6_method_10_code
def yX4_step : MethodName := ⟨RX4, "step", "(II)J"⟩
abbrev cX4_setWeight : ByteArray := prog_6_method_11_code
def yX4_setWeight : MethodName := ⟨RX4, "setWeight", "(II)I"⟩
abbrev cX4_setOpen : ByteArray := prog_6_method_12_code
def yX4_setOpen : MethodName := ⟨RX4, "setOpen", "(IZ)I"⟩
abbrev cX4_setTurn : ByteArray := prog_6_method_13_code
def yX4_setTurn : MethodName := ⟨RX4, "setTurn", "(III)I"⟩
abbrev cX4_setUTurn : ByteArray := prog_6_method_14_code
def yX4_setUTurn : MethodName := ⟨RX4, "setUTurn", "(I)I"⟩
abbrev cX4_junctionCount : ByteArray := prog_6_method_15_code
def yX4_junctionCount : MethodName := ⟨RX4, "junctionCount", "()I"⟩
abbrev cX4_roadCount : ByteArray := prog_6_method_16_code
def yX4_roadCount : MethodName := ⟨RX4, "roadCount", "()I"⟩
abbrev cX4_weight : ByteArray := prog_6_method_17_code
def yX4_weight : MethodName := ⟨RX4, "weight", "(I)I"⟩
abbrev cX4_isOpen : ByteArray := prog_6_method_18_code
def yX4_isOpen : MethodName := ⟨RX4, "isOpen", "(I)Z"⟩
abbrev cX4_turnPenalty : ByteArray := prog_6_method_19_code
def yX4_turnPenalty : MethodName := ⟨RX4, "turnPenalty", "(II)I"⟩
abbrev cX4_prepare : ByteArray := prog_6_method_20_code
def yX4_prepare : MethodName := ⟨RX4, "prepare", "()I"⟩
abbrev cX4_next : ByteArray := prog_6_method_21_code
def yX4_next : MethodName := ⟨RX4, "next", "()I"⟩
abbrev cX4_take : ByteArray := prog_6_method_22_code
def yX4_take : MethodName := ⟨RX4, "take", "(II)V"⟩
abbrev cX4_findCosts : ByteArray := prog_6_method_23_code
def yX4_findCosts : MethodName := ⟨RX4, "findCosts", "()V"⟩
abbrev cX4_renewed : ByteArray := prog_6_method_24_code
def yX4_renewed : MethodName := ⟨RX4, "renewed", "()I"⟩
abbrev cX4_isPrepared : ByteArray := prog_6_method_25_code
def yX4_isPrepared : MethodName := ⟨RX4, "isPrepared", "()Z"⟩
abbrev cX4_position : ByteArray := prog_6_method_26_code
def yX4_position : MethodName := ⟨RX4, "position", "(I)I"⟩
abbrev cX4_arcCount : ByteArray := prog_6_method_27_code
def yX4_arcCount : MethodName := ⟨RX4, "arcCount", "()I"⟩
abbrev cX4_hasArc : ByteArray := prog_6_method_28_code
def yX4_hasArc : MethodName := ⟨RX4, "hasArc", "(II)Z"⟩
abbrev cX4_costOf : ByteArray := prog_6_method_29_code
def yX4_costOf : MethodName := ⟨RX4, "costOf", "(II)I"⟩
abbrev cX4_arcCost : ByteArray := prog_6_method_30_code
def yX4_arcCost : MethodName := ⟨RX4, "arcCost", "(II)I"⟩
abbrev cX4_findBehind : ByteArray := prog_6_method_31_code
def yX4_findBehind : MethodName := ⟨RX4, "findBehind", "(I)V"⟩
abbrev cX4_improves : ByteArray := prog_6_method_32_code
def yX4_improves : MethodName := ⟨RX4, "improves", "(II)Z"⟩
abbrev cX4_firstRoad : ByteArray := prog_6_method_33_code
def yX4_firstRoad : MethodName := ⟨RX4, "firstRoad", "(I)I"⟩
abbrev cX4_distanceBetween : ByteArray := prog_6_method_34_code
def yX4_distanceBetween : MethodName := ⟨RX4, "distanceBetween", "(II)I"⟩
abbrev cX4_lookedAt : ByteArray := prog_6_method_35_code
def yX4_lookedAt : MethodName := ⟨RX4, "lookedAt", "(II)I"⟩
abbrev cX4_distance : ByteArray := prog_6_method_36_code
def yX4_distance : MethodName := ⟨RX4, "distance", "(II)I"⟩
abbrev cX4_distanceBehind : ByteArray := prog_6_method_37_code
def yX4_distanceBehind : MethodName := ⟨RX4, "distanceBehind", "(II)I"⟩
abbrev cX4_route : ByteArray := prog_6_method_38_code
def yX4_route : MethodName := ⟨RX4, "route", "(II)I"⟩
abbrev cX4_nextRoad : ByteArray := prog_6_method_39_code
def yX4_nextRoad : MethodName := ⟨RX4, "nextRoad", "(I)I"⟩
abbrev cX4_routeRoad : ByteArray := prog_6_method_40_code
def yX4_routeRoad : MethodName := ⟨RX4, "routeRoad", "(I)I"⟩
abbrev cX4_routeCost : ByteArray := prog_6_method_41_code
def yX4_routeCost : MethodName := ⟨RX4, "routeCost", "()I"⟩
abbrev cX4_reach : ByteArray := prog_6_method_42_code
def yX4_reach : MethodName := ⟨RX4, "reach", "(II)I"⟩
abbrev cX4_reached : ByteArray := prog_6_method_43_code
def yX4_reached : MethodName := ⟨RX4, "reached", "(I)I"⟩
abbrev cX4_averageDistance : ByteArray := prog_6_method_44_code
def yX4_averageDistance : MethodName := ⟨RX4, "averageDistance", "(I)D"⟩
abbrev cX4_detour : ByteArray := prog_6_method_45_code
def yX4_detour : MethodName := ⟨RX4, "detour", "(III)I"⟩
abbrev cX4_setPlace : ByteArray := prog_6_method_46_code
def yX4_setPlace : MethodName := ⟨RX4, "setPlace", "(IIZ)Z"⟩
abbrev cX4_nearest : ByteArray := prog_6_method_47_code
def yX4_nearest : MethodName := ⟨RX4, "nearest", "(II)I"⟩
abbrev cX4_push : ByteArray := prog_6_method_48_code
def yX4_push : MethodName := ⟨RX4, "push", "()I"⟩
abbrev cX4_pop : ByteArray := prog_6_method_49_code
def yX4_pop : MethodName := ⟨RX4, "pop", "()I"⟩
abbrev cX4_digest : ByteArray := prog_6_method_50_code
def yX4_digest : MethodName := ⟨RX4, "digest", "()J"⟩
def RJx145de : String := "java/io/Serializable"
def TJx145de : u_T := fun k => match k with
  | _ => ("", "", "", false)
def tyJx145de : Nat → FieldType := fun k => match k with
  | _ => .int
abbrev wsJx145de0 : List Cond := u_ws RJx145de TJx145de 0
theorem nmJx145de : ∀ a, a < 0 → ∀ b, b < 0 → a ≠ b → (TJx145de a).2.1 ≠ (TJx145de b).2.1 := by decide +kernel
theorem tyJx145de_ok : ∀ k, k < 0 → parseFieldDescriptor (TJx145de k).2.2.1 = some (tyJx145de k) := by decide +kernel
def RJxb160c : String := "java/lang/Comparable"
def TJxb160c : u_T := fun k => match k with
  | _ => ("", "", "", false)
def tyJxb160c : Nat → FieldType := fun k => match k with
  | _ => .int
abbrev wsJxb160c0 : List Cond := u_ws RJxb160c TJxb160c 0
theorem nmJxb160c : ∀ a, a < 0 → ∀ b, b < 0 → a ≠ b → (TJxb160c a).2.1 ≠ (TJxb160c b).2.1 := by decide +kernel
theorem tyJxb160c_ok : ∀ k, k < 0 → parseFieldDescriptor (TJxb160c k).2.2.1 = some (tyJxb160c k) := by decide +kernel
def RJ6 : String := "java/lang/Integer"
def TJ6 : u_T := fun k => match k with
  | _ => ("", "", "", false)
def tyJ6 : Nat → FieldType := fun k => match k with
  | _ => .int
abbrev wsJ60 : List Cond := u_ws RJ6 TJ6 0
theorem nmJ6 : ∀ a, a < 0 → ∀ b, b < 0 → a ≠ b → (TJ6 a).2.1 ≠ (TJ6 b).2.1 := by decide +kernel
theorem tyJ6_ok : ∀ k, k < 0 → parseFieldDescriptor (TJ6 k).2.2.1 = some (tyJ6 k) := by decide +kernel
abbrev cJ6_numberOfTrailingZeros_0f7a4 : ByteArray := prog_13_method_48_code
def yJ6_numberOfTrailingZeros_0f7a4 : MethodName := ⟨RJ6, "numberOfTrailingZeros", "(I)I"⟩
def RJ13 : String := "java/lang/Long"
def TJ13 : u_T := fun k => match k with
  | _ => ("", "", "", false)
def tyJ13 : Nat → FieldType := fun k => match k with
  | _ => .int
abbrev wsJ130 : List Cond := u_ws RJ13 TJ13 0
theorem nmJ13 : ∀ a, a < 0 → ∀ b, b < 0 → a ≠ b → (TJ13 a).2.1 ≠ (TJ13 b).2.1 := by decide +kernel
theorem tyJ13_ok : ∀ k, k < 0 → parseFieldDescriptor (TJ13 k).2.2.1 = some (tyJ13 k) := by decide +kernel
abbrev cJ13_numberOfTrailingZeros_95d88 : ByteArray := prog_14_method_49_code
def yJ13_numberOfTrailingZeros_95d88 : MethodName := ⟨RJ13, "numberOfTrailingZeros", "(J)I"⟩
abbrev cJ13_bitCount_95d88 : ByteArray := prog_14_method_50_code
def yJ13_bitCount_95d88 : MethodName := ⟨RJ13, "bitCount", "(J)I"⟩
def RJ9 : String := "java/lang/Math"
def TJ9 : u_T := fun k => match k with
  | _ => ("", "", "", false)
def tyJ9 : Nat → FieldType := fun k => match k with
  | _ => .int
abbrev wsJ90 : List Cond := u_ws RJ9 TJ9 0
theorem nmJ9 : ∀ a, a < 0 → ∀ b, b < 0 → a ≠ b → (TJ9 a).2.1 ≠ (TJ9 b).2.1 := by decide +kernel
theorem tyJ9_ok : ∀ k, k < 0 → parseFieldDescriptor (TJ9 k).2.2.1 = some (tyJ9 k) := by decide +kernel
abbrev cJ9_min_7cf53 : ByteArray := prog_15_method_69_code
def yJ9_min_7cf53 : MethodName := ⟨RJ9, "min", "(II)I"⟩
abbrev cJ9_min_f86c9 : ByteArray := prog_15_method_70_code
def yJ9_min_f86c9 : MethodName := ⟨RJ9, "min", "(JJ)J"⟩
def RJxd2413 : String := "java/lang/Number"
def TJxd2413 : u_T := fun k => match k with
  | _ => ("", "", "", false)
def tyJxd2413 : Nat → FieldType := fun k => match k with
  | _ => .int
abbrev wsJxd24130 : List Cond := u_ws RJxd2413 TJxd2413 0
theorem nmJxd2413 : ∀ a, a < 0 → ∀ b, b < 0 → a ≠ b → (TJxd2413 a).2.1 ≠ (TJxd2413 b).2.1 := by decide +kernel
theorem tyJxd2413_ok : ∀ k, k < 0 → parseFieldDescriptor (TJxd2413 k).2.2.1 = some (tyJxd2413 k) := by decide +kernel
def RJ0 : String := "java/lang/String"
def TJ0 : u_T := fun k => match k with
  | _ => ("", "", "", false)
def tyJ0 : Nat → FieldType := fun k => match k with
  | _ => .int
abbrev wsJ00 : List Cond := u_ws RJ0 TJ0 0
theorem nmJ0 : ∀ a, a < 0 → ∀ b, b < 0 → a ≠ b → (TJ0 a).2.1 ≠ (TJ0 b).2.1 := by decide +kernel
theorem tyJ0_ok : ∀ k, k < 0 → parseFieldDescriptor (TJ0 k).2.2.1 = some (tyJ0 k) := by decide +kernel
def RJ10 : String := "java/lang/System"
def TJ10 : u_T := fun k => match k with
  | _ => ("", "", "", false)
def tyJ10 : Nat → FieldType := fun k => match k with
  | _ => .int
abbrev wsJ100 : List Cond := u_ws RJ10 TJ10 0
theorem nmJ10 : ∀ a, a < 0 → ∀ b, b < 0 → a ≠ b → (TJ10 a).2.1 ≠ (TJ10 b).2.1 := by decide +kernel
theorem tyJ10_ok : ∀ k, k < 0 → parseFieldDescriptor (TJ10 k).2.2.1 = some (tyJ10 k) := by decide +kernel
def RJxfd54e : String := "java/lang/constant/Constable"
def TJxfd54e : u_T := fun k => match k with
  | _ => ("", "", "", false)
def tyJxfd54e : Nat → FieldType := fun k => match k with
  | _ => .int
abbrev wsJxfd54e0 : List Cond := u_ws RJxfd54e TJxfd54e 0
theorem nmJxfd54e : ∀ a, a < 0 → ∀ b, b < 0 → a ≠ b → (TJxfd54e a).2.1 ≠ (TJxfd54e b).2.1 := by decide +kernel
theorem tyJxfd54e_ok : ∀ k, k < 0 → parseFieldDescriptor (TJxfd54e k).2.2.1 = some (tyJxfd54e k) := by decide +kernel
def RJx3cf43 : String := "java/lang/constant/ConstantDesc"
def TJx3cf43 : u_T := fun k => match k with
  | _ => ("", "", "", false)
def tyJx3cf43 : Nat → FieldType := fun k => match k with
  | _ => .int
abbrev wsJx3cf430 : List Cond := u_ws RJx3cf43 TJx3cf43 0
theorem nmJx3cf43 : ∀ a, a < 0 → ∀ b, b < 0 → a ≠ b → (TJx3cf43 a).2.1 ≠ (TJx3cf43 b).2.1 := by decide +kernel
theorem tyJx3cf43_ok : ∀ k, k < 0 → parseFieldDescriptor (TJx3cf43 k).2.2.1 = some (tyJx3cf43 k) := by decide +kernel
def RJ7 : String := "java/util/Arrays"
def TJ7 : u_T := fun k => match k with
  | _ => ("", "", "", false)
def tyJ7 : Nat → FieldType := fun k => match k with
  | _ => .int
abbrev wsJ70 : List Cond := u_ws RJ7 TJ7 0
theorem nmJ7 : ∀ a, a < 0 → ∀ b, b < 0 → a ≠ b → (TJ7 a).2.1 ≠ (TJ7 b).2.1 := by decide +kernel
theorem tyJ7_ok : ∀ k, k < 0 → parseFieldDescriptor (TJ7 k).2.2.1 = some (tyJ7 k) := by decide +kernel
abbrev cJ7_fill_53178 : ByteArray := prog_23_method_103_code
def yJ7_fill_53178 : MethodName := ⟨RJ7, "fill", "([II)V"⟩
def RL : String := "RoadOracleLaw"
abbrev cL_addJunction : ByteArray := method_3_code
def yL_addJunction : MethodName := ⟨RL, "addJunction", "(LRoadOracle;[J)I"⟩
abbrev cL_addRoad : ByteArray := method_4_code
def yL_addRoad : MethodName := ⟨RL, "addRoad", "(LRoadOracle;III[J)I"⟩
abbrev cL_setWeight : ByteArray := method_5_code
def yL_setWeight : MethodName := ⟨RL, "setWeight", "(LRoadOracle;II[J)I"⟩
abbrev cL_setOpen : ByteArray := method_6_code
def yL_setOpen : MethodName := ⟨RL, "setOpen", "(LRoadOracle;IZ[J)I"⟩
abbrev cL_setTurn : ByteArray := method_7_code
def yL_setTurn : MethodName := ⟨RL, "setTurn", "(LRoadOracle;III[J)I"⟩
abbrev cL_setUTurn : ByteArray := method_8_code
def yL_setUTurn : MethodName := ⟨RL, "setUTurn", "(LRoadOracle;I[J)I"⟩
abbrev cL_weight : ByteArray := method_9_code
def yL_weight : MethodName := ⟨RL, "weight", "(LRoadOracle;I[J)I"⟩
abbrev cL_isOpen : ByteArray := method_10_code
def yL_isOpen : MethodName := ⟨RL, "isOpen", "(LRoadOracle;I[J)I"⟩
abbrev cL_turnPenalty : ByteArray := method_11_code
def yL_turnPenalty : MethodName := ⟨RL, "turnPenalty", "(LRoadOracle;II[J)I"⟩
abbrev cL_prepare : ByteArray := method_12_code
def yL_prepare : MethodName := ⟨RL, "prepare", "(LRoadOracle;[J)I"⟩
abbrev cL_position : ByteArray := method_13_code
def yL_position : MethodName := ⟨RL, "position", "(LRoadOracle;I[J)I"⟩
abbrev cL_hasArc : ByteArray := method_14_code
def yL_hasArc : MethodName := ⟨RL, "hasArc", "(LRoadOracle;II[J)I"⟩
abbrev cL_arcCost : ByteArray := method_15_code
def yL_arcCost : MethodName := ⟨RL, "arcCost", "(LRoadOracle;II[J)I"⟩
abbrev cL_distance : ByteArray := method_16_code
def yL_distance : MethodName := ⟨RL, "distance", "(LRoadOracle;II[J)I"⟩
abbrev cL_distanceBehind : ByteArray := method_17_code
def yL_distanceBehind : MethodName := ⟨RL, "distanceBehind", "(LRoadOracle;II[J)I"⟩
abbrev cL_route : ByteArray := method_18_code
def yL_route : MethodName := ⟨RL, "route", "(LRoadOracle;II[J)I"⟩
abbrev cL_routeRoad : ByteArray := method_19_code
def yL_routeRoad : MethodName := ⟨RL, "routeRoad", "(LRoadOracle;I[J)I"⟩
abbrev cL_reach : ByteArray := method_20_code
def yL_reach : MethodName := ⟨RL, "reach", "(LRoadOracle;II[J)I"⟩
abbrev cL_reached : ByteArray := method_21_code
def yL_reached : MethodName := ⟨RL, "reached", "(LRoadOracle;I[J)I"⟩
abbrev cL_averageDistance : ByteArray := method_22_code
def yL_averageDistance : MethodName := ⟨RL, "averageDistance", "(LRoadOracle;I[D)I"⟩
abbrev cL_detour : ByteArray := method_23_code
def yL_detour : MethodName := ⟨RL, "detour", "(LRoadOracle;III[J)I"⟩
abbrev cL_setPlace : ByteArray := method_24_code
def yL_setPlace : MethodName := ⟨RL, "setPlace", "(LRoadOracle;IIZ[J)I"⟩
abbrev cL_nearest : ByteArray := method_25_code
def yL_nearest : MethodName := ⟨RL, "nearest", "(LRoadOracle;II[J)I"⟩
abbrev cL_push : ByteArray := method_26_code
def yL_push : MethodName := ⟨RL, "push", "(LRoadOracle;[J)I"⟩
abbrev cL_pop : ByteArray := method_27_code
def yL_pop : MethodName := ⟨RL, "pop", "(LRoadOracle;[J)I"⟩
abbrev cL_law : ByteArray := code
def yL_law : MethodName := ⟨RL, "law", "([I)Z"⟩
abbrev vwCl : List vw_C := [(RX0, TX0, 14), (RX1, TX1, 6), (RX2, TX2, 10), (RX3, TX3, 11), (RX4, TX4, 32)]
end
section
theorem dX0_init_0 : decode cX0_init 0 = .ok (.aload_n 0, 1) := by decide +kernel
theorem dX0_init_1 : decode cX0_init 1 = .ok (.invokespecial 3, 3) := by decide +kernel
theorem dX0_init_4 : decode cX0_init 4 = .ok (.aload_n 0, 1) := by decide +kernel
theorem dX0_init_5 : decode cX0_init 5 = .ok (.aload_n 1, 1) := by decide +kernel
theorem dX0_init_6 : decode cX0_init 6 = .ok (.putfield 9, 3) := by decide +kernel
theorem dX0_init_9 : decode cX0_init 9 = .ok (.aload_n 0, 1) := by decide +kernel
theorem dX0_init_10 : decode cX0_init 10 = .ok (.bipush 64, 2) := by decide +kernel
theorem dX0_init_12 : decode cX0_init 12 = .ok (.newarray .int, 2) := by decide +kernel
theorem dX0_init_14 : decode cX0_init 14 = .ok (.putfield 15, 3) := by decide +kernel
theorem dX0_init_17 : decode cX0_init 17 = .ok (.aload_n 0, 1) := by decide +kernel
theorem dX0_init_18 : decode cX0_init 18 = .ok (.bipush 64, 2) := by decide +kernel
theorem dX0_init_20 : decode cX0_init 20 = .ok (.newarray .int, 2) := by decide +kernel
theorem dX0_init_22 : decode cX0_init 22 = .ok (.putfield 19, 3) := by decide +kernel
theorem dX0_init_25 : decode cX0_init 25 = .ok (.aload_n 0, 1) := by decide +kernel
theorem dX0_init_26 : decode cX0_init 26 = .ok (.bipush 64, 2) := by decide +kernel
theorem dX0_init_28 : decode cX0_init 28 = .ok (.newarray .long, 2) := by decide +kernel
theorem dX0_init_30 : decode cX0_init 30 = .ok (.putfield 22, 3) := by decide +kernel
theorem dX0_init_33 : decode cX0_init 33 = .ok (.aload_n 0, 1) := by decide +kernel
theorem dX0_init_34 : decode cX0_init 34 = .ok (.bipush 64, 2) := by decide +kernel
theorem dX0_init_36 : decode cX0_init 36 = .ok (.newarray .long, 2) := by decide +kernel
theorem dX0_init_38 : decode cX0_init 38 = .ok (.putfield 26, 3) := by decide +kernel
theorem dX0_init_41 : decode cX0_init 41 = .ok (.aload_n 0, 1) := by decide +kernel
theorem dX0_init_42 : decode cX0_init 42 = .ok (.bipush 64, 2) := by decide +kernel
theorem dX0_init_44 : decode cX0_init 44 = .ok (.newarray .long, 2) := by decide +kernel
theorem dX0_init_46 : decode cX0_init 46 = .ok (.putfield 29, 3) := by decide +kernel
theorem dX0_init_49 : decode cX0_init 49 = .ok (.aload_n 0, 1) := by decide +kernel
theorem dX0_init_50 : decode cX0_init 50 = .ok (.sipush 4096, 3) := by decide +kernel
theorem dX0_init_53 : decode cX0_init 53 = .ok (.newarray .int, 2) := by decide +kernel
theorem dX0_init_55 : decode cX0_init 55 = .ok (.putfield 32, 3) := by decide +kernel
theorem dX0_init_58 : decode cX0_init 58 = .ok (.aload_n 0, 1) := by decide +kernel
theorem dX0_init_59 : decode cX0_init 59 = .ok (.sipush 4096, 3) := by decide +kernel
theorem dX0_init_62 : decode cX0_init 62 = .ok (.newarray .int, 2) := by decide +kernel
theorem dX0_init_64 : decode cX0_init 64 = .ok (.putfield 35, 3) := by decide +kernel
theorem dX0_init_67 : decode cX0_init 67 = .ok (.aload_n 0, 1) := by decide +kernel
theorem dX0_init_68 : decode cX0_init 68 = .ok (.bipush 64, 2) := by decide +kernel
theorem dX0_init_70 : decode cX0_init 70 = .ok (.newarray .long, 2) := by decide +kernel
theorem dX0_init_72 : decode cX0_init 72 = .ok (.putfield 38, 3) := by decide +kernel
theorem dX0_init_75 : decode cX0_init 75 = .ok (.aload_n 0, 1) := by decide +kernel
theorem dX0_init_76 : decode cX0_init 76 = .ok (.bipush 64, 2) := by decide +kernel
theorem dX0_init_78 : decode cX0_init 78 = .ok (.newarray .long, 2) := by decide +kernel
theorem dX0_init_80 : decode cX0_init 80 = .ok (.putfield 41, 3) := by decide +kernel
theorem dX0_init_83 : decode cX0_init 83 = .ok (.return_, 1) := by decide +kernel
theorem dX0_build_0 : decode cX0_build 0 = .ok (.aload_n 0, 1) := by decide +kernel
theorem dX0_build_1 : decode cX0_build 1 = .ok (.aload_n 0, 1) := by decide +kernel
theorem dX0_build_2 : decode cX0_build 2 = .ok (.getfield 9, 3) := by decide +kernel
theorem dX0_build_5 : decode cX0_build 5 = .ok (.getfield 44, 3) := by decide +kernel
theorem dX0_build_8 : decode cX0_build 8 = .ok (.putfield 50, 3) := by decide +kernel
theorem dX0_build_11 : decode cX0_build 11 = .ok (.aload_n 0, 1) := by decide +kernel
theorem dX0_build_12 : decode cX0_build 12 = .ok (.invokevirtual 51, 3) := by decide +kernel
theorem dX0_build_15 : decode cX0_build 15 = .ok (.istore_n 1, 1) := by decide +kernel
theorem dX0_build_16 : decode cX0_build 16 = .ok (.aload_n 0, 1) := by decide +kernel
theorem dX0_build_17 : decode cX0_build 17 = .ok (.getfield 9, 3) := by decide +kernel
theorem dX0_build_20 : decode cX0_build 20 = .ok (.invokevirtual 55, 3) := by decide +kernel
theorem dX0_build_23 : decode cX0_build 23 = .ok (.lstore_n 2, 1) := by decide +kernel
theorem dX0_build_24 : decode cX0_build 24 = .ok (.iconst 0, 1) := by decide +kernel
theorem dX0_build_25 : decode cX0_build 25 = .ok (.istore 4, 2) := by decide +kernel
theorem dX0_build_27 : decode cX0_build 27 = .ok (.iload 4, 2) := by decide +kernel
theorem dX0_build_29 : decode cX0_build 29 = .ok (.aload_n 0, 1) := by decide +kernel
theorem dX0_build_30 : decode cX0_build 30 = .ok (.getfield 50, 3) := by decide +kernel
theorem dX0_build_33 : decode cX0_build 33 = .ok (.if_icmp .ge 88, 3) := by decide +kernel
theorem dX0_build_36 : decode cX0_build 36 = .ok (.aload_n 0, 1) := by decide +kernel
theorem dX0_build_37 : decode cX0_build 37 = .ok (.lload_n 2, 1) := by decide +kernel
theorem dX0_build_38 : decode cX0_build 38 = .ok (.invokevirtual 59, 3) := by decide +kernel
theorem dX0_build_41 : decode cX0_build 41 = .ok (.istore 5, 2) := by decide +kernel
theorem dX0_build_43 : decode cX0_build 43 = .ok (.aload_n 0, 1) := by decide +kernel
theorem dX0_build_44 : decode cX0_build 44 = .ok (.getfield 15, 3) := by decide +kernel
theorem dX0_build_47 : decode cX0_build 47 = .ok (.iload 5, 2) := by decide +kernel
theorem dX0_build_49 : decode cX0_build 49 = .ok (.iload 4, 2) := by decide +kernel
theorem dX0_build_51 : decode cX0_build 51 = .ok (.iastore, 1) := by decide +kernel
theorem dX0_build_52 : decode cX0_build 52 = .ok (.aload_n 0, 1) := by decide +kernel
theorem dX0_build_53 : decode cX0_build 53 = .ok (.getfield 19, 3) := by decide +kernel
theorem dX0_build_56 : decode cX0_build 56 = .ok (.iload 4, 2) := by decide +kernel
theorem dX0_build_58 : decode cX0_build 58 = .ok (.iload 5, 2) := by decide +kernel
theorem dX0_build_60 : decode cX0_build 60 = .ok (.iastore, 1) := by decide +kernel
theorem dX0_build_61 : decode cX0_build 61 = .ok (.aload_n 0, 1) := by decide +kernel
theorem dX0_build_62 : decode cX0_build 62 = .ok (.getfield 22, 3) := by decide +kernel
theorem dX0_build_65 : decode cX0_build 65 = .ok (.iload 5, 2) := by decide +kernel
theorem dX0_build_67 : decode cX0_build 67 = .ok (.aload_n 0, 1) := by decide +kernel
theorem dX0_build_68 : decode cX0_build 68 = .ok (.getfield 9, 3) := by decide +kernel
theorem dX0_build_71 : decode cX0_build 71 = .ok (.invokevirtual 55, 3) := by decide +kernel
theorem dX0_build_74 : decode cX0_build 74 = .ok (.lload_n 2, 1) := by decide +kernel
theorem dX0_build_75 : decode cX0_build 75 = .ok (.ldc2_w 63, 3) := by decide +kernel
theorem dX0_build_78 : decode cX0_build 78 = .ok (.lxor, 1) := by decide +kernel
theorem dX0_build_79 : decode cX0_build 79 = .ok (.land, 1) := by decide +kernel
theorem dX0_build_80 : decode cX0_build 80 = .ok (.lastore, 1) := by decide +kernel
theorem dX0_build_81 : decode cX0_build 81 = .ok (.lload_n 2, 1) := by decide +kernel
theorem dX0_build_82 : decode cX0_build 82 = .ok (.iload 5, 2) := by decide +kernel
theorem dX0_build_84 : decode cX0_build 84 = .ok (.invokestatic 65, 3) := by decide +kernel
theorem dX0_build_87 : decode cX0_build 87 = .ok (.ldc2_w 63, 3) := by decide +kernel
theorem dX0_build_90 : decode cX0_build 90 = .ok (.lxor, 1) := by decide +kernel
theorem dX0_build_91 : decode cX0_build 91 = .ok (.land, 1) := by decide +kernel
theorem dX0_build_92 : decode cX0_build 92 = .ok (.lstore_n 2, 1) := by decide +kernel
theorem dX0_build_93 : decode cX0_build 93 = .ok (.aload_n 0, 1) := by decide +kernel
theorem dX0_build_94 : decode cX0_build 94 = .ok (.aload_n 0, 1) := by decide +kernel
theorem dX0_build_95 : decode cX0_build 95 = .ok (.getfield 29, 3) := by decide +kernel
theorem dX0_build_98 : decode cX0_build 98 = .ok (.iload 5, 2) := by decide +kernel
theorem dX0_build_100 : decode cX0_build 100 = .ok (.laload, 1) := by decide +kernel
theorem dX0_build_101 : decode cX0_build 101 = .ok (.lload_n 2, 1) := by decide +kernel
theorem dX0_build_102 : decode cX0_build 102 = .ok (.land, 1) := by decide +kernel
theorem dX0_build_103 : decode cX0_build 103 = .ok (.aload_n 0, 1) := by decide +kernel
theorem dX0_build_104 : decode cX0_build 104 = .ok (.getfield 26, 3) := by decide +kernel
theorem dX0_build_107 : decode cX0_build 107 = .ok (.iload 5, 2) := by decide +kernel
theorem dX0_build_109 : decode cX0_build 109 = .ok (.laload, 1) := by decide +kernel
theorem dX0_build_110 : decode cX0_build 110 = .ok (.lload_n 2, 1) := by decide +kernel
theorem dX0_build_111 : decode cX0_build 111 = .ok (.land, 1) := by decide +kernel
theorem dX0_build_112 : decode cX0_build 112 = .ok (.invokevirtual 69, 3) := by decide +kernel
theorem dX0_build_115 : decode cX0_build 115 = .ok (.iinc 4 1, 3) := by decide +kernel
theorem dX0_build_118 : decode cX0_build 118 = .ok (.goto (-91), 3) := by decide +kernel
theorem dX0_build_121 : decode cX0_build 121 = .ok (.aload_n 0, 1) := by decide +kernel
theorem dX0_build_122 : decode cX0_build 122 = .ok (.iconst 0, 1) := by decide +kernel
theorem dX0_build_123 : decode cX0_build 123 = .ok (.putfield 73, 3) := by decide +kernel
theorem dX0_build_126 : decode cX0_build 126 = .ok (.iconst 0, 1) := by decide +kernel
theorem dX0_build_127 : decode cX0_build 127 = .ok (.istore 4, 2) := by decide +kernel
theorem dX0_build_129 : decode cX0_build 129 = .ok (.iload 4, 2) := by decide +kernel
theorem dX0_build_131 : decode cX0_build 131 = .ok (.aload_n 0, 1) := by decide +kernel
theorem dX0_build_132 : decode cX0_build 132 = .ok (.getfield 50, 3) := by decide +kernel
theorem dX0_build_135 : decode cX0_build 135 = .ok (.if_icmp .ge 28, 3) := by decide +kernel
theorem dX0_build_138 : decode cX0_build 138 = .ok (.aload_n 0, 1) := by decide +kernel
theorem dX0_build_139 : decode cX0_build 139 = .ok (.dup, 1) := by decide +kernel
theorem dX0_build_140 : decode cX0_build 140 = .ok (.getfield 73, 3) := by decide +kernel
theorem dX0_build_143 : decode cX0_build 143 = .ok (.aload_n 0, 1) := by decide +kernel
theorem dX0_build_144 : decode cX0_build 144 = .ok (.getfield 26, 3) := by decide +kernel
theorem dX0_build_147 : decode cX0_build 147 = .ok (.iload 4, 2) := by decide +kernel
theorem dX0_build_149 : decode cX0_build 149 = .ok (.laload, 1) := by decide +kernel
theorem dX0_build_150 : decode cX0_build 150 = .ok (.invokestatic 76, 3) := by decide +kernel
theorem dX0_build_153 : decode cX0_build 153 = .ok (.iadd, 1) := by decide +kernel
theorem dX0_build_154 : decode cX0_build 154 = .ok (.putfield 73, 3) := by decide +kernel
theorem dX0_build_157 : decode cX0_build 157 = .ok (.iinc 4 1, 3) := by decide +kernel
theorem dX0_build_160 : decode cX0_build 160 = .ok (.goto (-31), 3) := by decide +kernel
theorem dX0_build_163 : decode cX0_build 163 = .ok (.aload_n 0, 1) := by decide +kernel
theorem dX0_build_164 : decode cX0_build 164 = .ok (.aload_n 0, 1) := by decide +kernel
theorem dX0_build_165 : decode cX0_build 165 = .ok (.getfield 73, 3) := by decide +kernel
theorem dX0_build_168 : decode cX0_build 168 = .ok (.iload_n 1, 1) := by decide +kernel
theorem dX0_build_169 : decode cX0_build 169 = .ok (.isub, 1) := by decide +kernel
theorem dX0_build_170 : decode cX0_build 170 = .ok (.putfield 81, 3) := by decide +kernel
theorem dX0_build_173 : decode cX0_build 173 = .ok (.aload_n 0, 1) := by decide +kernel
theorem dX0_build_174 : decode cX0_build 174 = .ok (.iconst 1, 1) := by decide +kernel
theorem dX0_build_175 : decode cX0_build 175 = .ok (.putfield 84, 3) := by decide +kernel
theorem dX0_build_178 : decode cX0_build 178 = .ok (.aload_n 0, 1) := by decide +kernel
theorem dX0_build_179 : decode cX0_build 179 = .ok (.getfield 32, 3) := by decide +kernel
theorem dX0_build_182 : decode cX0_build 182 = .ok (.ldc 88, 2) := by decide +kernel
theorem dX0_build_184 : decode cX0_build 184 = .ok (.invokestatic 89, 3) := by decide +kernel
theorem dX0_build_187 : decode cX0_build 187 = .ok (.aload_n 0, 1) := by decide +kernel
theorem dX0_build_188 : decode cX0_build 188 = .ok (.getfield 35, 3) := by decide +kernel
theorem dX0_build_191 : decode cX0_build 191 = .ok (.ldc 88, 2) := by decide +kernel
theorem dX0_build_193 : decode cX0_build 193 = .ok (.invokestatic 89, 3) := by decide +kernel
theorem dX0_build_196 : decode cX0_build 196 = .ok (.aload_n 0, 1) := by decide +kernel
theorem dX0_build_197 : decode cX0_build 197 = .ok (.invokevirtual 95, 3) := by decide +kernel
theorem dX0_build_200 : decode cX0_build 200 = .ok (.pop, 1) := by decide +kernel
theorem dX0_build_201 : decode cX0_build 201 = .ok (.return_, 1) := by decide +kernel
theorem dX0_linkTurns_0 : decode cX0_linkTurns 0 = .ok (.iconst 0, 1) := by decide +kernel
theorem dX0_linkTurns_1 : decode cX0_linkTurns 1 = .ok (.istore_n 1, 1) := by decide +kernel
theorem dX0_linkTurns_2 : decode cX0_linkTurns 2 = .ok (.iconst 0, 1) := by decide +kernel
theorem dX0_linkTurns_3 : decode cX0_linkTurns 3 = .ok (.istore_n 2, 1) := by decide +kernel
theorem dX0_linkTurns_4 : decode cX0_linkTurns 4 = .ok (.iload_n 2, 1) := by decide +kernel
theorem dX0_linkTurns_5 : decode cX0_linkTurns 5 = .ok (.aload_n 0, 1) := by decide +kernel
theorem dX0_linkTurns_6 : decode cX0_linkTurns 6 = .ok (.getfield 50, 3) := by decide +kernel
theorem dX0_linkTurns_9 : decode cX0_linkTurns 9 = .ok (.if_icmp .ge 49, 3) := by decide +kernel
theorem dX0_linkTurns_12 : decode cX0_linkTurns 12 = .ok (.aload_n 0, 1) := by decide +kernel
theorem dX0_linkTurns_13 : decode cX0_linkTurns 13 = .ok (.getfield 26, 3) := by decide +kernel
theorem dX0_linkTurns_16 : decode cX0_linkTurns 16 = .ok (.iload_n 2, 1) := by decide +kernel
theorem dX0_linkTurns_17 : decode cX0_linkTurns 17 = .ok (.aload_n 0, 1) := by decide +kernel
theorem dX0_linkTurns_18 : decode cX0_linkTurns 18 = .ok (.getfield 9, 3) := by decide +kernel
theorem dX0_linkTurns_21 : decode cX0_linkTurns 21 = .ok (.iload_n 2, 1) := by decide +kernel
theorem dX0_linkTurns_22 : decode cX0_linkTurns 22 = .ok (.invokevirtual 98, 3) := by decide +kernel
theorem dX0_linkTurns_25 : decode cX0_linkTurns 25 = .ok (.lastore, 1) := by decide +kernel
theorem dX0_linkTurns_26 : decode cX0_linkTurns 26 = .ok (.aload_n 0, 1) := by decide +kernel
theorem dX0_linkTurns_27 : decode cX0_linkTurns 27 = .ok (.getfield 29, 3) := by decide +kernel
theorem dX0_linkTurns_30 : decode cX0_linkTurns 30 = .ok (.iload_n 2, 1) := by decide +kernel
theorem dX0_linkTurns_31 : decode cX0_linkTurns 31 = .ok (.aload_n 0, 1) := by decide +kernel
theorem dX0_linkTurns_32 : decode cX0_linkTurns 32 = .ok (.getfield 9, 3) := by decide +kernel
theorem dX0_linkTurns_35 : decode cX0_linkTurns 35 = .ok (.iload_n 2, 1) := by decide +kernel
theorem dX0_linkTurns_36 : decode cX0_linkTurns 36 = .ok (.invokevirtual 101, 3) := by decide +kernel
theorem dX0_linkTurns_39 : decode cX0_linkTurns 39 = .ok (.lastore, 1) := by decide +kernel
theorem dX0_linkTurns_40 : decode cX0_linkTurns 40 = .ok (.iload_n 1, 1) := by decide +kernel
theorem dX0_linkTurns_41 : decode cX0_linkTurns 41 = .ok (.aload_n 0, 1) := by decide +kernel
theorem dX0_linkTurns_42 : decode cX0_linkTurns 42 = .ok (.getfield 26, 3) := by decide +kernel
theorem dX0_linkTurns_45 : decode cX0_linkTurns 45 = .ok (.iload_n 2, 1) := by decide +kernel
theorem dX0_linkTurns_46 : decode cX0_linkTurns 46 = .ok (.laload, 1) := by decide +kernel
theorem dX0_linkTurns_47 : decode cX0_linkTurns 47 = .ok (.invokestatic 76, 3) := by decide +kernel
theorem dX0_linkTurns_50 : decode cX0_linkTurns 50 = .ok (.iadd, 1) := by decide +kernel
theorem dX0_linkTurns_51 : decode cX0_linkTurns 51 = .ok (.istore_n 1, 1) := by decide +kernel
theorem dX0_linkTurns_52 : decode cX0_linkTurns 52 = .ok (.iinc 2 1, 3) := by decide +kernel
theorem dX0_linkTurns_55 : decode cX0_linkTurns 55 = .ok (.goto (-51), 3) := by decide +kernel
theorem dX0_linkTurns_58 : decode cX0_linkTurns 58 = .ok (.iload_n 1, 1) := by decide +kernel
theorem dX0_linkTurns_59 : decode cX0_linkTurns 59 = .ok (.ireturn, 1) := by decide +kernel
theorem dX0_cheapest_0 : decode cX0_cheapest 0 = .ok (.iconst 0, 1) := by decide +kernel
theorem dX0_cheapest_1 : decode cX0_cheapest 1 = .ok (.istore_n 3, 1) := by decide +kernel
theorem dX0_cheapest_2 : decode cX0_cheapest 2 = .ok (.ldc 88, 2) := by decide +kernel
theorem dX0_cheapest_4 : decode cX0_cheapest 4 = .ok (.istore 4, 2) := by decide +kernel
theorem dX0_cheapest_6 : decode cX0_cheapest 6 = .ok (.iconst 0, 1) := by decide +kernel
theorem dX0_cheapest_7 : decode cX0_cheapest 7 = .ok (.istore 5, 2) := by decide +kernel
theorem dX0_cheapest_9 : decode cX0_cheapest 9 = .ok (.iload 5, 2) := by decide +kernel
theorem dX0_cheapest_11 : decode cX0_cheapest 11 = .ok (.aload_n 0, 1) := by decide +kernel
theorem dX0_cheapest_12 : decode cX0_cheapest 12 = .ok (.getfield 50, 3) := by decide +kernel
theorem dX0_cheapest_15 : decode cX0_cheapest 15 = .ok (.if_icmp .ge 59, 3) := by decide +kernel
theorem dX0_cheapest_18 : decode cX0_cheapest 18 = .ok (.aload_n 0, 1) := by decide +kernel
theorem dX0_cheapest_19 : decode cX0_cheapest 19 = .ok (.getfield 29, 3) := by decide +kernel
theorem dX0_cheapest_22 : decode cX0_cheapest 22 = .ok (.iload 5, 2) := by decide +kernel
theorem dX0_cheapest_24 : decode cX0_cheapest 24 = .ok (.laload, 1) := by decide +kernel
theorem dX0_cheapest_25 : decode cX0_cheapest 25 = .ok (.lload_n 1, 1) := by decide +kernel
theorem dX0_cheapest_26 : decode cX0_cheapest 26 = .ok (.land, 1) := by decide +kernel
theorem dX0_cheapest_27 : decode cX0_cheapest 27 = .ok (.invokestatic 76, 3) := by decide +kernel
theorem dX0_cheapest_30 : decode cX0_cheapest 30 = .ok (.aload_n 0, 1) := by decide +kernel
theorem dX0_cheapest_31 : decode cX0_cheapest 31 = .ok (.getfield 26, 3) := by decide +kernel
theorem dX0_cheapest_34 : decode cX0_cheapest 34 = .ok (.iload 5, 2) := by decide +kernel
theorem dX0_cheapest_36 : decode cX0_cheapest 36 = .ok (.laload, 1) := by decide +kernel
theorem dX0_cheapest_37 : decode cX0_cheapest 37 = .ok (.lload_n 1, 1) := by decide +kernel
theorem dX0_cheapest_38 : decode cX0_cheapest 38 = .ok (.land, 1) := by decide +kernel
theorem dX0_cheapest_39 : decode cX0_cheapest 39 = .ok (.invokestatic 76, 3) := by decide +kernel
theorem dX0_cheapest_42 : decode cX0_cheapest 42 = .ok (.imul, 1) := by decide +kernel
theorem dX0_cheapest_43 : decode cX0_cheapest 43 = .ok (.istore 6, 2) := by decide +kernel
theorem dX0_cheapest_45 : decode cX0_cheapest 45 = .ok (.lload_n 1, 1) := by decide +kernel
theorem dX0_cheapest_46 : decode cX0_cheapest 46 = .ok (.iload 5, 2) := by decide +kernel
theorem dX0_cheapest_48 : decode cX0_cheapest 48 = .ok (.invokestatic 104, 3) := by decide +kernel
theorem dX0_cheapest_51 : decode cX0_cheapest 51 = .ok (.ifCond .eq 17, 3) := by decide +kernel
theorem dX0_cheapest_54 : decode cX0_cheapest 54 = .ok (.iload 6, 2) := by decide +kernel
theorem dX0_cheapest_56 : decode cX0_cheapest 56 = .ok (.iload 4, 2) := by decide +kernel
theorem dX0_cheapest_58 : decode cX0_cheapest 58 = .ok (.if_icmp .ge 10, 3) := by decide +kernel
theorem dX0_cheapest_61 : decode cX0_cheapest 61 = .ok (.iload 5, 2) := by decide +kernel
theorem dX0_cheapest_63 : decode cX0_cheapest 63 = .ok (.istore_n 3, 1) := by decide +kernel
theorem dX0_cheapest_64 : decode cX0_cheapest 64 = .ok (.iload 6, 2) := by decide +kernel
theorem dX0_cheapest_66 : decode cX0_cheapest 66 = .ok (.istore 4, 2) := by decide +kernel
theorem dX0_cheapest_68 : decode cX0_cheapest 68 = .ok (.iinc 5 1, 3) := by decide +kernel
theorem dX0_cheapest_71 : decode cX0_cheapest 71 = .ok (.goto (-62), 3) := by decide +kernel
theorem dX0_cheapest_74 : decode cX0_cheapest 74 = .ok (.iload_n 3, 1) := by decide +kernel
theorem dX0_cheapest_75 : decode cX0_cheapest 75 = .ok (.ireturn, 1) := by decide +kernel
theorem dX0_bridge_0 : decode cX0_bridge 0 = .ok (.iconst 0, 1) := by decide +kernel
theorem dX0_bridge_1 : decode cX0_bridge 1 = .ok (.istore 5, 2) := by decide +kernel
theorem dX0_bridge_3 : decode cX0_bridge 3 = .ok (.iload 5, 2) := by decide +kernel
theorem dX0_bridge_5 : decode cX0_bridge 5 = .ok (.aload_n 0, 1) := by decide +kernel
theorem dX0_bridge_6 : decode cX0_bridge 6 = .ok (.getfield 50, 3) := by decide +kernel
theorem dX0_bridge_9 : decode cX0_bridge 9 = .ok (.if_icmp .ge 69, 3) := by decide +kernel
theorem dX0_bridge_12 : decode cX0_bridge 12 = .ok (.lload_n 1, 1) := by decide +kernel
theorem dX0_bridge_13 : decode cX0_bridge 13 = .ok (.iload 5, 2) := by decide +kernel
theorem dX0_bridge_15 : decode cX0_bridge 15 = .ok (.invokestatic 104, 3) := by decide +kernel
theorem dX0_bridge_18 : decode cX0_bridge 18 = .ok (.ifCond .eq 24, 3) := by decide +kernel
theorem dX0_bridge_21 : decode cX0_bridge 21 = .ok (.aload_n 0, 1) := by decide +kernel
theorem dX0_bridge_22 : decode cX0_bridge 22 = .ok (.getfield 26, 3) := by decide +kernel
theorem dX0_bridge_25 : decode cX0_bridge 25 = .ok (.iload 5, 2) := by decide +kernel
theorem dX0_bridge_27 : decode cX0_bridge 27 = .ok (.dup2, 1) := by decide +kernel
theorem dX0_bridge_28 : decode cX0_bridge 28 = .ok (.laload, 1) := by decide +kernel
theorem dX0_bridge_29 : decode cX0_bridge 29 = .ok (.lload_n 3, 1) := by decide +kernel
theorem dX0_bridge_30 : decode cX0_bridge 30 = .ok (.iload 5, 2) := by decide +kernel
theorem dX0_bridge_32 : decode cX0_bridge 32 = .ok (.invokestatic 65, 3) := by decide +kernel
theorem dX0_bridge_35 : decode cX0_bridge 35 = .ok (.ldc2_w 63, 3) := by decide +kernel
theorem dX0_bridge_38 : decode cX0_bridge 38 = .ok (.lxor, 1) := by decide +kernel
theorem dX0_bridge_39 : decode cX0_bridge 39 = .ok (.land, 1) := by decide +kernel
theorem dX0_bridge_40 : decode cX0_bridge 40 = .ok (.lor, 1) := by decide +kernel
theorem dX0_bridge_41 : decode cX0_bridge 41 = .ok (.lastore, 1) := by decide +kernel
theorem dX0_bridge_42 : decode cX0_bridge 42 = .ok (.lload_n 3, 1) := by decide +kernel
theorem dX0_bridge_43 : decode cX0_bridge 43 = .ok (.iload 5, 2) := by decide +kernel
theorem dX0_bridge_45 : decode cX0_bridge 45 = .ok (.invokestatic 104, 3) := by decide +kernel
theorem dX0_bridge_48 : decode cX0_bridge 48 = .ok (.ifCond .eq 24, 3) := by decide +kernel
theorem dX0_bridge_51 : decode cX0_bridge 51 = .ok (.aload_n 0, 1) := by decide +kernel
theorem dX0_bridge_52 : decode cX0_bridge 52 = .ok (.getfield 29, 3) := by decide +kernel
theorem dX0_bridge_55 : decode cX0_bridge 55 = .ok (.iload 5, 2) := by decide +kernel
theorem dX0_bridge_57 : decode cX0_bridge 57 = .ok (.dup2, 1) := by decide +kernel
theorem dX0_bridge_58 : decode cX0_bridge 58 = .ok (.laload, 1) := by decide +kernel
theorem dX0_bridge_59 : decode cX0_bridge 59 = .ok (.lload_n 1, 1) := by decide +kernel
theorem dX0_bridge_60 : decode cX0_bridge 60 = .ok (.iload 5, 2) := by decide +kernel
theorem dX0_bridge_62 : decode cX0_bridge 62 = .ok (.invokestatic 65, 3) := by decide +kernel
theorem dX0_bridge_65 : decode cX0_bridge 65 = .ok (.ldc2_w 63, 3) := by decide +kernel
theorem dX0_bridge_68 : decode cX0_bridge 68 = .ok (.lxor, 1) := by decide +kernel
theorem dX0_bridge_69 : decode cX0_bridge 69 = .ok (.land, 1) := by decide +kernel
theorem dX0_bridge_70 : decode cX0_bridge 70 = .ok (.lor, 1) := by decide +kernel
theorem dX0_bridge_71 : decode cX0_bridge 71 = .ok (.lastore, 1) := by decide +kernel
theorem dX0_bridge_72 : decode cX0_bridge 72 = .ok (.iinc 5 1, 3) := by decide +kernel
theorem dX0_bridge_75 : decode cX0_bridge 75 = .ok (.goto (-72), 3) := by decide +kernel
theorem dX0_bridge_78 : decode cX0_bridge 78 = .ok (.return_, 1) := by decide +kernel
theorem dX0_renewRoad_0 : decode cX0_renewRoad 0 = .ok (.aload_n 0, 1) := by decide +kernel
theorem dX0_renewRoad_1 : decode cX0_renewRoad 1 = .ok (.getfield 84, 3) := by decide +kernel
theorem dX0_renewRoad_4 : decode cX0_renewRoad 4 = .ok (.ifCond .ne 5, 3) := by decide +kernel
theorem dX0_renewRoad_7 : decode cX0_renewRoad 7 = .ok (.iconst 0, 1) := by decide +kernel
theorem dX0_renewRoad_8 : decode cX0_renewRoad 8 = .ok (.ireturn, 1) := by decide +kernel
theorem dX0_renewRoad_9 : decode cX0_renewRoad 9 = .ok (.aload_n 0, 1) := by decide +kernel
theorem dX0_renewRoad_10 : decode cX0_renewRoad 10 = .ok (.aload_n 0, 1) := by decide +kernel
theorem dX0_renewRoad_11 : decode cX0_renewRoad 11 = .ok (.getfield 9, 3) := by decide +kernel
theorem dX0_renewRoad_14 : decode cX0_renewRoad 14 = .ok (.iload_n 1, 1) := by decide +kernel
theorem dX0_renewRoad_15 : decode cX0_renewRoad 15 = .ok (.invokevirtual 101, 3) := by decide +kernel
theorem dX0_renewRoad_18 : decode cX0_renewRoad 18 = .ok (.iload_n 1, 1) := by decide +kernel
theorem dX0_renewRoad_19 : decode cX0_renewRoad 19 = .ok (.invokestatic 65, 3) := by decide +kernel
theorem dX0_renewRoad_22 : decode cX0_renewRoad 22 = .ok (.invokevirtual 108, 3) := by decide +kernel
theorem dX0_renewRoad_25 : decode cX0_renewRoad 25 = .ok (.aload_n 0, 1) := by decide +kernel
theorem dX0_renewRoad_26 : decode cX0_renewRoad 26 = .ok (.iload_n 1, 1) := by decide +kernel
theorem dX0_renewRoad_27 : decode cX0_renewRoad 27 = .ok (.invokestatic 65, 3) := by decide +kernel
theorem dX0_renewRoad_30 : decode cX0_renewRoad 30 = .ok (.aload_n 0, 1) := by decide +kernel
theorem dX0_renewRoad_31 : decode cX0_renewRoad 31 = .ok (.getfield 9, 3) := by decide +kernel
theorem dX0_renewRoad_34 : decode cX0_renewRoad 34 = .ok (.iload_n 1, 1) := by decide +kernel
theorem dX0_renewRoad_35 : decode cX0_renewRoad 35 = .ok (.invokevirtual 98, 3) := by decide +kernel
theorem dX0_renewRoad_38 : decode cX0_renewRoad 38 = .ok (.invokevirtual 108, 3) := by decide +kernel
theorem dX0_renewRoad_41 : decode cX0_renewRoad 41 = .ok (.aload_n 0, 1) := by decide +kernel
theorem dX0_renewRoad_42 : decode cX0_renewRoad 42 = .ok (.invokevirtual 111, 3) := by decide +kernel
theorem dX0_renewRoad_45 : decode cX0_renewRoad 45 = .ok (.ireturn, 1) := by decide +kernel
theorem dX0_renewTurn_0 : decode cX0_renewTurn 0 = .ok (.aload_n 0, 1) := by decide +kernel
theorem dX0_renewTurn_1 : decode cX0_renewTurn 1 = .ok (.getfield 84, 3) := by decide +kernel
theorem dX0_renewTurn_4 : decode cX0_renewTurn 4 = .ok (.ifCond .ne 5, 3) := by decide +kernel
theorem dX0_renewTurn_7 : decode cX0_renewTurn 7 = .ok (.iconst 0, 1) := by decide +kernel
theorem dX0_renewTurn_8 : decode cX0_renewTurn 8 = .ok (.ireturn, 1) := by decide +kernel
theorem dX0_renewTurn_9 : decode cX0_renewTurn 9 = .ok (.aload_n 0, 1) := by decide +kernel
theorem dX0_renewTurn_10 : decode cX0_renewTurn 10 = .ok (.iload_n 1, 1) := by decide +kernel
theorem dX0_renewTurn_11 : decode cX0_renewTurn 11 = .ok (.invokestatic 65, 3) := by decide +kernel
theorem dX0_renewTurn_14 : decode cX0_renewTurn 14 = .ok (.iload_n 2, 1) := by decide +kernel
theorem dX0_renewTurn_15 : decode cX0_renewTurn 15 = .ok (.invokestatic 65, 3) := by decide +kernel
theorem dX0_renewTurn_18 : decode cX0_renewTurn 18 = .ok (.invokevirtual 108, 3) := by decide +kernel
theorem dX0_renewTurn_21 : decode cX0_renewTurn 21 = .ok (.aload_n 0, 1) := by decide +kernel
theorem dX0_renewTurn_22 : decode cX0_renewTurn 22 = .ok (.invokevirtual 111, 3) := by decide +kernel
theorem dX0_renewTurn_25 : decode cX0_renewTurn 25 = .ok (.ireturn, 1) := by decide +kernel
theorem dX0_renewAll_0 : decode cX0_renewAll 0 = .ok (.aload_n 0, 1) := by decide +kernel
theorem dX0_renewAll_1 : decode cX0_renewAll 1 = .ok (.getfield 84, 3) := by decide +kernel
theorem dX0_renewAll_4 : decode cX0_renewAll 4 = .ok (.ifCond .ne 5, 3) := by decide +kernel
theorem dX0_renewAll_7 : decode cX0_renewAll 7 = .ok (.iconst 0, 1) := by decide +kernel
theorem dX0_renewAll_8 : decode cX0_renewAll 8 = .ok (.ireturn, 1) := by decide +kernel
theorem dX0_renewAll_9 : decode cX0_renewAll 9 = .ok (.aload_n 0, 1) := by decide +kernel
theorem dX0_renewAll_10 : decode cX0_renewAll 10 = .ok (.aload_n 0, 1) := by decide +kernel
theorem dX0_renewAll_11 : decode cX0_renewAll 11 = .ok (.getfield 9, 3) := by decide +kernel
theorem dX0_renewAll_14 : decode cX0_renewAll 14 = .ok (.invokevirtual 55, 3) := by decide +kernel
theorem dX0_renewAll_17 : decode cX0_renewAll 17 = .ok (.aload_n 0, 1) := by decide +kernel
theorem dX0_renewAll_18 : decode cX0_renewAll 18 = .ok (.getfield 9, 3) := by decide +kernel
theorem dX0_renewAll_21 : decode cX0_renewAll 21 = .ok (.invokevirtual 55, 3) := by decide +kernel
theorem dX0_renewAll_24 : decode cX0_renewAll 24 = .ok (.invokevirtual 108, 3) := by decide +kernel
theorem dX0_renewAll_27 : decode cX0_renewAll 27 = .ok (.aload_n 0, 1) := by decide +kernel
theorem dX0_renewAll_28 : decode cX0_renewAll 28 = .ok (.invokevirtual 111, 3) := by decide +kernel
theorem dX0_renewAll_31 : decode cX0_renewAll 31 = .ok (.ireturn, 1) := by decide +kernel
theorem dX0_renewSteps_0 : decode cX0_renewSteps 0 = .ok (.lload_n 1, 1) := by decide +kernel
theorem dX0_renewSteps_1 : decode cX0_renewSteps 1 = .ok (.iconst 0, 1) := by decide +kernel
theorem dX0_renewSteps_2 : decode cX0_renewSteps 2 = .ok (.invokestatic 114, 3) := by decide +kernel
theorem dX0_renewSteps_5 : decode cX0_renewSteps 5 = .ok (.istore 5, 2) := by decide +kernel
theorem dX0_renewSteps_7 : decode cX0_renewSteps 7 = .ok (.iload 5, 2) := by decide +kernel
theorem dX0_renewSteps_9 : decode cX0_renewSteps 9 = .ok (.bipush 64, 2) := by decide +kernel
theorem dX0_renewSteps_11 : decode cX0_renewSteps 11 = .ok (.if_icmp .ge 113, 3) := by decide +kernel
theorem dX0_renewSteps_14 : decode cX0_renewSteps 14 = .ok (.aload_n 0, 1) := by decide +kernel
theorem dX0_renewSteps_15 : decode cX0_renewSteps 15 = .ok (.getfield 9, 3) := by decide +kernel
theorem dX0_renewSteps_18 : decode cX0_renewSteps 18 = .ok (.iload 5, 2) := by decide +kernel
theorem dX0_renewSteps_20 : decode cX0_renewSteps 20 = .ok (.invokevirtual 98, 3) := by decide +kernel
theorem dX0_renewSteps_23 : decode cX0_renewSteps 23 = .ok (.lload_n 3, 1) := by decide +kernel
theorem dX0_renewSteps_24 : decode cX0_renewSteps 24 = .ok (.land, 1) := by decide +kernel
theorem dX0_renewSteps_25 : decode cX0_renewSteps 25 = .ok (.lstore 6, 2) := by decide +kernel
theorem dX0_renewSteps_27 : decode cX0_renewSteps 27 = .ok (.lload 6, 2) := by decide +kernel
theorem dX0_renewSteps_29 : decode cX0_renewSteps 29 = .ok (.iconst 0, 1) := by decide +kernel
theorem dX0_renewSteps_30 : decode cX0_renewSteps 30 = .ok (.invokestatic 114, 3) := by decide +kernel
theorem dX0_renewSteps_33 : decode cX0_renewSteps 33 = .ok (.istore 8, 2) := by decide +kernel
theorem dX0_renewSteps_35 : decode cX0_renewSteps 35 = .ok (.iload 8, 2) := by decide +kernel
theorem dX0_renewSteps_37 : decode cX0_renewSteps 37 = .ok (.bipush 64, 2) := by decide +kernel
theorem dX0_renewSteps_39 : decode cX0_renewSteps 39 = .ok (.if_icmp .ge 72, 3) := by decide +kernel
theorem dX0_renewSteps_42 : decode cX0_renewSteps 42 = .ok (.aload_n 0, 1) := by decide +kernel
theorem dX0_renewSteps_43 : decode cX0_renewSteps 43 = .ok (.getfield 9, 3) := by decide +kernel
theorem dX0_renewSteps_46 : decode cX0_renewSteps 46 = .ok (.iload 5, 2) := by decide +kernel
theorem dX0_renewSteps_48 : decode cX0_renewSteps 48 = .ok (.iload 8, 2) := by decide +kernel
theorem dX0_renewSteps_50 : decode cX0_renewSteps 50 = .ok (.invokevirtual 118, 3) := by decide +kernel
theorem dX0_renewSteps_53 : decode cX0_renewSteps 53 = .ok (.istore 9, 2) := by decide +kernel
theorem dX0_renewSteps_55 : decode cX0_renewSteps 55 = .ok (.iload 9, 2) := by decide +kernel
theorem dX0_renewSteps_57 : decode cX0_renewSteps 57 = .ok (.aload_n 0, 1) := by decide +kernel
theorem dX0_renewSteps_58 : decode cX0_renewSteps 58 = .ok (.getfield 35, 3) := by decide +kernel
theorem dX0_renewSteps_61 : decode cX0_renewSteps 61 = .ok (.iload 5, 2) := by decide +kernel
theorem dX0_renewSteps_63 : decode cX0_renewSteps 63 = .ok (.iload 8, 2) := by decide +kernel
theorem dX0_renewSteps_65 : decode cX0_renewSteps 65 = .ok (.invokestatic 122, 3) := by decide +kernel
theorem dX0_renewSteps_68 : decode cX0_renewSteps 68 = .ok (.iaload, 1) := by decide +kernel
theorem dX0_renewSteps_69 : decode cX0_renewSteps 69 = .ok (.if_icmp .eq 28, 3) := by decide +kernel
theorem dX0_renewSteps_72 : decode cX0_renewSteps 72 = .ok (.aload_n 0, 1) := by decide +kernel
theorem dX0_renewSteps_73 : decode cX0_renewSteps 73 = .ok (.getfield 35, 3) := by decide +kernel
theorem dX0_renewSteps_76 : decode cX0_renewSteps 76 = .ok (.iload 5, 2) := by decide +kernel
theorem dX0_renewSteps_78 : decode cX0_renewSteps 78 = .ok (.iload 8, 2) := by decide +kernel
theorem dX0_renewSteps_80 : decode cX0_renewSteps 80 = .ok (.invokestatic 122, 3) := by decide +kernel
theorem dX0_renewSteps_83 : decode cX0_renewSteps 83 = .ok (.iload 9, 2) := by decide +kernel
theorem dX0_renewSteps_85 : decode cX0_renewSteps 85 = .ok (.iastore, 1) := by decide +kernel
theorem dX0_renewSteps_86 : decode cX0_renewSteps 86 = .ok (.aload_n 0, 1) := by decide +kernel
theorem dX0_renewSteps_87 : decode cX0_renewSteps 87 = .ok (.iload 5, 2) := by decide +kernel
theorem dX0_renewSteps_89 : decode cX0_renewSteps 89 = .ok (.iload 8, 2) := by decide +kernel
theorem dX0_renewSteps_91 : decode cX0_renewSteps 91 = .ok (.invokestatic 65, 3) := by decide +kernel
theorem dX0_renewSteps_94 : decode cX0_renewSteps 94 = .ok (.invokevirtual 125, 3) := by decide +kernel
theorem dX0_renewSteps_97 : decode cX0_renewSteps 97 = .ok (.lload 6, 2) := by decide +kernel
theorem dX0_renewSteps_99 : decode cX0_renewSteps 99 = .ok (.iload 8, 2) := by decide +kernel
theorem dX0_renewSteps_101 : decode cX0_renewSteps 101 = .ok (.iconst 1, 1) := by decide +kernel
theorem dX0_renewSteps_102 : decode cX0_renewSteps 102 = .ok (.iadd, 1) := by decide +kernel
theorem dX0_renewSteps_103 : decode cX0_renewSteps 103 = .ok (.invokestatic 114, 3) := by decide +kernel
theorem dX0_renewSteps_106 : decode cX0_renewSteps 106 = .ok (.istore 8, 2) := by decide +kernel
theorem dX0_renewSteps_108 : decode cX0_renewSteps 108 = .ok (.goto (-73), 3) := by decide +kernel
theorem dX0_renewSteps_111 : decode cX0_renewSteps 111 = .ok (.lload_n 1, 1) := by decide +kernel
theorem dX0_renewSteps_112 : decode cX0_renewSteps 112 = .ok (.iload 5, 2) := by decide +kernel
theorem dX0_renewSteps_114 : decode cX0_renewSteps 114 = .ok (.iconst 1, 1) := by decide +kernel
theorem dX0_renewSteps_115 : decode cX0_renewSteps 115 = .ok (.iadd, 1) := by decide +kernel
theorem dX0_renewSteps_116 : decode cX0_renewSteps 116 = .ok (.invokestatic 114, 3) := by decide +kernel
theorem dX0_renewSteps_119 : decode cX0_renewSteps 119 = .ok (.istore 5, 2) := by decide +kernel
theorem dX0_renewSteps_121 : decode cX0_renewSteps 121 = .ok (.goto (-114), 3) := by decide +kernel
theorem dX0_renewSteps_124 : decode cX0_renewSteps 124 = .ok (.return_, 1) := by decide +kernel
theorem dX0_markHeads_0 : decode cX0_markHeads 0 = .ok (.aload_n 0, 1) := by decide +kernel
theorem dX0_markHeads_1 : decode cX0_markHeads 1 = .ok (.getfield 38, 3) := by decide +kernel
theorem dX0_markHeads_4 : decode cX0_markHeads 4 = .ok (.iload_n 1, 1) := by decide +kernel
theorem dX0_markHeads_5 : decode cX0_markHeads 5 = .ok (.dup2, 1) := by decide +kernel
theorem dX0_markHeads_6 : decode cX0_markHeads 6 = .ok (.laload, 1) := by decide +kernel
theorem dX0_markHeads_7 : decode cX0_markHeads 7 = .ok (.lload_n 2, 1) := by decide +kernel
theorem dX0_markHeads_8 : decode cX0_markHeads 8 = .ok (.aload_n 0, 1) := by decide +kernel
theorem dX0_markHeads_9 : decode cX0_markHeads 9 = .ok (.getfield 22, 3) := by decide +kernel
theorem dX0_markHeads_12 : decode cX0_markHeads 12 = .ok (.iload_n 1, 1) := by decide +kernel
theorem dX0_markHeads_13 : decode cX0_markHeads 13 = .ok (.laload, 1) := by decide +kernel
theorem dX0_markHeads_14 : decode cX0_markHeads 14 = .ok (.ldc2_w 63, 3) := by decide +kernel
theorem dX0_markHeads_17 : decode cX0_markHeads 17 = .ok (.lxor, 1) := by decide +kernel
theorem dX0_markHeads_18 : decode cX0_markHeads 18 = .ok (.land, 1) := by decide +kernel
theorem dX0_markHeads_19 : decode cX0_markHeads 19 = .ok (.lor, 1) := by decide +kernel
theorem dX0_markHeads_20 : decode cX0_markHeads 20 = .ok (.lastore, 1) := by decide +kernel
theorem dX0_markHeads_21 : decode cX0_markHeads 21 = .ok (.lload_n 2, 1) := by decide +kernel
theorem dX0_markHeads_22 : decode cX0_markHeads 22 = .ok (.aload_n 0, 1) := by decide +kernel
theorem dX0_markHeads_23 : decode cX0_markHeads 23 = .ok (.getfield 22, 3) := by decide +kernel
theorem dX0_markHeads_26 : decode cX0_markHeads 26 = .ok (.iload_n 1, 1) := by decide +kernel
theorem dX0_markHeads_27 : decode cX0_markHeads 27 = .ok (.laload, 1) := by decide +kernel
theorem dX0_markHeads_28 : decode cX0_markHeads 28 = .ok (.land, 1) := by decide +kernel
theorem dX0_markHeads_29 : decode cX0_markHeads 29 = .ok (.lstore 4, 2) := by decide +kernel
theorem dX0_markHeads_31 : decode cX0_markHeads 31 = .ok (.lload 4, 2) := by decide +kernel
theorem dX0_markHeads_33 : decode cX0_markHeads 33 = .ok (.iconst 0, 1) := by decide +kernel
theorem dX0_markHeads_34 : decode cX0_markHeads 34 = .ok (.invokestatic 114, 3) := by decide +kernel
theorem dX0_markHeads_37 : decode cX0_markHeads 37 = .ok (.istore 6, 2) := by decide +kernel
theorem dX0_markHeads_39 : decode cX0_markHeads 39 = .ok (.iload 6, 2) := by decide +kernel
theorem dX0_markHeads_41 : decode cX0_markHeads 41 = .ok (.bipush 64, 2) := by decide +kernel
theorem dX0_markHeads_43 : decode cX0_markHeads 43 = .ok (.if_icmp .ge 31, 3) := by decide +kernel
theorem dX0_markHeads_46 : decode cX0_markHeads 46 = .ok (.aload_n 0, 1) := by decide +kernel
theorem dX0_markHeads_47 : decode cX0_markHeads 47 = .ok (.getfield 41, 3) := by decide +kernel
theorem dX0_markHeads_50 : decode cX0_markHeads 50 = .ok (.iload 6, 2) := by decide +kernel
theorem dX0_markHeads_52 : decode cX0_markHeads 52 = .ok (.dup2, 1) := by decide +kernel
theorem dX0_markHeads_53 : decode cX0_markHeads 53 = .ok (.laload, 1) := by decide +kernel
theorem dX0_markHeads_54 : decode cX0_markHeads 54 = .ok (.iload_n 1, 1) := by decide +kernel
theorem dX0_markHeads_55 : decode cX0_markHeads 55 = .ok (.invokestatic 65, 3) := by decide +kernel
theorem dX0_markHeads_58 : decode cX0_markHeads 58 = .ok (.lor, 1) := by decide +kernel
theorem dX0_markHeads_59 : decode cX0_markHeads 59 = .ok (.lastore, 1) := by decide +kernel
theorem dX0_markHeads_60 : decode cX0_markHeads 60 = .ok (.lload 4, 2) := by decide +kernel
theorem dX0_markHeads_62 : decode cX0_markHeads 62 = .ok (.iload 6, 2) := by decide +kernel
theorem dX0_markHeads_64 : decode cX0_markHeads 64 = .ok (.iconst 1, 1) := by decide +kernel
theorem dX0_markHeads_65 : decode cX0_markHeads 65 = .ok (.iadd, 1) := by decide +kernel
theorem dX0_markHeads_66 : decode cX0_markHeads 66 = .ok (.invokestatic 114, 3) := by decide +kernel
theorem dX0_markHeads_69 : decode cX0_markHeads 69 = .ok (.istore 6, 2) := by decide +kernel
theorem dX0_markHeads_71 : decode cX0_markHeads 71 = .ok (.goto (-32), 3) := by decide +kernel
theorem dX0_markHeads_74 : decode cX0_markHeads 74 = .ok (.return_, 1) := by decide +kernel
theorem dX0_markTails_0 : decode cX0_markTails 0 = .ok (.aload_n 0, 1) := by decide +kernel
theorem dX0_markTails_1 : decode cX0_markTails 1 = .ok (.getfield 41, 3) := by decide +kernel
theorem dX0_markTails_4 : decode cX0_markTails 4 = .ok (.iload_n 3, 1) := by decide +kernel
theorem dX0_markTails_5 : decode cX0_markTails 5 = .ok (.dup2, 1) := by decide +kernel
theorem dX0_markTails_6 : decode cX0_markTails 6 = .ok (.laload, 1) := by decide +kernel
theorem dX0_markTails_7 : decode cX0_markTails 7 = .ok (.lload_n 1, 1) := by decide +kernel
theorem dX0_markTails_8 : decode cX0_markTails 8 = .ok (.aload_n 0, 1) := by decide +kernel
theorem dX0_markTails_9 : decode cX0_markTails 9 = .ok (.getfield 22, 3) := by decide +kernel
theorem dX0_markTails_12 : decode cX0_markTails 12 = .ok (.iload_n 3, 1) := by decide +kernel
theorem dX0_markTails_13 : decode cX0_markTails 13 = .ok (.laload, 1) := by decide +kernel
theorem dX0_markTails_14 : decode cX0_markTails 14 = .ok (.ldc2_w 63, 3) := by decide +kernel
theorem dX0_markTails_17 : decode cX0_markTails 17 = .ok (.lxor, 1) := by decide +kernel
theorem dX0_markTails_18 : decode cX0_markTails 18 = .ok (.land, 1) := by decide +kernel
theorem dX0_markTails_19 : decode cX0_markTails 19 = .ok (.lor, 1) := by decide +kernel
theorem dX0_markTails_20 : decode cX0_markTails 20 = .ok (.lastore, 1) := by decide +kernel
theorem dX0_markTails_21 : decode cX0_markTails 21 = .ok (.lload_n 1, 1) := by decide +kernel
theorem dX0_markTails_22 : decode cX0_markTails 22 = .ok (.aload_n 0, 1) := by decide +kernel
theorem dX0_markTails_23 : decode cX0_markTails 23 = .ok (.getfield 22, 3) := by decide +kernel
theorem dX0_markTails_26 : decode cX0_markTails 26 = .ok (.iload_n 3, 1) := by decide +kernel
theorem dX0_markTails_27 : decode cX0_markTails 27 = .ok (.laload, 1) := by decide +kernel
theorem dX0_markTails_28 : decode cX0_markTails 28 = .ok (.land, 1) := by decide +kernel
theorem dX0_markTails_29 : decode cX0_markTails 29 = .ok (.lstore 4, 2) := by decide +kernel
theorem dX0_markTails_31 : decode cX0_markTails 31 = .ok (.lload 4, 2) := by decide +kernel
theorem dX0_markTails_33 : decode cX0_markTails 33 = .ok (.iconst 0, 1) := by decide +kernel
theorem dX0_markTails_34 : decode cX0_markTails 34 = .ok (.invokestatic 114, 3) := by decide +kernel
theorem dX0_markTails_37 : decode cX0_markTails 37 = .ok (.istore 6, 2) := by decide +kernel
theorem dX0_markTails_39 : decode cX0_markTails 39 = .ok (.iload 6, 2) := by decide +kernel
theorem dX0_markTails_41 : decode cX0_markTails 41 = .ok (.bipush 64, 2) := by decide +kernel
theorem dX0_markTails_43 : decode cX0_markTails 43 = .ok (.if_icmp .ge 31, 3) := by decide +kernel
theorem dX0_markTails_46 : decode cX0_markTails 46 = .ok (.aload_n 0, 1) := by decide +kernel
theorem dX0_markTails_47 : decode cX0_markTails 47 = .ok (.getfield 38, 3) := by decide +kernel
theorem dX0_markTails_50 : decode cX0_markTails 50 = .ok (.iload 6, 2) := by decide +kernel
theorem dX0_markTails_52 : decode cX0_markTails 52 = .ok (.dup2, 1) := by decide +kernel
theorem dX0_markTails_53 : decode cX0_markTails 53 = .ok (.laload, 1) := by decide +kernel
theorem dX0_markTails_54 : decode cX0_markTails 54 = .ok (.iload_n 3, 1) := by decide +kernel
theorem dX0_markTails_55 : decode cX0_markTails 55 = .ok (.invokestatic 65, 3) := by decide +kernel
theorem dX0_markTails_58 : decode cX0_markTails 58 = .ok (.lor, 1) := by decide +kernel
theorem dX0_markTails_59 : decode cX0_markTails 59 = .ok (.lastore, 1) := by decide +kernel
theorem dX0_markTails_60 : decode cX0_markTails 60 = .ok (.lload 4, 2) := by decide +kernel
theorem dX0_markTails_62 : decode cX0_markTails 62 = .ok (.iload 6, 2) := by decide +kernel
theorem dX0_markTails_64 : decode cX0_markTails 64 = .ok (.iconst 1, 1) := by decide +kernel
theorem dX0_markTails_65 : decode cX0_markTails 65 = .ok (.iadd, 1) := by decide +kernel
theorem dX0_markTails_66 : decode cX0_markTails 66 = .ok (.invokestatic 114, 3) := by decide +kernel
theorem dX0_markTails_69 : decode cX0_markTails 69 = .ok (.istore 6, 2) := by decide +kernel
theorem dX0_markTails_71 : decode cX0_markTails 71 = .ok (.goto (-32), 3) := by decide +kernel
theorem dX0_markTails_74 : decode cX0_markTails 74 = .ok (.return_, 1) := by decide +kernel
theorem dX0_settle_0 : decode cX0_settle 0 = .ok (.iconst 0, 1) := by decide +kernel
theorem dX0_settle_1 : decode cX0_settle 1 = .ok (.istore_n 1, 1) := by decide +kernel
theorem dX0_settle_2 : decode cX0_settle 2 = .ok (.iconst 0, 1) := by decide +kernel
theorem dX0_settle_3 : decode cX0_settle 3 = .ok (.istore_n 2, 1) := by decide +kernel
theorem dX0_settle_4 : decode cX0_settle 4 = .ok (.iload_n 2, 1) := by decide +kernel
theorem dX0_settle_5 : decode cX0_settle 5 = .ok (.aload_n 0, 1) := by decide +kernel
theorem dX0_settle_6 : decode cX0_settle 6 = .ok (.getfield 50, 3) := by decide +kernel
theorem dX0_settle_9 : decode cX0_settle 9 = .ok (.if_icmp .ge 124, 3) := by decide +kernel
theorem dX0_settle_12 : decode cX0_settle 12 = .ok (.aload_n 0, 1) := by decide +kernel
theorem dX0_settle_13 : decode cX0_settle 13 = .ok (.getfield 19, 3) := by decide +kernel
theorem dX0_settle_16 : decode cX0_settle 16 = .ok (.iload_n 2, 1) := by decide +kernel
theorem dX0_settle_17 : decode cX0_settle 17 = .ok (.iaload, 1) := by decide +kernel
theorem dX0_settle_18 : decode cX0_settle 18 = .ok (.istore_n 3, 1) := by decide +kernel
theorem dX0_settle_19 : decode cX0_settle 19 = .ok (.aload_n 0, 1) := by decide +kernel
theorem dX0_settle_20 : decode cX0_settle 20 = .ok (.getfield 38, 3) := by decide +kernel
theorem dX0_settle_23 : decode cX0_settle 23 = .ok (.iload_n 3, 1) := by decide +kernel
theorem dX0_settle_24 : decode cX0_settle 24 = .ok (.laload, 1) := by decide +kernel
theorem dX0_settle_25 : decode cX0_settle 25 = .ok (.lstore 4, 2) := by decide +kernel
theorem dX0_settle_27 : decode cX0_settle 27 = .ok (.lload 4, 2) := by decide +kernel
theorem dX0_settle_29 : decode cX0_settle 29 = .ok (.iconst 0, 1) := by decide +kernel
theorem dX0_settle_30 : decode cX0_settle 30 = .ok (.invokestatic 114, 3) := by decide +kernel
theorem dX0_settle_33 : decode cX0_settle 33 = .ok (.istore 6, 2) := by decide +kernel
theorem dX0_settle_35 : decode cX0_settle 35 = .ok (.iload 6, 2) := by decide +kernel
theorem dX0_settle_37 : decode cX0_settle 37 = .ok (.bipush 64, 2) := by decide +kernel
theorem dX0_settle_39 : decode cX0_settle 39 = .ok (.if_icmp .ge 27, 3) := by decide +kernel
theorem dX0_settle_42 : decode cX0_settle 42 = .ok (.iload_n 1, 1) := by decide +kernel
theorem dX0_settle_43 : decode cX0_settle 43 = .ok (.aload_n 0, 1) := by decide +kernel
theorem dX0_settle_44 : decode cX0_settle 44 = .ok (.iload_n 3, 1) := by decide +kernel
theorem dX0_settle_45 : decode cX0_settle 45 = .ok (.iload 6, 2) := by decide +kernel
theorem dX0_settle_47 : decode cX0_settle 47 = .ok (.invokevirtual 129, 3) := by decide +kernel
theorem dX0_settle_50 : decode cX0_settle 50 = .ok (.iadd, 1) := by decide +kernel
theorem dX0_settle_51 : decode cX0_settle 51 = .ok (.istore_n 1, 1) := by decide +kernel
theorem dX0_settle_52 : decode cX0_settle 52 = .ok (.lload 4, 2) := by decide +kernel
theorem dX0_settle_54 : decode cX0_settle 54 = .ok (.iload 6, 2) := by decide +kernel
theorem dX0_settle_56 : decode cX0_settle 56 = .ok (.iconst 1, 1) := by decide +kernel
theorem dX0_settle_57 : decode cX0_settle 57 = .ok (.iadd, 1) := by decide +kernel
theorem dX0_settle_58 : decode cX0_settle 58 = .ok (.invokestatic 114, 3) := by decide +kernel
theorem dX0_settle_61 : decode cX0_settle 61 = .ok (.istore 6, 2) := by decide +kernel
theorem dX0_settle_63 : decode cX0_settle 63 = .ok (.goto (-28), 3) := by decide +kernel
theorem dX0_settle_66 : decode cX0_settle 66 = .ok (.aload_n 0, 1) := by decide +kernel
theorem dX0_settle_67 : decode cX0_settle 67 = .ok (.getfield 38, 3) := by decide +kernel
theorem dX0_settle_70 : decode cX0_settle 70 = .ok (.iload_n 3, 1) := by decide +kernel
theorem dX0_settle_71 : decode cX0_settle 71 = .ok (.lconst 0, 1) := by decide +kernel
theorem dX0_settle_72 : decode cX0_settle 72 = .ok (.lastore, 1) := by decide +kernel
theorem dX0_settle_73 : decode cX0_settle 73 = .ok (.aload_n 0, 1) := by decide +kernel
theorem dX0_settle_74 : decode cX0_settle 74 = .ok (.getfield 41, 3) := by decide +kernel
theorem dX0_settle_77 : decode cX0_settle 77 = .ok (.iload_n 3, 1) := by decide +kernel
theorem dX0_settle_78 : decode cX0_settle 78 = .ok (.laload, 1) := by decide +kernel
theorem dX0_settle_79 : decode cX0_settle 79 = .ok (.lstore 4, 2) := by decide +kernel
theorem dX0_settle_81 : decode cX0_settle 81 = .ok (.lload 4, 2) := by decide +kernel
theorem dX0_settle_83 : decode cX0_settle 83 = .ok (.iconst 0, 1) := by decide +kernel
theorem dX0_settle_84 : decode cX0_settle 84 = .ok (.invokestatic 114, 3) := by decide +kernel
theorem dX0_settle_87 : decode cX0_settle 87 = .ok (.istore 6, 2) := by decide +kernel
theorem dX0_settle_89 : decode cX0_settle 89 = .ok (.iload 6, 2) := by decide +kernel
theorem dX0_settle_91 : decode cX0_settle 91 = .ok (.bipush 64, 2) := by decide +kernel
theorem dX0_settle_93 : decode cX0_settle 93 = .ok (.if_icmp .ge 27, 3) := by decide +kernel
theorem dX0_settle_96 : decode cX0_settle 96 = .ok (.iload_n 1, 1) := by decide +kernel
theorem dX0_settle_97 : decode cX0_settle 97 = .ok (.aload_n 0, 1) := by decide +kernel
theorem dX0_settle_98 : decode cX0_settle 98 = .ok (.iload 6, 2) := by decide +kernel
theorem dX0_settle_100 : decode cX0_settle 100 = .ok (.iload_n 3, 1) := by decide +kernel
theorem dX0_settle_101 : decode cX0_settle 101 = .ok (.invokevirtual 129, 3) := by decide +kernel
theorem dX0_settle_104 : decode cX0_settle 104 = .ok (.iadd, 1) := by decide +kernel
theorem dX0_settle_105 : decode cX0_settle 105 = .ok (.istore_n 1, 1) := by decide +kernel
theorem dX0_settle_106 : decode cX0_settle 106 = .ok (.lload 4, 2) := by decide +kernel
theorem dX0_settle_108 : decode cX0_settle 108 = .ok (.iload 6, 2) := by decide +kernel
theorem dX0_settle_110 : decode cX0_settle 110 = .ok (.iconst 1, 1) := by decide +kernel
theorem dX0_settle_111 : decode cX0_settle 111 = .ok (.iadd, 1) := by decide +kernel
theorem dX0_settle_112 : decode cX0_settle 112 = .ok (.invokestatic 114, 3) := by decide +kernel
theorem dX0_settle_115 : decode cX0_settle 115 = .ok (.istore 6, 2) := by decide +kernel
theorem dX0_settle_117 : decode cX0_settle 117 = .ok (.goto (-28), 3) := by decide +kernel
theorem dX0_settle_120 : decode cX0_settle 120 = .ok (.aload_n 0, 1) := by decide +kernel
theorem dX0_settle_121 : decode cX0_settle 121 = .ok (.getfield 41, 3) := by decide +kernel
theorem dX0_settle_124 : decode cX0_settle 124 = .ok (.iload_n 3, 1) := by decide +kernel
theorem dX0_settle_125 : decode cX0_settle 125 = .ok (.lconst 0, 1) := by decide +kernel
theorem dX0_settle_126 : decode cX0_settle 126 = .ok (.lastore, 1) := by decide +kernel
theorem dX0_settle_127 : decode cX0_settle 127 = .ok (.iinc 2 1, 3) := by decide +kernel
theorem dX0_settle_130 : decode cX0_settle 130 = .ok (.goto (-126), 3) := by decide +kernel
theorem dX0_settle_133 : decode cX0_settle 133 = .ok (.iload_n 1, 1) := by decide +kernel
theorem dX0_settle_134 : decode cX0_settle 134 = .ok (.ireturn, 1) := by decide +kernel
theorem dX0_settleArc_0 : decode cX0_settleArc 0 = .ok (.aload_n 0, 1) := by decide +kernel
theorem dX0_settleArc_1 : decode cX0_settleArc 1 = .ok (.getfield 32, 3) := by decide +kernel
theorem dX0_settleArc_4 : decode cX0_settleArc 4 = .ok (.iload_n 1, 1) := by decide +kernel
theorem dX0_settleArc_5 : decode cX0_settleArc 5 = .ok (.iload_n 2, 1) := by decide +kernel
theorem dX0_settleArc_6 : decode cX0_settleArc 6 = .ok (.invokestatic 122, 3) := by decide +kernel
theorem dX0_settleArc_9 : decode cX0_settleArc 9 = .ok (.iaload, 1) := by decide +kernel
theorem dX0_settleArc_10 : decode cX0_settleArc 10 = .ok (.istore_n 3, 1) := by decide +kernel
theorem dX0_settleArc_11 : decode cX0_settleArc 11 = .ok (.aload_n 0, 1) := by decide +kernel
theorem dX0_settleArc_12 : decode cX0_settleArc 12 = .ok (.iload_n 1, 1) := by decide +kernel
theorem dX0_settleArc_13 : decode cX0_settleArc 13 = .ok (.iload_n 2, 1) := by decide +kernel
theorem dX0_settleArc_14 : decode cX0_settleArc 14 = .ok (.invokevirtual 132, 3) := by decide +kernel
theorem dX0_settleArc_17 : decode cX0_settleArc 17 = .ok (.istore 4, 2) := by decide +kernel
theorem dX0_settleArc_19 : decode cX0_settleArc 19 = .ok (.iload 4, 2) := by decide +kernel
theorem dX0_settleArc_21 : decode cX0_settleArc 21 = .ok (.iload_n 3, 1) := by decide +kernel
theorem dX0_settleArc_22 : decode cX0_settleArc 22 = .ok (.if_icmp .eq 21, 3) := by decide +kernel
theorem dX0_settleArc_25 : decode cX0_settleArc 25 = .ok (.aload_n 0, 1) := by decide +kernel
theorem dX0_settleArc_26 : decode cX0_settleArc 26 = .ok (.getfield 32, 3) := by decide +kernel
theorem dX0_settleArc_29 : decode cX0_settleArc 29 = .ok (.iload_n 1, 1) := by decide +kernel
theorem dX0_settleArc_30 : decode cX0_settleArc 30 = .ok (.iload_n 2, 1) := by decide +kernel
theorem dX0_settleArc_31 : decode cX0_settleArc 31 = .ok (.invokestatic 122, 3) := by decide +kernel
theorem dX0_settleArc_34 : decode cX0_settleArc 34 = .ok (.iload 4, 2) := by decide +kernel
theorem dX0_settleArc_36 : decode cX0_settleArc 36 = .ok (.iastore, 1) := by decide +kernel
theorem dX0_settleArc_37 : decode cX0_settleArc 37 = .ok (.aload_n 0, 1) := by decide +kernel
theorem dX0_settleArc_38 : decode cX0_settleArc 38 = .ok (.iload_n 1, 1) := by decide +kernel
theorem dX0_settleArc_39 : decode cX0_settleArc 39 = .ok (.iload_n 2, 1) := by decide +kernel
theorem dX0_settleArc_40 : decode cX0_settleArc 40 = .ok (.invokevirtual 135, 3) := by decide +kernel
theorem dX0_settleArc_43 : decode cX0_settleArc 43 = .ok (.iload 4, 2) := by decide +kernel
theorem dX0_settleArc_45 : decode cX0_settleArc 45 = .ok (.invokestatic 139, 3) := by decide +kernel
theorem dX0_settleArc_48 : decode cX0_settleArc 48 = .ok (.iload_n 3, 1) := by decide +kernel
theorem dX0_settleArc_49 : decode cX0_settleArc 49 = .ok (.invokestatic 139, 3) := by decide +kernel
theorem dX0_settleArc_52 : decode cX0_settleArc 52 = .ok (.if_icmp .ne 7, 3) := by decide +kernel
theorem dX0_settleArc_55 : decode cX0_settleArc 55 = .ok (.iconst 0, 1) := by decide +kernel
theorem dX0_settleArc_56 : decode cX0_settleArc 56 = .ok (.goto 4, 3) := by decide +kernel
theorem dX0_settleArc_59 : decode cX0_settleArc 59 = .ok (.iconst 1, 1) := by decide +kernel
theorem dX0_settleArc_60 : decode cX0_settleArc 60 = .ok (.ireturn, 1) := by decide +kernel
theorem dX0_markAbove_0 : decode cX0_markAbove 0 = .ok (.aload_n 0, 1) := by decide +kernel
theorem dX0_markAbove_1 : decode cX0_markAbove 1 = .ok (.getfield 22, 3) := by decide +kernel
theorem dX0_markAbove_4 : decode cX0_markAbove 4 = .ok (.iload_n 2, 1) := by decide +kernel
theorem dX0_markAbove_5 : decode cX0_markAbove 5 = .ok (.laload, 1) := by decide +kernel
theorem dX0_markAbove_6 : decode cX0_markAbove 6 = .ok (.iload_n 1, 1) := by decide +kernel
theorem dX0_markAbove_7 : decode cX0_markAbove 7 = .ok (.invokestatic 104, 3) := by decide +kernel
theorem dX0_markAbove_10 : decode cX0_markAbove 10 = .ok (.ifCond .eq 37, 3) := by decide +kernel
theorem dX0_markAbove_13 : decode cX0_markAbove 13 = .ok (.aload_n 0, 1) := by decide +kernel
theorem dX0_markAbove_14 : decode cX0_markAbove 14 = .ok (.aload_n 0, 1) := by decide +kernel
theorem dX0_markAbove_15 : decode cX0_markAbove 15 = .ok (.getfield 29, 3) := by decide +kernel
theorem dX0_markAbove_18 : decode cX0_markAbove 18 = .ok (.iload_n 1, 1) := by decide +kernel
theorem dX0_markAbove_19 : decode cX0_markAbove 19 = .ok (.laload, 1) := by decide +kernel
theorem dX0_markAbove_20 : decode cX0_markAbove 20 = .ok (.aload_n 0, 1) := by decide +kernel
theorem dX0_markAbove_21 : decode cX0_markAbove 21 = .ok (.getfield 22, 3) := by decide +kernel
theorem dX0_markAbove_24 : decode cX0_markAbove 24 = .ok (.iload_n 1, 1) := by decide +kernel
theorem dX0_markAbove_25 : decode cX0_markAbove 25 = .ok (.laload, 1) := by decide +kernel
theorem dX0_markAbove_26 : decode cX0_markAbove 26 = .ok (.ldc2_w 63, 3) := by decide +kernel
theorem dX0_markAbove_29 : decode cX0_markAbove 29 = .ok (.lxor, 1) := by decide +kernel
theorem dX0_markAbove_30 : decode cX0_markAbove 30 = .ok (.land, 1) := by decide +kernel
theorem dX0_markAbove_31 : decode cX0_markAbove 31 = .ok (.iload_n 2, 1) := by decide +kernel
theorem dX0_markAbove_32 : decode cX0_markAbove 32 = .ok (.invokestatic 65, 3) := by decide +kernel
theorem dX0_markAbove_35 : decode cX0_markAbove 35 = .ok (.ldc2_w 63, 3) := by decide +kernel
theorem dX0_markAbove_38 : decode cX0_markAbove 38 = .ok (.lxor, 1) := by decide +kernel
theorem dX0_markAbove_39 : decode cX0_markAbove 39 = .ok (.land, 1) := by decide +kernel
theorem dX0_markAbove_40 : decode cX0_markAbove 40 = .ok (.iload_n 2, 1) := by decide +kernel
theorem dX0_markAbove_41 : decode cX0_markAbove 41 = .ok (.invokevirtual 143, 3) := by decide +kernel
theorem dX0_markAbove_44 : decode cX0_markAbove 44 = .ok (.goto 34, 3) := by decide +kernel
theorem dX0_markAbove_47 : decode cX0_markAbove 47 = .ok (.aload_n 0, 1) := by decide +kernel
theorem dX0_markAbove_48 : decode cX0_markAbove 48 = .ok (.iload_n 1, 1) := by decide +kernel
theorem dX0_markAbove_49 : decode cX0_markAbove 49 = .ok (.aload_n 0, 1) := by decide +kernel
theorem dX0_markAbove_50 : decode cX0_markAbove 50 = .ok (.getfield 26, 3) := by decide +kernel
theorem dX0_markAbove_53 : decode cX0_markAbove 53 = .ok (.iload_n 2, 1) := by decide +kernel
theorem dX0_markAbove_54 : decode cX0_markAbove 54 = .ok (.laload, 1) := by decide +kernel
theorem dX0_markAbove_55 : decode cX0_markAbove 55 = .ok (.aload_n 0, 1) := by decide +kernel
theorem dX0_markAbove_56 : decode cX0_markAbove 56 = .ok (.getfield 22, 3) := by decide +kernel
theorem dX0_markAbove_59 : decode cX0_markAbove 59 = .ok (.iload_n 2, 1) := by decide +kernel
theorem dX0_markAbove_60 : decode cX0_markAbove 60 = .ok (.laload, 1) := by decide +kernel
theorem dX0_markAbove_61 : decode cX0_markAbove 61 = .ok (.ldc2_w 63, 3) := by decide +kernel
theorem dX0_markAbove_64 : decode cX0_markAbove 64 = .ok (.lxor, 1) := by decide +kernel
theorem dX0_markAbove_65 : decode cX0_markAbove 65 = .ok (.land, 1) := by decide +kernel
theorem dX0_markAbove_66 : decode cX0_markAbove 66 = .ok (.iload_n 1, 1) := by decide +kernel
theorem dX0_markAbove_67 : decode cX0_markAbove 67 = .ok (.invokestatic 65, 3) := by decide +kernel
theorem dX0_markAbove_70 : decode cX0_markAbove 70 = .ok (.ldc2_w 63, 3) := by decide +kernel
theorem dX0_markAbove_73 : decode cX0_markAbove 73 = .ok (.lxor, 1) := by decide +kernel
theorem dX0_markAbove_74 : decode cX0_markAbove 74 = .ok (.land, 1) := by decide +kernel
theorem dX0_markAbove_75 : decode cX0_markAbove 75 = .ok (.invokevirtual 125, 3) := by decide +kernel
theorem dX0_markAbove_78 : decode cX0_markAbove 78 = .ok (.return_, 1) := by decide +kernel
theorem dX0_computeArc_0 : decode cX0_computeArc 0 = .ok (.aload_n 0, 1) := by decide +kernel
theorem dX0_computeArc_1 : decode cX0_computeArc 1 = .ok (.getfield 35, 3) := by decide +kernel
theorem dX0_computeArc_4 : decode cX0_computeArc 4 = .ok (.iload_n 1, 1) := by decide +kernel
theorem dX0_computeArc_5 : decode cX0_computeArc 5 = .ok (.iload_n 2, 1) := by decide +kernel
theorem dX0_computeArc_6 : decode cX0_computeArc 6 = .ok (.invokestatic 122, 3) := by decide +kernel
theorem dX0_computeArc_9 : decode cX0_computeArc 9 = .ok (.iaload, 1) := by decide +kernel
theorem dX0_computeArc_10 : decode cX0_computeArc 10 = .ok (.istore_n 3, 1) := by decide +kernel
theorem dX0_computeArc_11 : decode cX0_computeArc 11 = .ok (.aload_n 0, 1) := by decide +kernel
theorem dX0_computeArc_12 : decode cX0_computeArc 12 = .ok (.getfield 26, 3) := by decide +kernel
theorem dX0_computeArc_15 : decode cX0_computeArc 15 = .ok (.iload_n 1, 1) := by decide +kernel
theorem dX0_computeArc_16 : decode cX0_computeArc 16 = .ok (.laload, 1) := by decide +kernel
theorem dX0_computeArc_17 : decode cX0_computeArc 17 = .ok (.aload_n 0, 1) := by decide +kernel
theorem dX0_computeArc_18 : decode cX0_computeArc 18 = .ok (.getfield 29, 3) := by decide +kernel
theorem dX0_computeArc_21 : decode cX0_computeArc 21 = .ok (.iload_n 2, 1) := by decide +kernel
theorem dX0_computeArc_22 : decode cX0_computeArc 22 = .ok (.laload, 1) := by decide +kernel
theorem dX0_computeArc_23 : decode cX0_computeArc 23 = .ok (.land, 1) := by decide +kernel
theorem dX0_computeArc_24 : decode cX0_computeArc 24 = .ok (.aload_n 0, 1) := by decide +kernel
theorem dX0_computeArc_25 : decode cX0_computeArc 25 = .ok (.getfield 22, 3) := by decide +kernel
theorem dX0_computeArc_28 : decode cX0_computeArc 28 = .ok (.iload_n 1, 1) := by decide +kernel
theorem dX0_computeArc_29 : decode cX0_computeArc 29 = .ok (.laload, 1) := by decide +kernel
theorem dX0_computeArc_30 : decode cX0_computeArc 30 = .ok (.land, 1) := by decide +kernel
theorem dX0_computeArc_31 : decode cX0_computeArc 31 = .ok (.aload_n 0, 1) := by decide +kernel
theorem dX0_computeArc_32 : decode cX0_computeArc 32 = .ok (.getfield 22, 3) := by decide +kernel
theorem dX0_computeArc_35 : decode cX0_computeArc 35 = .ok (.iload_n 2, 1) := by decide +kernel
theorem dX0_computeArc_36 : decode cX0_computeArc 36 = .ok (.laload, 1) := by decide +kernel
theorem dX0_computeArc_37 : decode cX0_computeArc 37 = .ok (.land, 1) := by decide +kernel
theorem dX0_computeArc_38 : decode cX0_computeArc 38 = .ok (.lstore 4, 2) := by decide +kernel
theorem dX0_computeArc_40 : decode cX0_computeArc 40 = .ok (.lload 4, 2) := by decide +kernel
theorem dX0_computeArc_42 : decode cX0_computeArc 42 = .ok (.iconst 0, 1) := by decide +kernel
theorem dX0_computeArc_43 : decode cX0_computeArc 43 = .ok (.invokestatic 114, 3) := by decide +kernel
theorem dX0_computeArc_46 : decode cX0_computeArc 46 = .ok (.istore 6, 2) := by decide +kernel
theorem dX0_computeArc_48 : decode cX0_computeArc 48 = .ok (.iload 6, 2) := by decide +kernel
theorem dX0_computeArc_50 : decode cX0_computeArc 50 = .ok (.bipush 64, 2) := by decide +kernel
theorem dX0_computeArc_52 : decode cX0_computeArc 52 = .ok (.if_icmp .ge 45, 3) := by decide +kernel
theorem dX0_computeArc_55 : decode cX0_computeArc 55 = .ok (.iload_n 3, 1) := by decide +kernel
theorem dX0_computeArc_56 : decode cX0_computeArc 56 = .ok (.aload_n 0, 1) := by decide +kernel
theorem dX0_computeArc_57 : decode cX0_computeArc 57 = .ok (.getfield 32, 3) := by decide +kernel
theorem dX0_computeArc_60 : decode cX0_computeArc 60 = .ok (.iload_n 1, 1) := by decide +kernel
theorem dX0_computeArc_61 : decode cX0_computeArc 61 = .ok (.iload 6, 2) := by decide +kernel
theorem dX0_computeArc_63 : decode cX0_computeArc 63 = .ok (.invokestatic 122, 3) := by decide +kernel
theorem dX0_computeArc_66 : decode cX0_computeArc 66 = .ok (.iaload, 1) := by decide +kernel
theorem dX0_computeArc_67 : decode cX0_computeArc 67 = .ok (.aload_n 0, 1) := by decide +kernel
theorem dX0_computeArc_68 : decode cX0_computeArc 68 = .ok (.getfield 32, 3) := by decide +kernel
theorem dX0_computeArc_71 : decode cX0_computeArc 71 = .ok (.iload 6, 2) := by decide +kernel
theorem dX0_computeArc_73 : decode cX0_computeArc 73 = .ok (.iload_n 2, 1) := by decide +kernel
theorem dX0_computeArc_74 : decode cX0_computeArc 74 = .ok (.invokestatic 122, 3) := by decide +kernel
theorem dX0_computeArc_77 : decode cX0_computeArc 77 = .ok (.iaload, 1) := by decide +kernel
theorem dX0_computeArc_78 : decode cX0_computeArc 78 = .ok (.iadd, 1) := by decide +kernel
theorem dX0_computeArc_79 : decode cX0_computeArc 79 = .ok (.invokestatic 147, 3) := by decide +kernel
theorem dX0_computeArc_82 : decode cX0_computeArc 82 = .ok (.istore_n 3, 1) := by decide +kernel
theorem dX0_computeArc_83 : decode cX0_computeArc 83 = .ok (.lload 4, 2) := by decide +kernel
theorem dX0_computeArc_85 : decode cX0_computeArc 85 = .ok (.iload 6, 2) := by decide +kernel
theorem dX0_computeArc_87 : decode cX0_computeArc 87 = .ok (.iconst 1, 1) := by decide +kernel
theorem dX0_computeArc_88 : decode cX0_computeArc 88 = .ok (.iadd, 1) := by decide +kernel
theorem dX0_computeArc_89 : decode cX0_computeArc 89 = .ok (.invokestatic 114, 3) := by decide +kernel
theorem dX0_computeArc_92 : decode cX0_computeArc 92 = .ok (.istore 6, 2) := by decide +kernel
theorem dX0_computeArc_94 : decode cX0_computeArc 94 = .ok (.goto (-46), 3) := by decide +kernel
theorem dX0_computeArc_97 : decode cX0_computeArc 97 = .ok (.iload_n 3, 1) := by decide +kernel
theorem dX0_computeArc_98 : decode cX0_computeArc 98 = .ok (.ireturn, 1) := by decide +kernel
theorem dX0_spreadForward_0 : decode cX0_spreadForward 0 = .ok (.iconst 0, 1) := by decide +kernel
theorem dX0_spreadForward_1 : decode cX0_spreadForward 1 = .ok (.istore_n 2, 1) := by decide +kernel
theorem dX0_spreadForward_2 : decode cX0_spreadForward 2 = .ok (.iload_n 2, 1) := by decide +kernel
theorem dX0_spreadForward_3 : decode cX0_spreadForward 3 = .ok (.aload_n 0, 1) := by decide +kernel
theorem dX0_spreadForward_4 : decode cX0_spreadForward 4 = .ok (.getfield 50, 3) := by decide +kernel
theorem dX0_spreadForward_7 : decode cX0_spreadForward 7 = .ok (.if_icmp .ge 39, 3) := by decide +kernel
theorem dX0_spreadForward_10 : decode cX0_spreadForward 10 = .ok (.aload_n 0, 1) := by decide +kernel
theorem dX0_spreadForward_11 : decode cX0_spreadForward 11 = .ok (.getfield 19, 3) := by decide +kernel
theorem dX0_spreadForward_14 : decode cX0_spreadForward 14 = .ok (.iload_n 2, 1) := by decide +kernel
theorem dX0_spreadForward_15 : decode cX0_spreadForward 15 = .ok (.iaload, 1) := by decide +kernel
theorem dX0_spreadForward_16 : decode cX0_spreadForward 16 = .ok (.istore_n 3, 1) := by decide +kernel
theorem dX0_spreadForward_17 : decode cX0_spreadForward 17 = .ok (.aload_n 0, 1) := by decide +kernel
theorem dX0_spreadForward_18 : decode cX0_spreadForward 18 = .ok (.aload_n 1, 1) := by decide +kernel
theorem dX0_spreadForward_19 : decode cX0_spreadForward 19 = .ok (.iload_n 3, 1) := by decide +kernel
theorem dX0_spreadForward_20 : decode cX0_spreadForward 20 = .ok (.aload_n 0, 1) := by decide +kernel
theorem dX0_spreadForward_21 : decode cX0_spreadForward 21 = .ok (.getfield 26, 3) := by decide +kernel
theorem dX0_spreadForward_24 : decode cX0_spreadForward 24 = .ok (.iload_n 3, 1) := by decide +kernel
theorem dX0_spreadForward_25 : decode cX0_spreadForward 25 = .ok (.laload, 1) := by decide +kernel
theorem dX0_spreadForward_26 : decode cX0_spreadForward 26 = .ok (.aload_n 0, 1) := by decide +kernel
theorem dX0_spreadForward_27 : decode cX0_spreadForward 27 = .ok (.getfield 22, 3) := by decide +kernel
theorem dX0_spreadForward_30 : decode cX0_spreadForward 30 = .ok (.iload_n 3, 1) := by decide +kernel
theorem dX0_spreadForward_31 : decode cX0_spreadForward 31 = .ok (.laload, 1) := by decide +kernel
theorem dX0_spreadForward_32 : decode cX0_spreadForward 32 = .ok (.ldc2_w 63, 3) := by decide +kernel
theorem dX0_spreadForward_35 : decode cX0_spreadForward 35 = .ok (.lxor, 1) := by decide +kernel
theorem dX0_spreadForward_36 : decode cX0_spreadForward 36 = .ok (.land, 1) := by decide +kernel
theorem dX0_spreadForward_37 : decode cX0_spreadForward 37 = .ok (.invokevirtual 152, 3) := by decide +kernel
theorem dX0_spreadForward_40 : decode cX0_spreadForward 40 = .ok (.iinc 2 1, 3) := by decide +kernel
theorem dX0_spreadForward_43 : decode cX0_spreadForward 43 = .ok (.goto (-41), 3) := by decide +kernel
theorem dX0_spreadForward_46 : decode cX0_spreadForward 46 = .ok (.aload_n 0, 1) := by decide +kernel
theorem dX0_spreadForward_47 : decode cX0_spreadForward 47 = .ok (.getfield 50, 3) := by decide +kernel
theorem dX0_spreadForward_50 : decode cX0_spreadForward 50 = .ok (.iconst 1, 1) := by decide +kernel
theorem dX0_spreadForward_51 : decode cX0_spreadForward 51 = .ok (.isub, 1) := by decide +kernel
theorem dX0_spreadForward_52 : decode cX0_spreadForward 52 = .ok (.istore_n 2, 1) := by decide +kernel
theorem dX0_spreadForward_53 : decode cX0_spreadForward 53 = .ok (.iload_n 2, 1) := by decide +kernel
theorem dX0_spreadForward_54 : decode cX0_spreadForward 54 = .ok (.ifCond .lt 35, 3) := by decide +kernel
theorem dX0_spreadForward_57 : decode cX0_spreadForward 57 = .ok (.aload_n 0, 1) := by decide +kernel
theorem dX0_spreadForward_58 : decode cX0_spreadForward 58 = .ok (.getfield 19, 3) := by decide +kernel
theorem dX0_spreadForward_61 : decode cX0_spreadForward 61 = .ok (.iload_n 2, 1) := by decide +kernel
theorem dX0_spreadForward_62 : decode cX0_spreadForward 62 = .ok (.iaload, 1) := by decide +kernel
theorem dX0_spreadForward_63 : decode cX0_spreadForward 63 = .ok (.istore_n 3, 1) := by decide +kernel
theorem dX0_spreadForward_64 : decode cX0_spreadForward 64 = .ok (.aload_n 0, 1) := by decide +kernel
theorem dX0_spreadForward_65 : decode cX0_spreadForward 65 = .ok (.aload_n 1, 1) := by decide +kernel
theorem dX0_spreadForward_66 : decode cX0_spreadForward 66 = .ok (.iload_n 3, 1) := by decide +kernel
theorem dX0_spreadForward_67 : decode cX0_spreadForward 67 = .ok (.aload_n 0, 1) := by decide +kernel
theorem dX0_spreadForward_68 : decode cX0_spreadForward 68 = .ok (.getfield 26, 3) := by decide +kernel
theorem dX0_spreadForward_71 : decode cX0_spreadForward 71 = .ok (.iload_n 3, 1) := by decide +kernel
theorem dX0_spreadForward_72 : decode cX0_spreadForward 72 = .ok (.laload, 1) := by decide +kernel
theorem dX0_spreadForward_73 : decode cX0_spreadForward 73 = .ok (.aload_n 0, 1) := by decide +kernel
theorem dX0_spreadForward_74 : decode cX0_spreadForward 74 = .ok (.getfield 22, 3) := by decide +kernel
theorem dX0_spreadForward_77 : decode cX0_spreadForward 77 = .ok (.iload_n 3, 1) := by decide +kernel
theorem dX0_spreadForward_78 : decode cX0_spreadForward 78 = .ok (.laload, 1) := by decide +kernel
theorem dX0_spreadForward_79 : decode cX0_spreadForward 79 = .ok (.land, 1) := by decide +kernel
theorem dX0_spreadForward_80 : decode cX0_spreadForward 80 = .ok (.invokevirtual 152, 3) := by decide +kernel
theorem dX0_spreadForward_83 : decode cX0_spreadForward 83 = .ok (.iinc 2 (-1), 3) := by decide +kernel
theorem dX0_spreadForward_86 : decode cX0_spreadForward 86 = .ok (.goto (-33), 3) := by decide +kernel
theorem dX0_spreadForward_89 : decode cX0_spreadForward 89 = .ok (.return_, 1) := by decide +kernel
theorem dX0_passOn_0 : decode cX0_passOn 0 = .ok (.aload_n 1, 1) := by decide +kernel
theorem dX0_passOn_1 : decode cX0_passOn 1 = .ok (.iload_n 2, 1) := by decide +kernel
theorem dX0_passOn_2 : decode cX0_passOn 2 = .ok (.iaload, 1) := by decide +kernel
theorem dX0_passOn_3 : decode cX0_passOn 3 = .ok (.ldc 88, 2) := by decide +kernel
theorem dX0_passOn_5 : decode cX0_passOn 5 = .ok (.if_icmp .lt 4, 3) := by decide +kernel
theorem dX0_passOn_8 : decode cX0_passOn 8 = .ok (.return_, 1) := by decide +kernel
theorem dX0_passOn_9 : decode cX0_passOn 9 = .ok (.lload_n 3, 1) := by decide +kernel
theorem dX0_passOn_10 : decode cX0_passOn 10 = .ok (.iconst 0, 1) := by decide +kernel
theorem dX0_passOn_11 : decode cX0_passOn 11 = .ok (.invokestatic 114, 3) := by decide +kernel
theorem dX0_passOn_14 : decode cX0_passOn 14 = .ok (.istore 5, 2) := by decide +kernel
theorem dX0_passOn_16 : decode cX0_passOn 16 = .ok (.iload 5, 2) := by decide +kernel
theorem dX0_passOn_18 : decode cX0_passOn 18 = .ok (.bipush 64, 2) := by decide +kernel
theorem dX0_passOn_20 : decode cX0_passOn 20 = .ok (.if_icmp .ge 42, 3) := by decide +kernel
theorem dX0_passOn_23 : decode cX0_passOn 23 = .ok (.aload_n 1, 1) := by decide +kernel
theorem dX0_passOn_24 : decode cX0_passOn 24 = .ok (.iload 5, 2) := by decide +kernel
theorem dX0_passOn_26 : decode cX0_passOn 26 = .ok (.aload_n 1, 1) := by decide +kernel
theorem dX0_passOn_27 : decode cX0_passOn 27 = .ok (.iload 5, 2) := by decide +kernel
theorem dX0_passOn_29 : decode cX0_passOn 29 = .ok (.iaload, 1) := by decide +kernel
theorem dX0_passOn_30 : decode cX0_passOn 30 = .ok (.aload_n 1, 1) := by decide +kernel
theorem dX0_passOn_31 : decode cX0_passOn 31 = .ok (.iload_n 2, 1) := by decide +kernel
theorem dX0_passOn_32 : decode cX0_passOn 32 = .ok (.iaload, 1) := by decide +kernel
theorem dX0_passOn_33 : decode cX0_passOn 33 = .ok (.aload_n 0, 1) := by decide +kernel
theorem dX0_passOn_34 : decode cX0_passOn 34 = .ok (.getfield 32, 3) := by decide +kernel
theorem dX0_passOn_37 : decode cX0_passOn 37 = .ok (.iload_n 2, 1) := by decide +kernel
theorem dX0_passOn_38 : decode cX0_passOn 38 = .ok (.iload 5, 2) := by decide +kernel
theorem dX0_passOn_40 : decode cX0_passOn 40 = .ok (.invokestatic 122, 3) := by decide +kernel
theorem dX0_passOn_43 : decode cX0_passOn 43 = .ok (.iaload, 1) := by decide +kernel
theorem dX0_passOn_44 : decode cX0_passOn 44 = .ok (.iadd, 1) := by decide +kernel
theorem dX0_passOn_45 : decode cX0_passOn 45 = .ok (.invokestatic 147, 3) := by decide +kernel
theorem dX0_passOn_48 : decode cX0_passOn 48 = .ok (.iastore, 1) := by decide +kernel
theorem dX0_passOn_49 : decode cX0_passOn 49 = .ok (.lload_n 3, 1) := by decide +kernel
theorem dX0_passOn_50 : decode cX0_passOn 50 = .ok (.iload 5, 2) := by decide +kernel
theorem dX0_passOn_52 : decode cX0_passOn 52 = .ok (.iconst 1, 1) := by decide +kernel
theorem dX0_passOn_53 : decode cX0_passOn 53 = .ok (.iadd, 1) := by decide +kernel
theorem dX0_passOn_54 : decode cX0_passOn 54 = .ok (.invokestatic 114, 3) := by decide +kernel
theorem dX0_passOn_57 : decode cX0_passOn 57 = .ok (.istore 5, 2) := by decide +kernel
theorem dX0_passOn_59 : decode cX0_passOn 59 = .ok (.goto (-43), 3) := by decide +kernel
theorem dX0_passOn_62 : decode cX0_passOn 62 = .ok (.return_, 1) := by decide +kernel
theorem dX0_spreadBackward_0 : decode cX0_spreadBackward 0 = .ok (.iconst 0, 1) := by decide +kernel
theorem dX0_spreadBackward_1 : decode cX0_spreadBackward 1 = .ok (.istore_n 2, 1) := by decide +kernel
theorem dX0_spreadBackward_2 : decode cX0_spreadBackward 2 = .ok (.iload_n 2, 1) := by decide +kernel
theorem dX0_spreadBackward_3 : decode cX0_spreadBackward 3 = .ok (.aload_n 0, 1) := by decide +kernel
theorem dX0_spreadBackward_4 : decode cX0_spreadBackward 4 = .ok (.getfield 50, 3) := by decide +kernel
theorem dX0_spreadBackward_7 : decode cX0_spreadBackward 7 = .ok (.if_icmp .ge 39, 3) := by decide +kernel
theorem dX0_spreadBackward_10 : decode cX0_spreadBackward 10 = .ok (.aload_n 0, 1) := by decide +kernel
theorem dX0_spreadBackward_11 : decode cX0_spreadBackward 11 = .ok (.getfield 19, 3) := by decide +kernel
theorem dX0_spreadBackward_14 : decode cX0_spreadBackward 14 = .ok (.iload_n 2, 1) := by decide +kernel
theorem dX0_spreadBackward_15 : decode cX0_spreadBackward 15 = .ok (.iaload, 1) := by decide +kernel
theorem dX0_spreadBackward_16 : decode cX0_spreadBackward 16 = .ok (.istore_n 3, 1) := by decide +kernel
theorem dX0_spreadBackward_17 : decode cX0_spreadBackward 17 = .ok (.aload_n 0, 1) := by decide +kernel
theorem dX0_spreadBackward_18 : decode cX0_spreadBackward 18 = .ok (.aload_n 1, 1) := by decide +kernel
theorem dX0_spreadBackward_19 : decode cX0_spreadBackward 19 = .ok (.iload_n 3, 1) := by decide +kernel
theorem dX0_spreadBackward_20 : decode cX0_spreadBackward 20 = .ok (.aload_n 0, 1) := by decide +kernel
theorem dX0_spreadBackward_21 : decode cX0_spreadBackward 21 = .ok (.getfield 29, 3) := by decide +kernel
theorem dX0_spreadBackward_24 : decode cX0_spreadBackward 24 = .ok (.iload_n 3, 1) := by decide +kernel
theorem dX0_spreadBackward_25 : decode cX0_spreadBackward 25 = .ok (.laload, 1) := by decide +kernel
theorem dX0_spreadBackward_26 : decode cX0_spreadBackward 26 = .ok (.aload_n 0, 1) := by decide +kernel
theorem dX0_spreadBackward_27 : decode cX0_spreadBackward 27 = .ok (.getfield 22, 3) := by decide +kernel
theorem dX0_spreadBackward_30 : decode cX0_spreadBackward 30 = .ok (.iload_n 3, 1) := by decide +kernel
theorem dX0_spreadBackward_31 : decode cX0_spreadBackward 31 = .ok (.laload, 1) := by decide +kernel
theorem dX0_spreadBackward_32 : decode cX0_spreadBackward 32 = .ok (.ldc2_w 63, 3) := by decide +kernel
theorem dX0_spreadBackward_35 : decode cX0_spreadBackward 35 = .ok (.lxor, 1) := by decide +kernel
theorem dX0_spreadBackward_36 : decode cX0_spreadBackward 36 = .ok (.land, 1) := by decide +kernel
theorem dX0_spreadBackward_37 : decode cX0_spreadBackward 37 = .ok (.invokevirtual 156, 3) := by decide +kernel
theorem dX0_spreadBackward_40 : decode cX0_spreadBackward 40 = .ok (.iinc 2 1, 3) := by decide +kernel
theorem dX0_spreadBackward_43 : decode cX0_spreadBackward 43 = .ok (.goto (-41), 3) := by decide +kernel
theorem dX0_spreadBackward_46 : decode cX0_spreadBackward 46 = .ok (.aload_n 0, 1) := by decide +kernel
theorem dX0_spreadBackward_47 : decode cX0_spreadBackward 47 = .ok (.getfield 50, 3) := by decide +kernel
theorem dX0_spreadBackward_50 : decode cX0_spreadBackward 50 = .ok (.iconst 1, 1) := by decide +kernel
theorem dX0_spreadBackward_51 : decode cX0_spreadBackward 51 = .ok (.isub, 1) := by decide +kernel
theorem dX0_spreadBackward_52 : decode cX0_spreadBackward 52 = .ok (.istore_n 2, 1) := by decide +kernel
theorem dX0_spreadBackward_53 : decode cX0_spreadBackward 53 = .ok (.iload_n 2, 1) := by decide +kernel
theorem dX0_spreadBackward_54 : decode cX0_spreadBackward 54 = .ok (.ifCond .lt 35, 3) := by decide +kernel
theorem dX0_spreadBackward_57 : decode cX0_spreadBackward 57 = .ok (.aload_n 0, 1) := by decide +kernel
theorem dX0_spreadBackward_58 : decode cX0_spreadBackward 58 = .ok (.getfield 19, 3) := by decide +kernel
theorem dX0_spreadBackward_61 : decode cX0_spreadBackward 61 = .ok (.iload_n 2, 1) := by decide +kernel
theorem dX0_spreadBackward_62 : decode cX0_spreadBackward 62 = .ok (.iaload, 1) := by decide +kernel
theorem dX0_spreadBackward_63 : decode cX0_spreadBackward 63 = .ok (.istore_n 3, 1) := by decide +kernel
theorem dX0_spreadBackward_64 : decode cX0_spreadBackward 64 = .ok (.aload_n 0, 1) := by decide +kernel
theorem dX0_spreadBackward_65 : decode cX0_spreadBackward 65 = .ok (.aload_n 1, 1) := by decide +kernel
theorem dX0_spreadBackward_66 : decode cX0_spreadBackward 66 = .ok (.iload_n 3, 1) := by decide +kernel
theorem dX0_spreadBackward_67 : decode cX0_spreadBackward 67 = .ok (.aload_n 0, 1) := by decide +kernel
theorem dX0_spreadBackward_68 : decode cX0_spreadBackward 68 = .ok (.getfield 29, 3) := by decide +kernel
theorem dX0_spreadBackward_71 : decode cX0_spreadBackward 71 = .ok (.iload_n 3, 1) := by decide +kernel
theorem dX0_spreadBackward_72 : decode cX0_spreadBackward 72 = .ok (.laload, 1) := by decide +kernel
theorem dX0_spreadBackward_73 : decode cX0_spreadBackward 73 = .ok (.aload_n 0, 1) := by decide +kernel
theorem dX0_spreadBackward_74 : decode cX0_spreadBackward 74 = .ok (.getfield 22, 3) := by decide +kernel
theorem dX0_spreadBackward_77 : decode cX0_spreadBackward 77 = .ok (.iload_n 3, 1) := by decide +kernel
theorem dX0_spreadBackward_78 : decode cX0_spreadBackward 78 = .ok (.laload, 1) := by decide +kernel
theorem dX0_spreadBackward_79 : decode cX0_spreadBackward 79 = .ok (.land, 1) := by decide +kernel
theorem dX0_spreadBackward_80 : decode cX0_spreadBackward 80 = .ok (.invokevirtual 156, 3) := by decide +kernel
theorem dX0_spreadBackward_83 : decode cX0_spreadBackward 83 = .ok (.iinc 2 (-1), 3) := by decide +kernel
theorem dX0_spreadBackward_86 : decode cX0_spreadBackward 86 = .ok (.goto (-33), 3) := by decide +kernel
theorem dX0_spreadBackward_89 : decode cX0_spreadBackward 89 = .ok (.return_, 1) := by decide +kernel
theorem dX0_passBack_0 : decode cX0_passBack 0 = .ok (.aload_n 1, 1) := by decide +kernel
theorem dX0_passBack_1 : decode cX0_passBack 1 = .ok (.iload_n 2, 1) := by decide +kernel
theorem dX0_passBack_2 : decode cX0_passBack 2 = .ok (.iaload, 1) := by decide +kernel
theorem dX0_passBack_3 : decode cX0_passBack 3 = .ok (.ldc 88, 2) := by decide +kernel
theorem dX0_passBack_5 : decode cX0_passBack 5 = .ok (.if_icmp .lt 4, 3) := by decide +kernel
theorem dX0_passBack_8 : decode cX0_passBack 8 = .ok (.return_, 1) := by decide +kernel
theorem dX0_passBack_9 : decode cX0_passBack 9 = .ok (.lload_n 3, 1) := by decide +kernel
theorem dX0_passBack_10 : decode cX0_passBack 10 = .ok (.iconst 0, 1) := by decide +kernel
theorem dX0_passBack_11 : decode cX0_passBack 11 = .ok (.invokestatic 114, 3) := by decide +kernel
theorem dX0_passBack_14 : decode cX0_passBack 14 = .ok (.istore 5, 2) := by decide +kernel
theorem dX0_passBack_16 : decode cX0_passBack 16 = .ok (.iload 5, 2) := by decide +kernel
theorem dX0_passBack_18 : decode cX0_passBack 18 = .ok (.bipush 64, 2) := by decide +kernel
theorem dX0_passBack_20 : decode cX0_passBack 20 = .ok (.if_icmp .ge 42, 3) := by decide +kernel
theorem dX0_passBack_23 : decode cX0_passBack 23 = .ok (.aload_n 1, 1) := by decide +kernel
theorem dX0_passBack_24 : decode cX0_passBack 24 = .ok (.iload 5, 2) := by decide +kernel
theorem dX0_passBack_26 : decode cX0_passBack 26 = .ok (.aload_n 1, 1) := by decide +kernel
theorem dX0_passBack_27 : decode cX0_passBack 27 = .ok (.iload 5, 2) := by decide +kernel
theorem dX0_passBack_29 : decode cX0_passBack 29 = .ok (.iaload, 1) := by decide +kernel
theorem dX0_passBack_30 : decode cX0_passBack 30 = .ok (.aload_n 0, 1) := by decide +kernel
theorem dX0_passBack_31 : decode cX0_passBack 31 = .ok (.getfield 32, 3) := by decide +kernel
theorem dX0_passBack_34 : decode cX0_passBack 34 = .ok (.iload 5, 2) := by decide +kernel
theorem dX0_passBack_36 : decode cX0_passBack 36 = .ok (.iload_n 2, 1) := by decide +kernel
theorem dX0_passBack_37 : decode cX0_passBack 37 = .ok (.invokestatic 122, 3) := by decide +kernel
theorem dX0_passBack_40 : decode cX0_passBack 40 = .ok (.iaload, 1) := by decide +kernel
theorem dX0_passBack_41 : decode cX0_passBack 41 = .ok (.aload_n 1, 1) := by decide +kernel
theorem dX0_passBack_42 : decode cX0_passBack 42 = .ok (.iload_n 2, 1) := by decide +kernel
theorem dX0_passBack_43 : decode cX0_passBack 43 = .ok (.iaload, 1) := by decide +kernel
theorem dX0_passBack_44 : decode cX0_passBack 44 = .ok (.iadd, 1) := by decide +kernel
theorem dX0_passBack_45 : decode cX0_passBack 45 = .ok (.invokestatic 147, 3) := by decide +kernel
theorem dX0_passBack_48 : decode cX0_passBack 48 = .ok (.iastore, 1) := by decide +kernel
theorem dX0_passBack_49 : decode cX0_passBack 49 = .ok (.lload_n 3, 1) := by decide +kernel
theorem dX0_passBack_50 : decode cX0_passBack 50 = .ok (.iload 5, 2) := by decide +kernel
theorem dX0_passBack_52 : decode cX0_passBack 52 = .ok (.iconst 1, 1) := by decide +kernel
theorem dX0_passBack_53 : decode cX0_passBack 53 = .ok (.iadd, 1) := by decide +kernel
theorem dX0_passBack_54 : decode cX0_passBack 54 = .ok (.invokestatic 114, 3) := by decide +kernel
theorem dX0_passBack_57 : decode cX0_passBack 57 = .ok (.istore 5, 2) := by decide +kernel
theorem dX0_passBack_59 : decode cX0_passBack 59 = .ok (.goto (-43), 3) := by decide +kernel
theorem dX0_passBack_62 : decode cX0_passBack 62 = .ok (.return_, 1) := by decide +kernel
theorem dX0_addArcs_0 : decode cX0_addArcs 0 = .ok (.lload_n 1, 1) := by decide +kernel
theorem dX0_addArcs_1 : decode cX0_addArcs 1 = .ok (.lstore_n 3, 1) := by decide +kernel
theorem dX0_addArcs_2 : decode cX0_addArcs 2 = .ok (.iconst 0, 1) := by decide +kernel
theorem dX0_addArcs_3 : decode cX0_addArcs 3 = .ok (.istore 5, 2) := by decide +kernel
theorem dX0_addArcs_5 : decode cX0_addArcs 5 = .ok (.iload 5, 2) := by decide +kernel
theorem dX0_addArcs_7 : decode cX0_addArcs 7 = .ok (.aload_n 0, 1) := by decide +kernel
theorem dX0_addArcs_8 : decode cX0_addArcs 8 = .ok (.getfield 50, 3) := by decide +kernel
theorem dX0_addArcs_11 : decode cX0_addArcs 11 = .ok (.if_icmp .ge 70, 3) := by decide +kernel
theorem dX0_addArcs_14 : decode cX0_addArcs 14 = .ok (.aload_n 0, 1) := by decide +kernel
theorem dX0_addArcs_15 : decode cX0_addArcs 15 = .ok (.getfield 26, 3) := by decide +kernel
theorem dX0_addArcs_18 : decode cX0_addArcs 18 = .ok (.iload 5, 2) := by decide +kernel
theorem dX0_addArcs_20 : decode cX0_addArcs 20 = .ok (.laload, 1) := by decide +kernel
theorem dX0_addArcs_21 : decode cX0_addArcs 21 = .ok (.lstore 6, 2) := by decide +kernel
theorem dX0_addArcs_23 : decode cX0_addArcs 23 = .ok (.lload 6, 2) := by decide +kernel
theorem dX0_addArcs_25 : decode cX0_addArcs 25 = .ok (.iconst 0, 1) := by decide +kernel
theorem dX0_addArcs_26 : decode cX0_addArcs 26 = .ok (.invokestatic 114, 3) := by decide +kernel
theorem dX0_addArcs_29 : decode cX0_addArcs 29 = .ok (.istore 8, 2) := by decide +kernel
theorem dX0_addArcs_31 : decode cX0_addArcs 31 = .ok (.iload 8, 2) := by decide +kernel
theorem dX0_addArcs_33 : decode cX0_addArcs 33 = .ok (.bipush 64, 2) := by decide +kernel
theorem dX0_addArcs_35 : decode cX0_addArcs 35 = .ok (.if_icmp .ge 40, 3) := by decide +kernel
theorem dX0_addArcs_38 : decode cX0_addArcs 38 = .ok (.lload_n 3, 1) := by decide +kernel
theorem dX0_addArcs_39 : decode cX0_addArcs 39 = .ok (.ldc2_w 159, 3) := by decide +kernel
theorem dX0_addArcs_42 : decode cX0_addArcs 42 = .ok (.lmul, 1) := by decide +kernel
theorem dX0_addArcs_43 : decode cX0_addArcs 43 = .ok (.aload_n 0, 1) := by decide +kernel
theorem dX0_addArcs_44 : decode cX0_addArcs 44 = .ok (.getfield 32, 3) := by decide +kernel
theorem dX0_addArcs_47 : decode cX0_addArcs 47 = .ok (.iload 5, 2) := by decide +kernel
theorem dX0_addArcs_49 : decode cX0_addArcs 49 = .ok (.iload 8, 2) := by decide +kernel
theorem dX0_addArcs_51 : decode cX0_addArcs 51 = .ok (.invokestatic 122, 3) := by decide +kernel
theorem dX0_addArcs_54 : decode cX0_addArcs 54 = .ok (.iaload, 1) := by decide +kernel
theorem dX0_addArcs_55 : decode cX0_addArcs 55 = .ok (.invokestatic 139, 3) := by decide +kernel
theorem dX0_addArcs_58 : decode cX0_addArcs 58 = .ok (.i2l, 1) := by decide +kernel
theorem dX0_addArcs_59 : decode cX0_addArcs 59 = .ok (.ladd, 1) := by decide +kernel
theorem dX0_addArcs_60 : decode cX0_addArcs 60 = .ok (.lstore_n 3, 1) := by decide +kernel
theorem dX0_addArcs_61 : decode cX0_addArcs 61 = .ok (.lload 6, 2) := by decide +kernel
theorem dX0_addArcs_63 : decode cX0_addArcs 63 = .ok (.iload 8, 2) := by decide +kernel
theorem dX0_addArcs_65 : decode cX0_addArcs 65 = .ok (.iconst 1, 1) := by decide +kernel
theorem dX0_addArcs_66 : decode cX0_addArcs 66 = .ok (.iadd, 1) := by decide +kernel
theorem dX0_addArcs_67 : decode cX0_addArcs 67 = .ok (.invokestatic 114, 3) := by decide +kernel
theorem dX0_addArcs_70 : decode cX0_addArcs 70 = .ok (.istore 8, 2) := by decide +kernel
theorem dX0_addArcs_72 : decode cX0_addArcs 72 = .ok (.goto (-41), 3) := by decide +kernel
theorem dX0_addArcs_75 : decode cX0_addArcs 75 = .ok (.iinc 5 1, 3) := by decide +kernel
theorem dX0_addArcs_78 : decode cX0_addArcs 78 = .ok (.goto (-73), 3) := by decide +kernel
theorem dX0_addArcs_81 : decode cX0_addArcs 81 = .ok (.lload_n 3, 1) := by decide +kernel
theorem dX0_addArcs_82 : decode cX0_addArcs 82 = .ok (.lreturn, 1) := by decide +kernel
theorem dX1_init_0 : decode cX1_init 0 = .ok (.aload_n 0, 1) := by decide +kernel
theorem dX1_init_1 : decode cX1_init 1 = .ok (.invokespecial 3, 3) := by decide +kernel
theorem dX1_init_4 : decode cX1_init 4 = .ok (.aload_n 0, 1) := by decide +kernel
theorem dX1_init_5 : decode cX1_init 5 = .ok (.bipush 8, 2) := by decide +kernel
theorem dX1_init_7 : decode cX1_init 7 = .ok (.newarray .int, 2) := by decide +kernel
theorem dX1_init_9 : decode cX1_init 9 = .ok (.putfield 9, 3) := by decide +kernel
theorem dX1_init_12 : decode cX1_init 12 = .ok (.aload_n 0, 1) := by decide +kernel
theorem dX1_init_13 : decode cX1_init 13 = .ok (.sipush 512, 3) := by decide +kernel
theorem dX1_init_16 : decode cX1_init 16 = .ok (.newarray .int, 2) := by decide +kernel
theorem dX1_init_18 : decode cX1_init 18 = .ok (.putfield 15, 3) := by decide +kernel
theorem dX1_init_21 : decode cX1_init 21 = .ok (.aload_n 0, 1) := by decide +kernel
theorem dX1_init_22 : decode cX1_init 22 = .ok (.ldc 18, 2) := by decide +kernel
theorem dX1_init_24 : decode cX1_init 24 = .ok (.newarray .int, 2) := by decide +kernel
theorem dX1_init_26 : decode cX1_init 26 = .ok (.putfield 19, 3) := by decide +kernel
theorem dX1_init_29 : decode cX1_init 29 = .ok (.aload_n 0, 1) := by decide +kernel
theorem dX1_init_30 : decode cX1_init 30 = .ok (.bipush 8, 2) := by decide +kernel
theorem dX1_init_32 : decode cX1_init 32 = .ok (.newarray .long, 2) := by decide +kernel
theorem dX1_init_34 : decode cX1_init 34 = .ok (.putfield 22, 3) := by decide +kernel
theorem dX1_init_37 : decode cX1_init 37 = .ok (.aload_n 0, 1) := by decide +kernel
theorem dX1_init_38 : decode cX1_init 38 = .ok (.bipush 8, 2) := by decide +kernel
theorem dX1_init_40 : decode cX1_init 40 = .ok (.newarray .int, 2) := by decide +kernel
theorem dX1_init_42 : decode cX1_init 42 = .ok (.putfield 26, 3) := by decide +kernel
theorem dX1_init_45 : decode cX1_init 45 = .ok (.return_, 1) := by decide +kernel
theorem dX1_store_0 : decode cX1_store 0 = .ok (.aload_n 0, 1) := by decide +kernel
theorem dX1_store_1 : decode cX1_store 1 = .ok (.getfield 29, 3) := by decide +kernel
theorem dX1_store_4 : decode cX1_store 4 = .ok (.istore_n 2, 1) := by decide +kernel
theorem dX1_store_5 : decode cX1_store 5 = .ok (.aload_n 0, 1) := by decide +kernel
theorem dX1_store_6 : decode cX1_store 6 = .ok (.getfield 9, 3) := by decide +kernel
theorem dX1_store_9 : decode cX1_store 9 = .ok (.iload_n 2, 1) := by decide +kernel
theorem dX1_store_10 : decode cX1_store 10 = .ok (.aload_n 1, 1) := by decide +kernel
theorem dX1_store_11 : decode cX1_store 11 = .ok (.getfield 33, 3) := by decide +kernel
theorem dX1_store_14 : decode cX1_store 14 = .ok (.iastore, 1) := by decide +kernel
theorem dX1_store_15 : decode cX1_store 15 = .ok (.aload_n 1, 1) := by decide +kernel
theorem dX1_store_16 : decode cX1_store 16 = .ok (.getfield 37, 3) := by decide +kernel
theorem dX1_store_19 : decode cX1_store 19 = .ok (.iconst 0, 1) := by decide +kernel
theorem dX1_store_20 : decode cX1_store 20 = .ok (.aload_n 0, 1) := by decide +kernel
theorem dX1_store_21 : decode cX1_store 21 = .ok (.getfield 15, 3) := by decide +kernel
theorem dX1_store_24 : decode cX1_store 24 = .ok (.iload_n 2, 1) := by decide +kernel
theorem dX1_store_25 : decode cX1_store 25 = .ok (.bipush 64, 2) := by decide +kernel
theorem dX1_store_27 : decode cX1_store 27 = .ok (.imul, 1) := by decide +kernel
theorem dX1_store_28 : decode cX1_store 28 = .ok (.aload_n 1, 1) := by decide +kernel
theorem dX1_store_29 : decode cX1_store 29 = .ok (.getfield 33, 3) := by decide +kernel
theorem dX1_store_32 : decode cX1_store 32 = .ok (.invokestatic 38, 3) := by decide +kernel
theorem dX1_store_35 : decode cX1_store 35 = .ok (.aload_n 1, 1) := by decide +kernel
theorem dX1_store_36 : decode cX1_store 36 = .ok (.getfield 44, 3) := by decide +kernel
theorem dX1_store_39 : decode cX1_store 39 = .ok (.iconst 0, 1) := by decide +kernel
theorem dX1_store_40 : decode cX1_store 40 = .ok (.aload_n 0, 1) := by decide +kernel
theorem dX1_store_41 : decode cX1_store 41 = .ok (.getfield 19, 3) := by decide +kernel
theorem dX1_store_44 : decode cX1_store 44 = .ok (.iload_n 2, 1) := by decide +kernel
theorem dX1_store_45 : decode cX1_store 45 = .ok (.sipush 4096, 3) := by decide +kernel
theorem dX1_store_48 : decode cX1_store 48 = .ok (.imul, 1) := by decide +kernel
theorem dX1_store_49 : decode cX1_store 49 = .ok (.sipush 4096, 3) := by decide +kernel
theorem dX1_store_52 : decode cX1_store 52 = .ok (.invokestatic 38, 3) := by decide +kernel
theorem dX1_store_55 : decode cX1_store 55 = .ok (.aload_n 0, 1) := by decide +kernel
theorem dX1_store_56 : decode cX1_store 56 = .ok (.getfield 22, 3) := by decide +kernel
theorem dX1_store_59 : decode cX1_store 59 = .ok (.iload_n 2, 1) := by decide +kernel
theorem dX1_store_60 : decode cX1_store 60 = .ok (.aload_n 1, 1) := by decide +kernel
theorem dX1_store_61 : decode cX1_store 61 = .ok (.getfield 45, 3) := by decide +kernel
theorem dX1_store_64 : decode cX1_store 64 = .ok (.lastore, 1) := by decide +kernel
theorem dX1_store_65 : decode cX1_store 65 = .ok (.aload_n 0, 1) := by decide +kernel
theorem dX1_store_66 : decode cX1_store 66 = .ok (.getfield 26, 3) := by decide +kernel
theorem dX1_store_69 : decode cX1_store 69 = .ok (.iload_n 2, 1) := by decide +kernel
theorem dX1_store_70 : decode cX1_store 70 = .ok (.aload_n 1, 1) := by decide +kernel
theorem dX1_store_71 : decode cX1_store 71 = .ok (.getfield 48, 3) := by decide +kernel
theorem dX1_store_74 : decode cX1_store 74 = .ok (.iastore, 1) := by decide +kernel
theorem dX1_store_75 : decode cX1_store 75 = .ok (.aload_n 0, 1) := by decide +kernel
theorem dX1_store_76 : decode cX1_store 76 = .ok (.dup, 1) := by decide +kernel
theorem dX1_store_77 : decode cX1_store 77 = .ok (.getfield 29, 3) := by decide +kernel
theorem dX1_store_80 : decode cX1_store 80 = .ok (.iconst 1, 1) := by decide +kernel
theorem dX1_store_81 : decode cX1_store 81 = .ok (.iadd, 1) := by decide +kernel
theorem dX1_store_82 : decode cX1_store 82 = .ok (.putfield 29, 3) := by decide +kernel
theorem dX1_store_85 : decode cX1_store 85 = .ok (.return_, 1) := by decide +kernel
theorem dX1_restore_0 : decode cX1_restore 0 = .ok (.aload_n 0, 1) := by decide +kernel
theorem dX1_restore_1 : decode cX1_restore 1 = .ok (.getfield 29, 3) := by decide +kernel
theorem dX1_restore_4 : decode cX1_restore 4 = .ok (.iconst 1, 1) := by decide +kernel
theorem dX1_restore_5 : decode cX1_restore 5 = .ok (.isub, 1) := by decide +kernel
theorem dX1_restore_6 : decode cX1_restore 6 = .ok (.istore_n 2, 1) := by decide +kernel
theorem dX1_restore_7 : decode cX1_restore 7 = .ok (.aload_n 0, 1) := by decide +kernel
theorem dX1_restore_8 : decode cX1_restore 8 = .ok (.getfield 9, 3) := by decide +kernel
theorem dX1_restore_11 : decode cX1_restore 11 = .ok (.iload_n 2, 1) := by decide +kernel
theorem dX1_restore_12 : decode cX1_restore 12 = .ok (.iaload, 1) := by decide +kernel
theorem dX1_restore_13 : decode cX1_restore 13 = .ok (.istore_n 3, 1) := by decide +kernel
theorem dX1_restore_14 : decode cX1_restore 14 = .ok (.aload_n 0, 1) := by decide +kernel
theorem dX1_restore_15 : decode cX1_restore 15 = .ok (.getfield 15, 3) := by decide +kernel
theorem dX1_restore_18 : decode cX1_restore 18 = .ok (.iload_n 2, 1) := by decide +kernel
theorem dX1_restore_19 : decode cX1_restore 19 = .ok (.bipush 64, 2) := by decide +kernel
theorem dX1_restore_21 : decode cX1_restore 21 = .ok (.imul, 1) := by decide +kernel
theorem dX1_restore_22 : decode cX1_restore 22 = .ok (.aload_n 1, 1) := by decide +kernel
theorem dX1_restore_23 : decode cX1_restore 23 = .ok (.getfield 37, 3) := by decide +kernel
theorem dX1_restore_26 : decode cX1_restore 26 = .ok (.iconst 0, 1) := by decide +kernel
theorem dX1_restore_27 : decode cX1_restore 27 = .ok (.iload_n 3, 1) := by decide +kernel
theorem dX1_restore_28 : decode cX1_restore 28 = .ok (.invokestatic 38, 3) := by decide +kernel
theorem dX1_restore_31 : decode cX1_restore 31 = .ok (.iconst 0, 1) := by decide +kernel
theorem dX1_restore_32 : decode cX1_restore 32 = .ok (.istore 4, 2) := by decide +kernel
theorem dX1_restore_34 : decode cX1_restore 34 = .ok (.iload 4, 2) := by decide +kernel
theorem dX1_restore_36 : decode cX1_restore 36 = .ok (.iload_n 3, 1) := by decide +kernel
theorem dX1_restore_37 : decode cX1_restore 37 = .ok (.if_icmp .ge 39, 3) := by decide +kernel
theorem dX1_restore_40 : decode cX1_restore 40 = .ok (.aload_n 0, 1) := by decide +kernel
theorem dX1_restore_41 : decode cX1_restore 41 = .ok (.getfield 19, 3) := by decide +kernel
theorem dX1_restore_44 : decode cX1_restore 44 = .ok (.iload_n 2, 1) := by decide +kernel
theorem dX1_restore_45 : decode cX1_restore 45 = .ok (.sipush 4096, 3) := by decide +kernel
theorem dX1_restore_48 : decode cX1_restore 48 = .ok (.imul, 1) := by decide +kernel
theorem dX1_restore_49 : decode cX1_restore 49 = .ok (.iload 4, 2) := by decide +kernel
theorem dX1_restore_51 : decode cX1_restore 51 = .ok (.iconst 0, 1) := by decide +kernel
theorem dX1_restore_52 : decode cX1_restore 52 = .ok (.invokestatic 51, 3) := by decide +kernel
theorem dX1_restore_55 : decode cX1_restore 55 = .ok (.iadd, 1) := by decide +kernel
theorem dX1_restore_56 : decode cX1_restore 56 = .ok (.aload_n 1, 1) := by decide +kernel
theorem dX1_restore_57 : decode cX1_restore 57 = .ok (.getfield 44, 3) := by decide +kernel
theorem dX1_restore_60 : decode cX1_restore 60 = .ok (.iload 4, 2) := by decide +kernel
theorem dX1_restore_62 : decode cX1_restore 62 = .ok (.iconst 0, 1) := by decide +kernel
theorem dX1_restore_63 : decode cX1_restore 63 = .ok (.invokestatic 51, 3) := by decide +kernel
theorem dX1_restore_66 : decode cX1_restore 66 = .ok (.iload_n 3, 1) := by decide +kernel
theorem dX1_restore_67 : decode cX1_restore 67 = .ok (.invokestatic 38, 3) := by decide +kernel
theorem dX1_restore_70 : decode cX1_restore 70 = .ok (.iinc 4 1, 3) := by decide +kernel
theorem dX1_restore_73 : decode cX1_restore 73 = .ok (.goto (-39), 3) := by decide +kernel
theorem dX1_restore_76 : decode cX1_restore 76 = .ok (.iload_n 3, 1) := by decide +kernel
theorem dX1_restore_77 : decode cX1_restore 77 = .ok (.bipush 64, 2) := by decide +kernel
theorem dX1_restore_79 : decode cX1_restore 79 = .ok (.if_icmp .lt 7, 3) := by decide +kernel
theorem dX1_restore_82 : decode cX1_restore 82 = .ok (.lconst 0, 1) := by decide +kernel
theorem dX1_restore_83 : decode cX1_restore 83 = .ok (.goto 8, 3) := by decide +kernel
theorem dX1_restore_86 : decode cX1_restore 86 = .ok (.ldc2_w 55, 3) := by decide +kernel
theorem dX1_restore_89 : decode cX1_restore 89 = .ok (.iload_n 3, 1) := by decide +kernel
theorem dX1_restore_90 : decode cX1_restore 90 = .ok (.lshl, 1) := by decide +kernel
theorem dX1_restore_91 : decode cX1_restore 91 = .ok (.lstore 4, 2) := by decide +kernel
theorem dX1_restore_93 : decode cX1_restore 93 = .ok (.aload_n 1, 1) := by decide +kernel
theorem dX1_restore_94 : decode cX1_restore 94 = .ok (.aload_n 1, 1) := by decide +kernel
theorem dX1_restore_95 : decode cX1_restore 95 = .ok (.getfield 45, 3) := by decide +kernel
theorem dX1_restore_98 : decode cX1_restore 98 = .ok (.lload 4, 2) := by decide +kernel
theorem dX1_restore_100 : decode cX1_restore 100 = .ok (.land, 1) := by decide +kernel
theorem dX1_restore_101 : decode cX1_restore 101 = .ok (.aload_n 0, 1) := by decide +kernel
theorem dX1_restore_102 : decode cX1_restore 102 = .ok (.getfield 22, 3) := by decide +kernel
theorem dX1_restore_105 : decode cX1_restore 105 = .ok (.iload_n 2, 1) := by decide +kernel
theorem dX1_restore_106 : decode cX1_restore 106 = .ok (.laload, 1) := by decide +kernel
theorem dX1_restore_107 : decode cX1_restore 107 = .ok (.lload 4, 2) := by decide +kernel
theorem dX1_restore_109 : decode cX1_restore 109 = .ok (.ldc2_w 55, 3) := by decide +kernel
theorem dX1_restore_112 : decode cX1_restore 112 = .ok (.lxor, 1) := by decide +kernel
theorem dX1_restore_113 : decode cX1_restore 113 = .ok (.land, 1) := by decide +kernel
theorem dX1_restore_114 : decode cX1_restore 114 = .ok (.lor, 1) := by decide +kernel
theorem dX1_restore_115 : decode cX1_restore 115 = .ok (.putfield 45, 3) := by decide +kernel
theorem dX1_restore_118 : decode cX1_restore 118 = .ok (.aload_n 1, 1) := by decide +kernel
theorem dX1_restore_119 : decode cX1_restore 119 = .ok (.aload_n 0, 1) := by decide +kernel
theorem dX1_restore_120 : decode cX1_restore 120 = .ok (.getfield 26, 3) := by decide +kernel
theorem dX1_restore_123 : decode cX1_restore 123 = .ok (.iload_n 2, 1) := by decide +kernel
theorem dX1_restore_124 : decode cX1_restore 124 = .ok (.iaload, 1) := by decide +kernel
theorem dX1_restore_125 : decode cX1_restore 125 = .ok (.putfield 48, 3) := by decide +kernel
theorem dX1_restore_128 : decode cX1_restore 128 = .ok (.aload_n 0, 1) := by decide +kernel
theorem dX1_restore_129 : decode cX1_restore 129 = .ok (.dup, 1) := by decide +kernel
theorem dX1_restore_130 : decode cX1_restore 130 = .ok (.getfield 29, 3) := by decide +kernel
theorem dX1_restore_133 : decode cX1_restore 133 = .ok (.iconst 1, 1) := by decide +kernel
theorem dX1_restore_134 : decode cX1_restore 134 = .ok (.isub, 1) := by decide +kernel
theorem dX1_restore_135 : decode cX1_restore 135 = .ok (.putfield 29, 3) := by decide +kernel
theorem dX1_restore_138 : decode cX1_restore 138 = .ok (.return_, 1) := by decide +kernel
theorem dX2_init_0 : decode cX2_init 0 = .ok (.aload_n 0, 1) := by decide +kernel
theorem dX2_init_1 : decode cX2_init 1 = .ok (.invokespecial 3, 3) := by decide +kernel
theorem dX2_init_4 : decode cX2_init 4 = .ok (.aload_n 0, 1) := by decide +kernel
theorem dX2_init_5 : decode cX2_init 5 = .ok (.bipush 64, 2) := by decide +kernel
theorem dX2_init_7 : decode cX2_init 7 = .ok (.newarray .int, 2) := by decide +kernel
theorem dX2_init_9 : decode cX2_init 9 = .ok (.putfield 9, 3) := by decide +kernel
theorem dX2_init_12 : decode cX2_init 12 = .ok (.aload_n 0, 1) := by decide +kernel
theorem dX2_init_13 : decode cX2_init 13 = .ok (.bipush 64, 2) := by decide +kernel
theorem dX2_init_15 : decode cX2_init 15 = .ok (.newarray .int, 2) := by decide +kernel
theorem dX2_init_17 : decode cX2_init 17 = .ok (.putfield 15, 3) := by decide +kernel
theorem dX2_init_20 : decode cX2_init 20 = .ok (.aload_n 0, 1) := by decide +kernel
theorem dX2_init_21 : decode cX2_init 21 = .ok (.bipush 64, 2) := by decide +kernel
theorem dX2_init_23 : decode cX2_init 23 = .ok (.newarray .int, 2) := by decide +kernel
theorem dX2_init_25 : decode cX2_init 25 = .ok (.putfield 18, 3) := by decide +kernel
theorem dX2_init_28 : decode cX2_init 28 = .ok (.aload_n 0, 1) := by decide +kernel
theorem dX2_init_29 : decode cX2_init 29 = .ok (.sipush 4096, 3) := by decide +kernel
theorem dX2_init_32 : decode cX2_init 32 = .ok (.newarray .int, 2) := by decide +kernel
theorem dX2_init_34 : decode cX2_init 34 = .ok (.putfield 21, 3) := by decide +kernel
theorem dX2_init_37 : decode cX2_init 37 = .ok (.aload_n 0, 1) := by decide +kernel
theorem dX2_init_38 : decode cX2_init 38 = .ok (.getfield 21, 3) := by decide +kernel
theorem dX2_init_41 : decode cX2_init 41 = .ok (.bipush (-2), 2) := by decide +kernel
theorem dX2_init_43 : decode cX2_init 43 = .ok (.invokestatic 24, 3) := by decide +kernel
theorem dX2_init_46 : decode cX2_init 46 = .ok (.aload_n 0, 1) := by decide +kernel
theorem dX2_init_47 : decode cX2_init 47 = .ok (.bipush 32, 2) := by decide +kernel
theorem dX2_init_49 : decode cX2_init 49 = .ok (.newarray .long, 2) := by decide +kernel
theorem dX2_init_51 : decode cX2_init 51 = .ok (.putfield 30, 3) := by decide +kernel
theorem dX2_init_54 : decode cX2_init 54 = .ok (.aload_n 0, 1) := by decide +kernel
theorem dX2_init_55 : decode cX2_init 55 = .ok (.bipush 32, 2) := by decide +kernel
theorem dX2_init_57 : decode cX2_init 57 = .ok (.newarray .long, 2) := by decide +kernel
theorem dX2_init_59 : decode cX2_init 59 = .ok (.putfield 34, 3) := by decide +kernel
theorem dX2_init_62 : decode cX2_init 62 = .ok (.aload_n 0, 1) := by decide +kernel
theorem dX2_init_63 : decode cX2_init 63 = .ok (.bipush 100, 2) := by decide +kernel
theorem dX2_init_65 : decode cX2_init 65 = .ok (.putfield 37, 3) := by decide +kernel
theorem dX2_init_68 : decode cX2_init 68 = .ok (.return_, 1) := by decide +kernel
theorem dX2_append_0 : decode cX2_append 0 = .ok (.aload_n 0, 1) := by decide +kernel
theorem dX2_append_1 : decode cX2_append 1 = .ok (.getfield 41, 3) := by decide +kernel
theorem dX2_append_4 : decode cX2_append 4 = .ok (.istore 4, 2) := by decide +kernel
theorem dX2_append_6 : decode cX2_append 6 = .ok (.aload_n 0, 1) := by decide +kernel
theorem dX2_append_7 : decode cX2_append 7 = .ok (.getfield 9, 3) := by decide +kernel
theorem dX2_append_10 : decode cX2_append 10 = .ok (.iload 4, 2) := by decide +kernel
theorem dX2_append_12 : decode cX2_append 12 = .ok (.iload_n 1, 1) := by decide +kernel
theorem dX2_append_13 : decode cX2_append 13 = .ok (.iastore, 1) := by decide +kernel
theorem dX2_append_14 : decode cX2_append 14 = .ok (.aload_n 0, 1) := by decide +kernel
theorem dX2_append_15 : decode cX2_append 15 = .ok (.getfield 15, 3) := by decide +kernel
theorem dX2_append_18 : decode cX2_append 18 = .ok (.iload 4, 2) := by decide +kernel
theorem dX2_append_20 : decode cX2_append 20 = .ok (.iload_n 2, 1) := by decide +kernel
theorem dX2_append_21 : decode cX2_append 21 = .ok (.iastore, 1) := by decide +kernel
theorem dX2_append_22 : decode cX2_append 22 = .ok (.aload_n 0, 1) := by decide +kernel
theorem dX2_append_23 : decode cX2_append 23 = .ok (.getfield 18, 3) := by decide +kernel
theorem dX2_append_26 : decode cX2_append 26 = .ok (.iload 4, 2) := by decide +kernel
theorem dX2_append_28 : decode cX2_append 28 = .ok (.iload_n 3, 1) := by decide +kernel
theorem dX2_append_29 : decode cX2_append 29 = .ok (.iastore, 1) := by decide +kernel
theorem dX2_append_30 : decode cX2_append 30 = .ok (.aload_n 0, 1) := by decide +kernel
theorem dX2_append_31 : decode cX2_append 31 = .ok (.getfield 30, 3) := by decide +kernel
theorem dX2_append_34 : decode cX2_append 34 = .ok (.iload_n 1, 1) := by decide +kernel
theorem dX2_append_35 : decode cX2_append 35 = .ok (.dup2, 1) := by decide +kernel
theorem dX2_append_36 : decode cX2_append 36 = .ok (.laload, 1) := by decide +kernel
theorem dX2_append_37 : decode cX2_append 37 = .ok (.iload 4, 2) := by decide +kernel
theorem dX2_append_39 : decode cX2_append 39 = .ok (.invokestatic 44, 3) := by decide +kernel
theorem dX2_append_42 : decode cX2_append 42 = .ok (.lor, 1) := by decide +kernel
theorem dX2_append_43 : decode cX2_append 43 = .ok (.lastore, 1) := by decide +kernel
theorem dX2_append_44 : decode cX2_append 44 = .ok (.aload_n 0, 1) := by decide +kernel
theorem dX2_append_45 : decode cX2_append 45 = .ok (.getfield 34, 3) := by decide +kernel
theorem dX2_append_48 : decode cX2_append 48 = .ok (.iload_n 2, 1) := by decide +kernel
theorem dX2_append_49 : decode cX2_append 49 = .ok (.dup2, 1) := by decide +kernel
theorem dX2_append_50 : decode cX2_append 50 = .ok (.laload, 1) := by decide +kernel
theorem dX2_append_51 : decode cX2_append 51 = .ok (.iload 4, 2) := by decide +kernel
theorem dX2_append_53 : decode cX2_append 53 = .ok (.invokestatic 44, 3) := by decide +kernel
theorem dX2_append_56 : decode cX2_append 56 = .ok (.lor, 1) := by decide +kernel
theorem dX2_append_57 : decode cX2_append 57 = .ok (.lastore, 1) := by decide +kernel
theorem dX2_append_58 : decode cX2_append 58 = .ok (.aload_n 0, 1) := by decide +kernel
theorem dX2_append_59 : decode cX2_append 59 = .ok (.dup, 1) := by decide +kernel
theorem dX2_append_60 : decode cX2_append 60 = .ok (.getfield 48, 3) := by decide +kernel
theorem dX2_append_63 : decode cX2_append 63 = .ok (.iload 4, 2) := by decide +kernel
theorem dX2_append_65 : decode cX2_append 65 = .ok (.invokestatic 44, 3) := by decide +kernel
theorem dX2_append_68 : decode cX2_append 68 = .ok (.lor, 1) := by decide +kernel
theorem dX2_append_69 : decode cX2_append 69 = .ok (.putfield 48, 3) := by decide +kernel
theorem dX2_append_72 : decode cX2_append 72 = .ok (.aload_n 0, 1) := by decide +kernel
theorem dX2_append_73 : decode cX2_append 73 = .ok (.dup, 1) := by decide +kernel
theorem dX2_append_74 : decode cX2_append 74 = .ok (.getfield 41, 3) := by decide +kernel
theorem dX2_append_77 : decode cX2_append 77 = .ok (.iconst 1, 1) := by decide +kernel
theorem dX2_append_78 : decode cX2_append 78 = .ok (.iadd, 1) := by decide +kernel
theorem dX2_append_79 : decode cX2_append 79 = .ok (.putfield 41, 3) := by decide +kernel
theorem dX2_append_82 : decode cX2_append 82 = .ok (.iload 4, 2) := by decide +kernel
theorem dX2_append_84 : decode cX2_append 84 = .ok (.ireturn, 1) := by decide +kernel
theorem dX2_allRoads_0 : decode cX2_allRoads 0 = .ok (.aload_n 0, 1) := by decide +kernel
theorem dX2_allRoads_1 : decode cX2_allRoads 1 = .ok (.getfield 41, 3) := by decide +kernel
theorem dX2_allRoads_4 : decode cX2_allRoads 4 = .ok (.bipush 64, 2) := by decide +kernel
theorem dX2_allRoads_6 : decode cX2_allRoads 6 = .ok (.if_icmp .lt 9, 3) := by decide +kernel
theorem dX2_allRoads_9 : decode cX2_allRoads 9 = .ok (.ldc2_w 52, 3) := by decide +kernel
theorem dX2_allRoads_12 : decode cX2_allRoads 12 = .ok (.goto 12, 3) := by decide +kernel
theorem dX2_allRoads_15 : decode cX2_allRoads 15 = .ok (.aload_n 0, 1) := by decide +kernel
theorem dX2_allRoads_16 : decode cX2_allRoads 16 = .ok (.getfield 41, 3) := by decide +kernel
theorem dX2_allRoads_19 : decode cX2_allRoads 19 = .ok (.invokestatic 44, 3) := by decide +kernel
theorem dX2_allRoads_22 : decode cX2_allRoads 22 = .ok (.lconst 1, 1) := by decide +kernel
theorem dX2_allRoads_23 : decode cX2_allRoads 23 = .ok (.lsub, 1) := by decide +kernel
theorem dX2_allRoads_24 : decode cX2_allRoads 24 = .ok (.lreturn, 1) := by decide +kernel
theorem dX2_followersOf_0 : decode cX2_followersOf 0 = .ok (.aload_n 0, 1) := by decide +kernel
theorem dX2_followersOf_1 : decode cX2_followersOf 1 = .ok (.getfield 30, 3) := by decide +kernel
theorem dX2_followersOf_4 : decode cX2_followersOf 4 = .ok (.aload_n 0, 1) := by decide +kernel
theorem dX2_followersOf_5 : decode cX2_followersOf 5 = .ok (.getfield 15, 3) := by decide +kernel
theorem dX2_followersOf_8 : decode cX2_followersOf 8 = .ok (.iload_n 1, 1) := by decide +kernel
theorem dX2_followersOf_9 : decode cX2_followersOf 9 = .ok (.iaload, 1) := by decide +kernel
theorem dX2_followersOf_10 : decode cX2_followersOf 10 = .ok (.laload, 1) := by decide +kernel
theorem dX2_followersOf_11 : decode cX2_followersOf 11 = .ok (.lreturn, 1) := by decide +kernel
theorem dX2_forerunnersOf_0 : decode cX2_forerunnersOf 0 = .ok (.aload_n 0, 1) := by decide +kernel
theorem dX2_forerunnersOf_1 : decode cX2_forerunnersOf 1 = .ok (.getfield 34, 3) := by decide +kernel
theorem dX2_forerunnersOf_4 : decode cX2_forerunnersOf 4 = .ok (.aload_n 0, 1) := by decide +kernel
theorem dX2_forerunnersOf_5 : decode cX2_forerunnersOf 5 = .ok (.getfield 9, 3) := by decide +kernel
theorem dX2_forerunnersOf_8 : decode cX2_forerunnersOf 8 = .ok (.iload_n 1, 1) := by decide +kernel
theorem dX2_forerunnersOf_9 : decode cX2_forerunnersOf 9 = .ok (.iaload, 1) := by decide +kernel
theorem dX2_forerunnersOf_10 : decode cX2_forerunnersOf 10 = .ok (.laload, 1) := by decide +kernel
theorem dX2_forerunnersOf_11 : decode cX2_forerunnersOf 11 = .ok (.lreturn, 1) := by decide +kernel
theorem dX2_penaltyOf_0 : decode cX2_penaltyOf 0 = .ok (.aload_n 0, 1) := by decide +kernel
theorem dX2_penaltyOf_1 : decode cX2_penaltyOf 1 = .ok (.getfield 21, 3) := by decide +kernel
theorem dX2_penaltyOf_4 : decode cX2_penaltyOf 4 = .ok (.iload_n 1, 1) := by decide +kernel
theorem dX2_penaltyOf_5 : decode cX2_penaltyOf 5 = .ok (.iload_n 2, 1) := by decide +kernel
theorem dX2_penaltyOf_6 : decode cX2_penaltyOf 6 = .ok (.invokestatic 54, 3) := by decide +kernel
theorem dX2_penaltyOf_9 : decode cX2_penaltyOf 9 = .ok (.iaload, 1) := by decide +kernel
theorem dX2_penaltyOf_10 : decode cX2_penaltyOf 10 = .ok (.istore_n 3, 1) := by decide +kernel
theorem dX2_penaltyOf_11 : decode cX2_penaltyOf 11 = .ok (.iload_n 3, 1) := by decide +kernel
theorem dX2_penaltyOf_12 : decode cX2_penaltyOf 12 = .ok (.bipush (-2), 2) := by decide +kernel
theorem dX2_penaltyOf_14 : decode cX2_penaltyOf 14 = .ok (.if_icmp .eq 5, 3) := by decide +kernel
theorem dX2_penaltyOf_17 : decode cX2_penaltyOf 17 = .ok (.iload_n 3, 1) := by decide +kernel
theorem dX2_penaltyOf_18 : decode cX2_penaltyOf 18 = .ok (.ireturn, 1) := by decide +kernel
theorem dX2_penaltyOf_19 : decode cX2_penaltyOf 19 = .ok (.aload_n 0, 1) := by decide +kernel
theorem dX2_penaltyOf_20 : decode cX2_penaltyOf 20 = .ok (.getfield 15, 3) := by decide +kernel
theorem dX2_penaltyOf_23 : decode cX2_penaltyOf 23 = .ok (.iload_n 2, 1) := by decide +kernel
theorem dX2_penaltyOf_24 : decode cX2_penaltyOf 24 = .ok (.iaload, 1) := by decide +kernel
theorem dX2_penaltyOf_25 : decode cX2_penaltyOf 25 = .ok (.aload_n 0, 1) := by decide +kernel
theorem dX2_penaltyOf_26 : decode cX2_penaltyOf 26 = .ok (.getfield 9, 3) := by decide +kernel
theorem dX2_penaltyOf_29 : decode cX2_penaltyOf 29 = .ok (.iload_n 1, 1) := by decide +kernel
theorem dX2_penaltyOf_30 : decode cX2_penaltyOf 30 = .ok (.iaload, 1) := by decide +kernel
theorem dX2_penaltyOf_31 : decode cX2_penaltyOf 31 = .ok (.if_icmp .ne 10, 3) := by decide +kernel
theorem dX2_penaltyOf_34 : decode cX2_penaltyOf 34 = .ok (.aload_n 0, 1) := by decide +kernel
theorem dX2_penaltyOf_35 : decode cX2_penaltyOf 35 = .ok (.getfield 37, 3) := by decide +kernel
theorem dX2_penaltyOf_38 : decode cX2_penaltyOf 38 = .ok (.goto 4, 3) := by decide +kernel
theorem dX2_penaltyOf_41 : decode cX2_penaltyOf 41 = .ok (.iconst 0, 1) := by decide +kernel
theorem dX2_penaltyOf_42 : decode cX2_penaltyOf 42 = .ok (.ireturn, 1) := by decide +kernel
theorem dX2_roadLength_0 : decode cX2_roadLength 0 = .ok (.aload_n 0, 1) := by decide +kernel
theorem dX2_roadLength_1 : decode cX2_roadLength 1 = .ok (.getfield 18, 3) := by decide +kernel
theorem dX2_roadLength_4 : decode cX2_roadLength 4 = .ok (.iload_n 1, 1) := by decide +kernel
theorem dX2_roadLength_5 : decode cX2_roadLength 5 = .ok (.iaload, 1) := by decide +kernel
theorem dX2_roadLength_6 : decode cX2_roadLength 6 = .ok (.bipush 7, 2) := by decide +kernel
theorem dX2_roadLength_8 : decode cX2_roadLength 8 = .ok (.ishl, 1) := by decide +kernel
theorem dX2_roadLength_9 : decode cX2_roadLength 9 = .ok (.iconst 1, 1) := by decide +kernel
theorem dX2_roadLength_10 : decode cX2_roadLength 10 = .ok (.iadd, 1) := by decide +kernel
theorem dX2_roadLength_11 : decode cX2_roadLength 11 = .ok (.ireturn, 1) := by decide +kernel
theorem dX2_stepLength_0 : decode cX2_stepLength 0 = .ok (.aload_n 0, 1) := by decide +kernel
theorem dX2_stepLength_1 : decode cX2_stepLength 1 = .ok (.iload_n 1, 1) := by decide +kernel
theorem dX2_stepLength_2 : decode cX2_stepLength 2 = .ok (.iload_n 2, 1) := by decide +kernel
theorem dX2_stepLength_3 : decode cX2_stepLength 3 = .ok (.invokevirtual 58, 3) := by decide +kernel
theorem dX2_stepLength_6 : decode cX2_stepLength 6 = .ok (.istore_n 3, 1) := by decide +kernel
theorem dX2_stepLength_7 : decode cX2_stepLength 7 = .ok (.iload_n 3, 1) := by decide +kernel
theorem dX2_stepLength_8 : decode cX2_stepLength 8 = .ok (.iconst (-1), 1) := by decide +kernel
theorem dX2_stepLength_9 : decode cX2_stepLength 9 = .ok (.if_icmp .eq 25, 3) := by decide +kernel
theorem dX2_stepLength_12 : decode cX2_stepLength 12 = .ok (.aload_n 0, 1) := by decide +kernel
theorem dX2_stepLength_13 : decode cX2_stepLength 13 = .ok (.getfield 48, 3) := by decide +kernel
theorem dX2_stepLength_16 : decode cX2_stepLength 16 = .ok (.iload_n 1, 1) := by decide +kernel
theorem dX2_stepLength_17 : decode cX2_stepLength 17 = .ok (.invokestatic 61, 3) := by decide +kernel
theorem dX2_stepLength_20 : decode cX2_stepLength 20 = .ok (.ifCond .eq 14, 3) := by decide +kernel
theorem dX2_stepLength_23 : decode cX2_stepLength 23 = .ok (.aload_n 0, 1) := by decide +kernel
theorem dX2_stepLength_24 : decode cX2_stepLength 24 = .ok (.getfield 48, 3) := by decide +kernel
theorem dX2_stepLength_27 : decode cX2_stepLength 27 = .ok (.iload_n 2, 1) := by decide +kernel
theorem dX2_stepLength_28 : decode cX2_stepLength 28 = .ok (.invokestatic 61, 3) := by decide +kernel
theorem dX2_stepLength_31 : decode cX2_stepLength 31 = .ok (.ifCond .ne 6, 3) := by decide +kernel
theorem dX2_stepLength_34 : decode cX2_stepLength 34 = .ok (.ldc 65, 2) := by decide +kernel
theorem dX2_stepLength_36 : decode cX2_stepLength 36 = .ok (.ireturn, 1) := by decide +kernel
theorem dX2_stepLength_37 : decode cX2_stepLength 37 = .ok (.iload_n 3, 1) := by decide +kernel
theorem dX2_stepLength_38 : decode cX2_stepLength 38 = .ok (.bipush 7, 2) := by decide +kernel
theorem dX2_stepLength_40 : decode cX2_stepLength 40 = .ok (.ishl, 1) := by decide +kernel
theorem dX2_stepLength_41 : decode cX2_stepLength 41 = .ok (.aload_n 0, 1) := by decide +kernel
theorem dX2_stepLength_42 : decode cX2_stepLength 42 = .ok (.iload_n 2, 1) := by decide +kernel
theorem dX2_stepLength_43 : decode cX2_stepLength 43 = .ok (.invokevirtual 66, 3) := by decide +kernel
theorem dX2_stepLength_46 : decode cX2_stepLength 46 = .ok (.iadd, 1) := by decide +kernel
theorem dX2_stepLength_47 : decode cX2_stepLength 47 = .ok (.ireturn, 1) := by decide +kernel
theorem dX3_init_0 : decode cX3_init 0 = .ok (.aload_n 0, 1) := by decide +kernel
theorem dX3_init_1 : decode cX3_init 1 = .ok (.invokespecial 3, 3) := by decide +kernel
theorem dX3_init_4 : decode cX3_init 4 = .ok (.aload_n 0, 1) := by decide +kernel
theorem dX3_init_5 : decode cX3_init 5 = .ok (.new 9, 3) := by decide +kernel
theorem dX3_init_8 : decode cX3_init 8 = .ok (.dup, 1) := by decide +kernel
theorem dX3_init_9 : decode cX3_init 9 = .ok (.invokespecial 11, 3) := by decide +kernel
theorem dX3_init_12 : decode cX3_init 12 = .ok (.putfield 12, 3) := by decide +kernel
theorem dX3_init_15 : decode cX3_init 15 = .ok (.aload_n 0, 1) := by decide +kernel
theorem dX3_init_16 : decode cX3_init 16 = .ok (.new 16, 3) := by decide +kernel
theorem dX3_init_19 : decode cX3_init 19 = .ok (.dup, 1) := by decide +kernel
theorem dX3_init_20 : decode cX3_init 20 = .ok (.aload_n 0, 1) := by decide +kernel
theorem dX3_init_21 : decode cX3_init 21 = .ok (.getfield 12, 3) := by decide +kernel
theorem dX3_init_24 : decode cX3_init 24 = .ok (.invokespecial 18, 3) := by decide +kernel
theorem dX3_init_27 : decode cX3_init 27 = .ok (.putfield 21, 3) := by decide +kernel
theorem dX3_init_30 : decode cX3_init 30 = .ok (.aload_n 0, 1) := by decide +kernel
theorem dX3_init_31 : decode cX3_init 31 = .ok (.new 25, 3) := by decide +kernel
theorem dX3_init_34 : decode cX3_init 34 = .ok (.dup, 1) := by decide +kernel
theorem dX3_init_35 : decode cX3_init 35 = .ok (.invokespecial 27, 3) := by decide +kernel
theorem dX3_init_38 : decode cX3_init 38 = .ok (.putfield 28, 3) := by decide +kernel
theorem dX3_init_41 : decode cX3_init 41 = .ok (.aload_n 0, 1) := by decide +kernel
theorem dX3_init_42 : decode cX3_init 42 = .ok (.sipush 128, 3) := by decide +kernel
theorem dX3_init_45 : decode cX3_init 45 = .ok (.newarray .boolean, 2) := by decide +kernel
theorem dX3_init_47 : decode cX3_init 47 = .ok (.putfield 32, 3) := by decide +kernel
theorem dX3_init_50 : decode cX3_init 50 = .ok (.aload_n 0, 1) := by decide +kernel
theorem dX3_init_51 : decode cX3_init 51 = .ok (.bipush 64, 2) := by decide +kernel
theorem dX3_init_53 : decode cX3_init 53 = .ok (.newarray .int, 2) := by decide +kernel
theorem dX3_init_55 : decode cX3_init 55 = .ok (.putfield 36, 3) := by decide +kernel
theorem dX3_init_58 : decode cX3_init 58 = .ok (.aload_n 0, 1) := by decide +kernel
theorem dX3_init_59 : decode cX3_init 59 = .ok (.bipush 64, 2) := by decide +kernel
theorem dX3_init_61 : decode cX3_init 61 = .ok (.newarray .int, 2) := by decide +kernel
theorem dX3_init_63 : decode cX3_init 63 = .ok (.putfield 40, 3) := by decide +kernel
theorem dX3_init_66 : decode cX3_init 66 = .ok (.aload_n 0, 1) := by decide +kernel
theorem dX3_init_67 : decode cX3_init 67 = .ok (.bipush 32, 2) := by decide +kernel
theorem dX3_init_69 : decode cX3_init 69 = .ok (.newarray .int, 2) := by decide +kernel
theorem dX3_init_71 : decode cX3_init 71 = .ok (.putfield 43, 3) := by decide +kernel
theorem dX3_init_74 : decode cX3_init 74 = .ok (.aload_n 0, 1) := by decide +kernel
theorem dX3_init_75 : decode cX3_init 75 = .ok (.bipush 32, 2) := by decide +kernel
theorem dX3_init_77 : decode cX3_init 77 = .ok (.newarray .int, 2) := by decide +kernel
theorem dX3_init_79 : decode cX3_init 79 = .ok (.putfield 46, 3) := by decide +kernel
theorem dX3_init_82 : decode cX3_init 82 = .ok (.return_, 1) := by decide +kernel
theorem dX3_addJunction_0 : decode cX3_addJunction 0 = .ok (.aload_n 0, 1) := by decide +kernel
theorem dX3_addJunction_1 : decode cX3_addJunction 1 = .ok (.getfield 12, 3) := by decide +kernel
theorem dX3_addJunction_4 : decode cX3_addJunction 4 = .ok (.getfield 49, 3) := by decide +kernel
theorem dX3_addJunction_7 : decode cX3_addJunction 7 = .ok (.bipush 32, 2) := by decide +kernel
theorem dX3_addJunction_9 : decode cX3_addJunction 9 = .ok (.if_icmp .lt 13, 3) := by decide +kernel
theorem dX3_addJunction_12 : decode cX3_addJunction 12 = .ok (.new 53, 3) := by decide +kernel
theorem dX3_addJunction_15 : decode cX3_addJunction 15 = .ok (.dup, 1) := by decide +kernel
theorem dX3_addJunction_16 : decode cX3_addJunction 16 = .ok (.ldc 55, 2) := by decide +kernel
theorem dX3_addJunction_18 : decode cX3_addJunction 18 = .ok (.invokespecial 57, 3) := by decide +kernel
theorem dX3_addJunction_21 : decode cX3_addJunction 21 = .ok (.athrow, 1) := by decide +kernel
theorem dX3_addJunction_22 : decode cX3_addJunction 22 = .ok (.aload_n 0, 1) := by decide +kernel
theorem dX3_addJunction_23 : decode cX3_addJunction 23 = .ok (.getfield 12, 3) := by decide +kernel
theorem dX3_addJunction_26 : decode cX3_addJunction 26 = .ok (.dup, 1) := by decide +kernel
theorem dX3_addJunction_27 : decode cX3_addJunction 27 = .ok (.getfield 49, 3) := by decide +kernel
theorem dX3_addJunction_30 : decode cX3_addJunction 30 = .ok (.iconst 1, 1) := by decide +kernel
theorem dX3_addJunction_31 : decode cX3_addJunction 31 = .ok (.iadd, 1) := by decide +kernel
theorem dX3_addJunction_32 : decode cX3_addJunction 32 = .ok (.putfield 49, 3) := by decide +kernel
theorem dX3_addJunction_35 : decode cX3_addJunction 35 = .ok (.aload_n 0, 1) := by decide +kernel
theorem dX3_addJunction_36 : decode cX3_addJunction 36 = .ok (.getfield 12, 3) := by decide +kernel
theorem dX3_addJunction_39 : decode cX3_addJunction 39 = .ok (.getfield 49, 3) := by decide +kernel
theorem dX3_addJunction_42 : decode cX3_addJunction 42 = .ok (.iconst 1, 1) := by decide +kernel
theorem dX3_addJunction_43 : decode cX3_addJunction 43 = .ok (.isub, 1) := by decide +kernel
theorem dX3_addJunction_44 : decode cX3_addJunction 44 = .ok (.ireturn, 1) := by decide +kernel
theorem dX3_addRoad_0 : decode cX3_addRoad 0 = .ok (.aload_n 0, 1) := by decide +kernel
theorem dX3_addRoad_1 : decode cX3_addRoad 1 = .ok (.iload_n 1, 1) := by decide +kernel
theorem dX3_addRoad_2 : decode cX3_addRoad 2 = .ok (.invokevirtual 60, 3) := by decide +kernel
theorem dX3_addRoad_5 : decode cX3_addRoad 5 = .ok (.aload_n 0, 1) := by decide +kernel
theorem dX3_addRoad_6 : decode cX3_addRoad 6 = .ok (.iload_n 2, 1) := by decide +kernel
theorem dX3_addRoad_7 : decode cX3_addRoad 7 = .ok (.invokevirtual 60, 3) := by decide +kernel
theorem dX3_addRoad_10 : decode cX3_addRoad 10 = .ok (.iload_n 1, 1) := by decide +kernel
theorem dX3_addRoad_11 : decode cX3_addRoad 11 = .ok (.iload_n 2, 1) := by decide +kernel
theorem dX3_addRoad_12 : decode cX3_addRoad 12 = .ok (.if_icmp .ne 13, 3) := by decide +kernel
theorem dX3_addRoad_15 : decode cX3_addRoad 15 = .ok (.new 64, 3) := by decide +kernel
theorem dX3_addRoad_18 : decode cX3_addRoad 18 = .ok (.dup, 1) := by decide +kernel
theorem dX3_addRoad_19 : decode cX3_addRoad 19 = .ok (.ldc 66, 2) := by decide +kernel
theorem dX3_addRoad_21 : decode cX3_addRoad 21 = .ok (.invokespecial 68, 3) := by decide +kernel
theorem dX3_addRoad_24 : decode cX3_addRoad 24 = .ok (.athrow, 1) := by decide +kernel
theorem dX3_addRoad_25 : decode cX3_addRoad 25 = .ok (.aload_n 0, 1) := by decide +kernel
theorem dX3_addRoad_26 : decode cX3_addRoad 26 = .ok (.iload_n 3, 1) := by decide +kernel
theorem dX3_addRoad_27 : decode cX3_addRoad 27 = .ok (.invokevirtual 69, 3) := by decide +kernel
theorem dX3_addRoad_30 : decode cX3_addRoad 30 = .ok (.aload_n 0, 1) := by decide +kernel
theorem dX3_addRoad_31 : decode cX3_addRoad 31 = .ok (.getfield 12, 3) := by decide +kernel
theorem dX3_addRoad_34 : decode cX3_addRoad 34 = .ok (.getfield 72, 3) := by decide +kernel
theorem dX3_addRoad_37 : decode cX3_addRoad 37 = .ok (.bipush 64, 2) := by decide +kernel
theorem dX3_addRoad_39 : decode cX3_addRoad 39 = .ok (.if_icmp .lt 13, 3) := by decide +kernel
theorem dX3_addRoad_42 : decode cX3_addRoad 42 = .ok (.new 53, 3) := by decide +kernel
theorem dX3_addRoad_45 : decode cX3_addRoad 45 = .ok (.dup, 1) := by decide +kernel
theorem dX3_addRoad_46 : decode cX3_addRoad 46 = .ok (.ldc 75, 2) := by decide +kernel
theorem dX3_addRoad_48 : decode cX3_addRoad 48 = .ok (.invokespecial 57, 3) := by decide +kernel
theorem dX3_addRoad_51 : decode cX3_addRoad 51 = .ok (.athrow, 1) := by decide +kernel
theorem dX3_addRoad_52 : decode cX3_addRoad 52 = .ok (.aload_n 0, 1) := by decide +kernel
theorem dX3_addRoad_53 : decode cX3_addRoad 53 = .ok (.getfield 21, 3) := by decide +kernel
theorem dX3_addRoad_56 : decode cX3_addRoad 56 = .ok (.iconst 0, 1) := by decide +kernel
theorem dX3_addRoad_57 : decode cX3_addRoad 57 = .ok (.putfield 77, 3) := by decide +kernel
theorem dX3_addRoad_60 : decode cX3_addRoad 60 = .ok (.aload_n 0, 1) := by decide +kernel
theorem dX3_addRoad_61 : decode cX3_addRoad 61 = .ok (.getfield 12, 3) := by decide +kernel
theorem dX3_addRoad_64 : decode cX3_addRoad 64 = .ok (.iload_n 1, 1) := by decide +kernel
theorem dX3_addRoad_65 : decode cX3_addRoad 65 = .ok (.iload_n 2, 1) := by decide +kernel
theorem dX3_addRoad_66 : decode cX3_addRoad 66 = .ok (.iload_n 3, 1) := by decide +kernel
theorem dX3_addRoad_67 : decode cX3_addRoad 67 = .ok (.invokevirtual 81, 3) := by decide +kernel
theorem dX3_addRoad_70 : decode cX3_addRoad 70 = .ok (.ireturn, 1) := by decide +kernel
theorem dX3_setWeight_0 : decode cX3_setWeight 0 = .ok (.aload_n 0, 1) := by decide +kernel
theorem dX3_setWeight_1 : decode cX3_setWeight 1 = .ok (.iload_n 1, 1) := by decide +kernel
theorem dX3_setWeight_2 : decode cX3_setWeight 2 = .ok (.invokevirtual 85, 3) := by decide +kernel
theorem dX3_setWeight_5 : decode cX3_setWeight 5 = .ok (.aload_n 0, 1) := by decide +kernel
theorem dX3_setWeight_6 : decode cX3_setWeight 6 = .ok (.iload_n 2, 1) := by decide +kernel
theorem dX3_setWeight_7 : decode cX3_setWeight 7 = .ok (.invokevirtual 69, 3) := by decide +kernel
theorem dX3_setWeight_10 : decode cX3_setWeight 10 = .ok (.aload_n 0, 1) := by decide +kernel
theorem dX3_setWeight_11 : decode cX3_setWeight 11 = .ok (.getfield 12, 3) := by decide +kernel
theorem dX3_setWeight_14 : decode cX3_setWeight 14 = .ok (.getfield 88, 3) := by decide +kernel
theorem dX3_setWeight_17 : decode cX3_setWeight 17 = .ok (.iload_n 1, 1) := by decide +kernel
theorem dX3_setWeight_18 : decode cX3_setWeight 18 = .ok (.iload_n 2, 1) := by decide +kernel
theorem dX3_setWeight_19 : decode cX3_setWeight 19 = .ok (.iastore, 1) := by decide +kernel
theorem dX3_setWeight_20 : decode cX3_setWeight 20 = .ok (.aload_n 0, 1) := by decide +kernel
theorem dX3_setWeight_21 : decode cX3_setWeight 21 = .ok (.getfield 21, 3) := by decide +kernel
theorem dX3_setWeight_24 : decode cX3_setWeight 24 = .ok (.iload_n 1, 1) := by decide +kernel
theorem dX3_setWeight_25 : decode cX3_setWeight 25 = .ok (.invokevirtual 91, 3) := by decide +kernel
theorem dX3_setWeight_28 : decode cX3_setWeight 28 = .ok (.ireturn, 1) := by decide +kernel
theorem dX3_setOpen_0 : decode cX3_setOpen 0 = .ok (.aload_n 0, 1) := by decide +kernel
theorem dX3_setOpen_1 : decode cX3_setOpen 1 = .ok (.iload_n 1, 1) := by decide +kernel
theorem dX3_setOpen_2 : decode cX3_setOpen 2 = .ok (.invokevirtual 85, 3) := by decide +kernel
theorem dX3_setOpen_5 : decode cX3_setOpen 5 = .ok (.aload_n 0, 1) := by decide +kernel
theorem dX3_setOpen_6 : decode cX3_setOpen 6 = .ok (.iload_n 1, 1) := by decide +kernel
theorem dX3_setOpen_7 : decode cX3_setOpen 7 = .ok (.iload_n 2, 1) := by decide +kernel
theorem dX3_setOpen_8 : decode cX3_setOpen 8 = .ok (.invokevirtual 95, 3) := by decide +kernel
theorem dX3_setOpen_11 : decode cX3_setOpen 11 = .ok (.ireturn, 1) := by decide +kernel
theorem dX3_setTurn_0 : decode cX3_setTurn 0 = .ok (.aload_n 0, 1) := by decide +kernel
theorem dX3_setTurn_1 : decode cX3_setTurn 1 = .ok (.iload_n 1, 1) := by decide +kernel
theorem dX3_setTurn_2 : decode cX3_setTurn 2 = .ok (.iload_n 2, 1) := by decide +kernel
theorem dX3_setTurn_3 : decode cX3_setTurn 3 = .ok (.invokevirtual 99, 3) := by decide +kernel
theorem dX3_setTurn_6 : decode cX3_setTurn 6 = .ok (.iload_n 3, 1) := by decide +kernel
theorem dX3_setTurn_7 : decode cX3_setTurn 7 = .ok (.bipush (-2), 2) := by decide +kernel
theorem dX3_setTurn_9 : decode cX3_setTurn 9 = .ok (.if_icmp .lt 10, 3) := by decide +kernel
theorem dX3_setTurn_12 : decode cX3_setTurn 12 = .ok (.iload_n 3, 1) := by decide +kernel
theorem dX3_setTurn_13 : decode cX3_setTurn 13 = .ok (.sipush 1000, 3) := by decide +kernel
theorem dX3_setTurn_16 : decode cX3_setTurn 16 = .ok (.if_icmp .le 13, 3) := by decide +kernel
theorem dX3_setTurn_19 : decode cX3_setTurn 19 = .ok (.new 64, 3) := by decide +kernel
theorem dX3_setTurn_22 : decode cX3_setTurn 22 = .ok (.dup, 1) := by decide +kernel
theorem dX3_setTurn_23 : decode cX3_setTurn 23 = .ok (.ldc 103, 2) := by decide +kernel
theorem dX3_setTurn_25 : decode cX3_setTurn 25 = .ok (.invokespecial 68, 3) := by decide +kernel
theorem dX3_setTurn_28 : decode cX3_setTurn 28 = .ok (.athrow, 1) := by decide +kernel
theorem dX3_setTurn_29 : decode cX3_setTurn 29 = .ok (.aload_n 0, 1) := by decide +kernel
theorem dX3_setTurn_30 : decode cX3_setTurn 30 = .ok (.getfield 12, 3) := by decide +kernel
theorem dX3_setTurn_33 : decode cX3_setTurn 33 = .ok (.getfield 105, 3) := by decide +kernel
theorem dX3_setTurn_36 : decode cX3_setTurn 36 = .ok (.iload_n 1, 1) := by decide +kernel
theorem dX3_setTurn_37 : decode cX3_setTurn 37 = .ok (.iload_n 2, 1) := by decide +kernel
theorem dX3_setTurn_38 : decode cX3_setTurn 38 = .ok (.invokestatic 108, 3) := by decide +kernel
theorem dX3_setTurn_41 : decode cX3_setTurn 41 = .ok (.iload_n 3, 1) := by decide +kernel
theorem dX3_setTurn_42 : decode cX3_setTurn 42 = .ok (.iastore, 1) := by decide +kernel
theorem dX3_setTurn_43 : decode cX3_setTurn 43 = .ok (.aload_n 0, 1) := by decide +kernel
theorem dX3_setTurn_44 : decode cX3_setTurn 44 = .ok (.getfield 21, 3) := by decide +kernel
theorem dX3_setTurn_47 : decode cX3_setTurn 47 = .ok (.iload_n 1, 1) := by decide +kernel
theorem dX3_setTurn_48 : decode cX3_setTurn 48 = .ok (.iload_n 2, 1) := by decide +kernel
theorem dX3_setTurn_49 : decode cX3_setTurn 49 = .ok (.invokevirtual 112, 3) := by decide +kernel
theorem dX3_setTurn_52 : decode cX3_setTurn 52 = .ok (.ireturn, 1) := by decide +kernel
theorem dX3_setUTurn_0 : decode cX3_setUTurn 0 = .ok (.iload_n 1, 1) := by decide +kernel
theorem dX3_setUTurn_1 : decode cX3_setUTurn 1 = .ok (.iconst (-1), 1) := by decide +kernel
theorem dX3_setUTurn_2 : decode cX3_setUTurn 2 = .ok (.if_icmp .lt 10, 3) := by decide +kernel
theorem dX3_setUTurn_5 : decode cX3_setUTurn 5 = .ok (.iload_n 1, 1) := by decide +kernel
theorem dX3_setUTurn_6 : decode cX3_setUTurn 6 = .ok (.sipush 1000, 3) := by decide +kernel
theorem dX3_setUTurn_9 : decode cX3_setUTurn 9 = .ok (.if_icmp .le 13, 3) := by decide +kernel
theorem dX3_setUTurn_12 : decode cX3_setUTurn 12 = .ok (.new 64, 3) := by decide +kernel
theorem dX3_setUTurn_15 : decode cX3_setUTurn 15 = .ok (.dup, 1) := by decide +kernel
theorem dX3_setUTurn_16 : decode cX3_setUTurn 16 = .ok (.ldc 115, 2) := by decide +kernel
theorem dX3_setUTurn_18 : decode cX3_setUTurn 18 = .ok (.invokespecial 68, 3) := by decide +kernel
theorem dX3_setUTurn_21 : decode cX3_setUTurn 21 = .ok (.athrow, 1) := by decide +kernel
theorem dX3_setUTurn_22 : decode cX3_setUTurn 22 = .ok (.aload_n 0, 1) := by decide +kernel
theorem dX3_setUTurn_23 : decode cX3_setUTurn 23 = .ok (.getfield 12, 3) := by decide +kernel
theorem dX3_setUTurn_26 : decode cX3_setUTurn 26 = .ok (.iload_n 1, 1) := by decide +kernel
theorem dX3_setUTurn_27 : decode cX3_setUTurn 27 = .ok (.putfield 117, 3) := by decide +kernel
theorem dX3_setUTurn_30 : decode cX3_setUTurn 30 = .ok (.aload_n 0, 1) := by decide +kernel
theorem dX3_setUTurn_31 : decode cX3_setUTurn 31 = .ok (.getfield 21, 3) := by decide +kernel
theorem dX3_setUTurn_34 : decode cX3_setUTurn 34 = .ok (.invokevirtual 120, 3) := by decide +kernel
theorem dX3_setUTurn_37 : decode cX3_setUTurn 37 = .ok (.ireturn, 1) := by decide +kernel
theorem dX3_junctionCount_0 : decode cX3_junctionCount 0 = .ok (.aload_n 0, 1) := by decide +kernel
theorem dX3_junctionCount_1 : decode cX3_junctionCount 1 = .ok (.getfield 12, 3) := by decide +kernel
theorem dX3_junctionCount_4 : decode cX3_junctionCount 4 = .ok (.getfield 49, 3) := by decide +kernel
theorem dX3_junctionCount_7 : decode cX3_junctionCount 7 = .ok (.ireturn, 1) := by decide +kernel
theorem dX3_roadCount_0 : decode cX3_roadCount 0 = .ok (.aload_n 0, 1) := by decide +kernel
theorem dX3_roadCount_1 : decode cX3_roadCount 1 = .ok (.getfield 12, 3) := by decide +kernel
theorem dX3_roadCount_4 : decode cX3_roadCount 4 = .ok (.getfield 72, 3) := by decide +kernel
theorem dX3_roadCount_7 : decode cX3_roadCount 7 = .ok (.ireturn, 1) := by decide +kernel
theorem dX3_weight_0 : decode cX3_weight 0 = .ok (.aload_n 0, 1) := by decide +kernel
theorem dX3_weight_1 : decode cX3_weight 1 = .ok (.iload_n 1, 1) := by decide +kernel
theorem dX3_weight_2 : decode cX3_weight 2 = .ok (.invokevirtual 85, 3) := by decide +kernel
theorem dX3_weight_5 : decode cX3_weight 5 = .ok (.aload_n 0, 1) := by decide +kernel
theorem dX3_weight_6 : decode cX3_weight 6 = .ok (.getfield 12, 3) := by decide +kernel
theorem dX3_weight_9 : decode cX3_weight 9 = .ok (.getfield 88, 3) := by decide +kernel
theorem dX3_weight_12 : decode cX3_weight 12 = .ok (.iload_n 1, 1) := by decide +kernel
theorem dX3_weight_13 : decode cX3_weight 13 = .ok (.iaload, 1) := by decide +kernel
theorem dX3_weight_14 : decode cX3_weight 14 = .ok (.ireturn, 1) := by decide +kernel
theorem dX3_isOpen_0 : decode cX3_isOpen 0 = .ok (.aload_n 0, 1) := by decide +kernel
theorem dX3_isOpen_1 : decode cX3_isOpen 1 = .ok (.iload_n 1, 1) := by decide +kernel
theorem dX3_isOpen_2 : decode cX3_isOpen 2 = .ok (.invokevirtual 85, 3) := by decide +kernel
theorem dX3_isOpen_5 : decode cX3_isOpen 5 = .ok (.aload_n 0, 1) := by decide +kernel
theorem dX3_isOpen_6 : decode cX3_isOpen 6 = .ok (.getfield 12, 3) := by decide +kernel
theorem dX3_isOpen_9 : decode cX3_isOpen 9 = .ok (.getfield 124, 3) := by decide +kernel
theorem dX3_isOpen_12 : decode cX3_isOpen 12 = .ok (.iload_n 1, 1) := by decide +kernel
theorem dX3_isOpen_13 : decode cX3_isOpen 13 = .ok (.invokestatic 128, 3) := by decide +kernel
theorem dX3_isOpen_16 : decode cX3_isOpen 16 = .ok (.ireturn, 1) := by decide +kernel
theorem dX3_turnPenalty_0 : decode cX3_turnPenalty 0 = .ok (.aload_n 0, 1) := by decide +kernel
theorem dX3_turnPenalty_1 : decode cX3_turnPenalty 1 = .ok (.iload_n 1, 1) := by decide +kernel
theorem dX3_turnPenalty_2 : decode cX3_turnPenalty 2 = .ok (.iload_n 2, 1) := by decide +kernel
theorem dX3_turnPenalty_3 : decode cX3_turnPenalty 3 = .ok (.invokevirtual 99, 3) := by decide +kernel
theorem dX3_turnPenalty_6 : decode cX3_turnPenalty 6 = .ok (.aload_n 0, 1) := by decide +kernel
theorem dX3_turnPenalty_7 : decode cX3_turnPenalty 7 = .ok (.getfield 12, 3) := by decide +kernel
theorem dX3_turnPenalty_10 : decode cX3_turnPenalty 10 = .ok (.iload_n 1, 1) := by decide +kernel
theorem dX3_turnPenalty_11 : decode cX3_turnPenalty 11 = .ok (.iload_n 2, 1) := by decide +kernel
theorem dX3_turnPenalty_12 : decode cX3_turnPenalty 12 = .ok (.invokevirtual 132, 3) := by decide +kernel
theorem dX3_turnPenalty_15 : decode cX3_turnPenalty 15 = .ok (.ireturn, 1) := by decide +kernel
theorem dX3_prepare_0 : decode cX3_prepare 0 = .ok (.aload_n 0, 1) := by decide +kernel
theorem dX3_prepare_1 : decode cX3_prepare 1 = .ok (.getfield 12, 3) := by decide +kernel
theorem dX3_prepare_4 : decode cX3_prepare 4 = .ok (.getfield 72, 3) := by decide +kernel
theorem dX3_prepare_7 : decode cX3_prepare 7 = .ok (.ifCond .ne 13, 3) := by decide +kernel
theorem dX3_prepare_10 : decode cX3_prepare 10 = .ok (.new 53, 3) := by decide +kernel
theorem dX3_prepare_13 : decode cX3_prepare 13 = .ok (.dup, 1) := by decide +kernel
theorem dX3_prepare_14 : decode cX3_prepare 14 = .ok (.ldc 135, 2) := by decide +kernel
theorem dX3_prepare_16 : decode cX3_prepare 16 = .ok (.invokespecial 57, 3) := by decide +kernel
theorem dX3_prepare_19 : decode cX3_prepare 19 = .ok (.athrow, 1) := by decide +kernel
theorem dX3_prepare_20 : decode cX3_prepare 20 = .ok (.aload_n 0, 1) := by decide +kernel
theorem dX3_prepare_21 : decode cX3_prepare 21 = .ok (.getfield 21, 3) := by decide +kernel
theorem dX3_prepare_24 : decode cX3_prepare 24 = .ok (.getfield 77, 3) := by decide +kernel
theorem dX3_prepare_27 : decode cX3_prepare 27 = .ok (.ifCond .ne 10, 3) := by decide +kernel
theorem dX3_prepare_30 : decode cX3_prepare 30 = .ok (.aload_n 0, 1) := by decide +kernel
theorem dX3_prepare_31 : decode cX3_prepare 31 = .ok (.getfield 21, 3) := by decide +kernel
theorem dX3_prepare_34 : decode cX3_prepare 34 = .ok (.invokevirtual 137, 3) := by decide +kernel
theorem dX3_prepare_37 : decode cX3_prepare 37 = .ok (.aload_n 0, 1) := by decide +kernel
theorem dX3_prepare_38 : decode cX3_prepare 38 = .ok (.getfield 21, 3) := by decide +kernel
theorem dX3_prepare_41 : decode cX3_prepare 41 = .ok (.getfield 140, 3) := by decide +kernel
theorem dX3_prepare_44 : decode cX3_prepare 44 = .ok (.ireturn, 1) := by decide +kernel
theorem dX3_isPrepared_0 : decode cX3_isPrepared 0 = .ok (.aload_n 0, 1) := by decide +kernel
theorem dX3_isPrepared_1 : decode cX3_isPrepared 1 = .ok (.getfield 21, 3) := by decide +kernel
theorem dX3_isPrepared_4 : decode cX3_isPrepared 4 = .ok (.getfield 77, 3) := by decide +kernel
theorem dX3_isPrepared_7 : decode cX3_isPrepared 7 = .ok (.ireturn, 1) := by decide +kernel
theorem dX3_position_0 : decode cX3_position 0 = .ok (.aload_n 0, 1) := by decide +kernel
theorem dX3_position_1 : decode cX3_position 1 = .ok (.invokevirtual 143, 3) := by decide +kernel
theorem dX3_position_4 : decode cX3_position 4 = .ok (.aload_n 0, 1) := by decide +kernel
theorem dX3_position_5 : decode cX3_position 5 = .ok (.iload_n 1, 1) := by decide +kernel
theorem dX3_position_6 : decode cX3_position 6 = .ok (.invokevirtual 85, 3) := by decide +kernel
theorem dX3_position_9 : decode cX3_position 9 = .ok (.aload_n 0, 1) := by decide +kernel
theorem dX3_position_10 : decode cX3_position 10 = .ok (.getfield 21, 3) := by decide +kernel
theorem dX3_position_13 : decode cX3_position 13 = .ok (.getfield 146, 3) := by decide +kernel
theorem dX3_position_16 : decode cX3_position 16 = .ok (.iload_n 1, 1) := by decide +kernel
theorem dX3_position_17 : decode cX3_position 17 = .ok (.iaload, 1) := by decide +kernel
theorem dX3_position_18 : decode cX3_position 18 = .ok (.ireturn, 1) := by decide +kernel
theorem dX3_arcCount_0 : decode cX3_arcCount 0 = .ok (.aload_n 0, 1) := by decide +kernel
theorem dX3_arcCount_1 : decode cX3_arcCount 1 = .ok (.getfield 21, 3) := by decide +kernel
theorem dX3_arcCount_4 : decode cX3_arcCount 4 = .ok (.getfield 77, 3) := by decide +kernel
theorem dX3_arcCount_7 : decode cX3_arcCount 7 = .ok (.ifCond .eq 13, 3) := by decide +kernel
theorem dX3_arcCount_10 : decode cX3_arcCount 10 = .ok (.aload_n 0, 1) := by decide +kernel
theorem dX3_arcCount_11 : decode cX3_arcCount 11 = .ok (.getfield 21, 3) := by decide +kernel
theorem dX3_arcCount_14 : decode cX3_arcCount 14 = .ok (.getfield 149, 3) := by decide +kernel
theorem dX3_arcCount_17 : decode cX3_arcCount 17 = .ok (.goto 4, 3) := by decide +kernel
theorem dX3_arcCount_20 : decode cX3_arcCount 20 = .ok (.iconst 0, 1) := by decide +kernel
theorem dX3_arcCount_21 : decode cX3_arcCount 21 = .ok (.ireturn, 1) := by decide +kernel
theorem dX3_hasArc_0 : decode cX3_hasArc 0 = .ok (.aload_n 0, 1) := by decide +kernel
theorem dX3_hasArc_1 : decode cX3_hasArc 1 = .ok (.invokevirtual 143, 3) := by decide +kernel
theorem dX3_hasArc_4 : decode cX3_hasArc 4 = .ok (.aload_n 0, 1) := by decide +kernel
theorem dX3_hasArc_5 : decode cX3_hasArc 5 = .ok (.iload_n 1, 1) := by decide +kernel
theorem dX3_hasArc_6 : decode cX3_hasArc 6 = .ok (.invokevirtual 85, 3) := by decide +kernel
theorem dX3_hasArc_9 : decode cX3_hasArc 9 = .ok (.aload_n 0, 1) := by decide +kernel
theorem dX3_hasArc_10 : decode cX3_hasArc 10 = .ok (.iload_n 2, 1) := by decide +kernel
theorem dX3_hasArc_11 : decode cX3_hasArc 11 = .ok (.invokevirtual 85, 3) := by decide +kernel
theorem dX3_hasArc_14 : decode cX3_hasArc 14 = .ok (.aload_n 0, 1) := by decide +kernel
theorem dX3_hasArc_15 : decode cX3_hasArc 15 = .ok (.getfield 21, 3) := by decide +kernel
theorem dX3_hasArc_18 : decode cX3_hasArc 18 = .ok (.getfield 152, 3) := by decide +kernel
theorem dX3_hasArc_21 : decode cX3_hasArc 21 = .ok (.iload_n 1, 1) := by decide +kernel
theorem dX3_hasArc_22 : decode cX3_hasArc 22 = .ok (.laload, 1) := by decide +kernel
theorem dX3_hasArc_23 : decode cX3_hasArc 23 = .ok (.iload_n 2, 1) := by decide +kernel
theorem dX3_hasArc_24 : decode cX3_hasArc 24 = .ok (.invokestatic 128, 3) := by decide +kernel
theorem dX3_hasArc_27 : decode cX3_hasArc 27 = .ok (.ireturn, 1) := by decide +kernel
theorem dX3_arcCost_0 : decode cX3_arcCost 0 = .ok (.aload_n 0, 1) := by decide +kernel
theorem dX3_arcCost_1 : decode cX3_arcCost 1 = .ok (.invokevirtual 143, 3) := by decide +kernel
theorem dX3_arcCost_4 : decode cX3_arcCost 4 = .ok (.aload_n 0, 1) := by decide +kernel
theorem dX3_arcCost_5 : decode cX3_arcCost 5 = .ok (.iload_n 1, 1) := by decide +kernel
theorem dX3_arcCost_6 : decode cX3_arcCost 6 = .ok (.invokevirtual 85, 3) := by decide +kernel
theorem dX3_arcCost_9 : decode cX3_arcCost 9 = .ok (.aload_n 0, 1) := by decide +kernel
theorem dX3_arcCost_10 : decode cX3_arcCost 10 = .ok (.iload_n 2, 1) := by decide +kernel
theorem dX3_arcCost_11 : decode cX3_arcCost 11 = .ok (.invokevirtual 85, 3) := by decide +kernel
theorem dX3_arcCost_14 : decode cX3_arcCost 14 = .ok (.aload_n 0, 1) := by decide +kernel
theorem dX3_arcCost_15 : decode cX3_arcCost 15 = .ok (.getfield 21, 3) := by decide +kernel
theorem dX3_arcCost_18 : decode cX3_arcCost 18 = .ok (.getfield 152, 3) := by decide +kernel
theorem dX3_arcCost_21 : decode cX3_arcCost 21 = .ok (.iload_n 1, 1) := by decide +kernel
theorem dX3_arcCost_22 : decode cX3_arcCost 22 = .ok (.laload, 1) := by decide +kernel
theorem dX3_arcCost_23 : decode cX3_arcCost 23 = .ok (.iload_n 2, 1) := by decide +kernel
theorem dX3_arcCost_24 : decode cX3_arcCost 24 = .ok (.invokestatic 128, 3) := by decide +kernel
theorem dX3_arcCost_27 : decode cX3_arcCost 27 = .ok (.ifCond .ne 13, 3) := by decide +kernel
theorem dX3_arcCost_30 : decode cX3_arcCost 30 = .ok (.new 156, 3) := by decide +kernel
theorem dX3_arcCost_33 : decode cX3_arcCost 33 = .ok (.dup, 1) := by decide +kernel
theorem dX3_arcCost_34 : decode cX3_arcCost 34 = .ok (.ldc 158, 2) := by decide +kernel
theorem dX3_arcCost_36 : decode cX3_arcCost 36 = .ok (.invokespecial 160, 3) := by decide +kernel
theorem dX3_arcCost_39 : decode cX3_arcCost 39 = .ok (.athrow, 1) := by decide +kernel
theorem dX3_arcCost_40 : decode cX3_arcCost 40 = .ok (.aload_n 0, 1) := by decide +kernel
theorem dX3_arcCost_41 : decode cX3_arcCost 41 = .ok (.getfield 21, 3) := by decide +kernel
theorem dX3_arcCost_44 : decode cX3_arcCost 44 = .ok (.getfield 161, 3) := by decide +kernel
theorem dX3_arcCost_47 : decode cX3_arcCost 47 = .ok (.iload_n 1, 1) := by decide +kernel
theorem dX3_arcCost_48 : decode cX3_arcCost 48 = .ok (.iload_n 2, 1) := by decide +kernel
theorem dX3_arcCost_49 : decode cX3_arcCost 49 = .ok (.invokestatic 108, 3) := by decide +kernel
theorem dX3_arcCost_52 : decode cX3_arcCost 52 = .ok (.iaload, 1) := by decide +kernel
theorem dX3_arcCost_53 : decode cX3_arcCost 53 = .ok (.invokestatic 162, 3) := by decide +kernel
theorem dX3_arcCost_56 : decode cX3_arcCost 56 = .ok (.ireturn, 1) := by decide +kernel
theorem dX3_distance_0 : decode cX3_distance 0 = .ok (.aload_n 0, 1) := by decide +kernel
theorem dX3_distance_1 : decode cX3_distance 1 = .ok (.invokevirtual 143, 3) := by decide +kernel
theorem dX3_distance_4 : decode cX3_distance 4 = .ok (.aload_n 0, 1) := by decide +kernel
theorem dX3_distance_5 : decode cX3_distance 5 = .ok (.iload_n 1, 1) := by decide +kernel
theorem dX3_distance_6 : decode cX3_distance 6 = .ok (.invokevirtual 60, 3) := by decide +kernel
theorem dX3_distance_9 : decode cX3_distance 9 = .ok (.aload_n 0, 1) := by decide +kernel
theorem dX3_distance_10 : decode cX3_distance 10 = .ok (.iload_n 2, 1) := by decide +kernel
theorem dX3_distance_11 : decode cX3_distance 11 = .ok (.invokevirtual 60, 3) := by decide +kernel
theorem dX3_distance_14 : decode cX3_distance 14 = .ok (.aload_n 0, 1) := by decide +kernel
theorem dX3_distance_15 : decode cX3_distance 15 = .ok (.iload_n 1, 1) := by decide +kernel
theorem dX3_distance_16 : decode cX3_distance 16 = .ok (.iload_n 2, 1) := by decide +kernel
theorem dX3_distance_17 : decode cX3_distance 17 = .ok (.invokevirtual 165, 3) := by decide +kernel
theorem dX3_distance_20 : decode cX3_distance 20 = .ok (.ireturn, 1) := by decide +kernel
theorem dX3_distanceBehind_0 : decode cX3_distanceBehind 0 = .ok (.aload_n 0, 1) := by decide +kernel
theorem dX3_distanceBehind_1 : decode cX3_distanceBehind 1 = .ok (.invokevirtual 143, 3) := by decide +kernel
theorem dX3_distanceBehind_4 : decode cX3_distanceBehind 4 = .ok (.aload_n 0, 1) := by decide +kernel
theorem dX3_distanceBehind_5 : decode cX3_distanceBehind 5 = .ok (.iload_n 1, 1) := by decide +kernel
theorem dX3_distanceBehind_6 : decode cX3_distanceBehind 6 = .ok (.invokevirtual 85, 3) := by decide +kernel
theorem dX3_distanceBehind_9 : decode cX3_distanceBehind 9 = .ok (.aload_n 0, 1) := by decide +kernel
theorem dX3_distanceBehind_10 : decode cX3_distanceBehind 10 = .ok (.iload_n 2, 1) := by decide +kernel
theorem dX3_distanceBehind_11 : decode cX3_distanceBehind 11 = .ok (.invokevirtual 60, 3) := by decide +kernel
theorem dX3_distanceBehind_14 : decode cX3_distanceBehind 14 = .ok (.aload_n 0, 1) := by decide +kernel
theorem dX3_distanceBehind_15 : decode cX3_distanceBehind 15 = .ok (.getfield 36, 3) := by decide +kernel
theorem dX3_distanceBehind_18 : decode cX3_distanceBehind 18 = .ok (.ldc 168, 2) := by decide +kernel
theorem dX3_distanceBehind_20 : decode cX3_distanceBehind 20 = .ok (.invokestatic 169, 3) := by decide +kernel
theorem dX3_distanceBehind_23 : decode cX3_distanceBehind 23 = .ok (.aload_n 0, 1) := by decide +kernel
theorem dX3_distanceBehind_24 : decode cX3_distanceBehind 24 = .ok (.getfield 12, 3) := by decide +kernel
theorem dX3_distanceBehind_27 : decode cX3_distanceBehind 27 = .ok (.getfield 124, 3) := by decide +kernel
theorem dX3_distanceBehind_30 : decode cX3_distanceBehind 30 = .ok (.iload_n 1, 1) := by decide +kernel
theorem dX3_distanceBehind_31 : decode cX3_distanceBehind 31 = .ok (.invokestatic 128, 3) := by decide +kernel
theorem dX3_distanceBehind_34 : decode cX3_distanceBehind 34 = .ok (.ifCond .eq 10, 3) := by decide +kernel
theorem dX3_distanceBehind_37 : decode cX3_distanceBehind 37 = .ok (.aload_n 0, 1) := by decide +kernel
theorem dX3_distanceBehind_38 : decode cX3_distanceBehind 38 = .ok (.getfield 36, 3) := by decide +kernel
theorem dX3_distanceBehind_41 : decode cX3_distanceBehind 41 = .ok (.iload_n 1, 1) := by decide +kernel
theorem dX3_distanceBehind_42 : decode cX3_distanceBehind 42 = .ok (.iconst 0, 1) := by decide +kernel
theorem dX3_distanceBehind_43 : decode cX3_distanceBehind 43 = .ok (.iastore, 1) := by decide +kernel
theorem dX3_distanceBehind_44 : decode cX3_distanceBehind 44 = .ok (.aload_n 0, 1) := by decide +kernel
theorem dX3_distanceBehind_45 : decode cX3_distanceBehind 45 = .ok (.getfield 21, 3) := by decide +kernel
theorem dX3_distanceBehind_48 : decode cX3_distanceBehind 48 = .ok (.aload_n 0, 1) := by decide +kernel
theorem dX3_distanceBehind_49 : decode cX3_distanceBehind 49 = .ok (.getfield 36, 3) := by decide +kernel
theorem dX3_distanceBehind_52 : decode cX3_distanceBehind 52 = .ok (.invokevirtual 175, 3) := by decide +kernel
theorem dX3_distanceBehind_55 : decode cX3_distanceBehind 55 = .ok (.aload_n 0, 1) := by decide +kernel
theorem dX3_distanceBehind_56 : decode cX3_distanceBehind 56 = .ok (.aload_n 0, 1) := by decide +kernel
theorem dX3_distanceBehind_57 : decode cX3_distanceBehind 57 = .ok (.getfield 12, 3) := by decide +kernel
theorem dX3_distanceBehind_60 : decode cX3_distanceBehind 60 = .ok (.getfield 179, 3) := by decide +kernel
theorem dX3_distanceBehind_63 : decode cX3_distanceBehind 63 = .ok (.iload_n 2, 1) := by decide +kernel
theorem dX3_distanceBehind_64 : decode cX3_distanceBehind 64 = .ok (.laload, 1) := by decide +kernel
theorem dX3_distanceBehind_65 : decode cX3_distanceBehind 65 = .ok (.invokevirtual 182, 3) := by decide +kernel
theorem dX3_distanceBehind_68 : decode cX3_distanceBehind 68 = .ok (.invokestatic 162, 3) := by decide +kernel
theorem dX3_distanceBehind_71 : decode cX3_distanceBehind 71 = .ok (.ireturn, 1) := by decide +kernel
theorem dX3_route_0 : decode cX3_route 0 = .ok (.aload_n 0, 1) := by decide +kernel
theorem dX3_route_1 : decode cX3_route 1 = .ok (.invokevirtual 143, 3) := by decide +kernel
theorem dX3_route_4 : decode cX3_route 4 = .ok (.aload_n 0, 1) := by decide +kernel
theorem dX3_route_5 : decode cX3_route 5 = .ok (.iload_n 1, 1) := by decide +kernel
theorem dX3_route_6 : decode cX3_route 6 = .ok (.invokevirtual 60, 3) := by decide +kernel
theorem dX3_route_9 : decode cX3_route 9 = .ok (.aload_n 0, 1) := by decide +kernel
theorem dX3_route_10 : decode cX3_route 10 = .ok (.iload_n 2, 1) := by decide +kernel
theorem dX3_route_11 : decode cX3_route 11 = .ok (.invokevirtual 60, 3) := by decide +kernel
theorem dX3_route_14 : decode cX3_route 14 = .ok (.iload_n 1, 1) := by decide +kernel
theorem dX3_route_15 : decode cX3_route 15 = .ok (.iload_n 2, 1) := by decide +kernel
theorem dX3_route_16 : decode cX3_route 16 = .ok (.if_icmp .ne 15, 3) := by decide +kernel
theorem dX3_route_19 : decode cX3_route 19 = .ok (.aload_n 0, 1) := by decide +kernel
theorem dX3_route_20 : decode cX3_route 20 = .ok (.iconst 0, 1) := by decide +kernel
theorem dX3_route_21 : decode cX3_route 21 = .ok (.putfield 186, 3) := by decide +kernel
theorem dX3_route_24 : decode cX3_route 24 = .ok (.aload_n 0, 1) := by decide +kernel
theorem dX3_route_25 : decode cX3_route 25 = .ok (.iconst 0, 1) := by decide +kernel
theorem dX3_route_26 : decode cX3_route 26 = .ok (.putfield 189, 3) := by decide +kernel
theorem dX3_route_29 : decode cX3_route 29 = .ok (.iconst 0, 1) := by decide +kernel
theorem dX3_route_30 : decode cX3_route 30 = .ok (.ireturn, 1) := by decide +kernel
theorem dX3_route_31 : decode cX3_route 31 = .ok (.aload_n 0, 1) := by decide +kernel
theorem dX3_route_32 : decode cX3_route 32 = .ok (.iload_n 2, 1) := by decide +kernel
theorem dX3_route_33 : decode cX3_route 33 = .ok (.invokevirtual 192, 3) := by decide +kernel
theorem dX3_route_36 : decode cX3_route 36 = .ok (.aload_n 0, 1) := by decide +kernel
theorem dX3_route_37 : decode cX3_route 37 = .ok (.iload_n 1, 1) := by decide +kernel
theorem dX3_route_38 : decode cX3_route 38 = .ok (.invokevirtual 195, 3) := by decide +kernel
theorem dX3_route_41 : decode cX3_route 41 = .ok (.istore_n 3, 1) := by decide +kernel
theorem dX3_route_42 : decode cX3_route 42 = .ok (.iload_n 3, 1) := by decide +kernel
theorem dX3_route_43 : decode cX3_route 43 = .ok (.ifCond .ge 13, 3) := by decide +kernel
theorem dX3_route_46 : decode cX3_route 46 = .ok (.new 156, 3) := by decide +kernel
theorem dX3_route_49 : decode cX3_route 49 = .ok (.dup, 1) := by decide +kernel
theorem dX3_route_50 : decode cX3_route 50 = .ok (.ldc 198, 2) := by decide +kernel
theorem dX3_route_52 : decode cX3_route 52 = .ok (.invokespecial 160, 3) := by decide +kernel
theorem dX3_route_55 : decode cX3_route 55 = .ok (.athrow, 1) := by decide +kernel
theorem dX3_route_56 : decode cX3_route 56 = .ok (.aload_n 0, 1) := by decide +kernel
theorem dX3_route_57 : decode cX3_route 57 = .ok (.aload_n 0, 1) := by decide +kernel
theorem dX3_route_58 : decode cX3_route 58 = .ok (.getfield 12, 3) := by decide +kernel
theorem dX3_route_61 : decode cX3_route 61 = .ok (.iload_n 3, 1) := by decide +kernel
theorem dX3_route_62 : decode cX3_route 62 = .ok (.invokevirtual 200, 3) := by decide +kernel
theorem dX3_route_65 : decode cX3_route 65 = .ok (.aload_n 0, 1) := by decide +kernel
theorem dX3_route_66 : decode cX3_route 66 = .ok (.getfield 36, 3) := by decide +kernel
theorem dX3_route_69 : decode cX3_route 69 = .ok (.iload_n 3, 1) := by decide +kernel
theorem dX3_route_70 : decode cX3_route 70 = .ok (.iaload, 1) := by decide +kernel
theorem dX3_route_71 : decode cX3_route 71 = .ok (.iadd, 1) := by decide +kernel
theorem dX3_route_72 : decode cX3_route 72 = .ok (.invokestatic 162, 3) := by decide +kernel
theorem dX3_route_75 : decode cX3_route 75 = .ok (.putfield 189, 3) := by decide +kernel
theorem dX3_route_78 : decode cX3_route 78 = .ok (.aload_n 0, 1) := by decide +kernel
theorem dX3_route_79 : decode cX3_route 79 = .ok (.aload_n 0, 1) := by decide +kernel
theorem dX3_route_80 : decode cX3_route 80 = .ok (.iload_n 3, 1) := by decide +kernel
theorem dX3_route_81 : decode cX3_route 81 = .ok (.invokevirtual 203, 3) := by decide +kernel
theorem dX3_route_84 : decode cX3_route 84 = .ok (.putfield 186, 3) := by decide +kernel
theorem dX3_route_87 : decode cX3_route 87 = .ok (.aload_n 0, 1) := by decide +kernel
theorem dX3_route_88 : decode cX3_route 88 = .ok (.getfield 186, 3) := by decide +kernel
theorem dX3_route_91 : decode cX3_route 91 = .ok (.ireturn, 1) := by decide +kernel
theorem dX3_routeRoad_0 : decode cX3_routeRoad 0 = .ok (.iload_n 1, 1) := by decide +kernel
theorem dX3_routeRoad_1 : decode cX3_routeRoad 1 = .ok (.ifCond .lt 11, 3) := by decide +kernel
theorem dX3_routeRoad_4 : decode cX3_routeRoad 4 = .ok (.iload_n 1, 1) := by decide +kernel
theorem dX3_routeRoad_5 : decode cX3_routeRoad 5 = .ok (.aload_n 0, 1) := by decide +kernel
theorem dX3_routeRoad_6 : decode cX3_routeRoad 6 = .ok (.getfield 186, 3) := by decide +kernel
theorem dX3_routeRoad_9 : decode cX3_routeRoad 9 = .ok (.if_icmp .lt 13, 3) := by decide +kernel
theorem dX3_routeRoad_12 : decode cX3_routeRoad 12 = .ok (.new 206, 3) := by decide +kernel
theorem dX3_routeRoad_15 : decode cX3_routeRoad 15 = .ok (.dup, 1) := by decide +kernel
theorem dX3_routeRoad_16 : decode cX3_routeRoad 16 = .ok (.ldc 208, 2) := by decide +kernel
theorem dX3_routeRoad_18 : decode cX3_routeRoad 18 = .ok (.invokespecial 210, 3) := by decide +kernel
theorem dX3_routeRoad_21 : decode cX3_routeRoad 21 = .ok (.athrow, 1) := by decide +kernel
theorem dX3_routeRoad_22 : decode cX3_routeRoad 22 = .ok (.aload_n 0, 1) := by decide +kernel
theorem dX3_routeRoad_23 : decode cX3_routeRoad 23 = .ok (.getfield 40, 3) := by decide +kernel
theorem dX3_routeRoad_26 : decode cX3_routeRoad 26 = .ok (.iload_n 1, 1) := by decide +kernel
theorem dX3_routeRoad_27 : decode cX3_routeRoad 27 = .ok (.iaload, 1) := by decide +kernel
theorem dX3_routeRoad_28 : decode cX3_routeRoad 28 = .ok (.ireturn, 1) := by decide +kernel
theorem dX3_routeCost_0 : decode cX3_routeCost 0 = .ok (.aload_n 0, 1) := by decide +kernel
theorem dX3_routeCost_1 : decode cX3_routeCost 1 = .ok (.getfield 189, 3) := by decide +kernel
theorem dX3_routeCost_4 : decode cX3_routeCost 4 = .ok (.ireturn, 1) := by decide +kernel
theorem dX3_reach_0 : decode cX3_reach 0 = .ok (.aload_n 0, 1) := by decide +kernel
theorem dX3_reach_1 : decode cX3_reach 1 = .ok (.invokevirtual 143, 3) := by decide +kernel
theorem dX3_reach_4 : decode cX3_reach 4 = .ok (.aload_n 0, 1) := by decide +kernel
theorem dX3_reach_5 : decode cX3_reach 5 = .ok (.iload_n 1, 1) := by decide +kernel
theorem dX3_reach_6 : decode cX3_reach 6 = .ok (.invokevirtual 60, 3) := by decide +kernel
theorem dX3_reach_9 : decode cX3_reach 9 = .ok (.iload_n 2, 1) := by decide +kernel
theorem dX3_reach_10 : decode cX3_reach 10 = .ok (.ifCond .ge 13, 3) := by decide +kernel
theorem dX3_reach_13 : decode cX3_reach 13 = .ok (.new 64, 3) := by decide +kernel
theorem dX3_reach_16 : decode cX3_reach 16 = .ok (.dup, 1) := by decide +kernel
theorem dX3_reach_17 : decode cX3_reach 17 = .ok (.ldc 211, 2) := by decide +kernel
theorem dX3_reach_19 : decode cX3_reach 19 = .ok (.invokespecial 68, 3) := by decide +kernel
theorem dX3_reach_22 : decode cX3_reach 22 = .ok (.athrow, 1) := by decide +kernel
theorem dX3_reach_23 : decode cX3_reach 23 = .ok (.aload_n 0, 1) := by decide +kernel
theorem dX3_reach_24 : decode cX3_reach 24 = .ok (.iload_n 1, 1) := by decide +kernel
theorem dX3_reach_25 : decode cX3_reach 25 = .ok (.invokevirtual 213, 3) := by decide +kernel
theorem dX3_reach_28 : decode cX3_reach 28 = .ok (.aload_n 0, 1) := by decide +kernel
theorem dX3_reach_29 : decode cX3_reach 29 = .ok (.iconst 0, 1) := by decide +kernel
theorem dX3_reach_30 : decode cX3_reach 30 = .ok (.putfield 216, 3) := by decide +kernel
theorem dX3_reach_33 : decode cX3_reach 33 = .ok (.iconst 0, 1) := by decide +kernel
theorem dX3_reach_34 : decode cX3_reach 34 = .ok (.istore_n 3, 1) := by decide +kernel
theorem dX3_reach_35 : decode cX3_reach 35 = .ok (.iload_n 3, 1) := by decide +kernel
theorem dX3_reach_36 : decode cX3_reach 36 = .ok (.aload_n 0, 1) := by decide +kernel
theorem dX3_reach_37 : decode cX3_reach 37 = .ok (.getfield 12, 3) := by decide +kernel
theorem dX3_reach_40 : decode cX3_reach 40 = .ok (.getfield 49, 3) := by decide +kernel
theorem dX3_reach_43 : decode cX3_reach 43 = .ok (.if_icmp .ge 35, 3) := by decide +kernel
theorem dX3_reach_46 : decode cX3_reach 46 = .ok (.aload_n 0, 1) := by decide +kernel
theorem dX3_reach_47 : decode cX3_reach 47 = .ok (.iload_n 1, 1) := by decide +kernel
theorem dX3_reach_48 : decode cX3_reach 48 = .ok (.iload_n 3, 1) := by decide +kernel
theorem dX3_reach_49 : decode cX3_reach 49 = .ok (.invokevirtual 219, 3) := by decide +kernel
theorem dX3_reach_52 : decode cX3_reach 52 = .ok (.istore 4, 2) := by decide +kernel
theorem dX3_reach_54 : decode cX3_reach 54 = .ok (.iload 4, 2) := by decide +kernel
theorem dX3_reach_56 : decode cX3_reach 56 = .ok (.ifCond .lt 16, 3) := by decide +kernel
theorem dX3_reach_59 : decode cX3_reach 59 = .ok (.iload 4, 2) := by decide +kernel
theorem dX3_reach_61 : decode cX3_reach 61 = .ok (.iload_n 2, 1) := by decide +kernel
theorem dX3_reach_62 : decode cX3_reach 62 = .ok (.if_icmp .gt 10, 3) := by decide +kernel
theorem dX3_reach_65 : decode cX3_reach 65 = .ok (.aload_n 0, 1) := by decide +kernel
theorem dX3_reach_66 : decode cX3_reach 66 = .ok (.iload_n 3, 1) := by decide +kernel
theorem dX3_reach_67 : decode cX3_reach 67 = .ok (.iload 4, 2) := by decide +kernel
theorem dX3_reach_69 : decode cX3_reach 69 = .ok (.invokevirtual 222, 3) := by decide +kernel
theorem dX3_reach_72 : decode cX3_reach 72 = .ok (.iinc 3 1, 3) := by decide +kernel
theorem dX3_reach_75 : decode cX3_reach 75 = .ok (.goto (-40), 3) := by decide +kernel
theorem dX3_reach_78 : decode cX3_reach 78 = .ok (.aload_n 0, 1) := by decide +kernel
theorem dX3_reach_79 : decode cX3_reach 79 = .ok (.getfield 216, 3) := by decide +kernel
theorem dX3_reach_82 : decode cX3_reach 82 = .ok (.ireturn, 1) := by decide +kernel
theorem dX3_reached_0 : decode cX3_reached 0 = .ok (.iload_n 1, 1) := by decide +kernel
theorem dX3_reached_1 : decode cX3_reached 1 = .ok (.ifCond .lt 11, 3) := by decide +kernel
theorem dX3_reached_4 : decode cX3_reached 4 = .ok (.iload_n 1, 1) := by decide +kernel
theorem dX3_reached_5 : decode cX3_reached 5 = .ok (.aload_n 0, 1) := by decide +kernel
theorem dX3_reached_6 : decode cX3_reached 6 = .ok (.getfield 216, 3) := by decide +kernel
theorem dX3_reached_9 : decode cX3_reached 9 = .ok (.if_icmp .lt 13, 3) := by decide +kernel
theorem dX3_reached_12 : decode cX3_reached 12 = .ok (.new 206, 3) := by decide +kernel
theorem dX3_reached_15 : decode cX3_reached 15 = .ok (.dup, 1) := by decide +kernel
theorem dX3_reached_16 : decode cX3_reached 16 = .ok (.ldc 225, 2) := by decide +kernel
theorem dX3_reached_18 : decode cX3_reached 18 = .ok (.invokespecial 210, 3) := by decide +kernel
theorem dX3_reached_21 : decode cX3_reached 21 = .ok (.athrow, 1) := by decide +kernel
theorem dX3_reached_22 : decode cX3_reached 22 = .ok (.aload_n 0, 1) := by decide +kernel
theorem dX3_reached_23 : decode cX3_reached 23 = .ok (.getfield 43, 3) := by decide +kernel
theorem dX3_reached_26 : decode cX3_reached 26 = .ok (.iload_n 1, 1) := by decide +kernel
theorem dX3_reached_27 : decode cX3_reached 27 = .ok (.iaload, 1) := by decide +kernel
theorem dX3_reached_28 : decode cX3_reached 28 = .ok (.ireturn, 1) := by decide +kernel
theorem dX3_averageDistance_0 : decode cX3_averageDistance 0 = .ok (.aload_n 0, 1) := by decide +kernel
theorem dX3_averageDistance_1 : decode cX3_averageDistance 1 = .ok (.invokevirtual 143, 3) := by decide +kernel
theorem dX3_averageDistance_4 : decode cX3_averageDistance 4 = .ok (.aload_n 0, 1) := by decide +kernel
theorem dX3_averageDistance_5 : decode cX3_averageDistance 5 = .ok (.iload_n 1, 1) := by decide +kernel
theorem dX3_averageDistance_6 : decode cX3_averageDistance 6 = .ok (.invokevirtual 60, 3) := by decide +kernel
theorem dX3_averageDistance_9 : decode cX3_averageDistance 9 = .ok (.aload_n 0, 1) := by decide +kernel
theorem dX3_averageDistance_10 : decode cX3_averageDistance 10 = .ok (.iload_n 1, 1) := by decide +kernel
theorem dX3_averageDistance_11 : decode cX3_averageDistance 11 = .ok (.invokevirtual 213, 3) := by decide +kernel
theorem dX3_averageDistance_14 : decode cX3_averageDistance 14 = .ok (.iconst 0, 1) := by decide +kernel
theorem dX3_averageDistance_15 : decode cX3_averageDistance 15 = .ok (.istore_n 2, 1) := by decide +kernel
theorem dX3_averageDistance_16 : decode cX3_averageDistance 16 = .ok (.iconst 0, 1) := by decide +kernel
theorem dX3_averageDistance_17 : decode cX3_averageDistance 17 = .ok (.istore_n 3, 1) := by decide +kernel
theorem dX3_averageDistance_18 : decode cX3_averageDistance 18 = .ok (.iconst 0, 1) := by decide +kernel
theorem dX3_averageDistance_19 : decode cX3_averageDistance 19 = .ok (.istore 4, 2) := by decide +kernel
theorem dX3_averageDistance_21 : decode cX3_averageDistance 21 = .ok (.iload 4, 2) := by decide +kernel
theorem dX3_averageDistance_23 : decode cX3_averageDistance 23 = .ok (.aload_n 0, 1) := by decide +kernel
theorem dX3_averageDistance_24 : decode cX3_averageDistance 24 = .ok (.getfield 12, 3) := by decide +kernel
theorem dX3_averageDistance_27 : decode cX3_averageDistance 27 = .ok (.getfield 49, 3) := by decide +kernel
theorem dX3_averageDistance_30 : decode cX3_averageDistance 30 = .ok (.if_icmp .ge 37, 3) := by decide +kernel
theorem dX3_averageDistance_33 : decode cX3_averageDistance 33 = .ok (.aload_n 0, 1) := by decide +kernel
theorem dX3_averageDistance_34 : decode cX3_averageDistance 34 = .ok (.iload_n 1, 1) := by decide +kernel
theorem dX3_averageDistance_35 : decode cX3_averageDistance 35 = .ok (.iload 4, 2) := by decide +kernel
theorem dX3_averageDistance_37 : decode cX3_averageDistance 37 = .ok (.invokevirtual 219, 3) := by decide +kernel
theorem dX3_averageDistance_40 : decode cX3_averageDistance 40 = .ok (.istore 5, 2) := by decide +kernel
theorem dX3_averageDistance_42 : decode cX3_averageDistance 42 = .ok (.iload 4, 2) := by decide +kernel
theorem dX3_averageDistance_44 : decode cX3_averageDistance 44 = .ok (.iload_n 1, 1) := by decide +kernel
theorem dX3_averageDistance_45 : decode cX3_averageDistance 45 = .ok (.if_icmp .eq 16, 3) := by decide +kernel
theorem dX3_averageDistance_48 : decode cX3_averageDistance 48 = .ok (.iload 5, 2) := by decide +kernel
theorem dX3_averageDistance_50 : decode cX3_averageDistance 50 = .ok (.ifCond .lt 11, 3) := by decide +kernel
theorem dX3_averageDistance_53 : decode cX3_averageDistance 53 = .ok (.iload_n 2, 1) := by decide +kernel
theorem dX3_averageDistance_54 : decode cX3_averageDistance 54 = .ok (.iload 5, 2) := by decide +kernel
theorem dX3_averageDistance_56 : decode cX3_averageDistance 56 = .ok (.iadd, 1) := by decide +kernel
theorem dX3_averageDistance_57 : decode cX3_averageDistance 57 = .ok (.istore_n 2, 1) := by decide +kernel
theorem dX3_averageDistance_58 : decode cX3_averageDistance 58 = .ok (.iinc 3 1, 3) := by decide +kernel
theorem dX3_averageDistance_61 : decode cX3_averageDistance 61 = .ok (.iinc 4 1, 3) := by decide +kernel
theorem dX3_averageDistance_64 : decode cX3_averageDistance 64 = .ok (.goto (-43), 3) := by decide +kernel
theorem dX3_averageDistance_67 : decode cX3_averageDistance 67 = .ok (.iload_n 3, 1) := by decide +kernel
theorem dX3_averageDistance_68 : decode cX3_averageDistance 68 = .ok (.ifCond .ne 7, 3) := by decide +kernel
theorem dX3_averageDistance_71 : decode cX3_averageDistance 71 = .ok (.dconst 0, 1) := by decide +kernel
theorem dX3_averageDistance_72 : decode cX3_averageDistance 72 = .ok (.goto 8, 3) := by decide +kernel
theorem dX3_averageDistance_75 : decode cX3_averageDistance 75 = .ok (.iload_n 2, 1) := by decide +kernel
theorem dX3_averageDistance_76 : decode cX3_averageDistance 76 = .ok (.i2d, 1) := by decide +kernel
theorem dX3_averageDistance_77 : decode cX3_averageDistance 77 = .ok (.iload_n 3, 1) := by decide +kernel
theorem dX3_averageDistance_78 : decode cX3_averageDistance 78 = .ok (.i2d, 1) := by decide +kernel
theorem dX3_averageDistance_79 : decode cX3_averageDistance 79 = .ok (.ddiv, 1) := by decide +kernel
theorem dX3_averageDistance_80 : decode cX3_averageDistance 80 = .ok (.dreturn, 1) := by decide +kernel
theorem dX3_detour_0 : decode cX3_detour 0 = .ok (.aload_n 0, 1) := by decide +kernel
theorem dX3_detour_1 : decode cX3_detour 1 = .ok (.invokevirtual 143, 3) := by decide +kernel
theorem dX3_detour_4 : decode cX3_detour 4 = .ok (.aload_n 0, 1) := by decide +kernel
theorem dX3_detour_5 : decode cX3_detour 5 = .ok (.iload_n 1, 1) := by decide +kernel
theorem dX3_detour_6 : decode cX3_detour 6 = .ok (.invokevirtual 60, 3) := by decide +kernel
theorem dX3_detour_9 : decode cX3_detour 9 = .ok (.aload_n 0, 1) := by decide +kernel
theorem dX3_detour_10 : decode cX3_detour 10 = .ok (.iload_n 2, 1) := by decide +kernel
theorem dX3_detour_11 : decode cX3_detour 11 = .ok (.invokevirtual 60, 3) := by decide +kernel
theorem dX3_detour_14 : decode cX3_detour 14 = .ok (.aload_n 0, 1) := by decide +kernel
theorem dX3_detour_15 : decode cX3_detour 15 = .ok (.iload_n 3, 1) := by decide +kernel
theorem dX3_detour_16 : decode cX3_detour 16 = .ok (.invokevirtual 85, 3) := by decide +kernel
theorem dX3_detour_19 : decode cX3_detour 19 = .ok (.aload_n 0, 1) := by decide +kernel
theorem dX3_detour_20 : decode cX3_detour 20 = .ok (.iload_n 1, 1) := by decide +kernel
theorem dX3_detour_21 : decode cX3_detour 21 = .ok (.iload_n 2, 1) := by decide +kernel
theorem dX3_detour_22 : decode cX3_detour 22 = .ok (.invokevirtual 165, 3) := by decide +kernel
theorem dX3_detour_25 : decode cX3_detour 25 = .ok (.istore 4, 2) := by decide +kernel
theorem dX3_detour_27 : decode cX3_detour 27 = .ok (.iload 4, 2) := by decide +kernel
theorem dX3_detour_29 : decode cX3_detour 29 = .ok (.ifCond .ge 13, 3) := by decide +kernel
theorem dX3_detour_32 : decode cX3_detour 32 = .ok (.new 156, 3) := by decide +kernel
theorem dX3_detour_35 : decode cX3_detour 35 = .ok (.dup, 1) := by decide +kernel
theorem dX3_detour_36 : decode cX3_detour 36 = .ok (.ldc 198, 2) := by decide +kernel
theorem dX3_detour_38 : decode cX3_detour 38 = .ok (.invokespecial 160, 3) := by decide +kernel
theorem dX3_detour_41 : decode cX3_detour 41 = .ok (.athrow, 1) := by decide +kernel
theorem dX3_detour_42 : decode cX3_detour 42 = .ok (.aload_n 0, 1) := by decide +kernel
theorem dX3_detour_43 : decode cX3_detour 43 = .ok (.getfield 12, 3) := by decide +kernel
theorem dX3_detour_46 : decode cX3_detour 46 = .ok (.getfield 124, 3) := by decide +kernel
theorem dX3_detour_49 : decode cX3_detour 49 = .ok (.iload_n 3, 1) := by decide +kernel
theorem dX3_detour_50 : decode cX3_detour 50 = .ok (.invokestatic 128, 3) := by decide +kernel
theorem dX3_detour_53 : decode cX3_detour 53 = .ok (.ifCond .ne 5, 3) := by decide +kernel
theorem dX3_detour_56 : decode cX3_detour 56 = .ok (.iconst 0, 1) := by decide +kernel
theorem dX3_detour_57 : decode cX3_detour 57 = .ok (.ireturn, 1) := by decide +kernel
theorem dX3_detour_58 : decode cX3_detour 58 = .ok (.aload_n 0, 1) := by decide +kernel
theorem dX3_detour_59 : decode cX3_detour 59 = .ok (.iload_n 3, 1) := by decide +kernel
theorem dX3_detour_60 : decode cX3_detour 60 = .ok (.iconst 0, 1) := by decide +kernel
theorem dX3_detour_61 : decode cX3_detour 61 = .ok (.invokevirtual 95, 3) := by decide +kernel
theorem dX3_detour_64 : decode cX3_detour 64 = .ok (.pop, 1) := by decide +kernel
theorem dX3_detour_65 : decode cX3_detour 65 = .ok (.aload_n 0, 1) := by decide +kernel
theorem dX3_detour_66 : decode cX3_detour 66 = .ok (.iload_n 1, 1) := by decide +kernel
theorem dX3_detour_67 : decode cX3_detour 67 = .ok (.iload_n 2, 1) := by decide +kernel
theorem dX3_detour_68 : decode cX3_detour 68 = .ok (.invokevirtual 165, 3) := by decide +kernel
theorem dX3_detour_71 : decode cX3_detour 71 = .ok (.istore 5, 2) := by decide +kernel
theorem dX3_detour_73 : decode cX3_detour 73 = .ok (.aload_n 0, 1) := by decide +kernel
theorem dX3_detour_74 : decode cX3_detour 74 = .ok (.iload_n 3, 1) := by decide +kernel
theorem dX3_detour_75 : decode cX3_detour 75 = .ok (.iconst 1, 1) := by decide +kernel
theorem dX3_detour_76 : decode cX3_detour 76 = .ok (.invokevirtual 95, 3) := by decide +kernel
theorem dX3_detour_79 : decode cX3_detour 79 = .ok (.pop, 1) := by decide +kernel
theorem dX3_detour_80 : decode cX3_detour 80 = .ok (.iload 5, 2) := by decide +kernel
theorem dX3_detour_82 : decode cX3_detour 82 = .ok (.ifCond .ge 7, 3) := by decide +kernel
theorem dX3_detour_85 : decode cX3_detour 85 = .ok (.iconst (-1), 1) := by decide +kernel
theorem dX3_detour_86 : decode cX3_detour 86 = .ok (.goto 8, 3) := by decide +kernel
theorem dX3_detour_89 : decode cX3_detour 89 = .ok (.iload 5, 2) := by decide +kernel
theorem dX3_detour_91 : decode cX3_detour 91 = .ok (.iload 4, 2) := by decide +kernel
theorem dX3_detour_93 : decode cX3_detour 93 = .ok (.isub, 1) := by decide +kernel
theorem dX3_detour_94 : decode cX3_detour 94 = .ok (.ireturn, 1) := by decide +kernel
theorem dX3_setPlace_0 : decode cX3_setPlace 0 = .ok (.aload_n 0, 1) := by decide +kernel
theorem dX3_setPlace_1 : decode cX3_setPlace 1 = .ok (.iload_n 1, 1) := by decide +kernel
theorem dX3_setPlace_2 : decode cX3_setPlace 2 = .ok (.invokevirtual 60, 3) := by decide +kernel
theorem dX3_setPlace_5 : decode cX3_setPlace 5 = .ok (.aload_n 0, 1) := by decide +kernel
theorem dX3_setPlace_6 : decode cX3_setPlace 6 = .ok (.iload_n 2, 1) := by decide +kernel
theorem dX3_setPlace_7 : decode cX3_setPlace 7 = .ok (.invokevirtual 227, 3) := by decide +kernel
theorem dX3_setPlace_10 : decode cX3_setPlace 10 = .ok (.aload_n 0, 1) := by decide +kernel
theorem dX3_setPlace_11 : decode cX3_setPlace 11 = .ok (.getfield 32, 3) := by decide +kernel
theorem dX3_setPlace_14 : decode cX3_setPlace 14 = .ok (.iload_n 1, 1) := by decide +kernel
theorem dX3_setPlace_15 : decode cX3_setPlace 15 = .ok (.iload_n 2, 1) := by decide +kernel
theorem dX3_setPlace_16 : decode cX3_setPlace 16 = .ok (.invokestatic 230, 3) := by decide +kernel
theorem dX3_setPlace_19 : decode cX3_setPlace 19 = .ok (.baload, 1) := by decide +kernel
theorem dX3_setPlace_20 : decode cX3_setPlace 20 = .ok (.istore 4, 2) := by decide +kernel
theorem dX3_setPlace_22 : decode cX3_setPlace 22 = .ok (.aload_n 0, 1) := by decide +kernel
theorem dX3_setPlace_23 : decode cX3_setPlace 23 = .ok (.getfield 32, 3) := by decide +kernel
theorem dX3_setPlace_26 : decode cX3_setPlace 26 = .ok (.iload_n 1, 1) := by decide +kernel
theorem dX3_setPlace_27 : decode cX3_setPlace 27 = .ok (.iload_n 2, 1) := by decide +kernel
theorem dX3_setPlace_28 : decode cX3_setPlace 28 = .ok (.invokestatic 230, 3) := by decide +kernel
theorem dX3_setPlace_31 : decode cX3_setPlace 31 = .ok (.iload_n 3, 1) := by decide +kernel
theorem dX3_setPlace_32 : decode cX3_setPlace 32 = .ok (.bastore, 1) := by decide +kernel
theorem dX3_setPlace_33 : decode cX3_setPlace 33 = .ok (.iload 4, 2) := by decide +kernel
theorem dX3_setPlace_35 : decode cX3_setPlace 35 = .ok (.ireturn, 1) := by decide +kernel
theorem dX3_nearest_0 : decode cX3_nearest 0 = .ok (.aload_n 0, 1) := by decide +kernel
theorem dX3_nearest_1 : decode cX3_nearest 1 = .ok (.invokevirtual 143, 3) := by decide +kernel
theorem dX3_nearest_4 : decode cX3_nearest 4 = .ok (.aload_n 0, 1) := by decide +kernel
theorem dX3_nearest_5 : decode cX3_nearest 5 = .ok (.iload_n 1, 1) := by decide +kernel
theorem dX3_nearest_6 : decode cX3_nearest 6 = .ok (.invokevirtual 60, 3) := by decide +kernel
theorem dX3_nearest_9 : decode cX3_nearest 9 = .ok (.aload_n 0, 1) := by decide +kernel
theorem dX3_nearest_10 : decode cX3_nearest 10 = .ok (.iload_n 2, 1) := by decide +kernel
theorem dX3_nearest_11 : decode cX3_nearest 11 = .ok (.invokevirtual 227, 3) := by decide +kernel
theorem dX3_nearest_14 : decode cX3_nearest 14 = .ok (.aload_n 0, 1) := by decide +kernel
theorem dX3_nearest_15 : decode cX3_nearest 15 = .ok (.iload_n 1, 1) := by decide +kernel
theorem dX3_nearest_16 : decode cX3_nearest 16 = .ok (.invokevirtual 213, 3) := by decide +kernel
theorem dX3_nearest_19 : decode cX3_nearest 19 = .ok (.iconst (-1), 1) := by decide +kernel
theorem dX3_nearest_20 : decode cX3_nearest 20 = .ok (.istore_n 3, 1) := by decide +kernel
theorem dX3_nearest_21 : decode cX3_nearest 21 = .ok (.ldc 168, 2) := by decide +kernel
theorem dX3_nearest_23 : decode cX3_nearest 23 = .ok (.istore 4, 2) := by decide +kernel
theorem dX3_nearest_25 : decode cX3_nearest 25 = .ok (.iconst 0, 1) := by decide +kernel
theorem dX3_nearest_26 : decode cX3_nearest 26 = .ok (.istore 5, 2) := by decide +kernel
theorem dX3_nearest_28 : decode cX3_nearest 28 = .ok (.iload 5, 2) := by decide +kernel
theorem dX3_nearest_30 : decode cX3_nearest 30 = .ok (.aload_n 0, 1) := by decide +kernel
theorem dX3_nearest_31 : decode cX3_nearest 31 = .ok (.getfield 12, 3) := by decide +kernel
theorem dX3_nearest_34 : decode cX3_nearest 34 = .ok (.getfield 49, 3) := by decide +kernel
theorem dX3_nearest_37 : decode cX3_nearest 37 = .ok (.if_icmp .ge 51, 3) := by decide +kernel
theorem dX3_nearest_40 : decode cX3_nearest 40 = .ok (.aload_n 0, 1) := by decide +kernel
theorem dX3_nearest_41 : decode cX3_nearest 41 = .ok (.iload_n 1, 1) := by decide +kernel
theorem dX3_nearest_42 : decode cX3_nearest 42 = .ok (.iload 5, 2) := by decide +kernel
theorem dX3_nearest_44 : decode cX3_nearest 44 = .ok (.invokevirtual 219, 3) := by decide +kernel
theorem dX3_nearest_47 : decode cX3_nearest 47 = .ok (.istore 6, 2) := by decide +kernel
theorem dX3_nearest_49 : decode cX3_nearest 49 = .ok (.aload_n 0, 1) := by decide +kernel
theorem dX3_nearest_50 : decode cX3_nearest 50 = .ok (.getfield 32, 3) := by decide +kernel
theorem dX3_nearest_53 : decode cX3_nearest 53 = .ok (.iload 5, 2) := by decide +kernel
theorem dX3_nearest_55 : decode cX3_nearest 55 = .ok (.iload_n 2, 1) := by decide +kernel
theorem dX3_nearest_56 : decode cX3_nearest 56 = .ok (.invokestatic 230, 3) := by decide +kernel
theorem dX3_nearest_59 : decode cX3_nearest 59 = .ok (.baload, 1) := by decide +kernel
theorem dX3_nearest_60 : decode cX3_nearest 60 = .ok (.ifCond .eq 22, 3) := by decide +kernel
theorem dX3_nearest_63 : decode cX3_nearest 63 = .ok (.iload 6, 2) := by decide +kernel
theorem dX3_nearest_65 : decode cX3_nearest 65 = .ok (.ifCond .lt 17, 3) := by decide +kernel
theorem dX3_nearest_68 : decode cX3_nearest 68 = .ok (.iload 6, 2) := by decide +kernel
theorem dX3_nearest_70 : decode cX3_nearest 70 = .ok (.iload 4, 2) := by decide +kernel
theorem dX3_nearest_72 : decode cX3_nearest 72 = .ok (.if_icmp .ge 10, 3) := by decide +kernel
theorem dX3_nearest_75 : decode cX3_nearest 75 = .ok (.iload 5, 2) := by decide +kernel
theorem dX3_nearest_77 : decode cX3_nearest 77 = .ok (.istore_n 3, 1) := by decide +kernel
theorem dX3_nearest_78 : decode cX3_nearest 78 = .ok (.iload 6, 2) := by decide +kernel
theorem dX3_nearest_80 : decode cX3_nearest 80 = .ok (.istore 4, 2) := by decide +kernel
theorem dX3_nearest_82 : decode cX3_nearest 82 = .ok (.iinc 5 1, 3) := by decide +kernel
theorem dX3_nearest_85 : decode cX3_nearest 85 = .ok (.goto (-57), 3) := by decide +kernel
theorem dX3_nearest_88 : decode cX3_nearest 88 = .ok (.iload_n 3, 1) := by decide +kernel
theorem dX3_nearest_89 : decode cX3_nearest 89 = .ok (.ifCond .ge 13, 3) := by decide +kernel
theorem dX3_nearest_92 : decode cX3_nearest 92 = .ok (.new 156, 3) := by decide +kernel
theorem dX3_nearest_95 : decode cX3_nearest 95 = .ok (.dup, 1) := by decide +kernel
theorem dX3_nearest_96 : decode cX3_nearest 96 = .ok (.ldc 233, 2) := by decide +kernel
theorem dX3_nearest_98 : decode cX3_nearest 98 = .ok (.invokespecial 160, 3) := by decide +kernel
theorem dX3_nearest_101 : decode cX3_nearest 101 = .ok (.athrow, 1) := by decide +kernel
theorem dX3_nearest_102 : decode cX3_nearest 102 = .ok (.iload_n 3, 1) := by decide +kernel
theorem dX3_nearest_103 : decode cX3_nearest 103 = .ok (.ireturn, 1) := by decide +kernel
theorem dX3_push_0 : decode cX3_push 0 = .ok (.aload_n 0, 1) := by decide +kernel
theorem dX3_push_1 : decode cX3_push 1 = .ok (.getfield 28, 3) := by decide +kernel
theorem dX3_push_4 : decode cX3_push 4 = .ok (.getfield 235, 3) := by decide +kernel
theorem dX3_push_7 : decode cX3_push 7 = .ok (.bipush 8, 2) := by decide +kernel
theorem dX3_push_9 : decode cX3_push 9 = .ok (.if_icmp .lt 13, 3) := by decide +kernel
theorem dX3_push_12 : decode cX3_push 12 = .ok (.new 53, 3) := by decide +kernel
theorem dX3_push_15 : decode cX3_push 15 = .ok (.dup, 1) := by decide +kernel
theorem dX3_push_16 : decode cX3_push 16 = .ok (.ldc 238, 2) := by decide +kernel
theorem dX3_push_18 : decode cX3_push 18 = .ok (.invokespecial 57, 3) := by decide +kernel
theorem dX3_push_21 : decode cX3_push 21 = .ok (.athrow, 1) := by decide +kernel
theorem dX3_push_22 : decode cX3_push 22 = .ok (.aload_n 0, 1) := by decide +kernel
theorem dX3_push_23 : decode cX3_push 23 = .ok (.getfield 28, 3) := by decide +kernel
theorem dX3_push_26 : decode cX3_push 26 = .ok (.aload_n 0, 1) := by decide +kernel
theorem dX3_push_27 : decode cX3_push 27 = .ok (.getfield 12, 3) := by decide +kernel
theorem dX3_push_30 : decode cX3_push 30 = .ok (.invokevirtual 240, 3) := by decide +kernel
theorem dX3_push_33 : decode cX3_push 33 = .ok (.aload_n 0, 1) := by decide +kernel
theorem dX3_push_34 : decode cX3_push 34 = .ok (.getfield 28, 3) := by decide +kernel
theorem dX3_push_37 : decode cX3_push 37 = .ok (.getfield 235, 3) := by decide +kernel
theorem dX3_push_40 : decode cX3_push 40 = .ok (.ireturn, 1) := by decide +kernel
theorem dX3_pop_0 : decode cX3_pop 0 = .ok (.aload_n 0, 1) := by decide +kernel
theorem dX3_pop_1 : decode cX3_pop 1 = .ok (.getfield 28, 3) := by decide +kernel
theorem dX3_pop_4 : decode cX3_pop 4 = .ok (.getfield 235, 3) := by decide +kernel
theorem dX3_pop_7 : decode cX3_pop 7 = .ok (.ifCond .gt 13, 3) := by decide +kernel
theorem dX3_pop_10 : decode cX3_pop 10 = .ok (.new 53, 3) := by decide +kernel
theorem dX3_pop_13 : decode cX3_pop 13 = .ok (.dup, 1) := by decide +kernel
theorem dX3_pop_14 : decode cX3_pop 14 = .ok (.ldc 243, 2) := by decide +kernel
theorem dX3_pop_16 : decode cX3_pop 16 = .ok (.invokespecial 57, 3) := by decide +kernel
theorem dX3_pop_19 : decode cX3_pop 19 = .ok (.athrow, 1) := by decide +kernel
theorem dX3_pop_20 : decode cX3_pop 20 = .ok (.aload_n 0, 1) := by decide +kernel
theorem dX3_pop_21 : decode cX3_pop 21 = .ok (.getfield 28, 3) := by decide +kernel
theorem dX3_pop_24 : decode cX3_pop 24 = .ok (.aload_n 0, 1) := by decide +kernel
theorem dX3_pop_25 : decode cX3_pop 25 = .ok (.getfield 12, 3) := by decide +kernel
theorem dX3_pop_28 : decode cX3_pop 28 = .ok (.invokevirtual 245, 3) := by decide +kernel
theorem dX3_pop_31 : decode cX3_pop 31 = .ok (.aload_n 0, 1) := by decide +kernel
theorem dX3_pop_32 : decode cX3_pop 32 = .ok (.getfield 21, 3) := by decide +kernel
theorem dX3_pop_35 : decode cX3_pop 35 = .ok (.invokevirtual 120, 3) := by decide +kernel
theorem dX3_pop_38 : decode cX3_pop 38 = .ok (.ireturn, 1) := by decide +kernel
theorem dX3_digest_0 : decode cX3_digest 0 = .ok (.ldc2_w 248, 3) := by decide +kernel
theorem dX3_digest_3 : decode cX3_digest 3 = .ok (.lstore_n 1, 1) := by decide +kernel
theorem dX3_digest_4 : decode cX3_digest 4 = .ok (.lload_n 1, 1) := by decide +kernel
theorem dX3_digest_5 : decode cX3_digest 5 = .ok (.ldc2_w 250, 3) := by decide +kernel
theorem dX3_digest_8 : decode cX3_digest 8 = .ok (.lmul, 1) := by decide +kernel
theorem dX3_digest_9 : decode cX3_digest 9 = .ok (.aload_n 0, 1) := by decide +kernel
theorem dX3_digest_10 : decode cX3_digest 10 = .ok (.getfield 12, 3) := by decide +kernel
theorem dX3_digest_13 : decode cX3_digest 13 = .ok (.getfield 49, 3) := by decide +kernel
theorem dX3_digest_16 : decode cX3_digest 16 = .ok (.i2l, 1) := by decide +kernel
theorem dX3_digest_17 : decode cX3_digest 17 = .ok (.ladd, 1) := by decide +kernel
theorem dX3_digest_18 : decode cX3_digest 18 = .ok (.lstore_n 1, 1) := by decide +kernel
theorem dX3_digest_19 : decode cX3_digest 19 = .ok (.lload_n 1, 1) := by decide +kernel
theorem dX3_digest_20 : decode cX3_digest 20 = .ok (.ldc2_w 250, 3) := by decide +kernel
theorem dX3_digest_23 : decode cX3_digest 23 = .ok (.lmul, 1) := by decide +kernel
theorem dX3_digest_24 : decode cX3_digest 24 = .ok (.aload_n 0, 1) := by decide +kernel
theorem dX3_digest_25 : decode cX3_digest 25 = .ok (.getfield 12, 3) := by decide +kernel
theorem dX3_digest_28 : decode cX3_digest 28 = .ok (.getfield 72, 3) := by decide +kernel
theorem dX3_digest_31 : decode cX3_digest 31 = .ok (.i2l, 1) := by decide +kernel
theorem dX3_digest_32 : decode cX3_digest 32 = .ok (.ladd, 1) := by decide +kernel
theorem dX3_digest_33 : decode cX3_digest 33 = .ok (.lstore_n 1, 1) := by decide +kernel
theorem dX3_digest_34 : decode cX3_digest 34 = .ok (.lload_n 1, 1) := by decide +kernel
theorem dX3_digest_35 : decode cX3_digest 35 = .ok (.ldc2_w 250, 3) := by decide +kernel
theorem dX3_digest_38 : decode cX3_digest 38 = .ok (.lmul, 1) := by decide +kernel
theorem dX3_digest_39 : decode cX3_digest 39 = .ok (.aload_n 0, 1) := by decide +kernel
theorem dX3_digest_40 : decode cX3_digest 40 = .ok (.getfield 28, 3) := by decide +kernel
theorem dX3_digest_43 : decode cX3_digest 43 = .ok (.getfield 235, 3) := by decide +kernel
theorem dX3_digest_46 : decode cX3_digest 46 = .ok (.i2l, 1) := by decide +kernel
theorem dX3_digest_47 : decode cX3_digest 47 = .ok (.ladd, 1) := by decide +kernel
theorem dX3_digest_48 : decode cX3_digest 48 = .ok (.lstore_n 1, 1) := by decide +kernel
theorem dX3_digest_49 : decode cX3_digest 49 = .ok (.lload_n 1, 1) := by decide +kernel
theorem dX3_digest_50 : decode cX3_digest 50 = .ok (.ldc2_w 250, 3) := by decide +kernel
theorem dX3_digest_53 : decode cX3_digest 53 = .ok (.lmul, 1) := by decide +kernel
theorem dX3_digest_54 : decode cX3_digest 54 = .ok (.aload_n 0, 1) := by decide +kernel
theorem dX3_digest_55 : decode cX3_digest 55 = .ok (.getfield 21, 3) := by decide +kernel
theorem dX3_digest_58 : decode cX3_digest 58 = .ok (.getfield 77, 3) := by decide +kernel
theorem dX3_digest_61 : decode cX3_digest 61 = .ok (.ifCond .eq 13, 3) := by decide +kernel
theorem dX3_digest_64 : decode cX3_digest 64 = .ok (.aload_n 0, 1) := by decide +kernel
theorem dX3_digest_65 : decode cX3_digest 65 = .ok (.getfield 21, 3) := by decide +kernel
theorem dX3_digest_68 : decode cX3_digest 68 = .ok (.getfield 149, 3) := by decide +kernel
theorem dX3_digest_71 : decode cX3_digest 71 = .ok (.goto 4, 3) := by decide +kernel
theorem dX3_digest_74 : decode cX3_digest 74 = .ok (.iconst 0, 1) := by decide +kernel
theorem dX3_digest_75 : decode cX3_digest 75 = .ok (.i2l, 1) := by decide +kernel
theorem dX3_digest_76 : decode cX3_digest 76 = .ok (.ladd, 1) := by decide +kernel
theorem dX3_digest_77 : decode cX3_digest 77 = .ok (.lstore_n 1, 1) := by decide +kernel
theorem dX3_digest_78 : decode cX3_digest 78 = .ok (.iconst 0, 1) := by decide +kernel
theorem dX3_digest_79 : decode cX3_digest 79 = .ok (.istore_n 3, 1) := by decide +kernel
theorem dX3_digest_80 : decode cX3_digest 80 = .ok (.iload_n 3, 1) := by decide +kernel
theorem dX3_digest_81 : decode cX3_digest 81 = .ok (.aload_n 0, 1) := by decide +kernel
theorem dX3_digest_82 : decode cX3_digest 82 = .ok (.getfield 12, 3) := by decide +kernel
theorem dX3_digest_85 : decode cX3_digest 85 = .ok (.getfield 72, 3) := by decide +kernel
theorem dX3_digest_88 : decode cX3_digest 88 = .ok (.if_icmp .ge 80, 3) := by decide +kernel
theorem dX3_digest_91 : decode cX3_digest 91 = .ok (.lload_n 1, 1) := by decide +kernel
theorem dX3_digest_92 : decode cX3_digest 92 = .ok (.ldc2_w 250, 3) := by decide +kernel
theorem dX3_digest_95 : decode cX3_digest 95 = .ok (.lmul, 1) := by decide +kernel
theorem dX3_digest_96 : decode cX3_digest 96 = .ok (.aload_n 0, 1) := by decide +kernel
theorem dX3_digest_97 : decode cX3_digest 97 = .ok (.getfield 12, 3) := by decide +kernel
theorem dX3_digest_100 : decode cX3_digest 100 = .ok (.getfield 88, 3) := by decide +kernel
theorem dX3_digest_103 : decode cX3_digest 103 = .ok (.iload_n 3, 1) := by decide +kernel
theorem dX3_digest_104 : decode cX3_digest 104 = .ok (.iaload, 1) := by decide +kernel
theorem dX3_digest_105 : decode cX3_digest 105 = .ok (.i2l, 1) := by decide +kernel
theorem dX3_digest_106 : decode cX3_digest 106 = .ok (.ladd, 1) := by decide +kernel
theorem dX3_digest_107 : decode cX3_digest 107 = .ok (.lstore_n 1, 1) := by decide +kernel
theorem dX3_digest_108 : decode cX3_digest 108 = .ok (.lload_n 1, 1) := by decide +kernel
theorem dX3_digest_109 : decode cX3_digest 109 = .ok (.ldc2_w 250, 3) := by decide +kernel
theorem dX3_digest_112 : decode cX3_digest 112 = .ok (.lmul, 1) := by decide +kernel
theorem dX3_digest_113 : decode cX3_digest 113 = .ok (.aload_n 0, 1) := by decide +kernel
theorem dX3_digest_114 : decode cX3_digest 114 = .ok (.getfield 12, 3) := by decide +kernel
theorem dX3_digest_117 : decode cX3_digest 117 = .ok (.getfield 124, 3) := by decide +kernel
theorem dX3_digest_120 : decode cX3_digest 120 = .ok (.iload_n 3, 1) := by decide +kernel
theorem dX3_digest_121 : decode cX3_digest 121 = .ok (.invokestatic 128, 3) := by decide +kernel
theorem dX3_digest_124 : decode cX3_digest 124 = .ok (.ifCond .eq 7, 3) := by decide +kernel
theorem dX3_digest_127 : decode cX3_digest 127 = .ok (.iconst 1, 1) := by decide +kernel
theorem dX3_digest_128 : decode cX3_digest 128 = .ok (.goto 4, 3) := by decide +kernel
theorem dX3_digest_131 : decode cX3_digest 131 = .ok (.iconst 0, 1) := by decide +kernel
theorem dX3_digest_132 : decode cX3_digest 132 = .ok (.i2l, 1) := by decide +kernel
theorem dX3_digest_133 : decode cX3_digest 133 = .ok (.ladd, 1) := by decide +kernel
theorem dX3_digest_134 : decode cX3_digest 134 = .ok (.lstore_n 1, 1) := by decide +kernel
theorem dX3_digest_135 : decode cX3_digest 135 = .ok (.aload_n 0, 1) := by decide +kernel
theorem dX3_digest_136 : decode cX3_digest 136 = .ok (.getfield 21, 3) := by decide +kernel
theorem dX3_digest_139 : decode cX3_digest 139 = .ok (.getfield 77, 3) := by decide +kernel
theorem dX3_digest_142 : decode cX3_digest 142 = .ok (.ifCond .eq 20, 3) := by decide +kernel
theorem dX3_digest_145 : decode cX3_digest 145 = .ok (.lload_n 1, 1) := by decide +kernel
theorem dX3_digest_146 : decode cX3_digest 146 = .ok (.ldc2_w 250, 3) := by decide +kernel
theorem dX3_digest_149 : decode cX3_digest 149 = .ok (.lmul, 1) := by decide +kernel
theorem dX3_digest_150 : decode cX3_digest 150 = .ok (.aload_n 0, 1) := by decide +kernel
theorem dX3_digest_151 : decode cX3_digest 151 = .ok (.getfield 21, 3) := by decide +kernel
theorem dX3_digest_154 : decode cX3_digest 154 = .ok (.getfield 146, 3) := by decide +kernel
theorem dX3_digest_157 : decode cX3_digest 157 = .ok (.iload_n 3, 1) := by decide +kernel
theorem dX3_digest_158 : decode cX3_digest 158 = .ok (.iaload, 1) := by decide +kernel
theorem dX3_digest_159 : decode cX3_digest 159 = .ok (.i2l, 1) := by decide +kernel
theorem dX3_digest_160 : decode cX3_digest 160 = .ok (.ladd, 1) := by decide +kernel
theorem dX3_digest_161 : decode cX3_digest 161 = .ok (.lstore_n 1, 1) := by decide +kernel
theorem dX3_digest_162 : decode cX3_digest 162 = .ok (.iinc 3 1, 3) := by decide +kernel
theorem dX3_digest_165 : decode cX3_digest 165 = .ok (.goto (-85), 3) := by decide +kernel
theorem dX3_digest_168 : decode cX3_digest 168 = .ok (.aload_n 0, 1) := by decide +kernel
theorem dX3_digest_169 : decode cX3_digest 169 = .ok (.getfield 21, 3) := by decide +kernel
theorem dX3_digest_172 : decode cX3_digest 172 = .ok (.getfield 77, 3) := by decide +kernel
theorem dX3_digest_175 : decode cX3_digest 175 = .ok (.ifCond .eq 14, 3) := by decide +kernel
theorem dX3_digest_178 : decode cX3_digest 178 = .ok (.aload_n 0, 1) := by decide +kernel
theorem dX3_digest_179 : decode cX3_digest 179 = .ok (.getfield 21, 3) := by decide +kernel
theorem dX3_digest_182 : decode cX3_digest 182 = .ok (.lload_n 1, 1) := by decide +kernel
theorem dX3_digest_183 : decode cX3_digest 183 = .ok (.invokevirtual 252, 3) := by decide +kernel
theorem dX3_digest_186 : decode cX3_digest 186 = .ok (.goto 4, 3) := by decide +kernel
theorem dX3_digest_189 : decode cX3_digest 189 = .ok (.lload_n 1, 1) := by decide +kernel
theorem dX3_digest_190 : decode cX3_digest 190 = .ok (.lreturn, 1) := by decide +kernel
theorem dX3_requireJunction_0 : decode cX3_requireJunction 0 = .ok (.iload_n 1, 1) := by decide +kernel
theorem dX3_requireJunction_1 : decode cX3_requireJunction 1 = .ok (.ifCond .lt 14, 3) := by decide +kernel
theorem dX3_requireJunction_4 : decode cX3_requireJunction 4 = .ok (.iload_n 1, 1) := by decide +kernel
theorem dX3_requireJunction_5 : decode cX3_requireJunction 5 = .ok (.aload_n 0, 1) := by decide +kernel
theorem dX3_requireJunction_6 : decode cX3_requireJunction 6 = .ok (.getfield 12, 3) := by decide +kernel
theorem dX3_requireJunction_9 : decode cX3_requireJunction 9 = .ok (.getfield 49, 3) := by decide +kernel
theorem dX3_requireJunction_12 : decode cX3_requireJunction 12 = .ok (.if_icmp .lt 14, 3) := by decide +kernel
theorem dX3_requireJunction_15 : decode cX3_requireJunction 15 = .ok (.new 206, 3) := by decide +kernel
theorem dX3_requireJunction_18 : decode cX3_requireJunction 18 = .ok (.dup, 1) := by decide +kernel
theorem dX3_requireJunction_19 : decode cX3_requireJunction 19 = .ok (.ldc_w 256, 3) := by decide +kernel
theorem dX3_requireJunction_22 : decode cX3_requireJunction 22 = .ok (.invokespecial 210, 3) := by decide +kernel
theorem dX3_requireJunction_25 : decode cX3_requireJunction 25 = .ok (.athrow, 1) := by decide +kernel
theorem dX3_requireJunction_26 : decode cX3_requireJunction 26 = .ok (.return_, 1) := by decide +kernel
theorem dX3_requireRoad_0 : decode cX3_requireRoad 0 = .ok (.iload_n 1, 1) := by decide +kernel
theorem dX3_requireRoad_1 : decode cX3_requireRoad 1 = .ok (.ifCond .lt 14, 3) := by decide +kernel
theorem dX3_requireRoad_4 : decode cX3_requireRoad 4 = .ok (.iload_n 1, 1) := by decide +kernel
theorem dX3_requireRoad_5 : decode cX3_requireRoad 5 = .ok (.aload_n 0, 1) := by decide +kernel
theorem dX3_requireRoad_6 : decode cX3_requireRoad 6 = .ok (.getfield 12, 3) := by decide +kernel
theorem dX3_requireRoad_9 : decode cX3_requireRoad 9 = .ok (.getfield 72, 3) := by decide +kernel
theorem dX3_requireRoad_12 : decode cX3_requireRoad 12 = .ok (.if_icmp .lt 14, 3) := by decide +kernel
theorem dX3_requireRoad_15 : decode cX3_requireRoad 15 = .ok (.new 206, 3) := by decide +kernel
theorem dX3_requireRoad_18 : decode cX3_requireRoad 18 = .ok (.dup, 1) := by decide +kernel
theorem dX3_requireRoad_19 : decode cX3_requireRoad 19 = .ok (.ldc_w 258, 3) := by decide +kernel
theorem dX3_requireRoad_22 : decode cX3_requireRoad 22 = .ok (.invokespecial 210, 3) := by decide +kernel
theorem dX3_requireRoad_25 : decode cX3_requireRoad 25 = .ok (.athrow, 1) := by decide +kernel
theorem dX3_requireRoad_26 : decode cX3_requireRoad 26 = .ok (.return_, 1) := by decide +kernel
theorem dX3_requireTurn_0 : decode cX3_requireTurn 0 = .ok (.aload_n 0, 1) := by decide +kernel
theorem dX3_requireTurn_1 : decode cX3_requireTurn 1 = .ok (.iload_n 1, 1) := by decide +kernel
theorem dX3_requireTurn_2 : decode cX3_requireTurn 2 = .ok (.invokevirtual 85, 3) := by decide +kernel
theorem dX3_requireTurn_5 : decode cX3_requireTurn 5 = .ok (.aload_n 0, 1) := by decide +kernel
theorem dX3_requireTurn_6 : decode cX3_requireTurn 6 = .ok (.iload_n 2, 1) := by decide +kernel
theorem dX3_requireTurn_7 : decode cX3_requireTurn 7 = .ok (.invokevirtual 85, 3) := by decide +kernel
theorem dX3_requireTurn_10 : decode cX3_requireTurn 10 = .ok (.aload_n 0, 1) := by decide +kernel
theorem dX3_requireTurn_11 : decode cX3_requireTurn 11 = .ok (.getfield 12, 3) := by decide +kernel
theorem dX3_requireTurn_14 : decode cX3_requireTurn 14 = .ok (.getfield 260, 3) := by decide +kernel
theorem dX3_requireTurn_17 : decode cX3_requireTurn 17 = .ok (.iload_n 1, 1) := by decide +kernel
theorem dX3_requireTurn_18 : decode cX3_requireTurn 18 = .ok (.iaload, 1) := by decide +kernel
theorem dX3_requireTurn_19 : decode cX3_requireTurn 19 = .ok (.aload_n 0, 1) := by decide +kernel
theorem dX3_requireTurn_20 : decode cX3_requireTurn 20 = .ok (.getfield 12, 3) := by decide +kernel
theorem dX3_requireTurn_23 : decode cX3_requireTurn 23 = .ok (.getfield 263, 3) := by decide +kernel
theorem dX3_requireTurn_26 : decode cX3_requireTurn 26 = .ok (.iload_n 2, 1) := by decide +kernel
theorem dX3_requireTurn_27 : decode cX3_requireTurn 27 = .ok (.iaload, 1) := by decide +kernel
theorem dX3_requireTurn_28 : decode cX3_requireTurn 28 = .ok (.if_icmp .eq 14, 3) := by decide +kernel
theorem dX3_requireTurn_31 : decode cX3_requireTurn 31 = .ok (.new 64, 3) := by decide +kernel
theorem dX3_requireTurn_34 : decode cX3_requireTurn 34 = .ok (.dup, 1) := by decide +kernel
theorem dX3_requireTurn_35 : decode cX3_requireTurn 35 = .ok (.ldc_w 266, 3) := by decide +kernel
theorem dX3_requireTurn_38 : decode cX3_requireTurn 38 = .ok (.invokespecial 68, 3) := by decide +kernel
theorem dX3_requireTurn_41 : decode cX3_requireTurn 41 = .ok (.athrow, 1) := by decide +kernel
theorem dX3_requireTurn_42 : decode cX3_requireTurn 42 = .ok (.return_, 1) := by decide +kernel
theorem dX3_requireKind_0 : decode cX3_requireKind 0 = .ok (.iload_n 1, 1) := by decide +kernel
theorem dX3_requireKind_1 : decode cX3_requireKind 1 = .ok (.ifCond .lt 8, 3) := by decide +kernel
theorem dX3_requireKind_4 : decode cX3_requireKind 4 = .ok (.iload_n 1, 1) := by decide +kernel
theorem dX3_requireKind_5 : decode cX3_requireKind 5 = .ok (.iconst 4, 1) := by decide +kernel
theorem dX3_requireKind_6 : decode cX3_requireKind 6 = .ok (.if_icmp .lt 14, 3) := by decide +kernel
theorem dX3_requireKind_9 : decode cX3_requireKind 9 = .ok (.new 206, 3) := by decide +kernel
theorem dX3_requireKind_12 : decode cX3_requireKind 12 = .ok (.dup, 1) := by decide +kernel
theorem dX3_requireKind_13 : decode cX3_requireKind 13 = .ok (.ldc_w 268, 3) := by decide +kernel
theorem dX3_requireKind_16 : decode cX3_requireKind 16 = .ok (.invokespecial 210, 3) := by decide +kernel
theorem dX3_requireKind_19 : decode cX3_requireKind 19 = .ok (.athrow, 1) := by decide +kernel
theorem dX3_requireKind_20 : decode cX3_requireKind 20 = .ok (.return_, 1) := by decide +kernel
theorem dX3_requireWeight_0 : decode cX3_requireWeight 0 = .ok (.iload_n 1, 1) := by decide +kernel
theorem dX3_requireWeight_1 : decode cX3_requireWeight 1 = .ok (.iconst 1, 1) := by decide +kernel
theorem dX3_requireWeight_2 : decode cX3_requireWeight 2 = .ok (.if_icmp .lt 10, 3) := by decide +kernel
theorem dX3_requireWeight_5 : decode cX3_requireWeight 5 = .ok (.iload_n 1, 1) := by decide +kernel
theorem dX3_requireWeight_6 : decode cX3_requireWeight 6 = .ok (.sipush 10000, 3) := by decide +kernel
theorem dX3_requireWeight_9 : decode cX3_requireWeight 9 = .ok (.if_icmp .le 14, 3) := by decide +kernel
theorem dX3_requireWeight_12 : decode cX3_requireWeight 12 = .ok (.new 64, 3) := by decide +kernel
theorem dX3_requireWeight_15 : decode cX3_requireWeight 15 = .ok (.dup, 1) := by decide +kernel
theorem dX3_requireWeight_16 : decode cX3_requireWeight 16 = .ok (.ldc_w 270, 3) := by decide +kernel
theorem dX3_requireWeight_19 : decode cX3_requireWeight 19 = .ok (.invokespecial 68, 3) := by decide +kernel
theorem dX3_requireWeight_22 : decode cX3_requireWeight 22 = .ok (.athrow, 1) := by decide +kernel
theorem dX3_requireWeight_23 : decode cX3_requireWeight 23 = .ok (.return_, 1) := by decide +kernel
theorem dX3_requireHierarchy_0 : decode cX3_requireHierarchy 0 = .ok (.aload_n 0, 1) := by decide +kernel
theorem dX3_requireHierarchy_1 : decode cX3_requireHierarchy 1 = .ok (.getfield 21, 3) := by decide +kernel
theorem dX3_requireHierarchy_4 : decode cX3_requireHierarchy 4 = .ok (.getfield 77, 3) := by decide +kernel
theorem dX3_requireHierarchy_7 : decode cX3_requireHierarchy 7 = .ok (.ifCond .ne 14, 3) := by decide +kernel
theorem dX3_requireHierarchy_10 : decode cX3_requireHierarchy 10 = .ok (.new 53, 3) := by decide +kernel
theorem dX3_requireHierarchy_13 : decode cX3_requireHierarchy 13 = .ok (.dup, 1) := by decide +kernel
theorem dX3_requireHierarchy_14 : decode cX3_requireHierarchy 14 = .ok (.ldc_w 272, 3) := by decide +kernel
theorem dX3_requireHierarchy_17 : decode cX3_requireHierarchy 17 = .ok (.invokespecial 57, 3) := by decide +kernel
theorem dX3_requireHierarchy_20 : decode cX3_requireHierarchy 20 = .ok (.athrow, 1) := by decide +kernel
theorem dX3_requireHierarchy_21 : decode cX3_requireHierarchy 21 = .ok (.return_, 1) := by decide +kernel
theorem dX3_openOrClose_0 : decode cX3_openOrClose 0 = .ok (.aload_n 0, 1) := by decide +kernel
theorem dX3_openOrClose_1 : decode cX3_openOrClose 1 = .ok (.getfield 12, 3) := by decide +kernel
theorem dX3_openOrClose_4 : decode cX3_openOrClose 4 = .ok (.getfield 124, 3) := by decide +kernel
theorem dX3_openOrClose_7 : decode cX3_openOrClose 7 = .ok (.iload_n 1, 1) := by decide +kernel
theorem dX3_openOrClose_8 : decode cX3_openOrClose 8 = .ok (.invokestatic 274, 3) := by decide +kernel
theorem dX3_openOrClose_11 : decode cX3_openOrClose 11 = .ok (.ldc2_w 278, 3) := by decide +kernel
theorem dX3_openOrClose_14 : decode cX3_openOrClose 14 = .ok (.lxor, 1) := by decide +kernel
theorem dX3_openOrClose_15 : decode cX3_openOrClose 15 = .ok (.land, 1) := by decide +kernel
theorem dX3_openOrClose_16 : decode cX3_openOrClose 16 = .ok (.lstore_n 3, 1) := by decide +kernel
theorem dX3_openOrClose_17 : decode cX3_openOrClose 17 = .ok (.aload_n 0, 1) := by decide +kernel
theorem dX3_openOrClose_18 : decode cX3_openOrClose 18 = .ok (.getfield 12, 3) := by decide +kernel
theorem dX3_openOrClose_21 : decode cX3_openOrClose 21 = .ok (.iload_n 2, 1) := by decide +kernel
theorem dX3_openOrClose_22 : decode cX3_openOrClose 22 = .ok (.ifCond .eq 12, 3) := by decide +kernel
theorem dX3_openOrClose_25 : decode cX3_openOrClose 25 = .ok (.lload_n 3, 1) := by decide +kernel
theorem dX3_openOrClose_26 : decode cX3_openOrClose 26 = .ok (.iload_n 1, 1) := by decide +kernel
theorem dX3_openOrClose_27 : decode cX3_openOrClose 27 = .ok (.invokestatic 274, 3) := by decide +kernel
theorem dX3_openOrClose_30 : decode cX3_openOrClose 30 = .ok (.lor, 1) := by decide +kernel
theorem dX3_openOrClose_31 : decode cX3_openOrClose 31 = .ok (.goto 4, 3) := by decide +kernel
theorem dX3_openOrClose_34 : decode cX3_openOrClose 34 = .ok (.lload_n 3, 1) := by decide +kernel
theorem dX3_openOrClose_35 : decode cX3_openOrClose 35 = .ok (.putfield 124, 3) := by decide +kernel
theorem dX3_openOrClose_38 : decode cX3_openOrClose 38 = .ok (.aload_n 0, 1) := by decide +kernel
theorem dX3_openOrClose_39 : decode cX3_openOrClose 39 = .ok (.getfield 21, 3) := by decide +kernel
theorem dX3_openOrClose_42 : decode cX3_openOrClose 42 = .ok (.iload_n 1, 1) := by decide +kernel
theorem dX3_openOrClose_43 : decode cX3_openOrClose 43 = .ok (.invokevirtual 91, 3) := by decide +kernel
theorem dX3_openOrClose_46 : decode cX3_openOrClose 46 = .ok (.ireturn, 1) := by decide +kernel
theorem dX3_searchFrom_0 : decode cX3_searchFrom 0 = .ok (.aload_n 0, 1) := by decide +kernel
theorem dX3_searchFrom_1 : decode cX3_searchFrom 1 = .ok (.getfield 36, 3) := by decide +kernel
theorem dX3_searchFrom_4 : decode cX3_searchFrom 4 = .ok (.ldc 168, 2) := by decide +kernel
theorem dX3_searchFrom_6 : decode cX3_searchFrom 6 = .ok (.invokestatic 169, 3) := by decide +kernel
theorem dX3_searchFrom_9 : decode cX3_searchFrom 9 = .ok (.aload_n 0, 1) := by decide +kernel
theorem dX3_searchFrom_10 : decode cX3_searchFrom 10 = .ok (.getfield 12, 3) := by decide +kernel
theorem dX3_searchFrom_13 : decode cX3_searchFrom 13 = .ok (.getfield 280, 3) := by decide +kernel
theorem dX3_searchFrom_16 : decode cX3_searchFrom 16 = .ok (.iload_n 1, 1) := by decide +kernel
theorem dX3_searchFrom_17 : decode cX3_searchFrom 17 = .ok (.laload, 1) := by decide +kernel
theorem dX3_searchFrom_18 : decode cX3_searchFrom 18 = .ok (.aload_n 0, 1) := by decide +kernel
theorem dX3_searchFrom_19 : decode cX3_searchFrom 19 = .ok (.getfield 12, 3) := by decide +kernel
theorem dX3_searchFrom_22 : decode cX3_searchFrom 22 = .ok (.getfield 124, 3) := by decide +kernel
theorem dX3_searchFrom_25 : decode cX3_searchFrom 25 = .ok (.land, 1) := by decide +kernel
theorem dX3_searchFrom_26 : decode cX3_searchFrom 26 = .ok (.lstore_n 2, 1) := by decide +kernel
theorem dX3_searchFrom_27 : decode cX3_searchFrom 27 = .ok (.lload_n 2, 1) := by decide +kernel
theorem dX3_searchFrom_28 : decode cX3_searchFrom 28 = .ok (.iconst 0, 1) := by decide +kernel
theorem dX3_searchFrom_29 : decode cX3_searchFrom 29 = .ok (.invokestatic 283, 3) := by decide +kernel
theorem dX3_searchFrom_32 : decode cX3_searchFrom 32 = .ok (.istore 4, 2) := by decide +kernel
theorem dX3_searchFrom_34 : decode cX3_searchFrom 34 = .ok (.iload 4, 2) := by decide +kernel
theorem dX3_searchFrom_36 : decode cX3_searchFrom 36 = .ok (.bipush 64, 2) := by decide +kernel
theorem dX3_searchFrom_38 : decode cX3_searchFrom 38 = .ok (.if_icmp .ge 32, 3) := by decide +kernel
theorem dX3_searchFrom_41 : decode cX3_searchFrom 41 = .ok (.aload_n 0, 1) := by decide +kernel
theorem dX3_searchFrom_42 : decode cX3_searchFrom 42 = .ok (.getfield 36, 3) := by decide +kernel
theorem dX3_searchFrom_45 : decode cX3_searchFrom 45 = .ok (.iload 4, 2) := by decide +kernel
theorem dX3_searchFrom_47 : decode cX3_searchFrom 47 = .ok (.aload_n 0, 1) := by decide +kernel
theorem dX3_searchFrom_48 : decode cX3_searchFrom 48 = .ok (.getfield 12, 3) := by decide +kernel
theorem dX3_searchFrom_51 : decode cX3_searchFrom 51 = .ok (.iload 4, 2) := by decide +kernel
theorem dX3_searchFrom_53 : decode cX3_searchFrom 53 = .ok (.invokevirtual 200, 3) := by decide +kernel
theorem dX3_searchFrom_56 : decode cX3_searchFrom 56 = .ok (.iastore, 1) := by decide +kernel
theorem dX3_searchFrom_57 : decode cX3_searchFrom 57 = .ok (.lload_n 2, 1) := by decide +kernel
theorem dX3_searchFrom_58 : decode cX3_searchFrom 58 = .ok (.iload 4, 2) := by decide +kernel
theorem dX3_searchFrom_60 : decode cX3_searchFrom 60 = .ok (.iconst 1, 1) := by decide +kernel
theorem dX3_searchFrom_61 : decode cX3_searchFrom 61 = .ok (.iadd, 1) := by decide +kernel
theorem dX3_searchFrom_62 : decode cX3_searchFrom 62 = .ok (.invokestatic 283, 3) := by decide +kernel
theorem dX3_searchFrom_65 : decode cX3_searchFrom 65 = .ok (.istore 4, 2) := by decide +kernel
theorem dX3_searchFrom_67 : decode cX3_searchFrom 67 = .ok (.goto (-33), 3) := by decide +kernel
theorem dX3_searchFrom_70 : decode cX3_searchFrom 70 = .ok (.aload_n 0, 1) := by decide +kernel
theorem dX3_searchFrom_71 : decode cX3_searchFrom 71 = .ok (.getfield 21, 3) := by decide +kernel
theorem dX3_searchFrom_74 : decode cX3_searchFrom 74 = .ok (.aload_n 0, 1) := by decide +kernel
theorem dX3_searchFrom_75 : decode cX3_searchFrom 75 = .ok (.getfield 36, 3) := by decide +kernel
theorem dX3_searchFrom_78 : decode cX3_searchFrom 78 = .ok (.invokevirtual 175, 3) := by decide +kernel
theorem dX3_searchFrom_81 : decode cX3_searchFrom 81 = .ok (.return_, 1) := by decide +kernel
theorem dX3_searchTo_0 : decode cX3_searchTo 0 = .ok (.aload_n 0, 1) := by decide +kernel
theorem dX3_searchTo_1 : decode cX3_searchTo 1 = .ok (.getfield 36, 3) := by decide +kernel
theorem dX3_searchTo_4 : decode cX3_searchTo 4 = .ok (.ldc 168, 2) := by decide +kernel
theorem dX3_searchTo_6 : decode cX3_searchTo 6 = .ok (.invokestatic 169, 3) := by decide +kernel
theorem dX3_searchTo_9 : decode cX3_searchTo 9 = .ok (.aload_n 0, 1) := by decide +kernel
theorem dX3_searchTo_10 : decode cX3_searchTo 10 = .ok (.getfield 12, 3) := by decide +kernel
theorem dX3_searchTo_13 : decode cX3_searchTo 13 = .ok (.getfield 179, 3) := by decide +kernel
theorem dX3_searchTo_16 : decode cX3_searchTo 16 = .ok (.iload_n 1, 1) := by decide +kernel
theorem dX3_searchTo_17 : decode cX3_searchTo 17 = .ok (.laload, 1) := by decide +kernel
theorem dX3_searchTo_18 : decode cX3_searchTo 18 = .ok (.aload_n 0, 1) := by decide +kernel
theorem dX3_searchTo_19 : decode cX3_searchTo 19 = .ok (.getfield 12, 3) := by decide +kernel
theorem dX3_searchTo_22 : decode cX3_searchTo 22 = .ok (.getfield 124, 3) := by decide +kernel
theorem dX3_searchTo_25 : decode cX3_searchTo 25 = .ok (.land, 1) := by decide +kernel
theorem dX3_searchTo_26 : decode cX3_searchTo 26 = .ok (.lstore_n 2, 1) := by decide +kernel
theorem dX3_searchTo_27 : decode cX3_searchTo 27 = .ok (.lload_n 2, 1) := by decide +kernel
theorem dX3_searchTo_28 : decode cX3_searchTo 28 = .ok (.iconst 0, 1) := by decide +kernel
theorem dX3_searchTo_29 : decode cX3_searchTo 29 = .ok (.invokestatic 283, 3) := by decide +kernel
theorem dX3_searchTo_32 : decode cX3_searchTo 32 = .ok (.istore 4, 2) := by decide +kernel
theorem dX3_searchTo_34 : decode cX3_searchTo 34 = .ok (.iload 4, 2) := by decide +kernel
theorem dX3_searchTo_36 : decode cX3_searchTo 36 = .ok (.bipush 64, 2) := by decide +kernel
theorem dX3_searchTo_38 : decode cX3_searchTo 38 = .ok (.if_icmp .ge 24, 3) := by decide +kernel
theorem dX3_searchTo_41 : decode cX3_searchTo 41 = .ok (.aload_n 0, 1) := by decide +kernel
theorem dX3_searchTo_42 : decode cX3_searchTo 42 = .ok (.getfield 36, 3) := by decide +kernel
theorem dX3_searchTo_45 : decode cX3_searchTo 45 = .ok (.iload 4, 2) := by decide +kernel
theorem dX3_searchTo_47 : decode cX3_searchTo 47 = .ok (.iconst 0, 1) := by decide +kernel
theorem dX3_searchTo_48 : decode cX3_searchTo 48 = .ok (.iastore, 1) := by decide +kernel
theorem dX3_searchTo_49 : decode cX3_searchTo 49 = .ok (.lload_n 2, 1) := by decide +kernel
theorem dX3_searchTo_50 : decode cX3_searchTo 50 = .ok (.iload 4, 2) := by decide +kernel
theorem dX3_searchTo_52 : decode cX3_searchTo 52 = .ok (.iconst 1, 1) := by decide +kernel
theorem dX3_searchTo_53 : decode cX3_searchTo 53 = .ok (.iadd, 1) := by decide +kernel
theorem dX3_searchTo_54 : decode cX3_searchTo 54 = .ok (.invokestatic 283, 3) := by decide +kernel
theorem dX3_searchTo_57 : decode cX3_searchTo 57 = .ok (.istore 4, 2) := by decide +kernel
theorem dX3_searchTo_59 : decode cX3_searchTo 59 = .ok (.goto (-25), 3) := by decide +kernel
theorem dX3_searchTo_62 : decode cX3_searchTo 62 = .ok (.aload_n 0, 1) := by decide +kernel
theorem dX3_searchTo_63 : decode cX3_searchTo 63 = .ok (.getfield 21, 3) := by decide +kernel
theorem dX3_searchTo_66 : decode cX3_searchTo 66 = .ok (.aload_n 0, 1) := by decide +kernel
theorem dX3_searchTo_67 : decode cX3_searchTo 67 = .ok (.getfield 36, 3) := by decide +kernel
theorem dX3_searchTo_70 : decode cX3_searchTo 70 = .ok (.invokevirtual 287, 3) := by decide +kernel
theorem dX3_searchTo_73 : decode cX3_searchTo 73 = .ok (.return_, 1) := by decide +kernel
theorem dX3_leastAmong_0 : decode cX3_leastAmong 0 = .ok (.ldc 168, 2) := by decide +kernel
theorem dX3_leastAmong_2 : decode cX3_leastAmong 2 = .ok (.istore_n 3, 1) := by decide +kernel
theorem dX3_leastAmong_3 : decode cX3_leastAmong 3 = .ok (.lload_n 1, 1) := by decide +kernel
theorem dX3_leastAmong_4 : decode cX3_leastAmong 4 = .ok (.iconst 0, 1) := by decide +kernel
theorem dX3_leastAmong_5 : decode cX3_leastAmong 5 = .ok (.invokestatic 283, 3) := by decide +kernel
theorem dX3_leastAmong_8 : decode cX3_leastAmong 8 = .ok (.istore 4, 2) := by decide +kernel
theorem dX3_leastAmong_10 : decode cX3_leastAmong 10 = .ok (.iload 4, 2) := by decide +kernel
theorem dX3_leastAmong_12 : decode cX3_leastAmong 12 = .ok (.bipush 64, 2) := by decide +kernel
theorem dX3_leastAmong_14 : decode cX3_leastAmong 14 = .ok (.if_icmp .ge 28, 3) := by decide +kernel
theorem dX3_leastAmong_17 : decode cX3_leastAmong 17 = .ok (.iload_n 3, 1) := by decide +kernel
theorem dX3_leastAmong_18 : decode cX3_leastAmong 18 = .ok (.aload_n 0, 1) := by decide +kernel
theorem dX3_leastAmong_19 : decode cX3_leastAmong 19 = .ok (.getfield 36, 3) := by decide +kernel
theorem dX3_leastAmong_22 : decode cX3_leastAmong 22 = .ok (.iload 4, 2) := by decide +kernel
theorem dX3_leastAmong_24 : decode cX3_leastAmong 24 = .ok (.iaload, 1) := by decide +kernel
theorem dX3_leastAmong_25 : decode cX3_leastAmong 25 = .ok (.invokestatic 290, 3) := by decide +kernel
theorem dX3_leastAmong_28 : decode cX3_leastAmong 28 = .ok (.istore_n 3, 1) := by decide +kernel
theorem dX3_leastAmong_29 : decode cX3_leastAmong 29 = .ok (.lload_n 1, 1) := by decide +kernel
theorem dX3_leastAmong_30 : decode cX3_leastAmong 30 = .ok (.iload 4, 2) := by decide +kernel
theorem dX3_leastAmong_32 : decode cX3_leastAmong 32 = .ok (.iconst 1, 1) := by decide +kernel
theorem dX3_leastAmong_33 : decode cX3_leastAmong 33 = .ok (.iadd, 1) := by decide +kernel
theorem dX3_leastAmong_34 : decode cX3_leastAmong 34 = .ok (.invokestatic 283, 3) := by decide +kernel
theorem dX3_leastAmong_37 : decode cX3_leastAmong 37 = .ok (.istore 4, 2) := by decide +kernel
theorem dX3_leastAmong_39 : decode cX3_leastAmong 39 = .ok (.goto (-29), 3) := by decide +kernel
theorem dX3_leastAmong_42 : decode cX3_leastAmong 42 = .ok (.iload_n 3, 1) := by decide +kernel
theorem dX3_leastAmong_43 : decode cX3_leastAmong 43 = .ok (.ireturn, 1) := by decide +kernel
theorem dX3_foundCost_0 : decode cX3_foundCost 0 = .ok (.iload_n 1, 1) := by decide +kernel
theorem dX3_foundCost_1 : decode cX3_foundCost 1 = .ok (.iload_n 2, 1) := by decide +kernel
theorem dX3_foundCost_2 : decode cX3_foundCost 2 = .ok (.if_icmp .ne 7, 3) := by decide +kernel
theorem dX3_foundCost_5 : decode cX3_foundCost 5 = .ok (.iconst 0, 1) := by decide +kernel
theorem dX3_foundCost_6 : decode cX3_foundCost 6 = .ok (.goto 19, 3) := by decide +kernel
theorem dX3_foundCost_9 : decode cX3_foundCost 9 = .ok (.aload_n 0, 1) := by decide +kernel
theorem dX3_foundCost_10 : decode cX3_foundCost 10 = .ok (.aload_n 0, 1) := by decide +kernel
theorem dX3_foundCost_11 : decode cX3_foundCost 11 = .ok (.getfield 12, 3) := by decide +kernel
theorem dX3_foundCost_14 : decode cX3_foundCost 14 = .ok (.getfield 179, 3) := by decide +kernel
theorem dX3_foundCost_17 : decode cX3_foundCost 17 = .ok (.iload_n 2, 1) := by decide +kernel
theorem dX3_foundCost_18 : decode cX3_foundCost 18 = .ok (.laload, 1) := by decide +kernel
theorem dX3_foundCost_19 : decode cX3_foundCost 19 = .ok (.invokevirtual 182, 3) := by decide +kernel
theorem dX3_foundCost_22 : decode cX3_foundCost 22 = .ok (.invokestatic 162, 3) := by decide +kernel
theorem dX3_foundCost_25 : decode cX3_foundCost 25 = .ok (.ireturn, 1) := by decide +kernel
theorem dX3_costBetween_0 : decode cX3_costBetween 0 = .ok (.aload_n 0, 1) := by decide +kernel
theorem dX3_costBetween_1 : decode cX3_costBetween 1 = .ok (.iload_n 1, 1) := by decide +kernel
theorem dX3_costBetween_2 : decode cX3_costBetween 2 = .ok (.invokevirtual 213, 3) := by decide +kernel
theorem dX3_costBetween_5 : decode cX3_costBetween 5 = .ok (.aload_n 0, 1) := by decide +kernel
theorem dX3_costBetween_6 : decode cX3_costBetween 6 = .ok (.iload_n 1, 1) := by decide +kernel
theorem dX3_costBetween_7 : decode cX3_costBetween 7 = .ok (.iload_n 2, 1) := by decide +kernel
theorem dX3_costBetween_8 : decode cX3_costBetween 8 = .ok (.invokevirtual 219, 3) := by decide +kernel
theorem dX3_costBetween_11 : decode cX3_costBetween 11 = .ok (.ireturn, 1) := by decide +kernel
theorem dX3_bestFirstRoad_0 : decode cX3_bestFirstRoad 0 = .ok (.aload_n 0, 1) := by decide +kernel
theorem dX3_bestFirstRoad_1 : decode cX3_bestFirstRoad 1 = .ok (.getfield 12, 3) := by decide +kernel
theorem dX3_bestFirstRoad_4 : decode cX3_bestFirstRoad 4 = .ok (.getfield 280, 3) := by decide +kernel
theorem dX3_bestFirstRoad_7 : decode cX3_bestFirstRoad 7 = .ok (.iload_n 1, 1) := by decide +kernel
theorem dX3_bestFirstRoad_8 : decode cX3_bestFirstRoad 8 = .ok (.laload, 1) := by decide +kernel
theorem dX3_bestFirstRoad_9 : decode cX3_bestFirstRoad 9 = .ok (.aload_n 0, 1) := by decide +kernel
theorem dX3_bestFirstRoad_10 : decode cX3_bestFirstRoad 10 = .ok (.getfield 12, 3) := by decide +kernel
theorem dX3_bestFirstRoad_13 : decode cX3_bestFirstRoad 13 = .ok (.getfield 124, 3) := by decide +kernel
theorem dX3_bestFirstRoad_16 : decode cX3_bestFirstRoad 16 = .ok (.land, 1) := by decide +kernel
theorem dX3_bestFirstRoad_17 : decode cX3_bestFirstRoad 17 = .ok (.lstore_n 2, 1) := by decide +kernel
theorem dX3_bestFirstRoad_18 : decode cX3_bestFirstRoad 18 = .ok (.iconst (-1), 1) := by decide +kernel
theorem dX3_bestFirstRoad_19 : decode cX3_bestFirstRoad 19 = .ok (.istore 4, 2) := by decide +kernel
theorem dX3_bestFirstRoad_21 : decode cX3_bestFirstRoad 21 = .ok (.ldc 168, 2) := by decide +kernel
theorem dX3_bestFirstRoad_23 : decode cX3_bestFirstRoad 23 = .ok (.istore 5, 2) := by decide +kernel
theorem dX3_bestFirstRoad_25 : decode cX3_bestFirstRoad 25 = .ok (.lload_n 2, 1) := by decide +kernel
theorem dX3_bestFirstRoad_26 : decode cX3_bestFirstRoad 26 = .ok (.iconst 0, 1) := by decide +kernel
theorem dX3_bestFirstRoad_27 : decode cX3_bestFirstRoad 27 = .ok (.invokestatic 283, 3) := by decide +kernel
theorem dX3_bestFirstRoad_30 : decode cX3_bestFirstRoad 30 = .ok (.istore 6, 2) := by decide +kernel
theorem dX3_bestFirstRoad_32 : decode cX3_bestFirstRoad 32 = .ok (.iload 6, 2) := by decide +kernel
theorem dX3_bestFirstRoad_34 : decode cX3_bestFirstRoad 34 = .ok (.bipush 64, 2) := by decide +kernel
theorem dX3_bestFirstRoad_36 : decode cX3_bestFirstRoad 36 = .ok (.if_icmp .ge 50, 3) := by decide +kernel
theorem dX3_bestFirstRoad_39 : decode cX3_bestFirstRoad 39 = .ok (.aload_n 0, 1) := by decide +kernel
theorem dX3_bestFirstRoad_40 : decode cX3_bestFirstRoad 40 = .ok (.getfield 12, 3) := by decide +kernel
theorem dX3_bestFirstRoad_43 : decode cX3_bestFirstRoad 43 = .ok (.iload 6, 2) := by decide +kernel
theorem dX3_bestFirstRoad_45 : decode cX3_bestFirstRoad 45 = .ok (.invokevirtual 200, 3) := by decide +kernel
theorem dX3_bestFirstRoad_48 : decode cX3_bestFirstRoad 48 = .ok (.aload_n 0, 1) := by decide +kernel
theorem dX3_bestFirstRoad_49 : decode cX3_bestFirstRoad 49 = .ok (.getfield 36, 3) := by decide +kernel
theorem dX3_bestFirstRoad_52 : decode cX3_bestFirstRoad 52 = .ok (.iload 6, 2) := by decide +kernel
theorem dX3_bestFirstRoad_54 : decode cX3_bestFirstRoad 54 = .ok (.iaload, 1) := by decide +kernel
theorem dX3_bestFirstRoad_55 : decode cX3_bestFirstRoad 55 = .ok (.iadd, 1) := by decide +kernel
theorem dX3_bestFirstRoad_56 : decode cX3_bestFirstRoad 56 = .ok (.istore 7, 2) := by decide +kernel
theorem dX3_bestFirstRoad_58 : decode cX3_bestFirstRoad 58 = .ok (.iload 7, 2) := by decide +kernel
theorem dX3_bestFirstRoad_60 : decode cX3_bestFirstRoad 60 = .ok (.iload 5, 2) := by decide +kernel
theorem dX3_bestFirstRoad_62 : decode cX3_bestFirstRoad 62 = .ok (.if_icmp .ge 11, 3) := by decide +kernel
theorem dX3_bestFirstRoad_65 : decode cX3_bestFirstRoad 65 = .ok (.iload 6, 2) := by decide +kernel
theorem dX3_bestFirstRoad_67 : decode cX3_bestFirstRoad 67 = .ok (.istore 4, 2) := by decide +kernel
theorem dX3_bestFirstRoad_69 : decode cX3_bestFirstRoad 69 = .ok (.iload 7, 2) := by decide +kernel
theorem dX3_bestFirstRoad_71 : decode cX3_bestFirstRoad 71 = .ok (.istore 5, 2) := by decide +kernel
theorem dX3_bestFirstRoad_73 : decode cX3_bestFirstRoad 73 = .ok (.lload_n 2, 1) := by decide +kernel
theorem dX3_bestFirstRoad_74 : decode cX3_bestFirstRoad 74 = .ok (.iload 6, 2) := by decide +kernel
theorem dX3_bestFirstRoad_76 : decode cX3_bestFirstRoad 76 = .ok (.iconst 1, 1) := by decide +kernel
theorem dX3_bestFirstRoad_77 : decode cX3_bestFirstRoad 77 = .ok (.iadd, 1) := by decide +kernel
theorem dX3_bestFirstRoad_78 : decode cX3_bestFirstRoad 78 = .ok (.invokestatic 283, 3) := by decide +kernel
theorem dX3_bestFirstRoad_81 : decode cX3_bestFirstRoad 81 = .ok (.istore 6, 2) := by decide +kernel
theorem dX3_bestFirstRoad_83 : decode cX3_bestFirstRoad 83 = .ok (.goto (-51), 3) := by decide +kernel
theorem dX3_bestFirstRoad_86 : decode cX3_bestFirstRoad 86 = .ok (.iload 4, 2) := by decide +kernel
theorem dX3_bestFirstRoad_88 : decode cX3_bestFirstRoad 88 = .ok (.ireturn, 1) := by decide +kernel
theorem dX3_writePath_0 : decode cX3_writePath 0 = .ok (.iconst 0, 1) := by decide +kernel
theorem dX3_writePath_1 : decode cX3_writePath 1 = .ok (.istore_n 2, 1) := by decide +kernel
theorem dX3_writePath_2 : decode cX3_writePath 2 = .ok (.iload_n 1, 1) := by decide +kernel
theorem dX3_writePath_3 : decode cX3_writePath 3 = .ok (.istore_n 3, 1) := by decide +kernel
theorem dX3_writePath_4 : decode cX3_writePath 4 = .ok (.iload_n 3, 1) := by decide +kernel
theorem dX3_writePath_5 : decode cX3_writePath 5 = .ok (.ifCond .lt 41, 3) := by decide +kernel
theorem dX3_writePath_8 : decode cX3_writePath 8 = .ok (.iload_n 2, 1) := by decide +kernel
theorem dX3_writePath_9 : decode cX3_writePath 9 = .ok (.bipush 64, 2) := by decide +kernel
theorem dX3_writePath_11 : decode cX3_writePath 11 = .ok (.if_icmp .ge 35, 3) := by decide +kernel
theorem dX3_writePath_14 : decode cX3_writePath 14 = .ok (.aload_n 0, 1) := by decide +kernel
theorem dX3_writePath_15 : decode cX3_writePath 15 = .ok (.getfield 40, 3) := by decide +kernel
theorem dX3_writePath_18 : decode cX3_writePath 18 = .ok (.iload_n 2, 1) := by decide +kernel
theorem dX3_writePath_19 : decode cX3_writePath 19 = .ok (.iload_n 3, 1) := by decide +kernel
theorem dX3_writePath_20 : decode cX3_writePath 20 = .ok (.iastore, 1) := by decide +kernel
theorem dX3_writePath_21 : decode cX3_writePath 21 = .ok (.iinc 2 1, 3) := by decide +kernel
theorem dX3_writePath_24 : decode cX3_writePath 24 = .ok (.aload_n 0, 1) := by decide +kernel
theorem dX3_writePath_25 : decode cX3_writePath 25 = .ok (.getfield 36, 3) := by decide +kernel
theorem dX3_writePath_28 : decode cX3_writePath 28 = .ok (.iload_n 3, 1) := by decide +kernel
theorem dX3_writePath_29 : decode cX3_writePath 29 = .ok (.iaload, 1) := by decide +kernel
theorem dX3_writePath_30 : decode cX3_writePath 30 = .ok (.ifCond .ne 7, 3) := by decide +kernel
theorem dX3_writePath_33 : decode cX3_writePath 33 = .ok (.iconst (-1), 1) := by decide +kernel
theorem dX3_writePath_34 : decode cX3_writePath 34 = .ok (.goto 8, 3) := by decide +kernel
theorem dX3_writePath_37 : decode cX3_writePath 37 = .ok (.aload_n 0, 1) := by decide +kernel
theorem dX3_writePath_38 : decode cX3_writePath 38 = .ok (.iload_n 3, 1) := by decide +kernel
theorem dX3_writePath_39 : decode cX3_writePath 39 = .ok (.invokevirtual 295, 3) := by decide +kernel
theorem dX3_writePath_42 : decode cX3_writePath 42 = .ok (.istore_n 3, 1) := by decide +kernel
theorem dX3_writePath_43 : decode cX3_writePath 43 = .ok (.goto (-39), 3) := by decide +kernel
theorem dX3_writePath_46 : decode cX3_writePath 46 = .ok (.iload_n 2, 1) := by decide +kernel
theorem dX3_writePath_47 : decode cX3_writePath 47 = .ok (.ireturn, 1) := by decide +kernel
theorem dX3_bestNextRoad_0 : decode cX3_bestNextRoad 0 = .ok (.aload_n 0, 1) := by decide +kernel
theorem dX3_bestNextRoad_1 : decode cX3_bestNextRoad 1 = .ok (.getfield 12, 3) := by decide +kernel
theorem dX3_bestNextRoad_4 : decode cX3_bestNextRoad 4 = .ok (.iload_n 1, 1) := by decide +kernel
theorem dX3_bestNextRoad_5 : decode cX3_bestNextRoad 5 = .ok (.invokevirtual 298, 3) := by decide +kernel
theorem dX3_bestNextRoad_8 : decode cX3_bestNextRoad 8 = .ok (.lstore_n 2, 1) := by decide +kernel
theorem dX3_bestNextRoad_9 : decode cX3_bestNextRoad 9 = .ok (.lload_n 2, 1) := by decide +kernel
theorem dX3_bestNextRoad_10 : decode cX3_bestNextRoad 10 = .ok (.iconst 0, 1) := by decide +kernel
theorem dX3_bestNextRoad_11 : decode cX3_bestNextRoad 11 = .ok (.invokestatic 283, 3) := by decide +kernel
theorem dX3_bestNextRoad_14 : decode cX3_bestNextRoad 14 = .ok (.istore 4, 2) := by decide +kernel
theorem dX3_bestNextRoad_16 : decode cX3_bestNextRoad 16 = .ok (.iload 4, 2) := by decide +kernel
theorem dX3_bestNextRoad_18 : decode cX3_bestNextRoad 18 = .ok (.bipush 64, 2) := by decide +kernel
theorem dX3_bestNextRoad_20 : decode cX3_bestNextRoad 20 = .ok (.if_icmp .ge 46, 3) := by decide +kernel
theorem dX3_bestNextRoad_23 : decode cX3_bestNextRoad 23 = .ok (.aload_n 0, 1) := by decide +kernel
theorem dX3_bestNextRoad_24 : decode cX3_bestNextRoad 24 = .ok (.getfield 12, 3) := by decide +kernel
theorem dX3_bestNextRoad_27 : decode cX3_bestNextRoad 27 = .ok (.iload_n 1, 1) := by decide +kernel
theorem dX3_bestNextRoad_28 : decode cX3_bestNextRoad 28 = .ok (.iload 4, 2) := by decide +kernel
theorem dX3_bestNextRoad_30 : decode cX3_bestNextRoad 30 = .ok (.invokevirtual 301, 3) := by decide +kernel
theorem dX3_bestNextRoad_33 : decode cX3_bestNextRoad 33 = .ok (.aload_n 0, 1) := by decide +kernel
theorem dX3_bestNextRoad_34 : decode cX3_bestNextRoad 34 = .ok (.getfield 36, 3) := by decide +kernel
theorem dX3_bestNextRoad_37 : decode cX3_bestNextRoad 37 = .ok (.iload 4, 2) := by decide +kernel
theorem dX3_bestNextRoad_39 : decode cX3_bestNextRoad 39 = .ok (.iaload, 1) := by decide +kernel
theorem dX3_bestNextRoad_40 : decode cX3_bestNextRoad 40 = .ok (.iadd, 1) := by decide +kernel
theorem dX3_bestNextRoad_41 : decode cX3_bestNextRoad 41 = .ok (.aload_n 0, 1) := by decide +kernel
theorem dX3_bestNextRoad_42 : decode cX3_bestNextRoad 42 = .ok (.getfield 36, 3) := by decide +kernel
theorem dX3_bestNextRoad_45 : decode cX3_bestNextRoad 45 = .ok (.iload_n 1, 1) := by decide +kernel
theorem dX3_bestNextRoad_46 : decode cX3_bestNextRoad 46 = .ok (.iaload, 1) := by decide +kernel
theorem dX3_bestNextRoad_47 : decode cX3_bestNextRoad 47 = .ok (.if_icmp .ne 6, 3) := by decide +kernel
theorem dX3_bestNextRoad_50 : decode cX3_bestNextRoad 50 = .ok (.iload 4, 2) := by decide +kernel
theorem dX3_bestNextRoad_52 : decode cX3_bestNextRoad 52 = .ok (.ireturn, 1) := by decide +kernel
theorem dX3_bestNextRoad_53 : decode cX3_bestNextRoad 53 = .ok (.lload_n 2, 1) := by decide +kernel
theorem dX3_bestNextRoad_54 : decode cX3_bestNextRoad 54 = .ok (.iload 4, 2) := by decide +kernel
theorem dX3_bestNextRoad_56 : decode cX3_bestNextRoad 56 = .ok (.iconst 1, 1) := by decide +kernel
theorem dX3_bestNextRoad_57 : decode cX3_bestNextRoad 57 = .ok (.iadd, 1) := by decide +kernel
theorem dX3_bestNextRoad_58 : decode cX3_bestNextRoad 58 = .ok (.invokestatic 283, 3) := by decide +kernel
theorem dX3_bestNextRoad_61 : decode cX3_bestNextRoad 61 = .ok (.istore 4, 2) := by decide +kernel
theorem dX3_bestNextRoad_63 : decode cX3_bestNextRoad 63 = .ok (.goto (-47), 3) := by decide +kernel
theorem dX3_bestNextRoad_66 : decode cX3_bestNextRoad 66 = .ok (.iconst (-1), 1) := by decide +kernel
theorem dX3_bestNextRoad_67 : decode cX3_bestNextRoad 67 = .ok (.ireturn, 1) := by decide +kernel
theorem dX3_keepReached_0 : decode cX3_keepReached 0 = .ok (.aload_n 0, 1) := by decide +kernel
theorem dX3_keepReached_1 : decode cX3_keepReached 1 = .ok (.getfield 216, 3) := by decide +kernel
theorem dX3_keepReached_4 : decode cX3_keepReached 4 = .ok (.bipush 32, 2) := by decide +kernel
theorem dX3_keepReached_6 : decode cX3_keepReached 6 = .ok (.if_icmp .lt 4, 3) := by decide +kernel
theorem dX3_keepReached_9 : decode cX3_keepReached 9 = .ok (.return_, 1) := by decide +kernel
theorem dX3_keepReached_10 : decode cX3_keepReached 10 = .ok (.aload_n 0, 1) := by decide +kernel
theorem dX3_keepReached_11 : decode cX3_keepReached 11 = .ok (.getfield 216, 3) := by decide +kernel
theorem dX3_keepReached_14 : decode cX3_keepReached 14 = .ok (.istore_n 3, 1) := by decide +kernel
theorem dX3_keepReached_15 : decode cX3_keepReached 15 = .ok (.iload_n 3, 1) := by decide +kernel
theorem dX3_keepReached_16 : decode cX3_keepReached 16 = .ok (.ifCond .le 49, 3) := by decide +kernel
theorem dX3_keepReached_19 : decode cX3_keepReached 19 = .ok (.aload_n 0, 1) := by decide +kernel
theorem dX3_keepReached_20 : decode cX3_keepReached 20 = .ok (.getfield 46, 3) := by decide +kernel
theorem dX3_keepReached_23 : decode cX3_keepReached 23 = .ok (.iload_n 3, 1) := by decide +kernel
theorem dX3_keepReached_24 : decode cX3_keepReached 24 = .ok (.iconst 1, 1) := by decide +kernel
theorem dX3_keepReached_25 : decode cX3_keepReached 25 = .ok (.isub, 1) := by decide +kernel
theorem dX3_keepReached_26 : decode cX3_keepReached 26 = .ok (.iaload, 1) := by decide +kernel
theorem dX3_keepReached_27 : decode cX3_keepReached 27 = .ok (.iload_n 2, 1) := by decide +kernel
theorem dX3_keepReached_28 : decode cX3_keepReached 28 = .ok (.if_icmp .le 37, 3) := by decide +kernel
theorem dX3_keepReached_31 : decode cX3_keepReached 31 = .ok (.aload_n 0, 1) := by decide +kernel
theorem dX3_keepReached_32 : decode cX3_keepReached 32 = .ok (.getfield 43, 3) := by decide +kernel
theorem dX3_keepReached_35 : decode cX3_keepReached 35 = .ok (.iload_n 3, 1) := by decide +kernel
theorem dX3_keepReached_36 : decode cX3_keepReached 36 = .ok (.aload_n 0, 1) := by decide +kernel
theorem dX3_keepReached_37 : decode cX3_keepReached 37 = .ok (.getfield 43, 3) := by decide +kernel
theorem dX3_keepReached_40 : decode cX3_keepReached 40 = .ok (.iload_n 3, 1) := by decide +kernel
theorem dX3_keepReached_41 : decode cX3_keepReached 41 = .ok (.iconst 1, 1) := by decide +kernel
theorem dX3_keepReached_42 : decode cX3_keepReached 42 = .ok (.isub, 1) := by decide +kernel
theorem dX3_keepReached_43 : decode cX3_keepReached 43 = .ok (.iaload, 1) := by decide +kernel
theorem dX3_keepReached_44 : decode cX3_keepReached 44 = .ok (.iastore, 1) := by decide +kernel
theorem dX3_keepReached_45 : decode cX3_keepReached 45 = .ok (.aload_n 0, 1) := by decide +kernel
theorem dX3_keepReached_46 : decode cX3_keepReached 46 = .ok (.getfield 46, 3) := by decide +kernel
theorem dX3_keepReached_49 : decode cX3_keepReached 49 = .ok (.iload_n 3, 1) := by decide +kernel
theorem dX3_keepReached_50 : decode cX3_keepReached 50 = .ok (.aload_n 0, 1) := by decide +kernel
theorem dX3_keepReached_51 : decode cX3_keepReached 51 = .ok (.getfield 46, 3) := by decide +kernel
theorem dX3_keepReached_54 : decode cX3_keepReached 54 = .ok (.iload_n 3, 1) := by decide +kernel
theorem dX3_keepReached_55 : decode cX3_keepReached 55 = .ok (.iconst 1, 1) := by decide +kernel
theorem dX3_keepReached_56 : decode cX3_keepReached 56 = .ok (.isub, 1) := by decide +kernel
theorem dX3_keepReached_57 : decode cX3_keepReached 57 = .ok (.iaload, 1) := by decide +kernel
theorem dX3_keepReached_58 : decode cX3_keepReached 58 = .ok (.iastore, 1) := by decide +kernel
theorem dX3_keepReached_59 : decode cX3_keepReached 59 = .ok (.iinc 3 (-1), 3) := by decide +kernel
theorem dX3_keepReached_62 : decode cX3_keepReached 62 = .ok (.goto (-47), 3) := by decide +kernel
theorem dX3_keepReached_65 : decode cX3_keepReached 65 = .ok (.aload_n 0, 1) := by decide +kernel
theorem dX3_keepReached_66 : decode cX3_keepReached 66 = .ok (.getfield 43, 3) := by decide +kernel
theorem dX3_keepReached_69 : decode cX3_keepReached 69 = .ok (.iload_n 3, 1) := by decide +kernel
theorem dX3_keepReached_70 : decode cX3_keepReached 70 = .ok (.iload_n 1, 1) := by decide +kernel
theorem dX3_keepReached_71 : decode cX3_keepReached 71 = .ok (.iastore, 1) := by decide +kernel
theorem dX3_keepReached_72 : decode cX3_keepReached 72 = .ok (.aload_n 0, 1) := by decide +kernel
theorem dX3_keepReached_73 : decode cX3_keepReached 73 = .ok (.getfield 46, 3) := by decide +kernel
theorem dX3_keepReached_76 : decode cX3_keepReached 76 = .ok (.iload_n 3, 1) := by decide +kernel
theorem dX3_keepReached_77 : decode cX3_keepReached 77 = .ok (.iload_n 2, 1) := by decide +kernel
theorem dX3_keepReached_78 : decode cX3_keepReached 78 = .ok (.iastore, 1) := by decide +kernel
theorem dX3_keepReached_79 : decode cX3_keepReached 79 = .ok (.aload_n 0, 1) := by decide +kernel
theorem dX3_keepReached_80 : decode cX3_keepReached 80 = .ok (.dup, 1) := by decide +kernel
theorem dX3_keepReached_81 : decode cX3_keepReached 81 = .ok (.getfield 216, 3) := by decide +kernel
theorem dX3_keepReached_84 : decode cX3_keepReached 84 = .ok (.iconst 1, 1) := by decide +kernel
theorem dX3_keepReached_85 : decode cX3_keepReached 85 = .ok (.iadd, 1) := by decide +kernel
theorem dX3_keepReached_86 : decode cX3_keepReached 86 = .ok (.putfield 216, 3) := by decide +kernel
theorem dX3_keepReached_89 : decode cX3_keepReached 89 = .ok (.return_, 1) := by decide +kernel
theorem dX3_costOf_0 : decode cX3_costOf 0 = .ok (.iload_n 0, 1) := by decide +kernel
theorem dX3_costOf_1 : decode cX3_costOf 1 = .ok (.ldc 168, 2) := by decide +kernel
theorem dX3_costOf_3 : decode cX3_costOf 3 = .ok (.if_icmp .lt 7, 3) := by decide +kernel
theorem dX3_costOf_6 : decode cX3_costOf 6 = .ok (.iconst (-1), 1) := by decide +kernel
theorem dX3_costOf_7 : decode cX3_costOf 7 = .ok (.goto 7, 3) := by decide +kernel
theorem dX3_costOf_10 : decode cX3_costOf 10 = .ok (.iload_n 0, 1) := by decide +kernel
theorem dX3_costOf_11 : decode cX3_costOf 11 = .ok (.bipush 7, 2) := by decide +kernel
theorem dX3_costOf_13 : decode cX3_costOf 13 = .ok (.ishr, 1) := by decide +kernel
theorem dX3_costOf_14 : decode cX3_costOf 14 = .ok (.ireturn, 1) := by decide +kernel
theorem dX3_pair_0 : decode cX3_pair 0 = .ok (.iload_n 0, 1) := by decide +kernel
theorem dX3_pair_1 : decode cX3_pair 1 = .ok (.bipush 64, 2) := by decide +kernel
theorem dX3_pair_3 : decode cX3_pair 3 = .ok (.imul, 1) := by decide +kernel
theorem dX3_pair_4 : decode cX3_pair 4 = .ok (.iload_n 1, 1) := by decide +kernel
theorem dX3_pair_5 : decode cX3_pair 5 = .ok (.iadd, 1) := by decide +kernel
theorem dX3_pair_6 : decode cX3_pair 6 = .ok (.ireturn, 1) := by decide +kernel
theorem dX3_place_0 : decode cX3_place 0 = .ok (.iload_n 0, 1) := by decide +kernel
theorem dX3_place_1 : decode cX3_place 1 = .ok (.iconst 4, 1) := by decide +kernel
theorem dX3_place_2 : decode cX3_place 2 = .ok (.imul, 1) := by decide +kernel
theorem dX3_place_3 : decode cX3_place 3 = .ok (.iload_n 1, 1) := by decide +kernel
theorem dX3_place_4 : decode cX3_place 4 = .ok (.iadd, 1) := by decide +kernel
theorem dX3_place_5 : decode cX3_place 5 = .ok (.ireturn, 1) := by decide +kernel
theorem dX3_only_0 : decode cX3_only 0 = .ok (.lconst 1, 1) := by decide +kernel
theorem dX3_only_1 : decode cX3_only 1 = .ok (.iload_n 0, 1) := by decide +kernel
theorem dX3_only_2 : decode cX3_only 2 = .ok (.lshl, 1) := by decide +kernel
theorem dX3_only_3 : decode cX3_only 3 = .ok (.lreturn, 1) := by decide +kernel
theorem dX3_has_0 : decode cX3_has 0 = .ok (.lload_n 0, 1) := by decide +kernel
theorem dX3_has_1 : decode cX3_has 1 = .ok (.iload_n 2, 1) := by decide +kernel
theorem dX3_has_2 : decode cX3_has 2 = .ok (.lshr, 1) := by decide +kernel
theorem dX3_has_3 : decode cX3_has 3 = .ok (.lconst 1, 1) := by decide +kernel
theorem dX3_has_4 : decode cX3_has 4 = .ok (.land, 1) := by decide +kernel
theorem dX3_has_5 : decode cX3_has 5 = .ok (.lconst 0, 1) := by decide +kernel
theorem dX3_has_6 : decode cX3_has 6 = .ok (.lcmp, 1) := by decide +kernel
theorem dX3_has_7 : decode cX3_has 7 = .ok (.ifCond .eq 7, 3) := by decide +kernel
theorem dX3_has_10 : decode cX3_has 10 = .ok (.iconst 1, 1) := by decide +kernel
theorem dX3_has_11 : decode cX3_has 11 = .ok (.goto 4, 3) := by decide +kernel
theorem dX3_has_14 : decode cX3_has 14 = .ok (.iconst 0, 1) := by decide +kernel
theorem dX3_has_15 : decode cX3_has 15 = .ok (.ireturn, 1) := by decide +kernel
theorem dX3_next_0 : decode cX3_next 0 = .ok (.iload_n 2, 1) := by decide +kernel
theorem dX3_next_1 : decode cX3_next 1 = .ok (.bipush 64, 2) := by decide +kernel
theorem dX3_next_3 : decode cX3_next 3 = .ok (.if_icmp .lt 6, 3) := by decide +kernel
theorem dX3_next_6 : decode cX3_next 6 = .ok (.bipush 64, 2) := by decide +kernel
theorem dX3_next_8 : decode cX3_next 8 = .ok (.ireturn, 1) := by decide +kernel
theorem dX3_next_9 : decode cX3_next 9 = .ok (.lload_n 0, 1) := by decide +kernel
theorem dX3_next_10 : decode cX3_next 10 = .ok (.ldc2_w 278, 3) := by decide +kernel
theorem dX3_next_13 : decode cX3_next 13 = .ok (.iload_n 2, 1) := by decide +kernel
theorem dX3_next_14 : decode cX3_next 14 = .ok (.lshl, 1) := by decide +kernel
theorem dX3_next_15 : decode cX3_next 15 = .ok (.land, 1) := by decide +kernel
theorem dX3_next_16 : decode cX3_next 16 = .ok (.invokestatic 304, 3) := by decide +kernel
theorem dX3_next_19 : decode cX3_next 19 = .ok (.ireturn, 1) := by decide +kernel
theorem dX4_init_0 : decode cX4_init 0 = .ok (.aload_n 0, 1) := by decide +kernel
theorem dX4_init_1 : decode cX4_init 1 = .ok (.invokespecial 1, 3) := by decide +kernel
theorem dX4_init_4 : decode cX4_init 4 = .ok (.aload_n 0, 1) := by decide +kernel
theorem dX4_init_5 : decode cX4_init 5 = .ok (.bipush 64, 2) := by decide +kernel
theorem dX4_init_7 : decode cX4_init 7 = .ok (.newarray .int, 2) := by decide +kernel
theorem dX4_init_9 : decode cX4_init 9 = .ok (.putfield 9, 3) := by decide +kernel
theorem dX4_init_12 : decode cX4_init 12 = .ok (.aload_n 0, 1) := by decide +kernel
theorem dX4_init_13 : decode cX4_init 13 = .ok (.bipush 64, 2) := by decide +kernel
theorem dX4_init_15 : decode cX4_init 15 = .ok (.newarray .int, 2) := by decide +kernel
theorem dX4_init_17 : decode cX4_init 17 = .ok (.putfield 13, 3) := by decide +kernel
theorem dX4_init_20 : decode cX4_init 20 = .ok (.aload_n 0, 1) := by decide +kernel
theorem dX4_init_21 : decode cX4_init 21 = .ok (.bipush 64, 2) := by decide +kernel
theorem dX4_init_23 : decode cX4_init 23 = .ok (.newarray .int, 2) := by decide +kernel
theorem dX4_init_25 : decode cX4_init 25 = .ok (.putfield 16, 3) := by decide +kernel
theorem dX4_init_28 : decode cX4_init 28 = .ok (.aload_n 0, 1) := by decide +kernel
theorem dX4_init_29 : decode cX4_init 29 = .ok (.bipush 64, 2) := by decide +kernel
theorem dX4_init_31 : decode cX4_init 31 = .ok (.newarray .boolean, 2) := by decide +kernel
theorem dX4_init_33 : decode cX4_init 33 = .ok (.putfield 19, 3) := by decide +kernel
theorem dX4_init_36 : decode cX4_init 36 = .ok (.aload_n 0, 1) := by decide +kernel
theorem dX4_init_37 : decode cX4_init 37 = .ok (.sipush 4096, 3) := by decide +kernel
theorem dX4_init_40 : decode cX4_init 40 = .ok (.newarray .int, 2) := by decide +kernel
theorem dX4_init_42 : decode cX4_init 42 = .ok (.putfield 23, 3) := by decide +kernel
theorem dX4_init_45 : decode cX4_init 45 = .ok (.aload_n 0, 1) := by decide +kernel
theorem dX4_init_46 : decode cX4_init 46 = .ok (.bipush 100, 2) := by decide +kernel
theorem dX4_init_48 : decode cX4_init 48 = .ok (.putfield 26, 3) := by decide +kernel
theorem dX4_init_51 : decode cX4_init 51 = .ok (.aload_n 0, 1) := by decide +kernel
theorem dX4_init_52 : decode cX4_init 52 = .ok (.bipush 64, 2) := by decide +kernel
theorem dX4_init_54 : decode cX4_init 54 = .ok (.newarray .int, 2) := by decide +kernel
theorem dX4_init_56 : decode cX4_init 56 = .ok (.putfield 30, 3) := by decide +kernel
theorem dX4_init_59 : decode cX4_init 59 = .ok (.aload_n 0, 1) := by decide +kernel
theorem dX4_init_60 : decode cX4_init 60 = .ok (.bipush 64, 2) := by decide +kernel
theorem dX4_init_62 : decode cX4_init 62 = .ok (.newarray .int, 2) := by decide +kernel
theorem dX4_init_64 : decode cX4_init 64 = .ok (.putfield 33, 3) := by decide +kernel
theorem dX4_init_67 : decode cX4_init 67 = .ok (.aload_n 0, 1) := by decide +kernel
theorem dX4_init_68 : decode cX4_init 68 = .ok (.sipush 4096, 3) := by decide +kernel
theorem dX4_init_71 : decode cX4_init 71 = .ok (.newarray .boolean, 2) := by decide +kernel
theorem dX4_init_73 : decode cX4_init 73 = .ok (.putfield 36, 3) := by decide +kernel
theorem dX4_init_76 : decode cX4_init 76 = .ok (.aload_n 0, 1) := by decide +kernel
theorem dX4_init_77 : decode cX4_init 77 = .ok (.sipush 4096, 3) := by decide +kernel
theorem dX4_init_80 : decode cX4_init 80 = .ok (.newarray .long, 2) := by decide +kernel
theorem dX4_init_82 : decode cX4_init 82 = .ok (.putfield 39, 3) := by decide +kernel
theorem dX4_init_85 : decode cX4_init 85 = .ok (.aload_n 0, 1) := by decide +kernel
theorem dX4_init_86 : decode cX4_init 86 = .ok (.sipush 4096, 3) := by decide +kernel
theorem dX4_init_89 : decode cX4_init 89 = .ok (.newarray .long, 2) := by decide +kernel
theorem dX4_init_91 : decode cX4_init 91 = .ok (.putfield 43, 3) := by decide +kernel
theorem dX4_init_94 : decode cX4_init 94 = .ok (.aload_n 0, 1) := by decide +kernel
theorem dX4_init_95 : decode cX4_init 95 = .ok (.sipush 4096, 3) := by decide +kernel
theorem dX4_init_98 : decode cX4_init 98 = .ok (.newarray .long, 2) := by decide +kernel
theorem dX4_init_100 : decode cX4_init 100 = .ok (.putfield 46, 3) := by decide +kernel
theorem dX4_init_103 : decode cX4_init 103 = .ok (.aload_n 0, 1) := by decide +kernel
theorem dX4_init_104 : decode cX4_init 104 = .ok (.sipush 128, 3) := by decide +kernel
theorem dX4_init_107 : decode cX4_init 107 = .ok (.newarray .boolean, 2) := by decide +kernel
theorem dX4_init_109 : decode cX4_init 109 = .ok (.putfield 49, 3) := by decide +kernel
theorem dX4_init_112 : decode cX4_init 112 = .ok (.aload_n 0, 1) := by decide +kernel
theorem dX4_init_113 : decode cX4_init 113 = .ok (.bipush 8, 2) := by decide +kernel
theorem dX4_init_115 : decode cX4_init 115 = .ok (.newarray .int, 2) := by decide +kernel
theorem dX4_init_117 : decode cX4_init 117 = .ok (.putfield 52, 3) := by decide +kernel
theorem dX4_init_120 : decode cX4_init 120 = .ok (.aload_n 0, 1) := by decide +kernel
theorem dX4_init_121 : decode cX4_init 121 = .ok (.sipush 512, 3) := by decide +kernel
theorem dX4_init_124 : decode cX4_init 124 = .ok (.newarray .int, 2) := by decide +kernel
theorem dX4_init_126 : decode cX4_init 126 = .ok (.putfield 55, 3) := by decide +kernel
theorem dX4_init_129 : decode cX4_init 129 = .ok (.aload_n 0, 1) := by decide +kernel
theorem dX4_init_130 : decode cX4_init 130 = .ok (.sipush 512, 3) := by decide +kernel
theorem dX4_init_133 : decode cX4_init 133 = .ok (.newarray .boolean, 2) := by decide +kernel
theorem dX4_init_135 : decode cX4_init 135 = .ok (.putfield 58, 3) := by decide +kernel
theorem dX4_init_138 : decode cX4_init 138 = .ok (.aload_n 0, 1) := by decide +kernel
theorem dX4_init_139 : decode cX4_init 139 = .ok (.ldc 61, 2) := by decide +kernel
theorem dX4_init_141 : decode cX4_init 141 = .ok (.newarray .int, 2) := by decide +kernel
theorem dX4_init_143 : decode cX4_init 143 = .ok (.putfield 62, 3) := by decide +kernel
theorem dX4_init_146 : decode cX4_init 146 = .ok (.aload_n 0, 1) := by decide +kernel
theorem dX4_init_147 : decode cX4_init 147 = .ok (.bipush 8, 2) := by decide +kernel
theorem dX4_init_149 : decode cX4_init 149 = .ok (.newarray .int, 2) := by decide +kernel
theorem dX4_init_151 : decode cX4_init 151 = .ok (.putfield 65, 3) := by decide +kernel
theorem dX4_init_154 : decode cX4_init 154 = .ok (.aload_n 0, 1) := by decide +kernel
theorem dX4_init_155 : decode cX4_init 155 = .ok (.sipush 128, 3) := by decide +kernel
theorem dX4_init_158 : decode cX4_init 158 = .ok (.newarray .int, 2) := by decide +kernel
theorem dX4_init_160 : decode cX4_init 160 = .ok (.putfield 68, 3) := by decide +kernel
theorem dX4_init_163 : decode cX4_init 163 = .ok (.aload_n 0, 1) := by decide +kernel
theorem dX4_init_164 : decode cX4_init 164 = .ok (.bipush 32, 2) := by decide +kernel
theorem dX4_init_166 : decode cX4_init 166 = .ok (.newarray .int, 2) := by decide +kernel
theorem dX4_init_168 : decode cX4_init 168 = .ok (.putfield 71, 3) := by decide +kernel
theorem dX4_init_171 : decode cX4_init 171 = .ok (.aload_n 0, 1) := by decide +kernel
theorem dX4_init_172 : decode cX4_init 172 = .ok (.bipush 64, 2) := by decide +kernel
theorem dX4_init_174 : decode cX4_init 174 = .ok (.newarray .long, 2) := by decide +kernel
theorem dX4_init_176 : decode cX4_init 176 = .ok (.putfield 74, 3) := by decide +kernel
theorem dX4_init_179 : decode cX4_init 179 = .ok (.aload_n 0, 1) := by decide +kernel
theorem dX4_init_180 : decode cX4_init 180 = .ok (.bipush 64, 2) := by decide +kernel
theorem dX4_init_182 : decode cX4_init 182 = .ok (.newarray .int, 2) := by decide +kernel
theorem dX4_init_184 : decode cX4_init 184 = .ok (.putfield 77, 3) := by decide +kernel
theorem dX4_init_187 : decode cX4_init 187 = .ok (.iconst 0, 1) := by decide +kernel
theorem dX4_init_188 : decode cX4_init 188 = .ok (.istore_n 1, 1) := by decide +kernel
theorem dX4_init_189 : decode cX4_init 189 = .ok (.iload_n 1, 1) := by decide +kernel
theorem dX4_init_190 : decode cX4_init 190 = .ok (.aload_n 0, 1) := by decide +kernel
theorem dX4_init_191 : decode cX4_init 191 = .ok (.getfield 23, 3) := by decide +kernel
theorem dX4_init_194 : decode cX4_init 194 = .ok (.arraylength, 1) := by decide +kernel
theorem dX4_init_195 : decode cX4_init 195 = .ok (.if_icmp .ge 17, 3) := by decide +kernel
theorem dX4_init_198 : decode cX4_init 198 = .ok (.aload_n 0, 1) := by decide +kernel
theorem dX4_init_199 : decode cX4_init 199 = .ok (.getfield 23, 3) := by decide +kernel
theorem dX4_init_202 : decode cX4_init 202 = .ok (.iload_n 1, 1) := by decide +kernel
theorem dX4_init_203 : decode cX4_init 203 = .ok (.bipush (-2), 2) := by decide +kernel
theorem dX4_init_205 : decode cX4_init 205 = .ok (.iastore, 1) := by decide +kernel
theorem dX4_init_206 : decode cX4_init 206 = .ok (.iinc 1 1, 3) := by decide +kernel
theorem dX4_init_209 : decode cX4_init 209 = .ok (.goto (-20), 3) := by decide +kernel
theorem dX4_init_212 : decode cX4_init 212 = .ok (.return_, 1) := by decide +kernel
theorem dX4_thrown_0 : decode cX4_thrown 0 = .ok (.aload_n 0, 1) := by decide +kernel
theorem dX4_thrown_1 : decode cX4_thrown 1 = .ok (.getfield 80, 3) := by decide +kernel
theorem dX4_thrown_4 : decode cX4_thrown 4 = .ok (.ireturn, 1) := by decide +kernel
theorem dX4_fail_0 : decode cX4_fail 0 = .ok (.aload_n 0, 1) := by decide +kernel
theorem dX4_fail_1 : decode cX4_fail 1 = .ok (.iload_n 1, 1) := by decide +kernel
theorem dX4_fail_2 : decode cX4_fail 2 = .ok (.putfield 80, 3) := by decide +kernel
theorem dX4_fail_5 : decode cX4_fail 5 = .ok (.iconst 0, 1) := by decide +kernel
theorem dX4_fail_6 : decode cX4_fail 6 = .ok (.ireturn, 1) := by decide +kernel
theorem dX4_isJunction_0 : decode cX4_isJunction 0 = .ok (.iload_n 1, 1) := by decide +kernel
theorem dX4_isJunction_1 : decode cX4_isJunction 1 = .ok (.ifCond .lt 15, 3) := by decide +kernel
theorem dX4_isJunction_4 : decode cX4_isJunction 4 = .ok (.iload_n 1, 1) := by decide +kernel
theorem dX4_isJunction_5 : decode cX4_isJunction 5 = .ok (.aload_n 0, 1) := by decide +kernel
theorem dX4_isJunction_6 : decode cX4_isJunction 6 = .ok (.getfield 83, 3) := by decide +kernel
theorem dX4_isJunction_9 : decode cX4_isJunction 9 = .ok (.if_icmp .ge 7, 3) := by decide +kernel
theorem dX4_isJunction_12 : decode cX4_isJunction 12 = .ok (.iconst 1, 1) := by decide +kernel
theorem dX4_isJunction_13 : decode cX4_isJunction 13 = .ok (.goto 4, 3) := by decide +kernel
theorem dX4_isJunction_16 : decode cX4_isJunction 16 = .ok (.iconst 0, 1) := by decide +kernel
theorem dX4_isJunction_17 : decode cX4_isJunction 17 = .ok (.ireturn, 1) := by decide +kernel
theorem dX4_isRoad_0 : decode cX4_isRoad 0 = .ok (.iload_n 1, 1) := by decide +kernel
theorem dX4_isRoad_1 : decode cX4_isRoad 1 = .ok (.ifCond .lt 15, 3) := by decide +kernel
theorem dX4_isRoad_4 : decode cX4_isRoad 4 = .ok (.iload_n 1, 1) := by decide +kernel
theorem dX4_isRoad_5 : decode cX4_isRoad 5 = .ok (.aload_n 0, 1) := by decide +kernel
theorem dX4_isRoad_6 : decode cX4_isRoad 6 = .ok (.getfield 86, 3) := by decide +kernel
theorem dX4_isRoad_9 : decode cX4_isRoad 9 = .ok (.if_icmp .ge 7, 3) := by decide +kernel
theorem dX4_isRoad_12 : decode cX4_isRoad 12 = .ok (.iconst 1, 1) := by decide +kernel
theorem dX4_isRoad_13 : decode cX4_isRoad 13 = .ok (.goto 4, 3) := by decide +kernel
theorem dX4_isRoad_16 : decode cX4_isRoad 16 = .ok (.iconst 0, 1) := by decide +kernel
theorem dX4_isRoad_17 : decode cX4_isRoad 17 = .ok (.ireturn, 1) := by decide +kernel
theorem dX4_follows_0 : decode cX4_follows 0 = .ok (.aload_n 0, 1) := by decide +kernel
theorem dX4_follows_1 : decode cX4_follows 1 = .ok (.getfield 13, 3) := by decide +kernel
theorem dX4_follows_4 : decode cX4_follows 4 = .ok (.iload_n 1, 1) := by decide +kernel
theorem dX4_follows_5 : decode cX4_follows 5 = .ok (.iaload, 1) := by decide +kernel
theorem dX4_follows_6 : decode cX4_follows 6 = .ok (.aload_n 0, 1) := by decide +kernel
theorem dX4_follows_7 : decode cX4_follows 7 = .ok (.getfield 9, 3) := by decide +kernel
theorem dX4_follows_10 : decode cX4_follows 10 = .ok (.iload_n 2, 1) := by decide +kernel
theorem dX4_follows_11 : decode cX4_follows 11 = .ok (.iaload, 1) := by decide +kernel
theorem dX4_follows_12 : decode cX4_follows 12 = .ok (.if_icmp .ne 7, 3) := by decide +kernel
theorem dX4_follows_15 : decode cX4_follows 15 = .ok (.iconst 1, 1) := by decide +kernel
theorem dX4_follows_16 : decode cX4_follows 16 = .ok (.goto 4, 3) := by decide +kernel
theorem dX4_follows_19 : decode cX4_follows 19 = .ok (.iconst 0, 1) := by decide +kernel
theorem dX4_follows_20 : decode cX4_follows 20 = .ok (.ireturn, 1) := by decide +kernel
theorem dX4_addJunction_0 : decode cX4_addJunction 0 = .ok (.aload_n 0, 1) := by decide +kernel
theorem dX4_addJunction_1 : decode cX4_addJunction 1 = .ok (.iconst 0, 1) := by decide +kernel
theorem dX4_addJunction_2 : decode cX4_addJunction 2 = .ok (.putfield 80, 3) := by decide +kernel
theorem dX4_addJunction_5 : decode cX4_addJunction 5 = .ok (.aload_n 0, 1) := by decide +kernel
theorem dX4_addJunction_6 : decode cX4_addJunction 6 = .ok (.getfield 83, 3) := by decide +kernel
theorem dX4_addJunction_9 : decode cX4_addJunction 9 = .ok (.bipush 32, 2) := by decide +kernel
theorem dX4_addJunction_11 : decode cX4_addJunction 11 = .ok (.if_icmp .ne 9, 3) := by decide +kernel
theorem dX4_addJunction_14 : decode cX4_addJunction 14 = .ok (.aload_n 0, 1) := by decide +kernel
theorem dX4_addJunction_15 : decode cX4_addJunction 15 = .ok (.iconst 1, 1) := by decide +kernel
theorem dX4_addJunction_16 : decode cX4_addJunction 16 = .ok (.invokevirtual 89, 3) := by decide +kernel
theorem dX4_addJunction_19 : decode cX4_addJunction 19 = .ok (.ireturn, 1) := by decide +kernel
theorem dX4_addJunction_20 : decode cX4_addJunction 20 = .ok (.aload_n 0, 1) := by decide +kernel
theorem dX4_addJunction_21 : decode cX4_addJunction 21 = .ok (.dup, 1) := by decide +kernel
theorem dX4_addJunction_22 : decode cX4_addJunction 22 = .ok (.getfield 83, 3) := by decide +kernel
theorem dX4_addJunction_25 : decode cX4_addJunction 25 = .ok (.iconst 1, 1) := by decide +kernel
theorem dX4_addJunction_26 : decode cX4_addJunction 26 = .ok (.iadd, 1) := by decide +kernel
theorem dX4_addJunction_27 : decode cX4_addJunction 27 = .ok (.putfield 83, 3) := by decide +kernel
theorem dX4_addJunction_30 : decode cX4_addJunction 30 = .ok (.aload_n 0, 1) := by decide +kernel
theorem dX4_addJunction_31 : decode cX4_addJunction 31 = .ok (.getfield 83, 3) := by decide +kernel
theorem dX4_addJunction_34 : decode cX4_addJunction 34 = .ok (.iconst 1, 1) := by decide +kernel
theorem dX4_addJunction_35 : decode cX4_addJunction 35 = .ok (.isub, 1) := by decide +kernel
theorem dX4_addJunction_36 : decode cX4_addJunction 36 = .ok (.ireturn, 1) := by decide +kernel
theorem dX4_addRoad_0 : decode cX4_addRoad 0 = .ok (.aload_n 0, 1) := by decide +kernel
theorem dX4_addRoad_1 : decode cX4_addRoad 1 = .ok (.iconst 0, 1) := by decide +kernel
theorem dX4_addRoad_2 : decode cX4_addRoad 2 = .ok (.putfield 80, 3) := by decide +kernel
theorem dX4_addRoad_5 : decode cX4_addRoad 5 = .ok (.aload_n 0, 1) := by decide +kernel
theorem dX4_addRoad_6 : decode cX4_addRoad 6 = .ok (.iload_n 1, 1) := by decide +kernel
theorem dX4_addRoad_7 : decode cX4_addRoad 7 = .ok (.invokevirtual 93, 3) := by decide +kernel
theorem dX4_addRoad_10 : decode cX4_addRoad 10 = .ok (.ifCond .eq 11, 3) := by decide +kernel
theorem dX4_addRoad_13 : decode cX4_addRoad 13 = .ok (.aload_n 0, 1) := by decide +kernel
theorem dX4_addRoad_14 : decode cX4_addRoad 14 = .ok (.iload_n 2, 1) := by decide +kernel
theorem dX4_addRoad_15 : decode cX4_addRoad 15 = .ok (.invokevirtual 93, 3) := by decide +kernel
theorem dX4_addRoad_18 : decode cX4_addRoad 18 = .ok (.ifCond .ne 9, 3) := by decide +kernel
theorem dX4_addRoad_21 : decode cX4_addRoad 21 = .ok (.aload_n 0, 1) := by decide +kernel
theorem dX4_addRoad_22 : decode cX4_addRoad 22 = .ok (.iconst 1, 1) := by decide +kernel
theorem dX4_addRoad_23 : decode cX4_addRoad 23 = .ok (.invokevirtual 89, 3) := by decide +kernel
theorem dX4_addRoad_26 : decode cX4_addRoad 26 = .ok (.ireturn, 1) := by decide +kernel
theorem dX4_addRoad_27 : decode cX4_addRoad 27 = .ok (.iload_n 1, 1) := by decide +kernel
theorem dX4_addRoad_28 : decode cX4_addRoad 28 = .ok (.iload_n 2, 1) := by decide +kernel
theorem dX4_addRoad_29 : decode cX4_addRoad 29 = .ok (.if_icmp .eq 15, 3) := by decide +kernel
theorem dX4_addRoad_32 : decode cX4_addRoad 32 = .ok (.iload_n 3, 1) := by decide +kernel
theorem dX4_addRoad_33 : decode cX4_addRoad 33 = .ok (.iconst 1, 1) := by decide +kernel
theorem dX4_addRoad_34 : decode cX4_addRoad 34 = .ok (.if_icmp .lt 10, 3) := by decide +kernel
theorem dX4_addRoad_37 : decode cX4_addRoad 37 = .ok (.iload_n 3, 1) := by decide +kernel
theorem dX4_addRoad_38 : decode cX4_addRoad 38 = .ok (.sipush 10000, 3) := by decide +kernel
theorem dX4_addRoad_41 : decode cX4_addRoad 41 = .ok (.if_icmp .le 9, 3) := by decide +kernel
theorem dX4_addRoad_44 : decode cX4_addRoad 44 = .ok (.aload_n 0, 1) := by decide +kernel
theorem dX4_addRoad_45 : decode cX4_addRoad 45 = .ok (.iconst 2, 1) := by decide +kernel
theorem dX4_addRoad_46 : decode cX4_addRoad 46 = .ok (.invokevirtual 89, 3) := by decide +kernel
theorem dX4_addRoad_49 : decode cX4_addRoad 49 = .ok (.ireturn, 1) := by decide +kernel
theorem dX4_addRoad_50 : decode cX4_addRoad 50 = .ok (.aload_n 0, 1) := by decide +kernel
theorem dX4_addRoad_51 : decode cX4_addRoad 51 = .ok (.getfield 86, 3) := by decide +kernel
theorem dX4_addRoad_54 : decode cX4_addRoad 54 = .ok (.bipush 64, 2) := by decide +kernel
theorem dX4_addRoad_56 : decode cX4_addRoad 56 = .ok (.if_icmp .ne 9, 3) := by decide +kernel
theorem dX4_addRoad_59 : decode cX4_addRoad 59 = .ok (.aload_n 0, 1) := by decide +kernel
theorem dX4_addRoad_60 : decode cX4_addRoad 60 = .ok (.iconst 3, 1) := by decide +kernel
theorem dX4_addRoad_61 : decode cX4_addRoad 61 = .ok (.invokevirtual 89, 3) := by decide +kernel
theorem dX4_addRoad_64 : decode cX4_addRoad 64 = .ok (.ireturn, 1) := by decide +kernel
theorem dX4_addRoad_65 : decode cX4_addRoad 65 = .ok (.aload_n 0, 1) := by decide +kernel
theorem dX4_addRoad_66 : decode cX4_addRoad 66 = .ok (.getfield 9, 3) := by decide +kernel
theorem dX4_addRoad_69 : decode cX4_addRoad 69 = .ok (.aload_n 0, 1) := by decide +kernel
theorem dX4_addRoad_70 : decode cX4_addRoad 70 = .ok (.getfield 86, 3) := by decide +kernel
theorem dX4_addRoad_73 : decode cX4_addRoad 73 = .ok (.iload_n 1, 1) := by decide +kernel
theorem dX4_addRoad_74 : decode cX4_addRoad 74 = .ok (.iastore, 1) := by decide +kernel
theorem dX4_addRoad_75 : decode cX4_addRoad 75 = .ok (.aload_n 0, 1) := by decide +kernel
theorem dX4_addRoad_76 : decode cX4_addRoad 76 = .ok (.getfield 13, 3) := by decide +kernel
theorem dX4_addRoad_79 : decode cX4_addRoad 79 = .ok (.aload_n 0, 1) := by decide +kernel
theorem dX4_addRoad_80 : decode cX4_addRoad 80 = .ok (.getfield 86, 3) := by decide +kernel
theorem dX4_addRoad_83 : decode cX4_addRoad 83 = .ok (.iload_n 2, 1) := by decide +kernel
theorem dX4_addRoad_84 : decode cX4_addRoad 84 = .ok (.iastore, 1) := by decide +kernel
theorem dX4_addRoad_85 : decode cX4_addRoad 85 = .ok (.aload_n 0, 1) := by decide +kernel
theorem dX4_addRoad_86 : decode cX4_addRoad 86 = .ok (.getfield 16, 3) := by decide +kernel
theorem dX4_addRoad_89 : decode cX4_addRoad 89 = .ok (.aload_n 0, 1) := by decide +kernel
theorem dX4_addRoad_90 : decode cX4_addRoad 90 = .ok (.getfield 86, 3) := by decide +kernel
theorem dX4_addRoad_93 : decode cX4_addRoad 93 = .ok (.iload_n 3, 1) := by decide +kernel
theorem dX4_addRoad_94 : decode cX4_addRoad 94 = .ok (.iastore, 1) := by decide +kernel
theorem dX4_addRoad_95 : decode cX4_addRoad 95 = .ok (.aload_n 0, 1) := by decide +kernel
theorem dX4_addRoad_96 : decode cX4_addRoad 96 = .ok (.getfield 19, 3) := by decide +kernel
theorem dX4_addRoad_99 : decode cX4_addRoad 99 = .ok (.aload_n 0, 1) := by decide +kernel
theorem dX4_addRoad_100 : decode cX4_addRoad 100 = .ok (.getfield 86, 3) := by decide +kernel
theorem dX4_addRoad_103 : decode cX4_addRoad 103 = .ok (.iconst 1, 1) := by decide +kernel
theorem dX4_addRoad_104 : decode cX4_addRoad 104 = .ok (.bastore, 1) := by decide +kernel
theorem dX4_addRoad_105 : decode cX4_addRoad 105 = .ok (.aload_n 0, 1) := by decide +kernel
theorem dX4_addRoad_106 : decode cX4_addRoad 106 = .ok (.dup, 1) := by decide +kernel
theorem dX4_addRoad_107 : decode cX4_addRoad 107 = .ok (.getfield 86, 3) := by decide +kernel
theorem dX4_addRoad_110 : decode cX4_addRoad 110 = .ok (.iconst 1, 1) := by decide +kernel
theorem dX4_addRoad_111 : decode cX4_addRoad 111 = .ok (.iadd, 1) := by decide +kernel
theorem dX4_addRoad_112 : decode cX4_addRoad 112 = .ok (.putfield 86, 3) := by decide +kernel
theorem dX4_addRoad_115 : decode cX4_addRoad 115 = .ok (.aload_n 0, 1) := by decide +kernel
theorem dX4_addRoad_116 : decode cX4_addRoad 116 = .ok (.iconst 0, 1) := by decide +kernel
theorem dX4_addRoad_117 : decode cX4_addRoad 117 = .ok (.putfield 97, 3) := by decide +kernel
theorem dX4_addRoad_120 : decode cX4_addRoad 120 = .ok (.aload_n 0, 1) := by decide +kernel
theorem dX4_addRoad_121 : decode cX4_addRoad 121 = .ok (.iconst 0, 1) := by decide +kernel
theorem dX4_addRoad_122 : decode cX4_addRoad 122 = .ok (.putfield 101, 3) := by decide +kernel
theorem dX4_addRoad_125 : decode cX4_addRoad 125 = .ok (.aload_n 0, 1) := by decide +kernel
theorem dX4_addRoad_126 : decode cX4_addRoad 126 = .ok (.iconst 0, 1) := by decide +kernel
theorem dX4_addRoad_127 : decode cX4_addRoad 127 = .ok (.putfield 104, 3) := by decide +kernel
theorem dX4_addRoad_130 : decode cX4_addRoad 130 = .ok (.aload_n 0, 1) := by decide +kernel
theorem dX4_addRoad_131 : decode cX4_addRoad 131 = .ok (.getfield 86, 3) := by decide +kernel
theorem dX4_addRoad_134 : decode cX4_addRoad 134 = .ok (.iconst 1, 1) := by decide +kernel
theorem dX4_addRoad_135 : decode cX4_addRoad 135 = .ok (.isub, 1) := by decide +kernel
theorem dX4_addRoad_136 : decode cX4_addRoad 136 = .ok (.ireturn, 1) := by decide +kernel
theorem dX4_penalty_0 : decode cX4_penalty 0 = .ok (.aload_n 0, 1) := by decide +kernel
theorem dX4_penalty_1 : decode cX4_penalty 1 = .ok (.getfield 23, 3) := by decide +kernel
theorem dX4_penalty_4 : decode cX4_penalty 4 = .ok (.bipush 64, 2) := by decide +kernel
theorem dX4_penalty_6 : decode cX4_penalty 6 = .ok (.iload_n 1, 1) := by decide +kernel
theorem dX4_penalty_7 : decode cX4_penalty 7 = .ok (.imul, 1) := by decide +kernel
theorem dX4_penalty_8 : decode cX4_penalty 8 = .ok (.iload_n 2, 1) := by decide +kernel
theorem dX4_penalty_9 : decode cX4_penalty 9 = .ok (.iadd, 1) := by decide +kernel
theorem dX4_penalty_10 : decode cX4_penalty 10 = .ok (.iaload, 1) := by decide +kernel
theorem dX4_penalty_11 : decode cX4_penalty 11 = .ok (.istore_n 3, 1) := by decide +kernel
theorem dX4_penalty_12 : decode cX4_penalty 12 = .ok (.iload_n 3, 1) := by decide +kernel
theorem dX4_penalty_13 : decode cX4_penalty 13 = .ok (.bipush (-2), 2) := by decide +kernel
theorem dX4_penalty_15 : decode cX4_penalty 15 = .ok (.if_icmp .eq 7, 3) := by decide +kernel
theorem dX4_penalty_18 : decode cX4_penalty 18 = .ok (.iload_n 3, 1) := by decide +kernel
theorem dX4_penalty_19 : decode cX4_penalty 19 = .ok (.goto 26, 3) := by decide +kernel
theorem dX4_penalty_22 : decode cX4_penalty 22 = .ok (.aload_n 0, 1) := by decide +kernel
theorem dX4_penalty_23 : decode cX4_penalty 23 = .ok (.getfield 13, 3) := by decide +kernel
theorem dX4_penalty_26 : decode cX4_penalty 26 = .ok (.iload_n 2, 1) := by decide +kernel
theorem dX4_penalty_27 : decode cX4_penalty 27 = .ok (.iaload, 1) := by decide +kernel
theorem dX4_penalty_28 : decode cX4_penalty 28 = .ok (.aload_n 0, 1) := by decide +kernel
theorem dX4_penalty_29 : decode cX4_penalty 29 = .ok (.getfield 9, 3) := by decide +kernel
theorem dX4_penalty_32 : decode cX4_penalty 32 = .ok (.iload_n 1, 1) := by decide +kernel
theorem dX4_penalty_33 : decode cX4_penalty 33 = .ok (.iaload, 1) := by decide +kernel
theorem dX4_penalty_34 : decode cX4_penalty 34 = .ok (.if_icmp .ne 10, 3) := by decide +kernel
theorem dX4_penalty_37 : decode cX4_penalty 37 = .ok (.aload_n 0, 1) := by decide +kernel
theorem dX4_penalty_38 : decode cX4_penalty 38 = .ok (.getfield 26, 3) := by decide +kernel
theorem dX4_penalty_41 : decode cX4_penalty 41 = .ok (.goto 4, 3) := by decide +kernel
theorem dX4_penalty_44 : decode cX4_penalty 44 = .ok (.iconst 0, 1) := by decide +kernel
theorem dX4_penalty_45 : decode cX4_penalty 45 = .ok (.ireturn, 1) := by decide +kernel
theorem dX4_step_0 : decode cX4_step 0 = .ok (.aload_n 0, 1) := by decide +kernel
theorem dX4_step_1 : decode cX4_step 1 = .ok (.getfield 19, 3) := by decide +kernel
theorem dX4_step_4 : decode cX4_step 4 = .ok (.iload_n 1, 1) := by decide +kernel
theorem dX4_step_5 : decode cX4_step 5 = .ok (.baload, 1) := by decide +kernel
theorem dX4_step_6 : decode cX4_step 6 = .ok (.ifCond .eq 47, 3) := by decide +kernel
theorem dX4_step_9 : decode cX4_step 9 = .ok (.aload_n 0, 1) := by decide +kernel
theorem dX4_step_10 : decode cX4_step 10 = .ok (.getfield 19, 3) := by decide +kernel
theorem dX4_step_13 : decode cX4_step 13 = .ok (.iload_n 2, 1) := by decide +kernel
theorem dX4_step_14 : decode cX4_step 14 = .ok (.baload, 1) := by decide +kernel
theorem dX4_step_15 : decode cX4_step 15 = .ok (.ifCond .eq 38, 3) := by decide +kernel
theorem dX4_step_18 : decode cX4_step 18 = .ok (.aload_n 0, 1) := by decide +kernel
theorem dX4_step_19 : decode cX4_step 19 = .ok (.iload_n 1, 1) := by decide +kernel
theorem dX4_step_20 : decode cX4_step 20 = .ok (.iload_n 2, 1) := by decide +kernel
theorem dX4_step_21 : decode cX4_step 21 = .ok (.invokevirtual 107, 3) := by decide +kernel
theorem dX4_step_24 : decode cX4_step 24 = .ok (.ifCond .eq 29, 3) := by decide +kernel
theorem dX4_step_27 : decode cX4_step 27 = .ok (.aload_n 0, 1) := by decide +kernel
theorem dX4_step_28 : decode cX4_step 28 = .ok (.iload_n 1, 1) := by decide +kernel
theorem dX4_step_29 : decode cX4_step 29 = .ok (.iload_n 2, 1) := by decide +kernel
theorem dX4_step_30 : decode cX4_step 30 = .ok (.invokevirtual 111, 3) := by decide +kernel
theorem dX4_step_33 : decode cX4_step 33 = .ok (.ifCond .lt 20, 3) := by decide +kernel
theorem dX4_step_36 : decode cX4_step 36 = .ok (.aload_n 0, 1) := by decide +kernel
theorem dX4_step_37 : decode cX4_step 37 = .ok (.iload_n 1, 1) := by decide +kernel
theorem dX4_step_38 : decode cX4_step 38 = .ok (.iload_n 2, 1) := by decide +kernel
theorem dX4_step_39 : decode cX4_step 39 = .ok (.invokevirtual 111, 3) := by decide +kernel
theorem dX4_step_42 : decode cX4_step 42 = .ok (.aload_n 0, 1) := by decide +kernel
theorem dX4_step_43 : decode cX4_step 43 = .ok (.getfield 16, 3) := by decide +kernel
theorem dX4_step_46 : decode cX4_step 46 = .ok (.iload_n 2, 1) := by decide +kernel
theorem dX4_step_47 : decode cX4_step 47 = .ok (.iaload, 1) := by decide +kernel
theorem dX4_step_48 : decode cX4_step 48 = .ok (.iadd, 1) := by decide +kernel
theorem dX4_step_49 : decode cX4_step 49 = .ok (.i2l, 1) := by decide +kernel
theorem dX4_step_50 : decode cX4_step 50 = .ok (.goto 6, 3) := by decide +kernel
theorem dX4_step_53 : decode cX4_step 53 = .ok (.ldc2_w 115, 3) := by decide +kernel
theorem dX4_step_56 : decode cX4_step 56 = .ok (.lreturn, 1) := by decide +kernel
theorem dX4_setWeight_0 : decode cX4_setWeight 0 = .ok (.aload_n 0, 1) := by decide +kernel
theorem dX4_setWeight_1 : decode cX4_setWeight 1 = .ok (.iconst 0, 1) := by decide +kernel
theorem dX4_setWeight_2 : decode cX4_setWeight 2 = .ok (.putfield 80, 3) := by decide +kernel
theorem dX4_setWeight_5 : decode cX4_setWeight 5 = .ok (.aload_n 0, 1) := by decide +kernel
theorem dX4_setWeight_6 : decode cX4_setWeight 6 = .ok (.iload_n 1, 1) := by decide +kernel
theorem dX4_setWeight_7 : decode cX4_setWeight 7 = .ok (.invokevirtual 117, 3) := by decide +kernel
theorem dX4_setWeight_10 : decode cX4_setWeight 10 = .ok (.ifCond .ne 9, 3) := by decide +kernel
theorem dX4_setWeight_13 : decode cX4_setWeight 13 = .ok (.aload_n 0, 1) := by decide +kernel
theorem dX4_setWeight_14 : decode cX4_setWeight 14 = .ok (.iconst 1, 1) := by decide +kernel
theorem dX4_setWeight_15 : decode cX4_setWeight 15 = .ok (.invokevirtual 89, 3) := by decide +kernel
theorem dX4_setWeight_18 : decode cX4_setWeight 18 = .ok (.ireturn, 1) := by decide +kernel
theorem dX4_setWeight_19 : decode cX4_setWeight 19 = .ok (.iload_n 2, 1) := by decide +kernel
theorem dX4_setWeight_20 : decode cX4_setWeight 20 = .ok (.iconst 1, 1) := by decide +kernel
theorem dX4_setWeight_21 : decode cX4_setWeight 21 = .ok (.if_icmp .lt 10, 3) := by decide +kernel
theorem dX4_setWeight_24 : decode cX4_setWeight 24 = .ok (.iload_n 2, 1) := by decide +kernel
theorem dX4_setWeight_25 : decode cX4_setWeight 25 = .ok (.sipush 10000, 3) := by decide +kernel
theorem dX4_setWeight_28 : decode cX4_setWeight 28 = .ok (.if_icmp .le 9, 3) := by decide +kernel
theorem dX4_setWeight_31 : decode cX4_setWeight 31 = .ok (.aload_n 0, 1) := by decide +kernel
theorem dX4_setWeight_32 : decode cX4_setWeight 32 = .ok (.iconst 2, 1) := by decide +kernel
theorem dX4_setWeight_33 : decode cX4_setWeight 33 = .ok (.invokevirtual 89, 3) := by decide +kernel
theorem dX4_setWeight_36 : decode cX4_setWeight 36 = .ok (.ireturn, 1) := by decide +kernel
theorem dX4_setWeight_37 : decode cX4_setWeight 37 = .ok (.aload_n 0, 1) := by decide +kernel
theorem dX4_setWeight_38 : decode cX4_setWeight 38 = .ok (.getfield 16, 3) := by decide +kernel
theorem dX4_setWeight_41 : decode cX4_setWeight 41 = .ok (.iload_n 1, 1) := by decide +kernel
theorem dX4_setWeight_42 : decode cX4_setWeight 42 = .ok (.iload_n 2, 1) := by decide +kernel
theorem dX4_setWeight_43 : decode cX4_setWeight 43 = .ok (.iastore, 1) := by decide +kernel
theorem dX4_setWeight_44 : decode cX4_setWeight 44 = .ok (.aload_n 0, 1) := by decide +kernel
theorem dX4_setWeight_45 : decode cX4_setWeight 45 = .ok (.invokevirtual 120, 3) := by decide +kernel
theorem dX4_setWeight_48 : decode cX4_setWeight 48 = .ok (.ireturn, 1) := by decide +kernel
theorem dX4_setOpen_0 : decode cX4_setOpen 0 = .ok (.aload_n 0, 1) := by decide +kernel
theorem dX4_setOpen_1 : decode cX4_setOpen 1 = .ok (.iconst 0, 1) := by decide +kernel
theorem dX4_setOpen_2 : decode cX4_setOpen 2 = .ok (.putfield 80, 3) := by decide +kernel
theorem dX4_setOpen_5 : decode cX4_setOpen 5 = .ok (.aload_n 0, 1) := by decide +kernel
theorem dX4_setOpen_6 : decode cX4_setOpen 6 = .ok (.iload_n 1, 1) := by decide +kernel
theorem dX4_setOpen_7 : decode cX4_setOpen 7 = .ok (.invokevirtual 117, 3) := by decide +kernel
theorem dX4_setOpen_10 : decode cX4_setOpen 10 = .ok (.ifCond .ne 9, 3) := by decide +kernel
theorem dX4_setOpen_13 : decode cX4_setOpen 13 = .ok (.aload_n 0, 1) := by decide +kernel
theorem dX4_setOpen_14 : decode cX4_setOpen 14 = .ok (.iconst 1, 1) := by decide +kernel
theorem dX4_setOpen_15 : decode cX4_setOpen 15 = .ok (.invokevirtual 89, 3) := by decide +kernel
theorem dX4_setOpen_18 : decode cX4_setOpen 18 = .ok (.ireturn, 1) := by decide +kernel
theorem dX4_setOpen_19 : decode cX4_setOpen 19 = .ok (.aload_n 0, 1) := by decide +kernel
theorem dX4_setOpen_20 : decode cX4_setOpen 20 = .ok (.getfield 19, 3) := by decide +kernel
theorem dX4_setOpen_23 : decode cX4_setOpen 23 = .ok (.iload_n 1, 1) := by decide +kernel
theorem dX4_setOpen_24 : decode cX4_setOpen 24 = .ok (.iload_n 2, 1) := by decide +kernel
theorem dX4_setOpen_25 : decode cX4_setOpen 25 = .ok (.bastore, 1) := by decide +kernel
theorem dX4_setOpen_26 : decode cX4_setOpen 26 = .ok (.aload_n 0, 1) := by decide +kernel
theorem dX4_setOpen_27 : decode cX4_setOpen 27 = .ok (.invokevirtual 120, 3) := by decide +kernel
theorem dX4_setOpen_30 : decode cX4_setOpen 30 = .ok (.ireturn, 1) := by decide +kernel
theorem dX4_setTurn_0 : decode cX4_setTurn 0 = .ok (.aload_n 0, 1) := by decide +kernel
theorem dX4_setTurn_1 : decode cX4_setTurn 1 = .ok (.iconst 0, 1) := by decide +kernel
theorem dX4_setTurn_2 : decode cX4_setTurn 2 = .ok (.putfield 80, 3) := by decide +kernel
theorem dX4_setTurn_5 : decode cX4_setTurn 5 = .ok (.aload_n 0, 1) := by decide +kernel
theorem dX4_setTurn_6 : decode cX4_setTurn 6 = .ok (.iload_n 1, 1) := by decide +kernel
theorem dX4_setTurn_7 : decode cX4_setTurn 7 = .ok (.invokevirtual 117, 3) := by decide +kernel
theorem dX4_setTurn_10 : decode cX4_setTurn 10 = .ok (.ifCond .eq 11, 3) := by decide +kernel
theorem dX4_setTurn_13 : decode cX4_setTurn 13 = .ok (.aload_n 0, 1) := by decide +kernel
theorem dX4_setTurn_14 : decode cX4_setTurn 14 = .ok (.iload_n 2, 1) := by decide +kernel
theorem dX4_setTurn_15 : decode cX4_setTurn 15 = .ok (.invokevirtual 117, 3) := by decide +kernel
theorem dX4_setTurn_18 : decode cX4_setTurn 18 = .ok (.ifCond .ne 9, 3) := by decide +kernel
theorem dX4_setTurn_21 : decode cX4_setTurn 21 = .ok (.aload_n 0, 1) := by decide +kernel
theorem dX4_setTurn_22 : decode cX4_setTurn 22 = .ok (.iconst 1, 1) := by decide +kernel
theorem dX4_setTurn_23 : decode cX4_setTurn 23 = .ok (.invokevirtual 89, 3) := by decide +kernel
theorem dX4_setTurn_26 : decode cX4_setTurn 26 = .ok (.ireturn, 1) := by decide +kernel
theorem dX4_setTurn_27 : decode cX4_setTurn 27 = .ok (.aload_n 0, 1) := by decide +kernel
theorem dX4_setTurn_28 : decode cX4_setTurn 28 = .ok (.iload_n 1, 1) := by decide +kernel
theorem dX4_setTurn_29 : decode cX4_setTurn 29 = .ok (.iload_n 2, 1) := by decide +kernel
theorem dX4_setTurn_30 : decode cX4_setTurn 30 = .ok (.invokevirtual 107, 3) := by decide +kernel
theorem dX4_setTurn_33 : decode cX4_setTurn 33 = .ok (.ifCond .eq 16, 3) := by decide +kernel
theorem dX4_setTurn_36 : decode cX4_setTurn 36 = .ok (.iload_n 3, 1) := by decide +kernel
theorem dX4_setTurn_37 : decode cX4_setTurn 37 = .ok (.bipush (-2), 2) := by decide +kernel
theorem dX4_setTurn_39 : decode cX4_setTurn 39 = .ok (.if_icmp .lt 10, 3) := by decide +kernel
theorem dX4_setTurn_42 : decode cX4_setTurn 42 = .ok (.iload_n 3, 1) := by decide +kernel
theorem dX4_setTurn_43 : decode cX4_setTurn 43 = .ok (.sipush 1000, 3) := by decide +kernel
theorem dX4_setTurn_46 : decode cX4_setTurn 46 = .ok (.if_icmp .le 9, 3) := by decide +kernel
theorem dX4_setTurn_49 : decode cX4_setTurn 49 = .ok (.aload_n 0, 1) := by decide +kernel
theorem dX4_setTurn_50 : decode cX4_setTurn 50 = .ok (.iconst 2, 1) := by decide +kernel
theorem dX4_setTurn_51 : decode cX4_setTurn 51 = .ok (.invokevirtual 89, 3) := by decide +kernel
theorem dX4_setTurn_54 : decode cX4_setTurn 54 = .ok (.ireturn, 1) := by decide +kernel
theorem dX4_setTurn_55 : decode cX4_setTurn 55 = .ok (.aload_n 0, 1) := by decide +kernel
theorem dX4_setTurn_56 : decode cX4_setTurn 56 = .ok (.getfield 23, 3) := by decide +kernel
theorem dX4_setTurn_59 : decode cX4_setTurn 59 = .ok (.bipush 64, 2) := by decide +kernel
theorem dX4_setTurn_61 : decode cX4_setTurn 61 = .ok (.iload_n 1, 1) := by decide +kernel
theorem dX4_setTurn_62 : decode cX4_setTurn 62 = .ok (.imul, 1) := by decide +kernel
theorem dX4_setTurn_63 : decode cX4_setTurn 63 = .ok (.iload_n 2, 1) := by decide +kernel
theorem dX4_setTurn_64 : decode cX4_setTurn 64 = .ok (.iadd, 1) := by decide +kernel
theorem dX4_setTurn_65 : decode cX4_setTurn 65 = .ok (.iload_n 3, 1) := by decide +kernel
theorem dX4_setTurn_66 : decode cX4_setTurn 66 = .ok (.iastore, 1) := by decide +kernel
theorem dX4_setTurn_67 : decode cX4_setTurn 67 = .ok (.aload_n 0, 1) := by decide +kernel
theorem dX4_setTurn_68 : decode cX4_setTurn 68 = .ok (.invokevirtual 120, 3) := by decide +kernel
theorem dX4_setTurn_71 : decode cX4_setTurn 71 = .ok (.ireturn, 1) := by decide +kernel
theorem dX4_setUTurn_0 : decode cX4_setUTurn 0 = .ok (.aload_n 0, 1) := by decide +kernel
theorem dX4_setUTurn_1 : decode cX4_setUTurn 1 = .ok (.iconst 0, 1) := by decide +kernel
theorem dX4_setUTurn_2 : decode cX4_setUTurn 2 = .ok (.putfield 80, 3) := by decide +kernel
theorem dX4_setUTurn_5 : decode cX4_setUTurn 5 = .ok (.iload_n 1, 1) := by decide +kernel
theorem dX4_setUTurn_6 : decode cX4_setUTurn 6 = .ok (.iconst (-1), 1) := by decide +kernel
theorem dX4_setUTurn_7 : decode cX4_setUTurn 7 = .ok (.if_icmp .lt 10, 3) := by decide +kernel
theorem dX4_setUTurn_10 : decode cX4_setUTurn 10 = .ok (.iload_n 1, 1) := by decide +kernel
theorem dX4_setUTurn_11 : decode cX4_setUTurn 11 = .ok (.sipush 1000, 3) := by decide +kernel
theorem dX4_setUTurn_14 : decode cX4_setUTurn 14 = .ok (.if_icmp .le 9, 3) := by decide +kernel
theorem dX4_setUTurn_17 : decode cX4_setUTurn 17 = .ok (.aload_n 0, 1) := by decide +kernel
theorem dX4_setUTurn_18 : decode cX4_setUTurn 18 = .ok (.iconst 1, 1) := by decide +kernel
theorem dX4_setUTurn_19 : decode cX4_setUTurn 19 = .ok (.invokevirtual 89, 3) := by decide +kernel
theorem dX4_setUTurn_22 : decode cX4_setUTurn 22 = .ok (.ireturn, 1) := by decide +kernel
theorem dX4_setUTurn_23 : decode cX4_setUTurn 23 = .ok (.aload_n 0, 1) := by decide +kernel
theorem dX4_setUTurn_24 : decode cX4_setUTurn 24 = .ok (.iload_n 1, 1) := by decide +kernel
theorem dX4_setUTurn_25 : decode cX4_setUTurn 25 = .ok (.putfield 26, 3) := by decide +kernel
theorem dX4_setUTurn_28 : decode cX4_setUTurn 28 = .ok (.aload_n 0, 1) := by decide +kernel
theorem dX4_setUTurn_29 : decode cX4_setUTurn 29 = .ok (.invokevirtual 120, 3) := by decide +kernel
theorem dX4_setUTurn_32 : decode cX4_setUTurn 32 = .ok (.ireturn, 1) := by decide +kernel
theorem dX4_junctionCount_0 : decode cX4_junctionCount 0 = .ok (.aload_n 0, 1) := by decide +kernel
theorem dX4_junctionCount_1 : decode cX4_junctionCount 1 = .ok (.iconst 0, 1) := by decide +kernel
theorem dX4_junctionCount_2 : decode cX4_junctionCount 2 = .ok (.putfield 80, 3) := by decide +kernel
theorem dX4_junctionCount_5 : decode cX4_junctionCount 5 = .ok (.aload_n 0, 1) := by decide +kernel
theorem dX4_junctionCount_6 : decode cX4_junctionCount 6 = .ok (.getfield 83, 3) := by decide +kernel
theorem dX4_junctionCount_9 : decode cX4_junctionCount 9 = .ok (.ireturn, 1) := by decide +kernel
theorem dX4_roadCount_0 : decode cX4_roadCount 0 = .ok (.aload_n 0, 1) := by decide +kernel
theorem dX4_roadCount_1 : decode cX4_roadCount 1 = .ok (.iconst 0, 1) := by decide +kernel
theorem dX4_roadCount_2 : decode cX4_roadCount 2 = .ok (.putfield 80, 3) := by decide +kernel
theorem dX4_roadCount_5 : decode cX4_roadCount 5 = .ok (.aload_n 0, 1) := by decide +kernel
theorem dX4_roadCount_6 : decode cX4_roadCount 6 = .ok (.getfield 86, 3) := by decide +kernel
theorem dX4_roadCount_9 : decode cX4_roadCount 9 = .ok (.ireturn, 1) := by decide +kernel
theorem dX4_weight_0 : decode cX4_weight 0 = .ok (.aload_n 0, 1) := by decide +kernel
theorem dX4_weight_1 : decode cX4_weight 1 = .ok (.iconst 0, 1) := by decide +kernel
theorem dX4_weight_2 : decode cX4_weight 2 = .ok (.putfield 80, 3) := by decide +kernel
theorem dX4_weight_5 : decode cX4_weight 5 = .ok (.aload_n 0, 1) := by decide +kernel
theorem dX4_weight_6 : decode cX4_weight 6 = .ok (.iload_n 1, 1) := by decide +kernel
theorem dX4_weight_7 : decode cX4_weight 7 = .ok (.invokevirtual 117, 3) := by decide +kernel
theorem dX4_weight_10 : decode cX4_weight 10 = .ok (.ifCond .eq 12, 3) := by decide +kernel
theorem dX4_weight_13 : decode cX4_weight 13 = .ok (.aload_n 0, 1) := by decide +kernel
theorem dX4_weight_14 : decode cX4_weight 14 = .ok (.getfield 16, 3) := by decide +kernel
theorem dX4_weight_17 : decode cX4_weight 17 = .ok (.iload_n 1, 1) := by decide +kernel
theorem dX4_weight_18 : decode cX4_weight 18 = .ok (.iaload, 1) := by decide +kernel
theorem dX4_weight_19 : decode cX4_weight 19 = .ok (.goto 8, 3) := by decide +kernel
theorem dX4_weight_22 : decode cX4_weight 22 = .ok (.aload_n 0, 1) := by decide +kernel
theorem dX4_weight_23 : decode cX4_weight 23 = .ok (.iconst 1, 1) := by decide +kernel
theorem dX4_weight_24 : decode cX4_weight 24 = .ok (.invokevirtual 89, 3) := by decide +kernel
theorem dX4_weight_27 : decode cX4_weight 27 = .ok (.ireturn, 1) := by decide +kernel
theorem dX4_isOpen_0 : decode cX4_isOpen 0 = .ok (.aload_n 0, 1) := by decide +kernel
theorem dX4_isOpen_1 : decode cX4_isOpen 1 = .ok (.iconst 0, 1) := by decide +kernel
theorem dX4_isOpen_2 : decode cX4_isOpen 2 = .ok (.putfield 80, 3) := by decide +kernel
theorem dX4_isOpen_5 : decode cX4_isOpen 5 = .ok (.aload_n 0, 1) := by decide +kernel
theorem dX4_isOpen_6 : decode cX4_isOpen 6 = .ok (.iload_n 1, 1) := by decide +kernel
theorem dX4_isOpen_7 : decode cX4_isOpen 7 = .ok (.invokevirtual 117, 3) := by decide +kernel
theorem dX4_isOpen_10 : decode cX4_isOpen 10 = .ok (.ifCond .eq 12, 3) := by decide +kernel
theorem dX4_isOpen_13 : decode cX4_isOpen 13 = .ok (.aload_n 0, 1) := by decide +kernel
theorem dX4_isOpen_14 : decode cX4_isOpen 14 = .ok (.getfield 19, 3) := by decide +kernel
theorem dX4_isOpen_17 : decode cX4_isOpen 17 = .ok (.iload_n 1, 1) := by decide +kernel
theorem dX4_isOpen_18 : decode cX4_isOpen 18 = .ok (.baload, 1) := by decide +kernel
theorem dX4_isOpen_19 : decode cX4_isOpen 19 = .ok (.goto 16, 3) := by decide +kernel
theorem dX4_isOpen_22 : decode cX4_isOpen 22 = .ok (.aload_n 0, 1) := by decide +kernel
theorem dX4_isOpen_23 : decode cX4_isOpen 23 = .ok (.iconst 1, 1) := by decide +kernel
theorem dX4_isOpen_24 : decode cX4_isOpen 24 = .ok (.invokevirtual 89, 3) := by decide +kernel
theorem dX4_isOpen_27 : decode cX4_isOpen 27 = .ok (.ifCond .eq 7, 3) := by decide +kernel
theorem dX4_isOpen_30 : decode cX4_isOpen 30 = .ok (.iconst 1, 1) := by decide +kernel
theorem dX4_isOpen_31 : decode cX4_isOpen 31 = .ok (.goto 4, 3) := by decide +kernel
theorem dX4_isOpen_34 : decode cX4_isOpen 34 = .ok (.iconst 0, 1) := by decide +kernel
theorem dX4_isOpen_35 : decode cX4_isOpen 35 = .ok (.ireturn, 1) := by decide +kernel
theorem dX4_turnPenalty_0 : decode cX4_turnPenalty 0 = .ok (.aload_n 0, 1) := by decide +kernel
theorem dX4_turnPenalty_1 : decode cX4_turnPenalty 1 = .ok (.iconst 0, 1) := by decide +kernel
theorem dX4_turnPenalty_2 : decode cX4_turnPenalty 2 = .ok (.putfield 80, 3) := by decide +kernel
theorem dX4_turnPenalty_5 : decode cX4_turnPenalty 5 = .ok (.aload_n 0, 1) := by decide +kernel
theorem dX4_turnPenalty_6 : decode cX4_turnPenalty 6 = .ok (.iload_n 1, 1) := by decide +kernel
theorem dX4_turnPenalty_7 : decode cX4_turnPenalty 7 = .ok (.invokevirtual 117, 3) := by decide +kernel
theorem dX4_turnPenalty_10 : decode cX4_turnPenalty 10 = .ok (.ifCond .eq 11, 3) := by decide +kernel
theorem dX4_turnPenalty_13 : decode cX4_turnPenalty 13 = .ok (.aload_n 0, 1) := by decide +kernel
theorem dX4_turnPenalty_14 : decode cX4_turnPenalty 14 = .ok (.iload_n 2, 1) := by decide +kernel
theorem dX4_turnPenalty_15 : decode cX4_turnPenalty 15 = .ok (.invokevirtual 117, 3) := by decide +kernel
theorem dX4_turnPenalty_18 : decode cX4_turnPenalty 18 = .ok (.ifCond .ne 9, 3) := by decide +kernel
theorem dX4_turnPenalty_21 : decode cX4_turnPenalty 21 = .ok (.aload_n 0, 1) := by decide +kernel
theorem dX4_turnPenalty_22 : decode cX4_turnPenalty 22 = .ok (.iconst 1, 1) := by decide +kernel
theorem dX4_turnPenalty_23 : decode cX4_turnPenalty 23 = .ok (.invokevirtual 89, 3) := by decide +kernel
theorem dX4_turnPenalty_26 : decode cX4_turnPenalty 26 = .ok (.ireturn, 1) := by decide +kernel
theorem dX4_turnPenalty_27 : decode cX4_turnPenalty 27 = .ok (.aload_n 0, 1) := by decide +kernel
theorem dX4_turnPenalty_28 : decode cX4_turnPenalty 28 = .ok (.iload_n 1, 1) := by decide +kernel
theorem dX4_turnPenalty_29 : decode cX4_turnPenalty 29 = .ok (.iload_n 2, 1) := by decide +kernel
theorem dX4_turnPenalty_30 : decode cX4_turnPenalty 30 = .ok (.invokevirtual 107, 3) := by decide +kernel
theorem dX4_turnPenalty_33 : decode cX4_turnPenalty 33 = .ok (.ifCond .eq 12, 3) := by decide +kernel
theorem dX4_turnPenalty_36 : decode cX4_turnPenalty 36 = .ok (.aload_n 0, 1) := by decide +kernel
theorem dX4_turnPenalty_37 : decode cX4_turnPenalty 37 = .ok (.iload_n 1, 1) := by decide +kernel
theorem dX4_turnPenalty_38 : decode cX4_turnPenalty 38 = .ok (.iload_n 2, 1) := by decide +kernel
theorem dX4_turnPenalty_39 : decode cX4_turnPenalty 39 = .ok (.invokevirtual 111, 3) := by decide +kernel
theorem dX4_turnPenalty_42 : decode cX4_turnPenalty 42 = .ok (.goto 8, 3) := by decide +kernel
theorem dX4_turnPenalty_45 : decode cX4_turnPenalty 45 = .ok (.aload_n 0, 1) := by decide +kernel
theorem dX4_turnPenalty_46 : decode cX4_turnPenalty 46 = .ok (.iconst 2, 1) := by decide +kernel
theorem dX4_turnPenalty_47 : decode cX4_turnPenalty 47 = .ok (.invokevirtual 89, 3) := by decide +kernel
theorem dX4_turnPenalty_50 : decode cX4_turnPenalty 50 = .ok (.ireturn, 1) := by decide +kernel
theorem dX4_prepare_0 : decode cX4_prepare 0 = .ok (.aload_n 0, 1) := by decide +kernel
theorem dX4_prepare_1 : decode cX4_prepare 1 = .ok (.iconst 0, 1) := by decide +kernel
theorem dX4_prepare_2 : decode cX4_prepare 2 = .ok (.putfield 80, 3) := by decide +kernel
theorem dX4_prepare_5 : decode cX4_prepare 5 = .ok (.aload_n 0, 1) := by decide +kernel
theorem dX4_prepare_6 : decode cX4_prepare 6 = .ok (.getfield 86, 3) := by decide +kernel
theorem dX4_prepare_9 : decode cX4_prepare 9 = .ok (.ifCond .ne 9, 3) := by decide +kernel
theorem dX4_prepare_12 : decode cX4_prepare 12 = .ok (.aload_n 0, 1) := by decide +kernel
theorem dX4_prepare_13 : decode cX4_prepare 13 = .ok (.iconst 1, 1) := by decide +kernel
theorem dX4_prepare_14 : decode cX4_prepare 14 = .ok (.invokevirtual 89, 3) := by decide +kernel
theorem dX4_prepare_17 : decode cX4_prepare 17 = .ok (.ireturn, 1) := by decide +kernel
theorem dX4_prepare_18 : decode cX4_prepare 18 = .ok (.aload_n 0, 1) := by decide +kernel
theorem dX4_prepare_19 : decode cX4_prepare 19 = .ok (.getfield 97, 3) := by decide +kernel
theorem dX4_prepare_22 : decode cX4_prepare 22 = .ok (.ifCond .eq 8, 3) := by decide +kernel
theorem dX4_prepare_25 : decode cX4_prepare 25 = .ok (.aload_n 0, 1) := by decide +kernel
theorem dX4_prepare_26 : decode cX4_prepare 26 = .ok (.getfield 104, 3) := by decide +kernel
theorem dX4_prepare_29 : decode cX4_prepare 29 = .ok (.ireturn, 1) := by decide +kernel
theorem dX4_prepare_30 : decode cX4_prepare 30 = .ok (.aload_n 0, 1) := by decide +kernel
theorem dX4_prepare_31 : decode cX4_prepare 31 = .ok (.iconst 0, 1) := by decide +kernel
theorem dX4_prepare_32 : decode cX4_prepare 32 = .ok (.putfield 101, 3) := by decide +kernel
theorem dX4_prepare_35 : decode cX4_prepare 35 = .ok (.aload_n 0, 1) := by decide +kernel
theorem dX4_prepare_36 : decode cX4_prepare 36 = .ok (.iconst 0, 1) := by decide +kernel
theorem dX4_prepare_37 : decode cX4_prepare 37 = .ok (.putfield 104, 3) := by decide +kernel
theorem dX4_prepare_40 : decode cX4_prepare 40 = .ok (.iconst 0, 1) := by decide +kernel
theorem dX4_prepare_41 : decode cX4_prepare 41 = .ok (.istore_n 1, 1) := by decide +kernel
theorem dX4_prepare_42 : decode cX4_prepare 42 = .ok (.iload_n 1, 1) := by decide +kernel
theorem dX4_prepare_43 : decode cX4_prepare 43 = .ok (.aload_n 0, 1) := by decide +kernel
theorem dX4_prepare_44 : decode cX4_prepare 44 = .ok (.getfield 86, 3) := by decide +kernel
theorem dX4_prepare_47 : decode cX4_prepare 47 = .ok (.if_icmp .ge 72, 3) := by decide +kernel
theorem dX4_prepare_50 : decode cX4_prepare 50 = .ok (.aload_n 0, 1) := by decide +kernel
theorem dX4_prepare_51 : decode cX4_prepare 51 = .ok (.getfield 30, 3) := by decide +kernel
theorem dX4_prepare_54 : decode cX4_prepare 54 = .ok (.iload_n 1, 1) := by decide +kernel
theorem dX4_prepare_55 : decode cX4_prepare 55 = .ok (.iconst (-1), 1) := by decide +kernel
theorem dX4_prepare_56 : decode cX4_prepare 56 = .ok (.iastore, 1) := by decide +kernel
theorem dX4_prepare_57 : decode cX4_prepare 57 = .ok (.iconst 0, 1) := by decide +kernel
theorem dX4_prepare_58 : decode cX4_prepare 58 = .ok (.istore_n 2, 1) := by decide +kernel
theorem dX4_prepare_59 : decode cX4_prepare 59 = .ok (.iload_n 2, 1) := by decide +kernel
theorem dX4_prepare_60 : decode cX4_prepare 60 = .ok (.aload_n 0, 1) := by decide +kernel
theorem dX4_prepare_61 : decode cX4_prepare 61 = .ok (.getfield 86, 3) := by decide +kernel
theorem dX4_prepare_64 : decode cX4_prepare 64 = .ok (.if_icmp .ge 49, 3) := by decide +kernel
theorem dX4_prepare_67 : decode cX4_prepare 67 = .ok (.aload_n 0, 1) := by decide +kernel
theorem dX4_prepare_68 : decode cX4_prepare 68 = .ok (.getfield 36, 3) := by decide +kernel
theorem dX4_prepare_71 : decode cX4_prepare 71 = .ok (.bipush 64, 2) := by decide +kernel
theorem dX4_prepare_73 : decode cX4_prepare 73 = .ok (.iload_n 1, 1) := by decide +kernel
theorem dX4_prepare_74 : decode cX4_prepare 74 = .ok (.imul, 1) := by decide +kernel
theorem dX4_prepare_75 : decode cX4_prepare 75 = .ok (.iload_n 2, 1) := by decide +kernel
theorem dX4_prepare_76 : decode cX4_prepare 76 = .ok (.iadd, 1) := by decide +kernel
theorem dX4_prepare_77 : decode cX4_prepare 77 = .ok (.aload_n 0, 1) := by decide +kernel
theorem dX4_prepare_78 : decode cX4_prepare 78 = .ok (.iload_n 1, 1) := by decide +kernel
theorem dX4_prepare_79 : decode cX4_prepare 79 = .ok (.iload_n 2, 1) := by decide +kernel
theorem dX4_prepare_80 : decode cX4_prepare 80 = .ok (.invokevirtual 107, 3) := by decide +kernel
theorem dX4_prepare_83 : decode cX4_prepare 83 = .ok (.bastore, 1) := by decide +kernel
theorem dX4_prepare_84 : decode cX4_prepare 84 = .ok (.aload_n 0, 1) := by decide +kernel
theorem dX4_prepare_85 : decode cX4_prepare 85 = .ok (.dup, 1) := by decide +kernel
theorem dX4_prepare_86 : decode cX4_prepare 86 = .ok (.getfield 101, 3) := by decide +kernel
theorem dX4_prepare_89 : decode cX4_prepare 89 = .ok (.aload_n 0, 1) := by decide +kernel
theorem dX4_prepare_90 : decode cX4_prepare 90 = .ok (.iload_n 1, 1) := by decide +kernel
theorem dX4_prepare_91 : decode cX4_prepare 91 = .ok (.iload_n 2, 1) := by decide +kernel
theorem dX4_prepare_92 : decode cX4_prepare 92 = .ok (.invokevirtual 107, 3) := by decide +kernel
theorem dX4_prepare_95 : decode cX4_prepare 95 = .ok (.ifCond .eq 7, 3) := by decide +kernel
theorem dX4_prepare_98 : decode cX4_prepare 98 = .ok (.iconst 1, 1) := by decide +kernel
theorem dX4_prepare_99 : decode cX4_prepare 99 = .ok (.goto 4, 3) := by decide +kernel
theorem dX4_prepare_102 : decode cX4_prepare 102 = .ok (.iconst 0, 1) := by decide +kernel
theorem dX4_prepare_103 : decode cX4_prepare 103 = .ok (.iadd, 1) := by decide +kernel
theorem dX4_prepare_104 : decode cX4_prepare 104 = .ok (.putfield 101, 3) := by decide +kernel
theorem dX4_prepare_107 : decode cX4_prepare 107 = .ok (.iinc 2 1, 3) := by decide +kernel
theorem dX4_prepare_110 : decode cX4_prepare 110 = .ok (.goto (-51), 3) := by decide +kernel
theorem dX4_prepare_113 : decode cX4_prepare 113 = .ok (.iinc 1 1, 3) := by decide +kernel
theorem dX4_prepare_116 : decode cX4_prepare 116 = .ok (.goto (-74), 3) := by decide +kernel
theorem dX4_prepare_119 : decode cX4_prepare 119 = .ok (.iconst 0, 1) := by decide +kernel
theorem dX4_prepare_120 : decode cX4_prepare 120 = .ok (.istore_n 1, 1) := by decide +kernel
theorem dX4_prepare_121 : decode cX4_prepare 121 = .ok (.iload_n 1, 1) := by decide +kernel
theorem dX4_prepare_122 : decode cX4_prepare 122 = .ok (.aload_n 0, 1) := by decide +kernel
theorem dX4_prepare_123 : decode cX4_prepare 123 = .ok (.getfield 86, 3) := by decide +kernel
theorem dX4_prepare_126 : decode cX4_prepare 126 = .ok (.if_icmp .ge 18, 3) := by decide +kernel
theorem dX4_prepare_129 : decode cX4_prepare 129 = .ok (.aload_n 0, 1) := by decide +kernel
theorem dX4_prepare_130 : decode cX4_prepare 130 = .ok (.aload_n 0, 1) := by decide +kernel
theorem dX4_prepare_131 : decode cX4_prepare 131 = .ok (.invokevirtual 124, 3) := by decide +kernel
theorem dX4_prepare_134 : decode cX4_prepare 134 = .ok (.iload_n 1, 1) := by decide +kernel
theorem dX4_prepare_135 : decode cX4_prepare 135 = .ok (.invokevirtual 127, 3) := by decide +kernel
theorem dX4_prepare_138 : decode cX4_prepare 138 = .ok (.iinc 1 1, 3) := by decide +kernel
theorem dX4_prepare_141 : decode cX4_prepare 141 = .ok (.goto (-20), 3) := by decide +kernel
theorem dX4_prepare_144 : decode cX4_prepare 144 = .ok (.aload_n 0, 1) := by decide +kernel
theorem dX4_prepare_145 : decode cX4_prepare 145 = .ok (.iconst 1, 1) := by decide +kernel
theorem dX4_prepare_146 : decode cX4_prepare 146 = .ok (.putfield 97, 3) := by decide +kernel
theorem dX4_prepare_149 : decode cX4_prepare 149 = .ok (.aload_n 0, 1) := by decide +kernel
theorem dX4_prepare_150 : decode cX4_prepare 150 = .ok (.invokevirtual 131, 3) := by decide +kernel
theorem dX4_prepare_153 : decode cX4_prepare 153 = .ok (.aload_n 0, 1) := by decide +kernel
theorem dX4_prepare_154 : decode cX4_prepare 154 = .ok (.getfield 104, 3) := by decide +kernel
theorem dX4_prepare_157 : decode cX4_prepare 157 = .ok (.ireturn, 1) := by decide +kernel
theorem dX4_next_0 : decode cX4_next 0 = .ok (.iconst (-1), 1) := by decide +kernel
theorem dX4_next_1 : decode cX4_next 1 = .ok (.istore_n 1, 1) := by decide +kernel
theorem dX4_next_2 : decode cX4_next 2 = .ok (.iconst 0, 1) := by decide +kernel
theorem dX4_next_3 : decode cX4_next 3 = .ok (.istore_n 2, 1) := by decide +kernel
theorem dX4_next_4 : decode cX4_next 4 = .ok (.iconst 0, 1) := by decide +kernel
theorem dX4_next_5 : decode cX4_next 5 = .ok (.istore_n 3, 1) := by decide +kernel
theorem dX4_next_6 : decode cX4_next 6 = .ok (.iload_n 3, 1) := by decide +kernel
theorem dX4_next_7 : decode cX4_next 7 = .ok (.aload_n 0, 1) := by decide +kernel
theorem dX4_next_8 : decode cX4_next 8 = .ok (.getfield 86, 3) := by decide +kernel
theorem dX4_next_11 : decode cX4_next 11 = .ok (.if_icmp .ge 135, 3) := by decide +kernel
theorem dX4_next_14 : decode cX4_next 14 = .ok (.aload_n 0, 1) := by decide +kernel
theorem dX4_next_15 : decode cX4_next 15 = .ok (.getfield 30, 3) := by decide +kernel
theorem dX4_next_18 : decode cX4_next 18 = .ok (.iload_n 3, 1) := by decide +kernel
theorem dX4_next_19 : decode cX4_next 19 = .ok (.iaload, 1) := by decide +kernel
theorem dX4_next_20 : decode cX4_next 20 = .ok (.iconst (-1), 1) := by decide +kernel
theorem dX4_next_21 : decode cX4_next 21 = .ok (.if_icmp .eq 6, 3) := by decide +kernel
theorem dX4_next_24 : decode cX4_next 24 = .ok (.goto 116, 3) := by decide +kernel
theorem dX4_next_27 : decode cX4_next 27 = .ok (.iconst 0, 1) := by decide +kernel
theorem dX4_next_28 : decode cX4_next 28 = .ok (.istore 4, 2) := by decide +kernel
theorem dX4_next_30 : decode cX4_next 30 = .ok (.iconst 0, 1) := by decide +kernel
theorem dX4_next_31 : decode cX4_next 31 = .ok (.istore 5, 2) := by decide +kernel
theorem dX4_next_33 : decode cX4_next 33 = .ok (.iconst 0, 1) := by decide +kernel
theorem dX4_next_34 : decode cX4_next 34 = .ok (.istore 6, 2) := by decide +kernel
theorem dX4_next_36 : decode cX4_next 36 = .ok (.iload 6, 2) := by decide +kernel
theorem dX4_next_38 : decode cX4_next 38 = .ok (.aload_n 0, 1) := by decide +kernel
theorem dX4_next_39 : decode cX4_next 39 = .ok (.getfield 86, 3) := by decide +kernel
theorem dX4_next_42 : decode cX4_next 42 = .ok (.if_icmp .ge 73, 3) := by decide +kernel
theorem dX4_next_45 : decode cX4_next 45 = .ok (.aload_n 0, 1) := by decide +kernel
theorem dX4_next_46 : decode cX4_next 46 = .ok (.getfield 30, 3) := by decide +kernel
theorem dX4_next_49 : decode cX4_next 49 = .ok (.iload 6, 2) := by decide +kernel
theorem dX4_next_51 : decode cX4_next 51 = .ok (.iaload, 1) := by decide +kernel
theorem dX4_next_52 : decode cX4_next 52 = .ok (.iconst (-1), 1) := by decide +kernel
theorem dX4_next_53 : decode cX4_next 53 = .ok (.if_icmp .eq 6, 3) := by decide +kernel
theorem dX4_next_56 : decode cX4_next 56 = .ok (.goto 53, 3) := by decide +kernel
theorem dX4_next_59 : decode cX4_next 59 = .ok (.iload 4, 2) := by decide +kernel
theorem dX4_next_61 : decode cX4_next 61 = .ok (.aload_n 0, 1) := by decide +kernel
theorem dX4_next_62 : decode cX4_next 62 = .ok (.getfield 36, 3) := by decide +kernel
theorem dX4_next_65 : decode cX4_next 65 = .ok (.bipush 64, 2) := by decide +kernel
theorem dX4_next_67 : decode cX4_next 67 = .ok (.iload 6, 2) := by decide +kernel
theorem dX4_next_69 : decode cX4_next 69 = .ok (.imul, 1) := by decide +kernel
theorem dX4_next_70 : decode cX4_next 70 = .ok (.iload_n 3, 1) := by decide +kernel
theorem dX4_next_71 : decode cX4_next 71 = .ok (.iadd, 1) := by decide +kernel
theorem dX4_next_72 : decode cX4_next 72 = .ok (.baload, 1) := by decide +kernel
theorem dX4_next_73 : decode cX4_next 73 = .ok (.ifCond .eq 7, 3) := by decide +kernel
theorem dX4_next_76 : decode cX4_next 76 = .ok (.iconst 1, 1) := by decide +kernel
theorem dX4_next_77 : decode cX4_next 77 = .ok (.goto 4, 3) := by decide +kernel
theorem dX4_next_80 : decode cX4_next 80 = .ok (.iconst 0, 1) := by decide +kernel
theorem dX4_next_81 : decode cX4_next 81 = .ok (.iadd, 1) := by decide +kernel
theorem dX4_next_82 : decode cX4_next 82 = .ok (.istore 4, 2) := by decide +kernel
theorem dX4_next_84 : decode cX4_next 84 = .ok (.iload 5, 2) := by decide +kernel
theorem dX4_next_86 : decode cX4_next 86 = .ok (.aload_n 0, 1) := by decide +kernel
theorem dX4_next_87 : decode cX4_next 87 = .ok (.getfield 36, 3) := by decide +kernel
theorem dX4_next_90 : decode cX4_next 90 = .ok (.bipush 64, 2) := by decide +kernel
theorem dX4_next_92 : decode cX4_next 92 = .ok (.iload_n 3, 1) := by decide +kernel
theorem dX4_next_93 : decode cX4_next 93 = .ok (.imul, 1) := by decide +kernel
theorem dX4_next_94 : decode cX4_next 94 = .ok (.iload 6, 2) := by decide +kernel
theorem dX4_next_96 : decode cX4_next 96 = .ok (.iadd, 1) := by decide +kernel
theorem dX4_next_97 : decode cX4_next 97 = .ok (.baload, 1) := by decide +kernel
theorem dX4_next_98 : decode cX4_next 98 = .ok (.ifCond .eq 7, 3) := by decide +kernel
theorem dX4_next_101 : decode cX4_next 101 = .ok (.iconst 1, 1) := by decide +kernel
theorem dX4_next_102 : decode cX4_next 102 = .ok (.goto 4, 3) := by decide +kernel
theorem dX4_next_105 : decode cX4_next 105 = .ok (.iconst 0, 1) := by decide +kernel
theorem dX4_next_106 : decode cX4_next 106 = .ok (.iadd, 1) := by decide +kernel
theorem dX4_next_107 : decode cX4_next 107 = .ok (.istore 5, 2) := by decide +kernel
theorem dX4_next_109 : decode cX4_next 109 = .ok (.iinc 6 1, 3) := by decide +kernel
theorem dX4_next_112 : decode cX4_next 112 = .ok (.goto (-76), 3) := by decide +kernel
theorem dX4_next_115 : decode cX4_next 115 = .ok (.iload_n 1, 1) := by decide +kernel
theorem dX4_next_116 : decode cX4_next 116 = .ok (.iconst (-1), 1) := by decide +kernel
theorem dX4_next_117 : decode cX4_next 117 = .ok (.if_icmp .eq 15, 3) := by decide +kernel
theorem dX4_next_120 : decode cX4_next 120 = .ok (.iload 4, 2) := by decide +kernel
theorem dX4_next_122 : decode cX4_next 122 = .ok (.iload 5, 2) := by decide +kernel
theorem dX4_next_124 : decode cX4_next 124 = .ok (.imul, 1) := by decide +kernel
theorem dX4_next_125 : decode cX4_next 125 = .ok (.iload_n 2, 1) := by decide +kernel
theorem dX4_next_126 : decode cX4_next 126 = .ok (.if_icmp .lt 6, 3) := by decide +kernel
theorem dX4_next_129 : decode cX4_next 129 = .ok (.goto 11, 3) := by decide +kernel
theorem dX4_next_132 : decode cX4_next 132 = .ok (.iload_n 3, 1) := by decide +kernel
theorem dX4_next_133 : decode cX4_next 133 = .ok (.istore_n 1, 1) := by decide +kernel
theorem dX4_next_134 : decode cX4_next 134 = .ok (.iload 4, 2) := by decide +kernel
theorem dX4_next_136 : decode cX4_next 136 = .ok (.iload 5, 2) := by decide +kernel
theorem dX4_next_138 : decode cX4_next 138 = .ok (.imul, 1) := by decide +kernel
theorem dX4_next_139 : decode cX4_next 139 = .ok (.istore_n 2, 1) := by decide +kernel
theorem dX4_next_140 : decode cX4_next 140 = .ok (.iinc 3 1, 3) := by decide +kernel
theorem dX4_next_143 : decode cX4_next 143 = .ok (.goto (-137), 3) := by decide +kernel
theorem dX4_next_146 : decode cX4_next 146 = .ok (.iload_n 1, 1) := by decide +kernel
theorem dX4_next_147 : decode cX4_next 147 = .ok (.ireturn, 1) := by decide +kernel
theorem dX4_take_0 : decode cX4_take 0 = .ok (.aload_n 0, 1) := by decide +kernel
theorem dX4_take_1 : decode cX4_take 1 = .ok (.getfield 30, 3) := by decide +kernel
theorem dX4_take_4 : decode cX4_take 4 = .ok (.iload_n 1, 1) := by decide +kernel
theorem dX4_take_5 : decode cX4_take 5 = .ok (.iload_n 2, 1) := by decide +kernel
theorem dX4_take_6 : decode cX4_take 6 = .ok (.iastore, 1) := by decide +kernel
theorem dX4_take_7 : decode cX4_take 7 = .ok (.aload_n 0, 1) := by decide +kernel
theorem dX4_take_8 : decode cX4_take 8 = .ok (.getfield 33, 3) := by decide +kernel
theorem dX4_take_11 : decode cX4_take 11 = .ok (.iload_n 2, 1) := by decide +kernel
theorem dX4_take_12 : decode cX4_take 12 = .ok (.iload_n 1, 1) := by decide +kernel
theorem dX4_take_13 : decode cX4_take 13 = .ok (.iastore, 1) := by decide +kernel
theorem dX4_take_14 : decode cX4_take 14 = .ok (.iconst 0, 1) := by decide +kernel
theorem dX4_take_15 : decode cX4_take 15 = .ok (.istore_n 3, 1) := by decide +kernel
theorem dX4_take_16 : decode cX4_take 16 = .ok (.iload_n 3, 1) := by decide +kernel
theorem dX4_take_17 : decode cX4_take 17 = .ok (.aload_n 0, 1) := by decide +kernel
theorem dX4_take_18 : decode cX4_take 18 = .ok (.getfield 86, 3) := by decide +kernel
theorem dX4_take_21 : decode cX4_take 21 = .ok (.if_icmp .ge 137, 3) := by decide +kernel
theorem dX4_take_24 : decode cX4_take 24 = .ok (.iconst 0, 1) := by decide +kernel
theorem dX4_take_25 : decode cX4_take 25 = .ok (.istore 4, 2) := by decide +kernel
theorem dX4_take_27 : decode cX4_take 27 = .ok (.iload 4, 2) := by decide +kernel
theorem dX4_take_29 : decode cX4_take 29 = .ok (.aload_n 0, 1) := by decide +kernel
theorem dX4_take_30 : decode cX4_take 30 = .ok (.getfield 86, 3) := by decide +kernel
theorem dX4_take_33 : decode cX4_take 33 = .ok (.if_icmp .ge 119, 3) := by decide +kernel
theorem dX4_take_36 : decode cX4_take 36 = .ok (.iload_n 3, 1) := by decide +kernel
theorem dX4_take_37 : decode cX4_take 37 = .ok (.iload 4, 2) := by decide +kernel
theorem dX4_take_39 : decode cX4_take 39 = .ok (.if_icmp .eq 107, 3) := by decide +kernel
theorem dX4_take_42 : decode cX4_take 42 = .ok (.aload_n 0, 1) := by decide +kernel
theorem dX4_take_43 : decode cX4_take 43 = .ok (.getfield 30, 3) := by decide +kernel
theorem dX4_take_46 : decode cX4_take 46 = .ok (.iload_n 3, 1) := by decide +kernel
theorem dX4_take_47 : decode cX4_take 47 = .ok (.iaload, 1) := by decide +kernel
theorem dX4_take_48 : decode cX4_take 48 = .ok (.iconst (-1), 1) := by decide +kernel
theorem dX4_take_49 : decode cX4_take 49 = .ok (.if_icmp .ne 97, 3) := by decide +kernel
theorem dX4_take_52 : decode cX4_take 52 = .ok (.aload_n 0, 1) := by decide +kernel
theorem dX4_take_53 : decode cX4_take 53 = .ok (.getfield 30, 3) := by decide +kernel
theorem dX4_take_56 : decode cX4_take 56 = .ok (.iload 4, 2) := by decide +kernel
theorem dX4_take_58 : decode cX4_take 58 = .ok (.iaload, 1) := by decide +kernel
theorem dX4_take_59 : decode cX4_take 59 = .ok (.iconst (-1), 1) := by decide +kernel
theorem dX4_take_60 : decode cX4_take 60 = .ok (.if_icmp .ne 86, 3) := by decide +kernel
theorem dX4_take_63 : decode cX4_take 63 = .ok (.aload_n 0, 1) := by decide +kernel
theorem dX4_take_64 : decode cX4_take 64 = .ok (.getfield 36, 3) := by decide +kernel
theorem dX4_take_67 : decode cX4_take 67 = .ok (.bipush 64, 2) := by decide +kernel
theorem dX4_take_69 : decode cX4_take 69 = .ok (.iload_n 3, 1) := by decide +kernel
theorem dX4_take_70 : decode cX4_take 70 = .ok (.imul, 1) := by decide +kernel
theorem dX4_take_71 : decode cX4_take 71 = .ok (.iload 4, 2) := by decide +kernel
theorem dX4_take_73 : decode cX4_take 73 = .ok (.iadd, 1) := by decide +kernel
theorem dX4_take_74 : decode cX4_take 74 = .ok (.baload, 1) := by decide +kernel
theorem dX4_take_75 : decode cX4_take 75 = .ok (.ifCond .eq 6, 3) := by decide +kernel
theorem dX4_take_78 : decode cX4_take 78 = .ok (.goto 68, 3) := by decide +kernel
theorem dX4_take_81 : decode cX4_take 81 = .ok (.aload_n 0, 1) := by decide +kernel
theorem dX4_take_82 : decode cX4_take 82 = .ok (.getfield 36, 3) := by decide +kernel
theorem dX4_take_85 : decode cX4_take 85 = .ok (.bipush 64, 2) := by decide +kernel
theorem dX4_take_87 : decode cX4_take 87 = .ok (.iload_n 3, 1) := by decide +kernel
theorem dX4_take_88 : decode cX4_take 88 = .ok (.imul, 1) := by decide +kernel
theorem dX4_take_89 : decode cX4_take 89 = .ok (.iload_n 1, 1) := by decide +kernel
theorem dX4_take_90 : decode cX4_take 90 = .ok (.iadd, 1) := by decide +kernel
theorem dX4_take_91 : decode cX4_take 91 = .ok (.baload, 1) := by decide +kernel
theorem dX4_take_92 : decode cX4_take 92 = .ok (.ifCond .eq 54, 3) := by decide +kernel
theorem dX4_take_95 : decode cX4_take 95 = .ok (.aload_n 0, 1) := by decide +kernel
theorem dX4_take_96 : decode cX4_take 96 = .ok (.getfield 36, 3) := by decide +kernel
theorem dX4_take_99 : decode cX4_take 99 = .ok (.bipush 64, 2) := by decide +kernel
theorem dX4_take_101 : decode cX4_take 101 = .ok (.iload_n 1, 1) := by decide +kernel
theorem dX4_take_102 : decode cX4_take 102 = .ok (.imul, 1) := by decide +kernel
theorem dX4_take_103 : decode cX4_take 103 = .ok (.iload 4, 2) := by decide +kernel
theorem dX4_take_105 : decode cX4_take 105 = .ok (.iadd, 1) := by decide +kernel
theorem dX4_take_106 : decode cX4_take 106 = .ok (.baload, 1) := by decide +kernel
theorem dX4_take_107 : decode cX4_take 107 = .ok (.ifCond .ne 6, 3) := by decide +kernel
theorem dX4_take_110 : decode cX4_take 110 = .ok (.goto 36, 3) := by decide +kernel
theorem dX4_take_113 : decode cX4_take 113 = .ok (.aload_n 0, 1) := by decide +kernel
theorem dX4_take_114 : decode cX4_take 114 = .ok (.getfield 36, 3) := by decide +kernel
theorem dX4_take_117 : decode cX4_take 117 = .ok (.bipush 64, 2) := by decide +kernel
theorem dX4_take_119 : decode cX4_take 119 = .ok (.iload_n 3, 1) := by decide +kernel
theorem dX4_take_120 : decode cX4_take 120 = .ok (.imul, 1) := by decide +kernel
theorem dX4_take_121 : decode cX4_take 121 = .ok (.iload 4, 2) := by decide +kernel
theorem dX4_take_123 : decode cX4_take 123 = .ok (.iadd, 1) := by decide +kernel
theorem dX4_take_124 : decode cX4_take 124 = .ok (.iconst 1, 1) := by decide +kernel
theorem dX4_take_125 : decode cX4_take 125 = .ok (.bastore, 1) := by decide +kernel
theorem dX4_take_126 : decode cX4_take 126 = .ok (.aload_n 0, 1) := by decide +kernel
theorem dX4_take_127 : decode cX4_take 127 = .ok (.dup, 1) := by decide +kernel
theorem dX4_take_128 : decode cX4_take 128 = .ok (.getfield 101, 3) := by decide +kernel
theorem dX4_take_131 : decode cX4_take 131 = .ok (.iconst 1, 1) := by decide +kernel
theorem dX4_take_132 : decode cX4_take 132 = .ok (.iadd, 1) := by decide +kernel
theorem dX4_take_133 : decode cX4_take 133 = .ok (.putfield 101, 3) := by decide +kernel
theorem dX4_take_136 : decode cX4_take 136 = .ok (.aload_n 0, 1) := by decide +kernel
theorem dX4_take_137 : decode cX4_take 137 = .ok (.dup, 1) := by decide +kernel
theorem dX4_take_138 : decode cX4_take 138 = .ok (.getfield 104, 3) := by decide +kernel
theorem dX4_take_141 : decode cX4_take 141 = .ok (.iconst 1, 1) := by decide +kernel
theorem dX4_take_142 : decode cX4_take 142 = .ok (.iadd, 1) := by decide +kernel
theorem dX4_take_143 : decode cX4_take 143 = .ok (.putfield 104, 3) := by decide +kernel
theorem dX4_take_146 : decode cX4_take 146 = .ok (.iinc 4 1, 3) := by decide +kernel
theorem dX4_take_149 : decode cX4_take 149 = .ok (.goto (-122), 3) := by decide +kernel
theorem dX4_take_152 : decode cX4_take 152 = .ok (.iinc 3 1, 3) := by decide +kernel
theorem dX4_take_155 : decode cX4_take 155 = .ok (.goto (-139), 3) := by decide +kernel
theorem dX4_take_158 : decode cX4_take 158 = .ok (.return_, 1) := by decide +kernel
theorem dX4_findCosts_0 : decode cX4_findCosts 0 = .ok (.iconst 0, 1) := by decide +kernel
theorem dX4_findCosts_1 : decode cX4_findCosts 1 = .ok (.istore_n 1, 1) := by decide +kernel
theorem dX4_findCosts_2 : decode cX4_findCosts 2 = .ok (.iload_n 1, 1) := by decide +kernel
theorem dX4_findCosts_3 : decode cX4_findCosts 3 = .ok (.aload_n 0, 1) := by decide +kernel
theorem dX4_findCosts_4 : decode cX4_findCosts 4 = .ok (.getfield 86, 3) := by decide +kernel
theorem dX4_findCosts_7 : decode cX4_findCosts 7 = .ok (.if_icmp .ge 42, 3) := by decide +kernel
theorem dX4_findCosts_10 : decode cX4_findCosts 10 = .ok (.iconst 0, 1) := by decide +kernel
theorem dX4_findCosts_11 : decode cX4_findCosts 11 = .ok (.istore_n 2, 1) := by decide +kernel
theorem dX4_findCosts_12 : decode cX4_findCosts 12 = .ok (.iload_n 2, 1) := by decide +kernel
theorem dX4_findCosts_13 : decode cX4_findCosts 13 = .ok (.aload_n 0, 1) := by decide +kernel
theorem dX4_findCosts_14 : decode cX4_findCosts 14 = .ok (.getfield 86, 3) := by decide +kernel
theorem dX4_findCosts_17 : decode cX4_findCosts 17 = .ok (.if_icmp .ge 26, 3) := by decide +kernel
theorem dX4_findCosts_20 : decode cX4_findCosts 20 = .ok (.aload_n 0, 1) := by decide +kernel
theorem dX4_findCosts_21 : decode cX4_findCosts 21 = .ok (.getfield 46, 3) := by decide +kernel
theorem dX4_findCosts_24 : decode cX4_findCosts 24 = .ok (.bipush 64, 2) := by decide +kernel
theorem dX4_findCosts_26 : decode cX4_findCosts 26 = .ok (.iload_n 1, 1) := by decide +kernel
theorem dX4_findCosts_27 : decode cX4_findCosts 27 = .ok (.imul, 1) := by decide +kernel
theorem dX4_findCosts_28 : decode cX4_findCosts 28 = .ok (.iload_n 2, 1) := by decide +kernel
theorem dX4_findCosts_29 : decode cX4_findCosts 29 = .ok (.iadd, 1) := by decide +kernel
theorem dX4_findCosts_30 : decode cX4_findCosts 30 = .ok (.aload_n 0, 1) := by decide +kernel
theorem dX4_findCosts_31 : decode cX4_findCosts 31 = .ok (.iload_n 1, 1) := by decide +kernel
theorem dX4_findCosts_32 : decode cX4_findCosts 32 = .ok (.iload_n 2, 1) := by decide +kernel
theorem dX4_findCosts_33 : decode cX4_findCosts 33 = .ok (.invokevirtual 134, 3) := by decide +kernel
theorem dX4_findCosts_36 : decode cX4_findCosts 36 = .ok (.lastore, 1) := by decide +kernel
theorem dX4_findCosts_37 : decode cX4_findCosts 37 = .ok (.iinc 2 1, 3) := by decide +kernel
theorem dX4_findCosts_40 : decode cX4_findCosts 40 = .ok (.goto (-28), 3) := by decide +kernel
theorem dX4_findCosts_43 : decode cX4_findCosts 43 = .ok (.iinc 1 1, 3) := by decide +kernel
theorem dX4_findCosts_46 : decode cX4_findCosts 46 = .ok (.goto (-44), 3) := by decide +kernel
theorem dX4_findCosts_49 : decode cX4_findCosts 49 = .ok (.iconst 0, 1) := by decide +kernel
theorem dX4_findCosts_50 : decode cX4_findCosts 50 = .ok (.istore_n 1, 1) := by decide +kernel
theorem dX4_findCosts_51 : decode cX4_findCosts 51 = .ok (.iload_n 1, 1) := by decide +kernel
theorem dX4_findCosts_52 : decode cX4_findCosts 52 = .ok (.aload_n 0, 1) := by decide +kernel
theorem dX4_findCosts_53 : decode cX4_findCosts 53 = .ok (.getfield 86, 3) := by decide +kernel
theorem dX4_findCosts_56 : decode cX4_findCosts 56 = .ok (.if_icmp .ge 180, 3) := by decide +kernel
theorem dX4_findCosts_59 : decode cX4_findCosts 59 = .ok (.aload_n 0, 1) := by decide +kernel
theorem dX4_findCosts_60 : decode cX4_findCosts 60 = .ok (.getfield 33, 3) := by decide +kernel
theorem dX4_findCosts_63 : decode cX4_findCosts 63 = .ok (.iload_n 1, 1) := by decide +kernel
theorem dX4_findCosts_64 : decode cX4_findCosts 64 = .ok (.iaload, 1) := by decide +kernel
theorem dX4_findCosts_65 : decode cX4_findCosts 65 = .ok (.istore_n 2, 1) := by decide +kernel
theorem dX4_findCosts_66 : decode cX4_findCosts 66 = .ok (.iconst 0, 1) := by decide +kernel
theorem dX4_findCosts_67 : decode cX4_findCosts 67 = .ok (.istore_n 3, 1) := by decide +kernel
theorem dX4_findCosts_68 : decode cX4_findCosts 68 = .ok (.iload_n 3, 1) := by decide +kernel
theorem dX4_findCosts_69 : decode cX4_findCosts 69 = .ok (.aload_n 0, 1) := by decide +kernel
theorem dX4_findCosts_70 : decode cX4_findCosts 70 = .ok (.getfield 86, 3) := by decide +kernel
theorem dX4_findCosts_73 : decode cX4_findCosts 73 = .ok (.if_icmp .ge 66, 3) := by decide +kernel
theorem dX4_findCosts_76 : decode cX4_findCosts 76 = .ok (.aload_n 0, 1) := by decide +kernel
theorem dX4_findCosts_77 : decode cX4_findCosts 77 = .ok (.getfield 30, 3) := by decide +kernel
theorem dX4_findCosts_80 : decode cX4_findCosts 80 = .ok (.iload_n 3, 1) := by decide +kernel
theorem dX4_findCosts_81 : decode cX4_findCosts 81 = .ok (.iaload, 1) := by decide +kernel
theorem dX4_findCosts_82 : decode cX4_findCosts 82 = .ok (.iload_n 1, 1) := by decide +kernel
theorem dX4_findCosts_83 : decode cX4_findCosts 83 = .ok (.if_icmp .gt 6, 3) := by decide +kernel
theorem dX4_findCosts_86 : decode cX4_findCosts 86 = .ok (.goto 47, 3) := by decide +kernel
theorem dX4_findCosts_89 : decode cX4_findCosts 89 = .ok (.aload_n 0, 1) := by decide +kernel
theorem dX4_findCosts_90 : decode cX4_findCosts 90 = .ok (.getfield 39, 3) := by decide +kernel
theorem dX4_findCosts_93 : decode cX4_findCosts 93 = .ok (.bipush 64, 2) := by decide +kernel
theorem dX4_findCosts_95 : decode cX4_findCosts 95 = .ok (.iload_n 2, 1) := by decide +kernel
theorem dX4_findCosts_96 : decode cX4_findCosts 96 = .ok (.imul, 1) := by decide +kernel
theorem dX4_findCosts_97 : decode cX4_findCosts 97 = .ok (.iload_n 3, 1) := by decide +kernel
theorem dX4_findCosts_98 : decode cX4_findCosts 98 = .ok (.iadd, 1) := by decide +kernel
theorem dX4_findCosts_99 : decode cX4_findCosts 99 = .ok (.aload_n 0, 1) := by decide +kernel
theorem dX4_findCosts_100 : decode cX4_findCosts 100 = .ok (.getfield 46, 3) := by decide +kernel
theorem dX4_findCosts_103 : decode cX4_findCosts 103 = .ok (.bipush 64, 2) := by decide +kernel
theorem dX4_findCosts_105 : decode cX4_findCosts 105 = .ok (.iload_n 2, 1) := by decide +kernel
theorem dX4_findCosts_106 : decode cX4_findCosts 106 = .ok (.imul, 1) := by decide +kernel
theorem dX4_findCosts_107 : decode cX4_findCosts 107 = .ok (.iload_n 3, 1) := by decide +kernel
theorem dX4_findCosts_108 : decode cX4_findCosts 108 = .ok (.iadd, 1) := by decide +kernel
theorem dX4_findCosts_109 : decode cX4_findCosts 109 = .ok (.laload, 1) := by decide +kernel
theorem dX4_findCosts_110 : decode cX4_findCosts 110 = .ok (.lastore, 1) := by decide +kernel
theorem dX4_findCosts_111 : decode cX4_findCosts 111 = .ok (.aload_n 0, 1) := by decide +kernel
theorem dX4_findCosts_112 : decode cX4_findCosts 112 = .ok (.getfield 39, 3) := by decide +kernel
theorem dX4_findCosts_115 : decode cX4_findCosts 115 = .ok (.bipush 64, 2) := by decide +kernel
theorem dX4_findCosts_117 : decode cX4_findCosts 117 = .ok (.iload_n 3, 1) := by decide +kernel
theorem dX4_findCosts_118 : decode cX4_findCosts 118 = .ok (.imul, 1) := by decide +kernel
theorem dX4_findCosts_119 : decode cX4_findCosts 119 = .ok (.iload_n 2, 1) := by decide +kernel
theorem dX4_findCosts_120 : decode cX4_findCosts 120 = .ok (.iadd, 1) := by decide +kernel
theorem dX4_findCosts_121 : decode cX4_findCosts 121 = .ok (.aload_n 0, 1) := by decide +kernel
theorem dX4_findCosts_122 : decode cX4_findCosts 122 = .ok (.getfield 46, 3) := by decide +kernel
theorem dX4_findCosts_125 : decode cX4_findCosts 125 = .ok (.bipush 64, 2) := by decide +kernel
theorem dX4_findCosts_127 : decode cX4_findCosts 127 = .ok (.iload_n 3, 1) := by decide +kernel
theorem dX4_findCosts_128 : decode cX4_findCosts 128 = .ok (.imul, 1) := by decide +kernel
theorem dX4_findCosts_129 : decode cX4_findCosts 129 = .ok (.iload_n 2, 1) := by decide +kernel
theorem dX4_findCosts_130 : decode cX4_findCosts 130 = .ok (.iadd, 1) := by decide +kernel
theorem dX4_findCosts_131 : decode cX4_findCosts 131 = .ok (.laload, 1) := by decide +kernel
theorem dX4_findCosts_132 : decode cX4_findCosts 132 = .ok (.lastore, 1) := by decide +kernel
theorem dX4_findCosts_133 : decode cX4_findCosts 133 = .ok (.iinc 3 1, 3) := by decide +kernel
theorem dX4_findCosts_136 : decode cX4_findCosts 136 = .ok (.goto (-68), 3) := by decide +kernel
theorem dX4_findCosts_139 : decode cX4_findCosts 139 = .ok (.iconst 0, 1) := by decide +kernel
theorem dX4_findCosts_140 : decode cX4_findCosts 140 = .ok (.istore_n 3, 1) := by decide +kernel
theorem dX4_findCosts_141 : decode cX4_findCosts 141 = .ok (.iload_n 3, 1) := by decide +kernel
theorem dX4_findCosts_142 : decode cX4_findCosts 142 = .ok (.aload_n 0, 1) := by decide +kernel
theorem dX4_findCosts_143 : decode cX4_findCosts 143 = .ok (.getfield 86, 3) := by decide +kernel
theorem dX4_findCosts_146 : decode cX4_findCosts 146 = .ok (.if_icmp .ge 84, 3) := by decide +kernel
theorem dX4_findCosts_149 : decode cX4_findCosts 149 = .ok (.iconst 0, 1) := by decide +kernel
theorem dX4_findCosts_150 : decode cX4_findCosts 150 = .ok (.istore 4, 2) := by decide +kernel
theorem dX4_findCosts_152 : decode cX4_findCosts 152 = .ok (.iload 4, 2) := by decide +kernel
theorem dX4_findCosts_154 : decode cX4_findCosts 154 = .ok (.aload_n 0, 1) := by decide +kernel
theorem dX4_findCosts_155 : decode cX4_findCosts 155 = .ok (.getfield 86, 3) := by decide +kernel
theorem dX4_findCosts_158 : decode cX4_findCosts 158 = .ok (.if_icmp .ge 66, 3) := by decide +kernel
theorem dX4_findCosts_161 : decode cX4_findCosts 161 = .ok (.aload_n 0, 1) := by decide +kernel
theorem dX4_findCosts_162 : decode cX4_findCosts 162 = .ok (.getfield 46, 3) := by decide +kernel
theorem dX4_findCosts_165 : decode cX4_findCosts 165 = .ok (.bipush 64, 2) := by decide +kernel
theorem dX4_findCosts_167 : decode cX4_findCosts 167 = .ok (.iload_n 3, 1) := by decide +kernel
theorem dX4_findCosts_168 : decode cX4_findCosts 168 = .ok (.imul, 1) := by decide +kernel
theorem dX4_findCosts_169 : decode cX4_findCosts 169 = .ok (.iload 4, 2) := by decide +kernel
theorem dX4_findCosts_171 : decode cX4_findCosts 171 = .ok (.iadd, 1) := by decide +kernel
theorem dX4_findCosts_172 : decode cX4_findCosts 172 = .ok (.aload_n 0, 1) := by decide +kernel
theorem dX4_findCosts_173 : decode cX4_findCosts 173 = .ok (.getfield 46, 3) := by decide +kernel
theorem dX4_findCosts_176 : decode cX4_findCosts 176 = .ok (.bipush 64, 2) := by decide +kernel
theorem dX4_findCosts_178 : decode cX4_findCosts 178 = .ok (.iload_n 3, 1) := by decide +kernel
theorem dX4_findCosts_179 : decode cX4_findCosts 179 = .ok (.imul, 1) := by decide +kernel
theorem dX4_findCosts_180 : decode cX4_findCosts 180 = .ok (.iload 4, 2) := by decide +kernel
theorem dX4_findCosts_182 : decode cX4_findCosts 182 = .ok (.iadd, 1) := by decide +kernel
theorem dX4_findCosts_183 : decode cX4_findCosts 183 = .ok (.laload, 1) := by decide +kernel
theorem dX4_findCosts_184 : decode cX4_findCosts 184 = .ok (.ldc2_w 115, 3) := by decide +kernel
theorem dX4_findCosts_187 : decode cX4_findCosts 187 = .ok (.aload_n 0, 1) := by decide +kernel
theorem dX4_findCosts_188 : decode cX4_findCosts 188 = .ok (.getfield 46, 3) := by decide +kernel
theorem dX4_findCosts_191 : decode cX4_findCosts 191 = .ok (.bipush 64, 2) := by decide +kernel
theorem dX4_findCosts_193 : decode cX4_findCosts 193 = .ok (.iload_n 3, 1) := by decide +kernel
theorem dX4_findCosts_194 : decode cX4_findCosts 194 = .ok (.imul, 1) := by decide +kernel
theorem dX4_findCosts_195 : decode cX4_findCosts 195 = .ok (.iload_n 2, 1) := by decide +kernel
theorem dX4_findCosts_196 : decode cX4_findCosts 196 = .ok (.iadd, 1) := by decide +kernel
theorem dX4_findCosts_197 : decode cX4_findCosts 197 = .ok (.laload, 1) := by decide +kernel
theorem dX4_findCosts_198 : decode cX4_findCosts 198 = .ok (.aload_n 0, 1) := by decide +kernel
theorem dX4_findCosts_199 : decode cX4_findCosts 199 = .ok (.getfield 46, 3) := by decide +kernel
theorem dX4_findCosts_202 : decode cX4_findCosts 202 = .ok (.bipush 64, 2) := by decide +kernel
theorem dX4_findCosts_204 : decode cX4_findCosts 204 = .ok (.iload_n 2, 1) := by decide +kernel
theorem dX4_findCosts_205 : decode cX4_findCosts 205 = .ok (.imul, 1) := by decide +kernel
theorem dX4_findCosts_206 : decode cX4_findCosts 206 = .ok (.iload 4, 2) := by decide +kernel
theorem dX4_findCosts_208 : decode cX4_findCosts 208 = .ok (.iadd, 1) := by decide +kernel
theorem dX4_findCosts_209 : decode cX4_findCosts 209 = .ok (.laload, 1) := by decide +kernel
theorem dX4_findCosts_210 : decode cX4_findCosts 210 = .ok (.ladd, 1) := by decide +kernel
theorem dX4_findCosts_211 : decode cX4_findCosts 211 = .ok (.invokestatic 138, 3) := by decide +kernel
theorem dX4_findCosts_214 : decode cX4_findCosts 214 = .ok (.invokestatic 138, 3) := by decide +kernel
theorem dX4_findCosts_217 : decode cX4_findCosts 217 = .ok (.lastore, 1) := by decide +kernel
theorem dX4_findCosts_218 : decode cX4_findCosts 218 = .ok (.iinc 4 1, 3) := by decide +kernel
theorem dX4_findCosts_221 : decode cX4_findCosts 221 = .ok (.goto (-69), 3) := by decide +kernel
theorem dX4_findCosts_224 : decode cX4_findCosts 224 = .ok (.iinc 3 1, 3) := by decide +kernel
theorem dX4_findCosts_227 : decode cX4_findCosts 227 = .ok (.goto (-86), 3) := by decide +kernel
theorem dX4_findCosts_230 : decode cX4_findCosts 230 = .ok (.iinc 1 1, 3) := by decide +kernel
theorem dX4_findCosts_233 : decode cX4_findCosts 233 = .ok (.goto (-182), 3) := by decide +kernel
theorem dX4_findCosts_236 : decode cX4_findCosts 236 = .ok (.return_, 1) := by decide +kernel
theorem dX4_renewed_0 : decode cX4_renewed 0 = .ok (.aload_n 0, 1) := by decide +kernel
theorem dX4_renewed_1 : decode cX4_renewed 1 = .ok (.getfield 97, 3) := by decide +kernel
theorem dX4_renewed_4 : decode cX4_renewed 4 = .ok (.ifCond .ne 5, 3) := by decide +kernel
theorem dX4_renewed_7 : decode cX4_renewed 7 = .ok (.iconst 0, 1) := by decide +kernel
theorem dX4_renewed_8 : decode cX4_renewed 8 = .ok (.ireturn, 1) := by decide +kernel
theorem dX4_renewed_9 : decode cX4_renewed 9 = .ok (.iconst 0, 1) := by decide +kernel
theorem dX4_renewed_10 : decode cX4_renewed 10 = .ok (.istore_n 1, 1) := by decide +kernel
theorem dX4_renewed_11 : decode cX4_renewed 11 = .ok (.iload_n 1, 1) := by decide +kernel
theorem dX4_renewed_12 : decode cX4_renewed 12 = .ok (.aload_n 0, 1) := by decide +kernel
theorem dX4_renewed_13 : decode cX4_renewed 13 = .ok (.getfield 39, 3) := by decide +kernel
theorem dX4_renewed_16 : decode cX4_renewed 16 = .ok (.arraylength, 1) := by decide +kernel
theorem dX4_renewed_17 : decode cX4_renewed 17 = .ok (.if_icmp .ge 21, 3) := by decide +kernel
theorem dX4_renewed_20 : decode cX4_renewed 20 = .ok (.aload_n 0, 1) := by decide +kernel
theorem dX4_renewed_21 : decode cX4_renewed 21 = .ok (.getfield 43, 3) := by decide +kernel
theorem dX4_renewed_24 : decode cX4_renewed 24 = .ok (.iload_n 1, 1) := by decide +kernel
theorem dX4_renewed_25 : decode cX4_renewed 25 = .ok (.aload_n 0, 1) := by decide +kernel
theorem dX4_renewed_26 : decode cX4_renewed 26 = .ok (.getfield 39, 3) := by decide +kernel
theorem dX4_renewed_29 : decode cX4_renewed 29 = .ok (.iload_n 1, 1) := by decide +kernel
theorem dX4_renewed_30 : decode cX4_renewed 30 = .ok (.laload, 1) := by decide +kernel
theorem dX4_renewed_31 : decode cX4_renewed 31 = .ok (.lastore, 1) := by decide +kernel
theorem dX4_renewed_32 : decode cX4_renewed 32 = .ok (.iinc 1 1, 3) := by decide +kernel
theorem dX4_renewed_35 : decode cX4_renewed 35 = .ok (.goto (-24), 3) := by decide +kernel
theorem dX4_renewed_38 : decode cX4_renewed 38 = .ok (.aload_n 0, 1) := by decide +kernel
theorem dX4_renewed_39 : decode cX4_renewed 39 = .ok (.invokevirtual 131, 3) := by decide +kernel
theorem dX4_renewed_42 : decode cX4_renewed 42 = .ok (.iconst 0, 1) := by decide +kernel
theorem dX4_renewed_43 : decode cX4_renewed 43 = .ok (.istore_n 1, 1) := by decide +kernel
theorem dX4_renewed_44 : decode cX4_renewed 44 = .ok (.iconst 0, 1) := by decide +kernel
theorem dX4_renewed_45 : decode cX4_renewed 45 = .ok (.istore_n 2, 1) := by decide +kernel
theorem dX4_renewed_46 : decode cX4_renewed 46 = .ok (.iload_n 2, 1) := by decide +kernel
theorem dX4_renewed_47 : decode cX4_renewed 47 = .ok (.aload_n 0, 1) := by decide +kernel
theorem dX4_renewed_48 : decode cX4_renewed 48 = .ok (.getfield 86, 3) := by decide +kernel
theorem dX4_renewed_51 : decode cX4_renewed 51 = .ok (.if_icmp .ge 73, 3) := by decide +kernel
theorem dX4_renewed_54 : decode cX4_renewed 54 = .ok (.iconst 0, 1) := by decide +kernel
theorem dX4_renewed_55 : decode cX4_renewed 55 = .ok (.istore_n 3, 1) := by decide +kernel
theorem dX4_renewed_56 : decode cX4_renewed 56 = .ok (.iload_n 3, 1) := by decide +kernel
theorem dX4_renewed_57 : decode cX4_renewed 57 = .ok (.aload_n 0, 1) := by decide +kernel
theorem dX4_renewed_58 : decode cX4_renewed 58 = .ok (.getfield 86, 3) := by decide +kernel
theorem dX4_renewed_61 : decode cX4_renewed 61 = .ok (.if_icmp .ge 57, 3) := by decide +kernel
theorem dX4_renewed_64 : decode cX4_renewed 64 = .ok (.iload_n 1, 1) := by decide +kernel
theorem dX4_renewed_65 : decode cX4_renewed 65 = .ok (.aload_n 0, 1) := by decide +kernel
theorem dX4_renewed_66 : decode cX4_renewed 66 = .ok (.getfield 36, 3) := by decide +kernel
theorem dX4_renewed_69 : decode cX4_renewed 69 = .ok (.bipush 64, 2) := by decide +kernel
theorem dX4_renewed_71 : decode cX4_renewed 71 = .ok (.iload_n 2, 1) := by decide +kernel
theorem dX4_renewed_72 : decode cX4_renewed 72 = .ok (.imul, 1) := by decide +kernel
theorem dX4_renewed_73 : decode cX4_renewed 73 = .ok (.iload_n 3, 1) := by decide +kernel
theorem dX4_renewed_74 : decode cX4_renewed 74 = .ok (.iadd, 1) := by decide +kernel
theorem dX4_renewed_75 : decode cX4_renewed 75 = .ok (.baload, 1) := by decide +kernel
theorem dX4_renewed_76 : decode cX4_renewed 76 = .ok (.ifCond .eq 33, 3) := by decide +kernel
theorem dX4_renewed_79 : decode cX4_renewed 79 = .ok (.aload_n 0, 1) := by decide +kernel
theorem dX4_renewed_80 : decode cX4_renewed 80 = .ok (.getfield 39, 3) := by decide +kernel
theorem dX4_renewed_83 : decode cX4_renewed 83 = .ok (.bipush 64, 2) := by decide +kernel
theorem dX4_renewed_85 : decode cX4_renewed 85 = .ok (.iload_n 2, 1) := by decide +kernel
theorem dX4_renewed_86 : decode cX4_renewed 86 = .ok (.imul, 1) := by decide +kernel
theorem dX4_renewed_87 : decode cX4_renewed 87 = .ok (.iload_n 3, 1) := by decide +kernel
theorem dX4_renewed_88 : decode cX4_renewed 88 = .ok (.iadd, 1) := by decide +kernel
theorem dX4_renewed_89 : decode cX4_renewed 89 = .ok (.laload, 1) := by decide +kernel
theorem dX4_renewed_90 : decode cX4_renewed 90 = .ok (.aload_n 0, 1) := by decide +kernel
theorem dX4_renewed_91 : decode cX4_renewed 91 = .ok (.getfield 43, 3) := by decide +kernel
theorem dX4_renewed_94 : decode cX4_renewed 94 = .ok (.bipush 64, 2) := by decide +kernel
theorem dX4_renewed_96 : decode cX4_renewed 96 = .ok (.iload_n 2, 1) := by decide +kernel
theorem dX4_renewed_97 : decode cX4_renewed 97 = .ok (.imul, 1) := by decide +kernel
theorem dX4_renewed_98 : decode cX4_renewed 98 = .ok (.iload_n 3, 1) := by decide +kernel
theorem dX4_renewed_99 : decode cX4_renewed 99 = .ok (.iadd, 1) := by decide +kernel
theorem dX4_renewed_100 : decode cX4_renewed 100 = .ok (.laload, 1) := by decide +kernel
theorem dX4_renewed_101 : decode cX4_renewed 101 = .ok (.lcmp, 1) := by decide +kernel
theorem dX4_renewed_102 : decode cX4_renewed 102 = .ok (.ifCond .eq 7, 3) := by decide +kernel
theorem dX4_renewed_105 : decode cX4_renewed 105 = .ok (.iconst 1, 1) := by decide +kernel
theorem dX4_renewed_106 : decode cX4_renewed 106 = .ok (.goto 4, 3) := by decide +kernel
theorem dX4_renewed_109 : decode cX4_renewed 109 = .ok (.iconst 0, 1) := by decide +kernel
theorem dX4_renewed_110 : decode cX4_renewed 110 = .ok (.iadd, 1) := by decide +kernel
theorem dX4_renewed_111 : decode cX4_renewed 111 = .ok (.istore_n 1, 1) := by decide +kernel
theorem dX4_renewed_112 : decode cX4_renewed 112 = .ok (.iinc 3 1, 3) := by decide +kernel
theorem dX4_renewed_115 : decode cX4_renewed 115 = .ok (.goto (-59), 3) := by decide +kernel
theorem dX4_renewed_118 : decode cX4_renewed 118 = .ok (.iinc 2 1, 3) := by decide +kernel
theorem dX4_renewed_121 : decode cX4_renewed 121 = .ok (.goto (-75), 3) := by decide +kernel
theorem dX4_renewed_124 : decode cX4_renewed 124 = .ok (.iload_n 1, 1) := by decide +kernel
theorem dX4_renewed_125 : decode cX4_renewed 125 = .ok (.ireturn, 1) := by decide +kernel
theorem dX4_isPrepared_0 : decode cX4_isPrepared 0 = .ok (.aload_n 0, 1) := by decide +kernel
theorem dX4_isPrepared_1 : decode cX4_isPrepared 1 = .ok (.iconst 0, 1) := by decide +kernel
theorem dX4_isPrepared_2 : decode cX4_isPrepared 2 = .ok (.putfield 80, 3) := by decide +kernel
theorem dX4_isPrepared_5 : decode cX4_isPrepared 5 = .ok (.aload_n 0, 1) := by decide +kernel
theorem dX4_isPrepared_6 : decode cX4_isPrepared 6 = .ok (.getfield 97, 3) := by decide +kernel
theorem dX4_isPrepared_9 : decode cX4_isPrepared 9 = .ok (.ireturn, 1) := by decide +kernel
theorem dX4_position_0 : decode cX4_position 0 = .ok (.aload_n 0, 1) := by decide +kernel
theorem dX4_position_1 : decode cX4_position 1 = .ok (.iconst 0, 1) := by decide +kernel
theorem dX4_position_2 : decode cX4_position 2 = .ok (.putfield 80, 3) := by decide +kernel
theorem dX4_position_5 : decode cX4_position 5 = .ok (.aload_n 0, 1) := by decide +kernel
theorem dX4_position_6 : decode cX4_position 6 = .ok (.getfield 97, 3) := by decide +kernel
theorem dX4_position_9 : decode cX4_position 9 = .ok (.ifCond .ne 9, 3) := by decide +kernel
theorem dX4_position_12 : decode cX4_position 12 = .ok (.aload_n 0, 1) := by decide +kernel
theorem dX4_position_13 : decode cX4_position 13 = .ok (.iconst 1, 1) := by decide +kernel
theorem dX4_position_14 : decode cX4_position 14 = .ok (.invokevirtual 89, 3) := by decide +kernel
theorem dX4_position_17 : decode cX4_position 17 = .ok (.ireturn, 1) := by decide +kernel
theorem dX4_position_18 : decode cX4_position 18 = .ok (.aload_n 0, 1) := by decide +kernel
theorem dX4_position_19 : decode cX4_position 19 = .ok (.iload_n 1, 1) := by decide +kernel
theorem dX4_position_20 : decode cX4_position 20 = .ok (.invokevirtual 117, 3) := by decide +kernel
theorem dX4_position_23 : decode cX4_position 23 = .ok (.ifCond .eq 12, 3) := by decide +kernel
theorem dX4_position_26 : decode cX4_position 26 = .ok (.aload_n 0, 1) := by decide +kernel
theorem dX4_position_27 : decode cX4_position 27 = .ok (.getfield 30, 3) := by decide +kernel
theorem dX4_position_30 : decode cX4_position 30 = .ok (.iload_n 1, 1) := by decide +kernel
theorem dX4_position_31 : decode cX4_position 31 = .ok (.iaload, 1) := by decide +kernel
theorem dX4_position_32 : decode cX4_position 32 = .ok (.goto 8, 3) := by decide +kernel
theorem dX4_position_35 : decode cX4_position 35 = .ok (.aload_n 0, 1) := by decide +kernel
theorem dX4_position_36 : decode cX4_position 36 = .ok (.iconst 2, 1) := by decide +kernel
theorem dX4_position_37 : decode cX4_position 37 = .ok (.invokevirtual 89, 3) := by decide +kernel
theorem dX4_position_40 : decode cX4_position 40 = .ok (.ireturn, 1) := by decide +kernel
theorem dX4_arcCount_0 : decode cX4_arcCount 0 = .ok (.aload_n 0, 1) := by decide +kernel
theorem dX4_arcCount_1 : decode cX4_arcCount 1 = .ok (.iconst 0, 1) := by decide +kernel
theorem dX4_arcCount_2 : decode cX4_arcCount 2 = .ok (.putfield 80, 3) := by decide +kernel
theorem dX4_arcCount_5 : decode cX4_arcCount 5 = .ok (.aload_n 0, 1) := by decide +kernel
theorem dX4_arcCount_6 : decode cX4_arcCount 6 = .ok (.getfield 101, 3) := by decide +kernel
theorem dX4_arcCount_9 : decode cX4_arcCount 9 = .ok (.ireturn, 1) := by decide +kernel
theorem dX4_hasArc_0 : decode cX4_hasArc 0 = .ok (.aload_n 0, 1) := by decide +kernel
theorem dX4_hasArc_1 : decode cX4_hasArc 1 = .ok (.iconst 0, 1) := by decide +kernel
theorem dX4_hasArc_2 : decode cX4_hasArc 2 = .ok (.putfield 80, 3) := by decide +kernel
theorem dX4_hasArc_5 : decode cX4_hasArc 5 = .ok (.aload_n 0, 1) := by decide +kernel
theorem dX4_hasArc_6 : decode cX4_hasArc 6 = .ok (.getfield 97, 3) := by decide +kernel
theorem dX4_hasArc_9 : decode cX4_hasArc 9 = .ok (.ifCond .ne 17, 3) := by decide +kernel
theorem dX4_hasArc_12 : decode cX4_hasArc 12 = .ok (.aload_n 0, 1) := by decide +kernel
theorem dX4_hasArc_13 : decode cX4_hasArc 13 = .ok (.iconst 1, 1) := by decide +kernel
theorem dX4_hasArc_14 : decode cX4_hasArc 14 = .ok (.invokevirtual 89, 3) := by decide +kernel
theorem dX4_hasArc_17 : decode cX4_hasArc 17 = .ok (.ifCond .eq 7, 3) := by decide +kernel
theorem dX4_hasArc_20 : decode cX4_hasArc 20 = .ok (.iconst 1, 1) := by decide +kernel
theorem dX4_hasArc_21 : decode cX4_hasArc 21 = .ok (.goto 4, 3) := by decide +kernel
theorem dX4_hasArc_24 : decode cX4_hasArc 24 = .ok (.iconst 0, 1) := by decide +kernel
theorem dX4_hasArc_25 : decode cX4_hasArc 25 = .ok (.ireturn, 1) := by decide +kernel
theorem dX4_hasArc_26 : decode cX4_hasArc 26 = .ok (.aload_n 0, 1) := by decide +kernel
theorem dX4_hasArc_27 : decode cX4_hasArc 27 = .ok (.iload_n 1, 1) := by decide +kernel
theorem dX4_hasArc_28 : decode cX4_hasArc 28 = .ok (.invokevirtual 117, 3) := by decide +kernel
theorem dX4_hasArc_31 : decode cX4_hasArc 31 = .ok (.ifCond .eq 11, 3) := by decide +kernel
theorem dX4_hasArc_34 : decode cX4_hasArc 34 = .ok (.aload_n 0, 1) := by decide +kernel
theorem dX4_hasArc_35 : decode cX4_hasArc 35 = .ok (.iload_n 2, 1) := by decide +kernel
theorem dX4_hasArc_36 : decode cX4_hasArc 36 = .ok (.invokevirtual 117, 3) := by decide +kernel
theorem dX4_hasArc_39 : decode cX4_hasArc 39 = .ok (.ifCond .ne 17, 3) := by decide +kernel
theorem dX4_hasArc_42 : decode cX4_hasArc 42 = .ok (.aload_n 0, 1) := by decide +kernel
theorem dX4_hasArc_43 : decode cX4_hasArc 43 = .ok (.iconst 2, 1) := by decide +kernel
theorem dX4_hasArc_44 : decode cX4_hasArc 44 = .ok (.invokevirtual 89, 3) := by decide +kernel
theorem dX4_hasArc_47 : decode cX4_hasArc 47 = .ok (.ifCond .eq 7, 3) := by decide +kernel
theorem dX4_hasArc_50 : decode cX4_hasArc 50 = .ok (.iconst 1, 1) := by decide +kernel
theorem dX4_hasArc_51 : decode cX4_hasArc 51 = .ok (.goto 4, 3) := by decide +kernel
theorem dX4_hasArc_54 : decode cX4_hasArc 54 = .ok (.iconst 0, 1) := by decide +kernel
theorem dX4_hasArc_55 : decode cX4_hasArc 55 = .ok (.ireturn, 1) := by decide +kernel
theorem dX4_hasArc_56 : decode cX4_hasArc 56 = .ok (.aload_n 0, 1) := by decide +kernel
theorem dX4_hasArc_57 : decode cX4_hasArc 57 = .ok (.getfield 36, 3) := by decide +kernel
theorem dX4_hasArc_60 : decode cX4_hasArc 60 = .ok (.bipush 64, 2) := by decide +kernel
theorem dX4_hasArc_62 : decode cX4_hasArc 62 = .ok (.iload_n 1, 1) := by decide +kernel
theorem dX4_hasArc_63 : decode cX4_hasArc 63 = .ok (.imul, 1) := by decide +kernel
theorem dX4_hasArc_64 : decode cX4_hasArc 64 = .ok (.iload_n 2, 1) := by decide +kernel
theorem dX4_hasArc_65 : decode cX4_hasArc 65 = .ok (.iadd, 1) := by decide +kernel
theorem dX4_hasArc_66 : decode cX4_hasArc 66 = .ok (.baload, 1) := by decide +kernel
theorem dX4_hasArc_67 : decode cX4_hasArc 67 = .ok (.ireturn, 1) := by decide +kernel
theorem dX4_costOf_0 : decode cX4_costOf 0 = .ok (.aload_n 0, 1) := by decide +kernel
theorem dX4_costOf_1 : decode cX4_costOf 1 = .ok (.getfield 39, 3) := by decide +kernel
theorem dX4_costOf_4 : decode cX4_costOf 4 = .ok (.bipush 64, 2) := by decide +kernel
theorem dX4_costOf_6 : decode cX4_costOf 6 = .ok (.iload_n 1, 1) := by decide +kernel
theorem dX4_costOf_7 : decode cX4_costOf 7 = .ok (.imul, 1) := by decide +kernel
theorem dX4_costOf_8 : decode cX4_costOf 8 = .ok (.iload_n 2, 1) := by decide +kernel
theorem dX4_costOf_9 : decode cX4_costOf 9 = .ok (.iadd, 1) := by decide +kernel
theorem dX4_costOf_10 : decode cX4_costOf 10 = .ok (.laload, 1) := by decide +kernel
theorem dX4_costOf_11 : decode cX4_costOf 11 = .ok (.ldc2_w 115, 3) := by decide +kernel
theorem dX4_costOf_14 : decode cX4_costOf 14 = .ok (.lcmp, 1) := by decide +kernel
theorem dX4_costOf_15 : decode cX4_costOf 15 = .ok (.ifCond .ge 18, 3) := by decide +kernel
theorem dX4_costOf_18 : decode cX4_costOf 18 = .ok (.aload_n 0, 1) := by decide +kernel
theorem dX4_costOf_19 : decode cX4_costOf 19 = .ok (.getfield 39, 3) := by decide +kernel
theorem dX4_costOf_22 : decode cX4_costOf 22 = .ok (.bipush 64, 2) := by decide +kernel
theorem dX4_costOf_24 : decode cX4_costOf 24 = .ok (.iload_n 1, 1) := by decide +kernel
theorem dX4_costOf_25 : decode cX4_costOf 25 = .ok (.imul, 1) := by decide +kernel
theorem dX4_costOf_26 : decode cX4_costOf 26 = .ok (.iload_n 2, 1) := by decide +kernel
theorem dX4_costOf_27 : decode cX4_costOf 27 = .ok (.iadd, 1) := by decide +kernel
theorem dX4_costOf_28 : decode cX4_costOf 28 = .ok (.laload, 1) := by decide +kernel
theorem dX4_costOf_29 : decode cX4_costOf 29 = .ok (.l2i, 1) := by decide +kernel
theorem dX4_costOf_30 : decode cX4_costOf 30 = .ok (.goto 4, 3) := by decide +kernel
theorem dX4_costOf_33 : decode cX4_costOf 33 = .ok (.iconst (-1), 1) := by decide +kernel
theorem dX4_costOf_34 : decode cX4_costOf 34 = .ok (.ireturn, 1) := by decide +kernel
theorem dX4_arcCost_0 : decode cX4_arcCost 0 = .ok (.aload_n 0, 1) := by decide +kernel
theorem dX4_arcCost_1 : decode cX4_arcCost 1 = .ok (.iconst 0, 1) := by decide +kernel
theorem dX4_arcCost_2 : decode cX4_arcCost 2 = .ok (.putfield 80, 3) := by decide +kernel
theorem dX4_arcCost_5 : decode cX4_arcCost 5 = .ok (.aload_n 0, 1) := by decide +kernel
theorem dX4_arcCost_6 : decode cX4_arcCost 6 = .ok (.getfield 97, 3) := by decide +kernel
theorem dX4_arcCost_9 : decode cX4_arcCost 9 = .ok (.ifCond .ne 9, 3) := by decide +kernel
theorem dX4_arcCost_12 : decode cX4_arcCost 12 = .ok (.aload_n 0, 1) := by decide +kernel
theorem dX4_arcCost_13 : decode cX4_arcCost 13 = .ok (.iconst 1, 1) := by decide +kernel
theorem dX4_arcCost_14 : decode cX4_arcCost 14 = .ok (.invokevirtual 89, 3) := by decide +kernel
theorem dX4_arcCost_17 : decode cX4_arcCost 17 = .ok (.ireturn, 1) := by decide +kernel
theorem dX4_arcCost_18 : decode cX4_arcCost 18 = .ok (.aload_n 0, 1) := by decide +kernel
theorem dX4_arcCost_19 : decode cX4_arcCost 19 = .ok (.iload_n 1, 1) := by decide +kernel
theorem dX4_arcCost_20 : decode cX4_arcCost 20 = .ok (.invokevirtual 117, 3) := by decide +kernel
theorem dX4_arcCost_23 : decode cX4_arcCost 23 = .ok (.ifCond .eq 11, 3) := by decide +kernel
theorem dX4_arcCost_26 : decode cX4_arcCost 26 = .ok (.aload_n 0, 1) := by decide +kernel
theorem dX4_arcCost_27 : decode cX4_arcCost 27 = .ok (.iload_n 2, 1) := by decide +kernel
theorem dX4_arcCost_28 : decode cX4_arcCost 28 = .ok (.invokevirtual 117, 3) := by decide +kernel
theorem dX4_arcCost_31 : decode cX4_arcCost 31 = .ok (.ifCond .ne 9, 3) := by decide +kernel
theorem dX4_arcCost_34 : decode cX4_arcCost 34 = .ok (.aload_n 0, 1) := by decide +kernel
theorem dX4_arcCost_35 : decode cX4_arcCost 35 = .ok (.iconst 2, 1) := by decide +kernel
theorem dX4_arcCost_36 : decode cX4_arcCost 36 = .ok (.invokevirtual 89, 3) := by decide +kernel
theorem dX4_arcCost_39 : decode cX4_arcCost 39 = .ok (.ireturn, 1) := by decide +kernel
theorem dX4_arcCost_40 : decode cX4_arcCost 40 = .ok (.aload_n 0, 1) := by decide +kernel
theorem dX4_arcCost_41 : decode cX4_arcCost 41 = .ok (.getfield 36, 3) := by decide +kernel
theorem dX4_arcCost_44 : decode cX4_arcCost 44 = .ok (.bipush 64, 2) := by decide +kernel
theorem dX4_arcCost_46 : decode cX4_arcCost 46 = .ok (.iload_n 1, 1) := by decide +kernel
theorem dX4_arcCost_47 : decode cX4_arcCost 47 = .ok (.imul, 1) := by decide +kernel
theorem dX4_arcCost_48 : decode cX4_arcCost 48 = .ok (.iload_n 2, 1) := by decide +kernel
theorem dX4_arcCost_49 : decode cX4_arcCost 49 = .ok (.iadd, 1) := by decide +kernel
theorem dX4_arcCost_50 : decode cX4_arcCost 50 = .ok (.baload, 1) := by decide +kernel
theorem dX4_arcCost_51 : decode cX4_arcCost 51 = .ok (.ifCond .eq 12, 3) := by decide +kernel
theorem dX4_arcCost_54 : decode cX4_arcCost 54 = .ok (.aload_n 0, 1) := by decide +kernel
theorem dX4_arcCost_55 : decode cX4_arcCost 55 = .ok (.iload_n 1, 1) := by decide +kernel
theorem dX4_arcCost_56 : decode cX4_arcCost 56 = .ok (.iload_n 2, 1) := by decide +kernel
theorem dX4_arcCost_57 : decode cX4_arcCost 57 = .ok (.invokevirtual 144, 3) := by decide +kernel
theorem dX4_arcCost_60 : decode cX4_arcCost 60 = .ok (.goto 8, 3) := by decide +kernel
theorem dX4_arcCost_63 : decode cX4_arcCost 63 = .ok (.aload_n 0, 1) := by decide +kernel
theorem dX4_arcCost_64 : decode cX4_arcCost 64 = .ok (.iconst 3, 1) := by decide +kernel
theorem dX4_arcCost_65 : decode cX4_arcCost 65 = .ok (.invokevirtual 89, 3) := by decide +kernel
theorem dX4_arcCost_68 : decode cX4_arcCost 68 = .ok (.ireturn, 1) := by decide +kernel
theorem dX4_findBehind_0 : decode cX4_findBehind 0 = .ok (.iconst 0, 1) := by decide +kernel
theorem dX4_findBehind_1 : decode cX4_findBehind 1 = .ok (.istore_n 2, 1) := by decide +kernel
theorem dX4_findBehind_2 : decode cX4_findBehind 2 = .ok (.iload_n 2, 1) := by decide +kernel
theorem dX4_findBehind_3 : decode cX4_findBehind 3 = .ok (.aload_n 0, 1) := by decide +kernel
theorem dX4_findBehind_4 : decode cX4_findBehind 4 = .ok (.getfield 86, 3) := by decide +kernel
theorem dX4_findBehind_7 : decode cX4_findBehind 7 = .ok (.if_icmp .ge 54, 3) := by decide +kernel
theorem dX4_findBehind_10 : decode cX4_findBehind 10 = .ok (.aload_n 0, 1) := by decide +kernel
theorem dX4_findBehind_11 : decode cX4_findBehind 11 = .ok (.getfield 74, 3) := by decide +kernel
theorem dX4_findBehind_14 : decode cX4_findBehind 14 = .ok (.iload_n 2, 1) := by decide +kernel
theorem dX4_findBehind_15 : decode cX4_findBehind 15 = .ok (.aload_n 0, 1) := by decide +kernel
theorem dX4_findBehind_16 : decode cX4_findBehind 16 = .ok (.getfield 19, 3) := by decide +kernel
theorem dX4_findBehind_19 : decode cX4_findBehind 19 = .ok (.iload_n 2, 1) := by decide +kernel
theorem dX4_findBehind_20 : decode cX4_findBehind 20 = .ok (.baload, 1) := by decide +kernel
theorem dX4_findBehind_21 : decode cX4_findBehind 21 = .ok (.ifCond .eq 23, 3) := by decide +kernel
theorem dX4_findBehind_24 : decode cX4_findBehind 24 = .ok (.aload_n 0, 1) := by decide +kernel
theorem dX4_findBehind_25 : decode cX4_findBehind 25 = .ok (.getfield 13, 3) := by decide +kernel
theorem dX4_findBehind_28 : decode cX4_findBehind 28 = .ok (.iload_n 2, 1) := by decide +kernel
theorem dX4_findBehind_29 : decode cX4_findBehind 29 = .ok (.iaload, 1) := by decide +kernel
theorem dX4_findBehind_30 : decode cX4_findBehind 30 = .ok (.iload_n 1, 1) := by decide +kernel
theorem dX4_findBehind_31 : decode cX4_findBehind 31 = .ok (.if_icmp .ne 13, 3) := by decide +kernel
theorem dX4_findBehind_34 : decode cX4_findBehind 34 = .ok (.aload_n 0, 1) := by decide +kernel
theorem dX4_findBehind_35 : decode cX4_findBehind 35 = .ok (.getfield 16, 3) := by decide +kernel
theorem dX4_findBehind_38 : decode cX4_findBehind 38 = .ok (.iload_n 2, 1) := by decide +kernel
theorem dX4_findBehind_39 : decode cX4_findBehind 39 = .ok (.iaload, 1) := by decide +kernel
theorem dX4_findBehind_40 : decode cX4_findBehind 40 = .ok (.i2l, 1) := by decide +kernel
theorem dX4_findBehind_41 : decode cX4_findBehind 41 = .ok (.goto 6, 3) := by decide +kernel
theorem dX4_findBehind_44 : decode cX4_findBehind 44 = .ok (.ldc2_w 115, 3) := by decide +kernel
theorem dX4_findBehind_47 : decode cX4_findBehind 47 = .ok (.lastore, 1) := by decide +kernel
theorem dX4_findBehind_48 : decode cX4_findBehind 48 = .ok (.aload_n 0, 1) := by decide +kernel
theorem dX4_findBehind_49 : decode cX4_findBehind 49 = .ok (.getfield 77, 3) := by decide +kernel
theorem dX4_findBehind_52 : decode cX4_findBehind 52 = .ok (.iload_n 2, 1) := by decide +kernel
theorem dX4_findBehind_53 : decode cX4_findBehind 53 = .ok (.iconst 1, 1) := by decide +kernel
theorem dX4_findBehind_54 : decode cX4_findBehind 54 = .ok (.iastore, 1) := by decide +kernel
theorem dX4_findBehind_55 : decode cX4_findBehind 55 = .ok (.iinc 2 1, 3) := by decide +kernel
theorem dX4_findBehind_58 : decode cX4_findBehind 58 = .ok (.goto (-56), 3) := by decide +kernel
theorem dX4_findBehind_61 : decode cX4_findBehind 61 = .ok (.iconst 1, 1) := by decide +kernel
theorem dX4_findBehind_62 : decode cX4_findBehind 62 = .ok (.istore_n 2, 1) := by decide +kernel
theorem dX4_findBehind_63 : decode cX4_findBehind 63 = .ok (.iload_n 2, 1) := by decide +kernel
theorem dX4_findBehind_64 : decode cX4_findBehind 64 = .ok (.ifCond .eq 62, 3) := by decide +kernel
theorem dX4_findBehind_67 : decode cX4_findBehind 67 = .ok (.iconst 0, 1) := by decide +kernel
theorem dX4_findBehind_68 : decode cX4_findBehind 68 = .ok (.istore_n 2, 1) := by decide +kernel
theorem dX4_findBehind_69 : decode cX4_findBehind 69 = .ok (.iconst 0, 1) := by decide +kernel
theorem dX4_findBehind_70 : decode cX4_findBehind 70 = .ok (.istore_n 3, 1) := by decide +kernel
theorem dX4_findBehind_71 : decode cX4_findBehind 71 = .ok (.iload_n 3, 1) := by decide +kernel
theorem dX4_findBehind_72 : decode cX4_findBehind 72 = .ok (.aload_n 0, 1) := by decide +kernel
theorem dX4_findBehind_73 : decode cX4_findBehind 73 = .ok (.getfield 86, 3) := by decide +kernel
theorem dX4_findBehind_76 : decode cX4_findBehind 76 = .ok (.if_icmp .ge 47, 3) := by decide +kernel
theorem dX4_findBehind_79 : decode cX4_findBehind 79 = .ok (.iconst 0, 1) := by decide +kernel
theorem dX4_findBehind_80 : decode cX4_findBehind 80 = .ok (.istore 4, 2) := by decide +kernel
theorem dX4_findBehind_82 : decode cX4_findBehind 82 = .ok (.iload 4, 2) := by decide +kernel
theorem dX4_findBehind_84 : decode cX4_findBehind 84 = .ok (.aload_n 0, 1) := by decide +kernel
theorem dX4_findBehind_85 : decode cX4_findBehind 85 = .ok (.getfield 86, 3) := by decide +kernel
theorem dX4_findBehind_88 : decode cX4_findBehind 88 = .ok (.if_icmp .ge 29, 3) := by decide +kernel
theorem dX4_findBehind_91 : decode cX4_findBehind 91 = .ok (.aload_n 0, 1) := by decide +kernel
theorem dX4_findBehind_92 : decode cX4_findBehind 92 = .ok (.iload_n 3, 1) := by decide +kernel
theorem dX4_findBehind_93 : decode cX4_findBehind 93 = .ok (.iload 4, 2) := by decide +kernel
theorem dX4_findBehind_95 : decode cX4_findBehind 95 = .ok (.invokevirtual 147, 3) := by decide +kernel
theorem dX4_findBehind_98 : decode cX4_findBehind 98 = .ok (.ifCond .ne 7, 3) := by decide +kernel
theorem dX4_findBehind_101 : decode cX4_findBehind 101 = .ok (.iload_n 2, 1) := by decide +kernel
theorem dX4_findBehind_102 : decode cX4_findBehind 102 = .ok (.ifCond .eq 7, 3) := by decide +kernel
theorem dX4_findBehind_105 : decode cX4_findBehind 105 = .ok (.iconst 1, 1) := by decide +kernel
theorem dX4_findBehind_106 : decode cX4_findBehind 106 = .ok (.goto 4, 3) := by decide +kernel
theorem dX4_findBehind_109 : decode cX4_findBehind 109 = .ok (.iconst 0, 1) := by decide +kernel
theorem dX4_findBehind_110 : decode cX4_findBehind 110 = .ok (.istore_n 2, 1) := by decide +kernel
theorem dX4_findBehind_111 : decode cX4_findBehind 111 = .ok (.iinc 4 1, 3) := by decide +kernel
theorem dX4_findBehind_114 : decode cX4_findBehind 114 = .ok (.goto (-32), 3) := by decide +kernel
theorem dX4_findBehind_117 : decode cX4_findBehind 117 = .ok (.iinc 3 1, 3) := by decide +kernel
theorem dX4_findBehind_120 : decode cX4_findBehind 120 = .ok (.goto (-49), 3) := by decide +kernel
theorem dX4_findBehind_123 : decode cX4_findBehind 123 = .ok (.goto (-60), 3) := by decide +kernel
theorem dX4_findBehind_126 : decode cX4_findBehind 126 = .ok (.return_, 1) := by decide +kernel
theorem dX4_improves_0 : decode cX4_improves 0 = .ok (.aload_n 0, 1) := by decide +kernel
theorem dX4_improves_1 : decode cX4_improves 1 = .ok (.iload_n 1, 1) := by decide +kernel
theorem dX4_improves_2 : decode cX4_improves 2 = .ok (.iload_n 2, 1) := by decide +kernel
theorem dX4_improves_3 : decode cX4_improves 3 = .ok (.invokevirtual 134, 3) := by decide +kernel
theorem dX4_improves_6 : decode cX4_improves 6 = .ok (.ldc2_w 115, 3) := by decide +kernel
theorem dX4_improves_9 : decode cX4_improves 9 = .ok (.lcmp, 1) := by decide +kernel
theorem dX4_improves_10 : decode cX4_improves 10 = .ok (.ifCond .eq 16, 3) := by decide +kernel
theorem dX4_improves_13 : decode cX4_improves 13 = .ok (.aload_n 0, 1) := by decide +kernel
theorem dX4_improves_14 : decode cX4_improves 14 = .ok (.getfield 74, 3) := by decide +kernel
theorem dX4_improves_17 : decode cX4_improves 17 = .ok (.iload_n 2, 1) := by decide +kernel
theorem dX4_improves_18 : decode cX4_improves 18 = .ok (.laload, 1) := by decide +kernel
theorem dX4_improves_19 : decode cX4_improves 19 = .ok (.ldc2_w 115, 3) := by decide +kernel
theorem dX4_improves_22 : decode cX4_improves 22 = .ok (.lcmp, 1) := by decide +kernel
theorem dX4_improves_23 : decode cX4_improves 23 = .ok (.ifCond .ne 5, 3) := by decide +kernel
theorem dX4_improves_26 : decode cX4_improves 26 = .ok (.iconst 0, 1) := by decide +kernel
theorem dX4_improves_27 : decode cX4_improves 27 = .ok (.ireturn, 1) := by decide +kernel
theorem dX4_improves_28 : decode cX4_improves 28 = .ok (.aload_n 0, 1) := by decide +kernel
theorem dX4_improves_29 : decode cX4_improves 29 = .ok (.getfield 16, 3) := by decide +kernel
theorem dX4_improves_32 : decode cX4_improves 32 = .ok (.iload_n 1, 1) := by decide +kernel
theorem dX4_improves_33 : decode cX4_improves 33 = .ok (.iaload, 1) := by decide +kernel
theorem dX4_improves_34 : decode cX4_improves 34 = .ok (.aload_n 0, 1) := by decide +kernel
theorem dX4_improves_35 : decode cX4_improves 35 = .ok (.iload_n 1, 1) := by decide +kernel
theorem dX4_improves_36 : decode cX4_improves 36 = .ok (.iload_n 2, 1) := by decide +kernel
theorem dX4_improves_37 : decode cX4_improves 37 = .ok (.invokevirtual 111, 3) := by decide +kernel
theorem dX4_improves_40 : decode cX4_improves 40 = .ok (.iadd, 1) := by decide +kernel
theorem dX4_improves_41 : decode cX4_improves 41 = .ok (.i2l, 1) := by decide +kernel
theorem dX4_improves_42 : decode cX4_improves 42 = .ok (.aload_n 0, 1) := by decide +kernel
theorem dX4_improves_43 : decode cX4_improves 43 = .ok (.getfield 74, 3) := by decide +kernel
theorem dX4_improves_46 : decode cX4_improves 46 = .ok (.iload_n 2, 1) := by decide +kernel
theorem dX4_improves_47 : decode cX4_improves 47 = .ok (.laload, 1) := by decide +kernel
theorem dX4_improves_48 : decode cX4_improves 48 = .ok (.ladd, 1) := by decide +kernel
theorem dX4_improves_49 : decode cX4_improves 49 = .ok (.lstore_n 3, 1) := by decide +kernel
theorem dX4_improves_50 : decode cX4_improves 50 = .ok (.lload_n 3, 1) := by decide +kernel
theorem dX4_improves_51 : decode cX4_improves 51 = .ok (.aload_n 0, 1) := by decide +kernel
theorem dX4_improves_52 : decode cX4_improves 52 = .ok (.getfield 74, 3) := by decide +kernel
theorem dX4_improves_55 : decode cX4_improves 55 = .ok (.iload_n 1, 1) := by decide +kernel
theorem dX4_improves_56 : decode cX4_improves 56 = .ok (.laload, 1) := by decide +kernel
theorem dX4_improves_57 : decode cX4_improves 57 = .ok (.lcmp, 1) := by decide +kernel
theorem dX4_improves_58 : decode cX4_improves 58 = .ok (.ifCond .gt 31, 3) := by decide +kernel
theorem dX4_improves_61 : decode cX4_improves 61 = .ok (.lload_n 3, 1) := by decide +kernel
theorem dX4_improves_62 : decode cX4_improves 62 = .ok (.aload_n 0, 1) := by decide +kernel
theorem dX4_improves_63 : decode cX4_improves 63 = .ok (.getfield 74, 3) := by decide +kernel
theorem dX4_improves_66 : decode cX4_improves 66 = .ok (.iload_n 1, 1) := by decide +kernel
theorem dX4_improves_67 : decode cX4_improves 67 = .ok (.laload, 1) := by decide +kernel
theorem dX4_improves_68 : decode cX4_improves 68 = .ok (.lcmp, 1) := by decide +kernel
theorem dX4_improves_69 : decode cX4_improves 69 = .ok (.ifCond .ne 22, 3) := by decide +kernel
theorem dX4_improves_72 : decode cX4_improves 72 = .ok (.aload_n 0, 1) := by decide +kernel
theorem dX4_improves_73 : decode cX4_improves 73 = .ok (.getfield 77, 3) := by decide +kernel
theorem dX4_improves_76 : decode cX4_improves 76 = .ok (.iload_n 2, 1) := by decide +kernel
theorem dX4_improves_77 : decode cX4_improves 77 = .ok (.iaload, 1) := by decide +kernel
theorem dX4_improves_78 : decode cX4_improves 78 = .ok (.iconst 1, 1) := by decide +kernel
theorem dX4_improves_79 : decode cX4_improves 79 = .ok (.iadd, 1) := by decide +kernel
theorem dX4_improves_80 : decode cX4_improves 80 = .ok (.aload_n 0, 1) := by decide +kernel
theorem dX4_improves_81 : decode cX4_improves 81 = .ok (.getfield 77, 3) := by decide +kernel
theorem dX4_improves_84 : decode cX4_improves 84 = .ok (.iload_n 1, 1) := by decide +kernel
theorem dX4_improves_85 : decode cX4_improves 85 = .ok (.iaload, 1) := by decide +kernel
theorem dX4_improves_86 : decode cX4_improves 86 = .ok (.if_icmp .lt 5, 3) := by decide +kernel
theorem dX4_improves_89 : decode cX4_improves 89 = .ok (.iconst 0, 1) := by decide +kernel
theorem dX4_improves_90 : decode cX4_improves 90 = .ok (.ireturn, 1) := by decide +kernel
theorem dX4_improves_91 : decode cX4_improves 91 = .ok (.aload_n 0, 1) := by decide +kernel
theorem dX4_improves_92 : decode cX4_improves 92 = .ok (.getfield 74, 3) := by decide +kernel
theorem dX4_improves_95 : decode cX4_improves 95 = .ok (.iload_n 1, 1) := by decide +kernel
theorem dX4_improves_96 : decode cX4_improves 96 = .ok (.lload_n 3, 1) := by decide +kernel
theorem dX4_improves_97 : decode cX4_improves 97 = .ok (.lastore, 1) := by decide +kernel
theorem dX4_improves_98 : decode cX4_improves 98 = .ok (.aload_n 0, 1) := by decide +kernel
theorem dX4_improves_99 : decode cX4_improves 99 = .ok (.getfield 77, 3) := by decide +kernel
theorem dX4_improves_102 : decode cX4_improves 102 = .ok (.iload_n 1, 1) := by decide +kernel
theorem dX4_improves_103 : decode cX4_improves 103 = .ok (.aload_n 0, 1) := by decide +kernel
theorem dX4_improves_104 : decode cX4_improves 104 = .ok (.getfield 77, 3) := by decide +kernel
theorem dX4_improves_107 : decode cX4_improves 107 = .ok (.iload_n 2, 1) := by decide +kernel
theorem dX4_improves_108 : decode cX4_improves 108 = .ok (.iaload, 1) := by decide +kernel
theorem dX4_improves_109 : decode cX4_improves 109 = .ok (.iconst 1, 1) := by decide +kernel
theorem dX4_improves_110 : decode cX4_improves 110 = .ok (.iadd, 1) := by decide +kernel
theorem dX4_improves_111 : decode cX4_improves 111 = .ok (.iastore, 1) := by decide +kernel
theorem dX4_improves_112 : decode cX4_improves 112 = .ok (.iconst 1, 1) := by decide +kernel
theorem dX4_improves_113 : decode cX4_improves 113 = .ok (.ireturn, 1) := by decide +kernel
theorem dX4_firstRoad_0 : decode cX4_firstRoad 0 = .ok (.iconst (-1), 1) := by decide +kernel
theorem dX4_firstRoad_1 : decode cX4_firstRoad 1 = .ok (.istore_n 2, 1) := by decide +kernel
theorem dX4_firstRoad_2 : decode cX4_firstRoad 2 = .ok (.iconst 0, 1) := by decide +kernel
theorem dX4_firstRoad_3 : decode cX4_firstRoad 3 = .ok (.istore_n 3, 1) := by decide +kernel
theorem dX4_firstRoad_4 : decode cX4_firstRoad 4 = .ok (.iload_n 3, 1) := by decide +kernel
theorem dX4_firstRoad_5 : decode cX4_firstRoad 5 = .ok (.aload_n 0, 1) := by decide +kernel
theorem dX4_firstRoad_6 : decode cX4_firstRoad 6 = .ok (.getfield 86, 3) := by decide +kernel
theorem dX4_firstRoad_9 : decode cX4_firstRoad 9 = .ok (.if_icmp .ge 89, 3) := by decide +kernel
theorem dX4_firstRoad_12 : decode cX4_firstRoad 12 = .ok (.aload_n 0, 1) := by decide +kernel
theorem dX4_firstRoad_13 : decode cX4_firstRoad 13 = .ok (.getfield 9, 3) := by decide +kernel
theorem dX4_firstRoad_16 : decode cX4_firstRoad 16 = .ok (.iload_n 3, 1) := by decide +kernel
theorem dX4_firstRoad_17 : decode cX4_firstRoad 17 = .ok (.iaload, 1) := by decide +kernel
theorem dX4_firstRoad_18 : decode cX4_firstRoad 18 = .ok (.iload_n 1, 1) := by decide +kernel
theorem dX4_firstRoad_19 : decode cX4_firstRoad 19 = .ok (.if_icmp .ne 73, 3) := by decide +kernel
theorem dX4_firstRoad_22 : decode cX4_firstRoad 22 = .ok (.aload_n 0, 1) := by decide +kernel
theorem dX4_firstRoad_23 : decode cX4_firstRoad 23 = .ok (.getfield 74, 3) := by decide +kernel
theorem dX4_firstRoad_26 : decode cX4_firstRoad 26 = .ok (.iload_n 3, 1) := by decide +kernel
theorem dX4_firstRoad_27 : decode cX4_firstRoad 27 = .ok (.laload, 1) := by decide +kernel
theorem dX4_firstRoad_28 : decode cX4_firstRoad 28 = .ok (.ldc2_w 115, 3) := by decide +kernel
theorem dX4_firstRoad_31 : decode cX4_firstRoad 31 = .ok (.lcmp, 1) := by decide +kernel
theorem dX4_firstRoad_32 : decode cX4_firstRoad 32 = .ok (.ifCond .ne 6, 3) := by decide +kernel
theorem dX4_firstRoad_35 : decode cX4_firstRoad 35 = .ok (.goto 57, 3) := by decide +kernel
theorem dX4_firstRoad_38 : decode cX4_firstRoad 38 = .ok (.iload_n 2, 1) := by decide +kernel
theorem dX4_firstRoad_39 : decode cX4_firstRoad 39 = .ok (.iconst (-1), 1) := by decide +kernel
theorem dX4_firstRoad_40 : decode cX4_firstRoad 40 = .ok (.if_icmp .eq 50, 3) := by decide +kernel
theorem dX4_firstRoad_43 : decode cX4_firstRoad 43 = .ok (.aload_n 0, 1) := by decide +kernel
theorem dX4_firstRoad_44 : decode cX4_firstRoad 44 = .ok (.getfield 74, 3) := by decide +kernel
theorem dX4_firstRoad_47 : decode cX4_firstRoad 47 = .ok (.iload_n 3, 1) := by decide +kernel
theorem dX4_firstRoad_48 : decode cX4_firstRoad 48 = .ok (.laload, 1) := by decide +kernel
theorem dX4_firstRoad_49 : decode cX4_firstRoad 49 = .ok (.aload_n 0, 1) := by decide +kernel
theorem dX4_firstRoad_50 : decode cX4_firstRoad 50 = .ok (.getfield 74, 3) := by decide +kernel
theorem dX4_firstRoad_53 : decode cX4_firstRoad 53 = .ok (.iload_n 2, 1) := by decide +kernel
theorem dX4_firstRoad_54 : decode cX4_firstRoad 54 = .ok (.laload, 1) := by decide +kernel
theorem dX4_firstRoad_55 : decode cX4_firstRoad 55 = .ok (.lcmp, 1) := by decide +kernel
theorem dX4_firstRoad_56 : decode cX4_firstRoad 56 = .ok (.ifCond .lt 34, 3) := by decide +kernel
theorem dX4_firstRoad_59 : decode cX4_firstRoad 59 = .ok (.aload_n 0, 1) := by decide +kernel
theorem dX4_firstRoad_60 : decode cX4_firstRoad 60 = .ok (.getfield 74, 3) := by decide +kernel
theorem dX4_firstRoad_63 : decode cX4_firstRoad 63 = .ok (.iload_n 3, 1) := by decide +kernel
theorem dX4_firstRoad_64 : decode cX4_firstRoad 64 = .ok (.laload, 1) := by decide +kernel
theorem dX4_firstRoad_65 : decode cX4_firstRoad 65 = .ok (.aload_n 0, 1) := by decide +kernel
theorem dX4_firstRoad_66 : decode cX4_firstRoad 66 = .ok (.getfield 74, 3) := by decide +kernel
theorem dX4_firstRoad_69 : decode cX4_firstRoad 69 = .ok (.iload_n 2, 1) := by decide +kernel
theorem dX4_firstRoad_70 : decode cX4_firstRoad 70 = .ok (.laload, 1) := by decide +kernel
theorem dX4_firstRoad_71 : decode cX4_firstRoad 71 = .ok (.lcmp, 1) := by decide +kernel
theorem dX4_firstRoad_72 : decode cX4_firstRoad 72 = .ok (.ifCond .ne 20, 3) := by decide +kernel
theorem dX4_firstRoad_75 : decode cX4_firstRoad 75 = .ok (.aload_n 0, 1) := by decide +kernel
theorem dX4_firstRoad_76 : decode cX4_firstRoad 76 = .ok (.getfield 77, 3) := by decide +kernel
theorem dX4_firstRoad_79 : decode cX4_firstRoad 79 = .ok (.iload_n 3, 1) := by decide +kernel
theorem dX4_firstRoad_80 : decode cX4_firstRoad 80 = .ok (.iaload, 1) := by decide +kernel
theorem dX4_firstRoad_81 : decode cX4_firstRoad 81 = .ok (.aload_n 0, 1) := by decide +kernel
theorem dX4_firstRoad_82 : decode cX4_firstRoad 82 = .ok (.getfield 77, 3) := by decide +kernel
theorem dX4_firstRoad_85 : decode cX4_firstRoad 85 = .ok (.iload_n 2, 1) := by decide +kernel
theorem dX4_firstRoad_86 : decode cX4_firstRoad 86 = .ok (.iaload, 1) := by decide +kernel
theorem dX4_firstRoad_87 : decode cX4_firstRoad 87 = .ok (.if_icmp .ge 5, 3) := by decide +kernel
theorem dX4_firstRoad_90 : decode cX4_firstRoad 90 = .ok (.iload_n 3, 1) := by decide +kernel
theorem dX4_firstRoad_91 : decode cX4_firstRoad 91 = .ok (.istore_n 2, 1) := by decide +kernel
theorem dX4_firstRoad_92 : decode cX4_firstRoad 92 = .ok (.iinc 3 1, 3) := by decide +kernel
theorem dX4_firstRoad_95 : decode cX4_firstRoad 95 = .ok (.goto (-91), 3) := by decide +kernel
theorem dX4_firstRoad_98 : decode cX4_firstRoad 98 = .ok (.iload_n 2, 1) := by decide +kernel
theorem dX4_firstRoad_99 : decode cX4_firstRoad 99 = .ok (.ireturn, 1) := by decide +kernel
theorem dX4_distanceBetween_0 : decode cX4_distanceBetween 0 = .ok (.iload_n 1, 1) := by decide +kernel
theorem dX4_distanceBetween_1 : decode cX4_distanceBetween 1 = .ok (.iload_n 2, 1) := by decide +kernel
theorem dX4_distanceBetween_2 : decode cX4_distanceBetween 2 = .ok (.if_icmp .ne 5, 3) := by decide +kernel
theorem dX4_distanceBetween_5 : decode cX4_distanceBetween 5 = .ok (.iconst 0, 1) := by decide +kernel
theorem dX4_distanceBetween_6 : decode cX4_distanceBetween 6 = .ok (.ireturn, 1) := by decide +kernel
theorem dX4_distanceBetween_7 : decode cX4_distanceBetween 7 = .ok (.aload_n 0, 1) := by decide +kernel
theorem dX4_distanceBetween_8 : decode cX4_distanceBetween 8 = .ok (.iload_n 2, 1) := by decide +kernel
theorem dX4_distanceBetween_9 : decode cX4_distanceBetween 9 = .ok (.invokevirtual 150, 3) := by decide +kernel
theorem dX4_distanceBetween_12 : decode cX4_distanceBetween 12 = .ok (.aload_n 0, 1) := by decide +kernel
theorem dX4_distanceBetween_13 : decode cX4_distanceBetween 13 = .ok (.iload_n 1, 1) := by decide +kernel
theorem dX4_distanceBetween_14 : decode cX4_distanceBetween 14 = .ok (.invokevirtual 154, 3) := by decide +kernel
theorem dX4_distanceBetween_17 : decode cX4_distanceBetween 17 = .ok (.istore_n 3, 1) := by decide +kernel
theorem dX4_distanceBetween_18 : decode cX4_distanceBetween 18 = .ok (.iload_n 3, 1) := by decide +kernel
theorem dX4_distanceBetween_19 : decode cX4_distanceBetween 19 = .ok (.iconst (-1), 1) := by decide +kernel
theorem dX4_distanceBetween_20 : decode cX4_distanceBetween 20 = .ok (.if_icmp .ne 7, 3) := by decide +kernel
theorem dX4_distanceBetween_23 : decode cX4_distanceBetween 23 = .ok (.iconst (-1), 1) := by decide +kernel
theorem dX4_distanceBetween_24 : decode cX4_distanceBetween 24 = .ok (.goto 10, 3) := by decide +kernel
theorem dX4_distanceBetween_27 : decode cX4_distanceBetween 27 = .ok (.aload_n 0, 1) := by decide +kernel
theorem dX4_distanceBetween_28 : decode cX4_distanceBetween 28 = .ok (.getfield 74, 3) := by decide +kernel
theorem dX4_distanceBetween_31 : decode cX4_distanceBetween 31 = .ok (.iload_n 3, 1) := by decide +kernel
theorem dX4_distanceBetween_32 : decode cX4_distanceBetween 32 = .ok (.laload, 1) := by decide +kernel
theorem dX4_distanceBetween_33 : decode cX4_distanceBetween 33 = .ok (.l2i, 1) := by decide +kernel
theorem dX4_distanceBetween_34 : decode cX4_distanceBetween 34 = .ok (.ireturn, 1) := by decide +kernel
theorem dX4_lookedAt_0 : decode cX4_lookedAt 0 = .ok (.aload_n 0, 1) := by decide +kernel
theorem dX4_lookedAt_1 : decode cX4_lookedAt 1 = .ok (.getfield 97, 3) := by decide +kernel
theorem dX4_lookedAt_4 : decode cX4_lookedAt 4 = .ok (.ifCond .ne 7, 3) := by decide +kernel
theorem dX4_lookedAt_7 : decode cX4_lookedAt 7 = .ok (.iconst 1, 1) := by decide +kernel
theorem dX4_lookedAt_8 : decode cX4_lookedAt 8 = .ok (.goto 24, 3) := by decide +kernel
theorem dX4_lookedAt_11 : decode cX4_lookedAt 11 = .ok (.aload_n 0, 1) := by decide +kernel
theorem dX4_lookedAt_12 : decode cX4_lookedAt 12 = .ok (.iload_n 1, 1) := by decide +kernel
theorem dX4_lookedAt_13 : decode cX4_lookedAt 13 = .ok (.invokevirtual 93, 3) := by decide +kernel
theorem dX4_lookedAt_16 : decode cX4_lookedAt 16 = .ok (.ifCond .eq 11, 3) := by decide +kernel
theorem dX4_lookedAt_19 : decode cX4_lookedAt 19 = .ok (.aload_n 0, 1) := by decide +kernel
theorem dX4_lookedAt_20 : decode cX4_lookedAt 20 = .ok (.iload_n 2, 1) := by decide +kernel
theorem dX4_lookedAt_21 : decode cX4_lookedAt 21 = .ok (.invokevirtual 93, 3) := by decide +kernel
theorem dX4_lookedAt_24 : decode cX4_lookedAt 24 = .ok (.ifCond .ne 7, 3) := by decide +kernel
theorem dX4_lookedAt_27 : decode cX4_lookedAt 27 = .ok (.iconst 2, 1) := by decide +kernel
theorem dX4_lookedAt_28 : decode cX4_lookedAt 28 = .ok (.goto 4, 3) := by decide +kernel
theorem dX4_lookedAt_31 : decode cX4_lookedAt 31 = .ok (.iconst 0, 1) := by decide +kernel
theorem dX4_lookedAt_32 : decode cX4_lookedAt 32 = .ok (.ireturn, 1) := by decide +kernel
theorem dX4_distance_0 : decode cX4_distance 0 = .ok (.aload_n 0, 1) := by decide +kernel
theorem dX4_distance_1 : decode cX4_distance 1 = .ok (.aload_n 0, 1) := by decide +kernel
theorem dX4_distance_2 : decode cX4_distance 2 = .ok (.iload_n 1, 1) := by decide +kernel
theorem dX4_distance_3 : decode cX4_distance 3 = .ok (.iload_n 2, 1) := by decide +kernel
theorem dX4_distance_4 : decode cX4_distance 4 = .ok (.invokevirtual 157, 3) := by decide +kernel
theorem dX4_distance_7 : decode cX4_distance 7 = .ok (.putfield 80, 3) := by decide +kernel
theorem dX4_distance_10 : decode cX4_distance 10 = .ok (.aload_n 0, 1) := by decide +kernel
theorem dX4_distance_11 : decode cX4_distance 11 = .ok (.getfield 80, 3) := by decide +kernel
theorem dX4_distance_14 : decode cX4_distance 14 = .ok (.ifCond .ne 12, 3) := by decide +kernel
theorem dX4_distance_17 : decode cX4_distance 17 = .ok (.aload_n 0, 1) := by decide +kernel
theorem dX4_distance_18 : decode cX4_distance 18 = .ok (.iload_n 1, 1) := by decide +kernel
theorem dX4_distance_19 : decode cX4_distance 19 = .ok (.iload_n 2, 1) := by decide +kernel
theorem dX4_distance_20 : decode cX4_distance 20 = .ok (.invokevirtual 160, 3) := by decide +kernel
theorem dX4_distance_23 : decode cX4_distance 23 = .ok (.goto 4, 3) := by decide +kernel
theorem dX4_distance_26 : decode cX4_distance 26 = .ok (.iconst 0, 1) := by decide +kernel
theorem dX4_distance_27 : decode cX4_distance 27 = .ok (.ireturn, 1) := by decide +kernel
theorem dX4_distanceBehind_0 : decode cX4_distanceBehind 0 = .ok (.aload_n 0, 1) := by decide +kernel
theorem dX4_distanceBehind_1 : decode cX4_distanceBehind 1 = .ok (.aload_n 0, 1) := by decide +kernel
theorem dX4_distanceBehind_2 : decode cX4_distanceBehind 2 = .ok (.getfield 97, 3) := by decide +kernel
theorem dX4_distanceBehind_5 : decode cX4_distanceBehind 5 = .ok (.ifCond .ne 7, 3) := by decide +kernel
theorem dX4_distanceBehind_8 : decode cX4_distanceBehind 8 = .ok (.iconst 1, 1) := by decide +kernel
theorem dX4_distanceBehind_9 : decode cX4_distanceBehind 9 = .ok (.goto 24, 3) := by decide +kernel
theorem dX4_distanceBehind_12 : decode cX4_distanceBehind 12 = .ok (.aload_n 0, 1) := by decide +kernel
theorem dX4_distanceBehind_13 : decode cX4_distanceBehind 13 = .ok (.iload_n 1, 1) := by decide +kernel
theorem dX4_distanceBehind_14 : decode cX4_distanceBehind 14 = .ok (.invokevirtual 117, 3) := by decide +kernel
theorem dX4_distanceBehind_17 : decode cX4_distanceBehind 17 = .ok (.ifCond .eq 11, 3) := by decide +kernel
theorem dX4_distanceBehind_20 : decode cX4_distanceBehind 20 = .ok (.aload_n 0, 1) := by decide +kernel
theorem dX4_distanceBehind_21 : decode cX4_distanceBehind 21 = .ok (.iload_n 2, 1) := by decide +kernel
theorem dX4_distanceBehind_22 : decode cX4_distanceBehind 22 = .ok (.invokevirtual 93, 3) := by decide +kernel
theorem dX4_distanceBehind_25 : decode cX4_distanceBehind 25 = .ok (.ifCond .ne 7, 3) := by decide +kernel
theorem dX4_distanceBehind_28 : decode cX4_distanceBehind 28 = .ok (.iconst 2, 1) := by decide +kernel
theorem dX4_distanceBehind_29 : decode cX4_distanceBehind 29 = .ok (.goto 4, 3) := by decide +kernel
theorem dX4_distanceBehind_32 : decode cX4_distanceBehind 32 = .ok (.iconst 0, 1) := by decide +kernel
theorem dX4_distanceBehind_33 : decode cX4_distanceBehind 33 = .ok (.putfield 80, 3) := by decide +kernel
theorem dX4_distanceBehind_36 : decode cX4_distanceBehind 36 = .ok (.aload_n 0, 1) := by decide +kernel
theorem dX4_distanceBehind_37 : decode cX4_distanceBehind 37 = .ok (.getfield 80, 3) := by decide +kernel
theorem dX4_distanceBehind_40 : decode cX4_distanceBehind 40 = .ok (.ifCond .eq 5, 3) := by decide +kernel
theorem dX4_distanceBehind_43 : decode cX4_distanceBehind 43 = .ok (.iconst 0, 1) := by decide +kernel
theorem dX4_distanceBehind_44 : decode cX4_distanceBehind 44 = .ok (.ireturn, 1) := by decide +kernel
theorem dX4_distanceBehind_45 : decode cX4_distanceBehind 45 = .ok (.aload_n 0, 1) := by decide +kernel
theorem dX4_distanceBehind_46 : decode cX4_distanceBehind 46 = .ok (.iload_n 2, 1) := by decide +kernel
theorem dX4_distanceBehind_47 : decode cX4_distanceBehind 47 = .ok (.invokevirtual 150, 3) := by decide +kernel
theorem dX4_distanceBehind_50 : decode cX4_distanceBehind 50 = .ok (.aload_n 0, 1) := by decide +kernel
theorem dX4_distanceBehind_51 : decode cX4_distanceBehind 51 = .ok (.getfield 74, 3) := by decide +kernel
theorem dX4_distanceBehind_54 : decode cX4_distanceBehind 54 = .ok (.iload_n 1, 1) := by decide +kernel
theorem dX4_distanceBehind_55 : decode cX4_distanceBehind 55 = .ok (.laload, 1) := by decide +kernel
theorem dX4_distanceBehind_56 : decode cX4_distanceBehind 56 = .ok (.ldc2_w 115, 3) := by decide +kernel
theorem dX4_distanceBehind_59 : decode cX4_distanceBehind 59 = .ok (.lcmp, 1) := by decide +kernel
theorem dX4_distanceBehind_60 : decode cX4_distanceBehind 60 = .ok (.ifCond .ne 7, 3) := by decide +kernel
theorem dX4_distanceBehind_63 : decode cX4_distanceBehind 63 = .ok (.iconst (-1), 1) := by decide +kernel
theorem dX4_distanceBehind_64 : decode cX4_distanceBehind 64 = .ok (.goto 17, 3) := by decide +kernel
theorem dX4_distanceBehind_67 : decode cX4_distanceBehind 67 = .ok (.aload_n 0, 1) := by decide +kernel
theorem dX4_distanceBehind_68 : decode cX4_distanceBehind 68 = .ok (.getfield 74, 3) := by decide +kernel
theorem dX4_distanceBehind_71 : decode cX4_distanceBehind 71 = .ok (.iload_n 1, 1) := by decide +kernel
theorem dX4_distanceBehind_72 : decode cX4_distanceBehind 72 = .ok (.laload, 1) := by decide +kernel
theorem dX4_distanceBehind_73 : decode cX4_distanceBehind 73 = .ok (.l2i, 1) := by decide +kernel
theorem dX4_distanceBehind_74 : decode cX4_distanceBehind 74 = .ok (.aload_n 0, 1) := by decide +kernel
theorem dX4_distanceBehind_75 : decode cX4_distanceBehind 75 = .ok (.getfield 16, 3) := by decide +kernel
theorem dX4_distanceBehind_78 : decode cX4_distanceBehind 78 = .ok (.iload_n 1, 1) := by decide +kernel
theorem dX4_distanceBehind_79 : decode cX4_distanceBehind 79 = .ok (.iaload, 1) := by decide +kernel
theorem dX4_distanceBehind_80 : decode cX4_distanceBehind 80 = .ok (.isub, 1) := by decide +kernel
theorem dX4_distanceBehind_81 : decode cX4_distanceBehind 81 = .ok (.ireturn, 1) := by decide +kernel
theorem dX4_route_0 : decode cX4_route 0 = .ok (.aload_n 0, 1) := by decide +kernel
theorem dX4_route_1 : decode cX4_route 1 = .ok (.aload_n 0, 1) := by decide +kernel
theorem dX4_route_2 : decode cX4_route 2 = .ok (.iload_n 1, 1) := by decide +kernel
theorem dX4_route_3 : decode cX4_route 3 = .ok (.iload_n 2, 1) := by decide +kernel
theorem dX4_route_4 : decode cX4_route 4 = .ok (.invokevirtual 157, 3) := by decide +kernel
theorem dX4_route_7 : decode cX4_route 7 = .ok (.putfield 80, 3) := by decide +kernel
theorem dX4_route_10 : decode cX4_route 10 = .ok (.aload_n 0, 1) := by decide +kernel
theorem dX4_route_11 : decode cX4_route 11 = .ok (.getfield 80, 3) := by decide +kernel
theorem dX4_route_14 : decode cX4_route 14 = .ok (.ifCond .eq 5, 3) := by decide +kernel
theorem dX4_route_17 : decode cX4_route 17 = .ok (.iconst 0, 1) := by decide +kernel
theorem dX4_route_18 : decode cX4_route 18 = .ok (.ireturn, 1) := by decide +kernel
theorem dX4_route_19 : decode cX4_route 19 = .ok (.aload_n 0, 1) := by decide +kernel
theorem dX4_route_20 : decode cX4_route 20 = .ok (.iload_n 1, 1) := by decide +kernel
theorem dX4_route_21 : decode cX4_route 21 = .ok (.iload_n 2, 1) := by decide +kernel
theorem dX4_route_22 : decode cX4_route 22 = .ok (.invokevirtual 160, 3) := by decide +kernel
theorem dX4_route_25 : decode cX4_route 25 = .ok (.istore_n 3, 1) := by decide +kernel
theorem dX4_route_26 : decode cX4_route 26 = .ok (.iload_n 3, 1) := by decide +kernel
theorem dX4_route_27 : decode cX4_route 27 = .ok (.iconst (-1), 1) := by decide +kernel
theorem dX4_route_28 : decode cX4_route 28 = .ok (.if_icmp .ne 9, 3) := by decide +kernel
theorem dX4_route_31 : decode cX4_route 31 = .ok (.aload_n 0, 1) := by decide +kernel
theorem dX4_route_32 : decode cX4_route 32 = .ok (.iconst 3, 1) := by decide +kernel
theorem dX4_route_33 : decode cX4_route 33 = .ok (.invokevirtual 89, 3) := by decide +kernel
theorem dX4_route_36 : decode cX4_route 36 = .ok (.ireturn, 1) := by decide +kernel
theorem dX4_route_37 : decode cX4_route 37 = .ok (.aload_n 0, 1) := by decide +kernel
theorem dX4_route_38 : decode cX4_route 38 = .ok (.iload_n 3, 1) := by decide +kernel
theorem dX4_route_39 : decode cX4_route 39 = .ok (.putfield 163, 3) := by decide +kernel
theorem dX4_route_42 : decode cX4_route 42 = .ok (.aload_n 0, 1) := by decide +kernel
theorem dX4_route_43 : decode cX4_route 43 = .ok (.iconst 0, 1) := by decide +kernel
theorem dX4_route_44 : decode cX4_route 44 = .ok (.putfield 166, 3) := by decide +kernel
theorem dX4_route_47 : decode cX4_route 47 = .ok (.iload_n 1, 1) := by decide +kernel
theorem dX4_route_48 : decode cX4_route 48 = .ok (.iload_n 2, 1) := by decide +kernel
theorem dX4_route_49 : decode cX4_route 49 = .ok (.if_icmp .ne 5, 3) := by decide +kernel
theorem dX4_route_52 : decode cX4_route 52 = .ok (.iconst 0, 1) := by decide +kernel
theorem dX4_route_53 : decode cX4_route 53 = .ok (.ireturn, 1) := by decide +kernel
theorem dX4_route_54 : decode cX4_route 54 = .ok (.aload_n 0, 1) := by decide +kernel
theorem dX4_route_55 : decode cX4_route 55 = .ok (.iload_n 1, 1) := by decide +kernel
theorem dX4_route_56 : decode cX4_route 56 = .ok (.invokevirtual 154, 3) := by decide +kernel
theorem dX4_route_59 : decode cX4_route 59 = .ok (.istore 4, 2) := by decide +kernel
theorem dX4_route_61 : decode cX4_route 61 = .ok (.aload_n 0, 1) := by decide +kernel
theorem dX4_route_62 : decode cX4_route 62 = .ok (.getfield 68, 3) := by decide +kernel
theorem dX4_route_65 : decode cX4_route 65 = .ok (.iconst 0, 1) := by decide +kernel
theorem dX4_route_66 : decode cX4_route 66 = .ok (.iload 4, 2) := by decide +kernel
theorem dX4_route_68 : decode cX4_route 68 = .ok (.iastore, 1) := by decide +kernel
theorem dX4_route_69 : decode cX4_route 69 = .ok (.aload_n 0, 1) := by decide +kernel
theorem dX4_route_70 : decode cX4_route 70 = .ok (.iconst 1, 1) := by decide +kernel
theorem dX4_route_71 : decode cX4_route 71 = .ok (.putfield 166, 3) := by decide +kernel
theorem dX4_route_74 : decode cX4_route 74 = .ok (.aload_n 0, 1) := by decide +kernel
theorem dX4_route_75 : decode cX4_route 75 = .ok (.getfield 13, 3) := by decide +kernel
theorem dX4_route_78 : decode cX4_route 78 = .ok (.iload 4, 2) := by decide +kernel
theorem dX4_route_80 : decode cX4_route 80 = .ok (.iaload, 1) := by decide +kernel
theorem dX4_route_81 : decode cX4_route 81 = .ok (.iload_n 2, 1) := by decide +kernel
theorem dX4_route_82 : decode cX4_route 82 = .ok (.if_icmp .eq 35, 3) := by decide +kernel
theorem dX4_route_85 : decode cX4_route 85 = .ok (.aload_n 0, 1) := by decide +kernel
theorem dX4_route_86 : decode cX4_route 86 = .ok (.iload 4, 2) := by decide +kernel
theorem dX4_route_88 : decode cX4_route 88 = .ok (.invokevirtual 169, 3) := by decide +kernel
theorem dX4_route_91 : decode cX4_route 91 = .ok (.istore 4, 2) := by decide +kernel
theorem dX4_route_93 : decode cX4_route 93 = .ok (.aload_n 0, 1) := by decide +kernel
theorem dX4_route_94 : decode cX4_route 94 = .ok (.getfield 68, 3) := by decide +kernel
theorem dX4_route_97 : decode cX4_route 97 = .ok (.aload_n 0, 1) := by decide +kernel
theorem dX4_route_98 : decode cX4_route 98 = .ok (.getfield 166, 3) := by decide +kernel
theorem dX4_route_101 : decode cX4_route 101 = .ok (.iload 4, 2) := by decide +kernel
theorem dX4_route_103 : decode cX4_route 103 = .ok (.iastore, 1) := by decide +kernel
theorem dX4_route_104 : decode cX4_route 104 = .ok (.aload_n 0, 1) := by decide +kernel
theorem dX4_route_105 : decode cX4_route 105 = .ok (.dup, 1) := by decide +kernel
theorem dX4_route_106 : decode cX4_route 106 = .ok (.getfield 166, 3) := by decide +kernel
theorem dX4_route_109 : decode cX4_route 109 = .ok (.iconst 1, 1) := by decide +kernel
theorem dX4_route_110 : decode cX4_route 110 = .ok (.iadd, 1) := by decide +kernel
theorem dX4_route_111 : decode cX4_route 111 = .ok (.putfield 166, 3) := by decide +kernel
theorem dX4_route_114 : decode cX4_route 114 = .ok (.goto (-40), 3) := by decide +kernel
theorem dX4_route_117 : decode cX4_route 117 = .ok (.aload_n 0, 1) := by decide +kernel
theorem dX4_route_118 : decode cX4_route 118 = .ok (.getfield 166, 3) := by decide +kernel
theorem dX4_route_121 : decode cX4_route 121 = .ok (.ireturn, 1) := by decide +kernel
theorem dX4_nextRoad_0 : decode cX4_nextRoad 0 = .ok (.iconst 0, 1) := by decide +kernel
theorem dX4_nextRoad_1 : decode cX4_nextRoad 1 = .ok (.istore_n 2, 1) := by decide +kernel
theorem dX4_nextRoad_2 : decode cX4_nextRoad 2 = .ok (.aload_n 0, 1) := by decide +kernel
theorem dX4_nextRoad_3 : decode cX4_nextRoad 3 = .ok (.iload_n 1, 1) := by decide +kernel
theorem dX4_nextRoad_4 : decode cX4_nextRoad 4 = .ok (.iload_n 2, 1) := by decide +kernel
theorem dX4_nextRoad_5 : decode cX4_nextRoad 5 = .ok (.invokevirtual 134, 3) := by decide +kernel
theorem dX4_nextRoad_8 : decode cX4_nextRoad 8 = .ok (.ldc2_w 115, 3) := by decide +kernel
theorem dX4_nextRoad_11 : decode cX4_nextRoad 11 = .ok (.lcmp, 1) := by decide +kernel
theorem dX4_nextRoad_12 : decode cX4_nextRoad 12 = .ok (.ifCond .eq 64, 3) := by decide +kernel
theorem dX4_nextRoad_15 : decode cX4_nextRoad 15 = .ok (.aload_n 0, 1) := by decide +kernel
theorem dX4_nextRoad_16 : decode cX4_nextRoad 16 = .ok (.getfield 74, 3) := by decide +kernel
theorem dX4_nextRoad_19 : decode cX4_nextRoad 19 = .ok (.iload_n 2, 1) := by decide +kernel
theorem dX4_nextRoad_20 : decode cX4_nextRoad 20 = .ok (.laload, 1) := by decide +kernel
theorem dX4_nextRoad_21 : decode cX4_nextRoad 21 = .ok (.ldc2_w 115, 3) := by decide +kernel
theorem dX4_nextRoad_24 : decode cX4_nextRoad 24 = .ok (.lcmp, 1) := by decide +kernel
theorem dX4_nextRoad_25 : decode cX4_nextRoad 25 = .ok (.ifCond .eq 51, 3) := by decide +kernel
theorem dX4_nextRoad_28 : decode cX4_nextRoad 28 = .ok (.aload_n 0, 1) := by decide +kernel
theorem dX4_nextRoad_29 : decode cX4_nextRoad 29 = .ok (.getfield 16, 3) := by decide +kernel
theorem dX4_nextRoad_32 : decode cX4_nextRoad 32 = .ok (.iload_n 1, 1) := by decide +kernel
theorem dX4_nextRoad_33 : decode cX4_nextRoad 33 = .ok (.iaload, 1) := by decide +kernel
theorem dX4_nextRoad_34 : decode cX4_nextRoad 34 = .ok (.aload_n 0, 1) := by decide +kernel
theorem dX4_nextRoad_35 : decode cX4_nextRoad 35 = .ok (.iload_n 1, 1) := by decide +kernel
theorem dX4_nextRoad_36 : decode cX4_nextRoad 36 = .ok (.iload_n 2, 1) := by decide +kernel
theorem dX4_nextRoad_37 : decode cX4_nextRoad 37 = .ok (.invokevirtual 111, 3) := by decide +kernel
theorem dX4_nextRoad_40 : decode cX4_nextRoad 40 = .ok (.iadd, 1) := by decide +kernel
theorem dX4_nextRoad_41 : decode cX4_nextRoad 41 = .ok (.i2l, 1) := by decide +kernel
theorem dX4_nextRoad_42 : decode cX4_nextRoad 42 = .ok (.aload_n 0, 1) := by decide +kernel
theorem dX4_nextRoad_43 : decode cX4_nextRoad 43 = .ok (.getfield 74, 3) := by decide +kernel
theorem dX4_nextRoad_46 : decode cX4_nextRoad 46 = .ok (.iload_n 2, 1) := by decide +kernel
theorem dX4_nextRoad_47 : decode cX4_nextRoad 47 = .ok (.laload, 1) := by decide +kernel
theorem dX4_nextRoad_48 : decode cX4_nextRoad 48 = .ok (.ladd, 1) := by decide +kernel
theorem dX4_nextRoad_49 : decode cX4_nextRoad 49 = .ok (.aload_n 0, 1) := by decide +kernel
theorem dX4_nextRoad_50 : decode cX4_nextRoad 50 = .ok (.getfield 74, 3) := by decide +kernel
theorem dX4_nextRoad_53 : decode cX4_nextRoad 53 = .ok (.iload_n 1, 1) := by decide +kernel
theorem dX4_nextRoad_54 : decode cX4_nextRoad 54 = .ok (.laload, 1) := by decide +kernel
theorem dX4_nextRoad_55 : decode cX4_nextRoad 55 = .ok (.lcmp, 1) := by decide +kernel
theorem dX4_nextRoad_56 : decode cX4_nextRoad 56 = .ok (.ifCond .ne 20, 3) := by decide +kernel
theorem dX4_nextRoad_59 : decode cX4_nextRoad 59 = .ok (.aload_n 0, 1) := by decide +kernel
theorem dX4_nextRoad_60 : decode cX4_nextRoad 60 = .ok (.getfield 77, 3) := by decide +kernel
theorem dX4_nextRoad_63 : decode cX4_nextRoad 63 = .ok (.iload_n 2, 1) := by decide +kernel
theorem dX4_nextRoad_64 : decode cX4_nextRoad 64 = .ok (.iaload, 1) := by decide +kernel
theorem dX4_nextRoad_65 : decode cX4_nextRoad 65 = .ok (.iconst 1, 1) := by decide +kernel
theorem dX4_nextRoad_66 : decode cX4_nextRoad 66 = .ok (.iadd, 1) := by decide +kernel
theorem dX4_nextRoad_67 : decode cX4_nextRoad 67 = .ok (.aload_n 0, 1) := by decide +kernel
theorem dX4_nextRoad_68 : decode cX4_nextRoad 68 = .ok (.getfield 77, 3) := by decide +kernel
theorem dX4_nextRoad_71 : decode cX4_nextRoad 71 = .ok (.iload_n 1, 1) := by decide +kernel
theorem dX4_nextRoad_72 : decode cX4_nextRoad 72 = .ok (.iaload, 1) := by decide +kernel
theorem dX4_nextRoad_73 : decode cX4_nextRoad 73 = .ok (.if_icmp .eq 9, 3) := by decide +kernel
theorem dX4_nextRoad_76 : decode cX4_nextRoad 76 = .ok (.iinc 2 1, 3) := by decide +kernel
theorem dX4_nextRoad_79 : decode cX4_nextRoad 79 = .ok (.goto (-77), 3) := by decide +kernel
theorem dX4_nextRoad_82 : decode cX4_nextRoad 82 = .ok (.iload_n 2, 1) := by decide +kernel
theorem dX4_nextRoad_83 : decode cX4_nextRoad 83 = .ok (.ireturn, 1) := by decide +kernel
theorem dX4_routeRoad_0 : decode cX4_routeRoad 0 = .ok (.aload_n 0, 1) := by decide +kernel
theorem dX4_routeRoad_1 : decode cX4_routeRoad 1 = .ok (.iconst 0, 1) := by decide +kernel
theorem dX4_routeRoad_2 : decode cX4_routeRoad 2 = .ok (.putfield 80, 3) := by decide +kernel
theorem dX4_routeRoad_5 : decode cX4_routeRoad 5 = .ok (.iload_n 1, 1) := by decide +kernel
theorem dX4_routeRoad_6 : decode cX4_routeRoad 6 = .ok (.ifCond .lt 20, 3) := by decide +kernel
theorem dX4_routeRoad_9 : decode cX4_routeRoad 9 = .ok (.iload_n 1, 1) := by decide +kernel
theorem dX4_routeRoad_10 : decode cX4_routeRoad 10 = .ok (.aload_n 0, 1) := by decide +kernel
theorem dX4_routeRoad_11 : decode cX4_routeRoad 11 = .ok (.getfield 166, 3) := by decide +kernel
theorem dX4_routeRoad_14 : decode cX4_routeRoad 14 = .ok (.if_icmp .ge 12, 3) := by decide +kernel
theorem dX4_routeRoad_17 : decode cX4_routeRoad 17 = .ok (.aload_n 0, 1) := by decide +kernel
theorem dX4_routeRoad_18 : decode cX4_routeRoad 18 = .ok (.getfield 68, 3) := by decide +kernel
theorem dX4_routeRoad_21 : decode cX4_routeRoad 21 = .ok (.iload_n 1, 1) := by decide +kernel
theorem dX4_routeRoad_22 : decode cX4_routeRoad 22 = .ok (.iaload, 1) := by decide +kernel
theorem dX4_routeRoad_23 : decode cX4_routeRoad 23 = .ok (.goto 8, 3) := by decide +kernel
theorem dX4_routeRoad_26 : decode cX4_routeRoad 26 = .ok (.aload_n 0, 1) := by decide +kernel
theorem dX4_routeRoad_27 : decode cX4_routeRoad 27 = .ok (.iconst 1, 1) := by decide +kernel
theorem dX4_routeRoad_28 : decode cX4_routeRoad 28 = .ok (.invokevirtual 89, 3) := by decide +kernel
theorem dX4_routeRoad_31 : decode cX4_routeRoad 31 = .ok (.ireturn, 1) := by decide +kernel
theorem dX4_routeCost_0 : decode cX4_routeCost 0 = .ok (.aload_n 0, 1) := by decide +kernel
theorem dX4_routeCost_1 : decode cX4_routeCost 1 = .ok (.iconst 0, 1) := by decide +kernel
theorem dX4_routeCost_2 : decode cX4_routeCost 2 = .ok (.putfield 80, 3) := by decide +kernel
theorem dX4_routeCost_5 : decode cX4_routeCost 5 = .ok (.aload_n 0, 1) := by decide +kernel
theorem dX4_routeCost_6 : decode cX4_routeCost 6 = .ok (.getfield 163, 3) := by decide +kernel
theorem dX4_routeCost_9 : decode cX4_routeCost 9 = .ok (.ireturn, 1) := by decide +kernel
theorem dX4_reach_0 : decode cX4_reach 0 = .ok (.aload_n 0, 1) := by decide +kernel
theorem dX4_reach_1 : decode cX4_reach 1 = .ok (.aload_n 0, 1) := by decide +kernel
theorem dX4_reach_2 : decode cX4_reach 2 = .ok (.iload_n 1, 1) := by decide +kernel
theorem dX4_reach_3 : decode cX4_reach 3 = .ok (.iload_n 1, 1) := by decide +kernel
theorem dX4_reach_4 : decode cX4_reach 4 = .ok (.invokevirtual 157, 3) := by decide +kernel
theorem dX4_reach_7 : decode cX4_reach 7 = .ok (.putfield 80, 3) := by decide +kernel
theorem dX4_reach_10 : decode cX4_reach 10 = .ok (.aload_n 0, 1) := by decide +kernel
theorem dX4_reach_11 : decode cX4_reach 11 = .ok (.getfield 80, 3) := by decide +kernel
theorem dX4_reach_14 : decode cX4_reach 14 = .ok (.ifCond .eq 5, 3) := by decide +kernel
theorem dX4_reach_17 : decode cX4_reach 17 = .ok (.iconst 0, 1) := by decide +kernel
theorem dX4_reach_18 : decode cX4_reach 18 = .ok (.ireturn, 1) := by decide +kernel
theorem dX4_reach_19 : decode cX4_reach 19 = .ok (.iload_n 2, 1) := by decide +kernel
theorem dX4_reach_20 : decode cX4_reach 20 = .ok (.ifCond .ge 9, 3) := by decide +kernel
theorem dX4_reach_23 : decode cX4_reach 23 = .ok (.aload_n 0, 1) := by decide +kernel
theorem dX4_reach_24 : decode cX4_reach 24 = .ok (.iconst 3, 1) := by decide +kernel
theorem dX4_reach_25 : decode cX4_reach 25 = .ok (.invokevirtual 89, 3) := by decide +kernel
theorem dX4_reach_28 : decode cX4_reach 28 = .ok (.ireturn, 1) := by decide +kernel
theorem dX4_reach_29 : decode cX4_reach 29 = .ok (.bipush 32, 2) := by decide +kernel
theorem dX4_reach_31 : decode cX4_reach 31 = .ok (.newarray .int, 2) := by decide +kernel
theorem dX4_reach_33 : decode cX4_reach 33 = .ok (.astore_n 3, 1) := by decide +kernel
theorem dX4_reach_34 : decode cX4_reach 34 = .ok (.iconst 0, 1) := by decide +kernel
theorem dX4_reach_35 : decode cX4_reach 35 = .ok (.istore 4, 2) := by decide +kernel
theorem dX4_reach_37 : decode cX4_reach 37 = .ok (.iload 4, 2) := by decide +kernel
theorem dX4_reach_39 : decode cX4_reach 39 = .ok (.aload_n 0, 1) := by decide +kernel
theorem dX4_reach_40 : decode cX4_reach 40 = .ok (.getfield 83, 3) := by decide +kernel
theorem dX4_reach_43 : decode cX4_reach 43 = .ok (.if_icmp .ge 20, 3) := by decide +kernel
theorem dX4_reach_46 : decode cX4_reach 46 = .ok (.aload_n 3, 1) := by decide +kernel
theorem dX4_reach_47 : decode cX4_reach 47 = .ok (.iload 4, 2) := by decide +kernel
theorem dX4_reach_49 : decode cX4_reach 49 = .ok (.aload_n 0, 1) := by decide +kernel
theorem dX4_reach_50 : decode cX4_reach 50 = .ok (.iload_n 1, 1) := by decide +kernel
theorem dX4_reach_51 : decode cX4_reach 51 = .ok (.iload 4, 2) := by decide +kernel
theorem dX4_reach_53 : decode cX4_reach 53 = .ok (.invokevirtual 160, 3) := by decide +kernel
theorem dX4_reach_56 : decode cX4_reach 56 = .ok (.iastore, 1) := by decide +kernel
theorem dX4_reach_57 : decode cX4_reach 57 = .ok (.iinc 4 1, 3) := by decide +kernel
theorem dX4_reach_60 : decode cX4_reach 60 = .ok (.goto (-23), 3) := by decide +kernel
theorem dX4_reach_63 : decode cX4_reach 63 = .ok (.aload_n 0, 1) := by decide +kernel
theorem dX4_reach_64 : decode cX4_reach 64 = .ok (.iconst 0, 1) := by decide +kernel
theorem dX4_reach_65 : decode cX4_reach 65 = .ok (.putfield 172, 3) := by decide +kernel
theorem dX4_reach_68 : decode cX4_reach 68 = .ok (.iconst 0, 1) := by decide +kernel
theorem dX4_reach_69 : decode cX4_reach 69 = .ok (.istore 4, 2) := by decide +kernel
theorem dX4_reach_71 : decode cX4_reach 71 = .ok (.iload 4, 2) := by decide +kernel
theorem dX4_reach_73 : decode cX4_reach 73 = .ok (.aload_n 0, 1) := by decide +kernel
theorem dX4_reach_74 : decode cX4_reach 74 = .ok (.getfield 83, 3) := by decide +kernel
theorem dX4_reach_77 : decode cX4_reach 77 = .ok (.if_icmp .ge 98, 3) := by decide +kernel
theorem dX4_reach_80 : decode cX4_reach 80 = .ok (.aload_n 3, 1) := by decide +kernel
theorem dX4_reach_81 : decode cX4_reach 81 = .ok (.iload 4, 2) := by decide +kernel
theorem dX4_reach_83 : decode cX4_reach 83 = .ok (.iaload, 1) := by decide +kernel
theorem dX4_reach_84 : decode cX4_reach 84 = .ok (.iconst (-1), 1) := by decide +kernel
theorem dX4_reach_85 : decode cX4_reach 85 = .ok (.if_icmp .eq 84, 3) := by decide +kernel
theorem dX4_reach_88 : decode cX4_reach 88 = .ok (.aload_n 3, 1) := by decide +kernel
theorem dX4_reach_89 : decode cX4_reach 89 = .ok (.iload 4, 2) := by decide +kernel
theorem dX4_reach_91 : decode cX4_reach 91 = .ok (.iaload, 1) := by decide +kernel
theorem dX4_reach_92 : decode cX4_reach 92 = .ok (.iload_n 2, 1) := by decide +kernel
theorem dX4_reach_93 : decode cX4_reach 93 = .ok (.if_icmp .le 6, 3) := by decide +kernel
theorem dX4_reach_96 : decode cX4_reach 96 = .ok (.goto 73, 3) := by decide +kernel
theorem dX4_reach_99 : decode cX4_reach 99 = .ok (.aload_n 0, 1) := by decide +kernel
theorem dX4_reach_100 : decode cX4_reach 100 = .ok (.getfield 172, 3) := by decide +kernel
theorem dX4_reach_103 : decode cX4_reach 103 = .ok (.istore 5, 2) := by decide +kernel
theorem dX4_reach_105 : decode cX4_reach 105 = .ok (.iload 5, 2) := by decide +kernel
theorem dX4_reach_107 : decode cX4_reach 107 = .ok (.ifCond .le 43, 3) := by decide +kernel
theorem dX4_reach_110 : decode cX4_reach 110 = .ok (.aload_n 3, 1) := by decide +kernel
theorem dX4_reach_111 : decode cX4_reach 111 = .ok (.aload_n 0, 1) := by decide +kernel
theorem dX4_reach_112 : decode cX4_reach 112 = .ok (.getfield 71, 3) := by decide +kernel
theorem dX4_reach_115 : decode cX4_reach 115 = .ok (.iload 5, 2) := by decide +kernel
theorem dX4_reach_117 : decode cX4_reach 117 = .ok (.iconst 1, 1) := by decide +kernel
theorem dX4_reach_118 : decode cX4_reach 118 = .ok (.isub, 1) := by decide +kernel
theorem dX4_reach_119 : decode cX4_reach 119 = .ok (.iaload, 1) := by decide +kernel
theorem dX4_reach_120 : decode cX4_reach 120 = .ok (.iaload, 1) := by decide +kernel
theorem dX4_reach_121 : decode cX4_reach 121 = .ok (.aload_n 3, 1) := by decide +kernel
theorem dX4_reach_122 : decode cX4_reach 122 = .ok (.iload 4, 2) := by decide +kernel
theorem dX4_reach_124 : decode cX4_reach 124 = .ok (.iaload, 1) := by decide +kernel
theorem dX4_reach_125 : decode cX4_reach 125 = .ok (.if_icmp .le 25, 3) := by decide +kernel
theorem dX4_reach_128 : decode cX4_reach 128 = .ok (.aload_n 0, 1) := by decide +kernel
theorem dX4_reach_129 : decode cX4_reach 129 = .ok (.getfield 71, 3) := by decide +kernel
theorem dX4_reach_132 : decode cX4_reach 132 = .ok (.iload 5, 2) := by decide +kernel
theorem dX4_reach_134 : decode cX4_reach 134 = .ok (.aload_n 0, 1) := by decide +kernel
theorem dX4_reach_135 : decode cX4_reach 135 = .ok (.getfield 71, 3) := by decide +kernel
theorem dX4_reach_138 : decode cX4_reach 138 = .ok (.iload 5, 2) := by decide +kernel
theorem dX4_reach_140 : decode cX4_reach 140 = .ok (.iconst 1, 1) := by decide +kernel
theorem dX4_reach_141 : decode cX4_reach 141 = .ok (.isub, 1) := by decide +kernel
theorem dX4_reach_142 : decode cX4_reach 142 = .ok (.iaload, 1) := by decide +kernel
theorem dX4_reach_143 : decode cX4_reach 143 = .ok (.iastore, 1) := by decide +kernel
theorem dX4_reach_144 : decode cX4_reach 144 = .ok (.iinc 5 (-1), 3) := by decide +kernel
theorem dX4_reach_147 : decode cX4_reach 147 = .ok (.goto (-42), 3) := by decide +kernel
theorem dX4_reach_150 : decode cX4_reach 150 = .ok (.aload_n 0, 1) := by decide +kernel
theorem dX4_reach_151 : decode cX4_reach 151 = .ok (.getfield 71, 3) := by decide +kernel
theorem dX4_reach_154 : decode cX4_reach 154 = .ok (.iload 5, 2) := by decide +kernel
theorem dX4_reach_156 : decode cX4_reach 156 = .ok (.iload 4, 2) := by decide +kernel
theorem dX4_reach_158 : decode cX4_reach 158 = .ok (.iastore, 1) := by decide +kernel
theorem dX4_reach_159 : decode cX4_reach 159 = .ok (.aload_n 0, 1) := by decide +kernel
theorem dX4_reach_160 : decode cX4_reach 160 = .ok (.dup, 1) := by decide +kernel
theorem dX4_reach_161 : decode cX4_reach 161 = .ok (.getfield 172, 3) := by decide +kernel
theorem dX4_reach_164 : decode cX4_reach 164 = .ok (.iconst 1, 1) := by decide +kernel
theorem dX4_reach_165 : decode cX4_reach 165 = .ok (.iadd, 1) := by decide +kernel
theorem dX4_reach_166 : decode cX4_reach 166 = .ok (.putfield 172, 3) := by decide +kernel
theorem dX4_reach_169 : decode cX4_reach 169 = .ok (.iinc 4 1, 3) := by decide +kernel
theorem dX4_reach_172 : decode cX4_reach 172 = .ok (.goto (-101), 3) := by decide +kernel
theorem dX4_reach_175 : decode cX4_reach 175 = .ok (.aload_n 0, 1) := by decide +kernel
theorem dX4_reach_176 : decode cX4_reach 176 = .ok (.getfield 172, 3) := by decide +kernel
theorem dX4_reach_179 : decode cX4_reach 179 = .ok (.ireturn, 1) := by decide +kernel
theorem dX4_reached_0 : decode cX4_reached 0 = .ok (.aload_n 0, 1) := by decide +kernel
theorem dX4_reached_1 : decode cX4_reached 1 = .ok (.iconst 0, 1) := by decide +kernel
theorem dX4_reached_2 : decode cX4_reached 2 = .ok (.putfield 80, 3) := by decide +kernel
theorem dX4_reached_5 : decode cX4_reached 5 = .ok (.iload_n 1, 1) := by decide +kernel
theorem dX4_reached_6 : decode cX4_reached 6 = .ok (.ifCond .lt 20, 3) := by decide +kernel
theorem dX4_reached_9 : decode cX4_reached 9 = .ok (.iload_n 1, 1) := by decide +kernel
theorem dX4_reached_10 : decode cX4_reached 10 = .ok (.aload_n 0, 1) := by decide +kernel
theorem dX4_reached_11 : decode cX4_reached 11 = .ok (.getfield 172, 3) := by decide +kernel
theorem dX4_reached_14 : decode cX4_reached 14 = .ok (.if_icmp .ge 12, 3) := by decide +kernel
theorem dX4_reached_17 : decode cX4_reached 17 = .ok (.aload_n 0, 1) := by decide +kernel
theorem dX4_reached_18 : decode cX4_reached 18 = .ok (.getfield 71, 3) := by decide +kernel
theorem dX4_reached_21 : decode cX4_reached 21 = .ok (.iload_n 1, 1) := by decide +kernel
theorem dX4_reached_22 : decode cX4_reached 22 = .ok (.iaload, 1) := by decide +kernel
theorem dX4_reached_23 : decode cX4_reached 23 = .ok (.goto 8, 3) := by decide +kernel
theorem dX4_reached_26 : decode cX4_reached 26 = .ok (.aload_n 0, 1) := by decide +kernel
theorem dX4_reached_27 : decode cX4_reached 27 = .ok (.iconst 1, 1) := by decide +kernel
theorem dX4_reached_28 : decode cX4_reached 28 = .ok (.invokevirtual 89, 3) := by decide +kernel
theorem dX4_reached_31 : decode cX4_reached 31 = .ok (.ireturn, 1) := by decide +kernel
theorem dX4_averageDistance_0 : decode cX4_averageDistance 0 = .ok (.aload_n 0, 1) := by decide +kernel
theorem dX4_averageDistance_1 : decode cX4_averageDistance 1 = .ok (.aload_n 0, 1) := by decide +kernel
theorem dX4_averageDistance_2 : decode cX4_averageDistance 2 = .ok (.iload_n 1, 1) := by decide +kernel
theorem dX4_averageDistance_3 : decode cX4_averageDistance 3 = .ok (.iload_n 1, 1) := by decide +kernel
theorem dX4_averageDistance_4 : decode cX4_averageDistance 4 = .ok (.invokevirtual 157, 3) := by decide +kernel
theorem dX4_averageDistance_7 : decode cX4_averageDistance 7 = .ok (.putfield 80, 3) := by decide +kernel
theorem dX4_averageDistance_10 : decode cX4_averageDistance 10 = .ok (.aload_n 0, 1) := by decide +kernel
theorem dX4_averageDistance_11 : decode cX4_averageDistance 11 = .ok (.getfield 80, 3) := by decide +kernel
theorem dX4_averageDistance_14 : decode cX4_averageDistance 14 = .ok (.ifCond .eq 5, 3) := by decide +kernel
theorem dX4_averageDistance_17 : decode cX4_averageDistance 17 = .ok (.dconst 0, 1) := by decide +kernel
theorem dX4_averageDistance_18 : decode cX4_averageDistance 18 = .ok (.dreturn, 1) := by decide +kernel
theorem dX4_averageDistance_19 : decode cX4_averageDistance 19 = .ok (.lconst 0, 1) := by decide +kernel
theorem dX4_averageDistance_20 : decode cX4_averageDistance 20 = .ok (.lstore_n 2, 1) := by decide +kernel
theorem dX4_averageDistance_21 : decode cX4_averageDistance 21 = .ok (.iconst 0, 1) := by decide +kernel
theorem dX4_averageDistance_22 : decode cX4_averageDistance 22 = .ok (.istore 4, 2) := by decide +kernel
theorem dX4_averageDistance_24 : decode cX4_averageDistance 24 = .ok (.iconst 0, 1) := by decide +kernel
theorem dX4_averageDistance_25 : decode cX4_averageDistance 25 = .ok (.istore 5, 2) := by decide +kernel
theorem dX4_averageDistance_27 : decode cX4_averageDistance 27 = .ok (.iload 5, 2) := by decide +kernel
theorem dX4_averageDistance_29 : decode cX4_averageDistance 29 = .ok (.aload_n 0, 1) := by decide +kernel
theorem dX4_averageDistance_30 : decode cX4_averageDistance 30 = .ok (.getfield 83, 3) := by decide +kernel
theorem dX4_averageDistance_33 : decode cX4_averageDistance 33 = .ok (.if_icmp .ge 42, 3) := by decide +kernel
theorem dX4_averageDistance_36 : decode cX4_averageDistance 36 = .ok (.aload_n 0, 1) := by decide +kernel
theorem dX4_averageDistance_37 : decode cX4_averageDistance 37 = .ok (.iload_n 1, 1) := by decide +kernel
theorem dX4_averageDistance_38 : decode cX4_averageDistance 38 = .ok (.iload 5, 2) := by decide +kernel
theorem dX4_averageDistance_40 : decode cX4_averageDistance 40 = .ok (.invokevirtual 160, 3) := by decide +kernel
theorem dX4_averageDistance_43 : decode cX4_averageDistance 43 = .ok (.istore 6, 2) := by decide +kernel
theorem dX4_averageDistance_45 : decode cX4_averageDistance 45 = .ok (.iload 5, 2) := by decide +kernel
theorem dX4_averageDistance_47 : decode cX4_averageDistance 47 = .ok (.iload_n 1, 1) := by decide +kernel
theorem dX4_averageDistance_48 : decode cX4_averageDistance 48 = .ok (.if_icmp .eq 21, 3) := by decide +kernel
theorem dX4_averageDistance_51 : decode cX4_averageDistance 51 = .ok (.iload 6, 2) := by decide +kernel
theorem dX4_averageDistance_53 : decode cX4_averageDistance 53 = .ok (.iconst (-1), 1) := by decide +kernel
theorem dX4_averageDistance_54 : decode cX4_averageDistance 54 = .ok (.if_icmp .ne 6, 3) := by decide +kernel
theorem dX4_averageDistance_57 : decode cX4_averageDistance 57 = .ok (.goto 12, 3) := by decide +kernel
theorem dX4_averageDistance_60 : decode cX4_averageDistance 60 = .ok (.lload_n 2, 1) := by decide +kernel
theorem dX4_averageDistance_61 : decode cX4_averageDistance 61 = .ok (.iload 6, 2) := by decide +kernel
theorem dX4_averageDistance_63 : decode cX4_averageDistance 63 = .ok (.i2l, 1) := by decide +kernel
theorem dX4_averageDistance_64 : decode cX4_averageDistance 64 = .ok (.ladd, 1) := by decide +kernel
theorem dX4_averageDistance_65 : decode cX4_averageDistance 65 = .ok (.lstore_n 2, 1) := by decide +kernel
theorem dX4_averageDistance_66 : decode cX4_averageDistance 66 = .ok (.iinc 4 1, 3) := by decide +kernel
theorem dX4_averageDistance_69 : decode cX4_averageDistance 69 = .ok (.iinc 5 1, 3) := by decide +kernel
theorem dX4_averageDistance_72 : decode cX4_averageDistance 72 = .ok (.goto (-45), 3) := by decide +kernel
theorem dX4_averageDistance_75 : decode cX4_averageDistance 75 = .ok (.iload 4, 2) := by decide +kernel
theorem dX4_averageDistance_77 : decode cX4_averageDistance 77 = .ok (.ifCond .ne 7, 3) := by decide +kernel
theorem dX4_averageDistance_80 : decode cX4_averageDistance 80 = .ok (.dconst 0, 1) := by decide +kernel
theorem dX4_averageDistance_81 : decode cX4_averageDistance 81 = .ok (.goto 9, 3) := by decide +kernel
theorem dX4_averageDistance_84 : decode cX4_averageDistance 84 = .ok (.lload_n 2, 1) := by decide +kernel
theorem dX4_averageDistance_85 : decode cX4_averageDistance 85 = .ok (.l2d, 1) := by decide +kernel
theorem dX4_averageDistance_86 : decode cX4_averageDistance 86 = .ok (.iload 4, 2) := by decide +kernel
theorem dX4_averageDistance_88 : decode cX4_averageDistance 88 = .ok (.i2d, 1) := by decide +kernel
theorem dX4_averageDistance_89 : decode cX4_averageDistance 89 = .ok (.ddiv, 1) := by decide +kernel
theorem dX4_averageDistance_90 : decode cX4_averageDistance 90 = .ok (.dreturn, 1) := by decide +kernel
theorem dX4_detour_0 : decode cX4_detour 0 = .ok (.aload_n 0, 1) := by decide +kernel
theorem dX4_detour_1 : decode cX4_detour 1 = .ok (.aload_n 0, 1) := by decide +kernel
theorem dX4_detour_2 : decode cX4_detour 2 = .ok (.getfield 97, 3) := by decide +kernel
theorem dX4_detour_5 : decode cX4_detour 5 = .ok (.ifCond .ne 7, 3) := by decide +kernel
theorem dX4_detour_8 : decode cX4_detour 8 = .ok (.iconst 1, 1) := by decide +kernel
theorem dX4_detour_9 : decode cX4_detour 9 = .ok (.goto 32, 3) := by decide +kernel
theorem dX4_detour_12 : decode cX4_detour 12 = .ok (.aload_n 0, 1) := by decide +kernel
theorem dX4_detour_13 : decode cX4_detour 13 = .ok (.iload_n 1, 1) := by decide +kernel
theorem dX4_detour_14 : decode cX4_detour 14 = .ok (.invokevirtual 93, 3) := by decide +kernel
theorem dX4_detour_17 : decode cX4_detour 17 = .ok (.ifCond .eq 19, 3) := by decide +kernel
theorem dX4_detour_20 : decode cX4_detour 20 = .ok (.aload_n 0, 1) := by decide +kernel
theorem dX4_detour_21 : decode cX4_detour 21 = .ok (.iload_n 2, 1) := by decide +kernel
theorem dX4_detour_22 : decode cX4_detour 22 = .ok (.invokevirtual 93, 3) := by decide +kernel
theorem dX4_detour_25 : decode cX4_detour 25 = .ok (.ifCond .eq 11, 3) := by decide +kernel
theorem dX4_detour_28 : decode cX4_detour 28 = .ok (.aload_n 0, 1) := by decide +kernel
theorem dX4_detour_29 : decode cX4_detour 29 = .ok (.iload_n 3, 1) := by decide +kernel
theorem dX4_detour_30 : decode cX4_detour 30 = .ok (.invokevirtual 117, 3) := by decide +kernel
theorem dX4_detour_33 : decode cX4_detour 33 = .ok (.ifCond .ne 7, 3) := by decide +kernel
theorem dX4_detour_36 : decode cX4_detour 36 = .ok (.iconst 2, 1) := by decide +kernel
theorem dX4_detour_37 : decode cX4_detour 37 = .ok (.goto 4, 3) := by decide +kernel
theorem dX4_detour_40 : decode cX4_detour 40 = .ok (.iconst 0, 1) := by decide +kernel
theorem dX4_detour_41 : decode cX4_detour 41 = .ok (.putfield 80, 3) := by decide +kernel
theorem dX4_detour_44 : decode cX4_detour 44 = .ok (.aload_n 0, 1) := by decide +kernel
theorem dX4_detour_45 : decode cX4_detour 45 = .ok (.getfield 80, 3) := by decide +kernel
theorem dX4_detour_48 : decode cX4_detour 48 = .ok (.ifCond .eq 5, 3) := by decide +kernel
theorem dX4_detour_51 : decode cX4_detour 51 = .ok (.iconst 0, 1) := by decide +kernel
theorem dX4_detour_52 : decode cX4_detour 52 = .ok (.ireturn, 1) := by decide +kernel
theorem dX4_detour_53 : decode cX4_detour 53 = .ok (.aload_n 0, 1) := by decide +kernel
theorem dX4_detour_54 : decode cX4_detour 54 = .ok (.iload_n 1, 1) := by decide +kernel
theorem dX4_detour_55 : decode cX4_detour 55 = .ok (.iload_n 2, 1) := by decide +kernel
theorem dX4_detour_56 : decode cX4_detour 56 = .ok (.invokevirtual 160, 3) := by decide +kernel
theorem dX4_detour_59 : decode cX4_detour 59 = .ok (.istore 4, 2) := by decide +kernel
theorem dX4_detour_61 : decode cX4_detour 61 = .ok (.iload 4, 2) := by decide +kernel
theorem dX4_detour_63 : decode cX4_detour 63 = .ok (.iconst (-1), 1) := by decide +kernel
theorem dX4_detour_64 : decode cX4_detour 64 = .ok (.if_icmp .ne 9, 3) := by decide +kernel
theorem dX4_detour_67 : decode cX4_detour 67 = .ok (.aload_n 0, 1) := by decide +kernel
theorem dX4_detour_68 : decode cX4_detour 68 = .ok (.iconst 3, 1) := by decide +kernel
theorem dX4_detour_69 : decode cX4_detour 69 = .ok (.invokevirtual 89, 3) := by decide +kernel
theorem dX4_detour_72 : decode cX4_detour 72 = .ok (.ireturn, 1) := by decide +kernel
theorem dX4_detour_73 : decode cX4_detour 73 = .ok (.aload_n 0, 1) := by decide +kernel
theorem dX4_detour_74 : decode cX4_detour 74 = .ok (.getfield 19, 3) := by decide +kernel
theorem dX4_detour_77 : decode cX4_detour 77 = .ok (.iload_n 3, 1) := by decide +kernel
theorem dX4_detour_78 : decode cX4_detour 78 = .ok (.baload, 1) := by decide +kernel
theorem dX4_detour_79 : decode cX4_detour 79 = .ok (.istore 5, 2) := by decide +kernel
theorem dX4_detour_81 : decode cX4_detour 81 = .ok (.aload_n 0, 1) := by decide +kernel
theorem dX4_detour_82 : decode cX4_detour 82 = .ok (.getfield 19, 3) := by decide +kernel
theorem dX4_detour_85 : decode cX4_detour 85 = .ok (.iload_n 3, 1) := by decide +kernel
theorem dX4_detour_86 : decode cX4_detour 86 = .ok (.iconst 0, 1) := by decide +kernel
theorem dX4_detour_87 : decode cX4_detour 87 = .ok (.bastore, 1) := by decide +kernel
theorem dX4_detour_88 : decode cX4_detour 88 = .ok (.aload_n 0, 1) := by decide +kernel
theorem dX4_detour_89 : decode cX4_detour 89 = .ok (.iload_n 1, 1) := by decide +kernel
theorem dX4_detour_90 : decode cX4_detour 90 = .ok (.iload_n 2, 1) := by decide +kernel
theorem dX4_detour_91 : decode cX4_detour 91 = .ok (.invokevirtual 160, 3) := by decide +kernel
theorem dX4_detour_94 : decode cX4_detour 94 = .ok (.istore 6, 2) := by decide +kernel
theorem dX4_detour_96 : decode cX4_detour 96 = .ok (.aload_n 0, 1) := by decide +kernel
theorem dX4_detour_97 : decode cX4_detour 97 = .ok (.getfield 19, 3) := by decide +kernel
theorem dX4_detour_100 : decode cX4_detour 100 = .ok (.iload_n 3, 1) := by decide +kernel
theorem dX4_detour_101 : decode cX4_detour 101 = .ok (.iload 5, 2) := by decide +kernel
theorem dX4_detour_103 : decode cX4_detour 103 = .ok (.bastore, 1) := by decide +kernel
theorem dX4_detour_104 : decode cX4_detour 104 = .ok (.iload 6, 2) := by decide +kernel
theorem dX4_detour_106 : decode cX4_detour 106 = .ok (.iconst (-1), 1) := by decide +kernel
theorem dX4_detour_107 : decode cX4_detour 107 = .ok (.if_icmp .ne 7, 3) := by decide +kernel
theorem dX4_detour_110 : decode cX4_detour 110 = .ok (.iconst (-1), 1) := by decide +kernel
theorem dX4_detour_111 : decode cX4_detour 111 = .ok (.goto 8, 3) := by decide +kernel
theorem dX4_detour_114 : decode cX4_detour 114 = .ok (.iload 6, 2) := by decide +kernel
theorem dX4_detour_116 : decode cX4_detour 116 = .ok (.iload 4, 2) := by decide +kernel
theorem dX4_detour_118 : decode cX4_detour 118 = .ok (.isub, 1) := by decide +kernel
theorem dX4_detour_119 : decode cX4_detour 119 = .ok (.ireturn, 1) := by decide +kernel
theorem dX4_setPlace_0 : decode cX4_setPlace 0 = .ok (.aload_n 0, 1) := by decide +kernel
theorem dX4_setPlace_1 : decode cX4_setPlace 1 = .ok (.iconst 0, 1) := by decide +kernel
theorem dX4_setPlace_2 : decode cX4_setPlace 2 = .ok (.putfield 80, 3) := by decide +kernel
theorem dX4_setPlace_5 : decode cX4_setPlace 5 = .ok (.aload_n 0, 1) := by decide +kernel
theorem dX4_setPlace_6 : decode cX4_setPlace 6 = .ok (.iload_n 1, 1) := by decide +kernel
theorem dX4_setPlace_7 : decode cX4_setPlace 7 = .ok (.invokevirtual 93, 3) := by decide +kernel
theorem dX4_setPlace_10 : decode cX4_setPlace 10 = .ok (.ifCond .eq 12, 3) := by decide +kernel
theorem dX4_setPlace_13 : decode cX4_setPlace 13 = .ok (.iload_n 2, 1) := by decide +kernel
theorem dX4_setPlace_14 : decode cX4_setPlace 14 = .ok (.ifCond .lt 8, 3) := by decide +kernel
theorem dX4_setPlace_17 : decode cX4_setPlace 17 = .ok (.iload_n 2, 1) := by decide +kernel
theorem dX4_setPlace_18 : decode cX4_setPlace 18 = .ok (.iconst 4, 1) := by decide +kernel
theorem dX4_setPlace_19 : decode cX4_setPlace 19 = .ok (.if_icmp .lt 17, 3) := by decide +kernel
theorem dX4_setPlace_22 : decode cX4_setPlace 22 = .ok (.aload_n 0, 1) := by decide +kernel
theorem dX4_setPlace_23 : decode cX4_setPlace 23 = .ok (.iconst 1, 1) := by decide +kernel
theorem dX4_setPlace_24 : decode cX4_setPlace 24 = .ok (.invokevirtual 89, 3) := by decide +kernel
theorem dX4_setPlace_27 : decode cX4_setPlace 27 = .ok (.ifCond .eq 7, 3) := by decide +kernel
theorem dX4_setPlace_30 : decode cX4_setPlace 30 = .ok (.iconst 1, 1) := by decide +kernel
theorem dX4_setPlace_31 : decode cX4_setPlace 31 = .ok (.goto 4, 3) := by decide +kernel
theorem dX4_setPlace_34 : decode cX4_setPlace 34 = .ok (.iconst 0, 1) := by decide +kernel
theorem dX4_setPlace_35 : decode cX4_setPlace 35 = .ok (.ireturn, 1) := by decide +kernel
theorem dX4_setPlace_36 : decode cX4_setPlace 36 = .ok (.aload_n 0, 1) := by decide +kernel
theorem dX4_setPlace_37 : decode cX4_setPlace 37 = .ok (.getfield 49, 3) := by decide +kernel
theorem dX4_setPlace_40 : decode cX4_setPlace 40 = .ok (.iconst 4, 1) := by decide +kernel
theorem dX4_setPlace_41 : decode cX4_setPlace 41 = .ok (.iload_n 1, 1) := by decide +kernel
theorem dX4_setPlace_42 : decode cX4_setPlace 42 = .ok (.imul, 1) := by decide +kernel
theorem dX4_setPlace_43 : decode cX4_setPlace 43 = .ok (.iload_n 2, 1) := by decide +kernel
theorem dX4_setPlace_44 : decode cX4_setPlace 44 = .ok (.iadd, 1) := by decide +kernel
theorem dX4_setPlace_45 : decode cX4_setPlace 45 = .ok (.baload, 1) := by decide +kernel
theorem dX4_setPlace_46 : decode cX4_setPlace 46 = .ok (.istore 4, 2) := by decide +kernel
theorem dX4_setPlace_48 : decode cX4_setPlace 48 = .ok (.aload_n 0, 1) := by decide +kernel
theorem dX4_setPlace_49 : decode cX4_setPlace 49 = .ok (.getfield 49, 3) := by decide +kernel
theorem dX4_setPlace_52 : decode cX4_setPlace 52 = .ok (.iconst 4, 1) := by decide +kernel
theorem dX4_setPlace_53 : decode cX4_setPlace 53 = .ok (.iload_n 1, 1) := by decide +kernel
theorem dX4_setPlace_54 : decode cX4_setPlace 54 = .ok (.imul, 1) := by decide +kernel
theorem dX4_setPlace_55 : decode cX4_setPlace 55 = .ok (.iload_n 2, 1) := by decide +kernel
theorem dX4_setPlace_56 : decode cX4_setPlace 56 = .ok (.iadd, 1) := by decide +kernel
theorem dX4_setPlace_57 : decode cX4_setPlace 57 = .ok (.iload_n 3, 1) := by decide +kernel
theorem dX4_setPlace_58 : decode cX4_setPlace 58 = .ok (.bastore, 1) := by decide +kernel
theorem dX4_setPlace_59 : decode cX4_setPlace 59 = .ok (.iload 4, 2) := by decide +kernel
theorem dX4_setPlace_61 : decode cX4_setPlace 61 = .ok (.ireturn, 1) := by decide +kernel
theorem dX4_nearest_0 : decode cX4_nearest 0 = .ok (.aload_n 0, 1) := by decide +kernel
theorem dX4_nearest_1 : decode cX4_nearest 1 = .ok (.aload_n 0, 1) := by decide +kernel
theorem dX4_nearest_2 : decode cX4_nearest 2 = .ok (.getfield 97, 3) := by decide +kernel
theorem dX4_nearest_5 : decode cX4_nearest 5 = .ok (.ifCond .ne 7, 3) := by decide +kernel
theorem dX4_nearest_8 : decode cX4_nearest 8 = .ok (.iconst 1, 1) := by decide +kernel
theorem dX4_nearest_9 : decode cX4_nearest 9 = .ok (.goto 25, 3) := by decide +kernel
theorem dX4_nearest_12 : decode cX4_nearest 12 = .ok (.aload_n 0, 1) := by decide +kernel
theorem dX4_nearest_13 : decode cX4_nearest 13 = .ok (.iload_n 1, 1) := by decide +kernel
theorem dX4_nearest_14 : decode cX4_nearest 14 = .ok (.invokevirtual 93, 3) := by decide +kernel
theorem dX4_nearest_17 : decode cX4_nearest 17 = .ok (.ifCond .eq 12, 3) := by decide +kernel
theorem dX4_nearest_20 : decode cX4_nearest 20 = .ok (.iload_n 2, 1) := by decide +kernel
theorem dX4_nearest_21 : decode cX4_nearest 21 = .ok (.ifCond .lt 8, 3) := by decide +kernel
theorem dX4_nearest_24 : decode cX4_nearest 24 = .ok (.iload_n 2, 1) := by decide +kernel
theorem dX4_nearest_25 : decode cX4_nearest 25 = .ok (.iconst 4, 1) := by decide +kernel
theorem dX4_nearest_26 : decode cX4_nearest 26 = .ok (.if_icmp .lt 7, 3) := by decide +kernel
theorem dX4_nearest_29 : decode cX4_nearest 29 = .ok (.iconst 2, 1) := by decide +kernel
theorem dX4_nearest_30 : decode cX4_nearest 30 = .ok (.goto 4, 3) := by decide +kernel
theorem dX4_nearest_33 : decode cX4_nearest 33 = .ok (.iconst 0, 1) := by decide +kernel
theorem dX4_nearest_34 : decode cX4_nearest 34 = .ok (.putfield 80, 3) := by decide +kernel
theorem dX4_nearest_37 : decode cX4_nearest 37 = .ok (.aload_n 0, 1) := by decide +kernel
theorem dX4_nearest_38 : decode cX4_nearest 38 = .ok (.getfield 80, 3) := by decide +kernel
theorem dX4_nearest_41 : decode cX4_nearest 41 = .ok (.ifCond .eq 5, 3) := by decide +kernel
theorem dX4_nearest_44 : decode cX4_nearest 44 = .ok (.iconst 0, 1) := by decide +kernel
theorem dX4_nearest_45 : decode cX4_nearest 45 = .ok (.ireturn, 1) := by decide +kernel
theorem dX4_nearest_46 : decode cX4_nearest 46 = .ok (.iconst (-1), 1) := by decide +kernel
theorem dX4_nearest_47 : decode cX4_nearest 47 = .ok (.istore_n 3, 1) := by decide +kernel
theorem dX4_nearest_48 : decode cX4_nearest 48 = .ok (.iconst 0, 1) := by decide +kernel
theorem dX4_nearest_49 : decode cX4_nearest 49 = .ok (.istore 4, 2) := by decide +kernel
theorem dX4_nearest_51 : decode cX4_nearest 51 = .ok (.iconst 0, 1) := by decide +kernel
theorem dX4_nearest_52 : decode cX4_nearest 52 = .ok (.istore 5, 2) := by decide +kernel
theorem dX4_nearest_54 : decode cX4_nearest 54 = .ok (.iload 5, 2) := by decide +kernel
theorem dX4_nearest_56 : decode cX4_nearest 56 = .ok (.aload_n 0, 1) := by decide +kernel
theorem dX4_nearest_57 : decode cX4_nearest 57 = .ok (.getfield 83, 3) := by decide +kernel
theorem dX4_nearest_60 : decode cX4_nearest 60 = .ok (.if_icmp .ge 64, 3) := by decide +kernel
theorem dX4_nearest_63 : decode cX4_nearest 63 = .ok (.aload_n 0, 1) := by decide +kernel
theorem dX4_nearest_64 : decode cX4_nearest 64 = .ok (.getfield 49, 3) := by decide +kernel
theorem dX4_nearest_67 : decode cX4_nearest 67 = .ok (.iconst 4, 1) := by decide +kernel
theorem dX4_nearest_68 : decode cX4_nearest 68 = .ok (.iload 5, 2) := by decide +kernel
theorem dX4_nearest_70 : decode cX4_nearest 70 = .ok (.imul, 1) := by decide +kernel
theorem dX4_nearest_71 : decode cX4_nearest 71 = .ok (.iload_n 2, 1) := by decide +kernel
theorem dX4_nearest_72 : decode cX4_nearest 72 = .ok (.iadd, 1) := by decide +kernel
theorem dX4_nearest_73 : decode cX4_nearest 73 = .ok (.baload, 1) := by decide +kernel
theorem dX4_nearest_74 : decode cX4_nearest 74 = .ok (.ifCond .eq 13, 3) := by decide +kernel
theorem dX4_nearest_77 : decode cX4_nearest 77 = .ok (.aload_n 0, 1) := by decide +kernel
theorem dX4_nearest_78 : decode cX4_nearest 78 = .ok (.iload_n 1, 1) := by decide +kernel
theorem dX4_nearest_79 : decode cX4_nearest 79 = .ok (.iload 5, 2) := by decide +kernel
theorem dX4_nearest_81 : decode cX4_nearest 81 = .ok (.invokevirtual 160, 3) := by decide +kernel
theorem dX4_nearest_84 : decode cX4_nearest 84 = .ok (.goto 4, 3) := by decide +kernel
theorem dX4_nearest_87 : decode cX4_nearest 87 = .ok (.iconst (-1), 1) := by decide +kernel
theorem dX4_nearest_88 : decode cX4_nearest 88 = .ok (.istore 6, 2) := by decide +kernel
theorem dX4_nearest_90 : decode cX4_nearest 90 = .ok (.iload 6, 2) := by decide +kernel
theorem dX4_nearest_92 : decode cX4_nearest 92 = .ok (.iconst (-1), 1) := by decide +kernel
theorem dX4_nearest_93 : decode cX4_nearest 93 = .ok (.if_icmp .eq 25, 3) := by decide +kernel
theorem dX4_nearest_96 : decode cX4_nearest 96 = .ok (.iload_n 3, 1) := by decide +kernel
theorem dX4_nearest_97 : decode cX4_nearest 97 = .ok (.iconst (-1), 1) := by decide +kernel
theorem dX4_nearest_98 : decode cX4_nearest 98 = .ok (.if_icmp .eq 13, 3) := by decide +kernel
theorem dX4_nearest_101 : decode cX4_nearest 101 = .ok (.iload 6, 2) := by decide +kernel
theorem dX4_nearest_103 : decode cX4_nearest 103 = .ok (.iload 4, 2) := by decide +kernel
theorem dX4_nearest_105 : decode cX4_nearest 105 = .ok (.if_icmp .lt 6, 3) := by decide +kernel
theorem dX4_nearest_108 : decode cX4_nearest 108 = .ok (.goto 10, 3) := by decide +kernel
theorem dX4_nearest_111 : decode cX4_nearest 111 = .ok (.iload 5, 2) := by decide +kernel
theorem dX4_nearest_113 : decode cX4_nearest 113 = .ok (.istore_n 3, 1) := by decide +kernel
theorem dX4_nearest_114 : decode cX4_nearest 114 = .ok (.iload 6, 2) := by decide +kernel
theorem dX4_nearest_116 : decode cX4_nearest 116 = .ok (.istore 4, 2) := by decide +kernel
theorem dX4_nearest_118 : decode cX4_nearest 118 = .ok (.iinc 5 1, 3) := by decide +kernel
theorem dX4_nearest_121 : decode cX4_nearest 121 = .ok (.goto (-67), 3) := by decide +kernel
theorem dX4_nearest_124 : decode cX4_nearest 124 = .ok (.iload_n 3, 1) := by decide +kernel
theorem dX4_nearest_125 : decode cX4_nearest 125 = .ok (.iconst (-1), 1) := by decide +kernel
theorem dX4_nearest_126 : decode cX4_nearest 126 = .ok (.if_icmp .ne 11, 3) := by decide +kernel
theorem dX4_nearest_129 : decode cX4_nearest 129 = .ok (.aload_n 0, 1) := by decide +kernel
theorem dX4_nearest_130 : decode cX4_nearest 130 = .ok (.iconst 3, 1) := by decide +kernel
theorem dX4_nearest_131 : decode cX4_nearest 131 = .ok (.invokevirtual 89, 3) := by decide +kernel
theorem dX4_nearest_134 : decode cX4_nearest 134 = .ok (.goto 4, 3) := by decide +kernel
theorem dX4_nearest_137 : decode cX4_nearest 137 = .ok (.iload_n 3, 1) := by decide +kernel
theorem dX4_nearest_138 : decode cX4_nearest 138 = .ok (.ireturn, 1) := by decide +kernel
theorem dX4_push_0 : decode cX4_push 0 = .ok (.aload_n 0, 1) := by decide +kernel
theorem dX4_push_1 : decode cX4_push 1 = .ok (.iconst 0, 1) := by decide +kernel
theorem dX4_push_2 : decode cX4_push 2 = .ok (.putfield 80, 3) := by decide +kernel
theorem dX4_push_5 : decode cX4_push 5 = .ok (.aload_n 0, 1) := by decide +kernel
theorem dX4_push_6 : decode cX4_push 6 = .ok (.getfield 175, 3) := by decide +kernel
theorem dX4_push_9 : decode cX4_push 9 = .ok (.bipush 8, 2) := by decide +kernel
theorem dX4_push_11 : decode cX4_push 11 = .ok (.if_icmp .ne 9, 3) := by decide +kernel
theorem dX4_push_14 : decode cX4_push 14 = .ok (.aload_n 0, 1) := by decide +kernel
theorem dX4_push_15 : decode cX4_push 15 = .ok (.iconst 1, 1) := by decide +kernel
theorem dX4_push_16 : decode cX4_push 16 = .ok (.invokevirtual 89, 3) := by decide +kernel
theorem dX4_push_19 : decode cX4_push 19 = .ok (.ireturn, 1) := by decide +kernel
theorem dX4_push_20 : decode cX4_push 20 = .ok (.aload_n 0, 1) := by decide +kernel
theorem dX4_push_21 : decode cX4_push 21 = .ok (.getfield 52, 3) := by decide +kernel
theorem dX4_push_24 : decode cX4_push 24 = .ok (.aload_n 0, 1) := by decide +kernel
theorem dX4_push_25 : decode cX4_push 25 = .ok (.getfield 175, 3) := by decide +kernel
theorem dX4_push_28 : decode cX4_push 28 = .ok (.aload_n 0, 1) := by decide +kernel
theorem dX4_push_29 : decode cX4_push 29 = .ok (.getfield 86, 3) := by decide +kernel
theorem dX4_push_32 : decode cX4_push 32 = .ok (.iastore, 1) := by decide +kernel
theorem dX4_push_33 : decode cX4_push 33 = .ok (.aload_n 0, 1) := by decide +kernel
theorem dX4_push_34 : decode cX4_push 34 = .ok (.getfield 65, 3) := by decide +kernel
theorem dX4_push_37 : decode cX4_push 37 = .ok (.aload_n 0, 1) := by decide +kernel
theorem dX4_push_38 : decode cX4_push 38 = .ok (.getfield 175, 3) := by decide +kernel
theorem dX4_push_41 : decode cX4_push 41 = .ok (.aload_n 0, 1) := by decide +kernel
theorem dX4_push_42 : decode cX4_push 42 = .ok (.getfield 26, 3) := by decide +kernel
theorem dX4_push_45 : decode cX4_push 45 = .ok (.iastore, 1) := by decide +kernel
theorem dX4_push_46 : decode cX4_push 46 = .ok (.iconst 0, 1) := by decide +kernel
theorem dX4_push_47 : decode cX4_push 47 = .ok (.istore_n 1, 1) := by decide +kernel
theorem dX4_push_48 : decode cX4_push 48 = .ok (.iload_n 1, 1) := by decide +kernel
theorem dX4_push_49 : decode cX4_push 49 = .ok (.bipush 64, 2) := by decide +kernel
theorem dX4_push_51 : decode cX4_push 51 = .ok (.if_icmp .ge 49, 3) := by decide +kernel
theorem dX4_push_54 : decode cX4_push 54 = .ok (.aload_n 0, 1) := by decide +kernel
theorem dX4_push_55 : decode cX4_push 55 = .ok (.getfield 55, 3) := by decide +kernel
theorem dX4_push_58 : decode cX4_push 58 = .ok (.bipush 64, 2) := by decide +kernel
theorem dX4_push_60 : decode cX4_push 60 = .ok (.aload_n 0, 1) := by decide +kernel
theorem dX4_push_61 : decode cX4_push 61 = .ok (.getfield 175, 3) := by decide +kernel
theorem dX4_push_64 : decode cX4_push 64 = .ok (.imul, 1) := by decide +kernel
theorem dX4_push_65 : decode cX4_push 65 = .ok (.iload_n 1, 1) := by decide +kernel
theorem dX4_push_66 : decode cX4_push 66 = .ok (.iadd, 1) := by decide +kernel
theorem dX4_push_67 : decode cX4_push 67 = .ok (.aload_n 0, 1) := by decide +kernel
theorem dX4_push_68 : decode cX4_push 68 = .ok (.getfield 16, 3) := by decide +kernel
theorem dX4_push_71 : decode cX4_push 71 = .ok (.iload_n 1, 1) := by decide +kernel
theorem dX4_push_72 : decode cX4_push 72 = .ok (.iaload, 1) := by decide +kernel
theorem dX4_push_73 : decode cX4_push 73 = .ok (.iastore, 1) := by decide +kernel
theorem dX4_push_74 : decode cX4_push 74 = .ok (.aload_n 0, 1) := by decide +kernel
theorem dX4_push_75 : decode cX4_push 75 = .ok (.getfield 58, 3) := by decide +kernel
theorem dX4_push_78 : decode cX4_push 78 = .ok (.bipush 64, 2) := by decide +kernel
theorem dX4_push_80 : decode cX4_push 80 = .ok (.aload_n 0, 1) := by decide +kernel
theorem dX4_push_81 : decode cX4_push 81 = .ok (.getfield 175, 3) := by decide +kernel
theorem dX4_push_84 : decode cX4_push 84 = .ok (.imul, 1) := by decide +kernel
theorem dX4_push_85 : decode cX4_push 85 = .ok (.iload_n 1, 1) := by decide +kernel
theorem dX4_push_86 : decode cX4_push 86 = .ok (.iadd, 1) := by decide +kernel
theorem dX4_push_87 : decode cX4_push 87 = .ok (.aload_n 0, 1) := by decide +kernel
theorem dX4_push_88 : decode cX4_push 88 = .ok (.getfield 19, 3) := by decide +kernel
theorem dX4_push_91 : decode cX4_push 91 = .ok (.iload_n 1, 1) := by decide +kernel
theorem dX4_push_92 : decode cX4_push 92 = .ok (.baload, 1) := by decide +kernel
theorem dX4_push_93 : decode cX4_push 93 = .ok (.bastore, 1) := by decide +kernel
theorem dX4_push_94 : decode cX4_push 94 = .ok (.iinc 1 1, 3) := by decide +kernel
theorem dX4_push_97 : decode cX4_push 97 = .ok (.goto (-49), 3) := by decide +kernel
theorem dX4_push_100 : decode cX4_push 100 = .ok (.iconst 0, 1) := by decide +kernel
theorem dX4_push_101 : decode cX4_push 101 = .ok (.istore_n 1, 1) := by decide +kernel
theorem dX4_push_102 : decode cX4_push 102 = .ok (.iload_n 1, 1) := by decide +kernel
theorem dX4_push_103 : decode cX4_push 103 = .ok (.aload_n 0, 1) := by decide +kernel
theorem dX4_push_104 : decode cX4_push 104 = .ok (.getfield 23, 3) := by decide +kernel
theorem dX4_push_107 : decode cX4_push 107 = .ok (.arraylength, 1) := by decide +kernel
theorem dX4_push_108 : decode cX4_push 108 = .ok (.if_icmp .ge 30, 3) := by decide +kernel
theorem dX4_push_111 : decode cX4_push 111 = .ok (.aload_n 0, 1) := by decide +kernel
theorem dX4_push_112 : decode cX4_push 112 = .ok (.getfield 62, 3) := by decide +kernel
theorem dX4_push_115 : decode cX4_push 115 = .ok (.sipush 4096, 3) := by decide +kernel
theorem dX4_push_118 : decode cX4_push 118 = .ok (.aload_n 0, 1) := by decide +kernel
theorem dX4_push_119 : decode cX4_push 119 = .ok (.getfield 175, 3) := by decide +kernel
theorem dX4_push_122 : decode cX4_push 122 = .ok (.imul, 1) := by decide +kernel
theorem dX4_push_123 : decode cX4_push 123 = .ok (.iload_n 1, 1) := by decide +kernel
theorem dX4_push_124 : decode cX4_push 124 = .ok (.iadd, 1) := by decide +kernel
theorem dX4_push_125 : decode cX4_push 125 = .ok (.aload_n 0, 1) := by decide +kernel
theorem dX4_push_126 : decode cX4_push 126 = .ok (.getfield 23, 3) := by decide +kernel
theorem dX4_push_129 : decode cX4_push 129 = .ok (.iload_n 1, 1) := by decide +kernel
theorem dX4_push_130 : decode cX4_push 130 = .ok (.iaload, 1) := by decide +kernel
theorem dX4_push_131 : decode cX4_push 131 = .ok (.iastore, 1) := by decide +kernel
theorem dX4_push_132 : decode cX4_push 132 = .ok (.iinc 1 1, 3) := by decide +kernel
theorem dX4_push_135 : decode cX4_push 135 = .ok (.goto (-33), 3) := by decide +kernel
theorem dX4_push_138 : decode cX4_push 138 = .ok (.aload_n 0, 1) := by decide +kernel
theorem dX4_push_139 : decode cX4_push 139 = .ok (.dup, 1) := by decide +kernel
theorem dX4_push_140 : decode cX4_push 140 = .ok (.getfield 175, 3) := by decide +kernel
theorem dX4_push_143 : decode cX4_push 143 = .ok (.iconst 1, 1) := by decide +kernel
theorem dX4_push_144 : decode cX4_push 144 = .ok (.iadd, 1) := by decide +kernel
theorem dX4_push_145 : decode cX4_push 145 = .ok (.putfield 175, 3) := by decide +kernel
theorem dX4_push_148 : decode cX4_push 148 = .ok (.aload_n 0, 1) := by decide +kernel
theorem dX4_push_149 : decode cX4_push 149 = .ok (.getfield 175, 3) := by decide +kernel
theorem dX4_push_152 : decode cX4_push 152 = .ok (.ireturn, 1) := by decide +kernel
theorem dX4_pop_0 : decode cX4_pop 0 = .ok (.aload_n 0, 1) := by decide +kernel
theorem dX4_pop_1 : decode cX4_pop 1 = .ok (.iconst 0, 1) := by decide +kernel
theorem dX4_pop_2 : decode cX4_pop 2 = .ok (.putfield 80, 3) := by decide +kernel
theorem dX4_pop_5 : decode cX4_pop 5 = .ok (.aload_n 0, 1) := by decide +kernel
theorem dX4_pop_6 : decode cX4_pop 6 = .ok (.getfield 175, 3) := by decide +kernel
theorem dX4_pop_9 : decode cX4_pop 9 = .ok (.ifCond .ne 9, 3) := by decide +kernel
theorem dX4_pop_12 : decode cX4_pop 12 = .ok (.aload_n 0, 1) := by decide +kernel
theorem dX4_pop_13 : decode cX4_pop 13 = .ok (.iconst 1, 1) := by decide +kernel
theorem dX4_pop_14 : decode cX4_pop 14 = .ok (.invokevirtual 89, 3) := by decide +kernel
theorem dX4_pop_17 : decode cX4_pop 17 = .ok (.ireturn, 1) := by decide +kernel
theorem dX4_pop_18 : decode cX4_pop 18 = .ok (.aload_n 0, 1) := by decide +kernel
theorem dX4_pop_19 : decode cX4_pop 19 = .ok (.dup, 1) := by decide +kernel
theorem dX4_pop_20 : decode cX4_pop 20 = .ok (.getfield 175, 3) := by decide +kernel
theorem dX4_pop_23 : decode cX4_pop 23 = .ok (.iconst 1, 1) := by decide +kernel
theorem dX4_pop_24 : decode cX4_pop 24 = .ok (.isub, 1) := by decide +kernel
theorem dX4_pop_25 : decode cX4_pop 25 = .ok (.putfield 175, 3) := by decide +kernel
theorem dX4_pop_28 : decode cX4_pop 28 = .ok (.aload_n 0, 1) := by decide +kernel
theorem dX4_pop_29 : decode cX4_pop 29 = .ok (.getfield 52, 3) := by decide +kernel
theorem dX4_pop_32 : decode cX4_pop 32 = .ok (.aload_n 0, 1) := by decide +kernel
theorem dX4_pop_33 : decode cX4_pop 33 = .ok (.getfield 175, 3) := by decide +kernel
theorem dX4_pop_36 : decode cX4_pop 36 = .ok (.iaload, 1) := by decide +kernel
theorem dX4_pop_37 : decode cX4_pop 37 = .ok (.istore_n 1, 1) := by decide +kernel
theorem dX4_pop_38 : decode cX4_pop 38 = .ok (.aload_n 0, 1) := by decide +kernel
theorem dX4_pop_39 : decode cX4_pop 39 = .ok (.aload_n 0, 1) := by decide +kernel
theorem dX4_pop_40 : decode cX4_pop 40 = .ok (.getfield 65, 3) := by decide +kernel
theorem dX4_pop_43 : decode cX4_pop 43 = .ok (.aload_n 0, 1) := by decide +kernel
theorem dX4_pop_44 : decode cX4_pop 44 = .ok (.getfield 175, 3) := by decide +kernel
theorem dX4_pop_47 : decode cX4_pop 47 = .ok (.iaload, 1) := by decide +kernel
theorem dX4_pop_48 : decode cX4_pop 48 = .ok (.putfield 26, 3) := by decide +kernel
theorem dX4_pop_51 : decode cX4_pop 51 = .ok (.iconst 0, 1) := by decide +kernel
theorem dX4_pop_52 : decode cX4_pop 52 = .ok (.istore_n 2, 1) := by decide +kernel
theorem dX4_pop_53 : decode cX4_pop 53 = .ok (.iload_n 2, 1) := by decide +kernel
theorem dX4_pop_54 : decode cX4_pop 54 = .ok (.iload_n 1, 1) := by decide +kernel
theorem dX4_pop_55 : decode cX4_pop 55 = .ok (.if_icmp .ge 93, 3) := by decide +kernel
theorem dX4_pop_58 : decode cX4_pop 58 = .ok (.aload_n 0, 1) := by decide +kernel
theorem dX4_pop_59 : decode cX4_pop 59 = .ok (.getfield 16, 3) := by decide +kernel
theorem dX4_pop_62 : decode cX4_pop 62 = .ok (.iload_n 2, 1) := by decide +kernel
theorem dX4_pop_63 : decode cX4_pop 63 = .ok (.aload_n 0, 1) := by decide +kernel
theorem dX4_pop_64 : decode cX4_pop 64 = .ok (.getfield 55, 3) := by decide +kernel
theorem dX4_pop_67 : decode cX4_pop 67 = .ok (.bipush 64, 2) := by decide +kernel
theorem dX4_pop_69 : decode cX4_pop 69 = .ok (.aload_n 0, 1) := by decide +kernel
theorem dX4_pop_70 : decode cX4_pop 70 = .ok (.getfield 175, 3) := by decide +kernel
theorem dX4_pop_73 : decode cX4_pop 73 = .ok (.imul, 1) := by decide +kernel
theorem dX4_pop_74 : decode cX4_pop 74 = .ok (.iload_n 2, 1) := by decide +kernel
theorem dX4_pop_75 : decode cX4_pop 75 = .ok (.iadd, 1) := by decide +kernel
theorem dX4_pop_76 : decode cX4_pop 76 = .ok (.iaload, 1) := by decide +kernel
theorem dX4_pop_77 : decode cX4_pop 77 = .ok (.iastore, 1) := by decide +kernel
theorem dX4_pop_78 : decode cX4_pop 78 = .ok (.aload_n 0, 1) := by decide +kernel
theorem dX4_pop_79 : decode cX4_pop 79 = .ok (.getfield 19, 3) := by decide +kernel
theorem dX4_pop_82 : decode cX4_pop 82 = .ok (.iload_n 2, 1) := by decide +kernel
theorem dX4_pop_83 : decode cX4_pop 83 = .ok (.aload_n 0, 1) := by decide +kernel
theorem dX4_pop_84 : decode cX4_pop 84 = .ok (.getfield 58, 3) := by decide +kernel
theorem dX4_pop_87 : decode cX4_pop 87 = .ok (.bipush 64, 2) := by decide +kernel
theorem dX4_pop_89 : decode cX4_pop 89 = .ok (.aload_n 0, 1) := by decide +kernel
theorem dX4_pop_90 : decode cX4_pop 90 = .ok (.getfield 175, 3) := by decide +kernel
theorem dX4_pop_93 : decode cX4_pop 93 = .ok (.imul, 1) := by decide +kernel
theorem dX4_pop_94 : decode cX4_pop 94 = .ok (.iload_n 2, 1) := by decide +kernel
theorem dX4_pop_95 : decode cX4_pop 95 = .ok (.iadd, 1) := by decide +kernel
theorem dX4_pop_96 : decode cX4_pop 96 = .ok (.baload, 1) := by decide +kernel
theorem dX4_pop_97 : decode cX4_pop 97 = .ok (.bastore, 1) := by decide +kernel
theorem dX4_pop_98 : decode cX4_pop 98 = .ok (.iconst 0, 1) := by decide +kernel
theorem dX4_pop_99 : decode cX4_pop 99 = .ok (.istore_n 3, 1) := by decide +kernel
theorem dX4_pop_100 : decode cX4_pop 100 = .ok (.iload_n 3, 1) := by decide +kernel
theorem dX4_pop_101 : decode cX4_pop 101 = .ok (.iload_n 1, 1) := by decide +kernel
theorem dX4_pop_102 : decode cX4_pop 102 = .ok (.if_icmp .ge 40, 3) := by decide +kernel
theorem dX4_pop_105 : decode cX4_pop 105 = .ok (.aload_n 0, 1) := by decide +kernel
theorem dX4_pop_106 : decode cX4_pop 106 = .ok (.getfield 23, 3) := by decide +kernel
theorem dX4_pop_109 : decode cX4_pop 109 = .ok (.bipush 64, 2) := by decide +kernel
theorem dX4_pop_111 : decode cX4_pop 111 = .ok (.iload_n 2, 1) := by decide +kernel
theorem dX4_pop_112 : decode cX4_pop 112 = .ok (.imul, 1) := by decide +kernel
theorem dX4_pop_113 : decode cX4_pop 113 = .ok (.iload_n 3, 1) := by decide +kernel
theorem dX4_pop_114 : decode cX4_pop 114 = .ok (.iadd, 1) := by decide +kernel
theorem dX4_pop_115 : decode cX4_pop 115 = .ok (.aload_n 0, 1) := by decide +kernel
theorem dX4_pop_116 : decode cX4_pop 116 = .ok (.getfield 62, 3) := by decide +kernel
theorem dX4_pop_119 : decode cX4_pop 119 = .ok (.sipush 4096, 3) := by decide +kernel
theorem dX4_pop_122 : decode cX4_pop 122 = .ok (.aload_n 0, 1) := by decide +kernel
theorem dX4_pop_123 : decode cX4_pop 123 = .ok (.getfield 175, 3) := by decide +kernel
theorem dX4_pop_126 : decode cX4_pop 126 = .ok (.imul, 1) := by decide +kernel
theorem dX4_pop_127 : decode cX4_pop 127 = .ok (.bipush 64, 2) := by decide +kernel
theorem dX4_pop_129 : decode cX4_pop 129 = .ok (.iload_n 2, 1) := by decide +kernel
theorem dX4_pop_130 : decode cX4_pop 130 = .ok (.imul, 1) := by decide +kernel
theorem dX4_pop_131 : decode cX4_pop 131 = .ok (.iadd, 1) := by decide +kernel
theorem dX4_pop_132 : decode cX4_pop 132 = .ok (.iload_n 3, 1) := by decide +kernel
theorem dX4_pop_133 : decode cX4_pop 133 = .ok (.iadd, 1) := by decide +kernel
theorem dX4_pop_134 : decode cX4_pop 134 = .ok (.iaload, 1) := by decide +kernel
theorem dX4_pop_135 : decode cX4_pop 135 = .ok (.iastore, 1) := by decide +kernel
theorem dX4_pop_136 : decode cX4_pop 136 = .ok (.iinc 3 1, 3) := by decide +kernel
theorem dX4_pop_139 : decode cX4_pop 139 = .ok (.goto (-39), 3) := by decide +kernel
theorem dX4_pop_142 : decode cX4_pop 142 = .ok (.iinc 2 1, 3) := by decide +kernel
theorem dX4_pop_145 : decode cX4_pop 145 = .ok (.goto (-92), 3) := by decide +kernel
theorem dX4_pop_148 : decode cX4_pop 148 = .ok (.aload_n 0, 1) := by decide +kernel
theorem dX4_pop_149 : decode cX4_pop 149 = .ok (.invokevirtual 120, 3) := by decide +kernel
theorem dX4_pop_152 : decode cX4_pop 152 = .ok (.ireturn, 1) := by decide +kernel
theorem dX4_digest_0 : decode cX4_digest 0 = .ok (.aload_n 0, 1) := by decide +kernel
theorem dX4_digest_1 : decode cX4_digest 1 = .ok (.iconst 0, 1) := by decide +kernel
theorem dX4_digest_2 : decode cX4_digest 2 = .ok (.putfield 80, 3) := by decide +kernel
theorem dX4_digest_5 : decode cX4_digest 5 = .ok (.ldc2_w 178, 3) := by decide +kernel
theorem dX4_digest_8 : decode cX4_digest 8 = .ok (.aload_n 0, 1) := by decide +kernel
theorem dX4_digest_9 : decode cX4_digest 9 = .ok (.getfield 83, 3) := by decide +kernel
theorem dX4_digest_12 : decode cX4_digest 12 = .ok (.i2l, 1) := by decide +kernel
theorem dX4_digest_13 : decode cX4_digest 13 = .ok (.ladd, 1) := by decide +kernel
theorem dX4_digest_14 : decode cX4_digest 14 = .ok (.ldc2_w 180, 3) := by decide +kernel
theorem dX4_digest_17 : decode cX4_digest 17 = .ok (.lmul, 1) := by decide +kernel
theorem dX4_digest_18 : decode cX4_digest 18 = .ok (.aload_n 0, 1) := by decide +kernel
theorem dX4_digest_19 : decode cX4_digest 19 = .ok (.getfield 86, 3) := by decide +kernel
theorem dX4_digest_22 : decode cX4_digest 22 = .ok (.i2l, 1) := by decide +kernel
theorem dX4_digest_23 : decode cX4_digest 23 = .ok (.ladd, 1) := by decide +kernel
theorem dX4_digest_24 : decode cX4_digest 24 = .ok (.ldc2_w 180, 3) := by decide +kernel
theorem dX4_digest_27 : decode cX4_digest 27 = .ok (.lmul, 1) := by decide +kernel
theorem dX4_digest_28 : decode cX4_digest 28 = .ok (.aload_n 0, 1) := by decide +kernel
theorem dX4_digest_29 : decode cX4_digest 29 = .ok (.getfield 175, 3) := by decide +kernel
theorem dX4_digest_32 : decode cX4_digest 32 = .ok (.i2l, 1) := by decide +kernel
theorem dX4_digest_33 : decode cX4_digest 33 = .ok (.ladd, 1) := by decide +kernel
theorem dX4_digest_34 : decode cX4_digest 34 = .ok (.ldc2_w 180, 3) := by decide +kernel
theorem dX4_digest_37 : decode cX4_digest 37 = .ok (.lmul, 1) := by decide +kernel
theorem dX4_digest_38 : decode cX4_digest 38 = .ok (.aload_n 0, 1) := by decide +kernel
theorem dX4_digest_39 : decode cX4_digest 39 = .ok (.getfield 101, 3) := by decide +kernel
theorem dX4_digest_42 : decode cX4_digest 42 = .ok (.i2l, 1) := by decide +kernel
theorem dX4_digest_43 : decode cX4_digest 43 = .ok (.ladd, 1) := by decide +kernel
theorem dX4_digest_44 : decode cX4_digest 44 = .ok (.lstore_n 1, 1) := by decide +kernel
theorem dX4_digest_45 : decode cX4_digest 45 = .ok (.iconst 0, 1) := by decide +kernel
theorem dX4_digest_46 : decode cX4_digest 46 = .ok (.istore_n 3, 1) := by decide +kernel
theorem dX4_digest_47 : decode cX4_digest 47 = .ok (.iload_n 3, 1) := by decide +kernel
theorem dX4_digest_48 : decode cX4_digest 48 = .ok (.aload_n 0, 1) := by decide +kernel
theorem dX4_digest_49 : decode cX4_digest 49 = .ok (.getfield 86, 3) := by decide +kernel
theorem dX4_digest_52 : decode cX4_digest 52 = .ok (.if_icmp .ge 63, 3) := by decide +kernel
theorem dX4_digest_55 : decode cX4_digest 55 = .ok (.lload_n 1, 1) := by decide +kernel
theorem dX4_digest_56 : decode cX4_digest 56 = .ok (.ldc2_w 180, 3) := by decide +kernel
theorem dX4_digest_59 : decode cX4_digest 59 = .ok (.lmul, 1) := by decide +kernel
theorem dX4_digest_60 : decode cX4_digest 60 = .ok (.aload_n 0, 1) := by decide +kernel
theorem dX4_digest_61 : decode cX4_digest 61 = .ok (.getfield 16, 3) := by decide +kernel
theorem dX4_digest_64 : decode cX4_digest 64 = .ok (.iload_n 3, 1) := by decide +kernel
theorem dX4_digest_65 : decode cX4_digest 65 = .ok (.iaload, 1) := by decide +kernel
theorem dX4_digest_66 : decode cX4_digest 66 = .ok (.i2l, 1) := by decide +kernel
theorem dX4_digest_67 : decode cX4_digest 67 = .ok (.ladd, 1) := by decide +kernel
theorem dX4_digest_68 : decode cX4_digest 68 = .ok (.ldc2_w 180, 3) := by decide +kernel
theorem dX4_digest_71 : decode cX4_digest 71 = .ok (.lmul, 1) := by decide +kernel
theorem dX4_digest_72 : decode cX4_digest 72 = .ok (.aload_n 0, 1) := by decide +kernel
theorem dX4_digest_73 : decode cX4_digest 73 = .ok (.getfield 19, 3) := by decide +kernel
theorem dX4_digest_76 : decode cX4_digest 76 = .ok (.iload_n 3, 1) := by decide +kernel
theorem dX4_digest_77 : decode cX4_digest 77 = .ok (.baload, 1) := by decide +kernel
theorem dX4_digest_78 : decode cX4_digest 78 = .ok (.ifCond .eq 7, 3) := by decide +kernel
theorem dX4_digest_81 : decode cX4_digest 81 = .ok (.lconst 1, 1) := by decide +kernel
theorem dX4_digest_82 : decode cX4_digest 82 = .ok (.goto 4, 3) := by decide +kernel
theorem dX4_digest_85 : decode cX4_digest 85 = .ok (.lconst 0, 1) := by decide +kernel
theorem dX4_digest_86 : decode cX4_digest 86 = .ok (.ladd, 1) := by decide +kernel
theorem dX4_digest_87 : decode cX4_digest 87 = .ok (.lstore_n 1, 1) := by decide +kernel
theorem dX4_digest_88 : decode cX4_digest 88 = .ok (.aload_n 0, 1) := by decide +kernel
theorem dX4_digest_89 : decode cX4_digest 89 = .ok (.getfield 97, 3) := by decide +kernel
theorem dX4_digest_92 : decode cX4_digest 92 = .ok (.ifCond .eq 17, 3) := by decide +kernel
theorem dX4_digest_95 : decode cX4_digest 95 = .ok (.lload_n 1, 1) := by decide +kernel
theorem dX4_digest_96 : decode cX4_digest 96 = .ok (.ldc2_w 180, 3) := by decide +kernel
theorem dX4_digest_99 : decode cX4_digest 99 = .ok (.lmul, 1) := by decide +kernel
theorem dX4_digest_100 : decode cX4_digest 100 = .ok (.aload_n 0, 1) := by decide +kernel
theorem dX4_digest_101 : decode cX4_digest 101 = .ok (.getfield 30, 3) := by decide +kernel
theorem dX4_digest_104 : decode cX4_digest 104 = .ok (.iload_n 3, 1) := by decide +kernel
theorem dX4_digest_105 : decode cX4_digest 105 = .ok (.iaload, 1) := by decide +kernel
theorem dX4_digest_106 : decode cX4_digest 106 = .ok (.i2l, 1) := by decide +kernel
theorem dX4_digest_107 : decode cX4_digest 107 = .ok (.ladd, 1) := by decide +kernel
theorem dX4_digest_108 : decode cX4_digest 108 = .ok (.lstore_n 1, 1) := by decide +kernel
theorem dX4_digest_109 : decode cX4_digest 109 = .ok (.iinc 3 1, 3) := by decide +kernel
theorem dX4_digest_112 : decode cX4_digest 112 = .ok (.goto (-65), 3) := by decide +kernel
theorem dX4_digest_115 : decode cX4_digest 115 = .ok (.iconst 0, 1) := by decide +kernel
theorem dX4_digest_116 : decode cX4_digest 116 = .ok (.istore_n 3, 1) := by decide +kernel
theorem dX4_digest_117 : decode cX4_digest 117 = .ok (.iload_n 3, 1) := by decide +kernel
theorem dX4_digest_118 : decode cX4_digest 118 = .ok (.aload_n 0, 1) := by decide +kernel
theorem dX4_digest_119 : decode cX4_digest 119 = .ok (.getfield 86, 3) := by decide +kernel
theorem dX4_digest_122 : decode cX4_digest 122 = .ok (.if_icmp .ge 64, 3) := by decide +kernel
theorem dX4_digest_125 : decode cX4_digest 125 = .ok (.aload_n 0, 1) := by decide +kernel
theorem dX4_digest_126 : decode cX4_digest 126 = .ok (.getfield 97, 3) := by decide +kernel
theorem dX4_digest_129 : decode cX4_digest 129 = .ok (.ifCond .eq 57, 3) := by decide +kernel
theorem dX4_digest_132 : decode cX4_digest 132 = .ok (.iconst 0, 1) := by decide +kernel
theorem dX4_digest_133 : decode cX4_digest 133 = .ok (.istore 4, 2) := by decide +kernel
theorem dX4_digest_135 : decode cX4_digest 135 = .ok (.iload 4, 2) := by decide +kernel
theorem dX4_digest_137 : decode cX4_digest 137 = .ok (.aload_n 0, 1) := by decide +kernel
theorem dX4_digest_138 : decode cX4_digest 138 = .ok (.getfield 86, 3) := by decide +kernel
theorem dX4_digest_141 : decode cX4_digest 141 = .ok (.if_icmp .ge 39, 3) := by decide +kernel
theorem dX4_digest_144 : decode cX4_digest 144 = .ok (.aload_n 0, 1) := by decide +kernel
theorem dX4_digest_145 : decode cX4_digest 145 = .ok (.getfield 36, 3) := by decide +kernel
theorem dX4_digest_148 : decode cX4_digest 148 = .ok (.bipush 64, 2) := by decide +kernel
theorem dX4_digest_150 : decode cX4_digest 150 = .ok (.iload_n 3, 1) := by decide +kernel
theorem dX4_digest_151 : decode cX4_digest 151 = .ok (.imul, 1) := by decide +kernel
theorem dX4_digest_152 : decode cX4_digest 152 = .ok (.iload 4, 2) := by decide +kernel
theorem dX4_digest_154 : decode cX4_digest 154 = .ok (.iadd, 1) := by decide +kernel
theorem dX4_digest_155 : decode cX4_digest 155 = .ok (.baload, 1) := by decide +kernel
theorem dX4_digest_156 : decode cX4_digest 156 = .ok (.ifCond .eq 18, 3) := by decide +kernel
theorem dX4_digest_159 : decode cX4_digest 159 = .ok (.lload_n 1, 1) := by decide +kernel
theorem dX4_digest_160 : decode cX4_digest 160 = .ok (.ldc2_w 180, 3) := by decide +kernel
theorem dX4_digest_163 : decode cX4_digest 163 = .ok (.lmul, 1) := by decide +kernel
theorem dX4_digest_164 : decode cX4_digest 164 = .ok (.aload_n 0, 1) := by decide +kernel
theorem dX4_digest_165 : decode cX4_digest 165 = .ok (.iload_n 3, 1) := by decide +kernel
theorem dX4_digest_166 : decode cX4_digest 166 = .ok (.iload 4, 2) := by decide +kernel
theorem dX4_digest_168 : decode cX4_digest 168 = .ok (.invokevirtual 144, 3) := by decide +kernel
theorem dX4_digest_171 : decode cX4_digest 171 = .ok (.i2l, 1) := by decide +kernel
theorem dX4_digest_172 : decode cX4_digest 172 = .ok (.ladd, 1) := by decide +kernel
theorem dX4_digest_173 : decode cX4_digest 173 = .ok (.lstore_n 1, 1) := by decide +kernel
theorem dX4_digest_174 : decode cX4_digest 174 = .ok (.iinc 4 1, 3) := by decide +kernel
theorem dX4_digest_177 : decode cX4_digest 177 = .ok (.goto (-42), 3) := by decide +kernel
theorem dX4_digest_180 : decode cX4_digest 180 = .ok (.iinc 3 1, 3) := by decide +kernel
theorem dX4_digest_183 : decode cX4_digest 183 = .ok (.goto (-66), 3) := by decide +kernel
theorem dX4_digest_186 : decode cX4_digest 186 = .ok (.lload_n 1, 1) := by decide +kernel
theorem dX4_digest_187 : decode cX4_digest 187 = .ok (.lreturn, 1) := by decide +kernel
theorem dJ6_numberOfTrailingZeros_0f7a4_0 : decode cJ6_numberOfTrailingZeros_0f7a4 0 = .ok (.iload_n 0, 1) := by decide +kernel
theorem dJ6_numberOfTrailingZeros_0f7a4_1 : decode cJ6_numberOfTrailingZeros_0f7a4 1 = .ok (.iconst (-1), 1) := by decide +kernel
theorem dJ6_numberOfTrailingZeros_0f7a4_2 : decode cJ6_numberOfTrailingZeros_0f7a4 2 = .ok (.ixor, 1) := by decide +kernel
theorem dJ6_numberOfTrailingZeros_0f7a4_3 : decode cJ6_numberOfTrailingZeros_0f7a4 3 = .ok (.iload_n 0, 1) := by decide +kernel
theorem dJ6_numberOfTrailingZeros_0f7a4_4 : decode cJ6_numberOfTrailingZeros_0f7a4 4 = .ok (.iconst 1, 1) := by decide +kernel
theorem dJ6_numberOfTrailingZeros_0f7a4_5 : decode cJ6_numberOfTrailingZeros_0f7a4 5 = .ok (.isub, 1) := by decide +kernel
theorem dJ6_numberOfTrailingZeros_0f7a4_6 : decode cJ6_numberOfTrailingZeros_0f7a4 6 = .ok (.iand, 1) := by decide +kernel
theorem dJ6_numberOfTrailingZeros_0f7a4_7 : decode cJ6_numberOfTrailingZeros_0f7a4 7 = .ok (.istore_n 0, 1) := by decide +kernel
theorem dJ6_numberOfTrailingZeros_0f7a4_8 : decode cJ6_numberOfTrailingZeros_0f7a4 8 = .ok (.iload_n 0, 1) := by decide +kernel
theorem dJ6_numberOfTrailingZeros_0f7a4_9 : decode cJ6_numberOfTrailingZeros_0f7a4 9 = .ok (.ifCond .gt 8, 3) := by decide +kernel
theorem dJ6_numberOfTrailingZeros_0f7a4_12 : decode cJ6_numberOfTrailingZeros_0f7a4 12 = .ok (.iload_n 0, 1) := by decide +kernel
theorem dJ6_numberOfTrailingZeros_0f7a4_13 : decode cJ6_numberOfTrailingZeros_0f7a4 13 = .ok (.bipush 32, 2) := by decide +kernel
theorem dJ6_numberOfTrailingZeros_0f7a4_15 : decode cJ6_numberOfTrailingZeros_0f7a4 15 = .ok (.iand, 1) := by decide +kernel
theorem dJ6_numberOfTrailingZeros_0f7a4_16 : decode cJ6_numberOfTrailingZeros_0f7a4 16 = .ok (.ireturn, 1) := by decide +kernel
theorem dJ6_numberOfTrailingZeros_0f7a4_17 : decode cJ6_numberOfTrailingZeros_0f7a4 17 = .ok (.iconst 1, 1) := by decide +kernel
theorem dJ6_numberOfTrailingZeros_0f7a4_18 : decode cJ6_numberOfTrailingZeros_0f7a4 18 = .ok (.istore_n 1, 1) := by decide +kernel
theorem dJ6_numberOfTrailingZeros_0f7a4_19 : decode cJ6_numberOfTrailingZeros_0f7a4 19 = .ok (.iload_n 0, 1) := by decide +kernel
theorem dJ6_numberOfTrailingZeros_0f7a4_20 : decode cJ6_numberOfTrailingZeros_0f7a4 20 = .ok (.ldc_w 264, 3) := by decide +kernel
theorem dJ6_numberOfTrailingZeros_0f7a4_23 : decode cJ6_numberOfTrailingZeros_0f7a4 23 = .ok (.if_icmp .le 11, 3) := by decide +kernel
theorem dJ6_numberOfTrailingZeros_0f7a4_26 : decode cJ6_numberOfTrailingZeros_0f7a4 26 = .ok (.iinc 1 16, 3) := by decide +kernel
theorem dJ6_numberOfTrailingZeros_0f7a4_29 : decode cJ6_numberOfTrailingZeros_0f7a4 29 = .ok (.iload_n 0, 1) := by decide +kernel
theorem dJ6_numberOfTrailingZeros_0f7a4_30 : decode cJ6_numberOfTrailingZeros_0f7a4 30 = .ok (.bipush 16, 2) := by decide +kernel
theorem dJ6_numberOfTrailingZeros_0f7a4_32 : decode cJ6_numberOfTrailingZeros_0f7a4 32 = .ok (.iushr, 1) := by decide +kernel
theorem dJ6_numberOfTrailingZeros_0f7a4_33 : decode cJ6_numberOfTrailingZeros_0f7a4 33 = .ok (.istore_n 0, 1) := by decide +kernel
theorem dJ6_numberOfTrailingZeros_0f7a4_34 : decode cJ6_numberOfTrailingZeros_0f7a4 34 = .ok (.iload_n 0, 1) := by decide +kernel
theorem dJ6_numberOfTrailingZeros_0f7a4_35 : decode cJ6_numberOfTrailingZeros_0f7a4 35 = .ok (.sipush 256, 3) := by decide +kernel
theorem dJ6_numberOfTrailingZeros_0f7a4_38 : decode cJ6_numberOfTrailingZeros_0f7a4 38 = .ok (.if_icmp .le 11, 3) := by decide +kernel
theorem dJ6_numberOfTrailingZeros_0f7a4_41 : decode cJ6_numberOfTrailingZeros_0f7a4 41 = .ok (.iinc 1 8, 3) := by decide +kernel
theorem dJ6_numberOfTrailingZeros_0f7a4_44 : decode cJ6_numberOfTrailingZeros_0f7a4 44 = .ok (.iload_n 0, 1) := by decide +kernel
theorem dJ6_numberOfTrailingZeros_0f7a4_45 : decode cJ6_numberOfTrailingZeros_0f7a4 45 = .ok (.bipush 8, 2) := by decide +kernel
theorem dJ6_numberOfTrailingZeros_0f7a4_47 : decode cJ6_numberOfTrailingZeros_0f7a4 47 = .ok (.iushr, 1) := by decide +kernel
theorem dJ6_numberOfTrailingZeros_0f7a4_48 : decode cJ6_numberOfTrailingZeros_0f7a4 48 = .ok (.istore_n 0, 1) := by decide +kernel
theorem dJ6_numberOfTrailingZeros_0f7a4_49 : decode cJ6_numberOfTrailingZeros_0f7a4 49 = .ok (.iload_n 0, 1) := by decide +kernel
theorem dJ6_numberOfTrailingZeros_0f7a4_50 : decode cJ6_numberOfTrailingZeros_0f7a4 50 = .ok (.bipush 16, 2) := by decide +kernel
theorem dJ6_numberOfTrailingZeros_0f7a4_52 : decode cJ6_numberOfTrailingZeros_0f7a4 52 = .ok (.if_icmp .le 10, 3) := by decide +kernel
theorem dJ6_numberOfTrailingZeros_0f7a4_55 : decode cJ6_numberOfTrailingZeros_0f7a4 55 = .ok (.iinc 1 4, 3) := by decide +kernel
theorem dJ6_numberOfTrailingZeros_0f7a4_58 : decode cJ6_numberOfTrailingZeros_0f7a4 58 = .ok (.iload_n 0, 1) := by decide +kernel
theorem dJ6_numberOfTrailingZeros_0f7a4_59 : decode cJ6_numberOfTrailingZeros_0f7a4 59 = .ok (.iconst 4, 1) := by decide +kernel
theorem dJ6_numberOfTrailingZeros_0f7a4_60 : decode cJ6_numberOfTrailingZeros_0f7a4 60 = .ok (.iushr, 1) := by decide +kernel
theorem dJ6_numberOfTrailingZeros_0f7a4_61 : decode cJ6_numberOfTrailingZeros_0f7a4 61 = .ok (.istore_n 0, 1) := by decide +kernel
theorem dJ6_numberOfTrailingZeros_0f7a4_62 : decode cJ6_numberOfTrailingZeros_0f7a4 62 = .ok (.iload_n 0, 1) := by decide +kernel
theorem dJ6_numberOfTrailingZeros_0f7a4_63 : decode cJ6_numberOfTrailingZeros_0f7a4 63 = .ok (.iconst 4, 1) := by decide +kernel
theorem dJ6_numberOfTrailingZeros_0f7a4_64 : decode cJ6_numberOfTrailingZeros_0f7a4 64 = .ok (.if_icmp .le 10, 3) := by decide +kernel
theorem dJ6_numberOfTrailingZeros_0f7a4_67 : decode cJ6_numberOfTrailingZeros_0f7a4 67 = .ok (.iinc 1 2, 3) := by decide +kernel
theorem dJ6_numberOfTrailingZeros_0f7a4_70 : decode cJ6_numberOfTrailingZeros_0f7a4 70 = .ok (.iload_n 0, 1) := by decide +kernel
theorem dJ6_numberOfTrailingZeros_0f7a4_71 : decode cJ6_numberOfTrailingZeros_0f7a4 71 = .ok (.iconst 2, 1) := by decide +kernel
theorem dJ6_numberOfTrailingZeros_0f7a4_72 : decode cJ6_numberOfTrailingZeros_0f7a4 72 = .ok (.iushr, 1) := by decide +kernel
theorem dJ6_numberOfTrailingZeros_0f7a4_73 : decode cJ6_numberOfTrailingZeros_0f7a4 73 = .ok (.istore_n 0, 1) := by decide +kernel
theorem dJ6_numberOfTrailingZeros_0f7a4_74 : decode cJ6_numberOfTrailingZeros_0f7a4 74 = .ok (.iload_n 1, 1) := by decide +kernel
theorem dJ6_numberOfTrailingZeros_0f7a4_75 : decode cJ6_numberOfTrailingZeros_0f7a4 75 = .ok (.iload_n 0, 1) := by decide +kernel
theorem dJ6_numberOfTrailingZeros_0f7a4_76 : decode cJ6_numberOfTrailingZeros_0f7a4 76 = .ok (.iconst 1, 1) := by decide +kernel
theorem dJ6_numberOfTrailingZeros_0f7a4_77 : decode cJ6_numberOfTrailingZeros_0f7a4 77 = .ok (.iushr, 1) := by decide +kernel
theorem dJ6_numberOfTrailingZeros_0f7a4_78 : decode cJ6_numberOfTrailingZeros_0f7a4 78 = .ok (.iadd, 1) := by decide +kernel
theorem dJ6_numberOfTrailingZeros_0f7a4_79 : decode cJ6_numberOfTrailingZeros_0f7a4 79 = .ok (.ireturn, 1) := by decide +kernel
theorem dJ13_numberOfTrailingZeros_95d88_0 : decode cJ13_numberOfTrailingZeros_95d88 0 = .ok (.lload_n 0, 1) := by decide +kernel
theorem dJ13_numberOfTrailingZeros_95d88_1 : decode cJ13_numberOfTrailingZeros_95d88 1 = .ok (.l2i, 1) := by decide +kernel
theorem dJ13_numberOfTrailingZeros_95d88_2 : decode cJ13_numberOfTrailingZeros_95d88 2 = .ok (.istore_n 2, 1) := by decide +kernel
theorem dJ13_numberOfTrailingZeros_95d88_3 : decode cJ13_numberOfTrailingZeros_95d88 3 = .ok (.iload_n 2, 1) := by decide +kernel
theorem dJ13_numberOfTrailingZeros_95d88_4 : decode cJ13_numberOfTrailingZeros_95d88 4 = .ok (.ifCond .ne 17, 3) := by decide +kernel
theorem dJ13_numberOfTrailingZeros_95d88_7 : decode cJ13_numberOfTrailingZeros_95d88 7 = .ok (.bipush 32, 2) := by decide +kernel
theorem dJ13_numberOfTrailingZeros_95d88_9 : decode cJ13_numberOfTrailingZeros_95d88 9 = .ok (.lload_n 0, 1) := by decide +kernel
theorem dJ13_numberOfTrailingZeros_95d88_10 : decode cJ13_numberOfTrailingZeros_95d88 10 = .ok (.bipush 32, 2) := by decide +kernel
theorem dJ13_numberOfTrailingZeros_95d88_12 : decode cJ13_numberOfTrailingZeros_95d88 12 = .ok (.lushr, 1) := by decide +kernel
theorem dJ13_numberOfTrailingZeros_95d88_13 : decode cJ13_numberOfTrailingZeros_95d88 13 = .ok (.l2i, 1) := by decide +kernel
theorem dJ13_numberOfTrailingZeros_95d88_14 : decode cJ13_numberOfTrailingZeros_95d88 14 = .ok (.invokestatic 311, 3) := by decide +kernel
theorem dJ13_numberOfTrailingZeros_95d88_17 : decode cJ13_numberOfTrailingZeros_95d88 17 = .ok (.iadd, 1) := by decide +kernel
theorem dJ13_numberOfTrailingZeros_95d88_18 : decode cJ13_numberOfTrailingZeros_95d88 18 = .ok (.goto 7, 3) := by decide +kernel
theorem dJ13_numberOfTrailingZeros_95d88_21 : decode cJ13_numberOfTrailingZeros_95d88 21 = .ok (.iload_n 2, 1) := by decide +kernel
theorem dJ13_numberOfTrailingZeros_95d88_22 : decode cJ13_numberOfTrailingZeros_95d88 22 = .ok (.invokestatic 311, 3) := by decide +kernel
theorem dJ13_numberOfTrailingZeros_95d88_25 : decode cJ13_numberOfTrailingZeros_95d88 25 = .ok (.ireturn, 1) := by decide +kernel
theorem dJ13_bitCount_95d88_0 : decode cJ13_bitCount_95d88 0 = .ok (.lload_n 0, 1) := by decide +kernel
theorem dJ13_bitCount_95d88_1 : decode cJ13_bitCount_95d88 1 = .ok (.lload_n 0, 1) := by decide +kernel
theorem dJ13_bitCount_95d88_2 : decode cJ13_bitCount_95d88 2 = .ok (.iconst 1, 1) := by decide +kernel
theorem dJ13_bitCount_95d88_3 : decode cJ13_bitCount_95d88 3 = .ok (.lushr, 1) := by decide +kernel
theorem dJ13_bitCount_95d88_4 : decode cJ13_bitCount_95d88 4 = .ok (.ldc2_w 314, 3) := by decide +kernel
theorem dJ13_bitCount_95d88_7 : decode cJ13_bitCount_95d88 7 = .ok (.land, 1) := by decide +kernel
theorem dJ13_bitCount_95d88_8 : decode cJ13_bitCount_95d88 8 = .ok (.lsub, 1) := by decide +kernel
theorem dJ13_bitCount_95d88_9 : decode cJ13_bitCount_95d88 9 = .ok (.lstore_n 0, 1) := by decide +kernel
theorem dJ13_bitCount_95d88_10 : decode cJ13_bitCount_95d88 10 = .ok (.lload_n 0, 1) := by decide +kernel
theorem dJ13_bitCount_95d88_11 : decode cJ13_bitCount_95d88 11 = .ok (.ldc2_w 316, 3) := by decide +kernel
theorem dJ13_bitCount_95d88_14 : decode cJ13_bitCount_95d88 14 = .ok (.land, 1) := by decide +kernel
theorem dJ13_bitCount_95d88_15 : decode cJ13_bitCount_95d88 15 = .ok (.lload_n 0, 1) := by decide +kernel
theorem dJ13_bitCount_95d88_16 : decode cJ13_bitCount_95d88 16 = .ok (.iconst 2, 1) := by decide +kernel
theorem dJ13_bitCount_95d88_17 : decode cJ13_bitCount_95d88 17 = .ok (.lushr, 1) := by decide +kernel
theorem dJ13_bitCount_95d88_18 : decode cJ13_bitCount_95d88 18 = .ok (.ldc2_w 316, 3) := by decide +kernel
theorem dJ13_bitCount_95d88_21 : decode cJ13_bitCount_95d88 21 = .ok (.land, 1) := by decide +kernel
theorem dJ13_bitCount_95d88_22 : decode cJ13_bitCount_95d88 22 = .ok (.ladd, 1) := by decide +kernel
theorem dJ13_bitCount_95d88_23 : decode cJ13_bitCount_95d88 23 = .ok (.lstore_n 0, 1) := by decide +kernel
theorem dJ13_bitCount_95d88_24 : decode cJ13_bitCount_95d88 24 = .ok (.lload_n 0, 1) := by decide +kernel
theorem dJ13_bitCount_95d88_25 : decode cJ13_bitCount_95d88 25 = .ok (.lload_n 0, 1) := by decide +kernel
theorem dJ13_bitCount_95d88_26 : decode cJ13_bitCount_95d88 26 = .ok (.iconst 4, 1) := by decide +kernel
theorem dJ13_bitCount_95d88_27 : decode cJ13_bitCount_95d88 27 = .ok (.lushr, 1) := by decide +kernel
theorem dJ13_bitCount_95d88_28 : decode cJ13_bitCount_95d88 28 = .ok (.ladd, 1) := by decide +kernel
theorem dJ13_bitCount_95d88_29 : decode cJ13_bitCount_95d88 29 = .ok (.ldc2_w 318, 3) := by decide +kernel
theorem dJ13_bitCount_95d88_32 : decode cJ13_bitCount_95d88 32 = .ok (.land, 1) := by decide +kernel
theorem dJ13_bitCount_95d88_33 : decode cJ13_bitCount_95d88 33 = .ok (.lstore_n 0, 1) := by decide +kernel
theorem dJ13_bitCount_95d88_34 : decode cJ13_bitCount_95d88 34 = .ok (.lload_n 0, 1) := by decide +kernel
theorem dJ13_bitCount_95d88_35 : decode cJ13_bitCount_95d88 35 = .ok (.lload_n 0, 1) := by decide +kernel
theorem dJ13_bitCount_95d88_36 : decode cJ13_bitCount_95d88 36 = .ok (.bipush 8, 2) := by decide +kernel
theorem dJ13_bitCount_95d88_38 : decode cJ13_bitCount_95d88 38 = .ok (.lushr, 1) := by decide +kernel
theorem dJ13_bitCount_95d88_39 : decode cJ13_bitCount_95d88 39 = .ok (.ladd, 1) := by decide +kernel
theorem dJ13_bitCount_95d88_40 : decode cJ13_bitCount_95d88 40 = .ok (.lstore_n 0, 1) := by decide +kernel
theorem dJ13_bitCount_95d88_41 : decode cJ13_bitCount_95d88 41 = .ok (.lload_n 0, 1) := by decide +kernel
theorem dJ13_bitCount_95d88_42 : decode cJ13_bitCount_95d88 42 = .ok (.lload_n 0, 1) := by decide +kernel
theorem dJ13_bitCount_95d88_43 : decode cJ13_bitCount_95d88 43 = .ok (.bipush 16, 2) := by decide +kernel
theorem dJ13_bitCount_95d88_45 : decode cJ13_bitCount_95d88 45 = .ok (.lushr, 1) := by decide +kernel
theorem dJ13_bitCount_95d88_46 : decode cJ13_bitCount_95d88 46 = .ok (.ladd, 1) := by decide +kernel
theorem dJ13_bitCount_95d88_47 : decode cJ13_bitCount_95d88 47 = .ok (.lstore_n 0, 1) := by decide +kernel
theorem dJ13_bitCount_95d88_48 : decode cJ13_bitCount_95d88 48 = .ok (.lload_n 0, 1) := by decide +kernel
theorem dJ13_bitCount_95d88_49 : decode cJ13_bitCount_95d88 49 = .ok (.lload_n 0, 1) := by decide +kernel
theorem dJ13_bitCount_95d88_50 : decode cJ13_bitCount_95d88 50 = .ok (.bipush 32, 2) := by decide +kernel
theorem dJ13_bitCount_95d88_52 : decode cJ13_bitCount_95d88 52 = .ok (.lushr, 1) := by decide +kernel
theorem dJ13_bitCount_95d88_53 : decode cJ13_bitCount_95d88 53 = .ok (.ladd, 1) := by decide +kernel
theorem dJ13_bitCount_95d88_54 : decode cJ13_bitCount_95d88 54 = .ok (.lstore_n 0, 1) := by decide +kernel
theorem dJ13_bitCount_95d88_55 : decode cJ13_bitCount_95d88 55 = .ok (.lload_n 0, 1) := by decide +kernel
theorem dJ13_bitCount_95d88_56 : decode cJ13_bitCount_95d88 56 = .ok (.l2i, 1) := by decide +kernel
theorem dJ13_bitCount_95d88_57 : decode cJ13_bitCount_95d88 57 = .ok (.bipush 127, 2) := by decide +kernel
theorem dJ13_bitCount_95d88_59 : decode cJ13_bitCount_95d88 59 = .ok (.iand, 1) := by decide +kernel
theorem dJ13_bitCount_95d88_60 : decode cJ13_bitCount_95d88 60 = .ok (.ireturn, 1) := by decide +kernel
theorem dJ9_min_7cf53_0 : decode cJ9_min_7cf53 0 = .ok (.iload_n 0, 1) := by decide +kernel
theorem dJ9_min_7cf53_1 : decode cJ9_min_7cf53 1 = .ok (.iload_n 1, 1) := by decide +kernel
theorem dJ9_min_7cf53_2 : decode cJ9_min_7cf53 2 = .ok (.if_icmp .gt 7, 3) := by decide +kernel
theorem dJ9_min_7cf53_5 : decode cJ9_min_7cf53 5 = .ok (.iload_n 0, 1) := by decide +kernel
theorem dJ9_min_7cf53_6 : decode cJ9_min_7cf53 6 = .ok (.goto 4, 3) := by decide +kernel
theorem dJ9_min_7cf53_9 : decode cJ9_min_7cf53 9 = .ok (.iload_n 1, 1) := by decide +kernel
theorem dJ9_min_7cf53_10 : decode cJ9_min_7cf53 10 = .ok (.ireturn, 1) := by decide +kernel
theorem dJ9_min_f86c9_0 : decode cJ9_min_f86c9 0 = .ok (.lload_n 0, 1) := by decide +kernel
theorem dJ9_min_f86c9_1 : decode cJ9_min_f86c9 1 = .ok (.lload_n 2, 1) := by decide +kernel
theorem dJ9_min_f86c9_2 : decode cJ9_min_f86c9 2 = .ok (.lcmp, 1) := by decide +kernel
theorem dJ9_min_f86c9_3 : decode cJ9_min_f86c9 3 = .ok (.ifCond .gt 7, 3) := by decide +kernel
theorem dJ9_min_f86c9_6 : decode cJ9_min_f86c9 6 = .ok (.lload_n 0, 1) := by decide +kernel
theorem dJ9_min_f86c9_7 : decode cJ9_min_f86c9 7 = .ok (.goto 4, 3) := by decide +kernel
theorem dJ9_min_f86c9_10 : decode cJ9_min_f86c9 10 = .ok (.lload_n 2, 1) := by decide +kernel
theorem dJ9_min_f86c9_11 : decode cJ9_min_f86c9 11 = .ok (.lreturn, 1) := by decide +kernel
theorem dJ7_fill_53178_0 : decode cJ7_fill_53178 0 = .ok (.iconst 0, 1) := by decide +kernel
theorem dJ7_fill_53178_1 : decode cJ7_fill_53178 1 = .ok (.istore_n 2, 1) := by decide +kernel
theorem dJ7_fill_53178_2 : decode cJ7_fill_53178 2 = .ok (.aload_n 0, 1) := by decide +kernel
theorem dJ7_fill_53178_3 : decode cJ7_fill_53178 3 = .ok (.arraylength, 1) := by decide +kernel
theorem dJ7_fill_53178_4 : decode cJ7_fill_53178 4 = .ok (.istore_n 3, 1) := by decide +kernel
theorem dJ7_fill_53178_5 : decode cJ7_fill_53178 5 = .ok (.iload_n 2, 1) := by decide +kernel
theorem dJ7_fill_53178_6 : decode cJ7_fill_53178 6 = .ok (.iload_n 3, 1) := by decide +kernel
theorem dJ7_fill_53178_7 : decode cJ7_fill_53178 7 = .ok (.if_icmp .ge 13, 3) := by decide +kernel
theorem dJ7_fill_53178_10 : decode cJ7_fill_53178 10 = .ok (.aload_n 0, 1) := by decide +kernel
theorem dJ7_fill_53178_11 : decode cJ7_fill_53178 11 = .ok (.iload_n 2, 1) := by decide +kernel
theorem dJ7_fill_53178_12 : decode cJ7_fill_53178 12 = .ok (.iload_n 1, 1) := by decide +kernel
theorem dJ7_fill_53178_13 : decode cJ7_fill_53178 13 = .ok (.iastore, 1) := by decide +kernel
theorem dJ7_fill_53178_14 : decode cJ7_fill_53178 14 = .ok (.iinc 2 1, 3) := by decide +kernel
theorem dJ7_fill_53178_17 : decode cJ7_fill_53178 17 = .ok (.goto (-12), 3) := by decide +kernel
theorem dJ7_fill_53178_20 : decode cJ7_fill_53178 20 = .ok (.return_, 1) := by decide +kernel
theorem dL_addJunction_0 : decode cL_addJunction 0 = .ok (.aload_n 1, 1) := by decide +kernel
theorem dL_addJunction_1 : decode cL_addJunction 1 = .ok (.iconst 0, 1) := by decide +kernel
theorem dL_addJunction_2 : decode cL_addJunction 2 = .ok (.aload_n 0, 1) := by decide +kernel
theorem dL_addJunction_3 : decode cL_addJunction 3 = .ok (.invokevirtual 7, 3) := by decide +kernel
theorem dL_addJunction_6 : decode cL_addJunction 6 = .ok (.i2l, 1) := by decide +kernel
theorem dL_addJunction_7 : decode cL_addJunction 7 = .ok (.lastore, 1) := by decide +kernel
theorem dL_addJunction_8 : decode cL_addJunction 8 = .ok (.goto 6, 3) := by decide +kernel
theorem dL_addJunction_11 : decode cL_addJunction 11 = .ok (.astore_n 2, 1) := by decide +kernel
theorem dL_addJunction_12 : decode cL_addJunction 12 = .ok (.iconst 1, 1) := by decide +kernel
theorem dL_addJunction_13 : decode cL_addJunction 13 = .ok (.ireturn, 1) := by decide +kernel
theorem dL_addJunction_14 : decode cL_addJunction 14 = .ok (.iconst 0, 1) := by decide +kernel
theorem dL_addJunction_15 : decode cL_addJunction 15 = .ok (.ireturn, 1) := by decide +kernel
theorem dL_addRoad_0 : decode cL_addRoad 0 = .ok (.aload 4, 2) := by decide +kernel
theorem dL_addRoad_2 : decode cL_addRoad 2 = .ok (.iconst 0, 1) := by decide +kernel
theorem dL_addRoad_3 : decode cL_addRoad 3 = .ok (.aload_n 0, 1) := by decide +kernel
theorem dL_addRoad_4 : decode cL_addRoad 4 = .ok (.iload_n 1, 1) := by decide +kernel
theorem dL_addRoad_5 : decode cL_addRoad 5 = .ok (.iload_n 2, 1) := by decide +kernel
theorem dL_addRoad_6 : decode cL_addRoad 6 = .ok (.iload_n 3, 1) := by decide +kernel
theorem dL_addRoad_7 : decode cL_addRoad 7 = .ok (.invokevirtual 15, 3) := by decide +kernel
theorem dL_addRoad_10 : decode cL_addRoad 10 = .ok (.i2l, 1) := by decide +kernel
theorem dL_addRoad_11 : decode cL_addRoad 11 = .ok (.lastore, 1) := by decide +kernel
theorem dL_addRoad_12 : decode cL_addRoad 12 = .ok (.goto 15, 3) := by decide +kernel
theorem dL_addRoad_15 : decode cL_addRoad 15 = .ok (.astore 5, 2) := by decide +kernel
theorem dL_addRoad_17 : decode cL_addRoad 17 = .ok (.iconst 1, 1) := by decide +kernel
theorem dL_addRoad_18 : decode cL_addRoad 18 = .ok (.ireturn, 1) := by decide +kernel
theorem dL_addRoad_19 : decode cL_addRoad 19 = .ok (.astore 5, 2) := by decide +kernel
theorem dL_addRoad_21 : decode cL_addRoad 21 = .ok (.iconst 2, 1) := by decide +kernel
theorem dL_addRoad_22 : decode cL_addRoad 22 = .ok (.ireturn, 1) := by decide +kernel
theorem dL_addRoad_23 : decode cL_addRoad 23 = .ok (.astore 5, 2) := by decide +kernel
theorem dL_addRoad_25 : decode cL_addRoad 25 = .ok (.iconst 3, 1) := by decide +kernel
theorem dL_addRoad_26 : decode cL_addRoad 26 = .ok (.ireturn, 1) := by decide +kernel
theorem dL_addRoad_27 : decode cL_addRoad 27 = .ok (.iconst 0, 1) := by decide +kernel
theorem dL_addRoad_28 : decode cL_addRoad 28 = .ok (.ireturn, 1) := by decide +kernel
theorem dL_setWeight_0 : decode cL_setWeight 0 = .ok (.aload_n 3, 1) := by decide +kernel
theorem dL_setWeight_1 : decode cL_setWeight 1 = .ok (.iconst 0, 1) := by decide +kernel
theorem dL_setWeight_2 : decode cL_setWeight 2 = .ok (.aload_n 0, 1) := by decide +kernel
theorem dL_setWeight_3 : decode cL_setWeight 3 = .ok (.iload_n 1, 1) := by decide +kernel
theorem dL_setWeight_4 : decode cL_setWeight 4 = .ok (.iload_n 2, 1) := by decide +kernel
theorem dL_setWeight_5 : decode cL_setWeight 5 = .ok (.invokevirtual 23, 3) := by decide +kernel
theorem dL_setWeight_8 : decode cL_setWeight 8 = .ok (.i2l, 1) := by decide +kernel
theorem dL_setWeight_9 : decode cL_setWeight 9 = .ok (.lastore, 1) := by decide +kernel
theorem dL_setWeight_10 : decode cL_setWeight 10 = .ok (.goto 11, 3) := by decide +kernel
theorem dL_setWeight_13 : decode cL_setWeight 13 = .ok (.astore 4, 2) := by decide +kernel
theorem dL_setWeight_15 : decode cL_setWeight 15 = .ok (.iconst 1, 1) := by decide +kernel
theorem dL_setWeight_16 : decode cL_setWeight 16 = .ok (.ireturn, 1) := by decide +kernel
theorem dL_setWeight_17 : decode cL_setWeight 17 = .ok (.astore 4, 2) := by decide +kernel
theorem dL_setWeight_19 : decode cL_setWeight 19 = .ok (.iconst 2, 1) := by decide +kernel
theorem dL_setWeight_20 : decode cL_setWeight 20 = .ok (.ireturn, 1) := by decide +kernel
theorem dL_setWeight_21 : decode cL_setWeight 21 = .ok (.iconst 0, 1) := by decide +kernel
theorem dL_setWeight_22 : decode cL_setWeight 22 = .ok (.ireturn, 1) := by decide +kernel
theorem dL_setOpen_0 : decode cL_setOpen 0 = .ok (.aload_n 3, 1) := by decide +kernel
theorem dL_setOpen_1 : decode cL_setOpen 1 = .ok (.iconst 0, 1) := by decide +kernel
theorem dL_setOpen_2 : decode cL_setOpen 2 = .ok (.aload_n 0, 1) := by decide +kernel
theorem dL_setOpen_3 : decode cL_setOpen 3 = .ok (.iload_n 1, 1) := by decide +kernel
theorem dL_setOpen_4 : decode cL_setOpen 4 = .ok (.iload_n 2, 1) := by decide +kernel
theorem dL_setOpen_5 : decode cL_setOpen 5 = .ok (.invokevirtual 27, 3) := by decide +kernel
theorem dL_setOpen_8 : decode cL_setOpen 8 = .ok (.i2l, 1) := by decide +kernel
theorem dL_setOpen_9 : decode cL_setOpen 9 = .ok (.lastore, 1) := by decide +kernel
theorem dL_setOpen_10 : decode cL_setOpen 10 = .ok (.goto 7, 3) := by decide +kernel
theorem dL_setOpen_13 : decode cL_setOpen 13 = .ok (.astore 4, 2) := by decide +kernel
theorem dL_setOpen_15 : decode cL_setOpen 15 = .ok (.iconst 1, 1) := by decide +kernel
theorem dL_setOpen_16 : decode cL_setOpen 16 = .ok (.ireturn, 1) := by decide +kernel
theorem dL_setOpen_17 : decode cL_setOpen 17 = .ok (.iconst 0, 1) := by decide +kernel
theorem dL_setOpen_18 : decode cL_setOpen 18 = .ok (.ireturn, 1) := by decide +kernel
theorem dL_setTurn_0 : decode cL_setTurn 0 = .ok (.aload 4, 2) := by decide +kernel
theorem dL_setTurn_2 : decode cL_setTurn 2 = .ok (.iconst 0, 1) := by decide +kernel
theorem dL_setTurn_3 : decode cL_setTurn 3 = .ok (.aload_n 0, 1) := by decide +kernel
theorem dL_setTurn_4 : decode cL_setTurn 4 = .ok (.iload_n 1, 1) := by decide +kernel
theorem dL_setTurn_5 : decode cL_setTurn 5 = .ok (.iload_n 2, 1) := by decide +kernel
theorem dL_setTurn_6 : decode cL_setTurn 6 = .ok (.iload_n 3, 1) := by decide +kernel
theorem dL_setTurn_7 : decode cL_setTurn 7 = .ok (.invokevirtual 31, 3) := by decide +kernel
theorem dL_setTurn_10 : decode cL_setTurn 10 = .ok (.i2l, 1) := by decide +kernel
theorem dL_setTurn_11 : decode cL_setTurn 11 = .ok (.lastore, 1) := by decide +kernel
theorem dL_setTurn_12 : decode cL_setTurn 12 = .ok (.goto 11, 3) := by decide +kernel
theorem dL_setTurn_15 : decode cL_setTurn 15 = .ok (.astore 5, 2) := by decide +kernel
theorem dL_setTurn_17 : decode cL_setTurn 17 = .ok (.iconst 1, 1) := by decide +kernel
theorem dL_setTurn_18 : decode cL_setTurn 18 = .ok (.ireturn, 1) := by decide +kernel
theorem dL_setTurn_19 : decode cL_setTurn 19 = .ok (.astore 5, 2) := by decide +kernel
theorem dL_setTurn_21 : decode cL_setTurn 21 = .ok (.iconst 2, 1) := by decide +kernel
theorem dL_setTurn_22 : decode cL_setTurn 22 = .ok (.ireturn, 1) := by decide +kernel
theorem dL_setTurn_23 : decode cL_setTurn 23 = .ok (.iconst 0, 1) := by decide +kernel
theorem dL_setTurn_24 : decode cL_setTurn 24 = .ok (.ireturn, 1) := by decide +kernel
theorem dL_setUTurn_0 : decode cL_setUTurn 0 = .ok (.aload_n 2, 1) := by decide +kernel
theorem dL_setUTurn_1 : decode cL_setUTurn 1 = .ok (.iconst 0, 1) := by decide +kernel
theorem dL_setUTurn_2 : decode cL_setUTurn 2 = .ok (.aload_n 0, 1) := by decide +kernel
theorem dL_setUTurn_3 : decode cL_setUTurn 3 = .ok (.iload_n 1, 1) := by decide +kernel
theorem dL_setUTurn_4 : decode cL_setUTurn 4 = .ok (.invokevirtual 34, 3) := by decide +kernel
theorem dL_setUTurn_7 : decode cL_setUTurn 7 = .ok (.i2l, 1) := by decide +kernel
theorem dL_setUTurn_8 : decode cL_setUTurn 8 = .ok (.lastore, 1) := by decide +kernel
theorem dL_setUTurn_9 : decode cL_setUTurn 9 = .ok (.goto 6, 3) := by decide +kernel
theorem dL_setUTurn_12 : decode cL_setUTurn 12 = .ok (.astore_n 3, 1) := by decide +kernel
theorem dL_setUTurn_13 : decode cL_setUTurn 13 = .ok (.iconst 1, 1) := by decide +kernel
theorem dL_setUTurn_14 : decode cL_setUTurn 14 = .ok (.ireturn, 1) := by decide +kernel
theorem dL_setUTurn_15 : decode cL_setUTurn 15 = .ok (.iconst 0, 1) := by decide +kernel
theorem dL_setUTurn_16 : decode cL_setUTurn 16 = .ok (.ireturn, 1) := by decide +kernel
theorem dL_weight_0 : decode cL_weight 0 = .ok (.aload_n 2, 1) := by decide +kernel
theorem dL_weight_1 : decode cL_weight 1 = .ok (.iconst 0, 1) := by decide +kernel
theorem dL_weight_2 : decode cL_weight 2 = .ok (.aload_n 0, 1) := by decide +kernel
theorem dL_weight_3 : decode cL_weight 3 = .ok (.iload_n 1, 1) := by decide +kernel
theorem dL_weight_4 : decode cL_weight 4 = .ok (.invokevirtual 38, 3) := by decide +kernel
theorem dL_weight_7 : decode cL_weight 7 = .ok (.i2l, 1) := by decide +kernel
theorem dL_weight_8 : decode cL_weight 8 = .ok (.lastore, 1) := by decide +kernel
theorem dL_weight_9 : decode cL_weight 9 = .ok (.goto 6, 3) := by decide +kernel
theorem dL_weight_12 : decode cL_weight 12 = .ok (.astore_n 3, 1) := by decide +kernel
theorem dL_weight_13 : decode cL_weight 13 = .ok (.iconst 1, 1) := by decide +kernel
theorem dL_weight_14 : decode cL_weight 14 = .ok (.ireturn, 1) := by decide +kernel
theorem dL_weight_15 : decode cL_weight 15 = .ok (.iconst 0, 1) := by decide +kernel
theorem dL_weight_16 : decode cL_weight 16 = .ok (.ireturn, 1) := by decide +kernel
theorem dL_isOpen_0 : decode cL_isOpen 0 = .ok (.aload_n 2, 1) := by decide +kernel
theorem dL_isOpen_1 : decode cL_isOpen 1 = .ok (.iconst 0, 1) := by decide +kernel
theorem dL_isOpen_2 : decode cL_isOpen 2 = .ok (.aload_n 0, 1) := by decide +kernel
theorem dL_isOpen_3 : decode cL_isOpen 3 = .ok (.iload_n 1, 1) := by decide +kernel
theorem dL_isOpen_4 : decode cL_isOpen 4 = .ok (.invokevirtual 41, 3) := by decide +kernel
theorem dL_isOpen_7 : decode cL_isOpen 7 = .ok (.ifCond .eq 7, 3) := by decide +kernel
theorem dL_isOpen_10 : decode cL_isOpen 10 = .ok (.lconst 1, 1) := by decide +kernel
theorem dL_isOpen_11 : decode cL_isOpen 11 = .ok (.goto 4, 3) := by decide +kernel
theorem dL_isOpen_14 : decode cL_isOpen 14 = .ok (.lconst 0, 1) := by decide +kernel
theorem dL_isOpen_15 : decode cL_isOpen 15 = .ok (.lastore, 1) := by decide +kernel
theorem dL_isOpen_16 : decode cL_isOpen 16 = .ok (.goto 6, 3) := by decide +kernel
theorem dL_isOpen_19 : decode cL_isOpen 19 = .ok (.astore_n 3, 1) := by decide +kernel
theorem dL_isOpen_20 : decode cL_isOpen 20 = .ok (.iconst 1, 1) := by decide +kernel
theorem dL_isOpen_21 : decode cL_isOpen 21 = .ok (.ireturn, 1) := by decide +kernel
theorem dL_isOpen_22 : decode cL_isOpen 22 = .ok (.iconst 0, 1) := by decide +kernel
theorem dL_isOpen_23 : decode cL_isOpen 23 = .ok (.ireturn, 1) := by decide +kernel
theorem dL_turnPenalty_0 : decode cL_turnPenalty 0 = .ok (.aload_n 3, 1) := by decide +kernel
theorem dL_turnPenalty_1 : decode cL_turnPenalty 1 = .ok (.iconst 0, 1) := by decide +kernel
theorem dL_turnPenalty_2 : decode cL_turnPenalty 2 = .ok (.aload_n 0, 1) := by decide +kernel
theorem dL_turnPenalty_3 : decode cL_turnPenalty 3 = .ok (.iload_n 1, 1) := by decide +kernel
theorem dL_turnPenalty_4 : decode cL_turnPenalty 4 = .ok (.iload_n 2, 1) := by decide +kernel
theorem dL_turnPenalty_5 : decode cL_turnPenalty 5 = .ok (.invokevirtual 45, 3) := by decide +kernel
theorem dL_turnPenalty_8 : decode cL_turnPenalty 8 = .ok (.i2l, 1) := by decide +kernel
theorem dL_turnPenalty_9 : decode cL_turnPenalty 9 = .ok (.lastore, 1) := by decide +kernel
theorem dL_turnPenalty_10 : decode cL_turnPenalty 10 = .ok (.goto 11, 3) := by decide +kernel
theorem dL_turnPenalty_13 : decode cL_turnPenalty 13 = .ok (.astore 4, 2) := by decide +kernel
theorem dL_turnPenalty_15 : decode cL_turnPenalty 15 = .ok (.iconst 1, 1) := by decide +kernel
theorem dL_turnPenalty_16 : decode cL_turnPenalty 16 = .ok (.ireturn, 1) := by decide +kernel
theorem dL_turnPenalty_17 : decode cL_turnPenalty 17 = .ok (.astore 4, 2) := by decide +kernel
theorem dL_turnPenalty_19 : decode cL_turnPenalty 19 = .ok (.iconst 2, 1) := by decide +kernel
theorem dL_turnPenalty_20 : decode cL_turnPenalty 20 = .ok (.ireturn, 1) := by decide +kernel
theorem dL_turnPenalty_21 : decode cL_turnPenalty 21 = .ok (.iconst 0, 1) := by decide +kernel
theorem dL_turnPenalty_22 : decode cL_turnPenalty 22 = .ok (.ireturn, 1) := by decide +kernel
theorem dL_prepare_0 : decode cL_prepare 0 = .ok (.aload_n 1, 1) := by decide +kernel
theorem dL_prepare_1 : decode cL_prepare 1 = .ok (.iconst 0, 1) := by decide +kernel
theorem dL_prepare_2 : decode cL_prepare 2 = .ok (.aload_n 0, 1) := by decide +kernel
theorem dL_prepare_3 : decode cL_prepare 3 = .ok (.invokevirtual 48, 3) := by decide +kernel
theorem dL_prepare_6 : decode cL_prepare 6 = .ok (.i2l, 1) := by decide +kernel
theorem dL_prepare_7 : decode cL_prepare 7 = .ok (.lastore, 1) := by decide +kernel
theorem dL_prepare_8 : decode cL_prepare 8 = .ok (.goto 6, 3) := by decide +kernel
theorem dL_prepare_11 : decode cL_prepare 11 = .ok (.astore_n 2, 1) := by decide +kernel
theorem dL_prepare_12 : decode cL_prepare 12 = .ok (.iconst 1, 1) := by decide +kernel
theorem dL_prepare_13 : decode cL_prepare 13 = .ok (.ireturn, 1) := by decide +kernel
theorem dL_prepare_14 : decode cL_prepare 14 = .ok (.iconst 0, 1) := by decide +kernel
theorem dL_prepare_15 : decode cL_prepare 15 = .ok (.ireturn, 1) := by decide +kernel
theorem dL_position_0 : decode cL_position 0 = .ok (.aload_n 2, 1) := by decide +kernel
theorem dL_position_1 : decode cL_position 1 = .ok (.iconst 0, 1) := by decide +kernel
theorem dL_position_2 : decode cL_position 2 = .ok (.aload_n 0, 1) := by decide +kernel
theorem dL_position_3 : decode cL_position 3 = .ok (.iload_n 1, 1) := by decide +kernel
theorem dL_position_4 : decode cL_position 4 = .ok (.invokevirtual 51, 3) := by decide +kernel
theorem dL_position_7 : decode cL_position 7 = .ok (.i2l, 1) := by decide +kernel
theorem dL_position_8 : decode cL_position 8 = .ok (.lastore, 1) := by decide +kernel
theorem dL_position_9 : decode cL_position 9 = .ok (.goto 9, 3) := by decide +kernel
theorem dL_position_12 : decode cL_position 12 = .ok (.astore_n 3, 1) := by decide +kernel
theorem dL_position_13 : decode cL_position 13 = .ok (.iconst 1, 1) := by decide +kernel
theorem dL_position_14 : decode cL_position 14 = .ok (.ireturn, 1) := by decide +kernel
theorem dL_position_15 : decode cL_position 15 = .ok (.astore_n 3, 1) := by decide +kernel
theorem dL_position_16 : decode cL_position 16 = .ok (.iconst 2, 1) := by decide +kernel
theorem dL_position_17 : decode cL_position 17 = .ok (.ireturn, 1) := by decide +kernel
theorem dL_position_18 : decode cL_position 18 = .ok (.iconst 0, 1) := by decide +kernel
theorem dL_position_19 : decode cL_position 19 = .ok (.ireturn, 1) := by decide +kernel
theorem dL_hasArc_0 : decode cL_hasArc 0 = .ok (.aload_n 3, 1) := by decide +kernel
theorem dL_hasArc_1 : decode cL_hasArc 1 = .ok (.iconst 0, 1) := by decide +kernel
theorem dL_hasArc_2 : decode cL_hasArc 2 = .ok (.aload_n 0, 1) := by decide +kernel
theorem dL_hasArc_3 : decode cL_hasArc 3 = .ok (.iload_n 1, 1) := by decide +kernel
theorem dL_hasArc_4 : decode cL_hasArc 4 = .ok (.iload_n 2, 1) := by decide +kernel
theorem dL_hasArc_5 : decode cL_hasArc 5 = .ok (.invokevirtual 54, 3) := by decide +kernel
theorem dL_hasArc_8 : decode cL_hasArc 8 = .ok (.ifCond .eq 7, 3) := by decide +kernel
theorem dL_hasArc_11 : decode cL_hasArc 11 = .ok (.lconst 1, 1) := by decide +kernel
theorem dL_hasArc_12 : decode cL_hasArc 12 = .ok (.goto 4, 3) := by decide +kernel
theorem dL_hasArc_15 : decode cL_hasArc 15 = .ok (.lconst 0, 1) := by decide +kernel
theorem dL_hasArc_16 : decode cL_hasArc 16 = .ok (.lastore, 1) := by decide +kernel
theorem dL_hasArc_17 : decode cL_hasArc 17 = .ok (.goto 11, 3) := by decide +kernel
theorem dL_hasArc_20 : decode cL_hasArc 20 = .ok (.astore 4, 2) := by decide +kernel
theorem dL_hasArc_22 : decode cL_hasArc 22 = .ok (.iconst 1, 1) := by decide +kernel
theorem dL_hasArc_23 : decode cL_hasArc 23 = .ok (.ireturn, 1) := by decide +kernel
theorem dL_hasArc_24 : decode cL_hasArc 24 = .ok (.astore 4, 2) := by decide +kernel
theorem dL_hasArc_26 : decode cL_hasArc 26 = .ok (.iconst 2, 1) := by decide +kernel
theorem dL_hasArc_27 : decode cL_hasArc 27 = .ok (.ireturn, 1) := by decide +kernel
theorem dL_hasArc_28 : decode cL_hasArc 28 = .ok (.iconst 0, 1) := by decide +kernel
theorem dL_hasArc_29 : decode cL_hasArc 29 = .ok (.ireturn, 1) := by decide +kernel
theorem dL_arcCost_0 : decode cL_arcCost 0 = .ok (.aload_n 3, 1) := by decide +kernel
theorem dL_arcCost_1 : decode cL_arcCost 1 = .ok (.iconst 0, 1) := by decide +kernel
theorem dL_arcCost_2 : decode cL_arcCost 2 = .ok (.aload_n 0, 1) := by decide +kernel
theorem dL_arcCost_3 : decode cL_arcCost 3 = .ok (.iload_n 1, 1) := by decide +kernel
theorem dL_arcCost_4 : decode cL_arcCost 4 = .ok (.iload_n 2, 1) := by decide +kernel
theorem dL_arcCost_5 : decode cL_arcCost 5 = .ok (.invokevirtual 58, 3) := by decide +kernel
theorem dL_arcCost_8 : decode cL_arcCost 8 = .ok (.i2l, 1) := by decide +kernel
theorem dL_arcCost_9 : decode cL_arcCost 9 = .ok (.lastore, 1) := by decide +kernel
theorem dL_arcCost_10 : decode cL_arcCost 10 = .ok (.goto 15, 3) := by decide +kernel
theorem dL_arcCost_13 : decode cL_arcCost 13 = .ok (.astore 4, 2) := by decide +kernel
theorem dL_arcCost_15 : decode cL_arcCost 15 = .ok (.iconst 1, 1) := by decide +kernel
theorem dL_arcCost_16 : decode cL_arcCost 16 = .ok (.ireturn, 1) := by decide +kernel
theorem dL_arcCost_17 : decode cL_arcCost 17 = .ok (.astore 4, 2) := by decide +kernel
theorem dL_arcCost_19 : decode cL_arcCost 19 = .ok (.iconst 2, 1) := by decide +kernel
theorem dL_arcCost_20 : decode cL_arcCost 20 = .ok (.ireturn, 1) := by decide +kernel
theorem dL_arcCost_21 : decode cL_arcCost 21 = .ok (.astore 4, 2) := by decide +kernel
theorem dL_arcCost_23 : decode cL_arcCost 23 = .ok (.iconst 3, 1) := by decide +kernel
theorem dL_arcCost_24 : decode cL_arcCost 24 = .ok (.ireturn, 1) := by decide +kernel
theorem dL_arcCost_25 : decode cL_arcCost 25 = .ok (.iconst 0, 1) := by decide +kernel
theorem dL_arcCost_26 : decode cL_arcCost 26 = .ok (.ireturn, 1) := by decide +kernel
theorem dL_distance_0 : decode cL_distance 0 = .ok (.aload_n 3, 1) := by decide +kernel
theorem dL_distance_1 : decode cL_distance 1 = .ok (.iconst 0, 1) := by decide +kernel
theorem dL_distance_2 : decode cL_distance 2 = .ok (.aload_n 0, 1) := by decide +kernel
theorem dL_distance_3 : decode cL_distance 3 = .ok (.iload_n 1, 1) := by decide +kernel
theorem dL_distance_4 : decode cL_distance 4 = .ok (.iload_n 2, 1) := by decide +kernel
theorem dL_distance_5 : decode cL_distance 5 = .ok (.invokevirtual 63, 3) := by decide +kernel
theorem dL_distance_8 : decode cL_distance 8 = .ok (.i2l, 1) := by decide +kernel
theorem dL_distance_9 : decode cL_distance 9 = .ok (.lastore, 1) := by decide +kernel
theorem dL_distance_10 : decode cL_distance 10 = .ok (.goto 11, 3) := by decide +kernel
theorem dL_distance_13 : decode cL_distance 13 = .ok (.astore 4, 2) := by decide +kernel
theorem dL_distance_15 : decode cL_distance 15 = .ok (.iconst 1, 1) := by decide +kernel
theorem dL_distance_16 : decode cL_distance 16 = .ok (.ireturn, 1) := by decide +kernel
theorem dL_distance_17 : decode cL_distance 17 = .ok (.astore 4, 2) := by decide +kernel
theorem dL_distance_19 : decode cL_distance 19 = .ok (.iconst 2, 1) := by decide +kernel
theorem dL_distance_20 : decode cL_distance 20 = .ok (.ireturn, 1) := by decide +kernel
theorem dL_distance_21 : decode cL_distance 21 = .ok (.iconst 0, 1) := by decide +kernel
theorem dL_distance_22 : decode cL_distance 22 = .ok (.ireturn, 1) := by decide +kernel
theorem dL_distanceBehind_0 : decode cL_distanceBehind 0 = .ok (.aload_n 3, 1) := by decide +kernel
theorem dL_distanceBehind_1 : decode cL_distanceBehind 1 = .ok (.iconst 0, 1) := by decide +kernel
theorem dL_distanceBehind_2 : decode cL_distanceBehind 2 = .ok (.aload_n 0, 1) := by decide +kernel
theorem dL_distanceBehind_3 : decode cL_distanceBehind 3 = .ok (.iload_n 1, 1) := by decide +kernel
theorem dL_distanceBehind_4 : decode cL_distanceBehind 4 = .ok (.iload_n 2, 1) := by decide +kernel
theorem dL_distanceBehind_5 : decode cL_distanceBehind 5 = .ok (.invokevirtual 66, 3) := by decide +kernel
theorem dL_distanceBehind_8 : decode cL_distanceBehind 8 = .ok (.i2l, 1) := by decide +kernel
theorem dL_distanceBehind_9 : decode cL_distanceBehind 9 = .ok (.lastore, 1) := by decide +kernel
theorem dL_distanceBehind_10 : decode cL_distanceBehind 10 = .ok (.goto 11, 3) := by decide +kernel
theorem dL_distanceBehind_13 : decode cL_distanceBehind 13 = .ok (.astore 4, 2) := by decide +kernel
theorem dL_distanceBehind_15 : decode cL_distanceBehind 15 = .ok (.iconst 1, 1) := by decide +kernel
theorem dL_distanceBehind_16 : decode cL_distanceBehind 16 = .ok (.ireturn, 1) := by decide +kernel
theorem dL_distanceBehind_17 : decode cL_distanceBehind 17 = .ok (.astore 4, 2) := by decide +kernel
theorem dL_distanceBehind_19 : decode cL_distanceBehind 19 = .ok (.iconst 2, 1) := by decide +kernel
theorem dL_distanceBehind_20 : decode cL_distanceBehind 20 = .ok (.ireturn, 1) := by decide +kernel
theorem dL_distanceBehind_21 : decode cL_distanceBehind 21 = .ok (.iconst 0, 1) := by decide +kernel
theorem dL_distanceBehind_22 : decode cL_distanceBehind 22 = .ok (.ireturn, 1) := by decide +kernel
theorem dL_route_0 : decode cL_route 0 = .ok (.aload_n 3, 1) := by decide +kernel
theorem dL_route_1 : decode cL_route 1 = .ok (.iconst 0, 1) := by decide +kernel
theorem dL_route_2 : decode cL_route 2 = .ok (.aload_n 0, 1) := by decide +kernel
theorem dL_route_3 : decode cL_route 3 = .ok (.iload_n 1, 1) := by decide +kernel
theorem dL_route_4 : decode cL_route 4 = .ok (.iload_n 2, 1) := by decide +kernel
theorem dL_route_5 : decode cL_route 5 = .ok (.invokevirtual 69, 3) := by decide +kernel
theorem dL_route_8 : decode cL_route 8 = .ok (.i2l, 1) := by decide +kernel
theorem dL_route_9 : decode cL_route 9 = .ok (.lastore, 1) := by decide +kernel
theorem dL_route_10 : decode cL_route 10 = .ok (.goto 15, 3) := by decide +kernel
theorem dL_route_13 : decode cL_route 13 = .ok (.astore 4, 2) := by decide +kernel
theorem dL_route_15 : decode cL_route 15 = .ok (.iconst 1, 1) := by decide +kernel
theorem dL_route_16 : decode cL_route 16 = .ok (.ireturn, 1) := by decide +kernel
theorem dL_route_17 : decode cL_route 17 = .ok (.astore 4, 2) := by decide +kernel
theorem dL_route_19 : decode cL_route 19 = .ok (.iconst 2, 1) := by decide +kernel
theorem dL_route_20 : decode cL_route 20 = .ok (.ireturn, 1) := by decide +kernel
theorem dL_route_21 : decode cL_route 21 = .ok (.astore 4, 2) := by decide +kernel
theorem dL_route_23 : decode cL_route 23 = .ok (.iconst 3, 1) := by decide +kernel
theorem dL_route_24 : decode cL_route 24 = .ok (.ireturn, 1) := by decide +kernel
theorem dL_route_25 : decode cL_route 25 = .ok (.iconst 0, 1) := by decide +kernel
theorem dL_route_26 : decode cL_route 26 = .ok (.ireturn, 1) := by decide +kernel
theorem dL_routeRoad_0 : decode cL_routeRoad 0 = .ok (.aload_n 2, 1) := by decide +kernel
theorem dL_routeRoad_1 : decode cL_routeRoad 1 = .ok (.iconst 0, 1) := by decide +kernel
theorem dL_routeRoad_2 : decode cL_routeRoad 2 = .ok (.aload_n 0, 1) := by decide +kernel
theorem dL_routeRoad_3 : decode cL_routeRoad 3 = .ok (.iload_n 1, 1) := by decide +kernel
theorem dL_routeRoad_4 : decode cL_routeRoad 4 = .ok (.invokevirtual 72, 3) := by decide +kernel
theorem dL_routeRoad_7 : decode cL_routeRoad 7 = .ok (.i2l, 1) := by decide +kernel
theorem dL_routeRoad_8 : decode cL_routeRoad 8 = .ok (.lastore, 1) := by decide +kernel
theorem dL_routeRoad_9 : decode cL_routeRoad 9 = .ok (.goto 6, 3) := by decide +kernel
theorem dL_routeRoad_12 : decode cL_routeRoad 12 = .ok (.astore_n 3, 1) := by decide +kernel
theorem dL_routeRoad_13 : decode cL_routeRoad 13 = .ok (.iconst 1, 1) := by decide +kernel
theorem dL_routeRoad_14 : decode cL_routeRoad 14 = .ok (.ireturn, 1) := by decide +kernel
theorem dL_routeRoad_15 : decode cL_routeRoad 15 = .ok (.iconst 0, 1) := by decide +kernel
theorem dL_routeRoad_16 : decode cL_routeRoad 16 = .ok (.ireturn, 1) := by decide +kernel
theorem dL_reach_0 : decode cL_reach 0 = .ok (.aload_n 3, 1) := by decide +kernel
theorem dL_reach_1 : decode cL_reach 1 = .ok (.iconst 0, 1) := by decide +kernel
theorem dL_reach_2 : decode cL_reach 2 = .ok (.aload_n 0, 1) := by decide +kernel
theorem dL_reach_3 : decode cL_reach 3 = .ok (.iload_n 1, 1) := by decide +kernel
theorem dL_reach_4 : decode cL_reach 4 = .ok (.iload_n 2, 1) := by decide +kernel
theorem dL_reach_5 : decode cL_reach 5 = .ok (.invokevirtual 75, 3) := by decide +kernel
theorem dL_reach_8 : decode cL_reach 8 = .ok (.i2l, 1) := by decide +kernel
theorem dL_reach_9 : decode cL_reach 9 = .ok (.lastore, 1) := by decide +kernel
theorem dL_reach_10 : decode cL_reach 10 = .ok (.goto 15, 3) := by decide +kernel
theorem dL_reach_13 : decode cL_reach 13 = .ok (.astore 4, 2) := by decide +kernel
theorem dL_reach_15 : decode cL_reach 15 = .ok (.iconst 1, 1) := by decide +kernel
theorem dL_reach_16 : decode cL_reach 16 = .ok (.ireturn, 1) := by decide +kernel
theorem dL_reach_17 : decode cL_reach 17 = .ok (.astore 4, 2) := by decide +kernel
theorem dL_reach_19 : decode cL_reach 19 = .ok (.iconst 2, 1) := by decide +kernel
theorem dL_reach_20 : decode cL_reach 20 = .ok (.ireturn, 1) := by decide +kernel
theorem dL_reach_21 : decode cL_reach 21 = .ok (.astore 4, 2) := by decide +kernel
theorem dL_reach_23 : decode cL_reach 23 = .ok (.iconst 3, 1) := by decide +kernel
theorem dL_reach_24 : decode cL_reach 24 = .ok (.ireturn, 1) := by decide +kernel
theorem dL_reach_25 : decode cL_reach 25 = .ok (.iconst 0, 1) := by decide +kernel
theorem dL_reach_26 : decode cL_reach 26 = .ok (.ireturn, 1) := by decide +kernel
theorem dL_reached_0 : decode cL_reached 0 = .ok (.aload_n 2, 1) := by decide +kernel
theorem dL_reached_1 : decode cL_reached 1 = .ok (.iconst 0, 1) := by decide +kernel
theorem dL_reached_2 : decode cL_reached 2 = .ok (.aload_n 0, 1) := by decide +kernel
theorem dL_reached_3 : decode cL_reached 3 = .ok (.iload_n 1, 1) := by decide +kernel
theorem dL_reached_4 : decode cL_reached 4 = .ok (.invokevirtual 78, 3) := by decide +kernel
theorem dL_reached_7 : decode cL_reached 7 = .ok (.i2l, 1) := by decide +kernel
theorem dL_reached_8 : decode cL_reached 8 = .ok (.lastore, 1) := by decide +kernel
theorem dL_reached_9 : decode cL_reached 9 = .ok (.goto 6, 3) := by decide +kernel
theorem dL_reached_12 : decode cL_reached 12 = .ok (.astore_n 3, 1) := by decide +kernel
theorem dL_reached_13 : decode cL_reached 13 = .ok (.iconst 1, 1) := by decide +kernel
theorem dL_reached_14 : decode cL_reached 14 = .ok (.ireturn, 1) := by decide +kernel
theorem dL_reached_15 : decode cL_reached 15 = .ok (.iconst 0, 1) := by decide +kernel
theorem dL_reached_16 : decode cL_reached 16 = .ok (.ireturn, 1) := by decide +kernel
theorem dL_averageDistance_0 : decode cL_averageDistance 0 = .ok (.aload_n 2, 1) := by decide +kernel
theorem dL_averageDistance_1 : decode cL_averageDistance 1 = .ok (.iconst 0, 1) := by decide +kernel
theorem dL_averageDistance_2 : decode cL_averageDistance 2 = .ok (.aload_n 0, 1) := by decide +kernel
theorem dL_averageDistance_3 : decode cL_averageDistance 3 = .ok (.iload_n 1, 1) := by decide +kernel
theorem dL_averageDistance_4 : decode cL_averageDistance 4 = .ok (.invokevirtual 81, 3) := by decide +kernel
theorem dL_averageDistance_7 : decode cL_averageDistance 7 = .ok (.dastore, 1) := by decide +kernel
theorem dL_averageDistance_8 : decode cL_averageDistance 8 = .ok (.goto 9, 3) := by decide +kernel
theorem dL_averageDistance_11 : decode cL_averageDistance 11 = .ok (.astore_n 3, 1) := by decide +kernel
theorem dL_averageDistance_12 : decode cL_averageDistance 12 = .ok (.iconst 1, 1) := by decide +kernel
theorem dL_averageDistance_13 : decode cL_averageDistance 13 = .ok (.ireturn, 1) := by decide +kernel
theorem dL_averageDistance_14 : decode cL_averageDistance 14 = .ok (.astore_n 3, 1) := by decide +kernel
theorem dL_averageDistance_15 : decode cL_averageDistance 15 = .ok (.iconst 2, 1) := by decide +kernel
theorem dL_averageDistance_16 : decode cL_averageDistance 16 = .ok (.ireturn, 1) := by decide +kernel
theorem dL_averageDistance_17 : decode cL_averageDistance 17 = .ok (.iconst 0, 1) := by decide +kernel
theorem dL_averageDistance_18 : decode cL_averageDistance 18 = .ok (.ireturn, 1) := by decide +kernel
theorem dL_detour_0 : decode cL_detour 0 = .ok (.aload 4, 2) := by decide +kernel
theorem dL_detour_2 : decode cL_detour 2 = .ok (.iconst 0, 1) := by decide +kernel
theorem dL_detour_3 : decode cL_detour 3 = .ok (.aload_n 0, 1) := by decide +kernel
theorem dL_detour_4 : decode cL_detour 4 = .ok (.iload_n 1, 1) := by decide +kernel
theorem dL_detour_5 : decode cL_detour 5 = .ok (.iload_n 2, 1) := by decide +kernel
theorem dL_detour_6 : decode cL_detour 6 = .ok (.iload_n 3, 1) := by decide +kernel
theorem dL_detour_7 : decode cL_detour 7 = .ok (.invokevirtual 85, 3) := by decide +kernel
theorem dL_detour_10 : decode cL_detour 10 = .ok (.i2l, 1) := by decide +kernel
theorem dL_detour_11 : decode cL_detour 11 = .ok (.lastore, 1) := by decide +kernel
theorem dL_detour_12 : decode cL_detour 12 = .ok (.goto 15, 3) := by decide +kernel
theorem dL_detour_15 : decode cL_detour 15 = .ok (.astore 5, 2) := by decide +kernel
theorem dL_detour_17 : decode cL_detour 17 = .ok (.iconst 1, 1) := by decide +kernel
theorem dL_detour_18 : decode cL_detour 18 = .ok (.ireturn, 1) := by decide +kernel
theorem dL_detour_19 : decode cL_detour 19 = .ok (.astore 5, 2) := by decide +kernel
theorem dL_detour_21 : decode cL_detour 21 = .ok (.iconst 2, 1) := by decide +kernel
theorem dL_detour_22 : decode cL_detour 22 = .ok (.ireturn, 1) := by decide +kernel
theorem dL_detour_23 : decode cL_detour 23 = .ok (.astore 5, 2) := by decide +kernel
theorem dL_detour_25 : decode cL_detour 25 = .ok (.iconst 3, 1) := by decide +kernel
theorem dL_detour_26 : decode cL_detour 26 = .ok (.ireturn, 1) := by decide +kernel
theorem dL_detour_27 : decode cL_detour 27 = .ok (.iconst 0, 1) := by decide +kernel
theorem dL_detour_28 : decode cL_detour 28 = .ok (.ireturn, 1) := by decide +kernel
theorem dL_setPlace_0 : decode cL_setPlace 0 = .ok (.aload 4, 2) := by decide +kernel
theorem dL_setPlace_2 : decode cL_setPlace 2 = .ok (.iconst 0, 1) := by decide +kernel
theorem dL_setPlace_3 : decode cL_setPlace 3 = .ok (.aload_n 0, 1) := by decide +kernel
theorem dL_setPlace_4 : decode cL_setPlace 4 = .ok (.iload_n 1, 1) := by decide +kernel
theorem dL_setPlace_5 : decode cL_setPlace 5 = .ok (.iload_n 2, 1) := by decide +kernel
theorem dL_setPlace_6 : decode cL_setPlace 6 = .ok (.iload_n 3, 1) := by decide +kernel
theorem dL_setPlace_7 : decode cL_setPlace 7 = .ok (.invokevirtual 88, 3) := by decide +kernel
theorem dL_setPlace_10 : decode cL_setPlace 10 = .ok (.ifCond .eq 7, 3) := by decide +kernel
theorem dL_setPlace_13 : decode cL_setPlace 13 = .ok (.lconst 1, 1) := by decide +kernel
theorem dL_setPlace_14 : decode cL_setPlace 14 = .ok (.goto 4, 3) := by decide +kernel
theorem dL_setPlace_17 : decode cL_setPlace 17 = .ok (.lconst 0, 1) := by decide +kernel
theorem dL_setPlace_18 : decode cL_setPlace 18 = .ok (.lastore, 1) := by decide +kernel
theorem dL_setPlace_19 : decode cL_setPlace 19 = .ok (.goto 7, 3) := by decide +kernel
theorem dL_setPlace_22 : decode cL_setPlace 22 = .ok (.astore 5, 2) := by decide +kernel
theorem dL_setPlace_24 : decode cL_setPlace 24 = .ok (.iconst 1, 1) := by decide +kernel
theorem dL_setPlace_25 : decode cL_setPlace 25 = .ok (.ireturn, 1) := by decide +kernel
theorem dL_setPlace_26 : decode cL_setPlace 26 = .ok (.iconst 0, 1) := by decide +kernel
theorem dL_setPlace_27 : decode cL_setPlace 27 = .ok (.ireturn, 1) := by decide +kernel
theorem dL_nearest_0 : decode cL_nearest 0 = .ok (.aload_n 3, 1) := by decide +kernel
theorem dL_nearest_1 : decode cL_nearest 1 = .ok (.iconst 0, 1) := by decide +kernel
theorem dL_nearest_2 : decode cL_nearest 2 = .ok (.aload_n 0, 1) := by decide +kernel
theorem dL_nearest_3 : decode cL_nearest 3 = .ok (.iload_n 1, 1) := by decide +kernel
theorem dL_nearest_4 : decode cL_nearest 4 = .ok (.iload_n 2, 1) := by decide +kernel
theorem dL_nearest_5 : decode cL_nearest 5 = .ok (.invokevirtual 92, 3) := by decide +kernel
theorem dL_nearest_8 : decode cL_nearest 8 = .ok (.i2l, 1) := by decide +kernel
theorem dL_nearest_9 : decode cL_nearest 9 = .ok (.lastore, 1) := by decide +kernel
theorem dL_nearest_10 : decode cL_nearest 10 = .ok (.goto 15, 3) := by decide +kernel
theorem dL_nearest_13 : decode cL_nearest 13 = .ok (.astore 4, 2) := by decide +kernel
theorem dL_nearest_15 : decode cL_nearest 15 = .ok (.iconst 1, 1) := by decide +kernel
theorem dL_nearest_16 : decode cL_nearest 16 = .ok (.ireturn, 1) := by decide +kernel
theorem dL_nearest_17 : decode cL_nearest 17 = .ok (.astore 4, 2) := by decide +kernel
theorem dL_nearest_19 : decode cL_nearest 19 = .ok (.iconst 2, 1) := by decide +kernel
theorem dL_nearest_20 : decode cL_nearest 20 = .ok (.ireturn, 1) := by decide +kernel
theorem dL_nearest_21 : decode cL_nearest 21 = .ok (.astore 4, 2) := by decide +kernel
theorem dL_nearest_23 : decode cL_nearest 23 = .ok (.iconst 3, 1) := by decide +kernel
theorem dL_nearest_24 : decode cL_nearest 24 = .ok (.ireturn, 1) := by decide +kernel
theorem dL_nearest_25 : decode cL_nearest 25 = .ok (.iconst 0, 1) := by decide +kernel
theorem dL_nearest_26 : decode cL_nearest 26 = .ok (.ireturn, 1) := by decide +kernel
theorem dL_push_0 : decode cL_push 0 = .ok (.aload_n 1, 1) := by decide +kernel
theorem dL_push_1 : decode cL_push 1 = .ok (.iconst 0, 1) := by decide +kernel
theorem dL_push_2 : decode cL_push 2 = .ok (.aload_n 0, 1) := by decide +kernel
theorem dL_push_3 : decode cL_push 3 = .ok (.invokevirtual 95, 3) := by decide +kernel
theorem dL_push_6 : decode cL_push 6 = .ok (.i2l, 1) := by decide +kernel
theorem dL_push_7 : decode cL_push 7 = .ok (.lastore, 1) := by decide +kernel
theorem dL_push_8 : decode cL_push 8 = .ok (.goto 6, 3) := by decide +kernel
theorem dL_push_11 : decode cL_push 11 = .ok (.astore_n 2, 1) := by decide +kernel
theorem dL_push_12 : decode cL_push 12 = .ok (.iconst 1, 1) := by decide +kernel
theorem dL_push_13 : decode cL_push 13 = .ok (.ireturn, 1) := by decide +kernel
theorem dL_push_14 : decode cL_push 14 = .ok (.iconst 0, 1) := by decide +kernel
theorem dL_push_15 : decode cL_push 15 = .ok (.ireturn, 1) := by decide +kernel
theorem dL_pop_0 : decode cL_pop 0 = .ok (.aload_n 1, 1) := by decide +kernel
theorem dL_pop_1 : decode cL_pop 1 = .ok (.iconst 0, 1) := by decide +kernel
theorem dL_pop_2 : decode cL_pop 2 = .ok (.aload_n 0, 1) := by decide +kernel
theorem dL_pop_3 : decode cL_pop 3 = .ok (.invokevirtual 98, 3) := by decide +kernel
theorem dL_pop_6 : decode cL_pop 6 = .ok (.i2l, 1) := by decide +kernel
theorem dL_pop_7 : decode cL_pop 7 = .ok (.lastore, 1) := by decide +kernel
theorem dL_pop_8 : decode cL_pop 8 = .ok (.goto 6, 3) := by decide +kernel
theorem dL_pop_11 : decode cL_pop 11 = .ok (.astore_n 2, 1) := by decide +kernel
theorem dL_pop_12 : decode cL_pop 12 = .ok (.iconst 1, 1) := by decide +kernel
theorem dL_pop_13 : decode cL_pop 13 = .ok (.ireturn, 1) := by decide +kernel
theorem dL_pop_14 : decode cL_pop 14 = .ok (.iconst 0, 1) := by decide +kernel
theorem dL_pop_15 : decode cL_pop 15 = .ok (.ireturn, 1) := by decide +kernel
end
section
theorem dL_law_0 : decode cL_law 0 = .ok (.new 8, 3) := by decide +kernel
theorem dL_law_3 : decode cL_law 3 = .ok (.dup, 1) := by decide +kernel
theorem dL_law_4 : decode cL_law 4 = .ok (.invokespecial 101, 3) := by decide +kernel
theorem dL_law_7 : decode cL_law 7 = .ok (.astore_n 1, 1) := by decide +kernel
theorem dL_law_8 : decode cL_law 8 = .ok (.new 102, 3) := by decide +kernel
theorem dL_law_11 : decode cL_law 11 = .ok (.dup, 1) := by decide +kernel
theorem dL_law_12 : decode cL_law 12 = .ok (.invokespecial 104, 3) := by decide +kernel
theorem dL_law_15 : decode cL_law 15 = .ok (.astore_n 2, 1) := by decide +kernel
theorem dL_law_16 : decode cL_law 16 = .ok (.iconst 1, 1) := by decide +kernel
theorem dL_law_17 : decode cL_law 17 = .ok (.newarray .long, 2) := by decide +kernel
theorem dL_law_19 : decode cL_law 19 = .ok (.astore_n 3, 1) := by decide +kernel
theorem dL_law_20 : decode cL_law 20 = .ok (.iconst 1, 1) := by decide +kernel
theorem dL_law_21 : decode cL_law 21 = .ok (.newarray .double, 2) := by decide +kernel
theorem dL_law_23 : decode cL_law 23 = .ok (.astore 4, 2) := by decide +kernel
theorem dL_law_25 : decode cL_law 25 = .ok (.iconst 0, 1) := by decide +kernel
theorem dL_law_26 : decode cL_law 26 = .ok (.istore 5, 2) := by decide +kernel
theorem dL_law_28 : decode cL_law 28 = .ok (.iload 5, 2) := by decide +kernel
theorem dL_law_30 : decode cL_law 30 = .ok (.aload_n 0, 1) := by decide +kernel
theorem dL_law_31 : decode cL_law 31 = .ok (.arraylength, 1) := by decide +kernel
theorem dL_law_32 : decode cL_law 32 = .ok (.iconst 4, 1) := by decide +kernel
theorem dL_law_33 : decode cL_law 33 = .ok (.isub, 1) := by decide +kernel
theorem dL_law_34 : decode cL_law 34 = .ok (.if_icmp .gt 1877, 3) := by decide +kernel
theorem dL_law_37 : decode cL_law 37 = .ok (.aload_n 0, 1) := by decide +kernel
theorem dL_law_38 : decode cL_law 38 = .ok (.iload 5, 2) := by decide +kernel
theorem dL_law_40 : decode cL_law 40 = .ok (.iaload, 1) := by decide +kernel
theorem dL_law_41 : decode cL_law 41 = .ok (.bipush 31, 2) := by decide +kernel
theorem dL_law_43 : decode cL_law 43 = .ok (.iand, 1) := by decide +kernel
theorem dL_law_44 : decode cL_law 44 = .ok (.tableswitch 1861 0 30 #[140, 184, 264, 332, 416, 496, 552, 565, 578, 634, 697, 765, 809, 822, 878, 891, 966, 1034, 1102, 1170, 1238, 1294, 1307, 1375, 1431, 1508, 1588, 1691, 1759, 1803, 1847], 140) := by decide +kernel
theorem dL_law_184 : decode cL_law 184 = .ok (.aload_n 1, 1) := by decide +kernel
theorem dL_law_185 : decode cL_law 185 = .ok (.aload_n 3, 1) := by decide +kernel
theorem dL_law_186 : decode cL_law 186 = .ok (.invokestatic 105, 3) := by decide +kernel
theorem dL_law_189 : decode cL_law 189 = .ok (.istore 6, 2) := by decide +kernel
theorem dL_law_191 : decode cL_law 191 = .ok (.aload_n 2, 1) := by decide +kernel
theorem dL_law_192 : decode cL_law 192 = .ok (.invokevirtual 110, 3) := by decide +kernel
theorem dL_law_195 : decode cL_law 195 = .ok (.istore 7, 2) := by decide +kernel
theorem dL_law_197 : decode cL_law 197 = .ok (.aload_n 2, 1) := by decide +kernel
theorem dL_law_198 : decode cL_law 198 = .ok (.invokevirtual 111, 3) := by decide +kernel
theorem dL_law_201 : decode cL_law 201 = .ok (.iload 6, 2) := by decide +kernel
theorem dL_law_203 : decode cL_law 203 = .ok (.if_icmp .eq 5, 3) := by decide +kernel
theorem dL_law_206 : decode cL_law 206 = .ok (.iconst 0, 1) := by decide +kernel
theorem dL_law_207 : decode cL_law 207 = .ok (.ireturn, 1) := by decide +kernel
theorem dL_law_208 : decode cL_law 208 = .ok (.iload 6, 2) := by decide +kernel
theorem dL_law_210 : decode cL_law 210 = .ok (.ifCond .ne 15, 3) := by decide +kernel
theorem dL_law_213 : decode cL_law 213 = .ok (.aload_n 3, 1) := by decide +kernel
theorem dL_law_214 : decode cL_law 214 = .ok (.iconst 0, 1) := by decide +kernel
theorem dL_law_215 : decode cL_law 215 = .ok (.laload, 1) := by decide +kernel
theorem dL_law_216 : decode cL_law 216 = .ok (.iload 7, 2) := by decide +kernel
theorem dL_law_218 : decode cL_law 218 = .ok (.i2l, 1) := by decide +kernel
theorem dL_law_219 : decode cL_law 219 = .ok (.lcmp, 1) := by decide +kernel
theorem dL_law_220 : decode cL_law 220 = .ok (.ifCond .eq 5, 3) := by decide +kernel
theorem dL_law_223 : decode cL_law 223 = .ok (.iconst 0, 1) := by decide +kernel
theorem dL_law_224 : decode cL_law 224 = .ok (.ireturn, 1) := by decide +kernel
theorem dL_law_225 : decode cL_law 225 = .ok (.goto 1680, 3) := by decide +kernel
theorem dL_law_228 : decode cL_law 228 = .ok (.aload_n 1, 1) := by decide +kernel
theorem dL_law_229 : decode cL_law 229 = .ok (.aload_n 0, 1) := by decide +kernel
theorem dL_law_230 : decode cL_law 230 = .ok (.iload 5, 2) := by decide +kernel
theorem dL_law_232 : decode cL_law 232 = .ok (.iconst 1, 1) := by decide +kernel
theorem dL_law_233 : decode cL_law 233 = .ok (.iadd, 1) := by decide +kernel
theorem dL_law_234 : decode cL_law 234 = .ok (.iaload, 1) := by decide +kernel
theorem dL_law_235 : decode cL_law 235 = .ok (.aload_n 0, 1) := by decide +kernel
theorem dL_law_236 : decode cL_law 236 = .ok (.iload 5, 2) := by decide +kernel
theorem dL_law_238 : decode cL_law 238 = .ok (.iconst 2, 1) := by decide +kernel
theorem dL_law_239 : decode cL_law 239 = .ok (.iadd, 1) := by decide +kernel
theorem dL_law_240 : decode cL_law 240 = .ok (.iaload, 1) := by decide +kernel
theorem dL_law_241 : decode cL_law 241 = .ok (.aload_n 0, 1) := by decide +kernel
theorem dL_law_242 : decode cL_law 242 = .ok (.iload 5, 2) := by decide +kernel
theorem dL_law_244 : decode cL_law 244 = .ok (.iconst 3, 1) := by decide +kernel
theorem dL_law_245 : decode cL_law 245 = .ok (.iadd, 1) := by decide +kernel
theorem dL_law_246 : decode cL_law 246 = .ok (.iaload, 1) := by decide +kernel
theorem dL_law_247 : decode cL_law 247 = .ok (.aload_n 3, 1) := by decide +kernel
theorem dL_law_248 : decode cL_law 248 = .ok (.invokestatic 114, 3) := by decide +kernel
theorem dL_law_251 : decode cL_law 251 = .ok (.istore 6, 2) := by decide +kernel
theorem dL_law_253 : decode cL_law 253 = .ok (.aload_n 2, 1) := by decide +kernel
theorem dL_law_254 : decode cL_law 254 = .ok (.aload_n 0, 1) := by decide +kernel
theorem dL_law_255 : decode cL_law 255 = .ok (.iload 5, 2) := by decide +kernel
theorem dL_law_257 : decode cL_law 257 = .ok (.iconst 1, 1) := by decide +kernel
theorem dL_law_258 : decode cL_law 258 = .ok (.iadd, 1) := by decide +kernel
theorem dL_law_259 : decode cL_law 259 = .ok (.iaload, 1) := by decide +kernel
theorem dL_law_260 : decode cL_law 260 = .ok (.aload_n 0, 1) := by decide +kernel
theorem dL_law_261 : decode cL_law 261 = .ok (.iload 5, 2) := by decide +kernel
theorem dL_law_263 : decode cL_law 263 = .ok (.iconst 2, 1) := by decide +kernel
theorem dL_law_264 : decode cL_law 264 = .ok (.iadd, 1) := by decide +kernel
theorem dL_law_265 : decode cL_law 265 = .ok (.iaload, 1) := by decide +kernel
theorem dL_law_266 : decode cL_law 266 = .ok (.aload_n 0, 1) := by decide +kernel
theorem dL_law_267 : decode cL_law 267 = .ok (.iload 5, 2) := by decide +kernel
theorem dL_law_269 : decode cL_law 269 = .ok (.iconst 3, 1) := by decide +kernel
theorem dL_law_270 : decode cL_law 270 = .ok (.iadd, 1) := by decide +kernel
theorem dL_law_271 : decode cL_law 271 = .ok (.iaload, 1) := by decide +kernel
theorem dL_law_272 : decode cL_law 272 = .ok (.invokevirtual 117, 3) := by decide +kernel
theorem dL_law_275 : decode cL_law 275 = .ok (.istore 7, 2) := by decide +kernel
theorem dL_law_277 : decode cL_law 277 = .ok (.aload_n 2, 1) := by decide +kernel
theorem dL_law_278 : decode cL_law 278 = .ok (.invokevirtual 111, 3) := by decide +kernel
theorem dL_law_281 : decode cL_law 281 = .ok (.iload 6, 2) := by decide +kernel
theorem dL_law_283 : decode cL_law 283 = .ok (.if_icmp .eq 5, 3) := by decide +kernel
theorem dL_law_286 : decode cL_law 286 = .ok (.iconst 0, 1) := by decide +kernel
theorem dL_law_287 : decode cL_law 287 = .ok (.ireturn, 1) := by decide +kernel
theorem dL_law_288 : decode cL_law 288 = .ok (.iload 6, 2) := by decide +kernel
theorem dL_law_290 : decode cL_law 290 = .ok (.ifCond .ne 15, 3) := by decide +kernel
theorem dL_law_293 : decode cL_law 293 = .ok (.aload_n 3, 1) := by decide +kernel
theorem dL_law_294 : decode cL_law 294 = .ok (.iconst 0, 1) := by decide +kernel
theorem dL_law_295 : decode cL_law 295 = .ok (.laload, 1) := by decide +kernel
theorem dL_law_296 : decode cL_law 296 = .ok (.iload 7, 2) := by decide +kernel
theorem dL_law_298 : decode cL_law 298 = .ok (.i2l, 1) := by decide +kernel
theorem dL_law_299 : decode cL_law 299 = .ok (.lcmp, 1) := by decide +kernel
theorem dL_law_300 : decode cL_law 300 = .ok (.ifCond .eq 5, 3) := by decide +kernel
theorem dL_law_303 : decode cL_law 303 = .ok (.iconst 0, 1) := by decide +kernel
theorem dL_law_304 : decode cL_law 304 = .ok (.ireturn, 1) := by decide +kernel
theorem dL_law_305 : decode cL_law 305 = .ok (.goto 1600, 3) := by decide +kernel
theorem dL_law_308 : decode cL_law 308 = .ok (.aload_n 1, 1) := by decide +kernel
theorem dL_law_309 : decode cL_law 309 = .ok (.aload_n 0, 1) := by decide +kernel
theorem dL_law_310 : decode cL_law 310 = .ok (.iload 5, 2) := by decide +kernel
theorem dL_law_312 : decode cL_law 312 = .ok (.iconst 1, 1) := by decide +kernel
theorem dL_law_313 : decode cL_law 313 = .ok (.iadd, 1) := by decide +kernel
theorem dL_law_314 : decode cL_law 314 = .ok (.iaload, 1) := by decide +kernel
theorem dL_law_315 : decode cL_law 315 = .ok (.aload_n 0, 1) := by decide +kernel
theorem dL_law_316 : decode cL_law 316 = .ok (.iload 5, 2) := by decide +kernel
theorem dL_law_318 : decode cL_law 318 = .ok (.iconst 2, 1) := by decide +kernel
theorem dL_law_319 : decode cL_law 319 = .ok (.iadd, 1) := by decide +kernel
theorem dL_law_320 : decode cL_law 320 = .ok (.iaload, 1) := by decide +kernel
theorem dL_law_321 : decode cL_law 321 = .ok (.aload_n 3, 1) := by decide +kernel
theorem dL_law_322 : decode cL_law 322 = .ok (.invokestatic 118, 3) := by decide +kernel
theorem dL_law_325 : decode cL_law 325 = .ok (.istore 6, 2) := by decide +kernel
theorem dL_law_327 : decode cL_law 327 = .ok (.aload_n 2, 1) := by decide +kernel
theorem dL_law_328 : decode cL_law 328 = .ok (.aload_n 0, 1) := by decide +kernel
theorem dL_law_329 : decode cL_law 329 = .ok (.iload 5, 2) := by decide +kernel
theorem dL_law_331 : decode cL_law 331 = .ok (.iconst 1, 1) := by decide +kernel
theorem dL_law_332 : decode cL_law 332 = .ok (.iadd, 1) := by decide +kernel
theorem dL_law_333 : decode cL_law 333 = .ok (.iaload, 1) := by decide +kernel
theorem dL_law_334 : decode cL_law 334 = .ok (.aload_n 0, 1) := by decide +kernel
theorem dL_law_335 : decode cL_law 335 = .ok (.iload 5, 2) := by decide +kernel
theorem dL_law_337 : decode cL_law 337 = .ok (.iconst 2, 1) := by decide +kernel
theorem dL_law_338 : decode cL_law 338 = .ok (.iadd, 1) := by decide +kernel
theorem dL_law_339 : decode cL_law 339 = .ok (.iaload, 1) := by decide +kernel
theorem dL_law_340 : decode cL_law 340 = .ok (.invokevirtual 121, 3) := by decide +kernel
theorem dL_law_343 : decode cL_law 343 = .ok (.istore 7, 2) := by decide +kernel
theorem dL_law_345 : decode cL_law 345 = .ok (.aload_n 2, 1) := by decide +kernel
theorem dL_law_346 : decode cL_law 346 = .ok (.invokevirtual 111, 3) := by decide +kernel
theorem dL_law_349 : decode cL_law 349 = .ok (.iload 6, 2) := by decide +kernel
theorem dL_law_351 : decode cL_law 351 = .ok (.if_icmp .eq 5, 3) := by decide +kernel
theorem dL_law_354 : decode cL_law 354 = .ok (.iconst 0, 1) := by decide +kernel
theorem dL_law_355 : decode cL_law 355 = .ok (.ireturn, 1) := by decide +kernel
theorem dL_law_356 : decode cL_law 356 = .ok (.iload 6, 2) := by decide +kernel
theorem dL_law_358 : decode cL_law 358 = .ok (.ifCond .ne 15, 3) := by decide +kernel
theorem dL_law_361 : decode cL_law 361 = .ok (.aload_n 3, 1) := by decide +kernel
theorem dL_law_362 : decode cL_law 362 = .ok (.iconst 0, 1) := by decide +kernel
theorem dL_law_363 : decode cL_law 363 = .ok (.laload, 1) := by decide +kernel
theorem dL_law_364 : decode cL_law 364 = .ok (.iload 7, 2) := by decide +kernel
theorem dL_law_366 : decode cL_law 366 = .ok (.i2l, 1) := by decide +kernel
theorem dL_law_367 : decode cL_law 367 = .ok (.lcmp, 1) := by decide +kernel
theorem dL_law_368 : decode cL_law 368 = .ok (.ifCond .eq 5, 3) := by decide +kernel
theorem dL_law_371 : decode cL_law 371 = .ok (.iconst 0, 1) := by decide +kernel
theorem dL_law_372 : decode cL_law 372 = .ok (.ireturn, 1) := by decide +kernel
theorem dL_law_373 : decode cL_law 373 = .ok (.goto 1532, 3) := by decide +kernel
theorem dL_law_376 : decode cL_law 376 = .ok (.aload_n 1, 1) := by decide +kernel
theorem dL_law_377 : decode cL_law 377 = .ok (.aload_n 0, 1) := by decide +kernel
theorem dL_law_378 : decode cL_law 378 = .ok (.iload 5, 2) := by decide +kernel
theorem dL_law_380 : decode cL_law 380 = .ok (.iconst 1, 1) := by decide +kernel
theorem dL_law_381 : decode cL_law 381 = .ok (.iadd, 1) := by decide +kernel
theorem dL_law_382 : decode cL_law 382 = .ok (.iaload, 1) := by decide +kernel
theorem dL_law_383 : decode cL_law 383 = .ok (.aload_n 0, 1) := by decide +kernel
theorem dL_law_384 : decode cL_law 384 = .ok (.iload 5, 2) := by decide +kernel
theorem dL_law_386 : decode cL_law 386 = .ok (.iconst 2, 1) := by decide +kernel
theorem dL_law_387 : decode cL_law 387 = .ok (.iadd, 1) := by decide +kernel
theorem dL_law_388 : decode cL_law 388 = .ok (.iaload, 1) := by decide +kernel
theorem dL_law_389 : decode cL_law 389 = .ok (.ifCond .eq 7, 3) := by decide +kernel
theorem dL_law_392 : decode cL_law 392 = .ok (.iconst 1, 1) := by decide +kernel
theorem dL_law_393 : decode cL_law 393 = .ok (.goto 4, 3) := by decide +kernel
theorem dL_law_396 : decode cL_law 396 = .ok (.iconst 0, 1) := by decide +kernel
theorem dL_law_397 : decode cL_law 397 = .ok (.aload_n 3, 1) := by decide +kernel
theorem dL_law_398 : decode cL_law 398 = .ok (.invokestatic 122, 3) := by decide +kernel
theorem dL_law_401 : decode cL_law 401 = .ok (.istore 6, 2) := by decide +kernel
theorem dL_law_403 : decode cL_law 403 = .ok (.aload_n 2, 1) := by decide +kernel
theorem dL_law_404 : decode cL_law 404 = .ok (.aload_n 0, 1) := by decide +kernel
theorem dL_law_405 : decode cL_law 405 = .ok (.iload 5, 2) := by decide +kernel
theorem dL_law_407 : decode cL_law 407 = .ok (.iconst 1, 1) := by decide +kernel
theorem dL_law_408 : decode cL_law 408 = .ok (.iadd, 1) := by decide +kernel
theorem dL_law_409 : decode cL_law 409 = .ok (.iaload, 1) := by decide +kernel
theorem dL_law_410 : decode cL_law 410 = .ok (.aload_n 0, 1) := by decide +kernel
theorem dL_law_411 : decode cL_law 411 = .ok (.iload 5, 2) := by decide +kernel
theorem dL_law_413 : decode cL_law 413 = .ok (.iconst 2, 1) := by decide +kernel
theorem dL_law_414 : decode cL_law 414 = .ok (.iadd, 1) := by decide +kernel
theorem dL_law_415 : decode cL_law 415 = .ok (.iaload, 1) := by decide +kernel
theorem dL_law_416 : decode cL_law 416 = .ok (.ifCond .eq 7, 3) := by decide +kernel
theorem dL_law_419 : decode cL_law 419 = .ok (.iconst 1, 1) := by decide +kernel
theorem dL_law_420 : decode cL_law 420 = .ok (.goto 4, 3) := by decide +kernel
theorem dL_law_423 : decode cL_law 423 = .ok (.iconst 0, 1) := by decide +kernel
theorem dL_law_424 : decode cL_law 424 = .ok (.invokevirtual 125, 3) := by decide +kernel
theorem dL_law_427 : decode cL_law 427 = .ok (.istore 7, 2) := by decide +kernel
theorem dL_law_429 : decode cL_law 429 = .ok (.aload_n 2, 1) := by decide +kernel
theorem dL_law_430 : decode cL_law 430 = .ok (.invokevirtual 111, 3) := by decide +kernel
theorem dL_law_433 : decode cL_law 433 = .ok (.iload 6, 2) := by decide +kernel
theorem dL_law_435 : decode cL_law 435 = .ok (.if_icmp .eq 5, 3) := by decide +kernel
theorem dL_law_438 : decode cL_law 438 = .ok (.iconst 0, 1) := by decide +kernel
theorem dL_law_439 : decode cL_law 439 = .ok (.ireturn, 1) := by decide +kernel
theorem dL_law_440 : decode cL_law 440 = .ok (.iload 6, 2) := by decide +kernel
theorem dL_law_442 : decode cL_law 442 = .ok (.ifCond .ne 15, 3) := by decide +kernel
theorem dL_law_445 : decode cL_law 445 = .ok (.aload_n 3, 1) := by decide +kernel
theorem dL_law_446 : decode cL_law 446 = .ok (.iconst 0, 1) := by decide +kernel
theorem dL_law_447 : decode cL_law 447 = .ok (.laload, 1) := by decide +kernel
theorem dL_law_448 : decode cL_law 448 = .ok (.iload 7, 2) := by decide +kernel
theorem dL_law_450 : decode cL_law 450 = .ok (.i2l, 1) := by decide +kernel
theorem dL_law_451 : decode cL_law 451 = .ok (.lcmp, 1) := by decide +kernel
theorem dL_law_452 : decode cL_law 452 = .ok (.ifCond .eq 5, 3) := by decide +kernel
theorem dL_law_455 : decode cL_law 455 = .ok (.iconst 0, 1) := by decide +kernel
theorem dL_law_456 : decode cL_law 456 = .ok (.ireturn, 1) := by decide +kernel
theorem dL_law_457 : decode cL_law 457 = .ok (.goto 1448, 3) := by decide +kernel
theorem dL_law_460 : decode cL_law 460 = .ok (.aload_n 1, 1) := by decide +kernel
theorem dL_law_461 : decode cL_law 461 = .ok (.aload_n 0, 1) := by decide +kernel
theorem dL_law_462 : decode cL_law 462 = .ok (.iload 5, 2) := by decide +kernel
theorem dL_law_464 : decode cL_law 464 = .ok (.iconst 1, 1) := by decide +kernel
theorem dL_law_465 : decode cL_law 465 = .ok (.iadd, 1) := by decide +kernel
theorem dL_law_466 : decode cL_law 466 = .ok (.iaload, 1) := by decide +kernel
theorem dL_law_467 : decode cL_law 467 = .ok (.aload_n 0, 1) := by decide +kernel
theorem dL_law_468 : decode cL_law 468 = .ok (.iload 5, 2) := by decide +kernel
theorem dL_law_470 : decode cL_law 470 = .ok (.iconst 2, 1) := by decide +kernel
theorem dL_law_471 : decode cL_law 471 = .ok (.iadd, 1) := by decide +kernel
theorem dL_law_472 : decode cL_law 472 = .ok (.iaload, 1) := by decide +kernel
theorem dL_law_473 : decode cL_law 473 = .ok (.aload_n 0, 1) := by decide +kernel
theorem dL_law_474 : decode cL_law 474 = .ok (.iload 5, 2) := by decide +kernel
theorem dL_law_476 : decode cL_law 476 = .ok (.iconst 3, 1) := by decide +kernel
theorem dL_law_477 : decode cL_law 477 = .ok (.iadd, 1) := by decide +kernel
theorem dL_law_478 : decode cL_law 478 = .ok (.iaload, 1) := by decide +kernel
theorem dL_law_479 : decode cL_law 479 = .ok (.aload_n 3, 1) := by decide +kernel
theorem dL_law_480 : decode cL_law 480 = .ok (.invokestatic 126, 3) := by decide +kernel
theorem dL_law_483 : decode cL_law 483 = .ok (.istore 6, 2) := by decide +kernel
theorem dL_law_485 : decode cL_law 485 = .ok (.aload_n 2, 1) := by decide +kernel
theorem dL_law_486 : decode cL_law 486 = .ok (.aload_n 0, 1) := by decide +kernel
theorem dL_law_487 : decode cL_law 487 = .ok (.iload 5, 2) := by decide +kernel
theorem dL_law_489 : decode cL_law 489 = .ok (.iconst 1, 1) := by decide +kernel
theorem dL_law_490 : decode cL_law 490 = .ok (.iadd, 1) := by decide +kernel
theorem dL_law_491 : decode cL_law 491 = .ok (.iaload, 1) := by decide +kernel
theorem dL_law_492 : decode cL_law 492 = .ok (.aload_n 0, 1) := by decide +kernel
theorem dL_law_493 : decode cL_law 493 = .ok (.iload 5, 2) := by decide +kernel
theorem dL_law_495 : decode cL_law 495 = .ok (.iconst 2, 1) := by decide +kernel
theorem dL_law_496 : decode cL_law 496 = .ok (.iadd, 1) := by decide +kernel
theorem dL_law_497 : decode cL_law 497 = .ok (.iaload, 1) := by decide +kernel
theorem dL_law_498 : decode cL_law 498 = .ok (.aload_n 0, 1) := by decide +kernel
theorem dL_law_499 : decode cL_law 499 = .ok (.iload 5, 2) := by decide +kernel
theorem dL_law_501 : decode cL_law 501 = .ok (.iconst 3, 1) := by decide +kernel
theorem dL_law_502 : decode cL_law 502 = .ok (.iadd, 1) := by decide +kernel
theorem dL_law_503 : decode cL_law 503 = .ok (.iaload, 1) := by decide +kernel
theorem dL_law_504 : decode cL_law 504 = .ok (.invokevirtual 128, 3) := by decide +kernel
theorem dL_law_507 : decode cL_law 507 = .ok (.istore 7, 2) := by decide +kernel
theorem dL_law_509 : decode cL_law 509 = .ok (.aload_n 2, 1) := by decide +kernel
theorem dL_law_510 : decode cL_law 510 = .ok (.invokevirtual 111, 3) := by decide +kernel
theorem dL_law_513 : decode cL_law 513 = .ok (.iload 6, 2) := by decide +kernel
theorem dL_law_515 : decode cL_law 515 = .ok (.if_icmp .eq 5, 3) := by decide +kernel
theorem dL_law_518 : decode cL_law 518 = .ok (.iconst 0, 1) := by decide +kernel
theorem dL_law_519 : decode cL_law 519 = .ok (.ireturn, 1) := by decide +kernel
theorem dL_law_520 : decode cL_law 520 = .ok (.iload 6, 2) := by decide +kernel
theorem dL_law_522 : decode cL_law 522 = .ok (.ifCond .ne 15, 3) := by decide +kernel
theorem dL_law_525 : decode cL_law 525 = .ok (.aload_n 3, 1) := by decide +kernel
theorem dL_law_526 : decode cL_law 526 = .ok (.iconst 0, 1) := by decide +kernel
theorem dL_law_527 : decode cL_law 527 = .ok (.laload, 1) := by decide +kernel
theorem dL_law_528 : decode cL_law 528 = .ok (.iload 7, 2) := by decide +kernel
theorem dL_law_530 : decode cL_law 530 = .ok (.i2l, 1) := by decide +kernel
theorem dL_law_531 : decode cL_law 531 = .ok (.lcmp, 1) := by decide +kernel
theorem dL_law_532 : decode cL_law 532 = .ok (.ifCond .eq 5, 3) := by decide +kernel
theorem dL_law_535 : decode cL_law 535 = .ok (.iconst 0, 1) := by decide +kernel
theorem dL_law_536 : decode cL_law 536 = .ok (.ireturn, 1) := by decide +kernel
theorem dL_law_537 : decode cL_law 537 = .ok (.goto 1368, 3) := by decide +kernel
theorem dL_law_540 : decode cL_law 540 = .ok (.aload_n 1, 1) := by decide +kernel
theorem dL_law_541 : decode cL_law 541 = .ok (.aload_n 0, 1) := by decide +kernel
theorem dL_law_542 : decode cL_law 542 = .ok (.iload 5, 2) := by decide +kernel
theorem dL_law_544 : decode cL_law 544 = .ok (.iconst 1, 1) := by decide +kernel
theorem dL_law_545 : decode cL_law 545 = .ok (.iadd, 1) := by decide +kernel
theorem dL_law_546 : decode cL_law 546 = .ok (.iaload, 1) := by decide +kernel
theorem dL_law_547 : decode cL_law 547 = .ok (.aload_n 3, 1) := by decide +kernel
theorem dL_law_548 : decode cL_law 548 = .ok (.invokestatic 129, 3) := by decide +kernel
theorem dL_law_551 : decode cL_law 551 = .ok (.istore 6, 2) := by decide +kernel
theorem dL_law_553 : decode cL_law 553 = .ok (.aload_n 2, 1) := by decide +kernel
theorem dL_law_554 : decode cL_law 554 = .ok (.aload_n 0, 1) := by decide +kernel
theorem dL_law_555 : decode cL_law 555 = .ok (.iload 5, 2) := by decide +kernel
theorem dL_law_557 : decode cL_law 557 = .ok (.iconst 1, 1) := by decide +kernel
theorem dL_law_558 : decode cL_law 558 = .ok (.iadd, 1) := by decide +kernel
theorem dL_law_559 : decode cL_law 559 = .ok (.iaload, 1) := by decide +kernel
theorem dL_law_560 : decode cL_law 560 = .ok (.invokevirtual 132, 3) := by decide +kernel
theorem dL_law_563 : decode cL_law 563 = .ok (.istore 7, 2) := by decide +kernel
theorem dL_law_565 : decode cL_law 565 = .ok (.aload_n 2, 1) := by decide +kernel
theorem dL_law_566 : decode cL_law 566 = .ok (.invokevirtual 111, 3) := by decide +kernel
theorem dL_law_569 : decode cL_law 569 = .ok (.iload 6, 2) := by decide +kernel
theorem dL_law_571 : decode cL_law 571 = .ok (.if_icmp .eq 5, 3) := by decide +kernel
theorem dL_law_574 : decode cL_law 574 = .ok (.iconst 0, 1) := by decide +kernel
theorem dL_law_575 : decode cL_law 575 = .ok (.ireturn, 1) := by decide +kernel
theorem dL_law_576 : decode cL_law 576 = .ok (.iload 6, 2) := by decide +kernel
theorem dL_law_578 : decode cL_law 578 = .ok (.ifCond .ne 15, 3) := by decide +kernel
theorem dL_law_581 : decode cL_law 581 = .ok (.aload_n 3, 1) := by decide +kernel
theorem dL_law_582 : decode cL_law 582 = .ok (.iconst 0, 1) := by decide +kernel
theorem dL_law_583 : decode cL_law 583 = .ok (.laload, 1) := by decide +kernel
theorem dL_law_584 : decode cL_law 584 = .ok (.iload 7, 2) := by decide +kernel
theorem dL_law_586 : decode cL_law 586 = .ok (.i2l, 1) := by decide +kernel
theorem dL_law_587 : decode cL_law 587 = .ok (.lcmp, 1) := by decide +kernel
theorem dL_law_588 : decode cL_law 588 = .ok (.ifCond .eq 5, 3) := by decide +kernel
theorem dL_law_591 : decode cL_law 591 = .ok (.iconst 0, 1) := by decide +kernel
theorem dL_law_592 : decode cL_law 592 = .ok (.ireturn, 1) := by decide +kernel
theorem dL_law_593 : decode cL_law 593 = .ok (.goto 1312, 3) := by decide +kernel
theorem dL_law_596 : decode cL_law 596 = .ok (.aload_n 1, 1) := by decide +kernel
theorem dL_law_597 : decode cL_law 597 = .ok (.invokevirtual 133, 3) := by decide +kernel
theorem dL_law_600 : decode cL_law 600 = .ok (.aload_n 2, 1) := by decide +kernel
theorem dL_law_601 : decode cL_law 601 = .ok (.invokevirtual 136, 3) := by decide +kernel
theorem dL_law_604 : decode cL_law 604 = .ok (.if_icmp .eq 1301, 3) := by decide +kernel
theorem dL_law_607 : decode cL_law 607 = .ok (.iconst 0, 1) := by decide +kernel
theorem dL_law_608 : decode cL_law 608 = .ok (.ireturn, 1) := by decide +kernel
theorem dL_law_609 : decode cL_law 609 = .ok (.aload_n 1, 1) := by decide +kernel
theorem dL_law_610 : decode cL_law 610 = .ok (.invokevirtual 137, 3) := by decide +kernel
theorem dL_law_613 : decode cL_law 613 = .ok (.aload_n 2, 1) := by decide +kernel
theorem dL_law_614 : decode cL_law 614 = .ok (.invokevirtual 140, 3) := by decide +kernel
theorem dL_law_617 : decode cL_law 617 = .ok (.if_icmp .eq 1288, 3) := by decide +kernel
theorem dL_law_620 : decode cL_law 620 = .ok (.iconst 0, 1) := by decide +kernel
theorem dL_law_621 : decode cL_law 621 = .ok (.ireturn, 1) := by decide +kernel
theorem dL_law_622 : decode cL_law 622 = .ok (.aload_n 1, 1) := by decide +kernel
theorem dL_law_623 : decode cL_law 623 = .ok (.aload_n 0, 1) := by decide +kernel
theorem dL_law_624 : decode cL_law 624 = .ok (.iload 5, 2) := by decide +kernel
theorem dL_law_626 : decode cL_law 626 = .ok (.iconst 1, 1) := by decide +kernel
theorem dL_law_627 : decode cL_law 627 = .ok (.iadd, 1) := by decide +kernel
theorem dL_law_628 : decode cL_law 628 = .ok (.iaload, 1) := by decide +kernel
theorem dL_law_629 : decode cL_law 629 = .ok (.aload_n 3, 1) := by decide +kernel
theorem dL_law_630 : decode cL_law 630 = .ok (.invokestatic 141, 3) := by decide +kernel
theorem dL_law_633 : decode cL_law 633 = .ok (.istore 6, 2) := by decide +kernel
theorem dL_law_635 : decode cL_law 635 = .ok (.aload_n 2, 1) := by decide +kernel
theorem dL_law_636 : decode cL_law 636 = .ok (.aload_n 0, 1) := by decide +kernel
theorem dL_law_637 : decode cL_law 637 = .ok (.iload 5, 2) := by decide +kernel
theorem dL_law_639 : decode cL_law 639 = .ok (.iconst 1, 1) := by decide +kernel
theorem dL_law_640 : decode cL_law 640 = .ok (.iadd, 1) := by decide +kernel
theorem dL_law_641 : decode cL_law 641 = .ok (.iaload, 1) := by decide +kernel
theorem dL_law_642 : decode cL_law 642 = .ok (.invokevirtual 143, 3) := by decide +kernel
theorem dL_law_645 : decode cL_law 645 = .ok (.istore 7, 2) := by decide +kernel
theorem dL_law_647 : decode cL_law 647 = .ok (.aload_n 2, 1) := by decide +kernel
theorem dL_law_648 : decode cL_law 648 = .ok (.invokevirtual 111, 3) := by decide +kernel
theorem dL_law_651 : decode cL_law 651 = .ok (.iload 6, 2) := by decide +kernel
theorem dL_law_653 : decode cL_law 653 = .ok (.if_icmp .eq 5, 3) := by decide +kernel
theorem dL_law_656 : decode cL_law 656 = .ok (.iconst 0, 1) := by decide +kernel
theorem dL_law_657 : decode cL_law 657 = .ok (.ireturn, 1) := by decide +kernel
theorem dL_law_658 : decode cL_law 658 = .ok (.iload 6, 2) := by decide +kernel
theorem dL_law_660 : decode cL_law 660 = .ok (.ifCond .ne 15, 3) := by decide +kernel
theorem dL_law_663 : decode cL_law 663 = .ok (.aload_n 3, 1) := by decide +kernel
theorem dL_law_664 : decode cL_law 664 = .ok (.iconst 0, 1) := by decide +kernel
theorem dL_law_665 : decode cL_law 665 = .ok (.laload, 1) := by decide +kernel
theorem dL_law_666 : decode cL_law 666 = .ok (.iload 7, 2) := by decide +kernel
theorem dL_law_668 : decode cL_law 668 = .ok (.i2l, 1) := by decide +kernel
theorem dL_law_669 : decode cL_law 669 = .ok (.lcmp, 1) := by decide +kernel
theorem dL_law_670 : decode cL_law 670 = .ok (.ifCond .eq 5, 3) := by decide +kernel
theorem dL_law_673 : decode cL_law 673 = .ok (.iconst 0, 1) := by decide +kernel
theorem dL_law_674 : decode cL_law 674 = .ok (.ireturn, 1) := by decide +kernel
theorem dL_law_675 : decode cL_law 675 = .ok (.goto 1230, 3) := by decide +kernel
theorem dL_law_678 : decode cL_law 678 = .ok (.aload_n 1, 1) := by decide +kernel
theorem dL_law_679 : decode cL_law 679 = .ok (.aload_n 0, 1) := by decide +kernel
theorem dL_law_680 : decode cL_law 680 = .ok (.iload 5, 2) := by decide +kernel
theorem dL_law_682 : decode cL_law 682 = .ok (.iconst 1, 1) := by decide +kernel
theorem dL_law_683 : decode cL_law 683 = .ok (.iadd, 1) := by decide +kernel
theorem dL_law_684 : decode cL_law 684 = .ok (.iaload, 1) := by decide +kernel
theorem dL_law_685 : decode cL_law 685 = .ok (.aload_n 3, 1) := by decide +kernel
theorem dL_law_686 : decode cL_law 686 = .ok (.invokestatic 144, 3) := by decide +kernel
theorem dL_law_689 : decode cL_law 689 = .ok (.istore 6, 2) := by decide +kernel
theorem dL_law_691 : decode cL_law 691 = .ok (.aload_n 2, 1) := by decide +kernel
theorem dL_law_692 : decode cL_law 692 = .ok (.aload_n 0, 1) := by decide +kernel
theorem dL_law_693 : decode cL_law 693 = .ok (.iload 5, 2) := by decide +kernel
theorem dL_law_695 : decode cL_law 695 = .ok (.iconst 1, 1) := by decide +kernel
theorem dL_law_696 : decode cL_law 696 = .ok (.iadd, 1) := by decide +kernel
theorem dL_law_697 : decode cL_law 697 = .ok (.iaload, 1) := by decide +kernel
theorem dL_law_698 : decode cL_law 698 = .ok (.invokevirtual 146, 3) := by decide +kernel
theorem dL_law_701 : decode cL_law 701 = .ok (.istore 7, 2) := by decide +kernel
theorem dL_law_703 : decode cL_law 703 = .ok (.aload_n 2, 1) := by decide +kernel
theorem dL_law_704 : decode cL_law 704 = .ok (.invokevirtual 111, 3) := by decide +kernel
theorem dL_law_707 : decode cL_law 707 = .ok (.iload 6, 2) := by decide +kernel
theorem dL_law_709 : decode cL_law 709 = .ok (.if_icmp .eq 5, 3) := by decide +kernel
theorem dL_law_712 : decode cL_law 712 = .ok (.iconst 0, 1) := by decide +kernel
theorem dL_law_713 : decode cL_law 713 = .ok (.ireturn, 1) := by decide +kernel
theorem dL_law_714 : decode cL_law 714 = .ok (.iload 6, 2) := by decide +kernel
theorem dL_law_716 : decode cL_law 716 = .ok (.ifCond .ne 22, 3) := by decide +kernel
theorem dL_law_719 : decode cL_law 719 = .ok (.aload_n 3, 1) := by decide +kernel
theorem dL_law_720 : decode cL_law 720 = .ok (.iconst 0, 1) := by decide +kernel
theorem dL_law_721 : decode cL_law 721 = .ok (.laload, 1) := by decide +kernel
theorem dL_law_722 : decode cL_law 722 = .ok (.iload 7, 2) := by decide +kernel
theorem dL_law_724 : decode cL_law 724 = .ok (.ifCond .eq 7, 3) := by decide +kernel
theorem dL_law_727 : decode cL_law 727 = .ok (.lconst 1, 1) := by decide +kernel
theorem dL_law_728 : decode cL_law 728 = .ok (.goto 4, 3) := by decide +kernel
theorem dL_law_731 : decode cL_law 731 = .ok (.lconst 0, 1) := by decide +kernel
theorem dL_law_732 : decode cL_law 732 = .ok (.lcmp, 1) := by decide +kernel
theorem dL_law_733 : decode cL_law 733 = .ok (.ifCond .eq 5, 3) := by decide +kernel
theorem dL_law_736 : decode cL_law 736 = .ok (.iconst 0, 1) := by decide +kernel
theorem dL_law_737 : decode cL_law 737 = .ok (.ireturn, 1) := by decide +kernel
theorem dL_law_738 : decode cL_law 738 = .ok (.goto 1167, 3) := by decide +kernel
theorem dL_law_741 : decode cL_law 741 = .ok (.aload_n 1, 1) := by decide +kernel
theorem dL_law_742 : decode cL_law 742 = .ok (.aload_n 0, 1) := by decide +kernel
theorem dL_law_743 : decode cL_law 743 = .ok (.iload 5, 2) := by decide +kernel
theorem dL_law_745 : decode cL_law 745 = .ok (.iconst 1, 1) := by decide +kernel
theorem dL_law_746 : decode cL_law 746 = .ok (.iadd, 1) := by decide +kernel
theorem dL_law_747 : decode cL_law 747 = .ok (.iaload, 1) := by decide +kernel
theorem dL_law_748 : decode cL_law 748 = .ok (.aload_n 0, 1) := by decide +kernel
theorem dL_law_749 : decode cL_law 749 = .ok (.iload 5, 2) := by decide +kernel
theorem dL_law_751 : decode cL_law 751 = .ok (.iconst 2, 1) := by decide +kernel
theorem dL_law_752 : decode cL_law 752 = .ok (.iadd, 1) := by decide +kernel
theorem dL_law_753 : decode cL_law 753 = .ok (.iaload, 1) := by decide +kernel
theorem dL_law_754 : decode cL_law 754 = .ok (.aload_n 3, 1) := by decide +kernel
theorem dL_law_755 : decode cL_law 755 = .ok (.invokestatic 147, 3) := by decide +kernel
theorem dL_law_758 : decode cL_law 758 = .ok (.istore 6, 2) := by decide +kernel
theorem dL_law_760 : decode cL_law 760 = .ok (.aload_n 2, 1) := by decide +kernel
theorem dL_law_761 : decode cL_law 761 = .ok (.aload_n 0, 1) := by decide +kernel
theorem dL_law_762 : decode cL_law 762 = .ok (.iload 5, 2) := by decide +kernel
theorem dL_law_764 : decode cL_law 764 = .ok (.iconst 1, 1) := by decide +kernel
theorem dL_law_765 : decode cL_law 765 = .ok (.iadd, 1) := by decide +kernel
theorem dL_law_766 : decode cL_law 766 = .ok (.iaload, 1) := by decide +kernel
theorem dL_law_767 : decode cL_law 767 = .ok (.aload_n 0, 1) := by decide +kernel
theorem dL_law_768 : decode cL_law 768 = .ok (.iload 5, 2) := by decide +kernel
theorem dL_law_770 : decode cL_law 770 = .ok (.iconst 2, 1) := by decide +kernel
theorem dL_law_771 : decode cL_law 771 = .ok (.iadd, 1) := by decide +kernel
theorem dL_law_772 : decode cL_law 772 = .ok (.iaload, 1) := by decide +kernel
theorem dL_law_773 : decode cL_law 773 = .ok (.invokevirtual 149, 3) := by decide +kernel
theorem dL_law_776 : decode cL_law 776 = .ok (.istore 7, 2) := by decide +kernel
theorem dL_law_778 : decode cL_law 778 = .ok (.aload_n 2, 1) := by decide +kernel
theorem dL_law_779 : decode cL_law 779 = .ok (.invokevirtual 111, 3) := by decide +kernel
theorem dL_law_782 : decode cL_law 782 = .ok (.iload 6, 2) := by decide +kernel
theorem dL_law_784 : decode cL_law 784 = .ok (.if_icmp .eq 5, 3) := by decide +kernel
theorem dL_law_787 : decode cL_law 787 = .ok (.iconst 0, 1) := by decide +kernel
theorem dL_law_788 : decode cL_law 788 = .ok (.ireturn, 1) := by decide +kernel
theorem dL_law_789 : decode cL_law 789 = .ok (.iload 6, 2) := by decide +kernel
theorem dL_law_791 : decode cL_law 791 = .ok (.ifCond .ne 15, 3) := by decide +kernel
theorem dL_law_794 : decode cL_law 794 = .ok (.aload_n 3, 1) := by decide +kernel
theorem dL_law_795 : decode cL_law 795 = .ok (.iconst 0, 1) := by decide +kernel
theorem dL_law_796 : decode cL_law 796 = .ok (.laload, 1) := by decide +kernel
theorem dL_law_797 : decode cL_law 797 = .ok (.iload 7, 2) := by decide +kernel
theorem dL_law_799 : decode cL_law 799 = .ok (.i2l, 1) := by decide +kernel
theorem dL_law_800 : decode cL_law 800 = .ok (.lcmp, 1) := by decide +kernel
theorem dL_law_801 : decode cL_law 801 = .ok (.ifCond .eq 5, 3) := by decide +kernel
theorem dL_law_804 : decode cL_law 804 = .ok (.iconst 0, 1) := by decide +kernel
theorem dL_law_805 : decode cL_law 805 = .ok (.ireturn, 1) := by decide +kernel
theorem dL_law_806 : decode cL_law 806 = .ok (.goto 1099, 3) := by decide +kernel
theorem dL_law_809 : decode cL_law 809 = .ok (.aload_n 1, 1) := by decide +kernel
theorem dL_law_810 : decode cL_law 810 = .ok (.aload_n 3, 1) := by decide +kernel
theorem dL_law_811 : decode cL_law 811 = .ok (.invokestatic 150, 3) := by decide +kernel
theorem dL_law_814 : decode cL_law 814 = .ok (.istore 6, 2) := by decide +kernel
theorem dL_law_816 : decode cL_law 816 = .ok (.aload_n 2, 1) := by decide +kernel
theorem dL_law_817 : decode cL_law 817 = .ok (.invokevirtual 152, 3) := by decide +kernel
theorem dL_law_820 : decode cL_law 820 = .ok (.istore 7, 2) := by decide +kernel
theorem dL_law_822 : decode cL_law 822 = .ok (.aload_n 2, 1) := by decide +kernel
theorem dL_law_823 : decode cL_law 823 = .ok (.invokevirtual 111, 3) := by decide +kernel
theorem dL_law_826 : decode cL_law 826 = .ok (.iload 6, 2) := by decide +kernel
theorem dL_law_828 : decode cL_law 828 = .ok (.if_icmp .eq 5, 3) := by decide +kernel
theorem dL_law_831 : decode cL_law 831 = .ok (.iconst 0, 1) := by decide +kernel
theorem dL_law_832 : decode cL_law 832 = .ok (.ireturn, 1) := by decide +kernel
theorem dL_law_833 : decode cL_law 833 = .ok (.iload 6, 2) := by decide +kernel
theorem dL_law_835 : decode cL_law 835 = .ok (.ifCond .ne 15, 3) := by decide +kernel
theorem dL_law_838 : decode cL_law 838 = .ok (.aload_n 3, 1) := by decide +kernel
theorem dL_law_839 : decode cL_law 839 = .ok (.iconst 0, 1) := by decide +kernel
theorem dL_law_840 : decode cL_law 840 = .ok (.laload, 1) := by decide +kernel
theorem dL_law_841 : decode cL_law 841 = .ok (.iload 7, 2) := by decide +kernel
theorem dL_law_843 : decode cL_law 843 = .ok (.i2l, 1) := by decide +kernel
theorem dL_law_844 : decode cL_law 844 = .ok (.lcmp, 1) := by decide +kernel
theorem dL_law_845 : decode cL_law 845 = .ok (.ifCond .eq 5, 3) := by decide +kernel
theorem dL_law_848 : decode cL_law 848 = .ok (.iconst 0, 1) := by decide +kernel
theorem dL_law_849 : decode cL_law 849 = .ok (.ireturn, 1) := by decide +kernel
theorem dL_law_850 : decode cL_law 850 = .ok (.goto 1055, 3) := by decide +kernel
theorem dL_law_853 : decode cL_law 853 = .ok (.aload_n 1, 1) := by decide +kernel
theorem dL_law_854 : decode cL_law 854 = .ok (.invokevirtual 153, 3) := by decide +kernel
theorem dL_law_857 : decode cL_law 857 = .ok (.aload_n 2, 1) := by decide +kernel
theorem dL_law_858 : decode cL_law 858 = .ok (.invokevirtual 157, 3) := by decide +kernel
theorem dL_law_861 : decode cL_law 861 = .ok (.if_icmp .eq 1044, 3) := by decide +kernel
theorem dL_law_864 : decode cL_law 864 = .ok (.iconst 0, 1) := by decide +kernel
theorem dL_law_865 : decode cL_law 865 = .ok (.ireturn, 1) := by decide +kernel
theorem dL_law_866 : decode cL_law 866 = .ok (.aload_n 1, 1) := by decide +kernel
theorem dL_law_867 : decode cL_law 867 = .ok (.aload_n 0, 1) := by decide +kernel
theorem dL_law_868 : decode cL_law 868 = .ok (.iload 5, 2) := by decide +kernel
theorem dL_law_870 : decode cL_law 870 = .ok (.iconst 1, 1) := by decide +kernel
theorem dL_law_871 : decode cL_law 871 = .ok (.iadd, 1) := by decide +kernel
theorem dL_law_872 : decode cL_law 872 = .ok (.iaload, 1) := by decide +kernel
theorem dL_law_873 : decode cL_law 873 = .ok (.aload_n 3, 1) := by decide +kernel
theorem dL_law_874 : decode cL_law 874 = .ok (.invokestatic 158, 3) := by decide +kernel
theorem dL_law_877 : decode cL_law 877 = .ok (.istore 6, 2) := by decide +kernel
theorem dL_law_879 : decode cL_law 879 = .ok (.aload_n 2, 1) := by decide +kernel
theorem dL_law_880 : decode cL_law 880 = .ok (.aload_n 0, 1) := by decide +kernel
theorem dL_law_881 : decode cL_law 881 = .ok (.iload 5, 2) := by decide +kernel
theorem dL_law_883 : decode cL_law 883 = .ok (.iconst 1, 1) := by decide +kernel
theorem dL_law_884 : decode cL_law 884 = .ok (.iadd, 1) := by decide +kernel
theorem dL_law_885 : decode cL_law 885 = .ok (.iaload, 1) := by decide +kernel
theorem dL_law_886 : decode cL_law 886 = .ok (.invokevirtual 160, 3) := by decide +kernel
theorem dL_law_889 : decode cL_law 889 = .ok (.istore 7, 2) := by decide +kernel
theorem dL_law_891 : decode cL_law 891 = .ok (.aload_n 2, 1) := by decide +kernel
theorem dL_law_892 : decode cL_law 892 = .ok (.invokevirtual 111, 3) := by decide +kernel
theorem dL_law_895 : decode cL_law 895 = .ok (.iload 6, 2) := by decide +kernel
theorem dL_law_897 : decode cL_law 897 = .ok (.if_icmp .eq 5, 3) := by decide +kernel
theorem dL_law_900 : decode cL_law 900 = .ok (.iconst 0, 1) := by decide +kernel
theorem dL_law_901 : decode cL_law 901 = .ok (.ireturn, 1) := by decide +kernel
theorem dL_law_902 : decode cL_law 902 = .ok (.iload 6, 2) := by decide +kernel
theorem dL_law_904 : decode cL_law 904 = .ok (.ifCond .ne 15, 3) := by decide +kernel
theorem dL_law_907 : decode cL_law 907 = .ok (.aload_n 3, 1) := by decide +kernel
theorem dL_law_908 : decode cL_law 908 = .ok (.iconst 0, 1) := by decide +kernel
theorem dL_law_909 : decode cL_law 909 = .ok (.laload, 1) := by decide +kernel
theorem dL_law_910 : decode cL_law 910 = .ok (.iload 7, 2) := by decide +kernel
theorem dL_law_912 : decode cL_law 912 = .ok (.i2l, 1) := by decide +kernel
theorem dL_law_913 : decode cL_law 913 = .ok (.lcmp, 1) := by decide +kernel
theorem dL_law_914 : decode cL_law 914 = .ok (.ifCond .eq 5, 3) := by decide +kernel
theorem dL_law_917 : decode cL_law 917 = .ok (.iconst 0, 1) := by decide +kernel
theorem dL_law_918 : decode cL_law 918 = .ok (.ireturn, 1) := by decide +kernel
theorem dL_law_919 : decode cL_law 919 = .ok (.goto 986, 3) := by decide +kernel
theorem dL_law_922 : decode cL_law 922 = .ok (.aload_n 1, 1) := by decide +kernel
theorem dL_law_923 : decode cL_law 923 = .ok (.invokevirtual 161, 3) := by decide +kernel
theorem dL_law_926 : decode cL_law 926 = .ok (.aload_n 2, 1) := by decide +kernel
theorem dL_law_927 : decode cL_law 927 = .ok (.invokevirtual 164, 3) := by decide +kernel
theorem dL_law_930 : decode cL_law 930 = .ok (.if_icmp .eq 975, 3) := by decide +kernel
theorem dL_law_933 : decode cL_law 933 = .ok (.iconst 0, 1) := by decide +kernel
theorem dL_law_934 : decode cL_law 934 = .ok (.ireturn, 1) := by decide +kernel
theorem dL_law_935 : decode cL_law 935 = .ok (.aload_n 1, 1) := by decide +kernel
theorem dL_law_936 : decode cL_law 936 = .ok (.aload_n 0, 1) := by decide +kernel
theorem dL_law_937 : decode cL_law 937 = .ok (.iload 5, 2) := by decide +kernel
theorem dL_law_939 : decode cL_law 939 = .ok (.iconst 1, 1) := by decide +kernel
theorem dL_law_940 : decode cL_law 940 = .ok (.iadd, 1) := by decide +kernel
theorem dL_law_941 : decode cL_law 941 = .ok (.iaload, 1) := by decide +kernel
theorem dL_law_942 : decode cL_law 942 = .ok (.aload_n 0, 1) := by decide +kernel
theorem dL_law_943 : decode cL_law 943 = .ok (.iload 5, 2) := by decide +kernel
theorem dL_law_945 : decode cL_law 945 = .ok (.iconst 2, 1) := by decide +kernel
theorem dL_law_946 : decode cL_law 946 = .ok (.iadd, 1) := by decide +kernel
theorem dL_law_947 : decode cL_law 947 = .ok (.iaload, 1) := by decide +kernel
theorem dL_law_948 : decode cL_law 948 = .ok (.aload_n 3, 1) := by decide +kernel
theorem dL_law_949 : decode cL_law 949 = .ok (.invokestatic 165, 3) := by decide +kernel
theorem dL_law_952 : decode cL_law 952 = .ok (.istore 6, 2) := by decide +kernel
theorem dL_law_954 : decode cL_law 954 = .ok (.aload_n 2, 1) := by decide +kernel
theorem dL_law_955 : decode cL_law 955 = .ok (.aload_n 0, 1) := by decide +kernel
theorem dL_law_956 : decode cL_law 956 = .ok (.iload 5, 2) := by decide +kernel
theorem dL_law_958 : decode cL_law 958 = .ok (.iconst 1, 1) := by decide +kernel
theorem dL_law_959 : decode cL_law 959 = .ok (.iadd, 1) := by decide +kernel
theorem dL_law_960 : decode cL_law 960 = .ok (.iaload, 1) := by decide +kernel
theorem dL_law_961 : decode cL_law 961 = .ok (.aload_n 0, 1) := by decide +kernel
theorem dL_law_962 : decode cL_law 962 = .ok (.iload 5, 2) := by decide +kernel
theorem dL_law_964 : decode cL_law 964 = .ok (.iconst 2, 1) := by decide +kernel
theorem dL_law_965 : decode cL_law 965 = .ok (.iadd, 1) := by decide +kernel
theorem dL_law_966 : decode cL_law 966 = .ok (.iaload, 1) := by decide +kernel
theorem dL_law_967 : decode cL_law 967 = .ok (.invokevirtual 167, 3) := by decide +kernel
theorem dL_law_970 : decode cL_law 970 = .ok (.istore 7, 2) := by decide +kernel
theorem dL_law_972 : decode cL_law 972 = .ok (.aload_n 2, 1) := by decide +kernel
theorem dL_law_973 : decode cL_law 973 = .ok (.invokevirtual 111, 3) := by decide +kernel
theorem dL_law_976 : decode cL_law 976 = .ok (.iload 6, 2) := by decide +kernel
theorem dL_law_978 : decode cL_law 978 = .ok (.if_icmp .eq 5, 3) := by decide +kernel
theorem dL_law_981 : decode cL_law 981 = .ok (.iconst 0, 1) := by decide +kernel
theorem dL_law_982 : decode cL_law 982 = .ok (.ireturn, 1) := by decide +kernel
theorem dL_law_983 : decode cL_law 983 = .ok (.iload 6, 2) := by decide +kernel
theorem dL_law_985 : decode cL_law 985 = .ok (.ifCond .ne 22, 3) := by decide +kernel
theorem dL_law_988 : decode cL_law 988 = .ok (.aload_n 3, 1) := by decide +kernel
theorem dL_law_989 : decode cL_law 989 = .ok (.iconst 0, 1) := by decide +kernel
theorem dL_law_990 : decode cL_law 990 = .ok (.laload, 1) := by decide +kernel
theorem dL_law_991 : decode cL_law 991 = .ok (.iload 7, 2) := by decide +kernel
theorem dL_law_993 : decode cL_law 993 = .ok (.ifCond .eq 7, 3) := by decide +kernel
theorem dL_law_996 : decode cL_law 996 = .ok (.lconst 1, 1) := by decide +kernel
theorem dL_law_997 : decode cL_law 997 = .ok (.goto 4, 3) := by decide +kernel
theorem dL_law_1000 : decode cL_law 1000 = .ok (.lconst 0, 1) := by decide +kernel
theorem dL_law_1001 : decode cL_law 1001 = .ok (.lcmp, 1) := by decide +kernel
theorem dL_law_1002 : decode cL_law 1002 = .ok (.ifCond .eq 5, 3) := by decide +kernel
theorem dL_law_1005 : decode cL_law 1005 = .ok (.iconst 0, 1) := by decide +kernel
theorem dL_law_1006 : decode cL_law 1006 = .ok (.ireturn, 1) := by decide +kernel
theorem dL_law_1007 : decode cL_law 1007 = .ok (.goto 898, 3) := by decide +kernel
theorem dL_law_1010 : decode cL_law 1010 = .ok (.aload_n 1, 1) := by decide +kernel
theorem dL_law_1011 : decode cL_law 1011 = .ok (.aload_n 0, 1) := by decide +kernel
theorem dL_law_1012 : decode cL_law 1012 = .ok (.iload 5, 2) := by decide +kernel
theorem dL_law_1014 : decode cL_law 1014 = .ok (.iconst 1, 1) := by decide +kernel
theorem dL_law_1015 : decode cL_law 1015 = .ok (.iadd, 1) := by decide +kernel
theorem dL_law_1016 : decode cL_law 1016 = .ok (.iaload, 1) := by decide +kernel
theorem dL_law_1017 : decode cL_law 1017 = .ok (.aload_n 0, 1) := by decide +kernel
theorem dL_law_1018 : decode cL_law 1018 = .ok (.iload 5, 2) := by decide +kernel
theorem dL_law_1020 : decode cL_law 1020 = .ok (.iconst 2, 1) := by decide +kernel
theorem dL_law_1021 : decode cL_law 1021 = .ok (.iadd, 1) := by decide +kernel
theorem dL_law_1022 : decode cL_law 1022 = .ok (.iaload, 1) := by decide +kernel
theorem dL_law_1023 : decode cL_law 1023 = .ok (.aload_n 3, 1) := by decide +kernel
theorem dL_law_1024 : decode cL_law 1024 = .ok (.invokestatic 168, 3) := by decide +kernel
theorem dL_law_1027 : decode cL_law 1027 = .ok (.istore 6, 2) := by decide +kernel
theorem dL_law_1029 : decode cL_law 1029 = .ok (.aload_n 2, 1) := by decide +kernel
theorem dL_law_1030 : decode cL_law 1030 = .ok (.aload_n 0, 1) := by decide +kernel
theorem dL_law_1031 : decode cL_law 1031 = .ok (.iload 5, 2) := by decide +kernel
theorem dL_law_1033 : decode cL_law 1033 = .ok (.iconst 1, 1) := by decide +kernel
theorem dL_law_1034 : decode cL_law 1034 = .ok (.iadd, 1) := by decide +kernel
theorem dL_law_1035 : decode cL_law 1035 = .ok (.iaload, 1) := by decide +kernel
theorem dL_law_1036 : decode cL_law 1036 = .ok (.aload_n 0, 1) := by decide +kernel
theorem dL_law_1037 : decode cL_law 1037 = .ok (.iload 5, 2) := by decide +kernel
theorem dL_law_1039 : decode cL_law 1039 = .ok (.iconst 2, 1) := by decide +kernel
theorem dL_law_1040 : decode cL_law 1040 = .ok (.iadd, 1) := by decide +kernel
theorem dL_law_1041 : decode cL_law 1041 = .ok (.iaload, 1) := by decide +kernel
theorem dL_law_1042 : decode cL_law 1042 = .ok (.invokevirtual 170, 3) := by decide +kernel
theorem dL_law_1045 : decode cL_law 1045 = .ok (.istore 7, 2) := by decide +kernel
theorem dL_law_1047 : decode cL_law 1047 = .ok (.aload_n 2, 1) := by decide +kernel
theorem dL_law_1048 : decode cL_law 1048 = .ok (.invokevirtual 111, 3) := by decide +kernel
theorem dL_law_1051 : decode cL_law 1051 = .ok (.iload 6, 2) := by decide +kernel
theorem dL_law_1053 : decode cL_law 1053 = .ok (.if_icmp .eq 5, 3) := by decide +kernel
theorem dL_law_1056 : decode cL_law 1056 = .ok (.iconst 0, 1) := by decide +kernel
theorem dL_law_1057 : decode cL_law 1057 = .ok (.ireturn, 1) := by decide +kernel
theorem dL_law_1058 : decode cL_law 1058 = .ok (.iload 6, 2) := by decide +kernel
theorem dL_law_1060 : decode cL_law 1060 = .ok (.ifCond .ne 15, 3) := by decide +kernel
theorem dL_law_1063 : decode cL_law 1063 = .ok (.aload_n 3, 1) := by decide +kernel
theorem dL_law_1064 : decode cL_law 1064 = .ok (.iconst 0, 1) := by decide +kernel
theorem dL_law_1065 : decode cL_law 1065 = .ok (.laload, 1) := by decide +kernel
theorem dL_law_1066 : decode cL_law 1066 = .ok (.iload 7, 2) := by decide +kernel
theorem dL_law_1068 : decode cL_law 1068 = .ok (.i2l, 1) := by decide +kernel
theorem dL_law_1069 : decode cL_law 1069 = .ok (.lcmp, 1) := by decide +kernel
theorem dL_law_1070 : decode cL_law 1070 = .ok (.ifCond .eq 5, 3) := by decide +kernel
theorem dL_law_1073 : decode cL_law 1073 = .ok (.iconst 0, 1) := by decide +kernel
theorem dL_law_1074 : decode cL_law 1074 = .ok (.ireturn, 1) := by decide +kernel
theorem dL_law_1075 : decode cL_law 1075 = .ok (.goto 830, 3) := by decide +kernel
theorem dL_law_1078 : decode cL_law 1078 = .ok (.aload_n 1, 1) := by decide +kernel
theorem dL_law_1079 : decode cL_law 1079 = .ok (.aload_n 0, 1) := by decide +kernel
theorem dL_law_1080 : decode cL_law 1080 = .ok (.iload 5, 2) := by decide +kernel
theorem dL_law_1082 : decode cL_law 1082 = .ok (.iconst 1, 1) := by decide +kernel
theorem dL_law_1083 : decode cL_law 1083 = .ok (.iadd, 1) := by decide +kernel
theorem dL_law_1084 : decode cL_law 1084 = .ok (.iaload, 1) := by decide +kernel
theorem dL_law_1085 : decode cL_law 1085 = .ok (.aload_n 0, 1) := by decide +kernel
theorem dL_law_1086 : decode cL_law 1086 = .ok (.iload 5, 2) := by decide +kernel
theorem dL_law_1088 : decode cL_law 1088 = .ok (.iconst 2, 1) := by decide +kernel
theorem dL_law_1089 : decode cL_law 1089 = .ok (.iadd, 1) := by decide +kernel
theorem dL_law_1090 : decode cL_law 1090 = .ok (.iaload, 1) := by decide +kernel
theorem dL_law_1091 : decode cL_law 1091 = .ok (.aload_n 3, 1) := by decide +kernel
theorem dL_law_1092 : decode cL_law 1092 = .ok (.invokestatic 171, 3) := by decide +kernel
theorem dL_law_1095 : decode cL_law 1095 = .ok (.istore 6, 2) := by decide +kernel
theorem dL_law_1097 : decode cL_law 1097 = .ok (.aload_n 2, 1) := by decide +kernel
theorem dL_law_1098 : decode cL_law 1098 = .ok (.aload_n 0, 1) := by decide +kernel
theorem dL_law_1099 : decode cL_law 1099 = .ok (.iload 5, 2) := by decide +kernel
theorem dL_law_1101 : decode cL_law 1101 = .ok (.iconst 1, 1) := by decide +kernel
theorem dL_law_1102 : decode cL_law 1102 = .ok (.iadd, 1) := by decide +kernel
theorem dL_law_1103 : decode cL_law 1103 = .ok (.iaload, 1) := by decide +kernel
theorem dL_law_1104 : decode cL_law 1104 = .ok (.aload_n 0, 1) := by decide +kernel
theorem dL_law_1105 : decode cL_law 1105 = .ok (.iload 5, 2) := by decide +kernel
theorem dL_law_1107 : decode cL_law 1107 = .ok (.iconst 2, 1) := by decide +kernel
theorem dL_law_1108 : decode cL_law 1108 = .ok (.iadd, 1) := by decide +kernel
theorem dL_law_1109 : decode cL_law 1109 = .ok (.iaload, 1) := by decide +kernel
theorem dL_law_1110 : decode cL_law 1110 = .ok (.invokevirtual 173, 3) := by decide +kernel
theorem dL_law_1113 : decode cL_law 1113 = .ok (.istore 7, 2) := by decide +kernel
theorem dL_law_1115 : decode cL_law 1115 = .ok (.aload_n 2, 1) := by decide +kernel
theorem dL_law_1116 : decode cL_law 1116 = .ok (.invokevirtual 111, 3) := by decide +kernel
theorem dL_law_1119 : decode cL_law 1119 = .ok (.iload 6, 2) := by decide +kernel
theorem dL_law_1121 : decode cL_law 1121 = .ok (.if_icmp .eq 5, 3) := by decide +kernel
theorem dL_law_1124 : decode cL_law 1124 = .ok (.iconst 0, 1) := by decide +kernel
theorem dL_law_1125 : decode cL_law 1125 = .ok (.ireturn, 1) := by decide +kernel
theorem dL_law_1126 : decode cL_law 1126 = .ok (.iload 6, 2) := by decide +kernel
theorem dL_law_1128 : decode cL_law 1128 = .ok (.ifCond .ne 15, 3) := by decide +kernel
theorem dL_law_1131 : decode cL_law 1131 = .ok (.aload_n 3, 1) := by decide +kernel
theorem dL_law_1132 : decode cL_law 1132 = .ok (.iconst 0, 1) := by decide +kernel
theorem dL_law_1133 : decode cL_law 1133 = .ok (.laload, 1) := by decide +kernel
theorem dL_law_1134 : decode cL_law 1134 = .ok (.iload 7, 2) := by decide +kernel
theorem dL_law_1136 : decode cL_law 1136 = .ok (.i2l, 1) := by decide +kernel
theorem dL_law_1137 : decode cL_law 1137 = .ok (.lcmp, 1) := by decide +kernel
theorem dL_law_1138 : decode cL_law 1138 = .ok (.ifCond .eq 5, 3) := by decide +kernel
theorem dL_law_1141 : decode cL_law 1141 = .ok (.iconst 0, 1) := by decide +kernel
theorem dL_law_1142 : decode cL_law 1142 = .ok (.ireturn, 1) := by decide +kernel
theorem dL_law_1143 : decode cL_law 1143 = .ok (.goto 762, 3) := by decide +kernel
theorem dL_law_1146 : decode cL_law 1146 = .ok (.aload_n 1, 1) := by decide +kernel
theorem dL_law_1147 : decode cL_law 1147 = .ok (.aload_n 0, 1) := by decide +kernel
theorem dL_law_1148 : decode cL_law 1148 = .ok (.iload 5, 2) := by decide +kernel
theorem dL_law_1150 : decode cL_law 1150 = .ok (.iconst 1, 1) := by decide +kernel
theorem dL_law_1151 : decode cL_law 1151 = .ok (.iadd, 1) := by decide +kernel
theorem dL_law_1152 : decode cL_law 1152 = .ok (.iaload, 1) := by decide +kernel
theorem dL_law_1153 : decode cL_law 1153 = .ok (.aload_n 0, 1) := by decide +kernel
theorem dL_law_1154 : decode cL_law 1154 = .ok (.iload 5, 2) := by decide +kernel
theorem dL_law_1156 : decode cL_law 1156 = .ok (.iconst 2, 1) := by decide +kernel
theorem dL_law_1157 : decode cL_law 1157 = .ok (.iadd, 1) := by decide +kernel
theorem dL_law_1158 : decode cL_law 1158 = .ok (.iaload, 1) := by decide +kernel
theorem dL_law_1159 : decode cL_law 1159 = .ok (.aload_n 3, 1) := by decide +kernel
theorem dL_law_1160 : decode cL_law 1160 = .ok (.invokestatic 174, 3) := by decide +kernel
theorem dL_law_1163 : decode cL_law 1163 = .ok (.istore 6, 2) := by decide +kernel
theorem dL_law_1165 : decode cL_law 1165 = .ok (.aload_n 2, 1) := by decide +kernel
theorem dL_law_1166 : decode cL_law 1166 = .ok (.aload_n 0, 1) := by decide +kernel
theorem dL_law_1167 : decode cL_law 1167 = .ok (.iload 5, 2) := by decide +kernel
theorem dL_law_1169 : decode cL_law 1169 = .ok (.iconst 1, 1) := by decide +kernel
theorem dL_law_1170 : decode cL_law 1170 = .ok (.iadd, 1) := by decide +kernel
theorem dL_law_1171 : decode cL_law 1171 = .ok (.iaload, 1) := by decide +kernel
theorem dL_law_1172 : decode cL_law 1172 = .ok (.aload_n 0, 1) := by decide +kernel
theorem dL_law_1173 : decode cL_law 1173 = .ok (.iload 5, 2) := by decide +kernel
theorem dL_law_1175 : decode cL_law 1175 = .ok (.iconst 2, 1) := by decide +kernel
theorem dL_law_1176 : decode cL_law 1176 = .ok (.iadd, 1) := by decide +kernel
theorem dL_law_1177 : decode cL_law 1177 = .ok (.iaload, 1) := by decide +kernel
theorem dL_law_1178 : decode cL_law 1178 = .ok (.invokevirtual 176, 3) := by decide +kernel
theorem dL_law_1181 : decode cL_law 1181 = .ok (.istore 7, 2) := by decide +kernel
theorem dL_law_1183 : decode cL_law 1183 = .ok (.aload_n 2, 1) := by decide +kernel
theorem dL_law_1184 : decode cL_law 1184 = .ok (.invokevirtual 111, 3) := by decide +kernel
theorem dL_law_1187 : decode cL_law 1187 = .ok (.iload 6, 2) := by decide +kernel
theorem dL_law_1189 : decode cL_law 1189 = .ok (.if_icmp .eq 5, 3) := by decide +kernel
theorem dL_law_1192 : decode cL_law 1192 = .ok (.iconst 0, 1) := by decide +kernel
theorem dL_law_1193 : decode cL_law 1193 = .ok (.ireturn, 1) := by decide +kernel
theorem dL_law_1194 : decode cL_law 1194 = .ok (.iload 6, 2) := by decide +kernel
theorem dL_law_1196 : decode cL_law 1196 = .ok (.ifCond .ne 15, 3) := by decide +kernel
theorem dL_law_1199 : decode cL_law 1199 = .ok (.aload_n 3, 1) := by decide +kernel
theorem dL_law_1200 : decode cL_law 1200 = .ok (.iconst 0, 1) := by decide +kernel
theorem dL_law_1201 : decode cL_law 1201 = .ok (.laload, 1) := by decide +kernel
theorem dL_law_1202 : decode cL_law 1202 = .ok (.iload 7, 2) := by decide +kernel
theorem dL_law_1204 : decode cL_law 1204 = .ok (.i2l, 1) := by decide +kernel
theorem dL_law_1205 : decode cL_law 1205 = .ok (.lcmp, 1) := by decide +kernel
theorem dL_law_1206 : decode cL_law 1206 = .ok (.ifCond .eq 5, 3) := by decide +kernel
theorem dL_law_1209 : decode cL_law 1209 = .ok (.iconst 0, 1) := by decide +kernel
theorem dL_law_1210 : decode cL_law 1210 = .ok (.ireturn, 1) := by decide +kernel
theorem dL_law_1211 : decode cL_law 1211 = .ok (.goto 694, 3) := by decide +kernel
theorem dL_law_1214 : decode cL_law 1214 = .ok (.aload_n 1, 1) := by decide +kernel
theorem dL_law_1215 : decode cL_law 1215 = .ok (.aload_n 0, 1) := by decide +kernel
theorem dL_law_1216 : decode cL_law 1216 = .ok (.iload 5, 2) := by decide +kernel
theorem dL_law_1218 : decode cL_law 1218 = .ok (.iconst 1, 1) := by decide +kernel
theorem dL_law_1219 : decode cL_law 1219 = .ok (.iadd, 1) := by decide +kernel
theorem dL_law_1220 : decode cL_law 1220 = .ok (.iaload, 1) := by decide +kernel
theorem dL_law_1221 : decode cL_law 1221 = .ok (.aload_n 0, 1) := by decide +kernel
theorem dL_law_1222 : decode cL_law 1222 = .ok (.iload 5, 2) := by decide +kernel
theorem dL_law_1224 : decode cL_law 1224 = .ok (.iconst 2, 1) := by decide +kernel
theorem dL_law_1225 : decode cL_law 1225 = .ok (.iadd, 1) := by decide +kernel
theorem dL_law_1226 : decode cL_law 1226 = .ok (.iaload, 1) := by decide +kernel
theorem dL_law_1227 : decode cL_law 1227 = .ok (.aload_n 3, 1) := by decide +kernel
theorem dL_law_1228 : decode cL_law 1228 = .ok (.invokestatic 177, 3) := by decide +kernel
theorem dL_law_1231 : decode cL_law 1231 = .ok (.istore 6, 2) := by decide +kernel
theorem dL_law_1233 : decode cL_law 1233 = .ok (.aload_n 2, 1) := by decide +kernel
theorem dL_law_1234 : decode cL_law 1234 = .ok (.aload_n 0, 1) := by decide +kernel
theorem dL_law_1235 : decode cL_law 1235 = .ok (.iload 5, 2) := by decide +kernel
theorem dL_law_1237 : decode cL_law 1237 = .ok (.iconst 1, 1) := by decide +kernel
theorem dL_law_1238 : decode cL_law 1238 = .ok (.iadd, 1) := by decide +kernel
theorem dL_law_1239 : decode cL_law 1239 = .ok (.iaload, 1) := by decide +kernel
theorem dL_law_1240 : decode cL_law 1240 = .ok (.aload_n 0, 1) := by decide +kernel
theorem dL_law_1241 : decode cL_law 1241 = .ok (.iload 5, 2) := by decide +kernel
theorem dL_law_1243 : decode cL_law 1243 = .ok (.iconst 2, 1) := by decide +kernel
theorem dL_law_1244 : decode cL_law 1244 = .ok (.iadd, 1) := by decide +kernel
theorem dL_law_1245 : decode cL_law 1245 = .ok (.iaload, 1) := by decide +kernel
theorem dL_law_1246 : decode cL_law 1246 = .ok (.invokevirtual 179, 3) := by decide +kernel
theorem dL_law_1249 : decode cL_law 1249 = .ok (.istore 7, 2) := by decide +kernel
theorem dL_law_1251 : decode cL_law 1251 = .ok (.aload_n 2, 1) := by decide +kernel
theorem dL_law_1252 : decode cL_law 1252 = .ok (.invokevirtual 111, 3) := by decide +kernel
theorem dL_law_1255 : decode cL_law 1255 = .ok (.iload 6, 2) := by decide +kernel
theorem dL_law_1257 : decode cL_law 1257 = .ok (.if_icmp .eq 5, 3) := by decide +kernel
theorem dL_law_1260 : decode cL_law 1260 = .ok (.iconst 0, 1) := by decide +kernel
theorem dL_law_1261 : decode cL_law 1261 = .ok (.ireturn, 1) := by decide +kernel
theorem dL_law_1262 : decode cL_law 1262 = .ok (.iload 6, 2) := by decide +kernel
theorem dL_law_1264 : decode cL_law 1264 = .ok (.ifCond .ne 15, 3) := by decide +kernel
theorem dL_law_1267 : decode cL_law 1267 = .ok (.aload_n 3, 1) := by decide +kernel
theorem dL_law_1268 : decode cL_law 1268 = .ok (.iconst 0, 1) := by decide +kernel
theorem dL_law_1269 : decode cL_law 1269 = .ok (.laload, 1) := by decide +kernel
theorem dL_law_1270 : decode cL_law 1270 = .ok (.iload 7, 2) := by decide +kernel
theorem dL_law_1272 : decode cL_law 1272 = .ok (.i2l, 1) := by decide +kernel
theorem dL_law_1273 : decode cL_law 1273 = .ok (.lcmp, 1) := by decide +kernel
theorem dL_law_1274 : decode cL_law 1274 = .ok (.ifCond .eq 5, 3) := by decide +kernel
theorem dL_law_1277 : decode cL_law 1277 = .ok (.iconst 0, 1) := by decide +kernel
theorem dL_law_1278 : decode cL_law 1278 = .ok (.ireturn, 1) := by decide +kernel
theorem dL_law_1279 : decode cL_law 1279 = .ok (.goto 626, 3) := by decide +kernel
theorem dL_law_1282 : decode cL_law 1282 = .ok (.aload_n 1, 1) := by decide +kernel
theorem dL_law_1283 : decode cL_law 1283 = .ok (.aload_n 0, 1) := by decide +kernel
theorem dL_law_1284 : decode cL_law 1284 = .ok (.iload 5, 2) := by decide +kernel
theorem dL_law_1286 : decode cL_law 1286 = .ok (.iconst 1, 1) := by decide +kernel
theorem dL_law_1287 : decode cL_law 1287 = .ok (.iadd, 1) := by decide +kernel
theorem dL_law_1288 : decode cL_law 1288 = .ok (.iaload, 1) := by decide +kernel
theorem dL_law_1289 : decode cL_law 1289 = .ok (.aload_n 3, 1) := by decide +kernel
theorem dL_law_1290 : decode cL_law 1290 = .ok (.invokestatic 180, 3) := by decide +kernel
theorem dL_law_1293 : decode cL_law 1293 = .ok (.istore 6, 2) := by decide +kernel
theorem dL_law_1295 : decode cL_law 1295 = .ok (.aload_n 2, 1) := by decide +kernel
theorem dL_law_1296 : decode cL_law 1296 = .ok (.aload_n 0, 1) := by decide +kernel
theorem dL_law_1297 : decode cL_law 1297 = .ok (.iload 5, 2) := by decide +kernel
theorem dL_law_1299 : decode cL_law 1299 = .ok (.iconst 1, 1) := by decide +kernel
theorem dL_law_1300 : decode cL_law 1300 = .ok (.iadd, 1) := by decide +kernel
theorem dL_law_1301 : decode cL_law 1301 = .ok (.iaload, 1) := by decide +kernel
theorem dL_law_1302 : decode cL_law 1302 = .ok (.invokevirtual 182, 3) := by decide +kernel
theorem dL_law_1305 : decode cL_law 1305 = .ok (.istore 7, 2) := by decide +kernel
theorem dL_law_1307 : decode cL_law 1307 = .ok (.aload_n 2, 1) := by decide +kernel
theorem dL_law_1308 : decode cL_law 1308 = .ok (.invokevirtual 111, 3) := by decide +kernel
theorem dL_law_1311 : decode cL_law 1311 = .ok (.iload 6, 2) := by decide +kernel
theorem dL_law_1313 : decode cL_law 1313 = .ok (.if_icmp .eq 5, 3) := by decide +kernel
theorem dL_law_1316 : decode cL_law 1316 = .ok (.iconst 0, 1) := by decide +kernel
theorem dL_law_1317 : decode cL_law 1317 = .ok (.ireturn, 1) := by decide +kernel
theorem dL_law_1318 : decode cL_law 1318 = .ok (.iload 6, 2) := by decide +kernel
theorem dL_law_1320 : decode cL_law 1320 = .ok (.ifCond .ne 15, 3) := by decide +kernel
theorem dL_law_1323 : decode cL_law 1323 = .ok (.aload_n 3, 1) := by decide +kernel
theorem dL_law_1324 : decode cL_law 1324 = .ok (.iconst 0, 1) := by decide +kernel
theorem dL_law_1325 : decode cL_law 1325 = .ok (.laload, 1) := by decide +kernel
theorem dL_law_1326 : decode cL_law 1326 = .ok (.iload 7, 2) := by decide +kernel
theorem dL_law_1328 : decode cL_law 1328 = .ok (.i2l, 1) := by decide +kernel
theorem dL_law_1329 : decode cL_law 1329 = .ok (.lcmp, 1) := by decide +kernel
theorem dL_law_1330 : decode cL_law 1330 = .ok (.ifCond .eq 5, 3) := by decide +kernel
theorem dL_law_1333 : decode cL_law 1333 = .ok (.iconst 0, 1) := by decide +kernel
theorem dL_law_1334 : decode cL_law 1334 = .ok (.ireturn, 1) := by decide +kernel
theorem dL_law_1335 : decode cL_law 1335 = .ok (.goto 570, 3) := by decide +kernel
theorem dL_law_1338 : decode cL_law 1338 = .ok (.aload_n 1, 1) := by decide +kernel
theorem dL_law_1339 : decode cL_law 1339 = .ok (.invokevirtual 183, 3) := by decide +kernel
theorem dL_law_1342 : decode cL_law 1342 = .ok (.aload_n 2, 1) := by decide +kernel
theorem dL_law_1343 : decode cL_law 1343 = .ok (.invokevirtual 186, 3) := by decide +kernel
theorem dL_law_1346 : decode cL_law 1346 = .ok (.if_icmp .eq 559, 3) := by decide +kernel
theorem dL_law_1349 : decode cL_law 1349 = .ok (.iconst 0, 1) := by decide +kernel
theorem dL_law_1350 : decode cL_law 1350 = .ok (.ireturn, 1) := by decide +kernel
theorem dL_law_1351 : decode cL_law 1351 = .ok (.aload_n 1, 1) := by decide +kernel
theorem dL_law_1352 : decode cL_law 1352 = .ok (.aload_n 0, 1) := by decide +kernel
theorem dL_law_1353 : decode cL_law 1353 = .ok (.iload 5, 2) := by decide +kernel
theorem dL_law_1355 : decode cL_law 1355 = .ok (.iconst 1, 1) := by decide +kernel
theorem dL_law_1356 : decode cL_law 1356 = .ok (.iadd, 1) := by decide +kernel
theorem dL_law_1357 : decode cL_law 1357 = .ok (.iaload, 1) := by decide +kernel
theorem dL_law_1358 : decode cL_law 1358 = .ok (.aload_n 0, 1) := by decide +kernel
theorem dL_law_1359 : decode cL_law 1359 = .ok (.iload 5, 2) := by decide +kernel
theorem dL_law_1361 : decode cL_law 1361 = .ok (.iconst 2, 1) := by decide +kernel
theorem dL_law_1362 : decode cL_law 1362 = .ok (.iadd, 1) := by decide +kernel
theorem dL_law_1363 : decode cL_law 1363 = .ok (.iaload, 1) := by decide +kernel
theorem dL_law_1364 : decode cL_law 1364 = .ok (.aload_n 3, 1) := by decide +kernel
theorem dL_law_1365 : decode cL_law 1365 = .ok (.invokestatic 187, 3) := by decide +kernel
theorem dL_law_1368 : decode cL_law 1368 = .ok (.istore 6, 2) := by decide +kernel
theorem dL_law_1370 : decode cL_law 1370 = .ok (.aload_n 2, 1) := by decide +kernel
theorem dL_law_1371 : decode cL_law 1371 = .ok (.aload_n 0, 1) := by decide +kernel
theorem dL_law_1372 : decode cL_law 1372 = .ok (.iload 5, 2) := by decide +kernel
theorem dL_law_1374 : decode cL_law 1374 = .ok (.iconst 1, 1) := by decide +kernel
theorem dL_law_1375 : decode cL_law 1375 = .ok (.iadd, 1) := by decide +kernel
theorem dL_law_1376 : decode cL_law 1376 = .ok (.iaload, 1) := by decide +kernel
theorem dL_law_1377 : decode cL_law 1377 = .ok (.aload_n 0, 1) := by decide +kernel
theorem dL_law_1378 : decode cL_law 1378 = .ok (.iload 5, 2) := by decide +kernel
theorem dL_law_1380 : decode cL_law 1380 = .ok (.iconst 2, 1) := by decide +kernel
theorem dL_law_1381 : decode cL_law 1381 = .ok (.iadd, 1) := by decide +kernel
theorem dL_law_1382 : decode cL_law 1382 = .ok (.iaload, 1) := by decide +kernel
theorem dL_law_1383 : decode cL_law 1383 = .ok (.invokevirtual 189, 3) := by decide +kernel
theorem dL_law_1386 : decode cL_law 1386 = .ok (.istore 7, 2) := by decide +kernel
theorem dL_law_1388 : decode cL_law 1388 = .ok (.aload_n 2, 1) := by decide +kernel
theorem dL_law_1389 : decode cL_law 1389 = .ok (.invokevirtual 111, 3) := by decide +kernel
theorem dL_law_1392 : decode cL_law 1392 = .ok (.iload 6, 2) := by decide +kernel
theorem dL_law_1394 : decode cL_law 1394 = .ok (.if_icmp .eq 5, 3) := by decide +kernel
theorem dL_law_1397 : decode cL_law 1397 = .ok (.iconst 0, 1) := by decide +kernel
theorem dL_law_1398 : decode cL_law 1398 = .ok (.ireturn, 1) := by decide +kernel
theorem dL_law_1399 : decode cL_law 1399 = .ok (.iload 6, 2) := by decide +kernel
theorem dL_law_1401 : decode cL_law 1401 = .ok (.ifCond .ne 15, 3) := by decide +kernel
theorem dL_law_1404 : decode cL_law 1404 = .ok (.aload_n 3, 1) := by decide +kernel
theorem dL_law_1405 : decode cL_law 1405 = .ok (.iconst 0, 1) := by decide +kernel
theorem dL_law_1406 : decode cL_law 1406 = .ok (.laload, 1) := by decide +kernel
theorem dL_law_1407 : decode cL_law 1407 = .ok (.iload 7, 2) := by decide +kernel
theorem dL_law_1409 : decode cL_law 1409 = .ok (.i2l, 1) := by decide +kernel
theorem dL_law_1410 : decode cL_law 1410 = .ok (.lcmp, 1) := by decide +kernel
theorem dL_law_1411 : decode cL_law 1411 = .ok (.ifCond .eq 5, 3) := by decide +kernel
theorem dL_law_1414 : decode cL_law 1414 = .ok (.iconst 0, 1) := by decide +kernel
theorem dL_law_1415 : decode cL_law 1415 = .ok (.ireturn, 1) := by decide +kernel
theorem dL_law_1416 : decode cL_law 1416 = .ok (.goto 489, 3) := by decide +kernel
theorem dL_law_1419 : decode cL_law 1419 = .ok (.aload_n 1, 1) := by decide +kernel
theorem dL_law_1420 : decode cL_law 1420 = .ok (.aload_n 0, 1) := by decide +kernel
theorem dL_law_1421 : decode cL_law 1421 = .ok (.iload 5, 2) := by decide +kernel
theorem dL_law_1423 : decode cL_law 1423 = .ok (.iconst 1, 1) := by decide +kernel
theorem dL_law_1424 : decode cL_law 1424 = .ok (.iadd, 1) := by decide +kernel
theorem dL_law_1425 : decode cL_law 1425 = .ok (.iaload, 1) := by decide +kernel
theorem dL_law_1426 : decode cL_law 1426 = .ok (.aload_n 3, 1) := by decide +kernel
theorem dL_law_1427 : decode cL_law 1427 = .ok (.invokestatic 190, 3) := by decide +kernel
theorem dL_law_1430 : decode cL_law 1430 = .ok (.istore 6, 2) := by decide +kernel
theorem dL_law_1432 : decode cL_law 1432 = .ok (.aload_n 2, 1) := by decide +kernel
theorem dL_law_1433 : decode cL_law 1433 = .ok (.aload_n 0, 1) := by decide +kernel
theorem dL_law_1434 : decode cL_law 1434 = .ok (.iload 5, 2) := by decide +kernel
theorem dL_law_1436 : decode cL_law 1436 = .ok (.iconst 1, 1) := by decide +kernel
theorem dL_law_1437 : decode cL_law 1437 = .ok (.iadd, 1) := by decide +kernel
theorem dL_law_1438 : decode cL_law 1438 = .ok (.iaload, 1) := by decide +kernel
theorem dL_law_1439 : decode cL_law 1439 = .ok (.invokevirtual 192, 3) := by decide +kernel
theorem dL_law_1442 : decode cL_law 1442 = .ok (.istore 7, 2) := by decide +kernel
theorem dL_law_1444 : decode cL_law 1444 = .ok (.aload_n 2, 1) := by decide +kernel
theorem dL_law_1445 : decode cL_law 1445 = .ok (.invokevirtual 111, 3) := by decide +kernel
theorem dL_law_1448 : decode cL_law 1448 = .ok (.iload 6, 2) := by decide +kernel
theorem dL_law_1450 : decode cL_law 1450 = .ok (.if_icmp .eq 5, 3) := by decide +kernel
theorem dL_law_1453 : decode cL_law 1453 = .ok (.iconst 0, 1) := by decide +kernel
theorem dL_law_1454 : decode cL_law 1454 = .ok (.ireturn, 1) := by decide +kernel
theorem dL_law_1455 : decode cL_law 1455 = .ok (.iload 6, 2) := by decide +kernel
theorem dL_law_1457 : decode cL_law 1457 = .ok (.ifCond .ne 15, 3) := by decide +kernel
theorem dL_law_1460 : decode cL_law 1460 = .ok (.aload_n 3, 1) := by decide +kernel
theorem dL_law_1461 : decode cL_law 1461 = .ok (.iconst 0, 1) := by decide +kernel
theorem dL_law_1462 : decode cL_law 1462 = .ok (.laload, 1) := by decide +kernel
theorem dL_law_1463 : decode cL_law 1463 = .ok (.iload 7, 2) := by decide +kernel
theorem dL_law_1465 : decode cL_law 1465 = .ok (.i2l, 1) := by decide +kernel
theorem dL_law_1466 : decode cL_law 1466 = .ok (.lcmp, 1) := by decide +kernel
theorem dL_law_1467 : decode cL_law 1467 = .ok (.ifCond .eq 5, 3) := by decide +kernel
theorem dL_law_1470 : decode cL_law 1470 = .ok (.iconst 0, 1) := by decide +kernel
theorem dL_law_1471 : decode cL_law 1471 = .ok (.ireturn, 1) := by decide +kernel
theorem dL_law_1472 : decode cL_law 1472 = .ok (.goto 433, 3) := by decide +kernel
theorem dL_law_1475 : decode cL_law 1475 = .ok (.aload_n 1, 1) := by decide +kernel
theorem dL_law_1476 : decode cL_law 1476 = .ok (.aload_n 0, 1) := by decide +kernel
theorem dL_law_1477 : decode cL_law 1477 = .ok (.iload 5, 2) := by decide +kernel
theorem dL_law_1479 : decode cL_law 1479 = .ok (.iconst 1, 1) := by decide +kernel
theorem dL_law_1480 : decode cL_law 1480 = .ok (.iadd, 1) := by decide +kernel
theorem dL_law_1481 : decode cL_law 1481 = .ok (.iaload, 1) := by decide +kernel
theorem dL_law_1482 : decode cL_law 1482 = .ok (.aload 4, 2) := by decide +kernel
theorem dL_law_1484 : decode cL_law 1484 = .ok (.invokestatic 193, 3) := by decide +kernel
theorem dL_law_1487 : decode cL_law 1487 = .ok (.istore 6, 2) := by decide +kernel
theorem dL_law_1489 : decode cL_law 1489 = .ok (.aload_n 2, 1) := by decide +kernel
theorem dL_law_1490 : decode cL_law 1490 = .ok (.aload_n 0, 1) := by decide +kernel
theorem dL_law_1491 : decode cL_law 1491 = .ok (.iload 5, 2) := by decide +kernel
theorem dL_law_1493 : decode cL_law 1493 = .ok (.iconst 1, 1) := by decide +kernel
theorem dL_law_1494 : decode cL_law 1494 = .ok (.iadd, 1) := by decide +kernel
theorem dL_law_1495 : decode cL_law 1495 = .ok (.iaload, 1) := by decide +kernel
theorem dL_law_1496 : decode cL_law 1496 = .ok (.invokevirtual 196, 3) := by decide +kernel
theorem dL_law_1499 : decode cL_law 1499 = .ok (.dstore 7, 2) := by decide +kernel
theorem dL_law_1501 : decode cL_law 1501 = .ok (.aload_n 2, 1) := by decide +kernel
theorem dL_law_1502 : decode cL_law 1502 = .ok (.invokevirtual 111, 3) := by decide +kernel
theorem dL_law_1505 : decode cL_law 1505 = .ok (.iload 6, 2) := by decide +kernel
theorem dL_law_1507 : decode cL_law 1507 = .ok (.if_icmp .eq 5, 3) := by decide +kernel
theorem dL_law_1510 : decode cL_law 1510 = .ok (.iconst 0, 1) := by decide +kernel
theorem dL_law_1511 : decode cL_law 1511 = .ok (.ireturn, 1) := by decide +kernel
theorem dL_law_1512 : decode cL_law 1512 = .ok (.iload 6, 2) := by decide +kernel
theorem dL_law_1514 : decode cL_law 1514 = .ok (.ifCond .ne 35, 3) := by decide +kernel
theorem dL_law_1517 : decode cL_law 1517 = .ok (.aload 4, 2) := by decide +kernel
theorem dL_law_1519 : decode cL_law 1519 = .ok (.iconst 0, 1) := by decide +kernel
theorem dL_law_1520 : decode cL_law 1520 = .ok (.daload, 1) := by decide +kernel
theorem dL_law_1521 : decode cL_law 1521 = .ok (.dload 7, 2) := by decide +kernel
theorem dL_law_1523 : decode cL_law 1523 = .ok (.dcmp .l, 1) := by decide +kernel
theorem dL_law_1524 : decode cL_law 1524 = .ok (.ifCond .eq 25, 3) := by decide +kernel
theorem dL_law_1527 : decode cL_law 1527 = .ok (.aload 4, 2) := by decide +kernel
theorem dL_law_1529 : decode cL_law 1529 = .ok (.iconst 0, 1) := by decide +kernel
theorem dL_law_1530 : decode cL_law 1530 = .ok (.daload, 1) := by decide +kernel
theorem dL_law_1531 : decode cL_law 1531 = .ok (.aload 4, 2) := by decide +kernel
theorem dL_law_1533 : decode cL_law 1533 = .ok (.iconst 0, 1) := by decide +kernel
theorem dL_law_1534 : decode cL_law 1534 = .ok (.daload, 1) := by decide +kernel
theorem dL_law_1535 : decode cL_law 1535 = .ok (.dcmp .l, 1) := by decide +kernel
theorem dL_law_1536 : decode cL_law 1536 = .ok (.ifCond .eq 11, 3) := by decide +kernel
theorem dL_law_1539 : decode cL_law 1539 = .ok (.dload 7, 2) := by decide +kernel
theorem dL_law_1541 : decode cL_law 1541 = .ok (.dload 7, 2) := by decide +kernel
theorem dL_law_1543 : decode cL_law 1543 = .ok (.dcmp .l, 1) := by decide +kernel
theorem dL_law_1544 : decode cL_law 1544 = .ok (.ifCond .ne 5, 3) := by decide +kernel
theorem dL_law_1547 : decode cL_law 1547 = .ok (.iconst 0, 1) := by decide +kernel
theorem dL_law_1548 : decode cL_law 1548 = .ok (.ireturn, 1) := by decide +kernel
theorem dL_law_1549 : decode cL_law 1549 = .ok (.goto 356, 3) := by decide +kernel
theorem dL_law_1552 : decode cL_law 1552 = .ok (.aload_n 1, 1) := by decide +kernel
theorem dL_law_1553 : decode cL_law 1553 = .ok (.aload_n 0, 1) := by decide +kernel
theorem dL_law_1554 : decode cL_law 1554 = .ok (.iload 5, 2) := by decide +kernel
theorem dL_law_1556 : decode cL_law 1556 = .ok (.iconst 1, 1) := by decide +kernel
theorem dL_law_1557 : decode cL_law 1557 = .ok (.iadd, 1) := by decide +kernel
theorem dL_law_1558 : decode cL_law 1558 = .ok (.iaload, 1) := by decide +kernel
theorem dL_law_1559 : decode cL_law 1559 = .ok (.aload_n 0, 1) := by decide +kernel
theorem dL_law_1560 : decode cL_law 1560 = .ok (.iload 5, 2) := by decide +kernel
theorem dL_law_1562 : decode cL_law 1562 = .ok (.iconst 2, 1) := by decide +kernel
theorem dL_law_1563 : decode cL_law 1563 = .ok (.iadd, 1) := by decide +kernel
theorem dL_law_1564 : decode cL_law 1564 = .ok (.iaload, 1) := by decide +kernel
theorem dL_law_1565 : decode cL_law 1565 = .ok (.aload_n 0, 1) := by decide +kernel
theorem dL_law_1566 : decode cL_law 1566 = .ok (.iload 5, 2) := by decide +kernel
theorem dL_law_1568 : decode cL_law 1568 = .ok (.iconst 3, 1) := by decide +kernel
theorem dL_law_1569 : decode cL_law 1569 = .ok (.iadd, 1) := by decide +kernel
theorem dL_law_1570 : decode cL_law 1570 = .ok (.iaload, 1) := by decide +kernel
theorem dL_law_1571 : decode cL_law 1571 = .ok (.aload_n 3, 1) := by decide +kernel
theorem dL_law_1572 : decode cL_law 1572 = .ok (.invokestatic 197, 3) := by decide +kernel
theorem dL_law_1575 : decode cL_law 1575 = .ok (.istore 6, 2) := by decide +kernel
theorem dL_law_1577 : decode cL_law 1577 = .ok (.aload_n 2, 1) := by decide +kernel
theorem dL_law_1578 : decode cL_law 1578 = .ok (.aload_n 0, 1) := by decide +kernel
theorem dL_law_1579 : decode cL_law 1579 = .ok (.iload 5, 2) := by decide +kernel
theorem dL_law_1581 : decode cL_law 1581 = .ok (.iconst 1, 1) := by decide +kernel
theorem dL_law_1582 : decode cL_law 1582 = .ok (.iadd, 1) := by decide +kernel
theorem dL_law_1583 : decode cL_law 1583 = .ok (.iaload, 1) := by decide +kernel
theorem dL_law_1584 : decode cL_law 1584 = .ok (.aload_n 0, 1) := by decide +kernel
theorem dL_law_1585 : decode cL_law 1585 = .ok (.iload 5, 2) := by decide +kernel
theorem dL_law_1587 : decode cL_law 1587 = .ok (.iconst 2, 1) := by decide +kernel
theorem dL_law_1588 : decode cL_law 1588 = .ok (.iadd, 1) := by decide +kernel
theorem dL_law_1589 : decode cL_law 1589 = .ok (.iaload, 1) := by decide +kernel
theorem dL_law_1590 : decode cL_law 1590 = .ok (.aload_n 0, 1) := by decide +kernel
theorem dL_law_1591 : decode cL_law 1591 = .ok (.iload 5, 2) := by decide +kernel
theorem dL_law_1593 : decode cL_law 1593 = .ok (.iconst 3, 1) := by decide +kernel
theorem dL_law_1594 : decode cL_law 1594 = .ok (.iadd, 1) := by decide +kernel
theorem dL_law_1595 : decode cL_law 1595 = .ok (.iaload, 1) := by decide +kernel
theorem dL_law_1596 : decode cL_law 1596 = .ok (.invokevirtual 199, 3) := by decide +kernel
theorem dL_law_1599 : decode cL_law 1599 = .ok (.istore 7, 2) := by decide +kernel
theorem dL_law_1601 : decode cL_law 1601 = .ok (.aload_n 2, 1) := by decide +kernel
theorem dL_law_1602 : decode cL_law 1602 = .ok (.invokevirtual 111, 3) := by decide +kernel
theorem dL_law_1605 : decode cL_law 1605 = .ok (.iload 6, 2) := by decide +kernel
theorem dL_law_1607 : decode cL_law 1607 = .ok (.if_icmp .eq 5, 3) := by decide +kernel
theorem dL_law_1610 : decode cL_law 1610 = .ok (.iconst 0, 1) := by decide +kernel
theorem dL_law_1611 : decode cL_law 1611 = .ok (.ireturn, 1) := by decide +kernel
theorem dL_law_1612 : decode cL_law 1612 = .ok (.iload 6, 2) := by decide +kernel
theorem dL_law_1614 : decode cL_law 1614 = .ok (.ifCond .ne 15, 3) := by decide +kernel
theorem dL_law_1617 : decode cL_law 1617 = .ok (.aload_n 3, 1) := by decide +kernel
theorem dL_law_1618 : decode cL_law 1618 = .ok (.iconst 0, 1) := by decide +kernel
theorem dL_law_1619 : decode cL_law 1619 = .ok (.laload, 1) := by decide +kernel
theorem dL_law_1620 : decode cL_law 1620 = .ok (.iload 7, 2) := by decide +kernel
theorem dL_law_1622 : decode cL_law 1622 = .ok (.i2l, 1) := by decide +kernel
theorem dL_law_1623 : decode cL_law 1623 = .ok (.lcmp, 1) := by decide +kernel
theorem dL_law_1624 : decode cL_law 1624 = .ok (.ifCond .eq 5, 3) := by decide +kernel
theorem dL_law_1627 : decode cL_law 1627 = .ok (.iconst 0, 1) := by decide +kernel
theorem dL_law_1628 : decode cL_law 1628 = .ok (.ireturn, 1) := by decide +kernel
theorem dL_law_1629 : decode cL_law 1629 = .ok (.goto 276, 3) := by decide +kernel
theorem dL_law_1632 : decode cL_law 1632 = .ok (.aload_n 1, 1) := by decide +kernel
theorem dL_law_1633 : decode cL_law 1633 = .ok (.aload_n 0, 1) := by decide +kernel
theorem dL_law_1634 : decode cL_law 1634 = .ok (.iload 5, 2) := by decide +kernel
theorem dL_law_1636 : decode cL_law 1636 = .ok (.iconst 1, 1) := by decide +kernel
theorem dL_law_1637 : decode cL_law 1637 = .ok (.iadd, 1) := by decide +kernel
theorem dL_law_1638 : decode cL_law 1638 = .ok (.iaload, 1) := by decide +kernel
theorem dL_law_1639 : decode cL_law 1639 = .ok (.aload_n 0, 1) := by decide +kernel
theorem dL_law_1640 : decode cL_law 1640 = .ok (.iload 5, 2) := by decide +kernel
theorem dL_law_1642 : decode cL_law 1642 = .ok (.iconst 2, 1) := by decide +kernel
theorem dL_law_1643 : decode cL_law 1643 = .ok (.iadd, 1) := by decide +kernel
theorem dL_law_1644 : decode cL_law 1644 = .ok (.iaload, 1) := by decide +kernel
theorem dL_law_1645 : decode cL_law 1645 = .ok (.aload_n 0, 1) := by decide +kernel
theorem dL_law_1646 : decode cL_law 1646 = .ok (.iload 5, 2) := by decide +kernel
theorem dL_law_1648 : decode cL_law 1648 = .ok (.iconst 3, 1) := by decide +kernel
theorem dL_law_1649 : decode cL_law 1649 = .ok (.iadd, 1) := by decide +kernel
theorem dL_law_1650 : decode cL_law 1650 = .ok (.iaload, 1) := by decide +kernel
theorem dL_law_1651 : decode cL_law 1651 = .ok (.ifCond .eq 7, 3) := by decide +kernel
theorem dL_law_1654 : decode cL_law 1654 = .ok (.iconst 1, 1) := by decide +kernel
theorem dL_law_1655 : decode cL_law 1655 = .ok (.goto 4, 3) := by decide +kernel
theorem dL_law_1658 : decode cL_law 1658 = .ok (.iconst 0, 1) := by decide +kernel
theorem dL_law_1659 : decode cL_law 1659 = .ok (.aload_n 3, 1) := by decide +kernel
theorem dL_law_1660 : decode cL_law 1660 = .ok (.invokestatic 200, 3) := by decide +kernel
theorem dL_law_1663 : decode cL_law 1663 = .ok (.istore 6, 2) := by decide +kernel
theorem dL_law_1665 : decode cL_law 1665 = .ok (.aload_n 2, 1) := by decide +kernel
theorem dL_law_1666 : decode cL_law 1666 = .ok (.aload_n 0, 1) := by decide +kernel
theorem dL_law_1667 : decode cL_law 1667 = .ok (.iload 5, 2) := by decide +kernel
theorem dL_law_1669 : decode cL_law 1669 = .ok (.iconst 1, 1) := by decide +kernel
theorem dL_law_1670 : decode cL_law 1670 = .ok (.iadd, 1) := by decide +kernel
theorem dL_law_1671 : decode cL_law 1671 = .ok (.iaload, 1) := by decide +kernel
theorem dL_law_1672 : decode cL_law 1672 = .ok (.aload_n 0, 1) := by decide +kernel
theorem dL_law_1673 : decode cL_law 1673 = .ok (.iload 5, 2) := by decide +kernel
theorem dL_law_1675 : decode cL_law 1675 = .ok (.iconst 2, 1) := by decide +kernel
theorem dL_law_1676 : decode cL_law 1676 = .ok (.iadd, 1) := by decide +kernel
theorem dL_law_1677 : decode cL_law 1677 = .ok (.iaload, 1) := by decide +kernel
theorem dL_law_1678 : decode cL_law 1678 = .ok (.aload_n 0, 1) := by decide +kernel
theorem dL_law_1679 : decode cL_law 1679 = .ok (.iload 5, 2) := by decide +kernel
theorem dL_law_1681 : decode cL_law 1681 = .ok (.iconst 3, 1) := by decide +kernel
theorem dL_law_1682 : decode cL_law 1682 = .ok (.iadd, 1) := by decide +kernel
theorem dL_law_1683 : decode cL_law 1683 = .ok (.iaload, 1) := by decide +kernel
theorem dL_law_1684 : decode cL_law 1684 = .ok (.ifCond .eq 7, 3) := by decide +kernel
theorem dL_law_1687 : decode cL_law 1687 = .ok (.iconst 1, 1) := by decide +kernel
theorem dL_law_1688 : decode cL_law 1688 = .ok (.goto 4, 3) := by decide +kernel
theorem dL_law_1691 : decode cL_law 1691 = .ok (.iconst 0, 1) := by decide +kernel
theorem dL_law_1692 : decode cL_law 1692 = .ok (.invokevirtual 203, 3) := by decide +kernel
theorem dL_law_1695 : decode cL_law 1695 = .ok (.istore 7, 2) := by decide +kernel
theorem dL_law_1697 : decode cL_law 1697 = .ok (.aload_n 2, 1) := by decide +kernel
theorem dL_law_1698 : decode cL_law 1698 = .ok (.invokevirtual 111, 3) := by decide +kernel
theorem dL_law_1701 : decode cL_law 1701 = .ok (.iload 6, 2) := by decide +kernel
theorem dL_law_1703 : decode cL_law 1703 = .ok (.if_icmp .eq 5, 3) := by decide +kernel
theorem dL_law_1706 : decode cL_law 1706 = .ok (.iconst 0, 1) := by decide +kernel
theorem dL_law_1707 : decode cL_law 1707 = .ok (.ireturn, 1) := by decide +kernel
theorem dL_law_1708 : decode cL_law 1708 = .ok (.iload 6, 2) := by decide +kernel
theorem dL_law_1710 : decode cL_law 1710 = .ok (.ifCond .ne 22, 3) := by decide +kernel
theorem dL_law_1713 : decode cL_law 1713 = .ok (.aload_n 3, 1) := by decide +kernel
theorem dL_law_1714 : decode cL_law 1714 = .ok (.iconst 0, 1) := by decide +kernel
theorem dL_law_1715 : decode cL_law 1715 = .ok (.laload, 1) := by decide +kernel
theorem dL_law_1716 : decode cL_law 1716 = .ok (.iload 7, 2) := by decide +kernel
theorem dL_law_1718 : decode cL_law 1718 = .ok (.ifCond .eq 7, 3) := by decide +kernel
theorem dL_law_1721 : decode cL_law 1721 = .ok (.lconst 1, 1) := by decide +kernel
theorem dL_law_1722 : decode cL_law 1722 = .ok (.goto 4, 3) := by decide +kernel
theorem dL_law_1725 : decode cL_law 1725 = .ok (.lconst 0, 1) := by decide +kernel
theorem dL_law_1726 : decode cL_law 1726 = .ok (.lcmp, 1) := by decide +kernel
theorem dL_law_1727 : decode cL_law 1727 = .ok (.ifCond .eq 5, 3) := by decide +kernel
theorem dL_law_1730 : decode cL_law 1730 = .ok (.iconst 0, 1) := by decide +kernel
theorem dL_law_1731 : decode cL_law 1731 = .ok (.ireturn, 1) := by decide +kernel
theorem dL_law_1732 : decode cL_law 1732 = .ok (.goto 173, 3) := by decide +kernel
theorem dL_law_1735 : decode cL_law 1735 = .ok (.aload_n 1, 1) := by decide +kernel
theorem dL_law_1736 : decode cL_law 1736 = .ok (.aload_n 0, 1) := by decide +kernel
theorem dL_law_1737 : decode cL_law 1737 = .ok (.iload 5, 2) := by decide +kernel
theorem dL_law_1739 : decode cL_law 1739 = .ok (.iconst 1, 1) := by decide +kernel
theorem dL_law_1740 : decode cL_law 1740 = .ok (.iadd, 1) := by decide +kernel
theorem dL_law_1741 : decode cL_law 1741 = .ok (.iaload, 1) := by decide +kernel
theorem dL_law_1742 : decode cL_law 1742 = .ok (.aload_n 0, 1) := by decide +kernel
theorem dL_law_1743 : decode cL_law 1743 = .ok (.iload 5, 2) := by decide +kernel
theorem dL_law_1745 : decode cL_law 1745 = .ok (.iconst 2, 1) := by decide +kernel
theorem dL_law_1746 : decode cL_law 1746 = .ok (.iadd, 1) := by decide +kernel
theorem dL_law_1747 : decode cL_law 1747 = .ok (.iaload, 1) := by decide +kernel
theorem dL_law_1748 : decode cL_law 1748 = .ok (.aload_n 3, 1) := by decide +kernel
theorem dL_law_1749 : decode cL_law 1749 = .ok (.invokestatic 204, 3) := by decide +kernel
theorem dL_law_1752 : decode cL_law 1752 = .ok (.istore 6, 2) := by decide +kernel
theorem dL_law_1754 : decode cL_law 1754 = .ok (.aload_n 2, 1) := by decide +kernel
theorem dL_law_1755 : decode cL_law 1755 = .ok (.aload_n 0, 1) := by decide +kernel
theorem dL_law_1756 : decode cL_law 1756 = .ok (.iload 5, 2) := by decide +kernel
theorem dL_law_1758 : decode cL_law 1758 = .ok (.iconst 1, 1) := by decide +kernel
theorem dL_law_1759 : decode cL_law 1759 = .ok (.iadd, 1) := by decide +kernel
theorem dL_law_1760 : decode cL_law 1760 = .ok (.iaload, 1) := by decide +kernel
theorem dL_law_1761 : decode cL_law 1761 = .ok (.aload_n 0, 1) := by decide +kernel
theorem dL_law_1762 : decode cL_law 1762 = .ok (.iload 5, 2) := by decide +kernel
theorem dL_law_1764 : decode cL_law 1764 = .ok (.iconst 2, 1) := by decide +kernel
theorem dL_law_1765 : decode cL_law 1765 = .ok (.iadd, 1) := by decide +kernel
theorem dL_law_1766 : decode cL_law 1766 = .ok (.iaload, 1) := by decide +kernel
theorem dL_law_1767 : decode cL_law 1767 = .ok (.invokevirtual 206, 3) := by decide +kernel
theorem dL_law_1770 : decode cL_law 1770 = .ok (.istore 7, 2) := by decide +kernel
theorem dL_law_1772 : decode cL_law 1772 = .ok (.aload_n 2, 1) := by decide +kernel
theorem dL_law_1773 : decode cL_law 1773 = .ok (.invokevirtual 111, 3) := by decide +kernel
theorem dL_law_1776 : decode cL_law 1776 = .ok (.iload 6, 2) := by decide +kernel
theorem dL_law_1778 : decode cL_law 1778 = .ok (.if_icmp .eq 5, 3) := by decide +kernel
theorem dL_law_1781 : decode cL_law 1781 = .ok (.iconst 0, 1) := by decide +kernel
theorem dL_law_1782 : decode cL_law 1782 = .ok (.ireturn, 1) := by decide +kernel
theorem dL_law_1783 : decode cL_law 1783 = .ok (.iload 6, 2) := by decide +kernel
theorem dL_law_1785 : decode cL_law 1785 = .ok (.ifCond .ne 15, 3) := by decide +kernel
theorem dL_law_1788 : decode cL_law 1788 = .ok (.aload_n 3, 1) := by decide +kernel
theorem dL_law_1789 : decode cL_law 1789 = .ok (.iconst 0, 1) := by decide +kernel
theorem dL_law_1790 : decode cL_law 1790 = .ok (.laload, 1) := by decide +kernel
theorem dL_law_1791 : decode cL_law 1791 = .ok (.iload 7, 2) := by decide +kernel
theorem dL_law_1793 : decode cL_law 1793 = .ok (.i2l, 1) := by decide +kernel
theorem dL_law_1794 : decode cL_law 1794 = .ok (.lcmp, 1) := by decide +kernel
theorem dL_law_1795 : decode cL_law 1795 = .ok (.ifCond .eq 5, 3) := by decide +kernel
theorem dL_law_1798 : decode cL_law 1798 = .ok (.iconst 0, 1) := by decide +kernel
theorem dL_law_1799 : decode cL_law 1799 = .ok (.ireturn, 1) := by decide +kernel
theorem dL_law_1800 : decode cL_law 1800 = .ok (.goto 105, 3) := by decide +kernel
theorem dL_law_1803 : decode cL_law 1803 = .ok (.aload_n 1, 1) := by decide +kernel
theorem dL_law_1804 : decode cL_law 1804 = .ok (.aload_n 3, 1) := by decide +kernel
theorem dL_law_1805 : decode cL_law 1805 = .ok (.invokestatic 207, 3) := by decide +kernel
theorem dL_law_1808 : decode cL_law 1808 = .ok (.istore 6, 2) := by decide +kernel
theorem dL_law_1810 : decode cL_law 1810 = .ok (.aload_n 2, 1) := by decide +kernel
theorem dL_law_1811 : decode cL_law 1811 = .ok (.invokevirtual 209, 3) := by decide +kernel
theorem dL_law_1814 : decode cL_law 1814 = .ok (.istore 7, 2) := by decide +kernel
theorem dL_law_1816 : decode cL_law 1816 = .ok (.aload_n 2, 1) := by decide +kernel
theorem dL_law_1817 : decode cL_law 1817 = .ok (.invokevirtual 111, 3) := by decide +kernel
theorem dL_law_1820 : decode cL_law 1820 = .ok (.iload 6, 2) := by decide +kernel
theorem dL_law_1822 : decode cL_law 1822 = .ok (.if_icmp .eq 5, 3) := by decide +kernel
theorem dL_law_1825 : decode cL_law 1825 = .ok (.iconst 0, 1) := by decide +kernel
theorem dL_law_1826 : decode cL_law 1826 = .ok (.ireturn, 1) := by decide +kernel
theorem dL_law_1827 : decode cL_law 1827 = .ok (.iload 6, 2) := by decide +kernel
theorem dL_law_1829 : decode cL_law 1829 = .ok (.ifCond .ne 15, 3) := by decide +kernel
theorem dL_law_1832 : decode cL_law 1832 = .ok (.aload_n 3, 1) := by decide +kernel
theorem dL_law_1833 : decode cL_law 1833 = .ok (.iconst 0, 1) := by decide +kernel
theorem dL_law_1834 : decode cL_law 1834 = .ok (.laload, 1) := by decide +kernel
theorem dL_law_1835 : decode cL_law 1835 = .ok (.iload 7, 2) := by decide +kernel
theorem dL_law_1837 : decode cL_law 1837 = .ok (.i2l, 1) := by decide +kernel
theorem dL_law_1838 : decode cL_law 1838 = .ok (.lcmp, 1) := by decide +kernel
theorem dL_law_1839 : decode cL_law 1839 = .ok (.ifCond .eq 5, 3) := by decide +kernel
theorem dL_law_1842 : decode cL_law 1842 = .ok (.iconst 0, 1) := by decide +kernel
theorem dL_law_1843 : decode cL_law 1843 = .ok (.ireturn, 1) := by decide +kernel
theorem dL_law_1844 : decode cL_law 1844 = .ok (.goto 61, 3) := by decide +kernel
theorem dL_law_1847 : decode cL_law 1847 = .ok (.aload_n 1, 1) := by decide +kernel
theorem dL_law_1848 : decode cL_law 1848 = .ok (.aload_n 3, 1) := by decide +kernel
theorem dL_law_1849 : decode cL_law 1849 = .ok (.invokestatic 210, 3) := by decide +kernel
theorem dL_law_1852 : decode cL_law 1852 = .ok (.istore 6, 2) := by decide +kernel
theorem dL_law_1854 : decode cL_law 1854 = .ok (.aload_n 2, 1) := by decide +kernel
theorem dL_law_1855 : decode cL_law 1855 = .ok (.invokevirtual 212, 3) := by decide +kernel
theorem dL_law_1858 : decode cL_law 1858 = .ok (.istore 7, 2) := by decide +kernel
theorem dL_law_1860 : decode cL_law 1860 = .ok (.aload_n 2, 1) := by decide +kernel
theorem dL_law_1861 : decode cL_law 1861 = .ok (.invokevirtual 111, 3) := by decide +kernel
theorem dL_law_1864 : decode cL_law 1864 = .ok (.iload 6, 2) := by decide +kernel
theorem dL_law_1866 : decode cL_law 1866 = .ok (.if_icmp .eq 5, 3) := by decide +kernel
theorem dL_law_1869 : decode cL_law 1869 = .ok (.iconst 0, 1) := by decide +kernel
theorem dL_law_1870 : decode cL_law 1870 = .ok (.ireturn, 1) := by decide +kernel
theorem dL_law_1871 : decode cL_law 1871 = .ok (.iload 6, 2) := by decide +kernel
theorem dL_law_1873 : decode cL_law 1873 = .ok (.ifCond .ne 15, 3) := by decide +kernel
theorem dL_law_1876 : decode cL_law 1876 = .ok (.aload_n 3, 1) := by decide +kernel
theorem dL_law_1877 : decode cL_law 1877 = .ok (.iconst 0, 1) := by decide +kernel
theorem dL_law_1878 : decode cL_law 1878 = .ok (.laload, 1) := by decide +kernel
theorem dL_law_1879 : decode cL_law 1879 = .ok (.iload 7, 2) := by decide +kernel
theorem dL_law_1881 : decode cL_law 1881 = .ok (.i2l, 1) := by decide +kernel
theorem dL_law_1882 : decode cL_law 1882 = .ok (.lcmp, 1) := by decide +kernel
theorem dL_law_1883 : decode cL_law 1883 = .ok (.ifCond .eq 5, 3) := by decide +kernel
theorem dL_law_1886 : decode cL_law 1886 = .ok (.iconst 0, 1) := by decide +kernel
theorem dL_law_1887 : decode cL_law 1887 = .ok (.ireturn, 1) := by decide +kernel
theorem dL_law_1888 : decode cL_law 1888 = .ok (.goto 17, 3) := by decide +kernel
theorem dL_law_1891 : decode cL_law 1891 = .ok (.aload_n 1, 1) := by decide +kernel
theorem dL_law_1892 : decode cL_law 1892 = .ok (.invokevirtual 213, 3) := by decide +kernel
theorem dL_law_1895 : decode cL_law 1895 = .ok (.aload_n 2, 1) := by decide +kernel
theorem dL_law_1896 : decode cL_law 1896 = .ok (.invokevirtual 217, 3) := by decide +kernel
theorem dL_law_1899 : decode cL_law 1899 = .ok (.lcmp, 1) := by decide +kernel
theorem dL_law_1900 : decode cL_law 1900 = .ok (.ifCond .eq 5, 3) := by decide +kernel
theorem dL_law_1903 : decode cL_law 1903 = .ok (.iconst 0, 1) := by decide +kernel
theorem dL_law_1904 : decode cL_law 1904 = .ok (.ireturn, 1) := by decide +kernel
theorem dL_law_1905 : decode cL_law 1905 = .ok (.iinc 5 4, 3) := by decide +kernel
theorem dL_law_1908 : decode cL_law 1908 = .ok (.goto (-1880), 3) := by decide +kernel
theorem dL_law_1911 : decode cL_law 1911 = .ok (.iconst 1, 1) := by decide +kernel
theorem dL_law_1912 : decode cL_law 1912 = .ok (.ireturn, 1) := by decide +kernel
end
section
/-- the good words of the tables: every method's list is its own code word and these -/
def WG : List Cond := lw_tbl.filter goodWord
theorem WG_good : ∀ w ∈ WG, (w.onTables && w.keeps) = true ∨ ∃ ty, w = .arrayClass ty := fun w h => good_of_word (List.mem_filter.mp h).2
theorem WG_in (i : Nat) {w : Cond} (h : lw_tbl[i]? = some w) (g : goodWord w = true) : w ∈ WG := List.mem_filter.mpr ⟨List.mem_of_getElem? h, g⟩
theorem WG_tbl {w : Cond} (h : w ∈ WG) : w ∈ lw_tbl := (List.mem_filter.mp h).1
abbrev wsY (y : MethodName) (cc : ByteArray) (n : Nat) (r : Option FieldType) : List Cond := Cond.code y cc n r :: WG
abbrev wsH (y : MethodName) (cc : ByteArray) (n : Nat) (r : Option FieldType) (hh : List (Nat × Nat × Nat × Nat)) : List Cond := Cond.codeWith y cc n r hh :: WG
theorem good_WG : GoodIn WG WG := fun w h => ⟨h, WG_good w h⟩
theorem good_cons {c : Cond} {l : List Cond} (h : c ∈ WG) (hl : GoodIn WG l) : GoodIn WG (c :: l) := fun w hw => (List.mem_cons.mp hw).elim (fun e => by rw [e]; exact ⟨h, WG_good c h⟩) (hl w)
theorem good_nil : GoodIn WG ([] : List Cond) := fun _ h => absurd h List.not_mem_nil
theorem goodY {y : MethodName} {cc : ByteArray} {n : Nat} {r : Option FieldType} (h : Cond.code y cc n r ∈ WG) : GoodIn WG (wsY y cc n r) := good_cons h good_WG
theorem goodV {own : String} {idx : Nat} {y : MethodName} {C : String} {cc : ByteArray} {n : Nat} {r : Option FieldType} (h1 : Cond.methodLink own idx y ∈ WG) (h2 : Cond.instanceMethod y ∈ WG) (h3 : Cond.selects C y y ∈ WG) (h4 : Cond.initialized C ∈ WG) (h5 : Cond.code y cc n r ∈ WG) : GoodIn WG (wsV own idx C y (wsY y cc n r)) := good_cons h1 (good_cons h2 (good_cons h3 (good_cons h4 (goodY h5))))
theorem goodS {own : String} {idx : Nat} {y : MethodName} {cc : ByteArray} {n : Nat} {r : Option FieldType} (h1 : Cond.methodLink own idx y ∈ WG) (h2 : Cond.static y ∈ WG) (h3 : Cond.initialized y.cls ∈ WG) (h5 : Cond.code y cc n r ∈ WG) : GoodIn WG (va_wsS own idx y (wsY y cc n r)) := good_cons h1 (good_cons h2 (good_cons h3 (goodY h5)))
theorem goodSW {own : String} {idx : Nat} {y : MethodName} {cc : ByteArray} {n : Nat} {r : Option FieldType} {hh : List (Nat × Nat × Nat × Nat)} (h1 : Cond.methodLink own idx y ∈ WG) (h2 : Cond.static y ∈ WG) (h3 : Cond.initialized y.cls ∈ WG) (h5 : Cond.codeWith y cc n r hh ∈ WG) : GoodIn WG (va_wsS own idx y (wsH y cc n r hh)) := good_cons h1 (good_cons h2 (good_cons h3 (good_cons h5 good_WG)))
theorem s_1 : Cond.selects "RoadOracle" yX3_requireJunction yX3_requireJunction ∈ WG := WG_in 1 (by decide +kernel) (by decide +kernel)
theorem s_2 : Cond.selects "RoadOracle" yX3_requireWeight yX3_requireWeight ∈ WG := WG_in 2 (by decide +kernel) (by decide +kernel)
theorem s_3 : Cond.selects "RoadOracle" yX3_requireRoad yX3_requireRoad ∈ WG := WG_in 3 (by decide +kernel) (by decide +kernel)
theorem s_4 : Cond.selects "RoadOracle$Hierarchy" yX0_renewSteps yX0_renewSteps ∈ WG := WG_in 4 (by decide +kernel) (by decide +kernel)
theorem s_5 : Cond.selects "RoadOracle$Hierarchy" yX0_markHeads yX0_markHeads ∈ WG := WG_in 5 (by decide +kernel) (by decide +kernel)
theorem s_6 : Cond.selects "RoadOracle$Hierarchy" yX0_settle yX0_settle ∈ WG := WG_in 6 (by decide +kernel) (by decide +kernel)
theorem s_7 : Cond.selects "RoadOracle$Hierarchy" yX0_settleArc yX0_settleArc ∈ WG := WG_in 7 (by decide +kernel) (by decide +kernel)
theorem s_8 : Cond.selects "RoadOracle$Hierarchy" yX0_computeArc yX0_computeArc ∈ WG := WG_in 8 (by decide +kernel) (by decide +kernel)
theorem s_9 : Cond.selects "RoadOracle$Hierarchy" yX0_markAbove yX0_markAbove ∈ WG := WG_in 9 (by decide +kernel) (by decide +kernel)
theorem s_10 : Cond.selects "RoadOracle$Hierarchy" yX0_markTails yX0_markTails ∈ WG := WG_in 10 (by decide +kernel) (by decide +kernel)
theorem s_11 : Cond.selects "RoadOracle" yX3_openOrClose yX3_openOrClose ∈ WG := WG_in 11 (by decide +kernel) (by decide +kernel)
theorem s_12 : Cond.selects "RoadOracle" yX3_requireTurn yX3_requireTurn ∈ WG := WG_in 12 (by decide +kernel) (by decide +kernel)
theorem s_13 : Cond.selects "RoadOracle$Hierarchy" yX0_linkTurns yX0_linkTurns ∈ WG := WG_in 13 (by decide +kernel) (by decide +kernel)
theorem s_14 : Cond.selects "RoadOracle$Hierarchy" yX0_cheapest yX0_cheapest ∈ WG := WG_in 14 (by decide +kernel) (by decide +kernel)
theorem s_15 : Cond.selects "RoadOracle$Hierarchy" yX0_bridge yX0_bridge ∈ WG := WG_in 15 (by decide +kernel) (by decide +kernel)
theorem s_16 : Cond.selects "RoadOracle" yX3_requireHierarchy yX3_requireHierarchy ∈ WG := WG_in 16 (by decide +kernel) (by decide +kernel)
theorem s_17 : Cond.selects "RoadOracle" yX3_costBetween yX3_costBetween ∈ WG := WG_in 17 (by decide +kernel) (by decide +kernel)
theorem s_18 : Cond.selects "RoadOracle" yX3_searchFrom yX3_searchFrom ∈ WG := WG_in 18 (by decide +kernel) (by decide +kernel)
theorem s_19 : Cond.selects "RoadOracle$Hierarchy" yX0_passOn yX0_passOn ∈ WG := WG_in 19 (by decide +kernel) (by decide +kernel)
theorem s_20 : Cond.selects "RoadOracle" yX3_foundCost yX3_foundCost ∈ WG := WG_in 20 (by decide +kernel) (by decide +kernel)
theorem s_21 : Cond.selects "RoadOracle" yX3_leastAmong yX3_leastAmong ∈ WG := WG_in 21 (by decide +kernel) (by decide +kernel)
theorem s_22 : Cond.selects "RoadOracle" yX3_searchTo yX3_searchTo ∈ WG := WG_in 22 (by decide +kernel) (by decide +kernel)
theorem s_23 : Cond.selects "RoadOracle$Hierarchy" yX0_passBack yX0_passBack ∈ WG := WG_in 23 (by decide +kernel) (by decide +kernel)
theorem s_24 : Cond.selects "RoadOracle" yX3_bestFirstRoad yX3_bestFirstRoad ∈ WG := WG_in 24 (by decide +kernel) (by decide +kernel)
theorem s_25 : Cond.selects "RoadOracle" yX3_writePath yX3_writePath ∈ WG := WG_in 25 (by decide +kernel) (by decide +kernel)
theorem s_26 : Cond.selects "RoadOracle" yX3_bestNextRoad yX3_bestNextRoad ∈ WG := WG_in 26 (by decide +kernel) (by decide +kernel)
theorem s_27 : Cond.selects "RoadOracle" yX3_keepReached yX3_keepReached ∈ WG := WG_in 27 (by decide +kernel) (by decide +kernel)
theorem s_28 : Cond.selects "RoadOracle" yX3_requireKind yX3_requireKind ∈ WG := WG_in 28 (by decide +kernel) (by decide +kernel)
theorem s_29 : Cond.selects "RoadOracleModel" yX4_fail yX4_fail ∈ WG := WG_in 29 (by decide +kernel) (by decide +kernel)
theorem s_30 : Cond.selects "RoadOracleModel" yX4_isJunction yX4_isJunction ∈ WG := WG_in 30 (by decide +kernel) (by decide +kernel)
theorem s_31 : Cond.selects "RoadOracleModel" yX4_isRoad yX4_isRoad ∈ WG := WG_in 31 (by decide +kernel) (by decide +kernel)
theorem s_32 : Cond.selects "RoadOracleModel" yX4_renewed yX4_renewed ∈ WG := WG_in 32 (by decide +kernel) (by decide +kernel)
theorem s_33 : Cond.selects "RoadOracleModel" yX4_findCosts yX4_findCosts ∈ WG := WG_in 33 (by decide +kernel) (by decide +kernel)
theorem s_34 : Cond.selects "RoadOracleModel" yX4_step yX4_step ∈ WG := WG_in 34 (by decide +kernel) (by decide +kernel)
theorem s_35 : Cond.selects "RoadOracleModel" yX4_follows yX4_follows ∈ WG := WG_in 35 (by decide +kernel) (by decide +kernel)
theorem s_36 : Cond.selects "RoadOracleModel" yX4_penalty yX4_penalty ∈ WG := WG_in 36 (by decide +kernel) (by decide +kernel)
theorem s_37 : Cond.selects "RoadOracleModel" yX4_next yX4_next ∈ WG := WG_in 37 (by decide +kernel) (by decide +kernel)
theorem s_38 : Cond.selects "RoadOracleModel" yX4_take yX4_take ∈ WG := WG_in 38 (by decide +kernel) (by decide +kernel)
theorem s_39 : Cond.selects "RoadOracleModel" yX4_costOf yX4_costOf ∈ WG := WG_in 39 (by decide +kernel) (by decide +kernel)
theorem s_40 : Cond.selects "RoadOracleModel" yX4_lookedAt yX4_lookedAt ∈ WG := WG_in 40 (by decide +kernel) (by decide +kernel)
theorem s_41 : Cond.selects "RoadOracleModel" yX4_distanceBetween yX4_distanceBetween ∈ WG := WG_in 41 (by decide +kernel) (by decide +kernel)
theorem s_42 : Cond.selects "RoadOracleModel" yX4_findBehind yX4_findBehind ∈ WG := WG_in 42 (by decide +kernel) (by decide +kernel)
theorem s_43 : Cond.selects "RoadOracleModel" yX4_improves yX4_improves ∈ WG := WG_in 43 (by decide +kernel) (by decide +kernel)
theorem s_44 : Cond.selects "RoadOracleModel" yX4_firstRoad yX4_firstRoad ∈ WG := WG_in 44 (by decide +kernel) (by decide +kernel)
theorem s_45 : Cond.selects "RoadOracleModel" yX4_nextRoad yX4_nextRoad ∈ WG := WG_in 45 (by decide +kernel) (by decide +kernel)
theorem w_46 : (Cond.initialized "RoadOracleLaw") ∈ WG := WG_in 46 (by decide +kernel) (by decide +kernel)
theorem w_47 : (Cond.initialized "RoadOracle") ∈ WG := WG_in 47 (by decide +kernel) (by decide +kernel)
theorem w_48 : (Cond.initialized "RoadOracle$Network") ∈ WG := WG_in 48 (by decide +kernel) (by decide +kernel)
theorem w_49 : (Cond.initialized "java/util/Arrays") ∈ WG := WG_in 49 (by decide +kernel) (by decide +kernel)
theorem w_50 : (Cond.initialized "RoadOracle$Hierarchy") ∈ WG := WG_in 50 (by decide +kernel) (by decide +kernel)
theorem w_51 : (Cond.initialized "RoadOracle$Levels") ∈ WG := WG_in 51 (by decide +kernel) (by decide +kernel)
theorem w_52 : (Cond.initialized "RoadOracleModel") ∈ WG := WG_in 52 (by decide +kernel) (by decide +kernel)
theorem w_53 : (Cond.initialized "java/lang/Throwable") ∈ WG := WG_in 53 (by decide +kernel) (by decide +kernel)
theorem w_54 : (Cond.initialized "java/lang/Exception") ∈ WG := WG_in 54 (by decide +kernel) (by decide +kernel)
theorem w_55 : (Cond.initialized "java/lang/RuntimeException") ∈ WG := WG_in 55 (by decide +kernel) (by decide +kernel)
theorem w_56 : (Cond.initialized "java/lang/IllegalStateException") ∈ WG := WG_in 56 (by decide +kernel) (by decide +kernel)
theorem w_57 : (Cond.initialized "java/lang/IndexOutOfBoundsException") ∈ WG := WG_in 57 (by decide +kernel) (by decide +kernel)
theorem w_58 : (Cond.initialized "java/lang/IllegalArgumentException") ∈ WG := WG_in 58 (by decide +kernel) (by decide +kernel)
theorem w_59 : (Cond.initialized "java/lang/Number") ∈ WG := WG_in 59 (by decide +kernel) (by decide +kernel)
theorem w_60 : (Cond.initialized "java/lang/Long") ∈ WG := WG_in 60 (by decide +kernel) (by decide +kernel)
theorem w_61 : (Cond.initialized "java/lang/Integer") ∈ WG := WG_in 61 (by decide +kernel) (by decide +kernel)
theorem w_62 : (Cond.initialized "java/lang/Math") ∈ WG := WG_in 62 (by decide +kernel) (by decide +kernel)
theorem w_63 : (Cond.initialized "java/util/NoSuchElementException") ∈ WG := WG_in 63 (by decide +kernel) (by decide +kernel)
theorem w_64 : (Cond.initialized "java/lang/System") ∈ WG := WG_in 64 (by decide +kernel) (by decide +kernel)
theorem w_65 : (Cond.classLink "RoadOracleLaw" (8 : Nat) "RoadOracle") ∈ WG := WG_in 65 (by decide +kernel) (by decide +kernel)
theorem w_66 : (Cond.instantiable "RoadOracle" (11 : Nat)) ∈ WG := WG_in 66 (by decide +kernel) (by decide +kernel)
theorem w_67 : (Cond.methodLink "RoadOracleLaw" (101 : Nat) yX3_init) ∈ WG := WG_in 67 (by decide +kernel) (by decide +kernel)
theorem w_68 : (Cond.instanceMethod yX3_init) ∈ WG := WG_in 68 (by decide +kernel) (by decide +kernel)
theorem w_69 : (Cond.code yX3_init prog_1_method_1_code (1 : Nat) (Option.none : Option FieldType)) ∈ WG := WG_in 69 (by decide +kernel) (by decide +kernel)
theorem w_70 : (Cond.methodLink "RoadOracle" (3 : Nat) ({ cls := "java/lang/Object", name := "<init>", desc := "()V" } : MethodName)) ∈ WG := WG_in 70 (by decide +kernel) (by decide +kernel)
theorem w_71 : (Cond.instanceMethod ({ cls := "java/lang/Object", name := "<init>", desc := "()V" } : MethodName)) ∈ WG := WG_in 71 (by decide +kernel) (by decide +kernel)
theorem w_72 : (Cond.code ({ cls := "java/lang/Object", name := "<init>", desc := "()V" } : MethodName) object_method_1_code (1 : Nat) (Option.none : Option FieldType)) ∈ WG := WG_in 72 (by decide +kernel) (by decide +kernel)
theorem w_73 : (Cond.classLink "RoadOracle" (9 : Nat) "RoadOracle$Network") ∈ WG := WG_in 73 (by decide +kernel) (by decide +kernel)
theorem w_74 : (Cond.instantiable "RoadOracle$Network" (10 : Nat)) ∈ WG := WG_in 74 (by decide +kernel) (by decide +kernel)
theorem w_75 : (Cond.methodLink "RoadOracle" (11 : Nat) yX2_init) ∈ WG := WG_in 75 (by decide +kernel) (by decide +kernel)
theorem w_76 : (Cond.instanceMethod yX2_init) ∈ WG := WG_in 76 (by decide +kernel) (by decide +kernel)
theorem w_77 : (Cond.code yX2_init prog_4_method_1_code (1 : Nat) (Option.none : Option FieldType)) ∈ WG := WG_in 77 (by decide +kernel) (by decide +kernel)
theorem w_78 : (Cond.methodLink "RoadOracle$Network" (3 : Nat) ({ cls := "java/lang/Object", name := "<init>", desc := "()V" } : MethodName)) ∈ WG := WG_in 78 (by decide +kernel) (by decide +kernel)
theorem w_79 : (Cond.methodLink "RoadOracle$Network" (24 : Nat) yJ7_fill_53178) ∈ WG := WG_in 79 (by decide +kernel) (by decide +kernel)
theorem w_80 : (Cond.static yJ7_fill_53178) ∈ WG := WG_in 80 (by decide +kernel) (by decide +kernel)
theorem w_81 : (Cond.code yJ7_fill_53178 prog_23_method_103_code (4 : Nat) (Option.none : Option FieldType)) ∈ WG := WG_in 81 (by decide +kernel) (by decide +kernel)
theorem w_82 : (Cond.fieldLink "RoadOracle" (49 : Nat) "RoadOracle$Network" "junctions" "I") ∈ WG := WG_in 82 (by decide +kernel) (by decide +kernel)
theorem w_83 : (Cond.fieldLink "RoadOracle$Network" (41 : Nat) "RoadOracle$Network" "roads" "I") ∈ WG := WG_in 83 (by decide +kernel) (by decide +kernel)
theorem w_84 : (Cond.fieldLink "RoadOracle$Hierarchy" (44 : Nat) "RoadOracle$Network" "roads" "I") ∈ WG := WG_in 84 (by decide +kernel) (by decide +kernel)
theorem w_85 : (Cond.fieldLink "RoadOracle$Levels" (33 : Nat) "RoadOracle$Network" "roads" "I") ∈ WG := WG_in 85 (by decide +kernel) (by decide +kernel)
theorem w_86 : (Cond.fieldLink "RoadOracle" (72 : Nat) "RoadOracle$Network" "roads" "I") ∈ WG := WG_in 86 (by decide +kernel) (by decide +kernel)
theorem w_87 : (Cond.fieldLink "RoadOracle$Network" (9 : Nat) "RoadOracle$Network" "begin" "[I") ∈ WG := WG_in 87 (by decide +kernel) (by decide +kernel)
theorem w_88 : (Cond.fieldLink "RoadOracle" (263 : Nat) "RoadOracle$Network" "begin" "[I") ∈ WG := WG_in 88 (by decide +kernel) (by decide +kernel)
theorem w_89 : (Cond.fieldLink "RoadOracle$Network" (15 : Nat) "RoadOracle$Network" "end" "[I") ∈ WG := WG_in 89 (by decide +kernel) (by decide +kernel)
theorem w_90 : (Cond.fieldLink "RoadOracle" (260 : Nat) "RoadOracle$Network" "end" "[I") ∈ WG := WG_in 90 (by decide +kernel) (by decide +kernel)
theorem w_91 : (Cond.fieldLink "RoadOracle$Network" (18 : Nat) "RoadOracle$Network" "weights" "[I") ∈ WG := WG_in 91 (by decide +kernel) (by decide +kernel)
theorem w_92 : (Cond.fieldLink "RoadOracle$Levels" (37 : Nat) "RoadOracle$Network" "weights" "[I") ∈ WG := WG_in 92 (by decide +kernel) (by decide +kernel)
theorem w_93 : (Cond.fieldLink "RoadOracle" (88 : Nat) "RoadOracle$Network" "weights" "[I") ∈ WG := WG_in 93 (by decide +kernel) (by decide +kernel)
theorem w_94 : (Cond.fieldLink "RoadOracle$Network" (21 : Nat) "RoadOracle$Network" "settings" "[I") ∈ WG := WG_in 94 (by decide +kernel) (by decide +kernel)
theorem w_95 : (Cond.fieldLink "RoadOracle$Levels" (44 : Nat) "RoadOracle$Network" "settings" "[I") ∈ WG := WG_in 95 (by decide +kernel) (by decide +kernel)
theorem w_96 : (Cond.fieldLink "RoadOracle" (105 : Nat) "RoadOracle$Network" "settings" "[I") ∈ WG := WG_in 96 (by decide +kernel) (by decide +kernel)
theorem w_97 : (Cond.fieldLink "RoadOracle$Network" (30 : Nat) "RoadOracle$Network" "beginning" "[J") ∈ WG := WG_in 97 (by decide +kernel) (by decide +kernel)
theorem w_98 : (Cond.fieldLink "RoadOracle" (280 : Nat) "RoadOracle$Network" "beginning" "[J") ∈ WG := WG_in 98 (by decide +kernel) (by decide +kernel)
theorem w_99 : (Cond.fieldLink "RoadOracle$Network" (34 : Nat) "RoadOracle$Network" "ending" "[J") ∈ WG := WG_in 99 (by decide +kernel) (by decide +kernel)
theorem w_100 : (Cond.fieldLink "RoadOracle" (179 : Nat) "RoadOracle$Network" "ending" "[J") ∈ WG := WG_in 100 (by decide +kernel) (by decide +kernel)
theorem w_101 : (Cond.fieldLink "RoadOracle$Network" (48 : Nat) "RoadOracle$Network" "openRoads" "J") ∈ WG := WG_in 101 (by decide +kernel) (by decide +kernel)
theorem w_102 : (Cond.fieldLink "RoadOracle$Levels" (45 : Nat) "RoadOracle$Network" "openRoads" "J") ∈ WG := WG_in 102 (by decide +kernel) (by decide +kernel)
theorem w_103 : (Cond.fieldLink "RoadOracle" (124 : Nat) "RoadOracle$Network" "openRoads" "J") ∈ WG := WG_in 103 (by decide +kernel) (by decide +kernel)
theorem w_104 : (Cond.fieldLink "RoadOracle$Network" (37 : Nat) "RoadOracle$Network" "uTurn" "I") ∈ WG := WG_in 104 (by decide +kernel) (by decide +kernel)
theorem w_105 : (Cond.fieldLink "RoadOracle$Levels" (48 : Nat) "RoadOracle$Network" "uTurn" "I") ∈ WG := WG_in 105 (by decide +kernel) (by decide +kernel)
theorem w_106 : (Cond.fieldLink "RoadOracle" (117 : Nat) "RoadOracle$Network" "uTurn" "I") ∈ WG := WG_in 106 (by decide +kernel) (by decide +kernel)
theorem w_107 : (Cond.lays "RoadOracle$Network" "RoadOracle$Network" "junctions" "I") ∈ WG := WG_in 107 (by decide +kernel) (by decide +kernel)
theorem w_109 : (Cond.lays "RoadOracle$Network" "RoadOracle$Network" "roads" "I") ∈ WG := WG_in 109 (by decide +kernel) (by decide +kernel)
theorem w_111 : (Cond.laysFinal "RoadOracle$Network" "RoadOracle$Network" "begin" "[I") ∈ WG := WG_in 111 (by decide +kernel) (by decide +kernel)
theorem w_113 : (Cond.laysFinal "RoadOracle$Network" "RoadOracle$Network" "end" "[I") ∈ WG := WG_in 113 (by decide +kernel) (by decide +kernel)
theorem w_115 : (Cond.laysFinal "RoadOracle$Network" "RoadOracle$Network" "weights" "[I") ∈ WG := WG_in 115 (by decide +kernel) (by decide +kernel)
theorem w_117 : (Cond.laysFinal "RoadOracle$Network" "RoadOracle$Network" "settings" "[I") ∈ WG := WG_in 117 (by decide +kernel) (by decide +kernel)
theorem w_119 : (Cond.laysFinal "RoadOracle$Network" "RoadOracle$Network" "beginning" "[J") ∈ WG := WG_in 119 (by decide +kernel) (by decide +kernel)
theorem w_121 : (Cond.laysFinal "RoadOracle$Network" "RoadOracle$Network" "ending" "[J") ∈ WG := WG_in 121 (by decide +kernel) (by decide +kernel)
theorem w_123 : (Cond.lays "RoadOracle$Network" "RoadOracle$Network" "openRoads" "J") ∈ WG := WG_in 123 (by decide +kernel) (by decide +kernel)
theorem w_125 : (Cond.lays "RoadOracle$Network" "RoadOracle$Network" "uTurn" "I") ∈ WG := WG_in 125 (by decide +kernel) (by decide +kernel)
theorem w_128 : (Cond.arrayClass FieldType.int) ∈ WG := WG_in 128 (by decide +kernel) (by decide +kernel)
theorem w_129 : (Cond.arrayClass FieldType.long) ∈ WG := WG_in 129 (by decide +kernel) (by decide +kernel)
theorem w_130 : (Cond.classLink "RoadOracle" (16 : Nat) "RoadOracle$Hierarchy") ∈ WG := WG_in 130 (by decide +kernel) (by decide +kernel)
theorem w_131 : (Cond.instantiable "RoadOracle$Hierarchy" (14 : Nat)) ∈ WG := WG_in 131 (by decide +kernel) (by decide +kernel)
theorem w_132 : (Cond.methodLink "RoadOracle" (18 : Nat) yX0_init) ∈ WG := WG_in 132 (by decide +kernel) (by decide +kernel)
theorem w_133 : (Cond.instanceMethod yX0_init) ∈ WG := WG_in 133 (by decide +kernel) (by decide +kernel)
theorem w_134 : (Cond.code yX0_init prog_2_method_1_code (2 : Nat) (Option.none : Option FieldType)) ∈ WG := WG_in 134 (by decide +kernel) (by decide +kernel)
theorem w_135 : (Cond.methodLink "RoadOracle$Hierarchy" (3 : Nat) ({ cls := "java/lang/Object", name := "<init>", desc := "()V" } : MethodName)) ∈ WG := WG_in 135 (by decide +kernel) (by decide +kernel)
theorem w_136 : (Cond.fieldLink "RoadOracle$Hierarchy" (9 : Nat) "RoadOracle$Hierarchy" "network" "LRoadOracle$Network;") ∈ WG := WG_in 136 (by decide +kernel) (by decide +kernel)
theorem w_137 : (Cond.fieldLink "RoadOracle$Hierarchy" (84 : Nat) "RoadOracle$Hierarchy" "built" "Z") ∈ WG := WG_in 137 (by decide +kernel) (by decide +kernel)
theorem w_138 : (Cond.fieldLink "RoadOracle" (77 : Nat) "RoadOracle$Hierarchy" "built" "Z") ∈ WG := WG_in 138 (by decide +kernel) (by decide +kernel)
theorem w_139 : (Cond.fieldLink "RoadOracle$Hierarchy" (50 : Nat) "RoadOracle$Hierarchy" "roads" "I") ∈ WG := WG_in 139 (by decide +kernel) (by decide +kernel)
theorem w_140 : (Cond.fieldLink "RoadOracle$Hierarchy" (73 : Nat) "RoadOracle$Hierarchy" "arcs" "I") ∈ WG := WG_in 140 (by decide +kernel) (by decide +kernel)
theorem w_141 : (Cond.fieldLink "RoadOracle" (149 : Nat) "RoadOracle$Hierarchy" "arcs" "I") ∈ WG := WG_in 141 (by decide +kernel) (by decide +kernel)
theorem w_142 : (Cond.fieldLink "RoadOracle$Hierarchy" (81 : Nat) "RoadOracle$Hierarchy" "shortcuts" "I") ∈ WG := WG_in 142 (by decide +kernel) (by decide +kernel)
theorem w_143 : (Cond.fieldLink "RoadOracle" (140 : Nat) "RoadOracle$Hierarchy" "shortcuts" "I") ∈ WG := WG_in 143 (by decide +kernel) (by decide +kernel)
theorem w_144 : (Cond.fieldLink "RoadOracle$Hierarchy" (15 : Nat) "RoadOracle$Hierarchy" "positions" "[I") ∈ WG := WG_in 144 (by decide +kernel) (by decide +kernel)
theorem w_145 : (Cond.fieldLink "RoadOracle" (146 : Nat) "RoadOracle$Hierarchy" "positions" "[I") ∈ WG := WG_in 145 (by decide +kernel) (by decide +kernel)
theorem w_146 : (Cond.fieldLink "RoadOracle$Hierarchy" (19 : Nat) "RoadOracle$Hierarchy" "order" "[I") ∈ WG := WG_in 146 (by decide +kernel) (by decide +kernel)
theorem w_147 : (Cond.fieldLink "RoadOracle$Hierarchy" (22 : Nat) "RoadOracle$Hierarchy" "lower" "[J") ∈ WG := WG_in 147 (by decide +kernel) (by decide +kernel)
theorem w_148 : (Cond.fieldLink "RoadOracle$Hierarchy" (26 : Nat) "RoadOracle$Hierarchy" "heads" "[J") ∈ WG := WG_in 148 (by decide +kernel) (by decide +kernel)
theorem w_149 : (Cond.fieldLink "RoadOracle" (152 : Nat) "RoadOracle$Hierarchy" "heads" "[J") ∈ WG := WG_in 149 (by decide +kernel) (by decide +kernel)
theorem w_150 : (Cond.fieldLink "RoadOracle$Hierarchy" (29 : Nat) "RoadOracle$Hierarchy" "tails" "[J") ∈ WG := WG_in 150 (by decide +kernel) (by decide +kernel)
theorem w_151 : (Cond.fieldLink "RoadOracle$Hierarchy" (32 : Nat) "RoadOracle$Hierarchy" "lengths" "[I") ∈ WG := WG_in 151 (by decide +kernel) (by decide +kernel)
theorem w_152 : (Cond.fieldLink "RoadOracle" (161 : Nat) "RoadOracle$Hierarchy" "lengths" "[I") ∈ WG := WG_in 152 (by decide +kernel) (by decide +kernel)
theorem w_153 : (Cond.fieldLink "RoadOracle$Hierarchy" (35 : Nat) "RoadOracle$Hierarchy" "steps" "[I") ∈ WG := WG_in 153 (by decide +kernel) (by decide +kernel)
theorem w_154 : (Cond.fieldLink "RoadOracle$Hierarchy" (38 : Nat) "RoadOracle$Hierarchy" "staleHeads" "[J") ∈ WG := WG_in 154 (by decide +kernel) (by decide +kernel)
theorem w_155 : (Cond.fieldLink "RoadOracle$Hierarchy" (41 : Nat) "RoadOracle$Hierarchy" "staleTails" "[J") ∈ WG := WG_in 155 (by decide +kernel) (by decide +kernel)
theorem w_156 : (Cond.laysFinal "RoadOracle$Hierarchy" "RoadOracle$Hierarchy" "network" "LRoadOracle$Network;") ∈ WG := WG_in 156 (by decide +kernel) (by decide +kernel)
theorem w_158 : (Cond.lays "RoadOracle$Hierarchy" "RoadOracle$Hierarchy" "built" "Z") ∈ WG := WG_in 158 (by decide +kernel) (by decide +kernel)
theorem w_160 : (Cond.lays "RoadOracle$Hierarchy" "RoadOracle$Hierarchy" "roads" "I") ∈ WG := WG_in 160 (by decide +kernel) (by decide +kernel)
theorem w_162 : (Cond.lays "RoadOracle$Hierarchy" "RoadOracle$Hierarchy" "arcs" "I") ∈ WG := WG_in 162 (by decide +kernel) (by decide +kernel)
theorem w_164 : (Cond.lays "RoadOracle$Hierarchy" "RoadOracle$Hierarchy" "shortcuts" "I") ∈ WG := WG_in 164 (by decide +kernel) (by decide +kernel)
theorem w_166 : (Cond.laysFinal "RoadOracle$Hierarchy" "RoadOracle$Hierarchy" "positions" "[I") ∈ WG := WG_in 166 (by decide +kernel) (by decide +kernel)
theorem w_168 : (Cond.laysFinal "RoadOracle$Hierarchy" "RoadOracle$Hierarchy" "order" "[I") ∈ WG := WG_in 168 (by decide +kernel) (by decide +kernel)
theorem w_170 : (Cond.laysFinal "RoadOracle$Hierarchy" "RoadOracle$Hierarchy" "lower" "[J") ∈ WG := WG_in 170 (by decide +kernel) (by decide +kernel)
theorem w_172 : (Cond.laysFinal "RoadOracle$Hierarchy" "RoadOracle$Hierarchy" "heads" "[J") ∈ WG := WG_in 172 (by decide +kernel) (by decide +kernel)
theorem w_174 : (Cond.laysFinal "RoadOracle$Hierarchy" "RoadOracle$Hierarchy" "tails" "[J") ∈ WG := WG_in 174 (by decide +kernel) (by decide +kernel)
theorem w_176 : (Cond.laysFinal "RoadOracle$Hierarchy" "RoadOracle$Hierarchy" "lengths" "[I") ∈ WG := WG_in 176 (by decide +kernel) (by decide +kernel)
theorem w_178 : (Cond.laysFinal "RoadOracle$Hierarchy" "RoadOracle$Hierarchy" "steps" "[I") ∈ WG := WG_in 178 (by decide +kernel) (by decide +kernel)
theorem w_180 : (Cond.laysFinal "RoadOracle$Hierarchy" "RoadOracle$Hierarchy" "staleHeads" "[J") ∈ WG := WG_in 180 (by decide +kernel) (by decide +kernel)
theorem w_182 : (Cond.laysFinal "RoadOracle$Hierarchy" "RoadOracle$Hierarchy" "staleTails" "[J") ∈ WG := WG_in 182 (by decide +kernel) (by decide +kernel)
theorem w_185 : (Cond.classLink "RoadOracle" (25 : Nat) "RoadOracle$Levels") ∈ WG := WG_in 185 (by decide +kernel) (by decide +kernel)
theorem w_186 : (Cond.instantiable "RoadOracle$Levels" (6 : Nat)) ∈ WG := WG_in 186 (by decide +kernel) (by decide +kernel)
theorem w_187 : (Cond.methodLink "RoadOracle" (27 : Nat) yX1_init) ∈ WG := WG_in 187 (by decide +kernel) (by decide +kernel)
theorem w_188 : (Cond.instanceMethod yX1_init) ∈ WG := WG_in 188 (by decide +kernel) (by decide +kernel)
theorem w_189 : (Cond.code yX1_init prog_3_method_1_code (1 : Nat) (Option.none : Option FieldType)) ∈ WG := WG_in 189 (by decide +kernel) (by decide +kernel)
theorem w_190 : (Cond.methodLink "RoadOracle$Levels" (3 : Nat) ({ cls := "java/lang/Object", name := "<init>", desc := "()V" } : MethodName)) ∈ WG := WG_in 190 (by decide +kernel) (by decide +kernel)
theorem w_191 : (Cond.constant "RoadOracle$Levels" (18 : Nat) (32768 : Int32)) ∈ WG := WG_in 191 (by decide +kernel) (by decide +kernel)
theorem w_192 : (Cond.fieldLink "RoadOracle$Levels" (29 : Nat) "RoadOracle$Levels" "count" "I") ∈ WG := WG_in 192 (by decide +kernel) (by decide +kernel)
theorem w_193 : (Cond.fieldLink "RoadOracle" (235 : Nat) "RoadOracle$Levels" "count" "I") ∈ WG := WG_in 193 (by decide +kernel) (by decide +kernel)
theorem w_194 : (Cond.fieldLink "RoadOracle$Levels" (9 : Nat) "RoadOracle$Levels" "roads" "[I") ∈ WG := WG_in 194 (by decide +kernel) (by decide +kernel)
theorem w_195 : (Cond.fieldLink "RoadOracle$Levels" (15 : Nat) "RoadOracle$Levels" "weights" "[I") ∈ WG := WG_in 195 (by decide +kernel) (by decide +kernel)
theorem w_196 : (Cond.fieldLink "RoadOracle$Levels" (19 : Nat) "RoadOracle$Levels" "settings" "[I") ∈ WG := WG_in 196 (by decide +kernel) (by decide +kernel)
theorem w_197 : (Cond.fieldLink "RoadOracle$Levels" (22 : Nat) "RoadOracle$Levels" "openRoads" "[J") ∈ WG := WG_in 197 (by decide +kernel) (by decide +kernel)
theorem w_198 : (Cond.fieldLink "RoadOracle$Levels" (26 : Nat) "RoadOracle$Levels" "uTurns" "[I") ∈ WG := WG_in 198 (by decide +kernel) (by decide +kernel)
theorem w_199 : (Cond.lays "RoadOracle$Levels" "RoadOracle$Levels" "count" "I") ∈ WG := WG_in 199 (by decide +kernel) (by decide +kernel)
theorem w_201 : (Cond.laysFinal "RoadOracle$Levels" "RoadOracle$Levels" "roads" "[I") ∈ WG := WG_in 201 (by decide +kernel) (by decide +kernel)
theorem w_203 : (Cond.laysFinal "RoadOracle$Levels" "RoadOracle$Levels" "weights" "[I") ∈ WG := WG_in 203 (by decide +kernel) (by decide +kernel)
theorem w_205 : (Cond.laysFinal "RoadOracle$Levels" "RoadOracle$Levels" "settings" "[I") ∈ WG := WG_in 205 (by decide +kernel) (by decide +kernel)
theorem w_207 : (Cond.laysFinal "RoadOracle$Levels" "RoadOracle$Levels" "openRoads" "[J") ∈ WG := WG_in 207 (by decide +kernel) (by decide +kernel)
theorem w_209 : (Cond.laysFinal "RoadOracle$Levels" "RoadOracle$Levels" "uTurns" "[I") ∈ WG := WG_in 209 (by decide +kernel) (by decide +kernel)
theorem w_212 : (Cond.fieldLink "RoadOracle" (12 : Nat) "RoadOracle" "network" "LRoadOracle$Network;") ∈ WG := WG_in 212 (by decide +kernel) (by decide +kernel)
theorem w_213 : (Cond.fieldLink "RoadOracle" (21 : Nat) "RoadOracle" "hierarchy" "LRoadOracle$Hierarchy;") ∈ WG := WG_in 213 (by decide +kernel) (by decide +kernel)
theorem w_214 : (Cond.fieldLink "RoadOracle" (28 : Nat) "RoadOracle" "levels" "LRoadOracle$Levels;") ∈ WG := WG_in 214 (by decide +kernel) (by decide +kernel)
theorem w_215 : (Cond.fieldLink "RoadOracle" (32 : Nat) "RoadOracle" "places" "[Z") ∈ WG := WG_in 215 (by decide +kernel) (by decide +kernel)
theorem w_216 : (Cond.fieldLink "RoadOracle" (36 : Nat) "RoadOracle" "lengths" "[I") ∈ WG := WG_in 216 (by decide +kernel) (by decide +kernel)
theorem w_217 : (Cond.fieldLink "RoadOracle" (40 : Nat) "RoadOracle" "pathRoads" "[I") ∈ WG := WG_in 217 (by decide +kernel) (by decide +kernel)
theorem w_218 : (Cond.fieldLink "RoadOracle" (186 : Nat) "RoadOracle" "pathLength" "I") ∈ WG := WG_in 218 (by decide +kernel) (by decide +kernel)
theorem w_219 : (Cond.fieldLink "RoadOracle" (189 : Nat) "RoadOracle" "pathCost" "I") ∈ WG := WG_in 219 (by decide +kernel) (by decide +kernel)
theorem w_220 : (Cond.fieldLink "RoadOracle" (43 : Nat) "RoadOracle" "reachedJunctions" "[I") ∈ WG := WG_in 220 (by decide +kernel) (by decide +kernel)
theorem w_221 : (Cond.fieldLink "RoadOracle" (46 : Nat) "RoadOracle" "reachedCosts" "[I") ∈ WG := WG_in 221 (by decide +kernel) (by decide +kernel)
theorem w_222 : (Cond.fieldLink "RoadOracle" (216 : Nat) "RoadOracle" "reachedCount" "I") ∈ WG := WG_in 222 (by decide +kernel) (by decide +kernel)
theorem w_223 : (Cond.laysFinal "RoadOracle" "RoadOracle" "network" "LRoadOracle$Network;") ∈ WG := WG_in 223 (by decide +kernel) (by decide +kernel)
theorem w_225 : (Cond.laysFinal "RoadOracle" "RoadOracle" "hierarchy" "LRoadOracle$Hierarchy;") ∈ WG := WG_in 225 (by decide +kernel) (by decide +kernel)
theorem w_227 : (Cond.laysFinal "RoadOracle" "RoadOracle" "levels" "LRoadOracle$Levels;") ∈ WG := WG_in 227 (by decide +kernel) (by decide +kernel)
theorem w_229 : (Cond.laysFinal "RoadOracle" "RoadOracle" "places" "[Z") ∈ WG := WG_in 229 (by decide +kernel) (by decide +kernel)
theorem w_231 : (Cond.laysFinal "RoadOracle" "RoadOracle" "lengths" "[I") ∈ WG := WG_in 231 (by decide +kernel) (by decide +kernel)
theorem w_233 : (Cond.laysFinal "RoadOracle" "RoadOracle" "pathRoads" "[I") ∈ WG := WG_in 233 (by decide +kernel) (by decide +kernel)
theorem w_235 : (Cond.lays "RoadOracle" "RoadOracle" "pathLength" "I") ∈ WG := WG_in 235 (by decide +kernel) (by decide +kernel)
theorem w_237 : (Cond.lays "RoadOracle" "RoadOracle" "pathCost" "I") ∈ WG := WG_in 237 (by decide +kernel) (by decide +kernel)
theorem w_239 : (Cond.laysFinal "RoadOracle" "RoadOracle" "reachedJunctions" "[I") ∈ WG := WG_in 239 (by decide +kernel) (by decide +kernel)
theorem w_241 : (Cond.laysFinal "RoadOracle" "RoadOracle" "reachedCosts" "[I") ∈ WG := WG_in 241 (by decide +kernel) (by decide +kernel)
theorem w_243 : (Cond.lays "RoadOracle" "RoadOracle" "reachedCount" "I") ∈ WG := WG_in 243 (by decide +kernel) (by decide +kernel)
theorem w_246 : (Cond.arrayClass FieldType.boolean) ∈ WG := WG_in 246 (by decide +kernel) (by decide +kernel)
theorem w_247 : (Cond.methodLink "RoadOracleLaw" (133 : Nat) yX3_junctionCount) ∈ WG := WG_in 247 (by decide +kernel) (by decide +kernel)
theorem w_248 : (Cond.instanceMethod yX3_junctionCount) ∈ WG := WG_in 248 (by decide +kernel) (by decide +kernel)
theorem w_249 : (Cond.selects "RoadOracle" yX3_junctionCount yX3_junctionCount) ∈ WG := WG_in 249 (by decide +kernel) (by decide +kernel)
theorem w_250 : (Cond.code yX3_junctionCount prog_1_method_8_code (1 : Nat) (Option.some FieldType.int)) ∈ WG := WG_in 250 (by decide +kernel) (by decide +kernel)
theorem w_251 : (Cond.methodLink "RoadOracleLaw" (137 : Nat) yX3_roadCount) ∈ WG := WG_in 251 (by decide +kernel) (by decide +kernel)
theorem w_252 : (Cond.instanceMethod yX3_roadCount) ∈ WG := WG_in 252 (by decide +kernel) (by decide +kernel)
theorem w_253 : (Cond.selects "RoadOracle" yX3_roadCount yX3_roadCount) ∈ WG := WG_in 253 (by decide +kernel) (by decide +kernel)
theorem w_254 : (Cond.code yX3_roadCount prog_1_method_9_code (1 : Nat) (Option.some FieldType.int)) ∈ WG := WG_in 254 (by decide +kernel) (by decide +kernel)
theorem w_255 : (Cond.methodLink "RoadOracleLaw" (153 : Nat) yX3_isPrepared) ∈ WG := WG_in 255 (by decide +kernel) (by decide +kernel)
theorem w_256 : (Cond.instanceMethod yX3_isPrepared) ∈ WG := WG_in 256 (by decide +kernel) (by decide +kernel)
theorem w_257 : (Cond.selects "RoadOracle" yX3_isPrepared yX3_isPrepared) ∈ WG := WG_in 257 (by decide +kernel) (by decide +kernel)
theorem w_258 : (Cond.code yX3_isPrepared prog_1_method_14_code (1 : Nat) (Option.some FieldType.boolean)) ∈ WG := WG_in 258 (by decide +kernel) (by decide +kernel)
theorem w_259 : (Cond.methodLink "RoadOracleLaw" (161 : Nat) yX3_arcCount) ∈ WG := WG_in 259 (by decide +kernel) (by decide +kernel)
theorem w_260 : (Cond.instanceMethod yX3_arcCount) ∈ WG := WG_in 260 (by decide +kernel) (by decide +kernel)
theorem w_261 : (Cond.selects "RoadOracle" yX3_arcCount yX3_arcCount) ∈ WG := WG_in 261 (by decide +kernel) (by decide +kernel)
theorem w_262 : (Cond.code yX3_arcCount prog_1_method_16_code (1 : Nat) (Option.some FieldType.int)) ∈ WG := WG_in 262 (by decide +kernel) (by decide +kernel)
theorem w_263 : (Cond.methodLink "RoadOracleLaw" (183 : Nat) yX3_routeCost) ∈ WG := WG_in 263 (by decide +kernel) (by decide +kernel)
theorem w_264 : (Cond.instanceMethod yX3_routeCost) ∈ WG := WG_in 264 (by decide +kernel) (by decide +kernel)
theorem w_265 : (Cond.selects "RoadOracle" yX3_routeCost yX3_routeCost) ∈ WG := WG_in 265 (by decide +kernel) (by decide +kernel)
theorem w_266 : (Cond.code yX3_routeCost prog_1_method_23_code (1 : Nat) (Option.some FieldType.int)) ∈ WG := WG_in 266 (by decide +kernel) (by decide +kernel)
theorem w_267 : (Cond.methodLink "RoadOracleLaw" (213 : Nat) yX3_digest) ∈ WG := WG_in 267 (by decide +kernel) (by decide +kernel)
theorem w_268 : (Cond.instanceMethod yX3_digest) ∈ WG := WG_in 268 (by decide +kernel) (by decide +kernel)
theorem w_269 : (Cond.selects "RoadOracle" yX3_digest yX3_digest) ∈ WG := WG_in 269 (by decide +kernel) (by decide +kernel)
theorem w_270 : (Cond.code yX3_digest prog_1_method_32_code (4 : Nat) (Option.some FieldType.long)) ∈ WG := WG_in 270 (by decide +kernel) (by decide +kernel)
theorem w_271 : (Cond.constantLong "RoadOracle" (248 : Nat) (23 : Int64)) ∈ WG := WG_in 271 (by decide +kernel) (by decide +kernel)
theorem w_272 : (Cond.constantLong "RoadOracle" (250 : Nat) (31 : Int64)) ∈ WG := WG_in 272 (by decide +kernel) (by decide +kernel)
theorem w_273 : (Cond.methodLink "RoadOracle" (128 : Nat) yX3_has) ∈ WG := WG_in 273 (by decide +kernel) (by decide +kernel)
theorem w_274 : (Cond.static yX3_has) ∈ WG := WG_in 274 (by decide +kernel) (by decide +kernel)
theorem w_275 : (Cond.code yX3_has prog_1_method_53_code (3 : Nat) (Option.some FieldType.boolean)) ∈ WG := WG_in 275 (by decide +kernel) (by decide +kernel)
theorem w_276 : (Cond.methodLink "RoadOracle" (252 : Nat) yX0_addArcs) ∈ WG := WG_in 276 (by decide +kernel) (by decide +kernel)
theorem w_277 : (Cond.instanceMethod yX0_addArcs) ∈ WG := WG_in 277 (by decide +kernel) (by decide +kernel)
theorem w_278 : (Cond.selects "RoadOracle$Hierarchy" yX0_addArcs yX0_addArcs) ∈ WG := WG_in 278 (by decide +kernel) (by decide +kernel)
theorem w_279 : (Cond.code yX0_addArcs prog_2_method_20_code (9 : Nat) (Option.some FieldType.long)) ∈ WG := WG_in 279 (by decide +kernel) (by decide +kernel)
theorem w_281 : (Cond.static yX3_next) ∈ WG := WG_in 281 (by decide +kernel) (by decide +kernel)
theorem w_282 : (Cond.code yX3_next prog_1_method_54_code (3 : Nat) (Option.some FieldType.int)) ∈ WG := WG_in 282 (by decide +kernel) (by decide +kernel)
theorem w_283 : (Cond.constantLong "RoadOracle" (278 : Nat) (-1 : Int64)) ∈ WG := WG_in 283 (by decide +kernel) (by decide +kernel)
theorem w_284 : (Cond.methodLink "RoadOracle" (304 : Nat) yJ13_numberOfTrailingZeros_95d88) ∈ WG := WG_in 284 (by decide +kernel) (by decide +kernel)
theorem w_285 : (Cond.static yJ13_numberOfTrailingZeros_95d88) ∈ WG := WG_in 285 (by decide +kernel) (by decide +kernel)
theorem w_286 : (Cond.code yJ13_numberOfTrailingZeros_95d88 prog_14_method_49_code (3 : Nat) (Option.some FieldType.int)) ∈ WG := WG_in 286 (by decide +kernel) (by decide +kernel)
theorem w_287 : (Cond.methodLink "java/lang/Long" (311 : Nat) yJ6_numberOfTrailingZeros_0f7a4) ∈ WG := WG_in 287 (by decide +kernel) (by decide +kernel)
theorem w_288 : (Cond.static yJ6_numberOfTrailingZeros_0f7a4) ∈ WG := WG_in 288 (by decide +kernel) (by decide +kernel)
theorem w_289 : (Cond.code yJ6_numberOfTrailingZeros_0f7a4 prog_13_method_48_code (2 : Nat) (Option.some FieldType.int)) ∈ WG := WG_in 289 (by decide +kernel) (by decide +kernel)
theorem w_290 : (Cond.constant "java/lang/Integer" (264 : Nat) (65536 : Int32)) ∈ WG := WG_in 290 (by decide +kernel) (by decide +kernel)
theorem w_291 : (Cond.constantLong "RoadOracle$Hierarchy" (159 : Nat) (31 : Int64)) ∈ WG := WG_in 291 (by decide +kernel) (by decide +kernel)
theorem w_293 : (Cond.static yX3_pair) ∈ WG := WG_in 293 (by decide +kernel) (by decide +kernel)
theorem w_294 : (Cond.code yX3_pair prog_1_method_50_code (2 : Nat) (Option.some FieldType.int)) ∈ WG := WG_in 294 (by decide +kernel) (by decide +kernel)
theorem w_296 : (Cond.static yX3_costOf) ∈ WG := WG_in 296 (by decide +kernel) (by decide +kernel)
theorem w_297 : (Cond.code yX3_costOf prog_1_method_49_code (1 : Nat) (Option.some FieldType.int)) ∈ WG := WG_in 297 (by decide +kernel) (by decide +kernel)
theorem w_298 : (Cond.constant "RoadOracle" (168 : Nat) (536870912 : Int32)) ∈ WG := WG_in 298 (by decide +kernel) (by decide +kernel)
theorem w_299 : (Cond.methodLink "RoadOracleLaw" (105 : Nat) yL_addJunction) ∈ WG := WG_in 299 (by decide +kernel) (by decide +kernel)
theorem w_300 : (Cond.static yL_addJunction) ∈ WG := WG_in 300 (by decide +kernel) (by decide +kernel)
theorem w_301 : (Cond.codeWith yL_addJunction method_3_code (3 : Nat) (Option.some FieldType.int) [((0 : Nat), (8 : Nat), (11 : Nat), (13 : Nat))]) ∈ WG := WG_in 301 (by decide +kernel) (by decide +kernel)
theorem w_302 : (Cond.classLink "RoadOracleLaw" (13 : Nat) "java/lang/IllegalStateException") ∈ WG := WG_in 302 (by decide +kernel) (by decide +kernel)
theorem w_303 : (Cond.methodLink "RoadOracleLaw" (7 : Nat) yX3_addJunction) ∈ WG := WG_in 303 (by decide +kernel) (by decide +kernel)
theorem w_304 : (Cond.instanceMethod yX3_addJunction) ∈ WG := WG_in 304 (by decide +kernel) (by decide +kernel)
theorem w_305 : (Cond.selects "RoadOracle" yX3_addJunction yX3_addJunction) ∈ WG := WG_in 305 (by decide +kernel) (by decide +kernel)
theorem w_306 : (Cond.code yX3_addJunction prog_1_method_2_code (1 : Nat) (Option.some FieldType.int)) ∈ WG := WG_in 306 (by decide +kernel) (by decide +kernel)
theorem w_307 : (Cond.classLink "RoadOracle" (53 : Nat) "java/lang/IllegalStateException") ∈ WG := WG_in 307 (by decide +kernel) (by decide +kernel)
theorem w_308 : (Cond.instantiable "java/lang/IllegalStateException" (6 : Nat)) ∈ WG := WG_in 308 (by decide +kernel) (by decide +kernel)
theorem w_316 : (Cond.selects "java/lang/IllegalStateException" ({ cls := "java/lang/Throwable", name := "fillInStackTrace", desc := "(I)Ljava/lang/Throwable;" } : MethodName) ({ cls := "java/lang/Throwable", name := "fillInStackTrace", desc := "(I)Ljava/lang/Throwable;" } : MethodName)) ∈ WG := WG_in 316 (by decide +kernel) (by decide +kernel)
theorem w_317 : (Cond.selects "java/lang/IllegalStateException" ({ cls := "java/lang/Throwable", name := "fillInStackTrace", desc := "()Ljava/lang/Throwable;" } : MethodName) ({ cls := "java/lang/Throwable", name := "fillInStackTrace", desc := "()Ljava/lang/Throwable;" } : MethodName)) ∈ WG := WG_in 317 (by decide +kernel) (by decide +kernel)
theorem w_318 : (Cond.lays "java/lang/IllegalStateException" "java/lang/Throwable" "cause" "Ljava/lang/Throwable;") ∈ WG := WG_in 318 (by decide +kernel) (by decide +kernel)
theorem w_319 : (Cond.lays "java/lang/Throwable" "java/lang/Throwable" "cause" "Ljava/lang/Throwable;") ∈ WG := WG_in 319 (by decide +kernel) (by decide +kernel)
theorem w_320 : (Cond.lays "java/lang/IllegalStateException" "java/lang/Throwable" "stackTrace" "[Ljava/lang/StackTraceElement;") ∈ WG := WG_in 320 (by decide +kernel) (by decide +kernel)
theorem w_321 : (Cond.lays "java/lang/Throwable" "java/lang/Throwable" "stackTrace" "[Ljava/lang/StackTraceElement;") ∈ WG := WG_in 321 (by decide +kernel) (by decide +kernel)
theorem w_322 : (Cond.lays "java/lang/IllegalStateException" "java/lang/Throwable" "suppressedExceptions" "Ljava/util/List;") ∈ WG := WG_in 322 (by decide +kernel) (by decide +kernel)
theorem w_323 : (Cond.lays "java/lang/Throwable" "java/lang/Throwable" "suppressedExceptions" "Ljava/util/List;") ∈ WG := WG_in 323 (by decide +kernel) (by decide +kernel)
theorem w_324 : (Cond.lays "java/lang/IllegalStateException" "java/lang/Throwable" "detailMessage" "Ljava/lang/String;") ∈ WG := WG_in 324 (by decide +kernel) (by decide +kernel)
theorem w_325 : (Cond.lays "java/lang/Throwable" "java/lang/Throwable" "detailMessage" "Ljava/lang/String;") ∈ WG := WG_in 325 (by decide +kernel) (by decide +kernel)
theorem w_326 : (Cond.lays "java/lang/IllegalStateException" "java/lang/Throwable" "backtrace" "Ljava/lang/Object;") ∈ WG := WG_in 326 (by decide +kernel) (by decide +kernel)
theorem w_327 : (Cond.lays "java/lang/Throwable" "java/lang/Throwable" "backtrace" "Ljava/lang/Object;") ∈ WG := WG_in 327 (by decide +kernel) (by decide +kernel)
theorem w_328 : (Cond.fieldLink "java/lang/Throwable" (198 : Nat) "java/lang/Throwable" "backtrace" "Ljava/lang/Object;") ∈ WG := WG_in 328 (by decide +kernel) (by decide +kernel)
theorem w_330 : (Cond.instanceMethod ({ cls := "java/lang/Throwable", name := "<init>", desc := "()V" } : MethodName)) ∈ WG := WG_in 330 (by decide +kernel) (by decide +kernel)
theorem w_331 : (Cond.code ({ cls := "java/lang/Throwable", name := "<init>", desc := "()V" } : MethodName) prog_20_method_1_code (1 : Nat) (Option.none : Option FieldType)) ∈ WG := WG_in 331 (by decide +kernel) (by decide +kernel)
theorem w_332 : (Cond.methodLink "java/lang/Throwable" (1 : Nat) ({ cls := "java/lang/Object", name := "<init>", desc := "()V" } : MethodName)) ∈ WG := WG_in 332 (by decide +kernel) (by decide +kernel)
theorem w_333 : (Cond.fieldLink "java/lang/Throwable" (13 : Nat) "java/lang/Throwable" "UNASSIGNED_STACK" "[Ljava/lang/StackTraceElement;") ∈ WG := WG_in 333 (by decide +kernel) (by decide +kernel)
theorem w_335 : (Cond.fieldLink "java/lang/Throwable" (20 : Nat) "java/lang/Throwable" "SUPPRESSED_SENTINEL" "Ljava/util/List;") ∈ WG := WG_in 335 (by decide +kernel) (by decide +kernel)
theorem w_337 : (Cond.methodLink "java/lang/Throwable" (27 : Nat) ({ cls := "java/lang/Throwable", name := "fillInStackTrace", desc := "()Ljava/lang/Throwable;" } : MethodName)) ∈ WG := WG_in 337 (by decide +kernel) (by decide +kernel)
theorem w_338 : (Cond.instanceMethod ({ cls := "java/lang/Throwable", name := "fillInStackTrace", desc := "()Ljava/lang/Throwable;" } : MethodName)) ∈ WG := WG_in 338 (by decide +kernel) (by decide +kernel)
theorem w_339 : (Cond.sameMethod "java/lang/Throwable" "java/lang/Throwable" "fillInStackTrace" "()Ljava/lang/Throwable;") ∈ WG := WG_in 339 (by decide +kernel) (by decide +kernel)
theorem w_340 : (Cond.selects "java/lang/IllegalArgumentException" ({ cls := "java/lang/Throwable", name := "fillInStackTrace", desc := "()Ljava/lang/Throwable;" } : MethodName) ({ cls := "java/lang/Throwable", name := "fillInStackTrace", desc := "()Ljava/lang/Throwable;" } : MethodName)) ∈ WG := WG_in 340 (by decide +kernel) (by decide +kernel)
theorem w_341 : (Cond.selects "java/lang/IndexOutOfBoundsException" ({ cls := "java/lang/Throwable", name := "fillInStackTrace", desc := "()Ljava/lang/Throwable;" } : MethodName) ({ cls := "java/lang/Throwable", name := "fillInStackTrace", desc := "()Ljava/lang/Throwable;" } : MethodName)) ∈ WG := WG_in 341 (by decide +kernel) (by decide +kernel)
theorem w_342 : (Cond.selects "java/util/NoSuchElementException" ({ cls := "java/lang/Throwable", name := "fillInStackTrace", desc := "()Ljava/lang/Throwable;" } : MethodName) ({ cls := "java/lang/Throwable", name := "fillInStackTrace", desc := "()Ljava/lang/Throwable;" } : MethodName)) ∈ WG := WG_in 342 (by decide +kernel) (by decide +kernel)
theorem w_343 : (Cond.codeSync ({ cls := "java/lang/Throwable", name := "fillInStackTrace", desc := "()Ljava/lang/Throwable;" } : MethodName) prog_20_method_18_code (1 : Nat) (Option.some (FieldType.object "java/lang/Throwable"))) ∈ WG := WG_in 343 (by decide +kernel) (by decide +kernel)
theorem w_344 : (Cond.methodLink "java/lang/Throwable" (202 : Nat) ({ cls := "java/lang/Throwable", name := "fillInStackTrace", desc := "(I)Ljava/lang/Throwable;" } : MethodName)) ∈ WG := WG_in 344 (by decide +kernel) (by decide +kernel)
theorem w_346 : (Cond.instanceMethod ({ cls := "java/lang/Throwable", name := "fillInStackTrace", desc := "(I)Ljava/lang/Throwable;" } : MethodName)) ∈ WG := WG_in 346 (by decide +kernel) (by decide +kernel)
theorem w_347 : (Cond.instantiable "java/lang/Throwable" (6 : Nat)) ∈ WG := WG_in 347 (by decide +kernel) (by decide +kernel)
theorem w_348 : (Cond.native ({ cls := "java/lang/Throwable", name := "fillInStackTrace", desc := "(I)Ljava/lang/Throwable;" } : MethodName)) ∈ WG := WG_in 348 (by decide +kernel) (by decide +kernel)
theorem w_350 : (Cond.methodLink "RoadOracle" (57 : Nat) ({ cls := "java/lang/IllegalStateException", name := "<init>", desc := "(Ljava/lang/String;)V" } : MethodName)) ∈ WG := WG_in 350 (by decide +kernel) (by decide +kernel)
theorem w_351 : (Cond.instanceMethod ({ cls := "java/lang/IllegalStateException", name := "<init>", desc := "(Ljava/lang/String;)V" } : MethodName)) ∈ WG := WG_in 351 (by decide +kernel) (by decide +kernel)
theorem w_352 : (Cond.code ({ cls := "java/lang/IllegalStateException", name := "<init>", desc := "(Ljava/lang/String;)V" } : MethodName) prog_11_method_2_code (2 : Nat) (Option.none : Option FieldType)) ∈ WG := WG_in 352 (by decide +kernel) (by decide +kernel)
theorem w_353 : (Cond.methodLink "java/lang/IllegalStateException" (7 : Nat) ({ cls := "java/lang/RuntimeException", name := "<init>", desc := "(Ljava/lang/String;)V" } : MethodName)) ∈ WG := WG_in 353 (by decide +kernel) (by decide +kernel)
theorem w_354 : (Cond.instanceMethod ({ cls := "java/lang/RuntimeException", name := "<init>", desc := "(Ljava/lang/String;)V" } : MethodName)) ∈ WG := WG_in 354 (by decide +kernel) (by decide +kernel)
theorem w_355 : (Cond.code ({ cls := "java/lang/RuntimeException", name := "<init>", desc := "(Ljava/lang/String;)V" } : MethodName) prog_17_method_2_code (2 : Nat) (Option.none : Option FieldType)) ∈ WG := WG_in 355 (by decide +kernel) (by decide +kernel)
theorem w_356 : (Cond.methodLink "java/lang/RuntimeException" (7 : Nat) ({ cls := "java/lang/Exception", name := "<init>", desc := "(Ljava/lang/String;)V" } : MethodName)) ∈ WG := WG_in 356 (by decide +kernel) (by decide +kernel)
theorem w_357 : (Cond.instanceMethod ({ cls := "java/lang/Exception", name := "<init>", desc := "(Ljava/lang/String;)V" } : MethodName)) ∈ WG := WG_in 357 (by decide +kernel) (by decide +kernel)
theorem w_358 : (Cond.code ({ cls := "java/lang/Exception", name := "<init>", desc := "(Ljava/lang/String;)V" } : MethodName) prog_9_method_2_code (2 : Nat) (Option.none : Option FieldType)) ∈ WG := WG_in 358 (by decide +kernel) (by decide +kernel)
theorem w_359 : (Cond.methodLink "java/lang/Exception" (7 : Nat) ({ cls := "java/lang/Throwable", name := "<init>", desc := "(Ljava/lang/String;)V" } : MethodName)) ∈ WG := WG_in 359 (by decide +kernel) (by decide +kernel)
theorem w_360 : (Cond.instanceMethod ({ cls := "java/lang/Throwable", name := "<init>", desc := "(Ljava/lang/String;)V" } : MethodName)) ∈ WG := WG_in 360 (by decide +kernel) (by decide +kernel)
theorem w_361 : (Cond.code ({ cls := "java/lang/Throwable", name := "<init>", desc := "(Ljava/lang/String;)V" } : MethodName) prog_20_method_2_code (2 : Nat) (Option.none : Option FieldType)) ∈ WG := WG_in 361 (by decide +kernel) (by decide +kernel)
theorem w_362 : (Cond.fieldLink "java/lang/Throwable" (198 : Nat) "java/lang/Throwable" "backtrace" "Ljava/lang/Object;") ∈ WG := WG_in 362 (by decide +kernel) (by decide +kernel)
theorem w_363 : (Cond.fieldLink "java/lang/Throwable" (31 : Nat) "java/lang/Throwable" "detailMessage" "Ljava/lang/String;") ∈ WG := WG_in 363 (by decide +kernel) (by decide +kernel)
theorem w_364 : (Cond.fieldLink "java/lang/Throwable" (7 : Nat) "java/lang/Throwable" "cause" "Ljava/lang/Throwable;") ∈ WG := WG_in 364 (by decide +kernel) (by decide +kernel)
theorem w_365 : (Cond.fieldLink "java/lang/Throwable" (17 : Nat) "java/lang/Throwable" "stackTrace" "[Ljava/lang/StackTraceElement;") ∈ WG := WG_in 365 (by decide +kernel) (by decide +kernel)
theorem w_366 : (Cond.fieldLink "java/lang/Throwable" (24 : Nat) "java/lang/Throwable" "suppressedExceptions" "Ljava/util/List;") ∈ WG := WG_in 366 (by decide +kernel) (by decide +kernel)
theorem w_371 : (Cond.lays "java/lang/IllegalStateException" "java/lang/Throwable" "depth" "I") ∈ WG := WG_in 371 (by decide +kernel) (by decide +kernel)
theorem w_375 : (Cond.arrayClass FieldType.byte) ∈ WG := WG_in 375 (by decide +kernel) (by decide +kernel)
theorem w_376 : (Cond.methodLink "RoadOracleLaw" (114 : Nat) yL_addRoad) ∈ WG := WG_in 376 (by decide +kernel) (by decide +kernel)
theorem w_377 : (Cond.static yL_addRoad) ∈ WG := WG_in 377 (by decide +kernel) (by decide +kernel)
theorem w_378 : (Cond.codeWith yL_addRoad method_4_code (6 : Nat) (Option.some FieldType.int) [((0 : Nat), (12 : Nat), (15 : Nat), (19 : Nat)), ((0 : Nat), (12 : Nat), (19 : Nat), (21 : Nat)), ((0 : Nat), (12 : Nat), (23 : Nat), (13 : Nat))]) ∈ WG := WG_in 378 (by decide +kernel) (by decide +kernel)
theorem w_379 : (Cond.classLink "RoadOracleLaw" (19 : Nat) "java/lang/IndexOutOfBoundsException") ∈ WG := WG_in 379 (by decide +kernel) (by decide +kernel)
theorem w_380 : (Cond.classLink "RoadOracleLaw" (21 : Nat) "java/lang/IllegalArgumentException") ∈ WG := WG_in 380 (by decide +kernel) (by decide +kernel)
theorem w_381 : (Cond.methodLink "RoadOracleLaw" (15 : Nat) yX3_addRoad) ∈ WG := WG_in 381 (by decide +kernel) (by decide +kernel)
theorem w_382 : (Cond.instanceMethod yX3_addRoad) ∈ WG := WG_in 382 (by decide +kernel) (by decide +kernel)
theorem w_383 : (Cond.selects "RoadOracle" yX3_addRoad yX3_addRoad) ∈ WG := WG_in 383 (by decide +kernel) (by decide +kernel)
theorem w_384 : (Cond.code yX3_addRoad prog_1_method_3_code (4 : Nat) (Option.some FieldType.int)) ∈ WG := WG_in 384 (by decide +kernel) (by decide +kernel)
theorem w_385 : (Cond.methodLink "RoadOracle" (60 : Nat) yX3_requireJunction) ∈ WG := WG_in 385 (by decide +kernel) (by decide +kernel)
theorem w_387 : (Cond.instanceMethod yX3_requireJunction) ∈ WG := WG_in 387 (by decide +kernel) (by decide +kernel)
theorem w_388 : (Cond.code yX3_requireJunction prog_1_method_33_code (2 : Nat) (Option.none : Option FieldType)) ∈ WG := WG_in 388 (by decide +kernel) (by decide +kernel)
theorem w_389 : (Cond.classLink "RoadOracle" (206 : Nat) "java/lang/IndexOutOfBoundsException") ∈ WG := WG_in 389 (by decide +kernel) (by decide +kernel)
theorem w_390 : (Cond.instantiable "java/lang/IndexOutOfBoundsException" (6 : Nat)) ∈ WG := WG_in 390 (by decide +kernel) (by decide +kernel)
theorem w_392 : (Cond.selects "java/lang/IndexOutOfBoundsException" ({ cls := "java/lang/Throwable", name := "fillInStackTrace", desc := "(I)Ljava/lang/Throwable;" } : MethodName) ({ cls := "java/lang/Throwable", name := "fillInStackTrace", desc := "(I)Ljava/lang/Throwable;" } : MethodName)) ∈ WG := WG_in 392 (by decide +kernel) (by decide +kernel)
theorem w_393 : (Cond.lays "java/lang/IndexOutOfBoundsException" "java/lang/Throwable" "cause" "Ljava/lang/Throwable;") ∈ WG := WG_in 393 (by decide +kernel) (by decide +kernel)
theorem w_394 : (Cond.lays "java/lang/IndexOutOfBoundsException" "java/lang/Throwable" "stackTrace" "[Ljava/lang/StackTraceElement;") ∈ WG := WG_in 394 (by decide +kernel) (by decide +kernel)
theorem w_395 : (Cond.lays "java/lang/IndexOutOfBoundsException" "java/lang/Throwable" "suppressedExceptions" "Ljava/util/List;") ∈ WG := WG_in 395 (by decide +kernel) (by decide +kernel)
theorem w_396 : (Cond.lays "java/lang/IndexOutOfBoundsException" "java/lang/Throwable" "detailMessage" "Ljava/lang/String;") ∈ WG := WG_in 396 (by decide +kernel) (by decide +kernel)
theorem w_397 : (Cond.lays "java/lang/IndexOutOfBoundsException" "java/lang/Throwable" "backtrace" "Ljava/lang/Object;") ∈ WG := WG_in 397 (by decide +kernel) (by decide +kernel)
theorem w_399 : (Cond.methodLink "RoadOracle" (210 : Nat) ({ cls := "java/lang/IndexOutOfBoundsException", name := "<init>", desc := "(Ljava/lang/String;)V" } : MethodName)) ∈ WG := WG_in 399 (by decide +kernel) (by decide +kernel)
theorem w_400 : (Cond.instanceMethod ({ cls := "java/lang/IndexOutOfBoundsException", name := "<init>", desc := "(Ljava/lang/String;)V" } : MethodName)) ∈ WG := WG_in 400 (by decide +kernel) (by decide +kernel)
theorem w_401 : (Cond.code ({ cls := "java/lang/IndexOutOfBoundsException", name := "<init>", desc := "(Ljava/lang/String;)V" } : MethodName) prog_12_method_2_code (2 : Nat) (Option.none : Option FieldType)) ∈ WG := WG_in 401 (by decide +kernel) (by decide +kernel)
theorem w_402 : (Cond.methodLink "java/lang/IndexOutOfBoundsException" (7 : Nat) ({ cls := "java/lang/RuntimeException", name := "<init>", desc := "(Ljava/lang/String;)V" } : MethodName)) ∈ WG := WG_in 402 (by decide +kernel) (by decide +kernel)
theorem w_403 : (Cond.lays "java/lang/IndexOutOfBoundsException" "java/lang/Throwable" "depth" "I") ∈ WG := WG_in 403 (by decide +kernel) (by decide +kernel)
theorem w_405 : (Cond.classLink "RoadOracle" (64 : Nat) "java/lang/IllegalArgumentException") ∈ WG := WG_in 405 (by decide +kernel) (by decide +kernel)
theorem w_406 : (Cond.instantiable "java/lang/IllegalArgumentException" (6 : Nat)) ∈ WG := WG_in 406 (by decide +kernel) (by decide +kernel)
theorem w_408 : (Cond.selects "java/lang/IllegalArgumentException" ({ cls := "java/lang/Throwable", name := "fillInStackTrace", desc := "(I)Ljava/lang/Throwable;" } : MethodName) ({ cls := "java/lang/Throwable", name := "fillInStackTrace", desc := "(I)Ljava/lang/Throwable;" } : MethodName)) ∈ WG := WG_in 408 (by decide +kernel) (by decide +kernel)
theorem w_409 : (Cond.lays "java/lang/IllegalArgumentException" "java/lang/Throwable" "cause" "Ljava/lang/Throwable;") ∈ WG := WG_in 409 (by decide +kernel) (by decide +kernel)
theorem w_410 : (Cond.lays "java/lang/IllegalArgumentException" "java/lang/Throwable" "stackTrace" "[Ljava/lang/StackTraceElement;") ∈ WG := WG_in 410 (by decide +kernel) (by decide +kernel)
theorem w_411 : (Cond.lays "java/lang/IllegalArgumentException" "java/lang/Throwable" "suppressedExceptions" "Ljava/util/List;") ∈ WG := WG_in 411 (by decide +kernel) (by decide +kernel)
theorem w_412 : (Cond.lays "java/lang/IllegalArgumentException" "java/lang/Throwable" "detailMessage" "Ljava/lang/String;") ∈ WG := WG_in 412 (by decide +kernel) (by decide +kernel)
theorem w_413 : (Cond.lays "java/lang/IllegalArgumentException" "java/lang/Throwable" "backtrace" "Ljava/lang/Object;") ∈ WG := WG_in 413 (by decide +kernel) (by decide +kernel)
theorem w_415 : (Cond.methodLink "RoadOracle" (68 : Nat) ({ cls := "java/lang/IllegalArgumentException", name := "<init>", desc := "(Ljava/lang/String;)V" } : MethodName)) ∈ WG := WG_in 415 (by decide +kernel) (by decide +kernel)
theorem w_416 : (Cond.instanceMethod ({ cls := "java/lang/IllegalArgumentException", name := "<init>", desc := "(Ljava/lang/String;)V" } : MethodName)) ∈ WG := WG_in 416 (by decide +kernel) (by decide +kernel)
theorem w_417 : (Cond.code ({ cls := "java/lang/IllegalArgumentException", name := "<init>", desc := "(Ljava/lang/String;)V" } : MethodName) prog_10_method_2_code (2 : Nat) (Option.none : Option FieldType)) ∈ WG := WG_in 417 (by decide +kernel) (by decide +kernel)
theorem w_418 : (Cond.methodLink "java/lang/IllegalArgumentException" (7 : Nat) ({ cls := "java/lang/RuntimeException", name := "<init>", desc := "(Ljava/lang/String;)V" } : MethodName)) ∈ WG := WG_in 418 (by decide +kernel) (by decide +kernel)
theorem w_419 : (Cond.lays "java/lang/IllegalArgumentException" "java/lang/Throwable" "depth" "I") ∈ WG := WG_in 419 (by decide +kernel) (by decide +kernel)
theorem w_421 : (Cond.methodLink "RoadOracle" (69 : Nat) yX3_requireWeight) ∈ WG := WG_in 421 (by decide +kernel) (by decide +kernel)
theorem w_423 : (Cond.instanceMethod yX3_requireWeight) ∈ WG := WG_in 423 (by decide +kernel) (by decide +kernel)
theorem w_424 : (Cond.code yX3_requireWeight prog_1_method_37_code (2 : Nat) (Option.none : Option FieldType)) ∈ WG := WG_in 424 (by decide +kernel) (by decide +kernel)
theorem w_427 : (Cond.methodLink "RoadOracle" (81 : Nat) yX2_append) ∈ WG := WG_in 427 (by decide +kernel) (by decide +kernel)
theorem w_428 : (Cond.instanceMethod yX2_append) ∈ WG := WG_in 428 (by decide +kernel) (by decide +kernel)
theorem w_429 : (Cond.selects "RoadOracle$Network" yX2_append yX2_append) ∈ WG := WG_in 429 (by decide +kernel) (by decide +kernel)
theorem w_430 : (Cond.code yX2_append prog_4_method_2_code (5 : Nat) (Option.some FieldType.int)) ∈ WG := WG_in 430 (by decide +kernel) (by decide +kernel)
theorem w_432 : (Cond.static yX3_only) ∈ WG := WG_in 432 (by decide +kernel) (by decide +kernel)
theorem w_433 : (Cond.code yX3_only prog_1_method_52_code (1 : Nat) (Option.some FieldType.long)) ∈ WG := WG_in 433 (by decide +kernel) (by decide +kernel)
theorem w_434 : (Cond.methodLink "RoadOracleLaw" (118 : Nat) yL_setWeight) ∈ WG := WG_in 434 (by decide +kernel) (by decide +kernel)
theorem w_435 : (Cond.static yL_setWeight) ∈ WG := WG_in 435 (by decide +kernel) (by decide +kernel)
theorem w_436 : (Cond.codeWith yL_setWeight method_5_code (5 : Nat) (Option.some FieldType.int) [((0 : Nat), (10 : Nat), (13 : Nat), (19 : Nat)), ((0 : Nat), (10 : Nat), (17 : Nat), (21 : Nat))]) ∈ WG := WG_in 436 (by decide +kernel) (by decide +kernel)
theorem w_437 : (Cond.methodLink "RoadOracleLaw" (23 : Nat) yX3_setWeight) ∈ WG := WG_in 437 (by decide +kernel) (by decide +kernel)
theorem w_438 : (Cond.instanceMethod yX3_setWeight) ∈ WG := WG_in 438 (by decide +kernel) (by decide +kernel)
theorem w_439 : (Cond.selects "RoadOracle" yX3_setWeight yX3_setWeight) ∈ WG := WG_in 439 (by decide +kernel) (by decide +kernel)
theorem w_440 : (Cond.code yX3_setWeight prog_1_method_4_code (3 : Nat) (Option.some FieldType.int)) ∈ WG := WG_in 440 (by decide +kernel) (by decide +kernel)
theorem w_441 : (Cond.methodLink "RoadOracle" (85 : Nat) yX3_requireRoad) ∈ WG := WG_in 441 (by decide +kernel) (by decide +kernel)
theorem w_443 : (Cond.instanceMethod yX3_requireRoad) ∈ WG := WG_in 443 (by decide +kernel) (by decide +kernel)
theorem w_444 : (Cond.code yX3_requireRoad prog_1_method_34_code (2 : Nat) (Option.none : Option FieldType)) ∈ WG := WG_in 444 (by decide +kernel) (by decide +kernel)
theorem w_446 : (Cond.methodLink "RoadOracle" (91 : Nat) yX0_renewRoad) ∈ WG := WG_in 446 (by decide +kernel) (by decide +kernel)
theorem w_447 : (Cond.instanceMethod yX0_renewRoad) ∈ WG := WG_in 447 (by decide +kernel) (by decide +kernel)
theorem w_448 : (Cond.selects "RoadOracle$Hierarchy" yX0_renewRoad yX0_renewRoad) ∈ WG := WG_in 448 (by decide +kernel) (by decide +kernel)
theorem w_449 : (Cond.code yX0_renewRoad prog_2_method_6_code (2 : Nat) (Option.some FieldType.int)) ∈ WG := WG_in 449 (by decide +kernel) (by decide +kernel)
theorem w_450 : (Cond.methodLink "RoadOracle$Hierarchy" (101 : Nat) yX2_forerunnersOf) ∈ WG := WG_in 450 (by decide +kernel) (by decide +kernel)
theorem w_451 : (Cond.instanceMethod yX2_forerunnersOf) ∈ WG := WG_in 451 (by decide +kernel) (by decide +kernel)
theorem w_452 : (Cond.selects "RoadOracle$Network" yX2_forerunnersOf yX2_forerunnersOf) ∈ WG := WG_in 452 (by decide +kernel) (by decide +kernel)
theorem w_453 : (Cond.code yX2_forerunnersOf prog_4_method_5_code (2 : Nat) (Option.some FieldType.long)) ∈ WG := WG_in 453 (by decide +kernel) (by decide +kernel)
theorem w_455 : (Cond.methodLink "RoadOracle$Hierarchy" (108 : Nat) yX0_renewSteps) ∈ WG := WG_in 455 (by decide +kernel) (by decide +kernel)
theorem w_457 : (Cond.instanceMethod yX0_renewSteps) ∈ WG := WG_in 457 (by decide +kernel) (by decide +kernel)
theorem w_458 : (Cond.code yX0_renewSteps prog_2_method_9_code (10 : Nat) (Option.none : Option FieldType)) ∈ WG := WG_in 458 (by decide +kernel) (by decide +kernel)
theorem w_459 : (Cond.methodLink "RoadOracle$Hierarchy" (98 : Nat) yX2_followersOf) ∈ WG := WG_in 459 (by decide +kernel) (by decide +kernel)
theorem w_460 : (Cond.instanceMethod yX2_followersOf) ∈ WG := WG_in 460 (by decide +kernel) (by decide +kernel)
theorem w_461 : (Cond.selects "RoadOracle$Network" yX2_followersOf yX2_followersOf) ∈ WG := WG_in 461 (by decide +kernel) (by decide +kernel)
theorem w_462 : (Cond.code yX2_followersOf prog_4_method_4_code (2 : Nat) (Option.some FieldType.long)) ∈ WG := WG_in 462 (by decide +kernel) (by decide +kernel)
theorem w_463 : (Cond.methodLink "RoadOracle$Hierarchy" (118 : Nat) yX2_stepLength) ∈ WG := WG_in 463 (by decide +kernel) (by decide +kernel)
theorem w_464 : (Cond.instanceMethod yX2_stepLength) ∈ WG := WG_in 464 (by decide +kernel) (by decide +kernel)
theorem w_465 : (Cond.selects "RoadOracle$Network" yX2_stepLength yX2_stepLength) ∈ WG := WG_in 465 (by decide +kernel) (by decide +kernel)
theorem w_466 : (Cond.code yX2_stepLength prog_4_method_8_code (4 : Nat) (Option.some FieldType.int)) ∈ WG := WG_in 466 (by decide +kernel) (by decide +kernel)
theorem w_467 : (Cond.methodLink "RoadOracle$Network" (58 : Nat) yX2_penaltyOf) ∈ WG := WG_in 467 (by decide +kernel) (by decide +kernel)
theorem w_468 : (Cond.instanceMethod yX2_penaltyOf) ∈ WG := WG_in 468 (by decide +kernel) (by decide +kernel)
theorem w_469 : (Cond.selects "RoadOracle$Network" yX2_penaltyOf yX2_penaltyOf) ∈ WG := WG_in 469 (by decide +kernel) (by decide +kernel)
theorem w_470 : (Cond.code yX2_penaltyOf prog_4_method_6_code (4 : Nat) (Option.some FieldType.int)) ∈ WG := WG_in 470 (by decide +kernel) (by decide +kernel)
theorem w_473 : (Cond.constant "RoadOracle$Network" (65 : Nat) (536870912 : Int32)) ∈ WG := WG_in 473 (by decide +kernel) (by decide +kernel)
theorem w_474 : (Cond.methodLink "RoadOracle$Network" (66 : Nat) yX2_roadLength) ∈ WG := WG_in 474 (by decide +kernel) (by decide +kernel)
theorem w_475 : (Cond.instanceMethod yX2_roadLength) ∈ WG := WG_in 475 (by decide +kernel) (by decide +kernel)
theorem w_476 : (Cond.selects "RoadOracle$Network" yX2_roadLength yX2_roadLength) ∈ WG := WG_in 476 (by decide +kernel) (by decide +kernel)
theorem w_477 : (Cond.code yX2_roadLength prog_4_method_7_code (2 : Nat) (Option.some FieldType.int)) ∈ WG := WG_in 477 (by decide +kernel) (by decide +kernel)
theorem w_478 : (Cond.methodLink "RoadOracle$Hierarchy" (125 : Nat) yX0_markHeads) ∈ WG := WG_in 478 (by decide +kernel) (by decide +kernel)
theorem w_480 : (Cond.instanceMethod yX0_markHeads) ∈ WG := WG_in 480 (by decide +kernel) (by decide +kernel)
theorem w_481 : (Cond.code yX0_markHeads prog_2_method_10_code (7 : Nat) (Option.none : Option FieldType)) ∈ WG := WG_in 481 (by decide +kernel) (by decide +kernel)
theorem w_482 : (Cond.constantLong "RoadOracle$Hierarchy" (63 : Nat) (-1 : Int64)) ∈ WG := WG_in 482 (by decide +kernel) (by decide +kernel)
theorem w_483 : (Cond.methodLink "RoadOracle$Hierarchy" (111 : Nat) yX0_settle) ∈ WG := WG_in 483 (by decide +kernel) (by decide +kernel)
theorem w_485 : (Cond.instanceMethod yX0_settle) ∈ WG := WG_in 485 (by decide +kernel) (by decide +kernel)
theorem w_486 : (Cond.code yX0_settle prog_2_method_12_code (7 : Nat) (Option.some FieldType.int)) ∈ WG := WG_in 486 (by decide +kernel) (by decide +kernel)
theorem w_487 : (Cond.methodLink "RoadOracle$Hierarchy" (129 : Nat) yX0_settleArc) ∈ WG := WG_in 487 (by decide +kernel) (by decide +kernel)
theorem w_489 : (Cond.instanceMethod yX0_settleArc) ∈ WG := WG_in 489 (by decide +kernel) (by decide +kernel)
theorem w_490 : (Cond.code yX0_settleArc prog_2_method_13_code (5 : Nat) (Option.some FieldType.int)) ∈ WG := WG_in 490 (by decide +kernel) (by decide +kernel)
theorem w_491 : (Cond.methodLink "RoadOracle$Hierarchy" (132 : Nat) yX0_computeArc) ∈ WG := WG_in 491 (by decide +kernel) (by decide +kernel)
theorem w_493 : (Cond.instanceMethod yX0_computeArc) ∈ WG := WG_in 493 (by decide +kernel) (by decide +kernel)
theorem w_494 : (Cond.code yX0_computeArc prog_2_method_15_code (7 : Nat) (Option.some FieldType.int)) ∈ WG := WG_in 494 (by decide +kernel) (by decide +kernel)
theorem w_495 : (Cond.methodLink "RoadOracle$Hierarchy" (147 : Nat) yJ9_min_7cf53) ∈ WG := WG_in 495 (by decide +kernel) (by decide +kernel)
theorem w_496 : (Cond.static yJ9_min_7cf53) ∈ WG := WG_in 496 (by decide +kernel) (by decide +kernel)
theorem w_497 : (Cond.code yJ9_min_7cf53 prog_15_method_69_code (2 : Nat) (Option.some FieldType.int)) ∈ WG := WG_in 497 (by decide +kernel) (by decide +kernel)
theorem w_498 : (Cond.methodLink "RoadOracle$Hierarchy" (135 : Nat) yX0_markAbove) ∈ WG := WG_in 498 (by decide +kernel) (by decide +kernel)
theorem w_500 : (Cond.instanceMethod yX0_markAbove) ∈ WG := WG_in 500 (by decide +kernel) (by decide +kernel)
theorem w_501 : (Cond.code yX0_markAbove prog_2_method_14_code (3 : Nat) (Option.none : Option FieldType)) ∈ WG := WG_in 501 (by decide +kernel) (by decide +kernel)
theorem w_503 : (Cond.methodLink "RoadOracle$Hierarchy" (143 : Nat) yX0_markTails) ∈ WG := WG_in 503 (by decide +kernel) (by decide +kernel)
theorem w_505 : (Cond.instanceMethod yX0_markTails) ∈ WG := WG_in 505 (by decide +kernel) (by decide +kernel)
theorem w_506 : (Cond.code yX0_markTails prog_2_method_11_code (7 : Nat) (Option.none : Option FieldType)) ∈ WG := WG_in 506 (by decide +kernel) (by decide +kernel)
theorem w_507 : (Cond.methodLink "RoadOracleLaw" (122 : Nat) yL_setOpen) ∈ WG := WG_in 507 (by decide +kernel) (by decide +kernel)
theorem w_508 : (Cond.static yL_setOpen) ∈ WG := WG_in 508 (by decide +kernel) (by decide +kernel)
theorem w_509 : (Cond.codeWith yL_setOpen method_6_code (5 : Nat) (Option.some FieldType.int) [((0 : Nat), (10 : Nat), (13 : Nat), (19 : Nat))]) ∈ WG := WG_in 509 (by decide +kernel) (by decide +kernel)
theorem w_510 : (Cond.methodLink "RoadOracleLaw" (27 : Nat) yX3_setOpen) ∈ WG := WG_in 510 (by decide +kernel) (by decide +kernel)
theorem w_511 : (Cond.instanceMethod yX3_setOpen) ∈ WG := WG_in 511 (by decide +kernel) (by decide +kernel)
theorem w_512 : (Cond.selects "RoadOracle" yX3_setOpen yX3_setOpen) ∈ WG := WG_in 512 (by decide +kernel) (by decide +kernel)
theorem w_513 : (Cond.code yX3_setOpen prog_1_method_5_code (3 : Nat) (Option.some FieldType.int)) ∈ WG := WG_in 513 (by decide +kernel) (by decide +kernel)
theorem w_514 : (Cond.methodLink "RoadOracle" (95 : Nat) yX3_openOrClose) ∈ WG := WG_in 514 (by decide +kernel) (by decide +kernel)
theorem w_516 : (Cond.instanceMethod yX3_openOrClose) ∈ WG := WG_in 516 (by decide +kernel) (by decide +kernel)
theorem w_517 : (Cond.code yX3_openOrClose prog_1_method_39_code (5 : Nat) (Option.some FieldType.int)) ∈ WG := WG_in 517 (by decide +kernel) (by decide +kernel)
theorem w_518 : (Cond.methodLink "RoadOracle" (274 : Nat) yX3_only) ∈ WG := WG_in 518 (by decide +kernel) (by decide +kernel)
theorem w_519 : (Cond.methodLink "RoadOracleLaw" (126 : Nat) yL_setTurn) ∈ WG := WG_in 519 (by decide +kernel) (by decide +kernel)
theorem w_520 : (Cond.static yL_setTurn) ∈ WG := WG_in 520 (by decide +kernel) (by decide +kernel)
theorem w_521 : (Cond.codeWith yL_setTurn method_7_code (6 : Nat) (Option.some FieldType.int) [((0 : Nat), (12 : Nat), (15 : Nat), (19 : Nat)), ((0 : Nat), (12 : Nat), (19 : Nat), (21 : Nat))]) ∈ WG := WG_in 521 (by decide +kernel) (by decide +kernel)
theorem w_522 : (Cond.methodLink "RoadOracleLaw" (31 : Nat) yX3_setTurn) ∈ WG := WG_in 522 (by decide +kernel) (by decide +kernel)
theorem w_523 : (Cond.instanceMethod yX3_setTurn) ∈ WG := WG_in 523 (by decide +kernel) (by decide +kernel)
theorem w_524 : (Cond.selects "RoadOracle" yX3_setTurn yX3_setTurn) ∈ WG := WG_in 524 (by decide +kernel) (by decide +kernel)
theorem w_525 : (Cond.code yX3_setTurn prog_1_method_6_code (4 : Nat) (Option.some FieldType.int)) ∈ WG := WG_in 525 (by decide +kernel) (by decide +kernel)
theorem w_526 : (Cond.methodLink "RoadOracle" (99 : Nat) yX3_requireTurn) ∈ WG := WG_in 526 (by decide +kernel) (by decide +kernel)
theorem w_528 : (Cond.instanceMethod yX3_requireTurn) ∈ WG := WG_in 528 (by decide +kernel) (by decide +kernel)
theorem w_529 : (Cond.code yX3_requireTurn prog_1_method_35_code (3 : Nat) (Option.none : Option FieldType)) ∈ WG := WG_in 529 (by decide +kernel) (by decide +kernel)
theorem w_532 : (Cond.methodLink "RoadOracle" (108 : Nat) yX3_pair) ∈ WG := WG_in 532 (by decide +kernel) (by decide +kernel)
theorem w_533 : (Cond.methodLink "RoadOracle" (112 : Nat) yX0_renewTurn) ∈ WG := WG_in 533 (by decide +kernel) (by decide +kernel)
theorem w_534 : (Cond.instanceMethod yX0_renewTurn) ∈ WG := WG_in 534 (by decide +kernel) (by decide +kernel)
theorem w_535 : (Cond.selects "RoadOracle$Hierarchy" yX0_renewTurn yX0_renewTurn) ∈ WG := WG_in 535 (by decide +kernel) (by decide +kernel)
theorem w_536 : (Cond.code yX0_renewTurn prog_2_method_7_code (3 : Nat) (Option.some FieldType.int)) ∈ WG := WG_in 536 (by decide +kernel) (by decide +kernel)
theorem w_537 : (Cond.methodLink "RoadOracleLaw" (129 : Nat) yL_setUTurn) ∈ WG := WG_in 537 (by decide +kernel) (by decide +kernel)
theorem w_538 : (Cond.static yL_setUTurn) ∈ WG := WG_in 538 (by decide +kernel) (by decide +kernel)
theorem w_539 : (Cond.codeWith yL_setUTurn method_8_code (4 : Nat) (Option.some FieldType.int) [((0 : Nat), (9 : Nat), (12 : Nat), (21 : Nat))]) ∈ WG := WG_in 539 (by decide +kernel) (by decide +kernel)
theorem w_540 : (Cond.methodLink "RoadOracleLaw" (34 : Nat) yX3_setUTurn) ∈ WG := WG_in 540 (by decide +kernel) (by decide +kernel)
theorem w_541 : (Cond.instanceMethod yX3_setUTurn) ∈ WG := WG_in 541 (by decide +kernel) (by decide +kernel)
theorem w_542 : (Cond.selects "RoadOracle" yX3_setUTurn yX3_setUTurn) ∈ WG := WG_in 542 (by decide +kernel) (by decide +kernel)
theorem w_543 : (Cond.code yX3_setUTurn prog_1_method_7_code (2 : Nat) (Option.some FieldType.int)) ∈ WG := WG_in 543 (by decide +kernel) (by decide +kernel)
theorem w_545 : (Cond.methodLink "RoadOracle" (120 : Nat) yX0_renewAll) ∈ WG := WG_in 545 (by decide +kernel) (by decide +kernel)
theorem w_546 : (Cond.instanceMethod yX0_renewAll) ∈ WG := WG_in 546 (by decide +kernel) (by decide +kernel)
theorem w_547 : (Cond.selects "RoadOracle$Hierarchy" yX0_renewAll yX0_renewAll) ∈ WG := WG_in 547 (by decide +kernel) (by decide +kernel)
theorem w_548 : (Cond.code yX0_renewAll prog_2_method_8_code (1 : Nat) (Option.some FieldType.int)) ∈ WG := WG_in 548 (by decide +kernel) (by decide +kernel)
theorem w_549 : (Cond.methodLink "RoadOracle$Hierarchy" (55 : Nat) yX2_allRoads) ∈ WG := WG_in 549 (by decide +kernel) (by decide +kernel)
theorem w_550 : (Cond.instanceMethod yX2_allRoads) ∈ WG := WG_in 550 (by decide +kernel) (by decide +kernel)
theorem w_551 : (Cond.selects "RoadOracle$Network" yX2_allRoads yX2_allRoads) ∈ WG := WG_in 551 (by decide +kernel) (by decide +kernel)
theorem w_552 : (Cond.code yX2_allRoads prog_4_method_3_code (1 : Nat) (Option.some FieldType.long)) ∈ WG := WG_in 552 (by decide +kernel) (by decide +kernel)
theorem w_553 : (Cond.constantLong "RoadOracle$Network" (52 : Nat) (-1 : Int64)) ∈ WG := WG_in 553 (by decide +kernel) (by decide +kernel)
theorem w_554 : (Cond.methodLink "RoadOracleLaw" (141 : Nat) yL_weight) ∈ WG := WG_in 554 (by decide +kernel) (by decide +kernel)
theorem w_555 : (Cond.static yL_weight) ∈ WG := WG_in 555 (by decide +kernel) (by decide +kernel)
theorem w_556 : (Cond.codeWith yL_weight method_9_code (4 : Nat) (Option.some FieldType.int) [((0 : Nat), (9 : Nat), (12 : Nat), (19 : Nat))]) ∈ WG := WG_in 556 (by decide +kernel) (by decide +kernel)
theorem w_557 : (Cond.methodLink "RoadOracleLaw" (38 : Nat) yX3_weight) ∈ WG := WG_in 557 (by decide +kernel) (by decide +kernel)
theorem w_558 : (Cond.instanceMethod yX3_weight) ∈ WG := WG_in 558 (by decide +kernel) (by decide +kernel)
theorem w_559 : (Cond.selects "RoadOracle" yX3_weight yX3_weight) ∈ WG := WG_in 559 (by decide +kernel) (by decide +kernel)
theorem w_560 : (Cond.code yX3_weight prog_1_method_10_code (2 : Nat) (Option.some FieldType.int)) ∈ WG := WG_in 560 (by decide +kernel) (by decide +kernel)
theorem w_561 : (Cond.methodLink "RoadOracleLaw" (144 : Nat) yL_isOpen) ∈ WG := WG_in 561 (by decide +kernel) (by decide +kernel)
theorem w_562 : (Cond.static yL_isOpen) ∈ WG := WG_in 562 (by decide +kernel) (by decide +kernel)
theorem w_563 : (Cond.codeWith yL_isOpen method_10_code (4 : Nat) (Option.some FieldType.int) [((0 : Nat), (16 : Nat), (19 : Nat), (19 : Nat))]) ∈ WG := WG_in 563 (by decide +kernel) (by decide +kernel)
theorem w_564 : (Cond.methodLink "RoadOracleLaw" (41 : Nat) yX3_isOpen) ∈ WG := WG_in 564 (by decide +kernel) (by decide +kernel)
theorem w_565 : (Cond.instanceMethod yX3_isOpen) ∈ WG := WG_in 565 (by decide +kernel) (by decide +kernel)
theorem w_566 : (Cond.selects "RoadOracle" yX3_isOpen yX3_isOpen) ∈ WG := WG_in 566 (by decide +kernel) (by decide +kernel)
theorem w_567 : (Cond.code yX3_isOpen prog_1_method_11_code (2 : Nat) (Option.some FieldType.boolean)) ∈ WG := WG_in 567 (by decide +kernel) (by decide +kernel)
theorem w_568 : (Cond.methodLink "RoadOracleLaw" (147 : Nat) yL_turnPenalty) ∈ WG := WG_in 568 (by decide +kernel) (by decide +kernel)
theorem w_569 : (Cond.static yL_turnPenalty) ∈ WG := WG_in 569 (by decide +kernel) (by decide +kernel)
theorem w_570 : (Cond.codeWith yL_turnPenalty method_11_code (5 : Nat) (Option.some FieldType.int) [((0 : Nat), (10 : Nat), (13 : Nat), (19 : Nat)), ((0 : Nat), (10 : Nat), (17 : Nat), (21 : Nat))]) ∈ WG := WG_in 570 (by decide +kernel) (by decide +kernel)
theorem w_571 : (Cond.methodLink "RoadOracleLaw" (45 : Nat) yX3_turnPenalty) ∈ WG := WG_in 571 (by decide +kernel) (by decide +kernel)
theorem w_572 : (Cond.instanceMethod yX3_turnPenalty) ∈ WG := WG_in 572 (by decide +kernel) (by decide +kernel)
theorem w_573 : (Cond.selects "RoadOracle" yX3_turnPenalty yX3_turnPenalty) ∈ WG := WG_in 573 (by decide +kernel) (by decide +kernel)
theorem w_574 : (Cond.code yX3_turnPenalty prog_1_method_12_code (3 : Nat) (Option.some FieldType.int)) ∈ WG := WG_in 574 (by decide +kernel) (by decide +kernel)
theorem w_575 : (Cond.methodLink "RoadOracle" (132 : Nat) yX2_penaltyOf) ∈ WG := WG_in 575 (by decide +kernel) (by decide +kernel)
theorem w_576 : (Cond.methodLink "RoadOracleLaw" (150 : Nat) yL_prepare) ∈ WG := WG_in 576 (by decide +kernel) (by decide +kernel)
theorem w_577 : (Cond.static yL_prepare) ∈ WG := WG_in 577 (by decide +kernel) (by decide +kernel)
theorem w_578 : (Cond.codeWith yL_prepare method_12_code (3 : Nat) (Option.some FieldType.int) [((0 : Nat), (8 : Nat), (11 : Nat), (13 : Nat))]) ∈ WG := WG_in 578 (by decide +kernel) (by decide +kernel)
theorem w_579 : (Cond.methodLink "RoadOracleLaw" (48 : Nat) yX3_prepare) ∈ WG := WG_in 579 (by decide +kernel) (by decide +kernel)
theorem w_580 : (Cond.instanceMethod yX3_prepare) ∈ WG := WG_in 580 (by decide +kernel) (by decide +kernel)
theorem w_581 : (Cond.selects "RoadOracle" yX3_prepare yX3_prepare) ∈ WG := WG_in 581 (by decide +kernel) (by decide +kernel)
theorem w_582 : (Cond.code yX3_prepare prog_1_method_13_code (1 : Nat) (Option.some FieldType.int)) ∈ WG := WG_in 582 (by decide +kernel) (by decide +kernel)
theorem w_584 : (Cond.methodLink "RoadOracle" (137 : Nat) yX0_build) ∈ WG := WG_in 584 (by decide +kernel) (by decide +kernel)
theorem w_585 : (Cond.instanceMethod yX0_build) ∈ WG := WG_in 585 (by decide +kernel) (by decide +kernel)
theorem w_586 : (Cond.selects "RoadOracle$Hierarchy" yX0_build yX0_build) ∈ WG := WG_in 586 (by decide +kernel) (by decide +kernel)
theorem w_587 : (Cond.code yX0_build prog_2_method_2_code (6 : Nat) (Option.none : Option FieldType)) ∈ WG := WG_in 587 (by decide +kernel) (by decide +kernel)
theorem w_588 : (Cond.methodLink "RoadOracle$Hierarchy" (51 : Nat) yX0_linkTurns) ∈ WG := WG_in 588 (by decide +kernel) (by decide +kernel)
theorem w_590 : (Cond.instanceMethod yX0_linkTurns) ∈ WG := WG_in 590 (by decide +kernel) (by decide +kernel)
theorem w_591 : (Cond.code yX0_linkTurns prog_2_method_3_code (3 : Nat) (Option.some FieldType.int)) ∈ WG := WG_in 591 (by decide +kernel) (by decide +kernel)
theorem w_592 : (Cond.methodLink "RoadOracle$Hierarchy" (76 : Nat) yJ13_bitCount_95d88) ∈ WG := WG_in 592 (by decide +kernel) (by decide +kernel)
theorem w_593 : (Cond.static yJ13_bitCount_95d88) ∈ WG := WG_in 593 (by decide +kernel) (by decide +kernel)
theorem w_594 : (Cond.code yJ13_bitCount_95d88 prog_14_method_50_code (2 : Nat) (Option.some FieldType.int)) ∈ WG := WG_in 594 (by decide +kernel) (by decide +kernel)
theorem w_595 : (Cond.constantLong "java/lang/Long" (314 : Nat) (6148914691236517205 : Int64)) ∈ WG := WG_in 595 (by decide +kernel) (by decide +kernel)
theorem w_596 : (Cond.constantLong "java/lang/Long" (316 : Nat) (3689348814741910323 : Int64)) ∈ WG := WG_in 596 (by decide +kernel) (by decide +kernel)
theorem w_597 : (Cond.constantLong "java/lang/Long" (318 : Nat) (1085102592571150095 : Int64)) ∈ WG := WG_in 597 (by decide +kernel) (by decide +kernel)
theorem w_598 : (Cond.methodLink "RoadOracle$Hierarchy" (59 : Nat) yX0_cheapest) ∈ WG := WG_in 598 (by decide +kernel) (by decide +kernel)
theorem w_600 : (Cond.instanceMethod yX0_cheapest) ∈ WG := WG_in 600 (by decide +kernel) (by decide +kernel)
theorem w_601 : (Cond.code yX0_cheapest prog_2_method_4_code (7 : Nat) (Option.some FieldType.int)) ∈ WG := WG_in 601 (by decide +kernel) (by decide +kernel)
theorem w_602 : (Cond.constant "RoadOracle$Hierarchy" (88 : Nat) (536870912 : Int32)) ∈ WG := WG_in 602 (by decide +kernel) (by decide +kernel)
theorem w_603 : (Cond.methodLink "RoadOracle$Hierarchy" (69 : Nat) yX0_bridge) ∈ WG := WG_in 603 (by decide +kernel) (by decide +kernel)
theorem w_605 : (Cond.instanceMethod yX0_bridge) ∈ WG := WG_in 605 (by decide +kernel) (by decide +kernel)
theorem w_606 : (Cond.code yX0_bridge prog_2_method_5_code (6 : Nat) (Option.none : Option FieldType)) ∈ WG := WG_in 606 (by decide +kernel) (by decide +kernel)
theorem w_607 : (Cond.methodLink "RoadOracle$Hierarchy" (89 : Nat) yJ7_fill_53178) ∈ WG := WG_in 607 (by decide +kernel) (by decide +kernel)
theorem w_608 : (Cond.methodLink "RoadOracle$Hierarchy" (95 : Nat) yX0_renewAll) ∈ WG := WG_in 608 (by decide +kernel) (by decide +kernel)
theorem w_609 : (Cond.methodLink "RoadOracleLaw" (158 : Nat) yL_position) ∈ WG := WG_in 609 (by decide +kernel) (by decide +kernel)
theorem w_610 : (Cond.static yL_position) ∈ WG := WG_in 610 (by decide +kernel) (by decide +kernel)
theorem w_611 : (Cond.codeWith yL_position method_13_code (4 : Nat) (Option.some FieldType.int) [((0 : Nat), (9 : Nat), (12 : Nat), (13 : Nat)), ((0 : Nat), (9 : Nat), (15 : Nat), (19 : Nat))]) ∈ WG := WG_in 611 (by decide +kernel) (by decide +kernel)
theorem w_612 : (Cond.methodLink "RoadOracleLaw" (51 : Nat) yX3_position) ∈ WG := WG_in 612 (by decide +kernel) (by decide +kernel)
theorem w_613 : (Cond.instanceMethod yX3_position) ∈ WG := WG_in 613 (by decide +kernel) (by decide +kernel)
theorem w_614 : (Cond.selects "RoadOracle" yX3_position yX3_position) ∈ WG := WG_in 614 (by decide +kernel) (by decide +kernel)
theorem w_615 : (Cond.code yX3_position prog_1_method_15_code (2 : Nat) (Option.some FieldType.int)) ∈ WG := WG_in 615 (by decide +kernel) (by decide +kernel)
theorem w_616 : (Cond.methodLink "RoadOracle" (143 : Nat) yX3_requireHierarchy) ∈ WG := WG_in 616 (by decide +kernel) (by decide +kernel)
theorem w_618 : (Cond.instanceMethod yX3_requireHierarchy) ∈ WG := WG_in 618 (by decide +kernel) (by decide +kernel)
theorem w_619 : (Cond.code yX3_requireHierarchy prog_1_method_38_code (1 : Nat) (Option.none : Option FieldType)) ∈ WG := WG_in 619 (by decide +kernel) (by decide +kernel)
theorem w_621 : (Cond.methodLink "RoadOracleLaw" (165 : Nat) yL_hasArc) ∈ WG := WG_in 621 (by decide +kernel) (by decide +kernel)
theorem w_622 : (Cond.static yL_hasArc) ∈ WG := WG_in 622 (by decide +kernel) (by decide +kernel)
theorem w_623 : (Cond.codeWith yL_hasArc method_14_code (5 : Nat) (Option.some FieldType.int) [((0 : Nat), (17 : Nat), (20 : Nat), (13 : Nat)), ((0 : Nat), (17 : Nat), (24 : Nat), (19 : Nat))]) ∈ WG := WG_in 623 (by decide +kernel) (by decide +kernel)
theorem w_624 : (Cond.methodLink "RoadOracleLaw" (54 : Nat) yX3_hasArc) ∈ WG := WG_in 624 (by decide +kernel) (by decide +kernel)
theorem w_625 : (Cond.instanceMethod yX3_hasArc) ∈ WG := WG_in 625 (by decide +kernel) (by decide +kernel)
theorem w_626 : (Cond.selects "RoadOracle" yX3_hasArc yX3_hasArc) ∈ WG := WG_in 626 (by decide +kernel) (by decide +kernel)
theorem w_627 : (Cond.code yX3_hasArc prog_1_method_17_code (3 : Nat) (Option.some FieldType.boolean)) ∈ WG := WG_in 627 (by decide +kernel) (by decide +kernel)
theorem w_628 : (Cond.methodLink "RoadOracleLaw" (168 : Nat) yL_arcCost) ∈ WG := WG_in 628 (by decide +kernel) (by decide +kernel)
theorem w_629 : (Cond.static yL_arcCost) ∈ WG := WG_in 629 (by decide +kernel) (by decide +kernel)
theorem w_630 : (Cond.codeWith yL_arcCost method_15_code (5 : Nat) (Option.some FieldType.int) [((0 : Nat), (10 : Nat), (13 : Nat), (13 : Nat)), ((0 : Nat), (10 : Nat), (17 : Nat), (19 : Nat)), ((0 : Nat), (10 : Nat), (21 : Nat), (61 : Nat))]) ∈ WG := WG_in 630 (by decide +kernel) (by decide +kernel)
theorem w_631 : (Cond.classLink "RoadOracleLaw" (61 : Nat) "java/util/NoSuchElementException") ∈ WG := WG_in 631 (by decide +kernel) (by decide +kernel)
theorem w_632 : (Cond.methodLink "RoadOracleLaw" (58 : Nat) yX3_arcCost) ∈ WG := WG_in 632 (by decide +kernel) (by decide +kernel)
theorem w_633 : (Cond.instanceMethod yX3_arcCost) ∈ WG := WG_in 633 (by decide +kernel) (by decide +kernel)
theorem w_634 : (Cond.selects "RoadOracle" yX3_arcCost yX3_arcCost) ∈ WG := WG_in 634 (by decide +kernel) (by decide +kernel)
theorem w_635 : (Cond.code yX3_arcCost prog_1_method_18_code (3 : Nat) (Option.some FieldType.int)) ∈ WG := WG_in 635 (by decide +kernel) (by decide +kernel)
theorem w_636 : (Cond.classLink "RoadOracle" (156 : Nat) "java/util/NoSuchElementException") ∈ WG := WG_in 636 (by decide +kernel) (by decide +kernel)
theorem w_637 : (Cond.instantiable "java/util/NoSuchElementException" (6 : Nat)) ∈ WG := WG_in 637 (by decide +kernel) (by decide +kernel)
theorem w_639 : (Cond.selects "java/util/NoSuchElementException" ({ cls := "java/lang/Throwable", name := "fillInStackTrace", desc := "(I)Ljava/lang/Throwable;" } : MethodName) ({ cls := "java/lang/Throwable", name := "fillInStackTrace", desc := "(I)Ljava/lang/Throwable;" } : MethodName)) ∈ WG := WG_in 639 (by decide +kernel) (by decide +kernel)
theorem w_640 : (Cond.lays "java/util/NoSuchElementException" "java/lang/Throwable" "cause" "Ljava/lang/Throwable;") ∈ WG := WG_in 640 (by decide +kernel) (by decide +kernel)
theorem w_641 : (Cond.lays "java/util/NoSuchElementException" "java/lang/Throwable" "stackTrace" "[Ljava/lang/StackTraceElement;") ∈ WG := WG_in 641 (by decide +kernel) (by decide +kernel)
theorem w_642 : (Cond.lays "java/util/NoSuchElementException" "java/lang/Throwable" "suppressedExceptions" "Ljava/util/List;") ∈ WG := WG_in 642 (by decide +kernel) (by decide +kernel)
theorem w_643 : (Cond.lays "java/util/NoSuchElementException" "java/lang/Throwable" "detailMessage" "Ljava/lang/String;") ∈ WG := WG_in 643 (by decide +kernel) (by decide +kernel)
theorem w_644 : (Cond.lays "java/util/NoSuchElementException" "java/lang/Throwable" "backtrace" "Ljava/lang/Object;") ∈ WG := WG_in 644 (by decide +kernel) (by decide +kernel)
theorem w_646 : (Cond.methodLink "RoadOracle" (160 : Nat) ({ cls := "java/util/NoSuchElementException", name := "<init>", desc := "(Ljava/lang/String;)V" } : MethodName)) ∈ WG := WG_in 646 (by decide +kernel) (by decide +kernel)
theorem w_647 : (Cond.instanceMethod ({ cls := "java/util/NoSuchElementException", name := "<init>", desc := "(Ljava/lang/String;)V" } : MethodName)) ∈ WG := WG_in 647 (by decide +kernel) (by decide +kernel)
theorem w_648 : (Cond.code ({ cls := "java/util/NoSuchElementException", name := "<init>", desc := "(Ljava/lang/String;)V" } : MethodName) prog_24_method_4_code (2 : Nat) (Option.none : Option FieldType)) ∈ WG := WG_in 648 (by decide +kernel) (by decide +kernel)
theorem w_649 : (Cond.methodLink "java/util/NoSuchElementException" (13 : Nat) ({ cls := "java/lang/RuntimeException", name := "<init>", desc := "(Ljava/lang/String;)V" } : MethodName)) ∈ WG := WG_in 649 (by decide +kernel) (by decide +kernel)
theorem w_650 : (Cond.lays "java/util/NoSuchElementException" "java/lang/Throwable" "depth" "I") ∈ WG := WG_in 650 (by decide +kernel) (by decide +kernel)
theorem w_652 : (Cond.methodLink "RoadOracle" (162 : Nat) yX3_costOf) ∈ WG := WG_in 652 (by decide +kernel) (by decide +kernel)
theorem w_653 : (Cond.methodLink "RoadOracleLaw" (171 : Nat) yL_distance) ∈ WG := WG_in 653 (by decide +kernel) (by decide +kernel)
theorem w_654 : (Cond.static yL_distance) ∈ WG := WG_in 654 (by decide +kernel) (by decide +kernel)
theorem w_655 : (Cond.codeWith yL_distance method_16_code (5 : Nat) (Option.some FieldType.int) [((0 : Nat), (10 : Nat), (13 : Nat), (13 : Nat)), ((0 : Nat), (10 : Nat), (17 : Nat), (19 : Nat))]) ∈ WG := WG_in 655 (by decide +kernel) (by decide +kernel)
theorem w_656 : (Cond.methodLink "RoadOracleLaw" (63 : Nat) yX3_distance) ∈ WG := WG_in 656 (by decide +kernel) (by decide +kernel)
theorem w_657 : (Cond.instanceMethod yX3_distance) ∈ WG := WG_in 657 (by decide +kernel) (by decide +kernel)
theorem w_658 : (Cond.selects "RoadOracle" yX3_distance yX3_distance) ∈ WG := WG_in 658 (by decide +kernel) (by decide +kernel)
theorem w_659 : (Cond.code yX3_distance prog_1_method_19_code (3 : Nat) (Option.some FieldType.int)) ∈ WG := WG_in 659 (by decide +kernel) (by decide +kernel)
theorem w_660 : (Cond.methodLink "RoadOracle" (165 : Nat) yX3_costBetween) ∈ WG := WG_in 660 (by decide +kernel) (by decide +kernel)
theorem w_662 : (Cond.instanceMethod yX3_costBetween) ∈ WG := WG_in 662 (by decide +kernel) (by decide +kernel)
theorem w_663 : (Cond.code yX3_costBetween prog_1_method_44_code (3 : Nat) (Option.some FieldType.int)) ∈ WG := WG_in 663 (by decide +kernel) (by decide +kernel)
theorem w_664 : (Cond.methodLink "RoadOracle" (213 : Nat) yX3_searchFrom) ∈ WG := WG_in 664 (by decide +kernel) (by decide +kernel)
theorem w_666 : (Cond.instanceMethod yX3_searchFrom) ∈ WG := WG_in 666 (by decide +kernel) (by decide +kernel)
theorem w_667 : (Cond.code yX3_searchFrom prog_1_method_40_code (5 : Nat) (Option.none : Option FieldType)) ∈ WG := WG_in 667 (by decide +kernel) (by decide +kernel)
theorem w_668 : (Cond.methodLink "RoadOracle" (169 : Nat) yJ7_fill_53178) ∈ WG := WG_in 668 (by decide +kernel) (by decide +kernel)
theorem w_669 : (Cond.methodLink "RoadOracle" (283 : Nat) yX3_next) ∈ WG := WG_in 669 (by decide +kernel) (by decide +kernel)
theorem w_670 : (Cond.methodLink "RoadOracle" (200 : Nat) yX2_roadLength) ∈ WG := WG_in 670 (by decide +kernel) (by decide +kernel)
theorem w_671 : (Cond.methodLink "RoadOracle" (175 : Nat) yX0_spreadForward) ∈ WG := WG_in 671 (by decide +kernel) (by decide +kernel)
theorem w_672 : (Cond.instanceMethod yX0_spreadForward) ∈ WG := WG_in 672 (by decide +kernel) (by decide +kernel)
theorem w_673 : (Cond.selects "RoadOracle$Hierarchy" yX0_spreadForward yX0_spreadForward) ∈ WG := WG_in 673 (by decide +kernel) (by decide +kernel)
theorem w_674 : (Cond.code yX0_spreadForward prog_2_method_16_code (4 : Nat) (Option.none : Option FieldType)) ∈ WG := WG_in 674 (by decide +kernel) (by decide +kernel)
theorem w_675 : (Cond.methodLink "RoadOracle$Hierarchy" (152 : Nat) yX0_passOn) ∈ WG := WG_in 675 (by decide +kernel) (by decide +kernel)
theorem w_677 : (Cond.instanceMethod yX0_passOn) ∈ WG := WG_in 677 (by decide +kernel) (by decide +kernel)
theorem w_678 : (Cond.code yX0_passOn prog_2_method_17_code (6 : Nat) (Option.none : Option FieldType)) ∈ WG := WG_in 678 (by decide +kernel) (by decide +kernel)
theorem w_679 : (Cond.methodLink "RoadOracle" (219 : Nat) yX3_foundCost) ∈ WG := WG_in 679 (by decide +kernel) (by decide +kernel)
theorem w_681 : (Cond.instanceMethod yX3_foundCost) ∈ WG := WG_in 681 (by decide +kernel) (by decide +kernel)
theorem w_682 : (Cond.code yX3_foundCost prog_1_method_43_code (3 : Nat) (Option.some FieldType.int)) ∈ WG := WG_in 682 (by decide +kernel) (by decide +kernel)
theorem w_683 : (Cond.methodLink "RoadOracle" (182 : Nat) yX3_leastAmong) ∈ WG := WG_in 683 (by decide +kernel) (by decide +kernel)
theorem w_685 : (Cond.instanceMethod yX3_leastAmong) ∈ WG := WG_in 685 (by decide +kernel) (by decide +kernel)
theorem w_686 : (Cond.code yX3_leastAmong prog_1_method_42_code (5 : Nat) (Option.some FieldType.int)) ∈ WG := WG_in 686 (by decide +kernel) (by decide +kernel)
theorem w_687 : (Cond.methodLink "RoadOracle" (290 : Nat) yJ9_min_7cf53) ∈ WG := WG_in 687 (by decide +kernel) (by decide +kernel)
theorem w_688 : (Cond.methodLink "RoadOracleLaw" (174 : Nat) yL_distanceBehind) ∈ WG := WG_in 688 (by decide +kernel) (by decide +kernel)
theorem w_689 : (Cond.static yL_distanceBehind) ∈ WG := WG_in 689 (by decide +kernel) (by decide +kernel)
theorem w_690 : (Cond.codeWith yL_distanceBehind method_17_code (5 : Nat) (Option.some FieldType.int) [((0 : Nat), (10 : Nat), (13 : Nat), (13 : Nat)), ((0 : Nat), (10 : Nat), (17 : Nat), (19 : Nat))]) ∈ WG := WG_in 690 (by decide +kernel) (by decide +kernel)
theorem w_691 : (Cond.methodLink "RoadOracleLaw" (66 : Nat) yX3_distanceBehind) ∈ WG := WG_in 691 (by decide +kernel) (by decide +kernel)
theorem w_692 : (Cond.instanceMethod yX3_distanceBehind) ∈ WG := WG_in 692 (by decide +kernel) (by decide +kernel)
theorem w_693 : (Cond.selects "RoadOracle" yX3_distanceBehind yX3_distanceBehind) ∈ WG := WG_in 693 (by decide +kernel) (by decide +kernel)
theorem w_694 : (Cond.code yX3_distanceBehind prog_1_method_20_code (3 : Nat) (Option.some FieldType.int)) ∈ WG := WG_in 694 (by decide +kernel) (by decide +kernel)
theorem w_695 : (Cond.methodLink "RoadOracleLaw" (177 : Nat) yL_route) ∈ WG := WG_in 695 (by decide +kernel) (by decide +kernel)
theorem w_696 : (Cond.static yL_route) ∈ WG := WG_in 696 (by decide +kernel) (by decide +kernel)
theorem w_697 : (Cond.codeWith yL_route method_18_code (5 : Nat) (Option.some FieldType.int) [((0 : Nat), (10 : Nat), (13 : Nat), (13 : Nat)), ((0 : Nat), (10 : Nat), (17 : Nat), (19 : Nat)), ((0 : Nat), (10 : Nat), (21 : Nat), (61 : Nat))]) ∈ WG := WG_in 697 (by decide +kernel) (by decide +kernel)
theorem w_698 : (Cond.methodLink "RoadOracleLaw" (69 : Nat) yX3_route) ∈ WG := WG_in 698 (by decide +kernel) (by decide +kernel)
theorem w_699 : (Cond.instanceMethod yX3_route) ∈ WG := WG_in 699 (by decide +kernel) (by decide +kernel)
theorem w_700 : (Cond.selects "RoadOracle" yX3_route yX3_route) ∈ WG := WG_in 700 (by decide +kernel) (by decide +kernel)
theorem w_701 : (Cond.code yX3_route prog_1_method_21_code (4 : Nat) (Option.some FieldType.int)) ∈ WG := WG_in 701 (by decide +kernel) (by decide +kernel)
theorem w_702 : (Cond.methodLink "RoadOracle" (192 : Nat) yX3_searchTo) ∈ WG := WG_in 702 (by decide +kernel) (by decide +kernel)
theorem w_704 : (Cond.instanceMethod yX3_searchTo) ∈ WG := WG_in 704 (by decide +kernel) (by decide +kernel)
theorem w_705 : (Cond.code yX3_searchTo prog_1_method_41_code (5 : Nat) (Option.none : Option FieldType)) ∈ WG := WG_in 705 (by decide +kernel) (by decide +kernel)
theorem w_706 : (Cond.methodLink "RoadOracle" (287 : Nat) yX0_spreadBackward) ∈ WG := WG_in 706 (by decide +kernel) (by decide +kernel)
theorem w_707 : (Cond.instanceMethod yX0_spreadBackward) ∈ WG := WG_in 707 (by decide +kernel) (by decide +kernel)
theorem w_708 : (Cond.selects "RoadOracle$Hierarchy" yX0_spreadBackward yX0_spreadBackward) ∈ WG := WG_in 708 (by decide +kernel) (by decide +kernel)
theorem w_709 : (Cond.code yX0_spreadBackward prog_2_method_18_code (4 : Nat) (Option.none : Option FieldType)) ∈ WG := WG_in 709 (by decide +kernel) (by decide +kernel)
theorem w_710 : (Cond.methodLink "RoadOracle$Hierarchy" (156 : Nat) yX0_passBack) ∈ WG := WG_in 710 (by decide +kernel) (by decide +kernel)
theorem w_712 : (Cond.instanceMethod yX0_passBack) ∈ WG := WG_in 712 (by decide +kernel) (by decide +kernel)
theorem w_713 : (Cond.code yX0_passBack prog_2_method_19_code (6 : Nat) (Option.none : Option FieldType)) ∈ WG := WG_in 713 (by decide +kernel) (by decide +kernel)
theorem w_714 : (Cond.methodLink "RoadOracle" (195 : Nat) yX3_bestFirstRoad) ∈ WG := WG_in 714 (by decide +kernel) (by decide +kernel)
theorem w_716 : (Cond.instanceMethod yX3_bestFirstRoad) ∈ WG := WG_in 716 (by decide +kernel) (by decide +kernel)
theorem w_717 : (Cond.code yX3_bestFirstRoad prog_1_method_45_code (8 : Nat) (Option.some FieldType.int)) ∈ WG := WG_in 717 (by decide +kernel) (by decide +kernel)
theorem w_719 : (Cond.methodLink "RoadOracle" (203 : Nat) yX3_writePath) ∈ WG := WG_in 719 (by decide +kernel) (by decide +kernel)
theorem w_721 : (Cond.instanceMethod yX3_writePath) ∈ WG := WG_in 721 (by decide +kernel) (by decide +kernel)
theorem w_722 : (Cond.code yX3_writePath prog_1_method_46_code (4 : Nat) (Option.some FieldType.int)) ∈ WG := WG_in 722 (by decide +kernel) (by decide +kernel)
theorem w_723 : (Cond.methodLink "RoadOracle" (295 : Nat) yX3_bestNextRoad) ∈ WG := WG_in 723 (by decide +kernel) (by decide +kernel)
theorem w_725 : (Cond.instanceMethod yX3_bestNextRoad) ∈ WG := WG_in 725 (by decide +kernel) (by decide +kernel)
theorem w_726 : (Cond.code yX3_bestNextRoad prog_1_method_47_code (5 : Nat) (Option.some FieldType.int)) ∈ WG := WG_in 726 (by decide +kernel) (by decide +kernel)
theorem w_727 : (Cond.methodLink "RoadOracle" (298 : Nat) yX2_followersOf) ∈ WG := WG_in 727 (by decide +kernel) (by decide +kernel)
theorem w_728 : (Cond.methodLink "RoadOracle" (301 : Nat) yX2_stepLength) ∈ WG := WG_in 728 (by decide +kernel) (by decide +kernel)
theorem w_729 : (Cond.methodLink "RoadOracleLaw" (180 : Nat) yL_routeRoad) ∈ WG := WG_in 729 (by decide +kernel) (by decide +kernel)
theorem w_730 : (Cond.static yL_routeRoad) ∈ WG := WG_in 730 (by decide +kernel) (by decide +kernel)
theorem w_731 : (Cond.codeWith yL_routeRoad method_19_code (4 : Nat) (Option.some FieldType.int) [((0 : Nat), (9 : Nat), (12 : Nat), (19 : Nat))]) ∈ WG := WG_in 731 (by decide +kernel) (by decide +kernel)
theorem w_732 : (Cond.methodLink "RoadOracleLaw" (72 : Nat) yX3_routeRoad) ∈ WG := WG_in 732 (by decide +kernel) (by decide +kernel)
theorem w_733 : (Cond.instanceMethod yX3_routeRoad) ∈ WG := WG_in 733 (by decide +kernel) (by decide +kernel)
theorem w_734 : (Cond.selects "RoadOracle" yX3_routeRoad yX3_routeRoad) ∈ WG := WG_in 734 (by decide +kernel) (by decide +kernel)
theorem w_735 : (Cond.code yX3_routeRoad prog_1_method_22_code (2 : Nat) (Option.some FieldType.int)) ∈ WG := WG_in 735 (by decide +kernel) (by decide +kernel)
theorem w_737 : (Cond.methodLink "RoadOracleLaw" (187 : Nat) yL_reach) ∈ WG := WG_in 737 (by decide +kernel) (by decide +kernel)
theorem w_738 : (Cond.static yL_reach) ∈ WG := WG_in 738 (by decide +kernel) (by decide +kernel)
theorem w_739 : (Cond.codeWith yL_reach method_20_code (5 : Nat) (Option.some FieldType.int) [((0 : Nat), (10 : Nat), (13 : Nat), (13 : Nat)), ((0 : Nat), (10 : Nat), (17 : Nat), (19 : Nat)), ((0 : Nat), (10 : Nat), (21 : Nat), (21 : Nat))]) ∈ WG := WG_in 739 (by decide +kernel) (by decide +kernel)
theorem w_740 : (Cond.methodLink "RoadOracleLaw" (75 : Nat) yX3_reach) ∈ WG := WG_in 740 (by decide +kernel) (by decide +kernel)
theorem w_741 : (Cond.instanceMethod yX3_reach) ∈ WG := WG_in 741 (by decide +kernel) (by decide +kernel)
theorem w_742 : (Cond.selects "RoadOracle" yX3_reach yX3_reach) ∈ WG := WG_in 742 (by decide +kernel) (by decide +kernel)
theorem w_743 : (Cond.code yX3_reach prog_1_method_24_code (5 : Nat) (Option.some FieldType.int)) ∈ WG := WG_in 743 (by decide +kernel) (by decide +kernel)
theorem w_745 : (Cond.methodLink "RoadOracle" (222 : Nat) yX3_keepReached) ∈ WG := WG_in 745 (by decide +kernel) (by decide +kernel)
theorem w_747 : (Cond.instanceMethod yX3_keepReached) ∈ WG := WG_in 747 (by decide +kernel) (by decide +kernel)
theorem w_748 : (Cond.code yX3_keepReached prog_1_method_48_code (4 : Nat) (Option.none : Option FieldType)) ∈ WG := WG_in 748 (by decide +kernel) (by decide +kernel)
theorem w_749 : (Cond.methodLink "RoadOracleLaw" (190 : Nat) yL_reached) ∈ WG := WG_in 749 (by decide +kernel) (by decide +kernel)
theorem w_750 : (Cond.static yL_reached) ∈ WG := WG_in 750 (by decide +kernel) (by decide +kernel)
theorem w_751 : (Cond.codeWith yL_reached method_21_code (4 : Nat) (Option.some FieldType.int) [((0 : Nat), (9 : Nat), (12 : Nat), (19 : Nat))]) ∈ WG := WG_in 751 (by decide +kernel) (by decide +kernel)
theorem w_752 : (Cond.methodLink "RoadOracleLaw" (78 : Nat) yX3_reached) ∈ WG := WG_in 752 (by decide +kernel) (by decide +kernel)
theorem w_753 : (Cond.instanceMethod yX3_reached) ∈ WG := WG_in 753 (by decide +kernel) (by decide +kernel)
theorem w_754 : (Cond.selects "RoadOracle" yX3_reached yX3_reached) ∈ WG := WG_in 754 (by decide +kernel) (by decide +kernel)
theorem w_755 : (Cond.code yX3_reached prog_1_method_25_code (2 : Nat) (Option.some FieldType.int)) ∈ WG := WG_in 755 (by decide +kernel) (by decide +kernel)
theorem w_757 : (Cond.methodLink "RoadOracleLaw" (193 : Nat) yL_averageDistance) ∈ WG := WG_in 757 (by decide +kernel) (by decide +kernel)
theorem w_758 : (Cond.static yL_averageDistance) ∈ WG := WG_in 758 (by decide +kernel) (by decide +kernel)
theorem w_759 : (Cond.codeWith yL_averageDistance method_22_code (4 : Nat) (Option.some FieldType.int) [((0 : Nat), (8 : Nat), (11 : Nat), (13 : Nat)), ((0 : Nat), (8 : Nat), (14 : Nat), (19 : Nat))]) ∈ WG := WG_in 759 (by decide +kernel) (by decide +kernel)
theorem w_760 : (Cond.methodLink "RoadOracleLaw" (81 : Nat) yX3_averageDistance) ∈ WG := WG_in 760 (by decide +kernel) (by decide +kernel)
theorem w_761 : (Cond.instanceMethod yX3_averageDistance) ∈ WG := WG_in 761 (by decide +kernel) (by decide +kernel)
theorem w_762 : (Cond.selects "RoadOracle" yX3_averageDistance yX3_averageDistance) ∈ WG := WG_in 762 (by decide +kernel) (by decide +kernel)
theorem w_763 : (Cond.code yX3_averageDistance prog_1_method_26_code (6 : Nat) (Option.some FieldType.double)) ∈ WG := WG_in 763 (by decide +kernel) (by decide +kernel)
theorem w_764 : (Cond.methodLink "RoadOracleLaw" (197 : Nat) yL_detour) ∈ WG := WG_in 764 (by decide +kernel) (by decide +kernel)
theorem w_765 : (Cond.static yL_detour) ∈ WG := WG_in 765 (by decide +kernel) (by decide +kernel)
theorem w_766 : (Cond.codeWith yL_detour method_23_code (6 : Nat) (Option.some FieldType.int) [((0 : Nat), (12 : Nat), (15 : Nat), (13 : Nat)), ((0 : Nat), (12 : Nat), (19 : Nat), (19 : Nat)), ((0 : Nat), (12 : Nat), (23 : Nat), (61 : Nat))]) ∈ WG := WG_in 766 (by decide +kernel) (by decide +kernel)
theorem w_767 : (Cond.methodLink "RoadOracleLaw" (85 : Nat) yX3_detour) ∈ WG := WG_in 767 (by decide +kernel) (by decide +kernel)
theorem w_768 : (Cond.instanceMethod yX3_detour) ∈ WG := WG_in 768 (by decide +kernel) (by decide +kernel)
theorem w_769 : (Cond.selects "RoadOracle" yX3_detour yX3_detour) ∈ WG := WG_in 769 (by decide +kernel) (by decide +kernel)
theorem w_770 : (Cond.code yX3_detour prog_1_method_27_code (6 : Nat) (Option.some FieldType.int)) ∈ WG := WG_in 770 (by decide +kernel) (by decide +kernel)
theorem w_771 : (Cond.methodLink "RoadOracleLaw" (200 : Nat) yL_setPlace) ∈ WG := WG_in 771 (by decide +kernel) (by decide +kernel)
theorem w_772 : (Cond.static yL_setPlace) ∈ WG := WG_in 772 (by decide +kernel) (by decide +kernel)
theorem w_773 : (Cond.codeWith yL_setPlace method_24_code (6 : Nat) (Option.some FieldType.int) [((0 : Nat), (19 : Nat), (22 : Nat), (19 : Nat))]) ∈ WG := WG_in 773 (by decide +kernel) (by decide +kernel)
theorem w_774 : (Cond.methodLink "RoadOracleLaw" (88 : Nat) yX3_setPlace) ∈ WG := WG_in 774 (by decide +kernel) (by decide +kernel)
theorem w_775 : (Cond.instanceMethod yX3_setPlace) ∈ WG := WG_in 775 (by decide +kernel) (by decide +kernel)
theorem w_776 : (Cond.selects "RoadOracle" yX3_setPlace yX3_setPlace) ∈ WG := WG_in 776 (by decide +kernel) (by decide +kernel)
theorem w_777 : (Cond.code yX3_setPlace prog_1_method_28_code (5 : Nat) (Option.some FieldType.boolean)) ∈ WG := WG_in 777 (by decide +kernel) (by decide +kernel)
theorem w_778 : (Cond.methodLink "RoadOracle" (227 : Nat) yX3_requireKind) ∈ WG := WG_in 778 (by decide +kernel) (by decide +kernel)
theorem w_780 : (Cond.instanceMethod yX3_requireKind) ∈ WG := WG_in 780 (by decide +kernel) (by decide +kernel)
theorem w_781 : (Cond.code yX3_requireKind prog_1_method_36_code (2 : Nat) (Option.none : Option FieldType)) ∈ WG := WG_in 781 (by decide +kernel) (by decide +kernel)
theorem w_783 : (Cond.methodLink "RoadOracle" (230 : Nat) yX3_place) ∈ WG := WG_in 783 (by decide +kernel) (by decide +kernel)
theorem w_784 : (Cond.static yX3_place) ∈ WG := WG_in 784 (by decide +kernel) (by decide +kernel)
theorem w_785 : (Cond.code yX3_place prog_1_method_51_code (2 : Nat) (Option.some FieldType.int)) ∈ WG := WG_in 785 (by decide +kernel) (by decide +kernel)
theorem w_786 : (Cond.methodLink "RoadOracleLaw" (204 : Nat) yL_nearest) ∈ WG := WG_in 786 (by decide +kernel) (by decide +kernel)
theorem w_787 : (Cond.static yL_nearest) ∈ WG := WG_in 787 (by decide +kernel) (by decide +kernel)
theorem w_788 : (Cond.codeWith yL_nearest method_25_code (5 : Nat) (Option.some FieldType.int) [((0 : Nat), (10 : Nat), (13 : Nat), (13 : Nat)), ((0 : Nat), (10 : Nat), (17 : Nat), (19 : Nat)), ((0 : Nat), (10 : Nat), (21 : Nat), (61 : Nat))]) ∈ WG := WG_in 788 (by decide +kernel) (by decide +kernel)
theorem w_789 : (Cond.methodLink "RoadOracleLaw" (92 : Nat) yX3_nearest) ∈ WG := WG_in 789 (by decide +kernel) (by decide +kernel)
theorem w_790 : (Cond.instanceMethod yX3_nearest) ∈ WG := WG_in 790 (by decide +kernel) (by decide +kernel)
theorem w_791 : (Cond.selects "RoadOracle" yX3_nearest yX3_nearest) ∈ WG := WG_in 791 (by decide +kernel) (by decide +kernel)
theorem w_792 : (Cond.code yX3_nearest prog_1_method_29_code (7 : Nat) (Option.some FieldType.int)) ∈ WG := WG_in 792 (by decide +kernel) (by decide +kernel)
theorem w_794 : (Cond.methodLink "RoadOracleLaw" (207 : Nat) yL_push) ∈ WG := WG_in 794 (by decide +kernel) (by decide +kernel)
theorem w_795 : (Cond.static yL_push) ∈ WG := WG_in 795 (by decide +kernel) (by decide +kernel)
theorem w_796 : (Cond.codeWith yL_push method_26_code (3 : Nat) (Option.some FieldType.int) [((0 : Nat), (8 : Nat), (11 : Nat), (13 : Nat))]) ∈ WG := WG_in 796 (by decide +kernel) (by decide +kernel)
theorem w_797 : (Cond.methodLink "RoadOracleLaw" (95 : Nat) yX3_push) ∈ WG := WG_in 797 (by decide +kernel) (by decide +kernel)
theorem w_798 : (Cond.instanceMethod yX3_push) ∈ WG := WG_in 798 (by decide +kernel) (by decide +kernel)
theorem w_799 : (Cond.selects "RoadOracle" yX3_push yX3_push) ∈ WG := WG_in 799 (by decide +kernel) (by decide +kernel)
theorem w_800 : (Cond.code yX3_push prog_1_method_30_code (1 : Nat) (Option.some FieldType.int)) ∈ WG := WG_in 800 (by decide +kernel) (by decide +kernel)
theorem w_802 : (Cond.methodLink "RoadOracle" (240 : Nat) yX1_store) ∈ WG := WG_in 802 (by decide +kernel) (by decide +kernel)
theorem w_803 : (Cond.instanceMethod yX1_store) ∈ WG := WG_in 803 (by decide +kernel) (by decide +kernel)
theorem w_804 : (Cond.selects "RoadOracle$Levels" yX1_store yX1_store) ∈ WG := WG_in 804 (by decide +kernel) (by decide +kernel)
theorem w_805 : (Cond.code yX1_store prog_3_method_2_code (3 : Nat) (Option.none : Option FieldType)) ∈ WG := WG_in 805 (by decide +kernel) (by decide +kernel)
theorem w_806 : (Cond.methodLink "RoadOracle$Levels" (38 : Nat) ({ cls := "java/lang/System", name := "arraycopy", desc := "(Ljava/lang/Object;ILjava/lang/Object;II)V" } : MethodName)) ∈ WG := WG_in 806 (by decide +kernel) (by decide +kernel)
theorem w_807 : (Cond.static ({ cls := "java/lang/System", name := "arraycopy", desc := "(Ljava/lang/Object;ILjava/lang/Object;II)V" } : MethodName)) ∈ WG := WG_in 807 (by decide +kernel) (by decide +kernel)
theorem w_808 : (Cond.native ({ cls := "java/lang/System", name := "arraycopy", desc := "(Ljava/lang/Object;ILjava/lang/Object;II)V" } : MethodName)) ∈ WG := WG_in 808 (by decide +kernel) (by decide +kernel)
theorem w_809 : (Cond.methodLink "RoadOracleLaw" (210 : Nat) yL_pop) ∈ WG := WG_in 809 (by decide +kernel) (by decide +kernel)
theorem w_810 : (Cond.static yL_pop) ∈ WG := WG_in 810 (by decide +kernel) (by decide +kernel)
theorem w_811 : (Cond.codeWith yL_pop method_27_code (3 : Nat) (Option.some FieldType.int) [((0 : Nat), (8 : Nat), (11 : Nat), (13 : Nat))]) ∈ WG := WG_in 811 (by decide +kernel) (by decide +kernel)
theorem w_812 : (Cond.methodLink "RoadOracleLaw" (98 : Nat) yX3_pop) ∈ WG := WG_in 812 (by decide +kernel) (by decide +kernel)
theorem w_813 : (Cond.instanceMethod yX3_pop) ∈ WG := WG_in 813 (by decide +kernel) (by decide +kernel)
theorem w_814 : (Cond.selects "RoadOracle" yX3_pop yX3_pop) ∈ WG := WG_in 814 (by decide +kernel) (by decide +kernel)
theorem w_815 : (Cond.code yX3_pop prog_1_method_31_code (1 : Nat) (Option.some FieldType.int)) ∈ WG := WG_in 815 (by decide +kernel) (by decide +kernel)
theorem w_817 : (Cond.methodLink "RoadOracle" (245 : Nat) yX1_restore) ∈ WG := WG_in 817 (by decide +kernel) (by decide +kernel)
theorem w_818 : (Cond.instanceMethod yX1_restore) ∈ WG := WG_in 818 (by decide +kernel) (by decide +kernel)
theorem w_819 : (Cond.selects "RoadOracle$Levels" yX1_restore yX1_restore) ∈ WG := WG_in 819 (by decide +kernel) (by decide +kernel)
theorem w_820 : (Cond.code yX1_restore prog_3_method_3_code (6 : Nat) (Option.none : Option FieldType)) ∈ WG := WG_in 820 (by decide +kernel) (by decide +kernel)
theorem w_822 : (Cond.constantLong "RoadOracle$Levels" (55 : Nat) (-1 : Int64)) ∈ WG := WG_in 822 (by decide +kernel) (by decide +kernel)
theorem w_823 : (Cond.classLink "RoadOracleLaw" (102 : Nat) "RoadOracleModel") ∈ WG := WG_in 823 (by decide +kernel) (by decide +kernel)
theorem w_824 : (Cond.instantiable "RoadOracleModel" (32 : Nat)) ∈ WG := WG_in 824 (by decide +kernel) (by decide +kernel)
theorem w_825 : (Cond.methodLink "RoadOracleLaw" (104 : Nat) yX4_init) ∈ WG := WG_in 825 (by decide +kernel) (by decide +kernel)
theorem w_826 : (Cond.instanceMethod yX4_init) ∈ WG := WG_in 826 (by decide +kernel) (by decide +kernel)
theorem w_827 : (Cond.code yX4_init prog_6_method_1_code (2 : Nat) (Option.none : Option FieldType)) ∈ WG := WG_in 827 (by decide +kernel) (by decide +kernel)
theorem w_828 : (Cond.methodLink "RoadOracleModel" (1 : Nat) ({ cls := "java/lang/Object", name := "<init>", desc := "()V" } : MethodName)) ∈ WG := WG_in 828 (by decide +kernel) (by decide +kernel)
theorem w_829 : (Cond.constant "RoadOracleModel" (61 : Nat) (32768 : Int32)) ∈ WG := WG_in 829 (by decide +kernel) (by decide +kernel)
theorem w_830 : (Cond.fieldLink "RoadOracleModel" (80 : Nat) "RoadOracleModel" "thrown" "I") ∈ WG := WG_in 830 (by decide +kernel) (by decide +kernel)
theorem w_831 : (Cond.fieldLink "RoadOracleModel" (83 : Nat) "RoadOracleModel" "junctions" "I") ∈ WG := WG_in 831 (by decide +kernel) (by decide +kernel)
theorem w_832 : (Cond.fieldLink "RoadOracleModel" (86 : Nat) "RoadOracleModel" "roads" "I") ∈ WG := WG_in 832 (by decide +kernel) (by decide +kernel)
theorem w_833 : (Cond.fieldLink "RoadOracleModel" (9 : Nat) "RoadOracleModel" "froms" "[I") ∈ WG := WG_in 833 (by decide +kernel) (by decide +kernel)
theorem w_834 : (Cond.fieldLink "RoadOracleModel" (13 : Nat) "RoadOracleModel" "tos" "[I") ∈ WG := WG_in 834 (by decide +kernel) (by decide +kernel)
theorem w_835 : (Cond.fieldLink "RoadOracleModel" (16 : Nat) "RoadOracleModel" "weights" "[I") ∈ WG := WG_in 835 (by decide +kernel) (by decide +kernel)
theorem w_836 : (Cond.fieldLink "RoadOracleModel" (19 : Nat) "RoadOracleModel" "areOpen" "[Z") ∈ WG := WG_in 836 (by decide +kernel) (by decide +kernel)
theorem w_837 : (Cond.fieldLink "RoadOracleModel" (23 : Nat) "RoadOracleModel" "settings" "[I") ∈ WG := WG_in 837 (by decide +kernel) (by decide +kernel)
theorem w_838 : (Cond.fieldLink "RoadOracleModel" (26 : Nat) "RoadOracleModel" "uTurn" "I") ∈ WG := WG_in 838 (by decide +kernel) (by decide +kernel)
theorem w_839 : (Cond.fieldLink "RoadOracleModel" (97 : Nat) "RoadOracleModel" "isPrepared" "Z") ∈ WG := WG_in 839 (by decide +kernel) (by decide +kernel)
theorem w_840 : (Cond.fieldLink "RoadOracleModel" (30 : Nat) "RoadOracleModel" "positions" "[I") ∈ WG := WG_in 840 (by decide +kernel) (by decide +kernel)
theorem w_841 : (Cond.fieldLink "RoadOracleModel" (33 : Nat) "RoadOracleModel" "byPosition" "[I") ∈ WG := WG_in 841 (by decide +kernel) (by decide +kernel)
theorem w_842 : (Cond.fieldLink "RoadOracleModel" (36 : Nat) "RoadOracleModel" "isArc" "[Z") ∈ WG := WG_in 842 (by decide +kernel) (by decide +kernel)
theorem w_843 : (Cond.fieldLink "RoadOracleModel" (104 : Nat) "RoadOracleModel" "shortcuts" "I") ∈ WG := WG_in 843 (by decide +kernel) (by decide +kernel)
theorem w_844 : (Cond.fieldLink "RoadOracleModel" (101 : Nat) "RoadOracleModel" "arcs" "I") ∈ WG := WG_in 844 (by decide +kernel) (by decide +kernel)
theorem w_845 : (Cond.fieldLink "RoadOracleModel" (39 : Nat) "RoadOracleModel" "arcCosts" "[J") ∈ WG := WG_in 845 (by decide +kernel) (by decide +kernel)
theorem w_846 : (Cond.fieldLink "RoadOracleModel" (43 : Nat) "RoadOracleModel" "costsBefore" "[J") ∈ WG := WG_in 846 (by decide +kernel) (by decide +kernel)
theorem w_847 : (Cond.fieldLink "RoadOracleModel" (46 : Nat) "RoadOracleModel" "pairs" "[J") ∈ WG := WG_in 847 (by decide +kernel) (by decide +kernel)
theorem w_848 : (Cond.fieldLink "RoadOracleModel" (49 : Nat) "RoadOracleModel" "isPlace" "[Z") ∈ WG := WG_in 848 (by decide +kernel) (by decide +kernel)
theorem w_849 : (Cond.fieldLink "RoadOracleModel" (175 : Nat) "RoadOracleModel" "levels" "I") ∈ WG := WG_in 849 (by decide +kernel) (by decide +kernel)
theorem w_850 : (Cond.fieldLink "RoadOracleModel" (52 : Nat) "RoadOracleModel" "levelRoads" "[I") ∈ WG := WG_in 850 (by decide +kernel) (by decide +kernel)
theorem w_851 : (Cond.fieldLink "RoadOracleModel" (55 : Nat) "RoadOracleModel" "levelWeights" "[I") ∈ WG := WG_in 851 (by decide +kernel) (by decide +kernel)
theorem w_852 : (Cond.fieldLink "RoadOracleModel" (58 : Nat) "RoadOracleModel" "levelOpen" "[Z") ∈ WG := WG_in 852 (by decide +kernel) (by decide +kernel)
theorem w_853 : (Cond.fieldLink "RoadOracleModel" (62 : Nat) "RoadOracleModel" "levelSettings" "[I") ∈ WG := WG_in 853 (by decide +kernel) (by decide +kernel)
theorem w_854 : (Cond.fieldLink "RoadOracleModel" (65 : Nat) "RoadOracleModel" "levelUTurns" "[I") ∈ WG := WG_in 854 (by decide +kernel) (by decide +kernel)
theorem w_855 : (Cond.fieldLink "RoadOracleModel" (68 : Nat) "RoadOracleModel" "path" "[I") ∈ WG := WG_in 855 (by decide +kernel) (by decide +kernel)
theorem w_856 : (Cond.fieldLink "RoadOracleModel" (166 : Nat) "RoadOracleModel" "pathLength" "I") ∈ WG := WG_in 856 (by decide +kernel) (by decide +kernel)
theorem w_857 : (Cond.fieldLink "RoadOracleModel" (163 : Nat) "RoadOracleModel" "pathCost" "I") ∈ WG := WG_in 857 (by decide +kernel) (by decide +kernel)
theorem w_858 : (Cond.fieldLink "RoadOracleModel" (71 : Nat) "RoadOracleModel" "near" "[I") ∈ WG := WG_in 858 (by decide +kernel) (by decide +kernel)
theorem w_859 : (Cond.fieldLink "RoadOracleModel" (172 : Nat) "RoadOracleModel" "nearMany" "I") ∈ WG := WG_in 859 (by decide +kernel) (by decide +kernel)
theorem w_860 : (Cond.fieldLink "RoadOracleModel" (74 : Nat) "RoadOracleModel" "behind" "[J") ∈ WG := WG_in 860 (by decide +kernel) (by decide +kernel)
theorem w_861 : (Cond.fieldLink "RoadOracleModel" (77 : Nat) "RoadOracleModel" "counts" "[I") ∈ WG := WG_in 861 (by decide +kernel) (by decide +kernel)
theorem w_862 : (Cond.lays "RoadOracleModel" "RoadOracleModel" "thrown" "I") ∈ WG := WG_in 862 (by decide +kernel) (by decide +kernel)
theorem w_864 : (Cond.lays "RoadOracleModel" "RoadOracleModel" "junctions" "I") ∈ WG := WG_in 864 (by decide +kernel) (by decide +kernel)
theorem w_866 : (Cond.lays "RoadOracleModel" "RoadOracleModel" "roads" "I") ∈ WG := WG_in 866 (by decide +kernel) (by decide +kernel)
theorem w_868 : (Cond.laysFinal "RoadOracleModel" "RoadOracleModel" "froms" "[I") ∈ WG := WG_in 868 (by decide +kernel) (by decide +kernel)
theorem w_870 : (Cond.laysFinal "RoadOracleModel" "RoadOracleModel" "tos" "[I") ∈ WG := WG_in 870 (by decide +kernel) (by decide +kernel)
theorem w_872 : (Cond.laysFinal "RoadOracleModel" "RoadOracleModel" "weights" "[I") ∈ WG := WG_in 872 (by decide +kernel) (by decide +kernel)
theorem w_874 : (Cond.laysFinal "RoadOracleModel" "RoadOracleModel" "areOpen" "[Z") ∈ WG := WG_in 874 (by decide +kernel) (by decide +kernel)
theorem w_876 : (Cond.laysFinal "RoadOracleModel" "RoadOracleModel" "settings" "[I") ∈ WG := WG_in 876 (by decide +kernel) (by decide +kernel)
theorem w_878 : (Cond.lays "RoadOracleModel" "RoadOracleModel" "uTurn" "I") ∈ WG := WG_in 878 (by decide +kernel) (by decide +kernel)
theorem w_880 : (Cond.lays "RoadOracleModel" "RoadOracleModel" "isPrepared" "Z") ∈ WG := WG_in 880 (by decide +kernel) (by decide +kernel)
theorem w_882 : (Cond.laysFinal "RoadOracleModel" "RoadOracleModel" "positions" "[I") ∈ WG := WG_in 882 (by decide +kernel) (by decide +kernel)
theorem w_884 : (Cond.laysFinal "RoadOracleModel" "RoadOracleModel" "byPosition" "[I") ∈ WG := WG_in 884 (by decide +kernel) (by decide +kernel)
theorem w_886 : (Cond.laysFinal "RoadOracleModel" "RoadOracleModel" "isArc" "[Z") ∈ WG := WG_in 886 (by decide +kernel) (by decide +kernel)
theorem w_888 : (Cond.lays "RoadOracleModel" "RoadOracleModel" "shortcuts" "I") ∈ WG := WG_in 888 (by decide +kernel) (by decide +kernel)
theorem w_890 : (Cond.lays "RoadOracleModel" "RoadOracleModel" "arcs" "I") ∈ WG := WG_in 890 (by decide +kernel) (by decide +kernel)
theorem w_892 : (Cond.laysFinal "RoadOracleModel" "RoadOracleModel" "arcCosts" "[J") ∈ WG := WG_in 892 (by decide +kernel) (by decide +kernel)
theorem w_894 : (Cond.laysFinal "RoadOracleModel" "RoadOracleModel" "costsBefore" "[J") ∈ WG := WG_in 894 (by decide +kernel) (by decide +kernel)
theorem w_896 : (Cond.laysFinal "RoadOracleModel" "RoadOracleModel" "pairs" "[J") ∈ WG := WG_in 896 (by decide +kernel) (by decide +kernel)
theorem w_898 : (Cond.laysFinal "RoadOracleModel" "RoadOracleModel" "isPlace" "[Z") ∈ WG := WG_in 898 (by decide +kernel) (by decide +kernel)
theorem w_900 : (Cond.lays "RoadOracleModel" "RoadOracleModel" "levels" "I") ∈ WG := WG_in 900 (by decide +kernel) (by decide +kernel)
theorem w_902 : (Cond.laysFinal "RoadOracleModel" "RoadOracleModel" "levelRoads" "[I") ∈ WG := WG_in 902 (by decide +kernel) (by decide +kernel)
theorem w_904 : (Cond.laysFinal "RoadOracleModel" "RoadOracleModel" "levelWeights" "[I") ∈ WG := WG_in 904 (by decide +kernel) (by decide +kernel)
theorem w_906 : (Cond.laysFinal "RoadOracleModel" "RoadOracleModel" "levelOpen" "[Z") ∈ WG := WG_in 906 (by decide +kernel) (by decide +kernel)
theorem w_908 : (Cond.laysFinal "RoadOracleModel" "RoadOracleModel" "levelSettings" "[I") ∈ WG := WG_in 908 (by decide +kernel) (by decide +kernel)
theorem w_910 : (Cond.laysFinal "RoadOracleModel" "RoadOracleModel" "levelUTurns" "[I") ∈ WG := WG_in 910 (by decide +kernel) (by decide +kernel)
theorem w_912 : (Cond.laysFinal "RoadOracleModel" "RoadOracleModel" "path" "[I") ∈ WG := WG_in 912 (by decide +kernel) (by decide +kernel)
theorem w_914 : (Cond.lays "RoadOracleModel" "RoadOracleModel" "pathLength" "I") ∈ WG := WG_in 914 (by decide +kernel) (by decide +kernel)
theorem w_916 : (Cond.lays "RoadOracleModel" "RoadOracleModel" "pathCost" "I") ∈ WG := WG_in 916 (by decide +kernel) (by decide +kernel)
theorem w_918 : (Cond.laysFinal "RoadOracleModel" "RoadOracleModel" "near" "[I") ∈ WG := WG_in 918 (by decide +kernel) (by decide +kernel)
theorem w_920 : (Cond.lays "RoadOracleModel" "RoadOracleModel" "nearMany" "I") ∈ WG := WG_in 920 (by decide +kernel) (by decide +kernel)
theorem w_922 : (Cond.laysFinal "RoadOracleModel" "RoadOracleModel" "behind" "[J") ∈ WG := WG_in 922 (by decide +kernel) (by decide +kernel)
theorem w_924 : (Cond.laysFinal "RoadOracleModel" "RoadOracleModel" "counts" "[I") ∈ WG := WG_in 924 (by decide +kernel) (by decide +kernel)
theorem w_927 : (Cond.methodLink "RoadOracleLaw" (111 : Nat) yX4_thrown) ∈ WG := WG_in 927 (by decide +kernel) (by decide +kernel)
theorem w_928 : (Cond.instanceMethod yX4_thrown) ∈ WG := WG_in 928 (by decide +kernel) (by decide +kernel)
theorem w_929 : (Cond.selects "RoadOracleModel" yX4_thrown yX4_thrown) ∈ WG := WG_in 929 (by decide +kernel) (by decide +kernel)
theorem w_930 : (Cond.code yX4_thrown prog_6_method_2_code (1 : Nat) (Option.some FieldType.int)) ∈ WG := WG_in 930 (by decide +kernel) (by decide +kernel)
theorem w_931 : (Cond.methodLink "RoadOracleLaw" (110 : Nat) yX4_addJunction) ∈ WG := WG_in 931 (by decide +kernel) (by decide +kernel)
theorem w_932 : (Cond.instanceMethod yX4_addJunction) ∈ WG := WG_in 932 (by decide +kernel) (by decide +kernel)
theorem w_933 : (Cond.selects "RoadOracleModel" yX4_addJunction yX4_addJunction) ∈ WG := WG_in 933 (by decide +kernel) (by decide +kernel)
theorem w_934 : (Cond.code yX4_addJunction prog_6_method_7_code (1 : Nat) (Option.some FieldType.int)) ∈ WG := WG_in 934 (by decide +kernel) (by decide +kernel)
theorem w_935 : (Cond.methodLink "RoadOracleModel" (89 : Nat) yX4_fail) ∈ WG := WG_in 935 (by decide +kernel) (by decide +kernel)
theorem w_937 : (Cond.instanceMethod yX4_fail) ∈ WG := WG_in 937 (by decide +kernel) (by decide +kernel)
theorem w_938 : (Cond.code yX4_fail prog_6_method_3_code (2 : Nat) (Option.some FieldType.int)) ∈ WG := WG_in 938 (by decide +kernel) (by decide +kernel)
theorem w_939 : (Cond.methodLink "RoadOracleLaw" (117 : Nat) yX4_addRoad) ∈ WG := WG_in 939 (by decide +kernel) (by decide +kernel)
theorem w_940 : (Cond.instanceMethod yX4_addRoad) ∈ WG := WG_in 940 (by decide +kernel) (by decide +kernel)
theorem w_941 : (Cond.selects "RoadOracleModel" yX4_addRoad yX4_addRoad) ∈ WG := WG_in 941 (by decide +kernel) (by decide +kernel)
theorem w_942 : (Cond.code yX4_addRoad prog_6_method_8_code (4 : Nat) (Option.some FieldType.int)) ∈ WG := WG_in 942 (by decide +kernel) (by decide +kernel)
theorem w_943 : (Cond.methodLink "RoadOracleModel" (93 : Nat) yX4_isJunction) ∈ WG := WG_in 943 (by decide +kernel) (by decide +kernel)
theorem w_945 : (Cond.instanceMethod yX4_isJunction) ∈ WG := WG_in 945 (by decide +kernel) (by decide +kernel)
theorem w_946 : (Cond.code yX4_isJunction prog_6_method_4_code (2 : Nat) (Option.some FieldType.boolean)) ∈ WG := WG_in 946 (by decide +kernel) (by decide +kernel)
theorem w_947 : (Cond.methodLink "RoadOracleLaw" (121 : Nat) yX4_setWeight) ∈ WG := WG_in 947 (by decide +kernel) (by decide +kernel)
theorem w_948 : (Cond.instanceMethod yX4_setWeight) ∈ WG := WG_in 948 (by decide +kernel) (by decide +kernel)
theorem w_949 : (Cond.selects "RoadOracleModel" yX4_setWeight yX4_setWeight) ∈ WG := WG_in 949 (by decide +kernel) (by decide +kernel)
theorem w_950 : (Cond.code yX4_setWeight prog_6_method_11_code (3 : Nat) (Option.some FieldType.int)) ∈ WG := WG_in 950 (by decide +kernel) (by decide +kernel)
theorem w_951 : (Cond.methodLink "RoadOracleModel" (117 : Nat) yX4_isRoad) ∈ WG := WG_in 951 (by decide +kernel) (by decide +kernel)
theorem w_953 : (Cond.instanceMethod yX4_isRoad) ∈ WG := WG_in 953 (by decide +kernel) (by decide +kernel)
theorem w_954 : (Cond.code yX4_isRoad prog_6_method_5_code (2 : Nat) (Option.some FieldType.boolean)) ∈ WG := WG_in 954 (by decide +kernel) (by decide +kernel)
theorem w_955 : (Cond.methodLink "RoadOracleModel" (120 : Nat) yX4_renewed) ∈ WG := WG_in 955 (by decide +kernel) (by decide +kernel)
theorem w_957 : (Cond.instanceMethod yX4_renewed) ∈ WG := WG_in 957 (by decide +kernel) (by decide +kernel)
theorem w_958 : (Cond.code yX4_renewed prog_6_method_24_code (4 : Nat) (Option.some FieldType.int)) ∈ WG := WG_in 958 (by decide +kernel) (by decide +kernel)
theorem w_959 : (Cond.methodLink "RoadOracleModel" (131 : Nat) yX4_findCosts) ∈ WG := WG_in 959 (by decide +kernel) (by decide +kernel)
theorem w_961 : (Cond.instanceMethod yX4_findCosts) ∈ WG := WG_in 961 (by decide +kernel) (by decide +kernel)
theorem w_962 : (Cond.code yX4_findCosts prog_6_method_23_code (5 : Nat) (Option.none : Option FieldType)) ∈ WG := WG_in 962 (by decide +kernel) (by decide +kernel)
theorem w_963 : (Cond.methodLink "RoadOracleModel" (134 : Nat) yX4_step) ∈ WG := WG_in 963 (by decide +kernel) (by decide +kernel)
theorem w_965 : (Cond.instanceMethod yX4_step) ∈ WG := WG_in 965 (by decide +kernel) (by decide +kernel)
theorem w_966 : (Cond.code yX4_step prog_6_method_10_code (3 : Nat) (Option.some FieldType.long)) ∈ WG := WG_in 966 (by decide +kernel) (by decide +kernel)
theorem w_967 : (Cond.methodLink "RoadOracleModel" (107 : Nat) yX4_follows) ∈ WG := WG_in 967 (by decide +kernel) (by decide +kernel)
theorem w_969 : (Cond.instanceMethod yX4_follows) ∈ WG := WG_in 969 (by decide +kernel) (by decide +kernel)
theorem w_970 : (Cond.code yX4_follows prog_6_method_6_code (3 : Nat) (Option.some FieldType.boolean)) ∈ WG := WG_in 970 (by decide +kernel) (by decide +kernel)
theorem w_971 : (Cond.methodLink "RoadOracleModel" (111 : Nat) yX4_penalty) ∈ WG := WG_in 971 (by decide +kernel) (by decide +kernel)
theorem w_973 : (Cond.instanceMethod yX4_penalty) ∈ WG := WG_in 973 (by decide +kernel) (by decide +kernel)
theorem w_974 : (Cond.code yX4_penalty prog_6_method_9_code (4 : Nat) (Option.some FieldType.int)) ∈ WG := WG_in 974 (by decide +kernel) (by decide +kernel)
theorem w_975 : (Cond.constantLong "RoadOracleModel" (115 : Nat) (1000000000000 : Int64)) ∈ WG := WG_in 975 (by decide +kernel) (by decide +kernel)
theorem w_976 : (Cond.methodLink "RoadOracleModel" (138 : Nat) yJ9_min_f86c9) ∈ WG := WG_in 976 (by decide +kernel) (by decide +kernel)
theorem w_977 : (Cond.static yJ9_min_f86c9) ∈ WG := WG_in 977 (by decide +kernel) (by decide +kernel)
theorem w_978 : (Cond.code yJ9_min_f86c9 prog_15_method_70_code (4 : Nat) (Option.some FieldType.long)) ∈ WG := WG_in 978 (by decide +kernel) (by decide +kernel)
theorem w_979 : (Cond.methodLink "RoadOracleLaw" (125 : Nat) yX4_setOpen) ∈ WG := WG_in 979 (by decide +kernel) (by decide +kernel)
theorem w_980 : (Cond.instanceMethod yX4_setOpen) ∈ WG := WG_in 980 (by decide +kernel) (by decide +kernel)
theorem w_981 : (Cond.selects "RoadOracleModel" yX4_setOpen yX4_setOpen) ∈ WG := WG_in 981 (by decide +kernel) (by decide +kernel)
theorem w_982 : (Cond.code yX4_setOpen prog_6_method_12_code (3 : Nat) (Option.some FieldType.int)) ∈ WG := WG_in 982 (by decide +kernel) (by decide +kernel)
theorem w_983 : (Cond.methodLink "RoadOracleLaw" (128 : Nat) yX4_setTurn) ∈ WG := WG_in 983 (by decide +kernel) (by decide +kernel)
theorem w_984 : (Cond.instanceMethod yX4_setTurn) ∈ WG := WG_in 984 (by decide +kernel) (by decide +kernel)
theorem w_985 : (Cond.selects "RoadOracleModel" yX4_setTurn yX4_setTurn) ∈ WG := WG_in 985 (by decide +kernel) (by decide +kernel)
theorem w_986 : (Cond.code yX4_setTurn prog_6_method_13_code (4 : Nat) (Option.some FieldType.int)) ∈ WG := WG_in 986 (by decide +kernel) (by decide +kernel)
theorem w_987 : (Cond.methodLink "RoadOracleLaw" (132 : Nat) yX4_setUTurn) ∈ WG := WG_in 987 (by decide +kernel) (by decide +kernel)
theorem w_988 : (Cond.instanceMethod yX4_setUTurn) ∈ WG := WG_in 988 (by decide +kernel) (by decide +kernel)
theorem w_989 : (Cond.selects "RoadOracleModel" yX4_setUTurn yX4_setUTurn) ∈ WG := WG_in 989 (by decide +kernel) (by decide +kernel)
theorem w_990 : (Cond.code yX4_setUTurn prog_6_method_14_code (2 : Nat) (Option.some FieldType.int)) ∈ WG := WG_in 990 (by decide +kernel) (by decide +kernel)
theorem w_991 : (Cond.methodLink "RoadOracleLaw" (136 : Nat) yX4_junctionCount) ∈ WG := WG_in 991 (by decide +kernel) (by decide +kernel)
theorem w_992 : (Cond.instanceMethod yX4_junctionCount) ∈ WG := WG_in 992 (by decide +kernel) (by decide +kernel)
theorem w_993 : (Cond.selects "RoadOracleModel" yX4_junctionCount yX4_junctionCount) ∈ WG := WG_in 993 (by decide +kernel) (by decide +kernel)
theorem w_994 : (Cond.code yX4_junctionCount prog_6_method_15_code (1 : Nat) (Option.some FieldType.int)) ∈ WG := WG_in 994 (by decide +kernel) (by decide +kernel)
theorem w_995 : (Cond.methodLink "RoadOracleLaw" (140 : Nat) yX4_roadCount) ∈ WG := WG_in 995 (by decide +kernel) (by decide +kernel)
theorem w_996 : (Cond.instanceMethod yX4_roadCount) ∈ WG := WG_in 996 (by decide +kernel) (by decide +kernel)
theorem w_997 : (Cond.selects "RoadOracleModel" yX4_roadCount yX4_roadCount) ∈ WG := WG_in 997 (by decide +kernel) (by decide +kernel)
theorem w_998 : (Cond.code yX4_roadCount prog_6_method_16_code (1 : Nat) (Option.some FieldType.int)) ∈ WG := WG_in 998 (by decide +kernel) (by decide +kernel)
theorem w_999 : (Cond.methodLink "RoadOracleLaw" (143 : Nat) yX4_weight) ∈ WG := WG_in 999 (by decide +kernel) (by decide +kernel)
theorem w_1000 : (Cond.instanceMethod yX4_weight) ∈ WG := WG_in 1000 (by decide +kernel) (by decide +kernel)
theorem w_1001 : (Cond.selects "RoadOracleModel" yX4_weight yX4_weight) ∈ WG := WG_in 1001 (by decide +kernel) (by decide +kernel)
theorem w_1002 : (Cond.code yX4_weight prog_6_method_17_code (2 : Nat) (Option.some FieldType.int)) ∈ WG := WG_in 1002 (by decide +kernel) (by decide +kernel)
theorem w_1003 : (Cond.methodLink "RoadOracleLaw" (146 : Nat) yX4_isOpen) ∈ WG := WG_in 1003 (by decide +kernel) (by decide +kernel)
theorem w_1004 : (Cond.instanceMethod yX4_isOpen) ∈ WG := WG_in 1004 (by decide +kernel) (by decide +kernel)
theorem w_1005 : (Cond.selects "RoadOracleModel" yX4_isOpen yX4_isOpen) ∈ WG := WG_in 1005 (by decide +kernel) (by decide +kernel)
theorem w_1006 : (Cond.code yX4_isOpen prog_6_method_18_code (2 : Nat) (Option.some FieldType.boolean)) ∈ WG := WG_in 1006 (by decide +kernel) (by decide +kernel)
theorem w_1007 : (Cond.methodLink "RoadOracleLaw" (149 : Nat) yX4_turnPenalty) ∈ WG := WG_in 1007 (by decide +kernel) (by decide +kernel)
theorem w_1008 : (Cond.instanceMethod yX4_turnPenalty) ∈ WG := WG_in 1008 (by decide +kernel) (by decide +kernel)
theorem w_1009 : (Cond.selects "RoadOracleModel" yX4_turnPenalty yX4_turnPenalty) ∈ WG := WG_in 1009 (by decide +kernel) (by decide +kernel)
theorem w_1010 : (Cond.code yX4_turnPenalty prog_6_method_19_code (3 : Nat) (Option.some FieldType.int)) ∈ WG := WG_in 1010 (by decide +kernel) (by decide +kernel)
theorem w_1011 : (Cond.methodLink "RoadOracleLaw" (152 : Nat) yX4_prepare) ∈ WG := WG_in 1011 (by decide +kernel) (by decide +kernel)
theorem w_1012 : (Cond.instanceMethod yX4_prepare) ∈ WG := WG_in 1012 (by decide +kernel) (by decide +kernel)
theorem w_1013 : (Cond.selects "RoadOracleModel" yX4_prepare yX4_prepare) ∈ WG := WG_in 1013 (by decide +kernel) (by decide +kernel)
theorem w_1014 : (Cond.code yX4_prepare prog_6_method_20_code (3 : Nat) (Option.some FieldType.int)) ∈ WG := WG_in 1014 (by decide +kernel) (by decide +kernel)
theorem w_1015 : (Cond.methodLink "RoadOracleModel" (124 : Nat) yX4_next) ∈ WG := WG_in 1015 (by decide +kernel) (by decide +kernel)
theorem w_1017 : (Cond.instanceMethod yX4_next) ∈ WG := WG_in 1017 (by decide +kernel) (by decide +kernel)
theorem w_1018 : (Cond.code yX4_next prog_6_method_21_code (7 : Nat) (Option.some FieldType.int)) ∈ WG := WG_in 1018 (by decide +kernel) (by decide +kernel)
theorem w_1019 : (Cond.methodLink "RoadOracleModel" (127 : Nat) yX4_take) ∈ WG := WG_in 1019 (by decide +kernel) (by decide +kernel)
theorem w_1021 : (Cond.instanceMethod yX4_take) ∈ WG := WG_in 1021 (by decide +kernel) (by decide +kernel)
theorem w_1022 : (Cond.code yX4_take prog_6_method_22_code (5 : Nat) (Option.none : Option FieldType)) ∈ WG := WG_in 1022 (by decide +kernel) (by decide +kernel)
theorem w_1023 : (Cond.methodLink "RoadOracleLaw" (157 : Nat) yX4_isPrepared) ∈ WG := WG_in 1023 (by decide +kernel) (by decide +kernel)
theorem w_1024 : (Cond.instanceMethod yX4_isPrepared) ∈ WG := WG_in 1024 (by decide +kernel) (by decide +kernel)
theorem w_1025 : (Cond.selects "RoadOracleModel" yX4_isPrepared yX4_isPrepared) ∈ WG := WG_in 1025 (by decide +kernel) (by decide +kernel)
theorem w_1026 : (Cond.code yX4_isPrepared prog_6_method_25_code (1 : Nat) (Option.some FieldType.boolean)) ∈ WG := WG_in 1026 (by decide +kernel) (by decide +kernel)
theorem w_1027 : (Cond.methodLink "RoadOracleLaw" (160 : Nat) yX4_position) ∈ WG := WG_in 1027 (by decide +kernel) (by decide +kernel)
theorem w_1028 : (Cond.instanceMethod yX4_position) ∈ WG := WG_in 1028 (by decide +kernel) (by decide +kernel)
theorem w_1029 : (Cond.selects "RoadOracleModel" yX4_position yX4_position) ∈ WG := WG_in 1029 (by decide +kernel) (by decide +kernel)
theorem w_1030 : (Cond.code yX4_position prog_6_method_26_code (2 : Nat) (Option.some FieldType.int)) ∈ WG := WG_in 1030 (by decide +kernel) (by decide +kernel)
theorem w_1031 : (Cond.methodLink "RoadOracleLaw" (164 : Nat) yX4_arcCount) ∈ WG := WG_in 1031 (by decide +kernel) (by decide +kernel)
theorem w_1032 : (Cond.instanceMethod yX4_arcCount) ∈ WG := WG_in 1032 (by decide +kernel) (by decide +kernel)
theorem w_1033 : (Cond.selects "RoadOracleModel" yX4_arcCount yX4_arcCount) ∈ WG := WG_in 1033 (by decide +kernel) (by decide +kernel)
theorem w_1034 : (Cond.code yX4_arcCount prog_6_method_27_code (1 : Nat) (Option.some FieldType.int)) ∈ WG := WG_in 1034 (by decide +kernel) (by decide +kernel)
theorem w_1035 : (Cond.methodLink "RoadOracleLaw" (167 : Nat) yX4_hasArc) ∈ WG := WG_in 1035 (by decide +kernel) (by decide +kernel)
theorem w_1036 : (Cond.instanceMethod yX4_hasArc) ∈ WG := WG_in 1036 (by decide +kernel) (by decide +kernel)
theorem w_1037 : (Cond.selects "RoadOracleModel" yX4_hasArc yX4_hasArc) ∈ WG := WG_in 1037 (by decide +kernel) (by decide +kernel)
theorem w_1038 : (Cond.code yX4_hasArc prog_6_method_28_code (3 : Nat) (Option.some FieldType.boolean)) ∈ WG := WG_in 1038 (by decide +kernel) (by decide +kernel)
theorem w_1039 : (Cond.methodLink "RoadOracleLaw" (170 : Nat) yX4_arcCost) ∈ WG := WG_in 1039 (by decide +kernel) (by decide +kernel)
theorem w_1040 : (Cond.instanceMethod yX4_arcCost) ∈ WG := WG_in 1040 (by decide +kernel) (by decide +kernel)
theorem w_1041 : (Cond.selects "RoadOracleModel" yX4_arcCost yX4_arcCost) ∈ WG := WG_in 1041 (by decide +kernel) (by decide +kernel)
theorem w_1042 : (Cond.code yX4_arcCost prog_6_method_30_code (3 : Nat) (Option.some FieldType.int)) ∈ WG := WG_in 1042 (by decide +kernel) (by decide +kernel)
theorem w_1043 : (Cond.methodLink "RoadOracleModel" (144 : Nat) yX4_costOf) ∈ WG := WG_in 1043 (by decide +kernel) (by decide +kernel)
theorem w_1045 : (Cond.instanceMethod yX4_costOf) ∈ WG := WG_in 1045 (by decide +kernel) (by decide +kernel)
theorem w_1046 : (Cond.code yX4_costOf prog_6_method_29_code (3 : Nat) (Option.some FieldType.int)) ∈ WG := WG_in 1046 (by decide +kernel) (by decide +kernel)
theorem w_1047 : (Cond.methodLink "RoadOracleLaw" (173 : Nat) yX4_distance) ∈ WG := WG_in 1047 (by decide +kernel) (by decide +kernel)
theorem w_1048 : (Cond.instanceMethod yX4_distance) ∈ WG := WG_in 1048 (by decide +kernel) (by decide +kernel)
theorem w_1049 : (Cond.selects "RoadOracleModel" yX4_distance yX4_distance) ∈ WG := WG_in 1049 (by decide +kernel) (by decide +kernel)
theorem w_1050 : (Cond.code yX4_distance prog_6_method_36_code (3 : Nat) (Option.some FieldType.int)) ∈ WG := WG_in 1050 (by decide +kernel) (by decide +kernel)
theorem w_1051 : (Cond.methodLink "RoadOracleModel" (157 : Nat) yX4_lookedAt) ∈ WG := WG_in 1051 (by decide +kernel) (by decide +kernel)
theorem w_1053 : (Cond.instanceMethod yX4_lookedAt) ∈ WG := WG_in 1053 (by decide +kernel) (by decide +kernel)
theorem w_1054 : (Cond.code yX4_lookedAt prog_6_method_35_code (3 : Nat) (Option.some FieldType.int)) ∈ WG := WG_in 1054 (by decide +kernel) (by decide +kernel)
theorem w_1055 : (Cond.methodLink "RoadOracleModel" (160 : Nat) yX4_distanceBetween) ∈ WG := WG_in 1055 (by decide +kernel) (by decide +kernel)
theorem w_1057 : (Cond.instanceMethod yX4_distanceBetween) ∈ WG := WG_in 1057 (by decide +kernel) (by decide +kernel)
theorem w_1058 : (Cond.code yX4_distanceBetween prog_6_method_34_code (4 : Nat) (Option.some FieldType.int)) ∈ WG := WG_in 1058 (by decide +kernel) (by decide +kernel)
theorem w_1059 : (Cond.methodLink "RoadOracleModel" (150 : Nat) yX4_findBehind) ∈ WG := WG_in 1059 (by decide +kernel) (by decide +kernel)
theorem w_1061 : (Cond.instanceMethod yX4_findBehind) ∈ WG := WG_in 1061 (by decide +kernel) (by decide +kernel)
theorem w_1062 : (Cond.code yX4_findBehind prog_6_method_31_code (5 : Nat) (Option.none : Option FieldType)) ∈ WG := WG_in 1062 (by decide +kernel) (by decide +kernel)
theorem w_1063 : (Cond.methodLink "RoadOracleModel" (147 : Nat) yX4_improves) ∈ WG := WG_in 1063 (by decide +kernel) (by decide +kernel)
theorem w_1065 : (Cond.instanceMethod yX4_improves) ∈ WG := WG_in 1065 (by decide +kernel) (by decide +kernel)
theorem w_1066 : (Cond.code yX4_improves prog_6_method_32_code (5 : Nat) (Option.some FieldType.boolean)) ∈ WG := WG_in 1066 (by decide +kernel) (by decide +kernel)
theorem w_1067 : (Cond.methodLink "RoadOracleModel" (154 : Nat) yX4_firstRoad) ∈ WG := WG_in 1067 (by decide +kernel) (by decide +kernel)
theorem w_1069 : (Cond.instanceMethod yX4_firstRoad) ∈ WG := WG_in 1069 (by decide +kernel) (by decide +kernel)
theorem w_1070 : (Cond.code yX4_firstRoad prog_6_method_33_code (4 : Nat) (Option.some FieldType.int)) ∈ WG := WG_in 1070 (by decide +kernel) (by decide +kernel)
theorem w_1071 : (Cond.methodLink "RoadOracleLaw" (176 : Nat) yX4_distanceBehind) ∈ WG := WG_in 1071 (by decide +kernel) (by decide +kernel)
theorem w_1072 : (Cond.instanceMethod yX4_distanceBehind) ∈ WG := WG_in 1072 (by decide +kernel) (by decide +kernel)
theorem w_1073 : (Cond.selects "RoadOracleModel" yX4_distanceBehind yX4_distanceBehind) ∈ WG := WG_in 1073 (by decide +kernel) (by decide +kernel)
theorem w_1074 : (Cond.code yX4_distanceBehind prog_6_method_37_code (3 : Nat) (Option.some FieldType.int)) ∈ WG := WG_in 1074 (by decide +kernel) (by decide +kernel)
theorem w_1075 : (Cond.methodLink "RoadOracleLaw" (179 : Nat) yX4_route) ∈ WG := WG_in 1075 (by decide +kernel) (by decide +kernel)
theorem w_1076 : (Cond.instanceMethod yX4_route) ∈ WG := WG_in 1076 (by decide +kernel) (by decide +kernel)
theorem w_1077 : (Cond.selects "RoadOracleModel" yX4_route yX4_route) ∈ WG := WG_in 1077 (by decide +kernel) (by decide +kernel)
theorem w_1078 : (Cond.code yX4_route prog_6_method_38_code (5 : Nat) (Option.some FieldType.int)) ∈ WG := WG_in 1078 (by decide +kernel) (by decide +kernel)
theorem w_1079 : (Cond.methodLink "RoadOracleModel" (169 : Nat) yX4_nextRoad) ∈ WG := WG_in 1079 (by decide +kernel) (by decide +kernel)
theorem w_1081 : (Cond.instanceMethod yX4_nextRoad) ∈ WG := WG_in 1081 (by decide +kernel) (by decide +kernel)
theorem w_1082 : (Cond.code yX4_nextRoad prog_6_method_39_code (3 : Nat) (Option.some FieldType.int)) ∈ WG := WG_in 1082 (by decide +kernel) (by decide +kernel)
theorem w_1083 : (Cond.methodLink "RoadOracleLaw" (182 : Nat) yX4_routeRoad) ∈ WG := WG_in 1083 (by decide +kernel) (by decide +kernel)
theorem w_1084 : (Cond.instanceMethod yX4_routeRoad) ∈ WG := WG_in 1084 (by decide +kernel) (by decide +kernel)
theorem w_1085 : (Cond.selects "RoadOracleModel" yX4_routeRoad yX4_routeRoad) ∈ WG := WG_in 1085 (by decide +kernel) (by decide +kernel)
theorem w_1086 : (Cond.code yX4_routeRoad prog_6_method_40_code (2 : Nat) (Option.some FieldType.int)) ∈ WG := WG_in 1086 (by decide +kernel) (by decide +kernel)
theorem w_1087 : (Cond.methodLink "RoadOracleLaw" (186 : Nat) yX4_routeCost) ∈ WG := WG_in 1087 (by decide +kernel) (by decide +kernel)
theorem w_1088 : (Cond.instanceMethod yX4_routeCost) ∈ WG := WG_in 1088 (by decide +kernel) (by decide +kernel)
theorem w_1089 : (Cond.selects "RoadOracleModel" yX4_routeCost yX4_routeCost) ∈ WG := WG_in 1089 (by decide +kernel) (by decide +kernel)
theorem w_1090 : (Cond.code yX4_routeCost prog_6_method_41_code (1 : Nat) (Option.some FieldType.int)) ∈ WG := WG_in 1090 (by decide +kernel) (by decide +kernel)
theorem w_1091 : (Cond.methodLink "RoadOracleLaw" (189 : Nat) yX4_reach) ∈ WG := WG_in 1091 (by decide +kernel) (by decide +kernel)
theorem w_1092 : (Cond.instanceMethod yX4_reach) ∈ WG := WG_in 1092 (by decide +kernel) (by decide +kernel)
theorem w_1093 : (Cond.selects "RoadOracleModel" yX4_reach yX4_reach) ∈ WG := WG_in 1093 (by decide +kernel) (by decide +kernel)
theorem w_1094 : (Cond.code yX4_reach prog_6_method_42_code (6 : Nat) (Option.some FieldType.int)) ∈ WG := WG_in 1094 (by decide +kernel) (by decide +kernel)
theorem w_1095 : (Cond.methodLink "RoadOracleLaw" (192 : Nat) yX4_reached) ∈ WG := WG_in 1095 (by decide +kernel) (by decide +kernel)
theorem w_1096 : (Cond.instanceMethod yX4_reached) ∈ WG := WG_in 1096 (by decide +kernel) (by decide +kernel)
theorem w_1097 : (Cond.selects "RoadOracleModel" yX4_reached yX4_reached) ∈ WG := WG_in 1097 (by decide +kernel) (by decide +kernel)
theorem w_1098 : (Cond.code yX4_reached prog_6_method_43_code (2 : Nat) (Option.some FieldType.int)) ∈ WG := WG_in 1098 (by decide +kernel) (by decide +kernel)
theorem w_1099 : (Cond.methodLink "RoadOracleLaw" (196 : Nat) yX4_averageDistance) ∈ WG := WG_in 1099 (by decide +kernel) (by decide +kernel)
theorem w_1100 : (Cond.instanceMethod yX4_averageDistance) ∈ WG := WG_in 1100 (by decide +kernel) (by decide +kernel)
theorem w_1101 : (Cond.selects "RoadOracleModel" yX4_averageDistance yX4_averageDistance) ∈ WG := WG_in 1101 (by decide +kernel) (by decide +kernel)
theorem w_1102 : (Cond.code yX4_averageDistance prog_6_method_44_code (7 : Nat) (Option.some FieldType.double)) ∈ WG := WG_in 1102 (by decide +kernel) (by decide +kernel)
theorem w_1103 : (Cond.methodLink "RoadOracleLaw" (199 : Nat) yX4_detour) ∈ WG := WG_in 1103 (by decide +kernel) (by decide +kernel)
theorem w_1104 : (Cond.instanceMethod yX4_detour) ∈ WG := WG_in 1104 (by decide +kernel) (by decide +kernel)
theorem w_1105 : (Cond.selects "RoadOracleModel" yX4_detour yX4_detour) ∈ WG := WG_in 1105 (by decide +kernel) (by decide +kernel)
theorem w_1106 : (Cond.code yX4_detour prog_6_method_45_code (7 : Nat) (Option.some FieldType.int)) ∈ WG := WG_in 1106 (by decide +kernel) (by decide +kernel)
theorem w_1107 : (Cond.methodLink "RoadOracleLaw" (203 : Nat) yX4_setPlace) ∈ WG := WG_in 1107 (by decide +kernel) (by decide +kernel)
theorem w_1108 : (Cond.instanceMethod yX4_setPlace) ∈ WG := WG_in 1108 (by decide +kernel) (by decide +kernel)
theorem w_1109 : (Cond.selects "RoadOracleModel" yX4_setPlace yX4_setPlace) ∈ WG := WG_in 1109 (by decide +kernel) (by decide +kernel)
theorem w_1110 : (Cond.code yX4_setPlace prog_6_method_46_code (5 : Nat) (Option.some FieldType.boolean)) ∈ WG := WG_in 1110 (by decide +kernel) (by decide +kernel)
theorem w_1111 : (Cond.methodLink "RoadOracleLaw" (206 : Nat) yX4_nearest) ∈ WG := WG_in 1111 (by decide +kernel) (by decide +kernel)
theorem w_1112 : (Cond.instanceMethod yX4_nearest) ∈ WG := WG_in 1112 (by decide +kernel) (by decide +kernel)
theorem w_1113 : (Cond.selects "RoadOracleModel" yX4_nearest yX4_nearest) ∈ WG := WG_in 1113 (by decide +kernel) (by decide +kernel)
theorem w_1114 : (Cond.code yX4_nearest prog_6_method_47_code (7 : Nat) (Option.some FieldType.int)) ∈ WG := WG_in 1114 (by decide +kernel) (by decide +kernel)
theorem w_1115 : (Cond.methodLink "RoadOracleLaw" (209 : Nat) yX4_push) ∈ WG := WG_in 1115 (by decide +kernel) (by decide +kernel)
theorem w_1116 : (Cond.instanceMethod yX4_push) ∈ WG := WG_in 1116 (by decide +kernel) (by decide +kernel)
theorem w_1117 : (Cond.selects "RoadOracleModel" yX4_push yX4_push) ∈ WG := WG_in 1117 (by decide +kernel) (by decide +kernel)
theorem w_1118 : (Cond.code yX4_push prog_6_method_48_code (2 : Nat) (Option.some FieldType.int)) ∈ WG := WG_in 1118 (by decide +kernel) (by decide +kernel)
theorem w_1119 : (Cond.methodLink "RoadOracleLaw" (212 : Nat) yX4_pop) ∈ WG := WG_in 1119 (by decide +kernel) (by decide +kernel)
theorem w_1120 : (Cond.instanceMethod yX4_pop) ∈ WG := WG_in 1120 (by decide +kernel) (by decide +kernel)
theorem w_1121 : (Cond.selects "RoadOracleModel" yX4_pop yX4_pop) ∈ WG := WG_in 1121 (by decide +kernel) (by decide +kernel)
theorem w_1122 : (Cond.code yX4_pop prog_6_method_49_code (4 : Nat) (Option.some FieldType.int)) ∈ WG := WG_in 1122 (by decide +kernel) (by decide +kernel)
theorem w_1123 : (Cond.methodLink "RoadOracleLaw" (217 : Nat) yX4_digest) ∈ WG := WG_in 1123 (by decide +kernel) (by decide +kernel)
theorem w_1124 : (Cond.instanceMethod yX4_digest) ∈ WG := WG_in 1124 (by decide +kernel) (by decide +kernel)
theorem w_1125 : (Cond.selects "RoadOracleModel" yX4_digest yX4_digest) ∈ WG := WG_in 1125 (by decide +kernel) (by decide +kernel)
theorem w_1126 : (Cond.code yX4_digest prog_6_method_50_code (5 : Nat) (Option.some FieldType.long)) ∈ WG := WG_in 1126 (by decide +kernel) (by decide +kernel)
theorem w_1127 : (Cond.constantLong "RoadOracleModel" (178 : Nat) (713 : Int64)) ∈ WG := WG_in 1127 (by decide +kernel) (by decide +kernel)
theorem w_1128 : (Cond.constantLong "RoadOracleModel" (180 : Nat) (31 : Int64)) ∈ WG := WG_in 1128 (by decide +kernel) (by decide +kernel)
theorem w_1129 : (Cond.arrayClass FieldType.double) ∈ WG := WG_in 1129 (by decide +kernel) (by decide +kernel)
theorem w_1130 : (Cond.sameMethod "java/lang/Throwable" "java/lang/Throwable" "fillInStackTrace" "(I)Ljava/lang/Throwable;") ∈ WG := WG_in 1130 (by decide +kernel) (by decide +kernel)
end
section
/-! worlds: ints by cell and place, longs by cell and place -/
abbrev WS : Type := (Nat → Nat → Int32) × (Nat → Nat → Int64)
def wI (w : WS) (c i : Nat) (v : Int32) : WS := (fun a => if a = c then upd (w.1 a) i v else w.1 a, w.2)
def wL (w : WS) (c i : Nat) (v : Int64) : WS := (w.1, fun a => if a = c then vp_updL (w.2 a) i v else w.2 a)
def wF (w : WS) (c : Nat) (f : Nat → Int32) : WS := (fun a => if a = c then f else w.1 a, w.2)
/-! the pure programs' words -/
def nm {α β : Type} (x : α) (k : α → β) : β := k x
noncomputable def ck {α : Type} (c : Prop) (F : Option α) : Option α := @ite _ c (Classical.propDecidable c) F none
theorem ck_some {α : Type} {c : Prop} {F : Option α} {o : α} (h : ck c F = some o) : c ∧ F = some o := by
  unfold ck at h
  by_cases hc : c
  · rw [if_pos hc] at h; exact ⟨hc, h⟩
  · rw [if_neg hc] at h; cases h
theorem ck_t {α : Type} {c : Prop} {F : Option α} (h : c) : ck c F = F := by unfold ck; rw [if_pos h]
def bn {α β : Type} (x : Option α) (k : α → Option β) : Option β := match x with
  | none => none
  | some a => k a
theorem bn_some {α β : Type} {x : Option α} {k : α → Option β} {o : β} (h : bn x k = some o) : ∃ a, x = some a ∧ k a = some o := by
  cases x with
  | none => cases h
  | some a => exact ⟨a, rfl, h⟩
def bn2 {α β γ : Type} (x : Option (α × β)) (k : α → β → Option γ) : Option γ := match x with
  | none => none
  | some q => k q.1 q.2
theorem bn2_some {α β γ : Type} {x : Option (α × β)} {k : α → β → Option γ} {o : γ} (h : bn2 x k = some o) : ∃ a b, x = some (a, b) ∧ k a b = some o := by
  cases x with
  | none => cases h
  | some a => exact ⟨a.1, a.2, rfl, h⟩
/-- a callee that answers (left) or throws (right) -/
def bx {α ε γ : Type} (x : Option (α ⊕ ε)) (g : ε → Option γ) (k : α → Option γ) : Option γ := match x with
  | none => none
  | some (.inl a) => k a
  | some (.inr q) => g q
theorem bx_some {α ε γ : Type} {x : Option (α ⊕ ε)} {g : ε → Option γ} {k : α → Option γ} {o : γ} (h : bx x g k = some o) : (∃ a, x = some (.inl a) ∧ k a = some o) ∨ ∃ q, x = some (.inr q) ∧ g q = some o := by
  match x, h with
  | none, h => cases h
  | some (.inl a), h => exact Or.inl ⟨a, rfl, h⟩
  | some (.inr q), h => exact Or.inr ⟨q, rfl, h⟩
/-- a loop: the body goes on (left) or leaves (right) -/
def iter {σ ρ : Type} (f : σ → Option (σ ⊕ ρ)) : Nat → σ → Option ρ
  | 0, _ => none
  | n + 1, x => match f x with
    | none => none
    | some (.inl y) => iter f n y
    | some (.inr r) => some r
theorem iter_some {σ ρ : Type} {f : σ → Option (σ ⊕ ρ)} {n : Nat} {x : σ} {r : ρ} (h : iter f (n + 1) x = some r) : (∃ y, f x = some (.inl y) ∧ iter f n y = some r) ∨ f x = some (.inr r) := by
  unfold iter at h
  match hf : f x, h with
  | some (.inl y), h => exact Or.inl ⟨y, rfl, h⟩
  | some (.inr q), h => exact Or.inr (congrArg some (congrArg Sum.inr (Option.some.inj h)))
theorem iter_0 {σ ρ : Type} {f : σ → Option (σ ⊕ ρ)} {x : σ} {r : ρ} (h : iter f 0 x = some r) : False := by cases h
/-! the judgement over worlds -/
def CS (p : Program) (l : Launch) (e : Env) (R : Room) (s : State) (m : MethodId) (args : Array Value) (below : List Frame) (meth : Method) (c : Code) (D : va_G) (A : Nat → Prop) (nL cells slots : Nat) (Q : State → Prop) (ws : va_W) (pc : Nat) (lv : List (Nat × Value)) (st : List Value) : Prop :=
  ∀ (H : Heap) (locs : List Loc) (ls : Array Slot), va_P D vwCl ws H → va_D A ws → va_S A s.heap H locs → lv_has ls nL lv → W p l e R s m args below meth c H locs cells slots Q (F0 m pc ls st)
abbrev tyS (kA : Nat → ClassId) : List (ClassId × FieldType) := [(kA 0, .int), (kA 1, .long), (kA 2, .boolean), (kA 3, .double)]
section FR
variable {p : Program} {l : Launch} {e : Env} {R : Room} {s : State} {m : MethodId} {args : Array Value} {below : List Frame} {meth : Method} {c : Code} {D : va_G} {kA : Nat → ClassId} {A : Nat → Prop} {nL cells slots : Nat} {Q : State → Prop} {cc : ByteArray} {own : String} {ws : va_W} {pc : Nat} {lv : List (Nat × Value)} {st : List Value}
abbrev CX (p : Program) (m : MethodId) (c : Code) (cc : ByteArray) (nL : Nat) (s : State) (args : Array Value) (own : String) : Prop := CallFix p m c cc nL s args WG own
theorem x_iconst (X : CX p m c cc nL s args own) {n : Int} {v : Int32} (hd : decode cc pc = .ok (.iconst n, 1)) (hv : Int32.ofInt n = v) (kk : CS p l e R s m args below meth c D A nL cells slots Q ws (pc + 1) lv (.int v :: st)) : CS p l e R s m args below meth c D A nL cells slots Q ws pc lv (st) := fun H locs ls hP hD hS hl => lv_iconst X.1 X.2.1 hd hv (kk H locs ls hP hD hS hl)
theorem x_bipush (X : CX p m c cc nL s args own) {n : Int} {v : Int32} (hd : decode cc pc = .ok (.bipush n, 2)) (hv : (Int8.ofInt n).toInt32 = v) (kk : CS p l e R s m args below meth c D A nL cells slots Q ws (pc + 2) lv (.int v :: st)) : CS p l e R s m args below meth c D A nL cells slots Q ws pc lv (st) := fun H locs ls hP hD hS hl => lv_bipush X.1 X.2.1 hd hv (kk H locs ls hP hD hS hl)
theorem x_sipush (X : CX p m c cc nL s args own) {n : Int} {v : Int32} (hd : decode cc pc = .ok (.sipush n, 3)) (hv : (Int16.ofInt n).toInt32 = v) (kk : CS p l e R s m args below meth c D A nL cells slots Q ws (pc + 3) lv (.int v :: st)) : CS p l e R s m args below meth c D A nL cells slots Q ws pc lv (st) := fun H locs ls hP hD hS hl => lv_sipush X.1 X.2.1 hd hv (kk H locs ls hP hD hS hl)
theorem x_lconst (X : CX p m c cc nL s args own) {n : Fin 2} {v : Int64} (hd : decode cc pc = .ok (.lconst n, 1)) (hv : Int64.ofNat (n : Nat) = v) (kk : CS p l e R s m args below meth c D A nL cells slots Q ws (pc + 1) lv (.long v :: st)) : CS p l e R s m args below meth c D A nL cells slots Q ws pc lv (st) := fun H locs ls hP hD hS hl => lv_lconst X.1 X.2.1 hd hv (kk H locs ls hP hD hS hl)
theorem x_iload_n (X : CX p m c cc nL s args own) {k : Fin 4} {x : Int32} (hd : decode cc pc = .ok (.iload_n k, 1)) (j : Nat) (hj : lv[j]? = some ((k : Nat), .int x)) (kk : CS p l e R s m args below meth c D A nL cells slots Q ws (pc + 1) lv (.int x :: st)) : CS p l e R s m args below meth c D A nL cells slots Q ws pc lv st := fun H locs ls hP hD hS hl => lv_iload_n X.1 X.2.1 hd rfl (lv_at hl j hj) (kk H locs ls hP hD hS hl)
theorem x_iload (X : CX p m c cc nL s args own) {i : Nat} {x : Int32} (hd : decode cc pc = .ok (.iload i, 2)) (j : Nat) (hj : lv[j]? = some (i, .int x)) (kk : CS p l e R s m args below meth c D A nL cells slots Q ws (pc + 2) lv (.int x :: st)) : CS p l e R s m args below meth c D A nL cells slots Q ws pc lv st := fun H locs ls hP hD hS hl => lv_iload X.1 X.2.1 hd (lv_at hl j hj) (kk H locs ls hP hD hS hl)
theorem x_istore_n (X : CX p m c cc nL s args own) {k : Fin 4} {x : Int32} {lv2 : List (Nat × Value)} (hd : decode cc pc = .ok (.istore_n k, 1)) (hn : (k : Nat) < nL) (hl2 : ((k : Nat), Value.int x) :: lv.filter (fun q => !(q.1 == (k : Nat)) && !(q.1 + 1 == (k : Nat) && q.2.category == 2)) = lv2) (kk : CS p l e R s m args below meth c D A nL cells slots Q ws (pc + 1) lv2 st) : CS p l e R s m args below meth c D A nL cells slots Q ws pc lv (.int x :: st) := fun H locs ls hP hD hS hl => lv_istore_n X.1 X.2.1 hd rfl hl hn hl2 (fun ls hl => kk H locs ls hP hD hS hl)
theorem x_istore (X : CX p m c cc nL s args own) {i : Nat} {x : Int32} {lv2 : List (Nat × Value)} (hd : decode cc pc = .ok (.istore i, 2)) (hn : i < nL) (hl2 : (i, Value.int x) :: lv.filter (fun q => !(q.1 == i) && !(q.1 + 1 == i && q.2.category == 2)) = lv2) (kk : CS p l e R s m args below meth c D A nL cells slots Q ws (pc + 2) lv2 st) : CS p l e R s m args below meth c D A nL cells slots Q ws pc lv (.int x :: st) := fun H locs ls hP hD hS hl => lv_istore X.1 X.2.1 hd  hl hn hl2 (fun ls hl => kk H locs ls hP hD hS hl)
theorem x_lload_n (X : CX p m c cc nL s args own) {k : Fin 4} {x : Int64} (hd : decode cc pc = .ok (.lload_n k, 1)) (j : Nat) (hj : lv[j]? = some ((k : Nat), .long x)) (kk : CS p l e R s m args below meth c D A nL cells slots Q ws (pc + 1) lv (.long x :: st)) : CS p l e R s m args below meth c D A nL cells slots Q ws pc lv st := fun H locs ls hP hD hS hl => lv_lload_n X.1 X.2.1 hd rfl (lv_at hl j hj) (kk H locs ls hP hD hS hl)
theorem x_lload (X : CX p m c cc nL s args own) {i : Nat} {x : Int64} (hd : decode cc pc = .ok (.lload i, 2)) (j : Nat) (hj : lv[j]? = some (i, .long x)) (kk : CS p l e R s m args below meth c D A nL cells slots Q ws (pc + 2) lv (.long x :: st)) : CS p l e R s m args below meth c D A nL cells slots Q ws pc lv st := fun H locs ls hP hD hS hl => lv_lload X.1 X.2.1 hd (lv_at hl j hj) (kk H locs ls hP hD hS hl)
theorem x_lstore_n (X : CX p m c cc nL s args own) {k : Fin 4} {x : Int64} {lv2 : List (Nat × Value)} (hd : decode cc pc = .ok (.lstore_n k, 1)) (hn : (k : Nat) + 1 < nL) (hl2 : ((k : Nat), Value.long x) :: lv.filter (fun q => !(q.1 == (k : Nat)) && (!(q.1 == (k : Nat) + 1) && !(q.1 + 1 == (k : Nat) && q.2.category == 2))) = lv2) (kk : CS p l e R s m args below meth c D A nL cells slots Q ws (pc + 1) lv2 st) : CS p l e R s m args below meth c D A nL cells slots Q ws pc lv (.long x :: st) := fun H locs ls hP hD hS hl => lv_lstore_n X.1 X.2.1 hd rfl hl hn hl2 (fun ls hl => kk H locs ls hP hD hS hl)
theorem x_lstore (X : CX p m c cc nL s args own) {i : Nat} {x : Int64} {lv2 : List (Nat × Value)} (hd : decode cc pc = .ok (.lstore i, 2)) (hn : i + 1 < nL) (hl2 : (i, Value.long x) :: lv.filter (fun q => !(q.1 == i) && (!(q.1 == i + 1) && !(q.1 + 1 == i && q.2.category == 2))) = lv2) (kk : CS p l e R s m args below meth c D A nL cells slots Q ws (pc + 2) lv2 st) : CS p l e R s m args below meth c D A nL cells slots Q ws pc lv (.long x :: st) := fun H locs ls hP hD hS hl => lv_lstore X.1 X.2.1 hd  hl hn hl2 (fun ls hl => kk H locs ls hP hD hS hl)
theorem x_dload_n (X : CX p m c cc nL s args own) {k : Fin 4} {x : UInt64} (hd : decode cc pc = .ok (.dload_n k, 1)) (j : Nat) (hj : lv[j]? = some ((k : Nat), .double x)) (kk : CS p l e R s m args below meth c D A nL cells slots Q ws (pc + 1) lv (.double x :: st)) : CS p l e R s m args below meth c D A nL cells slots Q ws pc lv st := fun H locs ls hP hD hS hl => lv_dload_n X.1 X.2.1 hd rfl (lv_at hl j hj) (kk H locs ls hP hD hS hl)
theorem x_dload (X : CX p m c cc nL s args own) {i : Nat} {x : UInt64} (hd : decode cc pc = .ok (.dload i, 2)) (j : Nat) (hj : lv[j]? = some (i, .double x)) (kk : CS p l e R s m args below meth c D A nL cells slots Q ws (pc + 2) lv (.double x :: st)) : CS p l e R s m args below meth c D A nL cells slots Q ws pc lv st := fun H locs ls hP hD hS hl => lv_dload X.1 X.2.1 hd (lv_at hl j hj) (kk H locs ls hP hD hS hl)
theorem x_dstore_n (X : CX p m c cc nL s args own) {k : Fin 4} {x : UInt64} {lv2 : List (Nat × Value)} (hd : decode cc pc = .ok (.dstore_n k, 1)) (hn : (k : Nat) + 1 < nL) (hl2 : ((k : Nat), Value.double x) :: lv.filter (fun q => !(q.1 == (k : Nat)) && (!(q.1 == (k : Nat) + 1) && !(q.1 + 1 == (k : Nat) && q.2.category == 2))) = lv2) (kk : CS p l e R s m args below meth c D A nL cells slots Q ws (pc + 1) lv2 st) : CS p l e R s m args below meth c D A nL cells slots Q ws pc lv (.double x :: st) := fun H locs ls hP hD hS hl => lv_dstore_n X.1 X.2.1 hd rfl hl hn hl2 (fun ls hl => kk H locs ls hP hD hS hl)
theorem x_dstore (X : CX p m c cc nL s args own) {i : Nat} {x : UInt64} {lv2 : List (Nat × Value)} (hd : decode cc pc = .ok (.dstore i, 2)) (hn : i + 1 < nL) (hl2 : (i, Value.double x) :: lv.filter (fun q => !(q.1 == i) && (!(q.1 == i + 1) && !(q.1 + 1 == i && q.2.category == 2))) = lv2) (kk : CS p l e R s m args below meth c D A nL cells slots Q ws (pc + 2) lv2 st) : CS p l e R s m args below meth c D A nL cells slots Q ws pc lv (.double x :: st) := fun H locs ls hP hD hS hl => lv_dstore X.1 X.2.1 hd  hl hn hl2 (fun ls hl => kk H locs ls hP hD hS hl)
theorem x_aload_n (X : CX p m c cc nL s args own) {k : Fin 4} {x : Nat} (hd : decode cc pc = .ok (.aload_n k, 1)) (j : Nat) (hj : lv[j]? = some ((k : Nat), .ref x)) (kk : CS p l e R s m args below meth c D A nL cells slots Q ws (pc + 1) lv (.ref x :: st)) : CS p l e R s m args below meth c D A nL cells slots Q ws pc lv st := fun H locs ls hP hD hS hl => lv_aload_n X.1 X.2.1 hd rfl (lv_at hl j hj) (kk H locs ls hP hD hS hl)
theorem x_aload (X : CX p m c cc nL s args own) {i : Nat} {x : Nat} (hd : decode cc pc = .ok (.aload i, 2)) (j : Nat) (hj : lv[j]? = some (i, .ref x)) (kk : CS p l e R s m args below meth c D A nL cells slots Q ws (pc + 2) lv (.ref x :: st)) : CS p l e R s m args below meth c D A nL cells slots Q ws pc lv st := fun H locs ls hP hD hS hl => lv_aload X.1 X.2.1 hd (lv_at hl j hj) (kk H locs ls hP hD hS hl)
theorem x_astore_n (X : CX p m c cc nL s args own) {k : Fin 4} {x : Nat} {lv2 : List (Nat × Value)} (hd : decode cc pc = .ok (.astore_n k, 1)) (hn : (k : Nat) < nL) (hl2 : ((k : Nat), Value.ref x) :: lv.filter (fun q => !(q.1 == (k : Nat)) && !(q.1 + 1 == (k : Nat) && q.2.category == 2)) = lv2) (kk : CS p l e R s m args below meth c D A nL cells slots Q ws (pc + 1) lv2 st) : CS p l e R s m args below meth c D A nL cells slots Q ws pc lv (.ref x :: st) := fun H locs ls hP hD hS hl => lv_astore_n X.1 X.2.1 hd rfl hl hn hl2 (fun ls hl => kk H locs ls hP hD hS hl)
theorem x_astore (X : CX p m c cc nL s args own) {i : Nat} {x : Nat} {lv2 : List (Nat × Value)} (hd : decode cc pc = .ok (.astore i, 2)) (hn : i < nL) (hl2 : (i, Value.ref x) :: lv.filter (fun q => !(q.1 == i) && !(q.1 + 1 == i && q.2.category == 2)) = lv2) (kk : CS p l e R s m args below meth c D A nL cells slots Q ws (pc + 2) lv2 st) : CS p l e R s m args below meth c D A nL cells slots Q ws pc lv (.ref x :: st) := fun H locs ls hP hD hS hl => lv_astore X.1 X.2.1 hd  hl hn hl2 (fun ls hl => kk H locs ls hP hD hS hl)
theorem x_iinc (X : CX p m c cc nL s args own) {i : Nat} {n : Int} {x : Int32} {lv2 : List (Nat × Value)} {α : Type} {kf : Int32 → α} {out : α} (hd : decode cc pc = .ok (.iinc i n, 3)) (j : Nat) (hj : lv[j]? = some (i, .int x)) (hn : i < nL) (v : Int32) (hv : x + Int32.ofInt n = v) (hf : nm v kf = out) (lvf : Int32 → List (Nat × Value)) (hl2 : ∀ v, (i, Value.int v) :: lv.filter (fun q => !(q.1 == i) && !(q.1 + 1 == i && q.2.category == 2)) = lvf v) (kk : ∀ v, kf v = out → CS p l e R s m args below meth c D A nL cells slots Q ws (pc + 3) (lvf v) st) : CS p l e R s m args below meth c D A nL cells slots Q ws pc lv st := fun H locs ls hP hD hS hl => lv_iinc X.1 X.2.1 hd hl hj hv hn (hl2 v) (fun ls hl => kk v hf H locs ls hP hD hS hl)
theorem x_iadd (X : CX p m c cc nL s args own) {x y : Int32} (hd : decode cc pc = .ok (.iadd, 1)) (kk : CS p l e R s m args below meth c D A nL cells slots Q ws (pc + 1) lv (.int (x + y) :: st)) : CS p l e R s m args below meth c D A nL cells slots Q ws pc lv (.int y :: .int x :: st) := fun H locs ls hP hD hS hl => lv_iadd X.1 X.2.1 hd (kk H locs ls hP hD hS hl)
theorem x_isub (X : CX p m c cc nL s args own) {x y : Int32} (hd : decode cc pc = .ok (.isub, 1)) (kk : CS p l e R s m args below meth c D A nL cells slots Q ws (pc + 1) lv (.int (x - y) :: st)) : CS p l e R s m args below meth c D A nL cells slots Q ws pc lv (.int y :: .int x :: st) := fun H locs ls hP hD hS hl => lv_isub X.1 X.2.1 hd (kk H locs ls hP hD hS hl)
theorem x_imul (X : CX p m c cc nL s args own) {x y : Int32} (hd : decode cc pc = .ok (.imul, 1)) (kk : CS p l e R s m args below meth c D A nL cells slots Q ws (pc + 1) lv (.int (x * y) :: st)) : CS p l e R s m args below meth c D A nL cells slots Q ws pc lv (.int y :: .int x :: st) := fun H locs ls hP hD hS hl => lv_imul X.1 X.2.1 hd (kk H locs ls hP hD hS hl)
theorem x_iand (X : CX p m c cc nL s args own) {x y : Int32} (hd : decode cc pc = .ok (.iand, 1)) (kk : CS p l e R s m args below meth c D A nL cells slots Q ws (pc + 1) lv (.int (x &&& y) :: st)) : CS p l e R s m args below meth c D A nL cells slots Q ws pc lv (.int y :: .int x :: st) := fun H locs ls hP hD hS hl => lv_iand X.1 X.2.1 hd (kk H locs ls hP hD hS hl)
theorem x_ixor (X : CX p m c cc nL s args own) {x y : Int32} (hd : decode cc pc = .ok (.ixor, 1)) (kk : CS p l e R s m args below meth c D A nL cells slots Q ws (pc + 1) lv (.int (x ^^^ y) :: st)) : CS p l e R s m args below meth c D A nL cells slots Q ws pc lv (.int y :: .int x :: st) := fun H locs ls hP hD hS hl => lv_ixor X.1 X.2.1 hd (kk H locs ls hP hD hS hl)
theorem x_ladd (X : CX p m c cc nL s args own) {x y : Int64} (hd : decode cc pc = .ok (.ladd, 1)) (kk : CS p l e R s m args below meth c D A nL cells slots Q ws (pc + 1) lv (.long (x + y) :: st)) : CS p l e R s m args below meth c D A nL cells slots Q ws pc lv (.long y :: .long x :: st) := fun H locs ls hP hD hS hl => lv_ladd X.1 X.2.1 hd (kk H locs ls hP hD hS hl)
theorem x_lsub (X : CX p m c cc nL s args own) {x y : Int64} (hd : decode cc pc = .ok (.lsub, 1)) (kk : CS p l e R s m args below meth c D A nL cells slots Q ws (pc + 1) lv (.long (x - y) :: st)) : CS p l e R s m args below meth c D A nL cells slots Q ws pc lv (.long y :: .long x :: st) := fun H locs ls hP hD hS hl => lv_lsub X.1 X.2.1 hd (kk H locs ls hP hD hS hl)
theorem x_lmul (X : CX p m c cc nL s args own) {x y : Int64} (hd : decode cc pc = .ok (.lmul, 1)) (kk : CS p l e R s m args below meth c D A nL cells slots Q ws (pc + 1) lv (.long (x * y) :: st)) : CS p l e R s m args below meth c D A nL cells slots Q ws pc lv (.long y :: .long x :: st) := fun H locs ls hP hD hS hl => lv_lmul X.1 X.2.1 hd (kk H locs ls hP hD hS hl)
theorem x_land (X : CX p m c cc nL s args own) {x y : Int64} (hd : decode cc pc = .ok (.land, 1)) (kk : CS p l e R s m args below meth c D A nL cells slots Q ws (pc + 1) lv (.long (x &&& y) :: st)) : CS p l e R s m args below meth c D A nL cells slots Q ws pc lv (.long y :: .long x :: st) := fun H locs ls hP hD hS hl => lv_land X.1 X.2.1 hd (kk H locs ls hP hD hS hl)
theorem x_lor (X : CX p m c cc nL s args own) {x y : Int64} (hd : decode cc pc = .ok (.lor, 1)) (kk : CS p l e R s m args below meth c D A nL cells slots Q ws (pc + 1) lv (.long (x ||| y) :: st)) : CS p l e R s m args below meth c D A nL cells slots Q ws pc lv (.long y :: .long x :: st) := fun H locs ls hP hD hS hl => lv_lor X.1 X.2.1 hd (kk H locs ls hP hD hS hl)
theorem x_lxor (X : CX p m c cc nL s args own) {x y : Int64} (hd : decode cc pc = .ok (.lxor, 1)) (kk : CS p l e R s m args below meth c D A nL cells slots Q ws (pc + 1) lv (.long (x ^^^ y) :: st)) : CS p l e R s m args below meth c D A nL cells slots Q ws pc lv (.long y :: .long x :: st) := fun H locs ls hP hD hS hl => lv_lxor X.1 X.2.1 hd (kk H locs ls hP hD hS hl)
theorem x_ishl (X : CX p m c cc nL s args own) {x y : Int32} (hd : decode cc pc = .ok (.ishl, 1)) (kk : CS p l e R s m args below meth c D A nL cells slots Q ws (pc + 1) lv (.int (x <<< (y &&& 31)) :: st)) : CS p l e R s m args below meth c D A nL cells slots Q ws pc lv (.int y :: .int x :: st) := fun H locs ls hP hD hS hl => lv_ishl X.1 X.2.1 hd (kk H locs ls hP hD hS hl)
theorem x_ishr (X : CX p m c cc nL s args own) {x y : Int32} (hd : decode cc pc = .ok (.ishr, 1)) (kk : CS p l e R s m args below meth c D A nL cells slots Q ws (pc + 1) lv (.int (x >>> (y &&& 31)) :: st)) : CS p l e R s m args below meth c D A nL cells slots Q ws pc lv (.int y :: .int x :: st) := fun H locs ls hP hD hS hl => lv_ishr X.1 X.2.1 hd (kk H locs ls hP hD hS hl)
theorem x_iushr (X : CX p m c cc nL s args own) {x y : Int32} (hd : decode cc pc = .ok (.iushr, 1)) (kk : CS p l e R s m args below meth c D A nL cells slots Q ws (pc + 1) lv (.int (x.toUInt32 >>> (y.toUInt32 &&& Int32.toUInt32 31)).toInt32 :: st)) : CS p l e R s m args below meth c D A nL cells slots Q ws pc lv (.int y :: .int x :: st) := fun H locs ls hP hD hS hl => lv_iushr X.1 X.2.1 hd rfl (kk H locs ls hP hD hS hl)
theorem x_lushr (X : CX p m c cc nL s args own) {x : Int64} {y : Int32} (hd : decode cc pc = .ok (.lushr, 1)) (kk : CS p l e R s m args below meth c D A nL cells slots Q ws (pc + 1) lv (.long (x.toUInt64 >>> (y.toInt64.toUInt64 &&& Int64.toUInt64 63)).toInt64 :: st)) : CS p l e R s m args below meth c D A nL cells slots Q ws pc lv (.int y :: .long x :: st) := fun H locs ls hP hD hS hl => lv_lushr X.1 X.2.1 hd rfl (kk H locs ls hP hD hS hl)
theorem x_lshl (X : CX p m c cc nL s args own) {x : Int64} {y : Int32} (hd : decode cc pc = .ok (.lshl, 1)) (kk : CS p l e R s m args below meth c D A nL cells slots Q ws (pc + 1) lv (.long (x <<< (y.toInt64 &&& 63)) :: st)) : CS p l e R s m args below meth c D A nL cells slots Q ws pc lv (.int y :: .long x :: st) := fun H locs ls hP hD hS hl => lv_lshl X.1 X.2.1 hd rfl (kk H locs ls hP hD hS hl)
theorem x_lshr (X : CX p m c cc nL s args own) {x : Int64} {y : Int32} (hd : decode cc pc = .ok (.lshr, 1)) (kk : CS p l e R s m args below meth c D A nL cells slots Q ws (pc + 1) lv (.long (x >>> (y.toInt64 &&& 63)) :: st)) : CS p l e R s m args below meth c D A nL cells slots Q ws pc lv (.int y :: .long x :: st) := fun H locs ls hP hD hS hl => lv_lshr X.1 X.2.1 hd rfl (kk H locs ls hP hD hS hl)
theorem x_i2l (X : CX p m c cc nL s args own) {x : Int32} (hd : decode cc pc = .ok (.i2l, 1)) (kk : CS p l e R s m args below meth c D A nL cells slots Q ws (pc + 1) lv (.long x.toInt64 :: st)) : CS p l e R s m args below meth c D A nL cells slots Q ws pc lv (.int x :: st) := fun H locs ls hP hD hS hl => lv_i2l X.1 X.2.1 hd rfl (kk H locs ls hP hD hS hl)
theorem x_l2i (X : CX p m c cc nL s args own) {x : Int64} (hd : decode cc pc = .ok (.l2i, 1)) (kk : CS p l e R s m args below meth c D A nL cells slots Q ws (pc + 1) lv (.int x.toInt32 :: st)) : CS p l e R s m args below meth c D A nL cells slots Q ws pc lv (.long x :: st) := fun H locs ls hP hD hS hl => lv_l2i X.1 X.2.1 hd rfl (kk H locs ls hP hD hS hl)
theorem x_i2d (X : CX p m c cc nL s args own) {x : Int32} (hd : decode cc pc = .ok (.i2d, 1)) (kk : CS p l e R s m args below meth c D A nL cells slots Q ws (pc + 1) lv (.double (FP.i2d x) :: st)) : CS p l e R s m args below meth c D A nL cells slots Q ws pc lv (.int x :: st) := fun H locs ls hP hD hS hl => lv_i2d X.1 X.2.1 hd (kk H locs ls hP hD hS hl)
theorem x_l2d (X : CX p m c cc nL s args own) {x : Int64} (hd : decode cc pc = .ok (.l2d, 1)) (kk : CS p l e R s m args below meth c D A nL cells slots Q ws (pc + 1) lv (.double (FP.l2d x) :: st)) : CS p l e R s m args below meth c D A nL cells slots Q ws pc lv (.long x :: st) := fun H locs ls hP hD hS hl => lv_l2d X.1 X.2.1 hd (kk H locs ls hP hD hS hl)
theorem x_dconst0 (X : CX p m c cc nL s args own) (hd : decode cc pc = .ok (.dconst 0, 1)) (kk : CS p l e R s m args below meth c D A nL cells slots Q ws (pc + 1) lv (.double FP.dconst0 :: st)) : CS p l e R s m args below meth c D A nL cells slots Q ws pc lv st := fun H locs ls hP hD hS hl => lv_dconst0 X.1 X.2.1 hd (kk H locs ls hP hD hS hl)
theorem x_ddiv (X : CX p m c cc nL s args own) {x y : UInt64} {α : Type} {kf : UInt64 → Option α} {out : α} (hd : decode cc pc = .ok (.ddiv, 1)) (hf : ck (vf_n64 (FP.ddiv x y)) (nm (FP.ddiv x y) kf) = some out) (kk : ∀ z, kf z = some out → CS p l e R s m args below meth c D A nL cells slots Q ws (pc + 1) lv (.double z :: st)) : CS p l e R s m args below meth c D A nL cells slots Q ws pc lv (.double y :: .double x :: st) := fun H locs ls hP hD hS hl => lv_ddiv X.1 X.2.1 hd (ck_some hf).1 (kk _ (ck_some hf).2 H locs ls hP hD hS hl)
theorem x_dup (X : CX p m c cc nL s args own) {va : Value} (hd : decode cc pc = .ok (.dup, 1)) (hc : va.category = 1) (kk : CS p l e R s m args below meth c D A nL cells slots Q ws (pc + 1) lv (va :: va :: st)) : CS p l e R s m args below meth c D A nL cells slots Q ws pc lv (va :: st) := fun H locs ls hP hD hS hl => lv_dup X.1 X.2.1 hd hc (kk H locs ls hP hD hS hl)
theorem x_pop (X : CX p m c cc nL s args own) {va : Value} (hd : decode cc pc = .ok (.pop, 1)) (hc : va.category = 1) (kk : CS p l e R s m args below meth c D A nL cells slots Q ws (pc + 1) lv st) : CS p l e R s m args below meth c D A nL cells slots Q ws pc lv (va :: st) := fun H locs ls hP hD hS hl => lv_pop X.1 X.2.1 hd hc (kk H locs ls hP hD hS hl)
theorem x_dup2 (X : CX p m c cc nL s args own) {va vb : Value} (hd : decode cc pc = .ok (.dup2, 1)) (hc : va.category = 1) (hc2 : vb.category = 1) (kk : CS p l e R s m args below meth c D A nL cells slots Q ws (pc + 1) lv (va :: vb :: va :: vb :: st)) : CS p l e R s m args below meth c D A nL cells slots Q ws pc lv (va :: vb :: st) := fun H locs ls hP hD hS hl => lv_dup2_11 X.1 X.2.1 hd hc hc2 (kk H locs ls hP hD hS hl)
theorem x_goto (X : CX p m c cc nL s args own) {off : Int} {tgt : Nat} (hd : decode cc pc = .ok (.goto off, 3)) (ht : (pc : Int) + off = (tgt : Int)) (kk : CS p l e R s m args below meth c D A nL cells slots Q ws tgt lv st) : CS p l e R s m args below meth c D A nL cells slots Q ws pc lv st := fun H locs ls hP hD hS hl => lv_goto X.1 X.2.1 hd ht (kk H locs ls hP hD hS hl)
theorem x_if_eq (X : CX p m c cc nL s args own) {x : Int32} {off : Int} {tgt : Nat} {α : Type} {FA FB out : α} (hd : decode cc pc = .ok (.ifCond .eq off, 3)) (ht : (pc : Int) + off = (tgt : Int)) (hf : (if x = 0 then FA else FB) = out) (k1 : FA = out → CS p l e R s m args below meth c D A nL cells slots Q ws tgt lv st) (k2 : FB = out → CS p l e R s m args below meth c D A nL cells slots Q ws (pc + 3) lv st) : CS p l e R s m args below meth c D A nL cells slots Q ws pc lv (.int x :: st) := fun H locs ls hP hD hS hl => lv_if_eq X.1 X.2.1 hd ht (fun h => k1 ((if_pos h).symm.trans hf) H locs ls hP hD hS hl) (fun h => k2 ((if_neg h).symm.trans hf) H locs ls hP hD hS hl)
theorem x_if_eq_t (X : CX p m c cc nL s args own) {x : Int32} {off : Int} {tgt : Nat} (hd : decode cc pc = .ok (.ifCond .eq off, 3)) (ht : (pc : Int) + off = (tgt : Int)) (hc : x = 0) (k1 : CS p l e R s m args below meth c D A nL cells slots Q ws tgt lv st) : CS p l e R s m args below meth c D A nL cells slots Q ws pc lv (.int x :: st) := fun H locs ls hP hD hS hl => lv_if_eq X.1 X.2.1 hd ht (fun _ => k1 H locs ls hP hD hS hl) (fun h => absurd hc (by first | exact h | exact not_not_intro h))
theorem x_if_eq_f (X : CX p m c cc nL s args own) {x : Int32} {off : Int} {tgt : Nat} (hd : decode cc pc = .ok (.ifCond .eq off, 3)) (ht : (pc : Int) + off = (tgt : Int)) (hc : ¬ x = 0) (k2 : CS p l e R s m args below meth c D A nL cells slots Q ws (pc + 3) lv st) : CS p l e R s m args below meth c D A nL cells slots Q ws pc lv (.int x :: st) := fun H locs ls hP hD hS hl => lv_if_eq X.1 X.2.1 hd ht (fun h => absurd hc (by first | exact h | exact not_not_intro h)) (fun _ => k2 H locs ls hP hD hS hl)
theorem x_icmp_eq (X : CX p m c cc nL s args own) {x y : Int32} {off : Int} {tgt : Nat} {α : Type} {FA FB out : α} (hd : decode cc pc = .ok (.if_icmp .eq off, 3)) (ht : (pc : Int) + off = (tgt : Int)) (hf : (if x = y then FA else FB) = out) (k1 : FA = out → CS p l e R s m args below meth c D A nL cells slots Q ws tgt lv st) (k2 : FB = out → CS p l e R s m args below meth c D A nL cells slots Q ws (pc + 3) lv st) : CS p l e R s m args below meth c D A nL cells slots Q ws pc lv (.int y :: .int x :: st) := fun H locs ls hP hD hS hl => lv_icmp_eq X.1 X.2.1 hd ht (fun h => k1 ((if_pos h).symm.trans hf) H locs ls hP hD hS hl) (fun h => k2 ((if_neg h).symm.trans hf) H locs ls hP hD hS hl)
theorem x_icmp_eq_t (X : CX p m c cc nL s args own) {x y : Int32} {off : Int} {tgt : Nat} (hd : decode cc pc = .ok (.if_icmp .eq off, 3)) (ht : (pc : Int) + off = (tgt : Int)) (hc : x = y) (k1 : CS p l e R s m args below meth c D A nL cells slots Q ws tgt lv st) : CS p l e R s m args below meth c D A nL cells slots Q ws pc lv (.int y :: .int x :: st) := fun H locs ls hP hD hS hl => lv_icmp_eq X.1 X.2.1 hd ht (fun _ => k1 H locs ls hP hD hS hl) (fun h => absurd hc (by first | exact h | exact not_not_intro h))
theorem x_icmp_eq_f (X : CX p m c cc nL s args own) {x y : Int32} {off : Int} {tgt : Nat} (hd : decode cc pc = .ok (.if_icmp .eq off, 3)) (ht : (pc : Int) + off = (tgt : Int)) (hc : ¬ x = y) (k2 : CS p l e R s m args below meth c D A nL cells slots Q ws (pc + 3) lv st) : CS p l e R s m args below meth c D A nL cells slots Q ws pc lv (.int y :: .int x :: st) := fun H locs ls hP hD hS hl => lv_icmp_eq X.1 X.2.1 hd ht (fun h => absurd hc (by first | exact h | exact not_not_intro h)) (fun _ => k2 H locs ls hP hD hS hl)
theorem x_if_ne (X : CX p m c cc nL s args own) {x : Int32} {off : Int} {tgt : Nat} {α : Type} {FA FB out : α} (hd : decode cc pc = .ok (.ifCond .ne off, 3)) (ht : (pc : Int) + off = (tgt : Int)) (hf : (if x = 0 then FA else FB) = out) (k1 : FB = out → CS p l e R s m args below meth c D A nL cells slots Q ws tgt lv st) (k2 : FA = out → CS p l e R s m args below meth c D A nL cells slots Q ws (pc + 3) lv st) : CS p l e R s m args below meth c D A nL cells slots Q ws pc lv (.int x :: st) := fun H locs ls hP hD hS hl => lv_if_ne X.1 X.2.1 hd ht (fun h => k1 ((if_neg h).symm.trans hf) H locs ls hP hD hS hl) (fun h => k2 ((if_pos h).symm.trans hf) H locs ls hP hD hS hl)
theorem x_if_ne_t (X : CX p m c cc nL s args own) {x : Int32} {off : Int} {tgt : Nat} (hd : decode cc pc = .ok (.ifCond .ne off, 3)) (ht : (pc : Int) + off = (tgt : Int)) (hc : ¬ x = 0) (k1 : CS p l e R s m args below meth c D A nL cells slots Q ws tgt lv st) : CS p l e R s m args below meth c D A nL cells slots Q ws pc lv (.int x :: st) := fun H locs ls hP hD hS hl => lv_if_ne X.1 X.2.1 hd ht (fun _ => k1 H locs ls hP hD hS hl) (fun h => absurd hc (by first | exact h | exact not_not_intro h))
theorem x_if_ne_f (X : CX p m c cc nL s args own) {x : Int32} {off : Int} {tgt : Nat} (hd : decode cc pc = .ok (.ifCond .ne off, 3)) (ht : (pc : Int) + off = (tgt : Int)) (hc : x = 0) (k2 : CS p l e R s m args below meth c D A nL cells slots Q ws (pc + 3) lv st) : CS p l e R s m args below meth c D A nL cells slots Q ws pc lv (.int x :: st) := fun H locs ls hP hD hS hl => lv_if_ne X.1 X.2.1 hd ht (fun h => absurd hc (by first | exact h | exact not_not_intro h)) (fun _ => k2 H locs ls hP hD hS hl)
theorem x_icmp_ne (X : CX p m c cc nL s args own) {x y : Int32} {off : Int} {tgt : Nat} {α : Type} {FA FB out : α} (hd : decode cc pc = .ok (.if_icmp .ne off, 3)) (ht : (pc : Int) + off = (tgt : Int)) (hf : (if x = y then FA else FB) = out) (k1 : FB = out → CS p l e R s m args below meth c D A nL cells slots Q ws tgt lv st) (k2 : FA = out → CS p l e R s m args below meth c D A nL cells slots Q ws (pc + 3) lv st) : CS p l e R s m args below meth c D A nL cells slots Q ws pc lv (.int y :: .int x :: st) := fun H locs ls hP hD hS hl => lv_icmp_ne X.1 X.2.1 hd ht (fun h => k1 ((if_neg h).symm.trans hf) H locs ls hP hD hS hl) (fun h => k2 ((if_pos h).symm.trans hf) H locs ls hP hD hS hl)
theorem x_icmp_ne_t (X : CX p m c cc nL s args own) {x y : Int32} {off : Int} {tgt : Nat} (hd : decode cc pc = .ok (.if_icmp .ne off, 3)) (ht : (pc : Int) + off = (tgt : Int)) (hc : ¬ x = y) (k1 : CS p l e R s m args below meth c D A nL cells slots Q ws tgt lv st) : CS p l e R s m args below meth c D A nL cells slots Q ws pc lv (.int y :: .int x :: st) := fun H locs ls hP hD hS hl => lv_icmp_ne X.1 X.2.1 hd ht (fun _ => k1 H locs ls hP hD hS hl) (fun h => absurd hc (by first | exact h | exact not_not_intro h))
theorem x_icmp_ne_f (X : CX p m c cc nL s args own) {x y : Int32} {off : Int} {tgt : Nat} (hd : decode cc pc = .ok (.if_icmp .ne off, 3)) (ht : (pc : Int) + off = (tgt : Int)) (hc : x = y) (k2 : CS p l e R s m args below meth c D A nL cells slots Q ws (pc + 3) lv st) : CS p l e R s m args below meth c D A nL cells slots Q ws pc lv (.int y :: .int x :: st) := fun H locs ls hP hD hS hl => lv_icmp_ne X.1 X.2.1 hd ht (fun h => absurd hc (by first | exact h | exact not_not_intro h)) (fun _ => k2 H locs ls hP hD hS hl)
theorem x_if_lt (X : CX p m c cc nL s args own) {x : Int32} {off : Int} {tgt : Nat} {α : Type} {FA FB out : α} (hd : decode cc pc = .ok (.ifCond .lt off, 3)) (ht : (pc : Int) + off = (tgt : Int)) (hf : (if x < 0 then FA else FB) = out) (k1 : FA = out → CS p l e R s m args below meth c D A nL cells slots Q ws tgt lv st) (k2 : FB = out → CS p l e R s m args below meth c D A nL cells slots Q ws (pc + 3) lv st) : CS p l e R s m args below meth c D A nL cells slots Q ws pc lv (.int x :: st) := fun H locs ls hP hD hS hl => lv_if_lt X.1 X.2.1 hd ht (fun h => k1 ((if_pos h).symm.trans hf) H locs ls hP hD hS hl) (fun h => k2 ((if_neg h).symm.trans hf) H locs ls hP hD hS hl)
theorem x_if_lt_t (X : CX p m c cc nL s args own) {x : Int32} {off : Int} {tgt : Nat} (hd : decode cc pc = .ok (.ifCond .lt off, 3)) (ht : (pc : Int) + off = (tgt : Int)) (hc : x < 0) (k1 : CS p l e R s m args below meth c D A nL cells slots Q ws tgt lv st) : CS p l e R s m args below meth c D A nL cells slots Q ws pc lv (.int x :: st) := fun H locs ls hP hD hS hl => lv_if_lt X.1 X.2.1 hd ht (fun _ => k1 H locs ls hP hD hS hl) (fun h => absurd hc (by first | exact h | exact not_not_intro h))
theorem x_if_lt_f (X : CX p m c cc nL s args own) {x : Int32} {off : Int} {tgt : Nat} (hd : decode cc pc = .ok (.ifCond .lt off, 3)) (ht : (pc : Int) + off = (tgt : Int)) (hc : ¬ x < 0) (k2 : CS p l e R s m args below meth c D A nL cells slots Q ws (pc + 3) lv st) : CS p l e R s m args below meth c D A nL cells slots Q ws pc lv (.int x :: st) := fun H locs ls hP hD hS hl => lv_if_lt X.1 X.2.1 hd ht (fun h => absurd hc (by first | exact h | exact not_not_intro h)) (fun _ => k2 H locs ls hP hD hS hl)
theorem x_icmp_lt (X : CX p m c cc nL s args own) {x y : Int32} {off : Int} {tgt : Nat} {α : Type} {FA FB out : α} (hd : decode cc pc = .ok (.if_icmp .lt off, 3)) (ht : (pc : Int) + off = (tgt : Int)) (hf : (if x < y then FA else FB) = out) (k1 : FA = out → CS p l e R s m args below meth c D A nL cells slots Q ws tgt lv st) (k2 : FB = out → CS p l e R s m args below meth c D A nL cells slots Q ws (pc + 3) lv st) : CS p l e R s m args below meth c D A nL cells slots Q ws pc lv (.int y :: .int x :: st) := fun H locs ls hP hD hS hl => lv_icmp_lt X.1 X.2.1 hd ht (fun h => k1 ((if_pos h).symm.trans hf) H locs ls hP hD hS hl) (fun h => k2 ((if_neg h).symm.trans hf) H locs ls hP hD hS hl)
theorem x_icmp_lt_t (X : CX p m c cc nL s args own) {x y : Int32} {off : Int} {tgt : Nat} (hd : decode cc pc = .ok (.if_icmp .lt off, 3)) (ht : (pc : Int) + off = (tgt : Int)) (hc : x < y) (k1 : CS p l e R s m args below meth c D A nL cells slots Q ws tgt lv st) : CS p l e R s m args below meth c D A nL cells slots Q ws pc lv (.int y :: .int x :: st) := fun H locs ls hP hD hS hl => lv_icmp_lt X.1 X.2.1 hd ht (fun _ => k1 H locs ls hP hD hS hl) (fun h => absurd hc (by first | exact h | exact not_not_intro h))
theorem x_icmp_lt_f (X : CX p m c cc nL s args own) {x y : Int32} {off : Int} {tgt : Nat} (hd : decode cc pc = .ok (.if_icmp .lt off, 3)) (ht : (pc : Int) + off = (tgt : Int)) (hc : ¬ x < y) (k2 : CS p l e R s m args below meth c D A nL cells slots Q ws (pc + 3) lv st) : CS p l e R s m args below meth c D A nL cells slots Q ws pc lv (.int y :: .int x :: st) := fun H locs ls hP hD hS hl => lv_icmp_lt X.1 X.2.1 hd ht (fun h => absurd hc (by first | exact h | exact not_not_intro h)) (fun _ => k2 H locs ls hP hD hS hl)
theorem x_if_ge (X : CX p m c cc nL s args own) {x : Int32} {off : Int} {tgt : Nat} {α : Type} {FA FB out : α} (hd : decode cc pc = .ok (.ifCond .ge off, 3)) (ht : (pc : Int) + off = (tgt : Int)) (hf : (if 0 ≤ x then FA else FB) = out) (k1 : FA = out → CS p l e R s m args below meth c D A nL cells slots Q ws tgt lv st) (k2 : FB = out → CS p l e R s m args below meth c D A nL cells slots Q ws (pc + 3) lv st) : CS p l e R s m args below meth c D A nL cells slots Q ws pc lv (.int x :: st) := fun H locs ls hP hD hS hl => lv_if_ge X.1 X.2.1 hd ht (fun h => k1 ((if_pos h).symm.trans hf) H locs ls hP hD hS hl) (fun h => k2 ((if_neg h).symm.trans hf) H locs ls hP hD hS hl)
theorem x_if_ge_t (X : CX p m c cc nL s args own) {x : Int32} {off : Int} {tgt : Nat} (hd : decode cc pc = .ok (.ifCond .ge off, 3)) (ht : (pc : Int) + off = (tgt : Int)) (hc : 0 ≤ x) (k1 : CS p l e R s m args below meth c D A nL cells slots Q ws tgt lv st) : CS p l e R s m args below meth c D A nL cells slots Q ws pc lv (.int x :: st) := fun H locs ls hP hD hS hl => lv_if_ge X.1 X.2.1 hd ht (fun _ => k1 H locs ls hP hD hS hl) (fun h => absurd hc (by first | exact h | exact not_not_intro h))
theorem x_if_ge_f (X : CX p m c cc nL s args own) {x : Int32} {off : Int} {tgt : Nat} (hd : decode cc pc = .ok (.ifCond .ge off, 3)) (ht : (pc : Int) + off = (tgt : Int)) (hc : ¬ 0 ≤ x) (k2 : CS p l e R s m args below meth c D A nL cells slots Q ws (pc + 3) lv st) : CS p l e R s m args below meth c D A nL cells slots Q ws pc lv (.int x :: st) := fun H locs ls hP hD hS hl => lv_if_ge X.1 X.2.1 hd ht (fun h => absurd hc (by first | exact h | exact not_not_intro h)) (fun _ => k2 H locs ls hP hD hS hl)
theorem x_icmp_ge (X : CX p m c cc nL s args own) {x y : Int32} {off : Int} {tgt : Nat} {α : Type} {FA FB out : α} (hd : decode cc pc = .ok (.if_icmp .ge off, 3)) (ht : (pc : Int) + off = (tgt : Int)) (hf : (if y ≤ x then FA else FB) = out) (k1 : FA = out → CS p l e R s m args below meth c D A nL cells slots Q ws tgt lv st) (k2 : FB = out → CS p l e R s m args below meth c D A nL cells slots Q ws (pc + 3) lv st) : CS p l e R s m args below meth c D A nL cells slots Q ws pc lv (.int y :: .int x :: st) := fun H locs ls hP hD hS hl => lv_icmp_ge X.1 X.2.1 hd ht (fun h => k1 ((if_pos h).symm.trans hf) H locs ls hP hD hS hl) (fun h => k2 ((if_neg h).symm.trans hf) H locs ls hP hD hS hl)
theorem x_icmp_ge_t (X : CX p m c cc nL s args own) {x y : Int32} {off : Int} {tgt : Nat} (hd : decode cc pc = .ok (.if_icmp .ge off, 3)) (ht : (pc : Int) + off = (tgt : Int)) (hc : y ≤ x) (k1 : CS p l e R s m args below meth c D A nL cells slots Q ws tgt lv st) : CS p l e R s m args below meth c D A nL cells slots Q ws pc lv (.int y :: .int x :: st) := fun H locs ls hP hD hS hl => lv_icmp_ge X.1 X.2.1 hd ht (fun _ => k1 H locs ls hP hD hS hl) (fun h => absurd hc (by first | exact h | exact not_not_intro h))
theorem x_icmp_ge_f (X : CX p m c cc nL s args own) {x y : Int32} {off : Int} {tgt : Nat} (hd : decode cc pc = .ok (.if_icmp .ge off, 3)) (ht : (pc : Int) + off = (tgt : Int)) (hc : ¬ y ≤ x) (k2 : CS p l e R s m args below meth c D A nL cells slots Q ws (pc + 3) lv st) : CS p l e R s m args below meth c D A nL cells slots Q ws pc lv (.int y :: .int x :: st) := fun H locs ls hP hD hS hl => lv_icmp_ge X.1 X.2.1 hd ht (fun h => absurd hc (by first | exact h | exact not_not_intro h)) (fun _ => k2 H locs ls hP hD hS hl)
theorem x_if_gt (X : CX p m c cc nL s args own) {x : Int32} {off : Int} {tgt : Nat} {α : Type} {FA FB out : α} (hd : decode cc pc = .ok (.ifCond .gt off, 3)) (ht : (pc : Int) + off = (tgt : Int)) (hf : (if 0 < x then FA else FB) = out) (k1 : FA = out → CS p l e R s m args below meth c D A nL cells slots Q ws tgt lv st) (k2 : FB = out → CS p l e R s m args below meth c D A nL cells slots Q ws (pc + 3) lv st) : CS p l e R s m args below meth c D A nL cells slots Q ws pc lv (.int x :: st) := fun H locs ls hP hD hS hl => lv_if_gt X.1 X.2.1 hd ht (fun h => k1 ((if_pos h).symm.trans hf) H locs ls hP hD hS hl) (fun h => k2 ((if_neg h).symm.trans hf) H locs ls hP hD hS hl)
theorem x_if_gt_t (X : CX p m c cc nL s args own) {x : Int32} {off : Int} {tgt : Nat} (hd : decode cc pc = .ok (.ifCond .gt off, 3)) (ht : (pc : Int) + off = (tgt : Int)) (hc : 0 < x) (k1 : CS p l e R s m args below meth c D A nL cells slots Q ws tgt lv st) : CS p l e R s m args below meth c D A nL cells slots Q ws pc lv (.int x :: st) := fun H locs ls hP hD hS hl => lv_if_gt X.1 X.2.1 hd ht (fun _ => k1 H locs ls hP hD hS hl) (fun h => absurd hc (by first | exact h | exact not_not_intro h))
theorem x_if_gt_f (X : CX p m c cc nL s args own) {x : Int32} {off : Int} {tgt : Nat} (hd : decode cc pc = .ok (.ifCond .gt off, 3)) (ht : (pc : Int) + off = (tgt : Int)) (hc : ¬ 0 < x) (k2 : CS p l e R s m args below meth c D A nL cells slots Q ws (pc + 3) lv st) : CS p l e R s m args below meth c D A nL cells slots Q ws pc lv (.int x :: st) := fun H locs ls hP hD hS hl => lv_if_gt X.1 X.2.1 hd ht (fun h => absurd hc (by first | exact h | exact not_not_intro h)) (fun _ => k2 H locs ls hP hD hS hl)
theorem x_icmp_gt (X : CX p m c cc nL s args own) {x y : Int32} {off : Int} {tgt : Nat} {α : Type} {FA FB out : α} (hd : decode cc pc = .ok (.if_icmp .gt off, 3)) (ht : (pc : Int) + off = (tgt : Int)) (hf : (if y < x then FA else FB) = out) (k1 : FA = out → CS p l e R s m args below meth c D A nL cells slots Q ws tgt lv st) (k2 : FB = out → CS p l e R s m args below meth c D A nL cells slots Q ws (pc + 3) lv st) : CS p l e R s m args below meth c D A nL cells slots Q ws pc lv (.int y :: .int x :: st) := fun H locs ls hP hD hS hl => lv_icmp_gt X.1 X.2.1 hd ht (fun h => k1 ((if_pos h).symm.trans hf) H locs ls hP hD hS hl) (fun h => k2 ((if_neg h).symm.trans hf) H locs ls hP hD hS hl)
theorem x_icmp_gt_t (X : CX p m c cc nL s args own) {x y : Int32} {off : Int} {tgt : Nat} (hd : decode cc pc = .ok (.if_icmp .gt off, 3)) (ht : (pc : Int) + off = (tgt : Int)) (hc : y < x) (k1 : CS p l e R s m args below meth c D A nL cells slots Q ws tgt lv st) : CS p l e R s m args below meth c D A nL cells slots Q ws pc lv (.int y :: .int x :: st) := fun H locs ls hP hD hS hl => lv_icmp_gt X.1 X.2.1 hd ht (fun _ => k1 H locs ls hP hD hS hl) (fun h => absurd hc (by first | exact h | exact not_not_intro h))
theorem x_icmp_gt_f (X : CX p m c cc nL s args own) {x y : Int32} {off : Int} {tgt : Nat} (hd : decode cc pc = .ok (.if_icmp .gt off, 3)) (ht : (pc : Int) + off = (tgt : Int)) (hc : ¬ y < x) (k2 : CS p l e R s m args below meth c D A nL cells slots Q ws (pc + 3) lv st) : CS p l e R s m args below meth c D A nL cells slots Q ws pc lv (.int y :: .int x :: st) := fun H locs ls hP hD hS hl => lv_icmp_gt X.1 X.2.1 hd ht (fun h => absurd hc (by first | exact h | exact not_not_intro h)) (fun _ => k2 H locs ls hP hD hS hl)
theorem x_if_le (X : CX p m c cc nL s args own) {x : Int32} {off : Int} {tgt : Nat} {α : Type} {FA FB out : α} (hd : decode cc pc = .ok (.ifCond .le off, 3)) (ht : (pc : Int) + off = (tgt : Int)) (hf : (if x ≤ 0 then FA else FB) = out) (k1 : FA = out → CS p l e R s m args below meth c D A nL cells slots Q ws tgt lv st) (k2 : FB = out → CS p l e R s m args below meth c D A nL cells slots Q ws (pc + 3) lv st) : CS p l e R s m args below meth c D A nL cells slots Q ws pc lv (.int x :: st) := fun H locs ls hP hD hS hl => lv_if_le X.1 X.2.1 hd ht (fun h => k1 ((if_pos h).symm.trans hf) H locs ls hP hD hS hl) (fun h => k2 ((if_neg h).symm.trans hf) H locs ls hP hD hS hl)
theorem x_if_le_t (X : CX p m c cc nL s args own) {x : Int32} {off : Int} {tgt : Nat} (hd : decode cc pc = .ok (.ifCond .le off, 3)) (ht : (pc : Int) + off = (tgt : Int)) (hc : x ≤ 0) (k1 : CS p l e R s m args below meth c D A nL cells slots Q ws tgt lv st) : CS p l e R s m args below meth c D A nL cells slots Q ws pc lv (.int x :: st) := fun H locs ls hP hD hS hl => lv_if_le X.1 X.2.1 hd ht (fun _ => k1 H locs ls hP hD hS hl) (fun h => absurd hc (by first | exact h | exact not_not_intro h))
theorem x_if_le_f (X : CX p m c cc nL s args own) {x : Int32} {off : Int} {tgt : Nat} (hd : decode cc pc = .ok (.ifCond .le off, 3)) (ht : (pc : Int) + off = (tgt : Int)) (hc : ¬ x ≤ 0) (k2 : CS p l e R s m args below meth c D A nL cells slots Q ws (pc + 3) lv st) : CS p l e R s m args below meth c D A nL cells slots Q ws pc lv (.int x :: st) := fun H locs ls hP hD hS hl => lv_if_le X.1 X.2.1 hd ht (fun h => absurd hc (by first | exact h | exact not_not_intro h)) (fun _ => k2 H locs ls hP hD hS hl)
theorem x_icmp_le (X : CX p m c cc nL s args own) {x y : Int32} {off : Int} {tgt : Nat} {α : Type} {FA FB out : α} (hd : decode cc pc = .ok (.if_icmp .le off, 3)) (ht : (pc : Int) + off = (tgt : Int)) (hf : (if x ≤ y then FA else FB) = out) (k1 : FA = out → CS p l e R s m args below meth c D A nL cells slots Q ws tgt lv st) (k2 : FB = out → CS p l e R s m args below meth c D A nL cells slots Q ws (pc + 3) lv st) : CS p l e R s m args below meth c D A nL cells slots Q ws pc lv (.int y :: .int x :: st) := fun H locs ls hP hD hS hl => lv_icmp_le X.1 X.2.1 hd ht (fun h => k1 ((if_pos h).symm.trans hf) H locs ls hP hD hS hl) (fun h => k2 ((if_neg h).symm.trans hf) H locs ls hP hD hS hl)
theorem x_icmp_le_t (X : CX p m c cc nL s args own) {x y : Int32} {off : Int} {tgt : Nat} (hd : decode cc pc = .ok (.if_icmp .le off, 3)) (ht : (pc : Int) + off = (tgt : Int)) (hc : x ≤ y) (k1 : CS p l e R s m args below meth c D A nL cells slots Q ws tgt lv st) : CS p l e R s m args below meth c D A nL cells slots Q ws pc lv (.int y :: .int x :: st) := fun H locs ls hP hD hS hl => lv_icmp_le X.1 X.2.1 hd ht (fun _ => k1 H locs ls hP hD hS hl) (fun h => absurd hc (by first | exact h | exact not_not_intro h))
theorem x_icmp_le_f (X : CX p m c cc nL s args own) {x y : Int32} {off : Int} {tgt : Nat} (hd : decode cc pc = .ok (.if_icmp .le off, 3)) (ht : (pc : Int) + off = (tgt : Int)) (hc : ¬ x ≤ y) (k2 : CS p l e R s m args below meth c D A nL cells slots Q ws (pc + 3) lv st) : CS p l e R s m args below meth c D A nL cells slots Q ws pc lv (.int y :: .int x :: st) := fun H locs ls hP hD hS hl => lv_icmp_le X.1 X.2.1 hd ht (fun h => absurd hc (by first | exact h | exact not_not_intro h)) (fun _ => k2 H locs ls hP hD hS hl)
theorem x_lcmp (X : CX p m c cc nL s args own) {x y : Int64} (hd : decode cc pc = .ok (.lcmp, 1)) (kk : CS p l e R s m args below meth c D A nL cells slots Q ws (pc + 1) lv (.int (lg_cmp x y) :: st)) : CS p l e R s m args below meth c D A nL cells slots Q ws pc lv (.long y :: .long x :: st) := fun H locs ls hP hD hS hl => W.lcmp X.1 X.2.1 hd (kk H locs ls hP hD hS hl)
theorem x_dcmp (X : CX p m c cc nL s args own) {x y : UInt64} {op : CmpOp} (hd : decode cc pc = .ok (.dcmp op, 1)) (kk : CS p l e R s m args below meth c D A nL cells slots Q ws (pc + 1) lv (.int (Op.cmpValue (FP.dcmp x y) op) :: st)) : CS p l e R s m args below meth c D A nL cells slots Q ws pc lv (.double y :: .double x :: st) := fun H locs ls hP hD hS hl => lv_dcmp X.1 X.2.1 hd (kk H locs ls hP hD hS hl)
theorem x_ldc (X : CX p m c cc nL s args own) {index : Nat} {v : Int32} (hw : Cond.constant own index v ∈ WG) (hd : decode cc pc = .ok (.ldc index, 2)) (kk : CS p l e R s m args below meth c D A nL cells slots Q ws (pc + 2) lv (.int v :: st)) : CS p l e R s m args below meth c D A nL cells slots Q ws pc lv st := fun H locs ls hP hD hS hl => lv_ldc X.1 X.2.1 X.2.2.2.1 (X.2.2.2.2 _ hw) hd (kk H locs ls hP hD hS hl)
theorem x_ldcw (X : CX p m c cc nL s args own) {index : Nat} {v : Int32} (hw : Cond.constant own index v ∈ WG) (hd : decode cc pc = .ok (.ldc_w index, 3)) (kk : CS p l e R s m args below meth c D A nL cells slots Q ws (pc + 3) lv (.int v :: st)) : CS p l e R s m args below meth c D A nL cells slots Q ws pc lv st := fun H locs ls hP hD hS hl => lv_ldcw X.1 X.2.1 X.2.2.2.1 (X.2.2.2.2 _ hw) hd (kk H locs ls hP hD hS hl)
theorem x_ldc2 (X : CX p m c cc nL s args own) {index : Nat} {v : Int64} (hw : Cond.constantLong own index v ∈ WG) (hd : decode cc pc = .ok (.ldc2_w index, 3)) (kk : CS p l e R s m args below meth c D A nL cells slots Q ws (pc + 3) lv (.long v :: st)) : CS p l e R s m args below meth c D A nL cells slots Q ws pc lv st := fun H locs ls hP hD hS hl => lv_ldc2 X.1 X.2.1 X.2.2.2.1 (X.2.2.2.2 _ hw) hd (kk H locs ls hP hD hS hl)
theorem x_nmI {x : Int32} {α : Type} {kf : Int32 → α} {out : α} (hf : nm x kf = out) (kk : ∀ y, kf y = out → CS p l e R s m args below meth c D A nL cells slots Q ws pc lv (.int y :: st)) : CS p l e R s m args below meth c D A nL cells slots Q ws pc lv (.int x :: st) := kk x hf
theorem x_nmL {x : Int64} {α : Type} {kf : Int64 → α} {out : α} (hf : nm x kf = out) (kk : ∀ y, kf y = out → CS p l e R s m args below meth c D A nL cells slots Q ws pc lv (.long y :: st)) : CS p l e R s m args below meth c D A nL cells slots Q ws pc lv (.long x :: st) := kk x hf
theorem x_nmD {x : UInt64} {α : Type} {kf : UInt64 → α} {out : α} (hf : nm x kf = out) (kk : ∀ y, kf y = out → CS p l e R s m args below meth c D A nL cells slots Q ws pc lv (.double y :: st)) : CS p l e R s m args below meth c D A nL cells slots Q ws pc lv (.double x :: st) := kk x hf
theorem x_lpick {lv2 : List (Nat × Value)} (ks : List Nat) (h : lv_pick lv ks = lv2) (kk : CS p l e R s m args below meth c D A nL cells slots Q ws pc lv2 st) : CS p l e R s m args below meth c D A nL cells slots Q ws pc lv st := fun H locs ls hP hD hS hl => kk H locs ls hP hD hS (lv_sub hl ks h)
theorem x_get (X : CX p m c cc nL s args own) (hK : va_K D vwCl (tyS kA) s) {ref C : String} {T : u_T} {N ci index a : Nat} (hin : ∀ w ∈ u_ws C T N, w ∈ WG) (q0 : Nat) {fs : List Value} (he : ws[q0]? = some (a, .inr (ci, fs))) (hc : vwCl[ci]? = some (C, T, N)) (k : Nat) (hk : k < N) (hw : Cond.fieldLink own index ref (T k).2.1 (T k).2.2.1 ∈ WG) (hsame : ref = (T k).1) {v : Value} (hv : fs[k]? = some v) (hd : decode cc pc = .ok (.getfield index, 3)) (kk : CS p l e R s m args below meth c D A nL cells slots Q ws (pc + 3) lv (v :: st)) : CS p l e R s m args below meth c D A nL cells slots Q ws pc lv (.ref a :: st) := fun H locs ls hP hD hS hl => va_get X.1 X.2.1 X.2.2.2.2 hin X.2.2.2.1 hK hP q0 he hc k hk (X.2.2.2.2 _ hw) (fun x h => by rw [hsame]; exact h) hv hd (kk H locs ls hP hD hS hl)
theorem x_put (X : CX p m c cc nL s args own) (hK : va_K D vwCl (tyS kA) s) {ref C : String} {T : u_T} {N ci index a : Nat} (hin : ∀ w ∈ u_ws C T N, w ∈ WG) (ty0 : Nat → FieldType) (hty : ∀ k, k < N → parseFieldDescriptor (T k).2.2.1 = some (ty0 k)) (hnm : ∀ a, a < N → ∀ b, b < N → a ≠ b → (T a).2.1 ≠ (T b).2.1) (q0 : Nat) {fs : List Value} (he : ws[q0]? = some (a, .inr (ci, fs))) (hc : vwCl[ci]? = some (C, T, N)) (k : Nat) (hk : k < N) (hw : Cond.fieldLink own index ref (T k).2.1 (T k).2.2.1 ∈ WG) (hsame : ref = (T k).1) (hfin : (T k).2.2.2 = false) {ty : FieldType} {v : Value} (hdd : parseFieldDescriptor (T k).2.2.1 = some ty) (hn : narrow ty v = v) (hfit : fits ty v = true) (hlen : k < fs.length) (hd : decode cc pc = .ok (.putfield index, 3)) (ws2 : va_W) (hws : ws.set q0 (a, .inr (ci, fs.set k v)) = ws2) (kk : CS p l e R s m args below meth c D A nL cells slots Q ws2 (pc + 3) lv st) : CS p l e R s m args below meth c D A nL cells slots Q ws pc lv (v :: .ref a :: st) := fun H locs ls hP hD hS hl => va_put X.1 X.2.1 X.2.2.2.2 hin ty0 hty hnm X.2.2.2.1 hK hP hD hS q0 he hc k hk (X.2.2.2.2 _ hw) (fun x h => by rw [hsame]; exact h) hfin hdd hn hfit hlen hd (fun H1 locs1 hP hD hS => by rw [hws] at hP hD; exact kk H1 locs1 ls hP hD hS hl)
theorem x_putF (X : CX p m c cc nL s args own) (hK : va_K D vwCl (tyS kA) s) (hini : meth.name = "<init>") {ref C : String} {T : u_T} {N ci index a : Nat} (hin : ∀ w ∈ u_ws C T N, w ∈ WG) (ty0 : Nat → FieldType) (hty : ∀ k, k < N → parseFieldDescriptor (T k).2.2.1 = some (ty0 k)) (hnm : ∀ a, a < N → ∀ b, b < N → a ≠ b → (T a).2.1 ≠ (T b).2.1) (q0 : Nat) {fs : List Value} (he : ws[q0]? = some (a, .inr (ci, fs))) (hc : vwCl[ci]? = some (C, T, N)) (k : Nat) (hk : k < N) (hw : Cond.fieldLink own index ref (T k).2.1 (T k).2.2.1 ∈ WG) (hsame : ref = (T k).1) (hfin : (T k).2.2.2 = true) (hdecl : (T k).1 = own) {ty : FieldType} {v : Value} (hdd : parseFieldDescriptor (T k).2.2.1 = some ty) (hn : narrow ty v = v) (hfit : fits ty v = true) (hlen : k < fs.length) (hd : decode cc pc = .ok (.putfield index, 3)) (ws2 : va_W) (hws : ws.set q0 (a, .inr (ci, fs.set k v)) = ws2) (kk : CS p l e R s m args below meth c D A nL cells slots Q ws2 (pc + 3) lv st) : CS p l e R s m args below meth c D A nL cells slots Q ws pc lv (v :: .ref a :: st) := fun H locs ls hP hD hS hl => va_putF X.1 X.2.1 X.2.2.2.2 hin ty0 hty hnm X.2.2.2.1 hK hP hD hS q0 he hc k hk (X.2.2.2.2 _ hw) (fun x h => by rw [hsame]; exact h) hfin hini hdecl hdd hn hfit hlen hd (fun H1 locs1 hP hD hS => by rw [hws] at hP hD; exact kk H1 locs1 ls hP hD hS hl)
theorem x_iald (X : CX p m c cc nL s args own) (hK : va_K D vwCl (tyS kA) s) (q0 : Nat) {a n : Nat} {f : Nat → Int32} (he : ws[q0]? = some (a, .inl (kA 0, n, .inl f))) {i : Int32} {α : Type} {kf : Int32 → Option α} {out : α} (hd : decode cc pc = .ok (.iaload, 1)) (hf : ck (vp_in i n) (nm (f i.toNatClampNeg) kf) = some out) (kk : ∀ x, kf x = some out → CS p l e R s m args below meth c D A nL cells slots Q ws (pc + 1) lv (.int x :: st)) : CS p l e R s m args below meth c D A nL cells slots Q ws pc lv (.int i :: .ref a :: st) := fun H locs ls hP hD hS hl => va_iald X.1 X.2.1 hK hP q0 0 he rfl (ck_some hf).1 hd (kk _ (ck_some hf).2 H locs ls hP hD hS hl)
theorem x_zald (X : CX p m c cc nL s args own) (hK : va_K D vwCl (tyS kA) s) (q0 : Nat) {a n : Nat} {f : Nat → Int32} (he : ws[q0]? = some (a, .inl (kA 2, n, .inl f))) {i : Int32} {α : Type} {kf : Int32 → Option α} {out : α} (hd : decode cc pc = .ok (.baload, 1)) (hf : ck (vp_in i n) (nm (f i.toNatClampNeg) kf) = some out) (kk : ∀ x, kf x = some out → CS p l e R s m args below meth c D A nL cells slots Q ws (pc + 1) lv (.int x :: st)) : CS p l e R s m args below meth c D A nL cells slots Q ws pc lv (.int i :: .ref a :: st) := fun H locs ls hP hD hS hl => va_zald X.1 X.2.1 hK hP q0 2 he rfl (ck_some hf).1 hd (kk _ (ck_some hf).2 H locs ls hP hD hS hl)
theorem x_lald (X : CX p m c cc nL s args own) (hK : va_K D vwCl (tyS kA) s) (q0 : Nat) {a n : Nat} {f : Nat → Int64} (he : ws[q0]? = some (a, .inl (kA 1, n, .inr (.inl f)))) {i : Int32} {α : Type} {kf : Int64 → Option α} {out : α} (hd : decode cc pc = .ok (.laload, 1)) (hf : ck (vp_in i n) (nm (f i.toNatClampNeg) kf) = some out) (kk : ∀ x, kf x = some out → CS p l e R s m args below meth c D A nL cells slots Q ws (pc + 1) lv (.long x :: st)) : CS p l e R s m args below meth c D A nL cells slots Q ws pc lv (.int i :: .ref a :: st) := fun H locs ls hP hD hS hl => va_lald X.1 X.2.1 hK hP q0 1 he rfl (ck_some hf).1 hd (kk _ (ck_some hf).2 H locs ls hP hD hS hl)
theorem x_dald (X : CX p m c cc nL s args own) (hK : va_K D vwCl (tyS kA) s) (q0 : Nat) {a n : Nat} {f : Nat → UInt64} (he : ws[q0]? = some (a, .inl (kA 3, n, .inr (.inr (.inr (.inl f)))))) {i : Int32} {α : Type} {kf : UInt64 → Option α} {out : α} (hd : decode cc pc = .ok (.daload, 1)) (hf : ck (vp_in i n) (nm (f i.toNatClampNeg) kf) = some out) (kk : ∀ x, kf x = some out → CS p l e R s m args below meth c D A nL cells slots Q ws (pc + 1) lv (.double x :: st)) : CS p l e R s m args below meth c D A nL cells slots Q ws pc lv (.int i :: .ref a :: st) := fun H locs ls hP hD hS hl => va_dald X.1 X.2.1 hK hP q0 3 he rfl (ck_some hf).1 hd (kk _ (ck_some hf).2 H locs ls hP hD hS hl)
theorem x_iast (X : CX p m c cc nL s args own) (hK : va_K D vwCl (tyS kA) s) (q0 : Nat) {a n : Nat} {f : Nat → Int32} (he : ws[q0]? = some (a, .inl (kA 0, n, .inl (f)))) {i : Int32} {x : Int32} {α τ : Type} {u : τ} {kf : τ → Option α} {out : α} (hd : decode cc pc = .ok (.iastore, 1)) (hf : ck (vp_in i n) (nm u kf) = some out) (ws2 : τ → va_W) (hws : ws.set q0 (a, .inl (kA 0, n, .inl (upd f i.toNatClampNeg x))) = ws2 u) (kk : ∀ u, kf u = some out → CS p l e R s m args below meth c D A nL cells slots Q (ws2 u) (pc + 1) lv st) : CS p l e R s m args below meth c D A nL cells slots Q ws pc lv (.int x :: .int i :: .ref a :: st) := fun H locs ls hP hD hS hl => va_iast X.1 X.2.1 hK hP hD hS q0 0 he rfl (ck_some hf).1 hd (fun H1 locs1 hP hD hS => by rw [hws] at hP hD; exact kk u (ck_some hf).2 H1 locs1 ls hP hD hS hl)
theorem x_zast (X : CX p m c cc nL s args own) (hK : va_K D vwCl (tyS kA) s) (q0 : Nat) {a n : Nat} {f : Nat → Int32} (he : ws[q0]? = some (a, .inl (kA 2, n, .inl (f)))) {i : Int32} {x : Int32} {α τ : Type} {u : τ} {kf : τ → Option α} {out : α} (hd : decode cc pc = .ok (.bastore, 1)) (hf : ck (vp_in i n) (nm u kf) = some out) (ws2 : τ → va_W) (hws : ws.set q0 (a, .inl (kA 2, n, .inl (upd f i.toNatClampNeg (vp_nar .boolean x)))) = ws2 u) (kk : ∀ u, kf u = some out → CS p l e R s m args below meth c D A nL cells slots Q (ws2 u) (pc + 1) lv st) : CS p l e R s m args below meth c D A nL cells slots Q ws pc lv (.int x :: .int i :: .ref a :: st) := fun H locs ls hP hD hS hl => va_zast X.1 X.2.1 hK hP hD hS q0 2 he rfl (ck_some hf).1 hd (fun H1 locs1 hP hD hS => by rw [hws] at hP hD; exact kk u (ck_some hf).2 H1 locs1 ls hP hD hS hl)
theorem x_last (X : CX p m c cc nL s args own) (hK : va_K D vwCl (tyS kA) s) (q0 : Nat) {a n : Nat} {f : Nat → Int64} (he : ws[q0]? = some (a, .inl (kA 1, n, .inr (.inl (f))))) {i : Int32} {x : Int64} {α τ : Type} {u : τ} {kf : τ → Option α} {out : α} (hd : decode cc pc = .ok (.lastore, 1)) (hf : ck (vp_in i n) (nm u kf) = some out) (ws2 : τ → va_W) (hws : ws.set q0 (a, .inl (kA 1, n, .inr (.inl (vp_updL f i.toNatClampNeg x)))) = ws2 u) (kk : ∀ u, kf u = some out → CS p l e R s m args below meth c D A nL cells slots Q (ws2 u) (pc + 1) lv st) : CS p l e R s m args below meth c D A nL cells slots Q ws pc lv (.long x :: .int i :: .ref a :: st) := fun H locs ls hP hD hS hl => va_last X.1 X.2.1 hK hP hD hS q0 1 he rfl (ck_some hf).1 hd (fun H1 locs1 hP hD hS => by rw [hws] at hP hD; exact kk u (ck_some hf).2 H1 locs1 ls hP hD hS hl)
theorem x_dast (X : CX p m c cc nL s args own) (hK : va_K D vwCl (tyS kA) s) (q0 : Nat) {a n : Nat} {f : Nat → UInt64} (he : ws[q0]? = some (a, .inl (kA 3, n, .inr (.inr (.inr (.inl (f))))))) {i : Int32} {x : UInt64} {α τ : Type} {u : τ} {kf : τ → Option α} {out : α} (hd : decode cc pc = .ok (.dastore, 1)) (hf : ck (vp_in i n) (nm u kf) = some out) (ws2 : τ → va_W) (hws : ws.set q0 (a, .inl (kA 3, n, .inr (.inr (.inr (.inl (vf_upd f i.toNatClampNeg x)))))) = ws2 u) (kk : ∀ u, kf u = some out → CS p l e R s m args below meth c D A nL cells slots Q (ws2 u) (pc + 1) lv st) : CS p l e R s m args below meth c D A nL cells slots Q ws pc lv (.double x :: .int i :: .ref a :: st) := fun H locs ls hP hD hS hl => va_dast X.1 X.2.1 hK hP hD hS q0 3 he rfl (ck_some hf).1 hd (fun H1 locs1 hP hD hS => by rw [hws] at hP hD; exact kk u (ck_some hf).2 H1 locs1 ls hP hD hS hl)
theorem x_alen (X : CX p m c cc nL s args own) (hK : va_K D vwCl (tyS kA) s) (q0 t0 : Nat) {a : Nat} {cA : ClassId} {y : vp_A} (he : ws[q0]? = some (a, .inl (cA, y))) {ty : FieldType} (ht : (tyS kA)[t0]? = some (cA, ty)) {v : Int32} (hv : Int32.ofNat y.1 = v) (hd : decode cc pc = .ok (.arraylength, 1)) (kk : CS p l e R s m args below meth c D A nL cells slots Q ws (pc + 1) lv (.int v :: st)) : CS p l e R s m args below meth c D A nL cells slots Q ws pc lv (.ref a :: st) := fun H locs ls hP hD hS hl => va_alen X.1 X.2.1 hK hP q0 t0 he ht hv hd (kk H locs ls hP hD hS hl)
theorem x_mmin (X : CX p m c cc nL s args own) {index : Nat} (h1 : Cond.methodLink own index Lib.Math.min.name ∈ WG) (h2 : Cond.static Lib.Math.min.name ∈ WG) (h3 : Cond.initialized "java/lang/Math" ∈ WG) (h4 : Cond.code Lib.Math.min.name Lib.Math.min.code 2 (some .int) ∈ WG) (hfr : 1 ≤ R.frames) (hlo : (st.map fun v => v.category).sum + 13 ≤ R.locals) (hc : cells ≤ R.cells) (hs : slots ≤ R.slots) {x y : Int32} (hd : decode cc pc = .ok (.invokestatic index, 3)) (kk : CS p l e R s m args below meth c D A nL cells slots Q ws (pc + 3) lv (.int (if y < x then y else x) :: st)) : CS p l e R s m args below meth c D A nL cells slots Q ws pc lv (.int y :: .int x :: st) := fun H locs ls hP hD hS hl => va_mmin X.1 X.2.1 (X.2.2.1.trans hl.1.symm) X.2.2.2.1 (X.2.2.2.2 _ h1) (X.2.2.2.2 _ h2) (X.2.2.2.2 _ h3) (X.2.2.2.2 _ h4) hfr hlo hc hs hd (kk H locs ls hP hD hS hl)
theorem x_mminL (X : CX p m c cc nL s args own) {index : Nat} (h1 : Cond.methodLink own index Lib.MathLoose.min_long.x ∈ WG) (h2 : Cond.static Lib.MathLoose.min_long.x ∈ WG) (h3 : Cond.initialized "java/lang/Math" ∈ WG) (h4 : Cond.code Lib.MathLoose.min_long.x Lib.MathLoose.min_long.code 4 (some .long) ∈ WG) (hfr : 1 ≤ R.frames) (hlo : (st.map fun v => v.category).sum + 15 ≤ R.locals) (hc : cells ≤ R.cells) (hs : slots ≤ R.slots) {x y : Int64} (hd : decode cc pc = .ok (.invokestatic index, 3)) (kk : CS p l e R s m args below meth c D A nL cells slots Q ws (pc + 3) lv (.long (if y < x then y else x) :: st)) : CS p l e R s m args below meth c D A nL cells slots Q ws pc lv (.long y :: .long x :: st) := fun H locs ls hP hD hS hl => va_mmin_long X.1 X.2.1 (X.2.2.1.trans hl.1.symm) X.2.2.2.1 (X.2.2.2.2 _ h1) (X.2.2.2.2 _ h2) (X.2.2.2.2 _ h3) (X.2.2.2.2 _ h4) hfr hlo hc hs hd (kk H locs ls hP hD hS hl)
theorem x_copyi (X : CX p m c cc nL s args own) (hK : va_K D vwCl (tyS kA) s) {index : Nat} (h1 : Cond.methodLink own index arraycopyName ∈ WG) (h2 : Cond.native arraycopyName ∈ WG) (h3 : Cond.static arraycopyName ∈ WG) (h4 : Cond.initialized "java/lang/System" ∈ WG) (q0 q1 : Nat) {a0 a n0 n1 : Nat} {f g : Nat → Int32} (he0 : ws[q0]? = some (a0, .inl (kA 0, n0, .inl f))) (he1 : ws[q1]? = some (a, .inl (kA 0, n1, .inl g))) {sp dp n : Int32} {α τ : Type} {u : τ} {kf : τ → Option α} {out : α} (hf : ck (¬ sp < 0 ∧ ¬ dp < 0 ∧ ¬ n < 0 ∧ sp.toNatClampNeg + n.toNatClampNeg ≤ n0 ∧ dp.toNatClampNeg + n.toNatClampNeg ≤ n1) (nm u kf) = some out) (hfr : 1 ≤ R.frames) (hlo : (st.map fun v => v.category).sum + (nativeFrameWords "java/lang/System" "arraycopy" 5 + 11) ≤ R.locals) (hd : decode cc pc = .ok (.invokestatic index, 3)) (ws2 : τ → va_W) (hws : ws.set q1 (a, .inl (kA 0, n1, .inl (va_cpy f g sp.toNatClampNeg dp.toNatClampNeg n.toNatClampNeg))) = ws2 u) (kk : ∀ u, kf u = some out → CS p l e R s m args below meth c D A nL cells slots Q (ws2 u) (pc + 3) lv st) : CS p l e R s m args below meth c D A nL cells slots Q ws pc lv (.int n :: .int dp :: .ref a :: .int sp :: .ref a0 :: st) := fun H locs ls hP hD hS hl => va_copyi X.1 X.2.1 (X.2.2.1.trans hl.1.symm) X.2.2.2.1 (X.2.2.2.2 _ h1) (X.2.2.2.2 _ h2) (X.2.2.2.2 _ h3) (X.2.2.2.2 _ h4) hK hP hD hS q0 q1 0 0 he0 he1 rfl rfl rfl (ck_some hf).1.1 (ck_some hf).1.2.1 (ck_some hf).1.2.2.1 (ck_some hf).1.2.2.2.1 (ck_some hf).1.2.2.2.2 (fun _ _ => rfl) hfr hlo hd (fun H1 locs1 hP hD hS => by rw [hws] at hP hD; exact kk u (ck_some hf).2 H1 locs1 ls hP hD hS hl)
end FR

def STRL : List (String × Nat × String) := [("RoadOracle", 55, "no more junctions"), ("RoadOracle", 256, "no such junction"), ("RoadOracle", 66, "a road ends at another junction"), ("RoadOracle", 270, "a weight is 1 to 10000"), ("RoadOracle", 75, "no more roads"), ("RoadOracle", 258, "no such road"), ("RoadOracle", 266, "the second road does not follow the first"), ("RoadOracle", 103, "a setting is -2 to 1000"), ("RoadOracle", 115, "a U-turn penalty is -1 to 1000"), ("RoadOracle", 135, "there are no roads"), ("RoadOracle", 272, "there is no hierarchy"), ("RoadOracle", 158, "there is no such arc"), ("RoadOracle", 198, "there is no path"), ("RoadOracle", 208, "no such index in the path"), ("RoadOracle", 211, "a budget is not negative"), ("RoadOracle", 225, "no such index among the junctions"), ("RoadOracle", 268, "no such kind"), ("RoadOracle", 233, "there is no path to such a place"), ("RoadOracle", 238, "no more levels"), ("RoadOracle", 243, "there is no level")]
/-! the words that are no good words: nest links, casts, declarations; String constants; two statics -/
def NWk : Cond → Bool
  | .methodLinkNest .. => true
  | .castable .. => true
  | .declares _ => true
  | _ => false
def NWL : List Cond := lw_tbl.filter NWk
theorem NWL_in (i : Nat) {w : Cond} (h : lw_tbl[i]? = some w) (g : NWk w = true) : w ∈ NWL := List.mem_filter.mpr ⟨List.mem_of_getElem? h, g⟩
theorem NW_warm {w : Cond} (hw : NWk w = true) {s U : State} (hW : s.WarmedH U.vm) (h : va_Nw w s) : va_Nw w U := by
  cases w <;> first | exact va_Nw.warmM hW h | exact va_Nw.warmC hW h | exact va_Nw.warmD hW h | (exfalso; cases hw)
theorem NW_same {w : Cond} (hw : NWk w = true) {u U : State} (e : u.vm = U.vm) (h : va_Nw w u) : va_Nw w U := by
  refine va_Nw.same ?_ e h
  cases w <;> first | rfl | (exfalso; cases hw)
def EV (D : va_G) (kA : Nat → ClassId) (U : State) : Prop := va_K D vwCl (tyS kA) U ∧ (∀ w ∈ NWL, va_Nw w U) ∧ ∀ q ∈ STRL, ∃ a, vk_R q.1 q.2.1 q.2.2 a U
theorem EV.warm {D : va_G} {kA : Nat → ClassId} {s U : State} (hW : s.WarmedH U.vm) (h : EV D kA s) : EV D kA U :=
  ⟨va_K.moved hW.alike h.1, fun w hw => NW_warm (List.mem_filter.mp hw).2 hW (h.2.1 w hw), fun q hq => (h.2.2 q hq).imp (fun a ha => vk_R.warm hW ha)⟩
theorem EV.same {D : va_G} {kA : Nat → ClassId} {u U : State} (e : u.vm = U.vm) (ha : u.vm.Alike U.vm) (h : EV D kA u) : EV D kA U :=
  ⟨va_K.moved ha h.1, fun w hw => NW_same (List.mem_filter.mp hw).2 e (h.2.1 w hw), fun q hq => (h.2.2 q hq).imp (fun a hx => vk_R.same e.symm hx)⟩
def ZZ (A : Nat → Prop) (U : State) (H : Heap) : Prop := vx_Zq Bundle.tN "UNASSIGNED_STACK" Bundle.steD A U H ∧ vx_Zq Bundle.tN "SUPPRESSED_SENTINEL" Bundle.listD A U H
theorem ZZ.moved {A : Nat → Prop} {u U : State} {H : Heap} (hvm : u.vm.Alike U.vm) (h : ZZ A u H) : ZZ A U H := ⟨vx_Zq.moved hvm h.1, vx_Zq.moved hvm h.2⟩
theorem ZZ.kept {A : Nat → Prop} {U : State} {H H1 : Heap} (h : ZZ A U H) (hq : ∀ a : Nat, a < H.size → ¬ A a → H1[a]? = H[a]?) : ZZ A U H1 := ⟨h.1.kept hq, h.2.kept hq⟩
theorem ZZ.narrow {A B : Nat → Prop} {U : State} {H : Heap} (h : ZZ A U H) (hAB : ∀ q, B q → A q) : ZZ B U H := ⟨h.1.narrow hAB, h.2.narrow hAB⟩
def PreG (D : va_G) (kA : Nat → ClassId) (ws : va_W) (sz : Nat) : State → Prop := fun U => U.heap.size = sz ∧ va_P D vwCl ws U.heap ∧ va_D (fun _ => True) ws ∧ EV D kA U ∧ ZZ (va_A ws sz) U U.heap
def PosG (D : va_G) (A : Nat → Prop) (ws : va_W) (t : State) : Prop := va_P D vwCl ws t.heap ∧ va_D A ws
abbrev EX (l : Launch) (s : State) (D : va_G) (kA : Nat → ClassId) (A : Nat → Prop) : Prop := EV D kA s ∧ ZZ A s s.heap ∧ (∀ q : Nat, s.heap.size ≤ q → A q) ∧ l.stackTraces = false
theorem pre_blind {D : va_G} {kA : Nat → ClassId} {ws : va_W} {sz : Nat} {As : List Value} : FrameBlind (va_Pc As (PreG D kA ws sz)) := fun a U g mk h =>
  ⟨h.1, h.2.1, h.2.2.1, h.2.2.2.1, EV.same (u := U) (U := U.calling g mk a) rfl (Vm.Alike.refl U.vm) h.2.2.2.2.1, ZZ.moved (u := U) (U := U.calling g mk a) (Vm.Alike.refl U.vm) h.2.2.2.2.2⟩
theorem fr_self {A : Nat → Prop} {ws : va_W} {H0 H : Heap} {locs : List Loc} (hD : va_D A ws) (hS : va_S A H0 H locs) (hA : ∀ q, H0.size ≤ q → A q) : ∀ q, va_A ws H.size q → A q := by
  intro q h
  rcases h with ⟨k, e, h⟩ | h
  · exact hD.2 k (q, e) h
  · exact hA q (Nat.le_trans hS.1 h)
theorem pre_at {l : Launch} {s : State} {D : va_G} {kA : Nat → ClassId} {A : Nat → Prop} {ws : va_W} {H : Heap} {locs : List Loc} {As : List Value} (E : EX l s D kA A) (hP : va_P D vwCl ws H) (hD : va_D A ws) (hS : va_S A s.heap H locs) : ∀ U : State, U.heap = H → s.WarmedH U.vm → va_Pc As (PreG D kA ws H.size) As.toArray U := by
  intro U hU hW
  refine ⟨rfl, by rw [hU], by rw [hU]; exact hP, hD.weaken (fun _ _ _ _ => trivial), E.1.warm hW, ?_⟩
  rw [hU]
  exact ((E.2.1.kept hS.2.1).narrow (fr_self hD hS E.2.2.1)).moved hW.alike
theorem pre_seg {l : Launch} {s : State} {D : va_G} {kA : Nat → ClassId} {A : Nat → Prop} {w1 w2 w3 : va_W} {H : Heap} {locs : List Loc} (hP : va_P D vwCl (w1 ++ (w2 ++ w3)) H) (hD : va_D A (w1 ++ (w2 ++ w3))) : va_P D vwCl w2 H ∧ va_D A w2 := by
  have key : ∀ (k : Nat) (q : Nat × va_E), w2[k]? = some q → (w1 ++ (w2 ++ w3))[w1.length + k]? = some q := by
    intro k q h
    have hl := (List.getElem?_eq_some_iff.mp h).1
    rw [List.getElem?_append_right (by omega), Nat.add_sub_cancel_left, List.getElem?_append_left hl]
    exact h
  exact ⟨fun k q h => hP _ q (key k q h), fun i j p q hi hj e => by have := hD.1 _ _ p q (key i p hi) (key j q hj) e; omega, fun k q h => hD.2 _ q (key k q h)⟩
section FC
variable {p : Program} {l : Launch} {e : Env} {R : Room} {s : State} {m : MethodId} {args : Array Value} {below : List Frame} {meth : Method} {c : Code} {D : va_G} {kA : Nat → ClassId} {A : Nat → Prop} {nL cells slots : Nat} {Q : State → Prop} {cc : ByteArray} {own : String} {ws : va_W} {pc : Nat} {lv : List (Nat × Value)} {st : List Value}
theorem x_callS_i (X : CX p m c cc nL s args own) {y : MethodName} {bytes : ByteArray} {maxL n index : Nat} {rm : Room} {As rest : List Value} {ret : Option FieldType} {v : Int32} (hG : GoodIn WG (va_wsS own index y (wsY y bytes maxL ret))) (hM : Met l y (wsY y bytes maxL ret) rm (va_Pc As (fun _ => True)) (va_Qi (fun (r : Int32) (_ : Unit) => r = v) (fun _ _ => True) (fun _ => False)) 0 0 (fun _ => False)) (hrc : rm.cells = 0) (hrs : rm.slots = 0) (hy : y.cls ≠ "java/lang/invoke/MethodHandle" ∧ y.cls ≠ "java/lang/invoke/VarHandle" ∧ (parseMethodDescriptor y.desc).map (fun d => d.parameters.length) = some n) (hR : rm.frames + 1 ≤ R.frames ∧ 8 + (maxL + 11) + rm.locals ≤ R.locals) (hn : As.length = n) (hst : st = As.reverse ++ rest) (hcat : (rest.map fun v => v.category).sum ≤ 8) (hd : decode cc pc = .ok (.invokestatic index, 3)) (hcs : cells ≤ R.cells ∧ slots ≤ R.slots) (kk : CS p l e R s m args below meth c D A nL cells slots Q ws (pc + 3) lv (.int v :: rest)) : CS p l e R s m args below meth c D A nL cells slots Q ws pc lv st := by
  intro H locs ls hP hD hS hl
  refine va_calli (va_runS (As := As) (rest := rest) X hM (va_cwS n X.2.2.2.2 hG rfl hrc hrs hy hR) ⟨fun _ _ _ _ q => q, fun _ _ _ => ⟨rfl, trivial⟩⟩ rfl hn hl.1 hst (lv_room hcat) hd hcs) hS (fun q _ h => h.elim) (fun q h => h.elim) (fun r u t H1 locs1 ht hvm hw hB hz1 hk1 hS1 => ?_)
  have hP1 : va_P D vwCl ws H1 := hP.kept (fun k q hq => hk1 q.1 (hP k q hq).lt (fun h => h.elim))
  subst hw; exact kk H1 locs1 ls hP1 hD hS1 hl
theorem x_callSN_i (X : CX p m c cc nL s args own) {y : MethodName} {bytes : ByteArray} {maxL n index : Nat} {rm : Room} {As rest : List Value} {ret : Option FieldType} {v : Int32} {host : String} (hG : GoodIn WG (wsY y bytes maxL ret)) (hst1 : Cond.static y ∈ WG) (hini : Cond.initialized y.cls ∈ WG) (hnw : va_Nw (.methodLinkNest own index y host) s) (hM : Met l y (wsY y bytes maxL ret) rm (va_Pc As (fun _ => True)) (va_Qi (fun (r : Int32) (_ : Unit) => r = v) (fun _ _ => True) (fun _ => False)) 0 0 (fun _ => False)) (hrc : rm.cells = 0) (hrs : rm.slots = 0) (hy : y.cls ≠ "java/lang/invoke/MethodHandle" ∧ y.cls ≠ "java/lang/invoke/VarHandle" ∧ (parseMethodDescriptor y.desc).map (fun d => d.parameters.length) = some n) (hR : rm.frames + 1 ≤ R.frames ∧ 8 + (maxL + 11) + rm.locals ≤ R.locals) (hn : As.length = n) (hst : st = As.reverse ++ rest) (hcat : (rest.map fun v => v.category).sum ≤ 8) (hd : decode cc pc = .ok (.invokestatic index, 3)) (hcs : cells ≤ R.cells ∧ slots ≤ R.slots) (kk : CS p l e R s m args below meth c D A nL cells slots Q ws (pc + 3) lv (.int v :: rest)) : CS p l e R s m args below meth c D A nL cells slots Q ws pc lv st := by
  intro H locs ls hP hD hS hl
  refine va_calli (va_runSN (As := As) (rest := rest) X hM ⟨va_cnB n X.2.2.2.2 hG rfl hrc hrs hnw (X.2.2.2.2 _ hini) hy hR, X.2.2.2.2 _ hst1, trivial⟩ ⟨fun _ _ _ _ q => q, fun _ _ _ => ⟨rfl, trivial⟩⟩ rfl hn hl.1 hst (lv_room hcat) hd hcs) hS (fun q _ h => h.elim) (fun q h => h.elim) (fun r u t H1 locs1 ht hvm hw hB hz1 hk1 hS1 => ?_)
  have hP1 : va_P D vwCl ws H1 := hP.kept (fun k q hq => hk1 q.1 (hP k q hq).lt (fun h => h.elim))
  subst hw; exact kk H1 locs1 ls hP1 hD hS1 hl
theorem x_callV_i (X : CX p m c cc nL s args own) (E : EX l s D kA A) {y : MethodName} {bytes : ByteArray} {maxL n index : Nat} {rm : Room} {As rest : List Value} {ret : Option FieldType} {v : Int32} {C : String} {b ci : Nat} {qc : vw_C} {fs : List Value} {ws2 : va_W} (hG : GoodIn WG (wsV own index C y (wsY y bytes maxL ret))) (hM : ∀ sz, Met l y (wsY y bytes maxL ret) rm (va_Pc (.ref b :: As) (PreG D kA ws sz)) (va_Qi (fun (r : Int32) (_ : Unit) => r = v) (fun _ t => PosG D (va_A ws sz) ws2 t) (va_A ws sz)) 0 0 (va_A ws sz)) (hrc : rm.cells = 0) (hrs : rm.slots = 0) (hy : y.cls = C ∧ y.cls ≠ "java/lang/invoke/MethodHandle" ∧ y.cls ≠ "java/lang/invoke/VarHandle" ∧ (parseMethodDescriptor y.desc).map (fun d => d.parameters.length) = some n) (hR : rm.frames + 1 ≤ R.frames ∧ 8 + (maxL + 11) + rm.locals ≤ R.locals) (q0 : Nat) (he : ws[q0]? = some (b, .inr (ci, fs))) (hc : vwCl[ci]? = some qc) (hqc : qc.1 = C) (hn : As.length = n) (hst : st = As.reverse ++ .ref b :: rest) (hcat : (rest.map fun v => v.category).sum ≤ 8) (hd : decode cc pc = .ok (.invokevirtual index, 3)) (hcs : cells ≤ R.cells ∧ slots ≤ R.slots) (kk : CS p l e R s m args below meth c D A nL cells slots Q ws2 (pc + 3) lv (.int v :: rest)) : CS p l e R s m args below meth c D A nL cells slots Q ws pc lv st := by
  intro H locs ls hP hD hS hl
  have hF := fr_self hD hS E.2.2.1
  refine va_calli (va_runV (As := As) (rest := rest) (C := C) X (hM H.size) (cwV n X.2.2.2.2 hG rfl hrc hrs hy hR) ⟨pre_blind, hqc ▸ va_recv E.1.1 hP hc he, pre_at E hP hD hS⟩ rfl hn hl.1 hst (lv_room hcat) hd hcs) hS (fun q _ h => hF q h) hF (fun r u t H1 locs1 ht hvm hw hB hz1 hk1 hS1 => ?_)
  obtain ⟨hP1, hD1⟩ := hB
  rw [ht] at hP1
  subst hw; exact kk H1 locs1 ls hP1 (hD1.weaken (fun _ q _ h => hF q.1 h)) hS1 hl
theorem x_callX_i (X : CX p m c cc nL s args own) (E : EX l s D kA A) {y : MethodName} {bytes : ByteArray} {maxL n index : Nat} {rm : Room} {As rest : List Value} {ret : Option FieldType} {C : String} {b ci mc ms : Nat} {qc : vw_C} {fs : List Value} {pic : WS → va_W} {w0 : WS} {o : (Int32 × WS) ⊕ (String × WS)} (hG : GoodIn WG (wsV own index C y (wsY y bytes maxL ret))) (hM : ∀ sz, vx_Met l y (wsY y bytes maxL ret) rm (va_Pc (.ref b :: As) (PreG D kA (pic w0) sz)) (va_Qi (fun (r : Int32) (w : WS) => o = .inl (r, w)) (fun w t => PosG D (va_A (pic w0) sz) (pic w) t) (va_A (pic w0) sz)) (vx_X (fun q : String × WS => o = .inr q) (fun E q t => E = q.1 ∧ PosG D (va_A (pic w0) sz) (pic q.2) t) (va_A (pic w0) sz)) mc ms (va_A (pic w0) sz)) (hrc : rm.cells = mc) (hrs : rm.slots = ms) (hy : y.cls = C ∧ y.cls ≠ "java/lang/invoke/MethodHandle" ∧ y.cls ≠ "java/lang/invoke/VarHandle" ∧ (parseMethodDescriptor y.desc).map (fun d => d.parameters.length) = some n) (hR : rm.frames + 1 ≤ R.frames ∧ 8 + (maxL + 11) + rm.locals ≤ R.locals) (q0 : Nat) (he : (pic w0)[q0]? = some (b, .inr (ci, fs))) (hc : vwCl[ci]? = some qc) (hqc : qc.1 = C) (hn : As.length = n) (hst : st = As.reverse ++ .ref b :: rest) (hcat : (rest.map fun v => v.category).sum ≤ 8) (hd : decode cc pc = .ok (.invokevirtual index, 3)) (hcs : cells + mc ≤ R.cells ∧ slots + ms ≤ R.slots) (kx : ∀ (q : String × WS) (ce : Cell) (q9 : Addr) (H1 : Heap) (locs1 : List Loc) (ls : Array Slot), o = .inr q → va_P D vwCl (pic q.2) H1 → va_D A (pic q.2) → va_S A s.heap H1 locs1 → lv_has ls nL lv → H1[q9]? = some ce → ce.vm = .none → s.vm.findClass q.1 = some ce.cls → vx_W p l e R s m args below meth c H1 locs1 (cells + mc) (slots + ms) Q (F0 m pc ls rest) q9) (kk : ∀ v w, o = .inl (v, w) → CS p l e R s m args below meth c D A nL (cells + mc) (slots + ms) Q (pic w) (pc + 3) lv (.int v :: rest)) : CS p l e R s m args below meth c D A nL cells slots Q (pic w0) pc lv st := by
  intro H locs ls hP hD hS hl
  have hF := fr_self hD hS E.2.2.1
  refine vx_calli (vx_runV (As := As) (rest := rest) (C := C) X (hM H.size) (cwV n X.2.2.2.2 hG rfl hrc hrs hy hR) ⟨pre_blind, hqc ▸ va_recv E.1.1 hP hc he, pre_at E hP hD hS⟩ rfl hn hl.1 hst (lv_room hcat) hd hcs) hS (fun q _ h => hF q h) hF (fun q _ h => hF q h) (fun E1 ce q9 u t H1 locs1 ht hvm hw hB hz1 hk1 hS1 hce hcv hcl => ?_) (fun r u t H1 locs1 ht hvm hw hB hz1 hk1 hS1 => ?_)
  · obtain ⟨rfl, hP1, hD1⟩ := hB
    rw [ht] at hP1
    exact kx u ce q9 H1 locs1 ls hw hP1 (hD1.weaken (fun _ q _ h => hF q.1 h)) hS1 hl hce hcv hcl
  · obtain ⟨hP1, hD1⟩ := hB
    rw [ht] at hP1
    exact kk r u hw H1 locs1 ls hP1 (hD1.weaken (fun _ q _ h => hF q.1 h)) hS1 hl
theorem x_callS_l (X : CX p m c cc nL s args own) {y : MethodName} {bytes : ByteArray} {maxL n index : Nat} {rm : Room} {As rest : List Value} {ret : Option FieldType} {v : Int64} (hG : GoodIn WG (va_wsS own index y (wsY y bytes maxL ret))) (hM : Met l y (wsY y bytes maxL ret) rm (va_Pc As (fun _ => True)) (va_Ql (fun (r : Int64) (_ : Unit) => r = v) (fun _ _ => True) (fun _ => False)) 0 0 (fun _ => False)) (hrc : rm.cells = 0) (hrs : rm.slots = 0) (hy : y.cls ≠ "java/lang/invoke/MethodHandle" ∧ y.cls ≠ "java/lang/invoke/VarHandle" ∧ (parseMethodDescriptor y.desc).map (fun d => d.parameters.length) = some n) (hR : rm.frames + 1 ≤ R.frames ∧ 8 + (maxL + 11) + rm.locals ≤ R.locals) (hn : As.length = n) (hst : st = As.reverse ++ rest) (hcat : (rest.map fun v => v.category).sum ≤ 8) (hd : decode cc pc = .ok (.invokestatic index, 3)) (hcs : cells ≤ R.cells ∧ slots ≤ R.slots) (kk : CS p l e R s m args below meth c D A nL cells slots Q ws (pc + 3) lv (.long v :: rest)) : CS p l e R s m args below meth c D A nL cells slots Q ws pc lv st := by
  intro H locs ls hP hD hS hl
  refine va_calll (va_runS (As := As) (rest := rest) X hM (va_cwS n X.2.2.2.2 hG rfl hrc hrs hy hR) ⟨fun _ _ _ _ q => q, fun _ _ _ => ⟨rfl, trivial⟩⟩ rfl hn hl.1 hst (lv_room hcat) hd hcs) hS (fun q _ h => h.elim) (fun q h => h.elim) (fun r u t H1 locs1 ht hvm hw hB hz1 hk1 hS1 => ?_)
  have hP1 : va_P D vwCl ws H1 := hP.kept (fun k q hq => hk1 q.1 (hP k q hq).lt (fun h => h.elim))
  subst hw; exact kk H1 locs1 ls hP1 hD hS1 hl
theorem x_callSN_l (X : CX p m c cc nL s args own) {y : MethodName} {bytes : ByteArray} {maxL n index : Nat} {rm : Room} {As rest : List Value} {ret : Option FieldType} {v : Int64} {host : String} (hG : GoodIn WG (wsY y bytes maxL ret)) (hst1 : Cond.static y ∈ WG) (hini : Cond.initialized y.cls ∈ WG) (hnw : va_Nw (.methodLinkNest own index y host) s) (hM : Met l y (wsY y bytes maxL ret) rm (va_Pc As (fun _ => True)) (va_Ql (fun (r : Int64) (_ : Unit) => r = v) (fun _ _ => True) (fun _ => False)) 0 0 (fun _ => False)) (hrc : rm.cells = 0) (hrs : rm.slots = 0) (hy : y.cls ≠ "java/lang/invoke/MethodHandle" ∧ y.cls ≠ "java/lang/invoke/VarHandle" ∧ (parseMethodDescriptor y.desc).map (fun d => d.parameters.length) = some n) (hR : rm.frames + 1 ≤ R.frames ∧ 8 + (maxL + 11) + rm.locals ≤ R.locals) (hn : As.length = n) (hst : st = As.reverse ++ rest) (hcat : (rest.map fun v => v.category).sum ≤ 8) (hd : decode cc pc = .ok (.invokestatic index, 3)) (hcs : cells ≤ R.cells ∧ slots ≤ R.slots) (kk : CS p l e R s m args below meth c D A nL cells slots Q ws (pc + 3) lv (.long v :: rest)) : CS p l e R s m args below meth c D A nL cells slots Q ws pc lv st := by
  intro H locs ls hP hD hS hl
  refine va_calll (va_runSN (As := As) (rest := rest) X hM ⟨va_cnB n X.2.2.2.2 hG rfl hrc hrs hnw (X.2.2.2.2 _ hini) hy hR, X.2.2.2.2 _ hst1, trivial⟩ ⟨fun _ _ _ _ q => q, fun _ _ _ => ⟨rfl, trivial⟩⟩ rfl hn hl.1 hst (lv_room hcat) hd hcs) hS (fun q _ h => h.elim) (fun q h => h.elim) (fun r u t H1 locs1 ht hvm hw hB hz1 hk1 hS1 => ?_)
  have hP1 : va_P D vwCl ws H1 := hP.kept (fun k q hq => hk1 q.1 (hP k q hq).lt (fun h => h.elim))
  subst hw; exact kk H1 locs1 ls hP1 hD hS1 hl
theorem x_callV_l (X : CX p m c cc nL s args own) (E : EX l s D kA A) {y : MethodName} {bytes : ByteArray} {maxL n index : Nat} {rm : Room} {As rest : List Value} {ret : Option FieldType} {v : Int64} {C : String} {b ci : Nat} {qc : vw_C} {fs : List Value} {ws2 : va_W} (hG : GoodIn WG (wsV own index C y (wsY y bytes maxL ret))) (hM : ∀ sz, Met l y (wsY y bytes maxL ret) rm (va_Pc (.ref b :: As) (PreG D kA ws sz)) (va_Ql (fun (r : Int64) (_ : Unit) => r = v) (fun _ t => PosG D (va_A ws sz) ws2 t) (va_A ws sz)) 0 0 (va_A ws sz)) (hrc : rm.cells = 0) (hrs : rm.slots = 0) (hy : y.cls = C ∧ y.cls ≠ "java/lang/invoke/MethodHandle" ∧ y.cls ≠ "java/lang/invoke/VarHandle" ∧ (parseMethodDescriptor y.desc).map (fun d => d.parameters.length) = some n) (hR : rm.frames + 1 ≤ R.frames ∧ 8 + (maxL + 11) + rm.locals ≤ R.locals) (q0 : Nat) (he : ws[q0]? = some (b, .inr (ci, fs))) (hc : vwCl[ci]? = some qc) (hqc : qc.1 = C) (hn : As.length = n) (hst : st = As.reverse ++ .ref b :: rest) (hcat : (rest.map fun v => v.category).sum ≤ 8) (hd : decode cc pc = .ok (.invokevirtual index, 3)) (hcs : cells ≤ R.cells ∧ slots ≤ R.slots) (kk : CS p l e R s m args below meth c D A nL cells slots Q ws2 (pc + 3) lv (.long v :: rest)) : CS p l e R s m args below meth c D A nL cells slots Q ws pc lv st := by
  intro H locs ls hP hD hS hl
  have hF := fr_self hD hS E.2.2.1
  refine va_calll (va_runV (As := As) (rest := rest) (C := C) X (hM H.size) (cwV n X.2.2.2.2 hG rfl hrc hrs hy hR) ⟨pre_blind, hqc ▸ va_recv E.1.1 hP hc he, pre_at E hP hD hS⟩ rfl hn hl.1 hst (lv_room hcat) hd hcs) hS (fun q _ h => hF q h) hF (fun r u t H1 locs1 ht hvm hw hB hz1 hk1 hS1 => ?_)
  obtain ⟨hP1, hD1⟩ := hB
  rw [ht] at hP1
  subst hw; exact kk H1 locs1 ls hP1 (hD1.weaken (fun _ q _ h => hF q.1 h)) hS1 hl
theorem x_callX_l (X : CX p m c cc nL s args own) (E : EX l s D kA A) {y : MethodName} {bytes : ByteArray} {maxL n index : Nat} {rm : Room} {As rest : List Value} {ret : Option FieldType} {C : String} {b ci mc ms : Nat} {qc : vw_C} {fs : List Value} {pic : WS → va_W} {w0 : WS} {o : (Int64 × WS) ⊕ (String × WS)} (hG : GoodIn WG (wsV own index C y (wsY y bytes maxL ret))) (hM : ∀ sz, vx_Met l y (wsY y bytes maxL ret) rm (va_Pc (.ref b :: As) (PreG D kA (pic w0) sz)) (va_Ql (fun (r : Int64) (w : WS) => o = .inl (r, w)) (fun w t => PosG D (va_A (pic w0) sz) (pic w) t) (va_A (pic w0) sz)) (vx_X (fun q : String × WS => o = .inr q) (fun E q t => E = q.1 ∧ PosG D (va_A (pic w0) sz) (pic q.2) t) (va_A (pic w0) sz)) mc ms (va_A (pic w0) sz)) (hrc : rm.cells = mc) (hrs : rm.slots = ms) (hy : y.cls = C ∧ y.cls ≠ "java/lang/invoke/MethodHandle" ∧ y.cls ≠ "java/lang/invoke/VarHandle" ∧ (parseMethodDescriptor y.desc).map (fun d => d.parameters.length) = some n) (hR : rm.frames + 1 ≤ R.frames ∧ 8 + (maxL + 11) + rm.locals ≤ R.locals) (q0 : Nat) (he : (pic w0)[q0]? = some (b, .inr (ci, fs))) (hc : vwCl[ci]? = some qc) (hqc : qc.1 = C) (hn : As.length = n) (hst : st = As.reverse ++ .ref b :: rest) (hcat : (rest.map fun v => v.category).sum ≤ 8) (hd : decode cc pc = .ok (.invokevirtual index, 3)) (hcs : cells + mc ≤ R.cells ∧ slots + ms ≤ R.slots) (kx : ∀ (q : String × WS) (ce : Cell) (q9 : Addr) (H1 : Heap) (locs1 : List Loc) (ls : Array Slot), o = .inr q → va_P D vwCl (pic q.2) H1 → va_D A (pic q.2) → va_S A s.heap H1 locs1 → lv_has ls nL lv → H1[q9]? = some ce → ce.vm = .none → s.vm.findClass q.1 = some ce.cls → vx_W p l e R s m args below meth c H1 locs1 (cells + mc) (slots + ms) Q (F0 m pc ls rest) q9) (kk : ∀ v w, o = .inl (v, w) → CS p l e R s m args below meth c D A nL (cells + mc) (slots + ms) Q (pic w) (pc + 3) lv (.long v :: rest)) : CS p l e R s m args below meth c D A nL cells slots Q (pic w0) pc lv st := by
  intro H locs ls hP hD hS hl
  have hF := fr_self hD hS E.2.2.1
  refine vx_calll (vx_runV (As := As) (rest := rest) (C := C) X (hM H.size) (cwV n X.2.2.2.2 hG rfl hrc hrs hy hR) ⟨pre_blind, hqc ▸ va_recv E.1.1 hP hc he, pre_at E hP hD hS⟩ rfl hn hl.1 hst (lv_room hcat) hd hcs) hS (fun q _ h => hF q h) hF (fun q _ h => hF q h) (fun E1 ce q9 u t H1 locs1 ht hvm hw hB hz1 hk1 hS1 hce hcv hcl => ?_) (fun r u t H1 locs1 ht hvm hw hB hz1 hk1 hS1 => ?_)
  · obtain ⟨rfl, hP1, hD1⟩ := hB
    rw [ht] at hP1
    exact kx u ce q9 H1 locs1 ls hw hP1 (hD1.weaken (fun _ q _ h => hF q.1 h)) hS1 hl hce hcv hcl
  · obtain ⟨hP1, hD1⟩ := hB
    rw [ht] at hP1
    exact kk r u hw H1 locs1 ls hP1 (hD1.weaken (fun _ q _ h => hF q.1 h)) hS1 hl
theorem x_callS_d (X : CX p m c cc nL s args own) {y : MethodName} {bytes : ByteArray} {maxL n index : Nat} {rm : Room} {As rest : List Value} {ret : Option FieldType} {v : UInt64} (hG : GoodIn WG (va_wsS own index y (wsY y bytes maxL ret))) (hM : Met l y (wsY y bytes maxL ret) rm (va_Pc As (fun _ => True)) (va_Qd (fun (r : UInt64) (_ : Unit) => r = v) (fun _ _ => True) (fun _ => False)) 0 0 (fun _ => False)) (hrc : rm.cells = 0) (hrs : rm.slots = 0) (hy : y.cls ≠ "java/lang/invoke/MethodHandle" ∧ y.cls ≠ "java/lang/invoke/VarHandle" ∧ (parseMethodDescriptor y.desc).map (fun d => d.parameters.length) = some n) (hR : rm.frames + 1 ≤ R.frames ∧ 8 + (maxL + 11) + rm.locals ≤ R.locals) (hn : As.length = n) (hst : st = As.reverse ++ rest) (hcat : (rest.map fun v => v.category).sum ≤ 8) (hd : decode cc pc = .ok (.invokestatic index, 3)) (hcs : cells ≤ R.cells ∧ slots ≤ R.slots) (kk : CS p l e R s m args below meth c D A nL cells slots Q ws (pc + 3) lv (.double v :: rest)) : CS p l e R s m args below meth c D A nL cells slots Q ws pc lv st := by
  intro H locs ls hP hD hS hl
  refine va_calld (va_runS (As := As) (rest := rest) X hM (va_cwS n X.2.2.2.2 hG rfl hrc hrs hy hR) ⟨fun _ _ _ _ q => q, fun _ _ _ => ⟨rfl, trivial⟩⟩ rfl hn hl.1 hst (lv_room hcat) hd hcs) hS (fun q _ h => h.elim) (fun q h => h.elim) (fun r u t H1 locs1 ht hvm hw hB hz1 hk1 hS1 => ?_)
  have hP1 : va_P D vwCl ws H1 := hP.kept (fun k q hq => hk1 q.1 (hP k q hq).lt (fun h => h.elim))
  subst hw; exact kk H1 locs1 ls hP1 hD hS1 hl
theorem x_callSN_d (X : CX p m c cc nL s args own) {y : MethodName} {bytes : ByteArray} {maxL n index : Nat} {rm : Room} {As rest : List Value} {ret : Option FieldType} {v : UInt64} {host : String} (hG : GoodIn WG (wsY y bytes maxL ret)) (hst1 : Cond.static y ∈ WG) (hini : Cond.initialized y.cls ∈ WG) (hnw : va_Nw (.methodLinkNest own index y host) s) (hM : Met l y (wsY y bytes maxL ret) rm (va_Pc As (fun _ => True)) (va_Qd (fun (r : UInt64) (_ : Unit) => r = v) (fun _ _ => True) (fun _ => False)) 0 0 (fun _ => False)) (hrc : rm.cells = 0) (hrs : rm.slots = 0) (hy : y.cls ≠ "java/lang/invoke/MethodHandle" ∧ y.cls ≠ "java/lang/invoke/VarHandle" ∧ (parseMethodDescriptor y.desc).map (fun d => d.parameters.length) = some n) (hR : rm.frames + 1 ≤ R.frames ∧ 8 + (maxL + 11) + rm.locals ≤ R.locals) (hn : As.length = n) (hst : st = As.reverse ++ rest) (hcat : (rest.map fun v => v.category).sum ≤ 8) (hd : decode cc pc = .ok (.invokestatic index, 3)) (hcs : cells ≤ R.cells ∧ slots ≤ R.slots) (kk : CS p l e R s m args below meth c D A nL cells slots Q ws (pc + 3) lv (.double v :: rest)) : CS p l e R s m args below meth c D A nL cells slots Q ws pc lv st := by
  intro H locs ls hP hD hS hl
  refine va_calld (va_runSN (As := As) (rest := rest) X hM ⟨va_cnB n X.2.2.2.2 hG rfl hrc hrs hnw (X.2.2.2.2 _ hini) hy hR, X.2.2.2.2 _ hst1, trivial⟩ ⟨fun _ _ _ _ q => q, fun _ _ _ => ⟨rfl, trivial⟩⟩ rfl hn hl.1 hst (lv_room hcat) hd hcs) hS (fun q _ h => h.elim) (fun q h => h.elim) (fun r u t H1 locs1 ht hvm hw hB hz1 hk1 hS1 => ?_)
  have hP1 : va_P D vwCl ws H1 := hP.kept (fun k q hq => hk1 q.1 (hP k q hq).lt (fun h => h.elim))
  subst hw; exact kk H1 locs1 ls hP1 hD hS1 hl
theorem x_callV_d (X : CX p m c cc nL s args own) (E : EX l s D kA A) {y : MethodName} {bytes : ByteArray} {maxL n index : Nat} {rm : Room} {As rest : List Value} {ret : Option FieldType} {v : UInt64} {C : String} {b ci : Nat} {qc : vw_C} {fs : List Value} {ws2 : va_W} (hG : GoodIn WG (wsV own index C y (wsY y bytes maxL ret))) (hM : ∀ sz, Met l y (wsY y bytes maxL ret) rm (va_Pc (.ref b :: As) (PreG D kA ws sz)) (va_Qd (fun (r : UInt64) (_ : Unit) => r = v) (fun _ t => PosG D (va_A ws sz) ws2 t) (va_A ws sz)) 0 0 (va_A ws sz)) (hrc : rm.cells = 0) (hrs : rm.slots = 0) (hy : y.cls = C ∧ y.cls ≠ "java/lang/invoke/MethodHandle" ∧ y.cls ≠ "java/lang/invoke/VarHandle" ∧ (parseMethodDescriptor y.desc).map (fun d => d.parameters.length) = some n) (hR : rm.frames + 1 ≤ R.frames ∧ 8 + (maxL + 11) + rm.locals ≤ R.locals) (q0 : Nat) (he : ws[q0]? = some (b, .inr (ci, fs))) (hc : vwCl[ci]? = some qc) (hqc : qc.1 = C) (hn : As.length = n) (hst : st = As.reverse ++ .ref b :: rest) (hcat : (rest.map fun v => v.category).sum ≤ 8) (hd : decode cc pc = .ok (.invokevirtual index, 3)) (hcs : cells ≤ R.cells ∧ slots ≤ R.slots) (kk : CS p l e R s m args below meth c D A nL cells slots Q ws2 (pc + 3) lv (.double v :: rest)) : CS p l e R s m args below meth c D A nL cells slots Q ws pc lv st := by
  intro H locs ls hP hD hS hl
  have hF := fr_self hD hS E.2.2.1
  refine va_calld (va_runV (As := As) (rest := rest) (C := C) X (hM H.size) (cwV n X.2.2.2.2 hG rfl hrc hrs hy hR) ⟨pre_blind, hqc ▸ va_recv E.1.1 hP hc he, pre_at E hP hD hS⟩ rfl hn hl.1 hst (lv_room hcat) hd hcs) hS (fun q _ h => hF q h) hF (fun r u t H1 locs1 ht hvm hw hB hz1 hk1 hS1 => ?_)
  obtain ⟨hP1, hD1⟩ := hB
  rw [ht] at hP1
  subst hw; exact kk H1 locs1 ls hP1 (hD1.weaken (fun _ q _ h => hF q.1 h)) hS1 hl
theorem x_callX_d (X : CX p m c cc nL s args own) (E : EX l s D kA A) {y : MethodName} {bytes : ByteArray} {maxL n index : Nat} {rm : Room} {As rest : List Value} {ret : Option FieldType} {C : String} {b ci mc ms : Nat} {qc : vw_C} {fs : List Value} {pic : WS → va_W} {w0 : WS} {o : (UInt64 × WS) ⊕ (String × WS)} (hG : GoodIn WG (wsV own index C y (wsY y bytes maxL ret))) (hM : ∀ sz, vx_Met l y (wsY y bytes maxL ret) rm (va_Pc (.ref b :: As) (PreG D kA (pic w0) sz)) (va_Qd (fun (r : UInt64) (w : WS) => o = .inl (r, w)) (fun w t => PosG D (va_A (pic w0) sz) (pic w) t) (va_A (pic w0) sz)) (vx_X (fun q : String × WS => o = .inr q) (fun E q t => E = q.1 ∧ PosG D (va_A (pic w0) sz) (pic q.2) t) (va_A (pic w0) sz)) mc ms (va_A (pic w0) sz)) (hrc : rm.cells = mc) (hrs : rm.slots = ms) (hy : y.cls = C ∧ y.cls ≠ "java/lang/invoke/MethodHandle" ∧ y.cls ≠ "java/lang/invoke/VarHandle" ∧ (parseMethodDescriptor y.desc).map (fun d => d.parameters.length) = some n) (hR : rm.frames + 1 ≤ R.frames ∧ 8 + (maxL + 11) + rm.locals ≤ R.locals) (q0 : Nat) (he : (pic w0)[q0]? = some (b, .inr (ci, fs))) (hc : vwCl[ci]? = some qc) (hqc : qc.1 = C) (hn : As.length = n) (hst : st = As.reverse ++ .ref b :: rest) (hcat : (rest.map fun v => v.category).sum ≤ 8) (hd : decode cc pc = .ok (.invokevirtual index, 3)) (hcs : cells + mc ≤ R.cells ∧ slots + ms ≤ R.slots) (kx : ∀ (q : String × WS) (ce : Cell) (q9 : Addr) (H1 : Heap) (locs1 : List Loc) (ls : Array Slot), o = .inr q → va_P D vwCl (pic q.2) H1 → va_D A (pic q.2) → va_S A s.heap H1 locs1 → lv_has ls nL lv → H1[q9]? = some ce → ce.vm = .none → s.vm.findClass q.1 = some ce.cls → vx_W p l e R s m args below meth c H1 locs1 (cells + mc) (slots + ms) Q (F0 m pc ls rest) q9) (kk : ∀ v w, o = .inl (v, w) → CS p l e R s m args below meth c D A nL (cells + mc) (slots + ms) Q (pic w) (pc + 3) lv (.double v :: rest)) : CS p l e R s m args below meth c D A nL cells slots Q (pic w0) pc lv st := by
  intro H locs ls hP hD hS hl
  have hF := fr_self hD hS E.2.2.1
  refine vx_calld (vx_runV (As := As) (rest := rest) (C := C) X (hM H.size) (cwV n X.2.2.2.2 hG rfl hrc hrs hy hR) ⟨pre_blind, hqc ▸ va_recv E.1.1 hP hc he, pre_at E hP hD hS⟩ rfl hn hl.1 hst (lv_room hcat) hd hcs) hS (fun q _ h => hF q h) hF (fun q _ h => hF q h) (fun E1 ce q9 u t H1 locs1 ht hvm hw hB hz1 hk1 hS1 hce hcv hcl => ?_) (fun r u t H1 locs1 ht hvm hw hB hz1 hk1 hS1 => ?_)
  · obtain ⟨rfl, hP1, hD1⟩ := hB
    rw [ht] at hP1
    exact kx u ce q9 H1 locs1 ls hw hP1 (hD1.weaken (fun _ q _ h => hF q.1 h)) hS1 hl hce hcv hcl
  · obtain ⟨hP1, hD1⟩ := hB
    rw [ht] at hP1
    exact kk r u hw H1 locs1 ls hP1 (hD1.weaken (fun _ q _ h => hF q.1 h)) hS1 hl
theorem x_callS_v (X : CX p m c cc nL s args own) {y : MethodName} {bytes : ByteArray} {maxL n index : Nat} {rm : Room} {As rest : List Value} {ret : Option FieldType}  (hG : GoodIn WG (va_wsS own index y (wsY y bytes maxL ret))) (hM : Met l y (wsY y bytes maxL ret) rm (va_Pc As (fun _ => True)) (va_Qv (fun (_ : Unit) => True) (fun _ _ => True) (fun _ => False)) 0 0 (fun _ => False)) (hrc : rm.cells = 0) (hrs : rm.slots = 0) (hy : y.cls ≠ "java/lang/invoke/MethodHandle" ∧ y.cls ≠ "java/lang/invoke/VarHandle" ∧ (parseMethodDescriptor y.desc).map (fun d => d.parameters.length) = some n) (hR : rm.frames + 1 ≤ R.frames ∧ 8 + (maxL + 11) + rm.locals ≤ R.locals) (hn : As.length = n) (hst : st = As.reverse ++ rest) (hcat : (rest.map fun v => v.category).sum ≤ 8) (hd : decode cc pc = .ok (.invokestatic index, 3)) (hcs : cells ≤ R.cells ∧ slots ≤ R.slots) (kk : CS p l e R s m args below meth c D A nL cells slots Q ws (pc + 3) lv rest) : CS p l e R s m args below meth c D A nL cells slots Q ws pc lv st := by
  intro H locs ls hP hD hS hl
  refine va_callv (va_runS (As := As) (rest := rest) X hM (va_cwS n X.2.2.2.2 hG rfl hrc hrs hy hR) ⟨fun _ _ _ _ q => q, fun _ _ _ => ⟨rfl, trivial⟩⟩ rfl hn hl.1 hst (lv_room hcat) hd hcs) hS (fun q _ h => h.elim) (fun q h => h.elim) (fun u t H1 locs1 ht hvm hw hB hz1 hk1 hS1 => ?_)
  have hP1 : va_P D vwCl ws H1 := hP.kept (fun k q hq => hk1 q.1 (hP k q hq).lt (fun h => h.elim))
  exact kk H1 locs1 ls hP1 hD hS1 hl
theorem x_callSN_v (X : CX p m c cc nL s args own) {y : MethodName} {bytes : ByteArray} {maxL n index : Nat} {rm : Room} {As rest : List Value} {ret : Option FieldType}  {host : String} (hG : GoodIn WG (wsY y bytes maxL ret)) (hst1 : Cond.static y ∈ WG) (hini : Cond.initialized y.cls ∈ WG) (hnw : va_Nw (.methodLinkNest own index y host) s) (hM : Met l y (wsY y bytes maxL ret) rm (va_Pc As (fun _ => True)) (va_Qv (fun (_ : Unit) => True) (fun _ _ => True) (fun _ => False)) 0 0 (fun _ => False)) (hrc : rm.cells = 0) (hrs : rm.slots = 0) (hy : y.cls ≠ "java/lang/invoke/MethodHandle" ∧ y.cls ≠ "java/lang/invoke/VarHandle" ∧ (parseMethodDescriptor y.desc).map (fun d => d.parameters.length) = some n) (hR : rm.frames + 1 ≤ R.frames ∧ 8 + (maxL + 11) + rm.locals ≤ R.locals) (hn : As.length = n) (hst : st = As.reverse ++ rest) (hcat : (rest.map fun v => v.category).sum ≤ 8) (hd : decode cc pc = .ok (.invokestatic index, 3)) (hcs : cells ≤ R.cells ∧ slots ≤ R.slots) (kk : CS p l e R s m args below meth c D A nL cells slots Q ws (pc + 3) lv rest) : CS p l e R s m args below meth c D A nL cells slots Q ws pc lv st := by
  intro H locs ls hP hD hS hl
  refine va_callv (va_runSN (As := As) (rest := rest) X hM ⟨va_cnB n X.2.2.2.2 hG rfl hrc hrs hnw (X.2.2.2.2 _ hini) hy hR, X.2.2.2.2 _ hst1, trivial⟩ ⟨fun _ _ _ _ q => q, fun _ _ _ => ⟨rfl, trivial⟩⟩ rfl hn hl.1 hst (lv_room hcat) hd hcs) hS (fun q _ h => h.elim) (fun q h => h.elim) (fun u t H1 locs1 ht hvm hw hB hz1 hk1 hS1 => ?_)
  have hP1 : va_P D vwCl ws H1 := hP.kept (fun k q hq => hk1 q.1 (hP k q hq).lt (fun h => h.elim))
  exact kk H1 locs1 ls hP1 hD hS1 hl
theorem x_callV_v (X : CX p m c cc nL s args own) (E : EX l s D kA A) {y : MethodName} {bytes : ByteArray} {maxL n index : Nat} {rm : Room} {As rest : List Value} {ret : Option FieldType}  {C : String} {b ci : Nat} {qc : vw_C} {fs : List Value} {ws2 : va_W} (hG : GoodIn WG (wsV own index C y (wsY y bytes maxL ret))) (hM : ∀ sz, Met l y (wsY y bytes maxL ret) rm (va_Pc (.ref b :: As) (PreG D kA ws sz)) (va_Qv (fun (_ : Unit) => True) (fun _ t => PosG D (va_A ws sz) ws2 t) (va_A ws sz)) 0 0 (va_A ws sz)) (hrc : rm.cells = 0) (hrs : rm.slots = 0) (hy : y.cls = C ∧ y.cls ≠ "java/lang/invoke/MethodHandle" ∧ y.cls ≠ "java/lang/invoke/VarHandle" ∧ (parseMethodDescriptor y.desc).map (fun d => d.parameters.length) = some n) (hR : rm.frames + 1 ≤ R.frames ∧ 8 + (maxL + 11) + rm.locals ≤ R.locals) (q0 : Nat) (he : ws[q0]? = some (b, .inr (ci, fs))) (hc : vwCl[ci]? = some qc) (hqc : qc.1 = C) (hn : As.length = n) (hst : st = As.reverse ++ .ref b :: rest) (hcat : (rest.map fun v => v.category).sum ≤ 8) (hd : decode cc pc = .ok (.invokevirtual index, 3)) (hcs : cells ≤ R.cells ∧ slots ≤ R.slots) (kk : CS p l e R s m args below meth c D A nL cells slots Q ws2 (pc + 3) lv rest) : CS p l e R s m args below meth c D A nL cells slots Q ws pc lv st := by
  intro H locs ls hP hD hS hl
  have hF := fr_self hD hS E.2.2.1
  refine va_callv (va_runV (As := As) (rest := rest) (C := C) X (hM H.size) (cwV n X.2.2.2.2 hG rfl hrc hrs hy hR) ⟨pre_blind, hqc ▸ va_recv E.1.1 hP hc he, pre_at E hP hD hS⟩ rfl hn hl.1 hst (lv_room hcat) hd hcs) hS (fun q _ h => hF q h) hF (fun u t H1 locs1 ht hvm hw hB hz1 hk1 hS1 => ?_)
  obtain ⟨hP1, hD1⟩ := hB
  rw [ht] at hP1
  exact kk H1 locs1 ls hP1 (hD1.weaken (fun _ q _ h => hF q.1 h)) hS1 hl
theorem x_callX_v (X : CX p m c cc nL s args own) (E : EX l s D kA A) {y : MethodName} {bytes : ByteArray} {maxL n index : Nat} {rm : Room} {As rest : List Value} {ret : Option FieldType} {C : String} {b ci mc ms : Nat} {qc : vw_C} {fs : List Value} {pic : WS → va_W} {w0 : WS} {o : WS ⊕ (String × WS)} (hG : GoodIn WG (wsV own index C y (wsY y bytes maxL ret))) (hM : ∀ sz, vx_Met l y (wsY y bytes maxL ret) rm (va_Pc (.ref b :: As) (PreG D kA (pic w0) sz)) (va_Qv (fun (w : WS) => o = .inl w) (fun w t => PosG D (va_A (pic w0) sz) (pic w) t) (va_A (pic w0) sz)) (vx_X (fun q : String × WS => o = .inr q) (fun E q t => E = q.1 ∧ PosG D (va_A (pic w0) sz) (pic q.2) t) (va_A (pic w0) sz)) mc ms (va_A (pic w0) sz)) (hrc : rm.cells = mc) (hrs : rm.slots = ms) (hy : y.cls = C ∧ y.cls ≠ "java/lang/invoke/MethodHandle" ∧ y.cls ≠ "java/lang/invoke/VarHandle" ∧ (parseMethodDescriptor y.desc).map (fun d => d.parameters.length) = some n) (hR : rm.frames + 1 ≤ R.frames ∧ 8 + (maxL + 11) + rm.locals ≤ R.locals) (q0 : Nat) (he : (pic w0)[q0]? = some (b, .inr (ci, fs))) (hc : vwCl[ci]? = some qc) (hqc : qc.1 = C) (hn : As.length = n) (hst : st = As.reverse ++ .ref b :: rest) (hcat : (rest.map fun v => v.category).sum ≤ 8) (hd : decode cc pc = .ok (.invokevirtual index, 3)) (hcs : cells + mc ≤ R.cells ∧ slots + ms ≤ R.slots) (kx : ∀ (q : String × WS) (ce : Cell) (q9 : Addr) (H1 : Heap) (locs1 : List Loc) (ls : Array Slot), o = .inr q → va_P D vwCl (pic q.2) H1 → va_D A (pic q.2) → va_S A s.heap H1 locs1 → lv_has ls nL lv → H1[q9]? = some ce → ce.vm = .none → s.vm.findClass q.1 = some ce.cls → vx_W p l e R s m args below meth c H1 locs1 (cells + mc) (slots + ms) Q (F0 m pc ls rest) q9) (kk : ∀ w, o = .inl w → CS p l e R s m args below meth c D A nL (cells + mc) (slots + ms) Q (pic w) (pc + 3) lv rest) : CS p l e R s m args below meth c D A nL cells slots Q (pic w0) pc lv st := by
  intro H locs ls hP hD hS hl
  have hF := fr_self hD hS E.2.2.1
  refine vx_callv (vx_runV (As := As) (rest := rest) (C := C) X (hM H.size) (cwV n X.2.2.2.2 hG rfl hrc hrs hy hR) ⟨pre_blind, hqc ▸ va_recv E.1.1 hP hc he, pre_at E hP hD hS⟩ rfl hn hl.1 hst (lv_room hcat) hd hcs) hS (fun q _ h => hF q h) hF (fun q _ h => hF q h) (fun E1 ce q9 u t H1 locs1 ht hvm hw hB hz1 hk1 hS1 hce hcv hcl => ?_) (fun u t H1 locs1 ht hvm hw hB hz1 hk1 hS1 => ?_)
  · obtain ⟨rfl, hP1, hD1⟩ := hB
    rw [ht] at hP1
    exact kx u ce q9 H1 locs1 ls hw hP1 (hD1.weaken (fun _ q _ h => hF q.1 h)) hS1 hl hce hcv hcl
  · obtain ⟨hP1, hD1⟩ := hB
    rw [ht] at hP1
    exact kk u hw H1 locs1 ls hP1 (hD1.weaken (fun _ q _ h => hF q.1 h)) hS1 hl
theorem x_iret (X : CX p m c cc nL s args own) (hr : meth.sig.returnType = some .int) (hlk : meth.locks = false) {B : Nat → Prop} (hAB : A = B) {v v0 : Int32} (hv : v = v0) (hd : decode cc pc = .ok (.ireturn, 1)) : CS p l e R s m args below meth c D A nL cells slots (MQ below (va_Qi (fun (r : Int32) (_ : Unit) => r = v0) (fun _ t => PosG D B ws t) B) args s cells slots B) ws pc lv [.int v] := by
  subst hAB
  intro H locs ls hP hD hS hl
  exact W.iret X.1 X.2.1 hr (fun t ht hW => ⟨⟨v, (), rfl, hv, by rw [ht]; exact hP, hD⟩, hS.F ht⟩) hS.2.2 hd hlk
theorem x_iretS (X : CX p m c cc nL s args own) (hr : meth.sig.returnType = some .int) (hlk : meth.locks = false) {v v0 : Int32} (hv : v = v0) (hd : decode cc pc = .ok (.ireturn, 1)) : CS p l e R s m args below meth c D (fun _ => False) nL cells slots (MQ below (va_Qi (fun (r : Int32) (_ : Unit) => r = v0) (fun _ _ => True) (fun _ => False)) args s cells slots (fun _ => False)) ws pc lv [.int v] := by
  intro H locs ls hP hD hS hl
  exact W.iret X.1 X.2.1 hr (fun t ht hW => ⟨⟨v, (), rfl, hv, trivial⟩, hS.F ht⟩) hS.2.2 hd hlk
theorem x_iretX (X : CX p m c cc nL s args own) (hr : meth.sig.returnType = some .int) (hlk : meth.locks = false) {B : Nat → Prop} (hAB : A = B) {pic : WS → va_W} {v : Int32} {w : WS} {o : (Int32 × WS) ⊕ (String × WS)} (ho : .inl (v, w) = o) {XC : String → State → State → Prop} {mc ms : Nat} (h1 : cells ≤ mc) (h2 : slots ≤ ms) (hd : decode cc pc = .ok (.ireturn, 1)) : CS p l e R s m args below meth c D A nL cells slots (vx_MQ below (va_Qi (fun (r : Int32) (w : WS) => o = .inl (r, w)) (fun w t => PosG D B (pic w) t) B) XC args s mc ms B) (pic w) pc lv [.int v] := by
  subst hAB
  intro H locs ls hP hD hS hl
  refine W.widen h1 h2 (vx_ret ?_)
  exact W.iret X.1 X.2.1 hr (fun t ht hW => ⟨⟨v, w, rfl, ho.symm, by rw [ht]; exact hP, hD⟩, hS.F ht⟩) hS.2.2 hd hlk
theorem x_lret (X : CX p m c cc nL s args own) (hr : meth.sig.returnType = some .long) (hlk : meth.locks = false) {B : Nat → Prop} (hAB : A = B) {v v0 : Int64} (hv : v = v0) (hd : decode cc pc = .ok (.lreturn, 1)) : CS p l e R s m args below meth c D A nL cells slots (MQ below (va_Ql (fun (r : Int64) (_ : Unit) => r = v0) (fun _ t => PosG D B ws t) B) args s cells slots B) ws pc lv [.long v] := by
  subst hAB
  intro H locs ls hP hD hS hl
  exact W.lret X.1 X.2.1 hr (fun t ht hW => ⟨⟨v, (), rfl, hv, by rw [ht]; exact hP, hD⟩, hS.F ht⟩) hS.2.2 hd hlk
theorem x_lretS (X : CX p m c cc nL s args own) (hr : meth.sig.returnType = some .long) (hlk : meth.locks = false) {v v0 : Int64} (hv : v = v0) (hd : decode cc pc = .ok (.lreturn, 1)) : CS p l e R s m args below meth c D (fun _ => False) nL cells slots (MQ below (va_Ql (fun (r : Int64) (_ : Unit) => r = v0) (fun _ _ => True) (fun _ => False)) args s cells slots (fun _ => False)) ws pc lv [.long v] := by
  intro H locs ls hP hD hS hl
  exact W.lret X.1 X.2.1 hr (fun t ht hW => ⟨⟨v, (), rfl, hv, trivial⟩, hS.F ht⟩) hS.2.2 hd hlk
theorem x_lretX (X : CX p m c cc nL s args own) (hr : meth.sig.returnType = some .long) (hlk : meth.locks = false) {B : Nat → Prop} (hAB : A = B) {pic : WS → va_W} {v : Int64} {w : WS} {o : (Int64 × WS) ⊕ (String × WS)} (ho : .inl (v, w) = o) {XC : String → State → State → Prop} {mc ms : Nat} (h1 : cells ≤ mc) (h2 : slots ≤ ms) (hd : decode cc pc = .ok (.lreturn, 1)) : CS p l e R s m args below meth c D A nL cells slots (vx_MQ below (va_Ql (fun (r : Int64) (w : WS) => o = .inl (r, w)) (fun w t => PosG D B (pic w) t) B) XC args s mc ms B) (pic w) pc lv [.long v] := by
  subst hAB
  intro H locs ls hP hD hS hl
  refine W.widen h1 h2 (vx_ret ?_)
  exact W.lret X.1 X.2.1 hr (fun t ht hW => ⟨⟨v, w, rfl, ho.symm, by rw [ht]; exact hP, hD⟩, hS.F ht⟩) hS.2.2 hd hlk
theorem x_dret (X : CX p m c cc nL s args own) (hr : meth.sig.returnType = some .double) (hlk : meth.locks = false) {B : Nat → Prop} (hAB : A = B) {v v0 : UInt64} (hv : v = v0) (hd : decode cc pc = .ok (.dreturn, 1)) : CS p l e R s m args below meth c D A nL cells slots (MQ below (va_Qd (fun (r : UInt64) (_ : Unit) => r = v0) (fun _ t => PosG D B ws t) B) args s cells slots B) ws pc lv [.double v] := by
  subst hAB
  intro H locs ls hP hD hS hl
  exact W.dret X.1 X.2.1 hr (fun t ht hW => ⟨⟨v, (), rfl, hv, by rw [ht]; exact hP, hD⟩, hS.F ht⟩) hS.2.2 hd hlk
theorem x_dretS (X : CX p m c cc nL s args own) (hr : meth.sig.returnType = some .double) (hlk : meth.locks = false) {v v0 : UInt64} (hv : v = v0) (hd : decode cc pc = .ok (.dreturn, 1)) : CS p l e R s m args below meth c D (fun _ => False) nL cells slots (MQ below (va_Qd (fun (r : UInt64) (_ : Unit) => r = v0) (fun _ _ => True) (fun _ => False)) args s cells slots (fun _ => False)) ws pc lv [.double v] := by
  intro H locs ls hP hD hS hl
  exact W.dret X.1 X.2.1 hr (fun t ht hW => ⟨⟨v, (), rfl, hv, trivial⟩, hS.F ht⟩) hS.2.2 hd hlk
theorem x_dretX (X : CX p m c cc nL s args own) (hr : meth.sig.returnType = some .double) (hlk : meth.locks = false) {B : Nat → Prop} (hAB : A = B) {pic : WS → va_W} {v : UInt64} {w : WS} {o : (UInt64 × WS) ⊕ (String × WS)} (ho : .inl (v, w) = o) {XC : String → State → State → Prop} {mc ms : Nat} (h1 : cells ≤ mc) (h2 : slots ≤ ms) (hd : decode cc pc = .ok (.dreturn, 1)) : CS p l e R s m args below meth c D A nL cells slots (vx_MQ below (va_Qd (fun (r : UInt64) (w : WS) => o = .inl (r, w)) (fun w t => PosG D B (pic w) t) B) XC args s mc ms B) (pic w) pc lv [.double v] := by
  subst hAB
  intro H locs ls hP hD hS hl
  refine W.widen h1 h2 (vx_ret ?_)
  exact W.dret X.1 X.2.1 hr (fun t ht hW => ⟨⟨v, w, rfl, ho.symm, by rw [ht]; exact hP, hD⟩, hS.F ht⟩) hS.2.2 hd hlk
theorem x_vret (X : CX p m c cc nL s args own) (hr : meth.sig.returnType = none) (hlk : meth.locks = false) {B : Nat → Prop} (hAB : A = B)  (hd : decode cc pc = .ok (.return_, 1)) : CS p l e R s m args below meth c D A nL cells slots (MQ below (va_Qv (fun (_ : Unit) => True) (fun _ t => PosG D B ws t) B) args s cells slots B) ws pc lv [] := by
  subst hAB
  intro H locs ls hP hD hS hl
  exact W.vret X.1 X.2.1 hr (fun t ht hW => ⟨⟨(), rfl, trivial, by rw [ht]; exact hP, hD⟩, hS.F ht⟩) hS.2.2 hd hlk
theorem x_vretX (X : CX p m c cc nL s args own) (hr : meth.sig.returnType = none) (hlk : meth.locks = false) {B : Nat → Prop} (hAB : A = B) {pic : WS → va_W} {w : WS} {o : WS ⊕ (String × WS)} (ho : .inl w = o) {XC : String → State → State → Prop} {mc ms : Nat} (h1 : cells ≤ mc) (h2 : slots ≤ ms) (hd : decode cc pc = .ok (.return_, 1)) : CS p l e R s m args below meth c D A nL cells slots (vx_MQ below (va_Qv (fun (w : WS) => o = .inl w) (fun w t => PosG D B (pic w) t) B) XC args s mc ms B) (pic w) pc lv [] := by
  subst hAB
  intro H locs ls hP hD hS hl
  refine W.widen h1 h2 (vx_ret ?_)
  exact W.vret X.1 X.2.1 hr (fun t ht hW => ⟨⟨w, rfl, ho.symm, by rw [ht]; exact hP, hD⟩, hS.F ht⟩) hS.2.2 hd hlk
theorem nar_b {v : Int32} (h : v = 0 ∨ v = 1) : narrow .boolean (.int v) = .int v := by rcases h with rfl | rfl <;> decide +kernel
theorem x_zret (X : CX p m c cc nL s args own) (hr : meth.sig.returnType = some .boolean) (hlk : meth.locks = false) {B : Nat → Prop} (hAB : A = B) {v v0 : Int32} (hb : v = 0 ∨ v = 1) (hv : v = v0) (hd : decode cc pc = .ok (.ireturn, 1)) : CS p l e R s m args below meth c D A nL cells slots (MQ below (va_Qi (fun (r : Int32) (_ : Unit) => r = v0) (fun _ t => PosG D B ws t) B) args s cells slots B) ws pc lv [.int v] := by
  subst hAB
  intro H locs ls hP hD hS hl
  exact W.zret X.1 X.2.1 hr (nar_b hb) (fun t ht hW => ⟨⟨v, (), rfl, hv, by rw [ht]; exact hP, hD⟩, hS.F ht⟩) hS.2.2 hd hlk
theorem x_zretS (X : CX p m c cc nL s args own) (hr : meth.sig.returnType = some .boolean) (hlk : meth.locks = false) {v v0 : Int32} (hb : v = 0 ∨ v = 1) (hv : v = v0) (hd : decode cc pc = .ok (.ireturn, 1)) : CS p l e R s m args below meth c D (fun _ => False) nL cells slots (MQ below (va_Qi (fun (r : Int32) (_ : Unit) => r = v0) (fun _ _ => True) (fun _ => False)) args s cells slots (fun _ => False)) ws pc lv [.int v] := by
  intro H locs ls hP hD hS hl
  exact W.zret X.1 X.2.1 hr (nar_b hb) (fun t ht hW => ⟨⟨v, (), rfl, hv, trivial⟩, hS.F ht⟩) hS.2.2 hd hlk
theorem x_zretX (X : CX p m c cc nL s args own) (hr : meth.sig.returnType = some .boolean) (hlk : meth.locks = false) {B : Nat → Prop} (hAB : A = B) {pic : WS → va_W} {v : Int32} {w : WS} (hb : v = 0 ∨ v = 1) {o : (Int32 × WS) ⊕ (String × WS)} (ho : .inl (v, w) = o) {XC : String → State → State → Prop} {mc ms : Nat} (h1 : cells ≤ mc) (h2 : slots ≤ ms) (hd : decode cc pc = .ok (.ireturn, 1)) : CS p l e R s m args below meth c D A nL cells slots (vx_MQ below (va_Qi (fun (r : Int32) (w : WS) => o = .inl (r, w)) (fun w t => PosG D B (pic w) t) B) XC args s mc ms B) (pic w) pc lv [.int v] := by
  subst hAB
  intro H locs ls hP hD hS hl
  refine W.widen h1 h2 (vx_ret ?_)
  exact W.zret X.1 X.2.1 hr (nar_b hb) (fun t ht hW => ⟨⟨v, w, rfl, ho.symm, by rw [ht]; exact hP, hD⟩, hS.F ht⟩) hS.2.2 hd hlk
theorem x_thru {β : Type} {o1 : β ⊕ (String × WS)} {pic : WS → va_W} {Qc : Array Value → State → Outcome → State → Prop} {mc ms : Nat} {q : String × WS} {ce : Cell} {q9 : Addr} {H1 : Heap} {locs1 : List Loc} {ls : Array Slot} {rest : List Value} (hout : ∀ x ∈ c.exceptionTable.toList, False) (hlk : meth.locks = false) {B : Nat → Prop} (hAB : A = B) (ho : o1 = .inr q) (hP : va_P D vwCl (pic q.2) H1) (hD : va_D A (pic q.2)) (hS : va_S A s.heap H1 locs1) (hce : H1[q9]? = some ce) (hcv : ce.vm = .none) (hcl : s.vm.findClass q.1 = some ce.cls) (h1 : cells ≤ mc) (h2 : slots ≤ ms) : vx_W p l e R s m args below meth c H1 locs1 cells slots (vx_MQ below Qc (vx_X (fun q : String × WS => o1 = .inr q) (fun E q t => E = q.1 ∧ PosG D B (pic q.2) t) B) args s mc ms B) (F0 m pc ls rest) q9 := by
  subst hAB
  exact vx_out (fun x hx => (hout x hx).elim) hlk hce hcv hcl (fun t ht hW => ⟨q, ho, ⟨rfl, by rw [ht]; exact hP, hD⟩, hS.F ht⟩) hS.2.2 h1 h2
/-- throw new E(text) in a method of RoadOracle -/
theorem x_throw (X : CX p m c cc nL s args own) (E : EX l s D kA A) {β : Type} {o1 : β ⊕ (String × WS)} {pic : WS → va_W} {w : WS} {Qc : Array Value → State → Outcome → State → Prop} {mc ms : Nat} {cls text : String} {ik is ic : Nat} (hcls : Bundle.fit cls = true) (hk : Cond.classLink own ik cls ∈ WG) (hini : Cond.initialized cls ∈ WG) (hstr : (own, is, text) ∈ STRL) (hat : ∀ w ∈ (vx_atS own ic cls ["java/lang/RuntimeException", "java/lang/Exception"]), w ∈ WG ∨ w ∈ NWL) (hgood : ∀ w ∈ Cond.classLink own ik cls :: Cond.initialized cls :: vx_atS own ic cls ["java/lang/RuntimeException", "java/lang/Exception"], vx_ot w = true) (d0 : decode cc pc = .ok (.new ik, 3)) (d3 : decode cc (pc + 3) = .ok (.dup, 1)) (d4 : decode cc (pc + 4) = .ok (.ldc is, 2)) (d6 : decode cc (pc + 6) = .ok (.invokespecial ic, 3)) (d9 : decode cc (pc + 9) = .ok (.athrow, 1)) (hout : ∀ x ∈ c.exceptionTable.toList, False) (hlk : meth.locks = false) {B : Nat → Prop} (hAB : A = B) (hfr : 5 < R.frames) (hlo : (st.map fun v => v.category).sum + 82 ≤ R.locals) (hRc : cells + 1 ≤ R.cells) (hRs : slots + 6 ≤ R.slots) (h1 : cells + 1 ≤ mc) (h2 : slots + 6 ≤ ms) (ho : o1 = .inr (cls, w)) : CS p l e R s m args below meth c D A nL cells slots (vx_MQ below Qc (vx_X (fun q : String × WS => o1 = .inr q) (fun E q t => E = q.1 ∧ PosG D B (pic q.2) t) B) args s mc ms B) (pic w) pc lv st := by
  subst hAB
  intro H locs ls hP hD hS hl
  obtain ⟨sa, hsa⟩ := E.1.2.2 _ hstr
  refine vx_throwS (names := ["java/lang/RuntimeException", "java/lang/Exception"]) X.1 X.2.1 E.2.2.2 X.2.2.2.1 hcls (by decide +kernel) (X.2.2.2.2 _ hk) (X.2.2.2.2 _ hini) hsa (fun w hw => (hat w hw).elim (X.2.2.2.2 w) (fun h => va_Nw.use (by have := (List.mem_filter.mp h).2; cases w <;> first | rfl | (exfalso; cases this)) (E.1.2.1 w h))) hgood E.2.1.1 E.2.1.2 hS (hl.1.trans X.2.2.1.symm) d0 d3 d4 d6 d9 (fun x hx => (hout x hx).elim) hfr hlo hRc hRs hlk (fun t hW hz hk1 => ⟨(cls, w), ho, ⟨rfl, hP.kept (fun k q hq => hk1 q.1 (hP k q hq).lt), hD⟩, ?_⟩) hS.2.2 h1 h2
  exact ⟨Nat.le_trans hS.1 hz, fun q hq hA => (hk1 q (Nat.lt_of_lt_of_le hq hS.1)).trans (hS.2.1 q hq hA)⟩
end FC
/-- a method of a class with a world, from its entry -/
theorem metG {l : Launch} {D : va_G} {kA : Nat → ClassId} {ws : va_W} {sz : Nat} {y : MethodName} {cc : ByteArray} {maxL : Nat} {ret : Option FieldType} {rm : Room} {As : List Value} {Qc : Array Value → State → Outcome → State → Prop} {mc ms : Nat} {lv0 : List (Nat × Value)} {own : String} (hst : l.stackTraces = false) (hy : plainName y.cls = true) (hown : y.cls = own) (hcat : (lg_sl As).length ≤ maxL) (hlv : lv_args 0 As = lv0)
    (body : ∀ (p : Program) (e : Env) (s : State) (m : MethodId) (below : List Frame) (meth : Method) (c : Code), CX p m c cc maxL s As.toArray own → meth.sig.returnType = ret → meth.locks = false → EX l s D kA (va_A ws sz) → (meth.name = y.name) → CS p l e rm s m As.toArray below meth c D (va_A ws sz) maxL 0 0 (MQ below Qc As.toArray s mc ms (va_A ws sz)) ws 0 lv0 []) :
    Met l y (wsY y cc maxL ret) rm (va_Pc As (PreG D kA ws sz)) Qc mc ms (va_A ws sz) := by
  refine Met.ofW (cc := cc) (maxL := maxL) (ret := ret) hy rfl ?_
  intro p e s m args below meth c s₁ B hml hv
  obtain ⟨rfl, hsz, hP, hD0, hE, hZ⟩ := hv
  have hts := atoms_spec (ws := wsY y cc maxL ret) B.pre
  rw [lg_entry_eq]
  have hl := lv_entry As hcat
  rw [hlv] at hl
  subst hsz
  subst hown
  exact body p e s m below meth c ⟨B.exec, B.bytes, hml, findClass_of_methodNamed B.named, fun w h => hts w (List.mem_cons_of_mem _ h)⟩ B.returns B.notSynchronized ⟨hE, hZ, fun q h => Or.inr h, hst⟩ (name_of_methodNamed B.named B.method).1 s.heap [] _ hP hD0.self va_S.rf hl
theorem metX {l : Launch} {D : va_G} {kA : Nat → ClassId} {ws : va_W} {sz : Nat} {y : MethodName} {cc : ByteArray} {maxL : Nat} {ret : Option FieldType} {rm : Room} {As : List Value} {Qc : Array Value → State → Outcome → State → Prop} {XC : String → State → State → Prop} {mc ms : Nat} {lv0 : List (Nat × Value)} {own : String} (hst : l.stackTraces = false) (hy : plainName y.cls = true) (hown : y.cls = own) (hcat : (lg_sl As).length ≤ maxL) (hlv : lv_args 0 As = lv0)
    (body : ∀ (p : Program) (e : Env) (s : State) (m : MethodId) (below : List Frame) (meth : Method) (c : Code), CX p m c cc maxL s As.toArray own → meth.sig.returnType = ret → meth.locks = false → EX l s D kA (va_A ws sz) → (∀ x ∈ c.exceptionTable.toList, False) → CS p l e rm s m As.toArray below meth c D (va_A ws sz) maxL 0 0 (vx_MQ below Qc XC As.toArray s mc ms (va_A ws sz)) ws 0 lv0 []) :
    vx_Met l y (wsY y cc maxL ret) rm (va_Pc As (PreG D kA ws sz)) Qc XC mc ms (va_A ws sz) := by
  refine vx_ofW (cc := cc) (maxL := maxL) (ret := ret) hy rfl ?_
  intro p e s m args below meth c s₁ B hml htab hv
  obtain ⟨rfl, hsz, hP, hD0, hE, hZ⟩ := hv
  have hts := atoms_spec (ws := wsY y cc maxL ret) B.pre
  rw [lg_entry_eq]
  have hl := lv_entry As hcat
  rw [hlv] at hl
  subst hsz
  subst hown
  exact body p e s m below meth c ⟨B.exec, B.bytes, hml, findClass_of_methodNamed B.named, fun w h => hts w (List.mem_cons_of_mem _ h)⟩ B.returns B.notSynchronized ⟨hE, hZ, fun q h => Or.inr h, hst⟩ htab s.heap [] _ hP hD0.self va_S.rf hl
/-- a static helper without a world -/
theorem metS {l : Launch} {y : MethodName} {cc : ByteArray} {maxL : Nat} {ret : Option FieldType} {rm : Room} {As : List Value} {Qc : Array Value → State → Outcome → State → Prop} {mc ms : Nat} {lv0 : List (Nat × Value)} {own : String} (hy : plainName y.cls = true) (hown : y.cls = own) (hcat : (lg_sl As).length ≤ maxL) (hlv : lv_args 0 As = lv0)
    (body : ∀ (p : Program) (e : Env) (s : State) (m : MethodId) (below : List Frame) (meth : Method) (c : Code), CX p m c cc maxL s As.toArray own → meth.sig.returnType = ret → meth.locks = false → CS p l e rm s m As.toArray below meth c (fun _ => 0, fun _ _ => 0) (fun _ => False) maxL 0 0 (MQ below Qc As.toArray s mc ms (fun _ => False)) [] 0 lv0 []) :
    Met l y (wsY y cc maxL ret) rm (va_Pc As (fun _ => True)) Qc mc ms (fun _ => False) := by
  refine Met.ofW (cc := cc) (maxL := maxL) (ret := ret) hy rfl ?_
  intro p e s m args below meth c s₁ B hml hv
  obtain ⟨rfl, -⟩ := hv
  have hts := atoms_spec (ws := wsY y cc maxL ret) B.pre
  rw [lg_entry_eq]
  have hl := lv_entry As hcat
  rw [hlv] at hl
  subst hown
  exact body p e s m below meth c ⟨B.exec, B.bytes, hml, findClass_of_methodNamed B.named, fun w h => hts w (List.mem_cons_of_mem _ h)⟩ B.returns B.notSynchronized s.heap [] _ (fun k q h => by simp at h) ⟨fun i j p q h => by simp at h, fun k q h => by simp at h⟩ va_S.rf hl
end
