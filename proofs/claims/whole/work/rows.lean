section
-- ===== PART A: goes FIRST, ahead of the names: the tables' words, and 'selects' of the private methods out of them =====
/-- a private method of a class that the tables say can be made, by its rows of tables_1 -/
def lw_okq (q : MethodName × Nat) : Prop := (q.1.cls ≠ "java/lang/invoke/MethodHandle" ∧ q.1.cls ≠ "java/lang/invoke/VarHandle") ∧ Cond.instantiable q.1.cls q.2 ∈ tables_1 ∧ Cond.privateMethod q.1 ∈ tables_1 ∧ Cond.instanceMethod q.1 ∈ tables_1
theorem lw_p0 : lw_okq (⟨"PlaneMaps$Tree", "heirOf", "(I)I"⟩, 6) := ⟨⟨by decide +kernel, by decide +kernel⟩, List.mem_of_getElem? (i := 234) (by decide +kernel), List.mem_of_getElem? (i := 252) (by decide +kernel), List.mem_of_getElem? (i := 253) (by decide +kernel)⟩
theorem lw_p1 : lw_okq (⟨"PlaneMaps", "putNumberOnTape", "(I)V"⟩, 15) := ⟨⟨by decide +kernel, by decide +kernel⟩, List.mem_of_getElem? (i := 15) (by decide +kernel), List.mem_of_getElem? (i := 331) (by decide +kernel), List.mem_of_getElem? (i := 332) (by decide +kernel)⟩
theorem lw_p2 : lw_okq (⟨"PlaneMaps$Reader", "takeSign", "(II)V"⟩, 15) := ⟨⟨by decide +kernel, by decide +kernel⟩, List.mem_of_getElem? (i := 86) (by decide +kernel), List.mem_of_getElem? (i := 357) (by decide +kernel), List.mem_of_getElem? (i := 358) (by decide +kernel)⟩
theorem lw_p3 : lw_okq (⟨"PlaneMaps$Reader", "takeDigit", "(II)V"⟩, 15) := ⟨⟨by decide +kernel, by decide +kernel⟩, List.mem_of_getElem? (i := 86) (by decide +kernel), List.mem_of_getElem? (i := 361) (by decide +kernel), List.mem_of_getElem? (i := 362) (by decide +kernel)⟩
theorem lw_p4 : lw_okq (⟨"PlaneMaps$Reader", "endNumber", "()V"⟩, 15) := ⟨⟨by decide +kernel, by decide +kernel⟩, List.mem_of_getElem? (i := 86) (by decide +kernel), List.mem_of_getElem? (i := 369) (by decide +kernel), List.mem_of_getElem? (i := 370) (by decide +kernel)⟩
theorem lw_p5 : lw_okq (⟨"PlaneMaps$Reader", "refuseNumber", "(I)V"⟩, 15) := ⟨⟨by decide +kernel, by decide +kernel⟩, List.mem_of_getElem? (i := 86) (by decide +kernel), List.mem_of_getElem? (i := 373) (by decide +kernel), List.mem_of_getElem? (i := 374) (by decide +kernel)⟩
theorem lw_p6 : lw_okq (⟨"PlaneMaps$Reader", "openRound", "(I)V"⟩, 15) := ⟨⟨by decide +kernel, by decide +kernel⟩, List.mem_of_getElem? (i := 86) (by decide +kernel), List.mem_of_getElem? (i := 381) (by decide +kernel), List.mem_of_getElem? (i := 382) (by decide +kernel)⟩
theorem lw_p7 : lw_okq (⟨"PlaneMaps$Reader", "takeEnd", "(I)V"⟩, 15) := ⟨⟨by decide +kernel, by decide +kernel⟩, List.mem_of_getElem? (i := 86) (by decide +kernel), List.mem_of_getElem? (i := 393) (by decide +kernel), List.mem_of_getElem? (i := 394) (by decide +kernel)⟩
theorem lw_p8 : lw_okq (⟨"PlaneMaps$Reader", "allTold", "()Z"⟩, 15) := ⟨⟨by decide +kernel, by decide +kernel⟩, List.mem_of_getElem? (i := 86) (by decide +kernel), List.mem_of_getElem? (i := 397) (by decide +kernel), List.mem_of_getElem? (i := 398) (by decide +kernel)⟩
theorem lw_p9 : lw_okq (⟨"PlaneMaps$RootedMap", "numberRoundsOf", "([I[I[I)I"⟩, 10) := ⟨⟨by decide +kernel, by decide +kernel⟩, List.mem_of_getElem? (i := 26) (by decide +kernel), List.mem_of_getElem? (i := 413) (by decide +kernel), List.mem_of_getElem? (i := 414) (by decide +kernel)⟩
theorem lw_p10 : lw_okq (⟨"PlaneMaps", "faultOfDraft", "()I"⟩, 15) := ⟨⟨by decide +kernel, by decide +kernel⟩, List.mem_of_getElem? (i := 15) (by decide +kernel), List.mem_of_getElem? (i := 418) (by decide +kernel), List.mem_of_getElem? (i := 419) (by decide +kernel)⟩
theorem lw_p11 : lw_okq (⟨"PlaneMaps", "keepDraft", "(I)I"⟩, 15) := ⟨⟨by decide +kernel, by decide +kernel⟩, List.mem_of_getElem? (i := 15) (by decide +kernel), List.mem_of_getElem? (i := 429) (by decide +kernel), List.mem_of_getElem? (i := 430) (by decide +kernel)⟩
theorem lw_p12 : lw_okq (⟨"PlaneMaps$Counts", "makeRowsTo", "(I)V"⟩, 2) := ⟨⟨by decide +kernel, by decide +kernel⟩, List.mem_of_getElem? (i := 171) (by decide +kernel), List.mem_of_getElem? (i := 446) (by decide +kernel), List.mem_of_getElem? (i := 447) (by decide +kernel)⟩
theorem lw_p13 : lw_okq (⟨"PlaneMaps$Counts", "addPairs", "(II[J)V"⟩, 2) := ⟨⟨by decide +kernel, by decide +kernel⟩, List.mem_of_getElem? (i := 171) (by decide +kernel), List.mem_of_getElem? (i := 450) (by decide +kernel), List.mem_of_getElem? (i := 451) (by decide +kernel)⟩
theorem lw_p14 : lw_okq (⟨"PlaneMaps$Shapes", "waysDown", "(II)I"⟩, 1) := ⟨⟨by decide +kernel, by decide +kernel⟩, List.mem_of_getElem? (i := 187) (by decide +kernel), List.mem_of_getElem? (i := 487) (by decide +kernel), List.mem_of_getElem? (i := 488) (by decide +kernel)⟩
theorem lw_p15 : lw_okq (⟨"PlaneMaps", "makeRoundOfVertex", "(LPlaneMaps$Tree;I)V"⟩, 15) := ⟨⟨by decide +kernel, by decide +kernel⟩, List.mem_of_getElem? (i := 15) (by decide +kernel), List.mem_of_getElem? (i := 515) (by decide +kernel), List.mem_of_getElem? (i := 516) (by decide +kernel)⟩
def lw_privs_1 : List (MethodName × Nat) := [(⟨"PlaneMaps$Tree", "heirOf", "(I)I"⟩, 6), (⟨"PlaneMaps", "putNumberOnTape", "(I)V"⟩, 15), (⟨"PlaneMaps$Reader", "takeSign", "(II)V"⟩, 15), (⟨"PlaneMaps$Reader", "takeDigit", "(II)V"⟩, 15), (⟨"PlaneMaps$Reader", "endNumber", "()V"⟩, 15), (⟨"PlaneMaps$Reader", "refuseNumber", "(I)V"⟩, 15), (⟨"PlaneMaps$Reader", "openRound", "(I)V"⟩, 15), (⟨"PlaneMaps$Reader", "takeEnd", "(I)V"⟩, 15), (⟨"PlaneMaps$Reader", "allTold", "()Z"⟩, 15), (⟨"PlaneMaps$RootedMap", "numberRoundsOf", "([I[I[I)I"⟩, 10), (⟨"PlaneMaps", "faultOfDraft", "()I"⟩, 15), (⟨"PlaneMaps", "keepDraft", "(I)I"⟩, 15), (⟨"PlaneMaps$Counts", "makeRowsTo", "(I)V"⟩, 2), (⟨"PlaneMaps$Counts", "addPairs", "(II[J)V"⟩, 2), (⟨"PlaneMaps$Shapes", "waysDown", "(II)I"⟩, 1), (⟨"PlaneMaps", "makeRoundOfVertex", "(LPlaneMaps$Tree;I)V"⟩, 15)]
theorem lw_r1 : ∀ q ∈ lw_privs_1, lw_okq q := List.forall_mem_cons.mpr ⟨lw_p0, List.forall_mem_cons.mpr ⟨lw_p1, List.forall_mem_cons.mpr ⟨lw_p2, List.forall_mem_cons.mpr ⟨lw_p3, List.forall_mem_cons.mpr ⟨lw_p4, List.forall_mem_cons.mpr ⟨lw_p5, List.forall_mem_cons.mpr ⟨lw_p6, List.forall_mem_cons.mpr ⟨lw_p7, List.forall_mem_cons.mpr ⟨lw_p8, List.forall_mem_cons.mpr ⟨lw_p9, List.forall_mem_cons.mpr ⟨lw_p10, List.forall_mem_cons.mpr ⟨lw_p11, List.forall_mem_cons.mpr ⟨lw_p12, List.forall_mem_cons.mpr ⟨lw_p13, List.forall_mem_cons.mpr ⟨lw_p14, List.forall_mem_cons.mpr ⟨lw_p15, fun _ h => absurd h List.not_mem_nil⟩⟩⟩⟩⟩⟩⟩⟩⟩⟩⟩⟩⟩⟩⟩⟩
theorem lw_p16 : lw_okq (⟨"PlaneMaps", "addDartsToHeir", "(LPlaneMaps$Tree;I)V"⟩, 15) := ⟨⟨by decide +kernel, by decide +kernel⟩, List.mem_of_getElem? (i := 15) (by decide +kernel), List.mem_of_getElem? (i := 520) (by decide +kernel), List.mem_of_getElem? (i := 521) (by decide +kernel)⟩
theorem lw_p17 : lw_okq (⟨"PlaneMaps", "makeRoundOfPoint", "(LPlaneMaps$Tree;)I"⟩, 15) := ⟨⟨by decide +kernel, by decide +kernel⟩, List.mem_of_getElem? (i := 15) (by decide +kernel), List.mem_of_getElem? (i := 526) (by decide +kernel), List.mem_of_getElem? (i := 527) (by decide +kernel)⟩
theorem lw_p18 : lw_okq (⟨"PlaneMaps", "finishDraft", "(I)I"⟩, 15) := ⟨⟨by decide +kernel, by decide +kernel⟩, List.mem_of_getElem? (i := 15) (by decide +kernel), List.mem_of_getElem? (i := 530) (by decide +kernel), List.mem_of_getElem? (i := 531) (by decide +kernel)⟩
theorem lw_p19 : lw_okq (⟨"PlaneMaps", "noVertex", "(II)Z"⟩, 15) := ⟨⟨by decide +kernel, by decide +kernel⟩, List.mem_of_getElem? (i := 15) (by decide +kernel), List.mem_of_getElem? (i := 538) (by decide +kernel), List.mem_of_getElem? (i := 539) (by decide +kernel)⟩
theorem lw_p20 : lw_okq (⟨"PlaneMaps", "goesDown", "(LPlaneMaps$RootedMap;I)Z"⟩, 15) := ⟨⟨by decide +kernel, by decide +kernel⟩, List.mem_of_getElem? (i := 15) (by decide +kernel), List.mem_of_getElem? (i := 550) (by decide +kernel), List.mem_of_getElem? (i := 551) (by decide +kernel)⟩
theorem lw_p21 : lw_okq (⟨"PlaneMaps", "walkTree", "(LPlaneMaps$RootedMap;ILPlaneMaps$Tree;)V"⟩, 15) := ⟨⟨by decide +kernel, by decide +kernel⟩, List.mem_of_getElem? (i := 15) (by decide +kernel), List.mem_of_getElem? (i := 554) (by decide +kernel), List.mem_of_getElem? (i := 555) (by decide +kernel)⟩
theorem lw_p22 : lw_okq (⟨"PlaneMaps", "otherEnd", "(LPlaneMaps$RootedMap;I)I"⟩, 15) := ⟨⟨by decide +kernel, by decide +kernel⟩, List.mem_of_getElem? (i := 15) (by decide +kernel), List.mem_of_getElem? (i := 559) (by decide +kernel), List.mem_of_getElem? (i := 560) (by decide +kernel)⟩
theorem lw_p23 : lw_okq (⟨"PlaneMaps", "nextDown", "(LPlaneMaps$RootedMap;I)I"⟩, 15) := ⟨⟨by decide +kernel, by decide +kernel⟩, List.mem_of_getElem? (i := 15) (by decide +kernel), List.mem_of_getElem? (i := 563) (by decide +kernel), List.mem_of_getElem? (i := 564) (by decide +kernel)⟩
theorem lw_p24 : lw_okq (⟨"PlaneMaps", "nameHalvedDarts", "(LPlaneMaps$RootedMap;)V"⟩, 15) := ⟨⟨by decide +kernel, by decide +kernel⟩, List.mem_of_getElem? (i := 15) (by decide +kernel), List.mem_of_getElem? (i := 573) (by decide +kernel), List.mem_of_getElem? (i := 574) (by decide +kernel)⟩
theorem lw_p25 : lw_okq (⟨"PlaneMaps", "startsEven", "(LPlaneMaps$RootedMap;I)Z"⟩, 15) := ⟨⟨by decide +kernel, by decide +kernel⟩, List.mem_of_getElem? (i := 15) (by decide +kernel), List.mem_of_getElem? (i := 578) (by decide +kernel), List.mem_of_getElem? (i := 579) (by decide +kernel)⟩
theorem lw_p26 : lw_okq (⟨"PlaneMaps", "hasTwoSorts", "(LPlaneMaps$RootedMap;)Z"⟩, 15) := ⟨⟨by decide +kernel, by decide +kernel⟩, List.mem_of_getElem? (i := 15) (by decide +kernel), List.mem_of_getElem? (i := 601) (by decide +kernel), List.mem_of_getElem? (i := 602) (by decide +kernel)⟩
theorem lw_p27 : lw_okq (⟨"PlaneMaps", "noDart", "(II)Z"⟩, 15) := ⟨⟨by decide +kernel, by decide +kernel⟩, List.mem_of_getElem? (i := 15) (by decide +kernel), List.mem_of_getElem? (i := 613) (by decide +kernel), List.mem_of_getElem? (i := 614) (by decide +kernel)⟩
theorem lw_p28 : lw_okq (⟨"PlaneMaps$Namer", "nameDarts", "(LPlaneMaps$RootedMap;I)V"⟩, 4) := ⟨⟨by decide +kernel, by decide +kernel⟩, List.mem_of_getElem? (i := 216) (by decide +kernel), List.mem_of_getElem? (i := 637) (by decide +kernel), List.mem_of_getElem? (i := 638) (by decide +kernel)⟩
theorem lw_p29 : lw_okq (⟨"PlaneMaps$Namer", "nameEdge", "(I)V"⟩, 4) := ⟨⟨by decide +kernel, by decide +kernel⟩, List.mem_of_getElem? (i := 216) (by decide +kernel), List.mem_of_getElem? (i := 642) (by decide +kernel), List.mem_of_getElem? (i := 643) (by decide +kernel)⟩
theorem lw_p30 : lw_okq (⟨"PlaneMaps$Namer", "nameRound", "(LPlaneMaps$RootedMap;II)V"⟩, 4) := ⟨⟨by decide +kernel, by decide +kernel⟩, List.mem_of_getElem? (i := 216) (by decide +kernel), List.mem_of_getElem? (i := 647) (by decide +kernel), List.mem_of_getElem? (i := 648) (by decide +kernel)⟩
theorem lw_p31 : lw_okq (⟨"PlaneMaps", "hasOneCode", "(LPlaneMaps$RootedMap;I)Z"⟩, 15) := ⟨⟨by decide +kernel, by decide +kernel⟩, List.mem_of_getElem? (i := 15) (by decide +kernel), List.mem_of_getElem? (i := 655) (by decide +kernel), List.mem_of_getElem? (i := 656) (by decide +kernel)⟩
def lw_privs_2 : List (MethodName × Nat) := [(⟨"PlaneMaps", "addDartsToHeir", "(LPlaneMaps$Tree;I)V"⟩, 15), (⟨"PlaneMaps", "makeRoundOfPoint", "(LPlaneMaps$Tree;)I"⟩, 15), (⟨"PlaneMaps", "finishDraft", "(I)I"⟩, 15), (⟨"PlaneMaps", "noVertex", "(II)Z"⟩, 15), (⟨"PlaneMaps", "goesDown", "(LPlaneMaps$RootedMap;I)Z"⟩, 15), (⟨"PlaneMaps", "walkTree", "(LPlaneMaps$RootedMap;ILPlaneMaps$Tree;)V"⟩, 15), (⟨"PlaneMaps", "otherEnd", "(LPlaneMaps$RootedMap;I)I"⟩, 15), (⟨"PlaneMaps", "nextDown", "(LPlaneMaps$RootedMap;I)I"⟩, 15), (⟨"PlaneMaps", "nameHalvedDarts", "(LPlaneMaps$RootedMap;)V"⟩, 15), (⟨"PlaneMaps", "startsEven", "(LPlaneMaps$RootedMap;I)Z"⟩, 15), (⟨"PlaneMaps", "hasTwoSorts", "(LPlaneMaps$RootedMap;)Z"⟩, 15), (⟨"PlaneMaps", "noDart", "(II)Z"⟩, 15), (⟨"PlaneMaps$Namer", "nameDarts", "(LPlaneMaps$RootedMap;I)V"⟩, 4), (⟨"PlaneMaps$Namer", "nameEdge", "(I)V"⟩, 4), (⟨"PlaneMaps$Namer", "nameRound", "(LPlaneMaps$RootedMap;II)V"⟩, 4), (⟨"PlaneMaps", "hasOneCode", "(LPlaneMaps$RootedMap;I)Z"⟩, 15)]
theorem lw_r2 : ∀ q ∈ lw_privs_2, lw_okq q := List.forall_mem_cons.mpr ⟨lw_p16, List.forall_mem_cons.mpr ⟨lw_p17, List.forall_mem_cons.mpr ⟨lw_p18, List.forall_mem_cons.mpr ⟨lw_p19, List.forall_mem_cons.mpr ⟨lw_p20, List.forall_mem_cons.mpr ⟨lw_p21, List.forall_mem_cons.mpr ⟨lw_p22, List.forall_mem_cons.mpr ⟨lw_p23, List.forall_mem_cons.mpr ⟨lw_p24, List.forall_mem_cons.mpr ⟨lw_p25, List.forall_mem_cons.mpr ⟨lw_p26, List.forall_mem_cons.mpr ⟨lw_p27, List.forall_mem_cons.mpr ⟨lw_p28, List.forall_mem_cons.mpr ⟨lw_p29, List.forall_mem_cons.mpr ⟨lw_p30, List.forall_mem_cons.mpr ⟨lw_p31, fun _ h => absurd h List.not_mem_nil⟩⟩⟩⟩⟩⟩⟩⟩⟩⟩⟩⟩⟩⟩⟩⟩
theorem lw_p32 : lw_okq (⟨"PlaneMaps", "mirrorIntoDraft", "(LPlaneMaps$RootedMap;)V"⟩, 15) := ⟨⟨by decide +kernel, by decide +kernel⟩, List.mem_of_getElem? (i := 15) (by decide +kernel), List.mem_of_getElem? (i := 659) (by decide +kernel), List.mem_of_getElem? (i := 660) (by decide +kernel)⟩
theorem lw_p33 : lw_okq (⟨"PlaneMaps", "rootingsOfOneCode", "(LPlaneMaps$RootedMap;)I"⟩, 15) := ⟨⟨by decide +kernel, by decide +kernel⟩, List.mem_of_getElem? (i := 15) (by decide +kernel), List.mem_of_getElem? (i := 663) (by decide +kernel), List.mem_of_getElem? (i := 664) (by decide +kernel)⟩
theorem lw_p34 : lw_okq (⟨"PlaneMaps", "leaveEdgeOutOfDraft", "(LPlaneMaps$RootedMap;I)V"⟩, 15) := ⟨⟨by decide +kernel, by decide +kernel⟩, List.mem_of_getElem? (i := 15) (by decide +kernel), List.mem_of_getElem? (i := 679) (by decide +kernel), List.mem_of_getElem? (i := 680) (by decide +kernel)⟩
theorem lw_p35 : lw_okq (⟨"PlaneMaps$TextWriter", "writeRound", "(LPlaneMaps$RootedMap;II)V"⟩, 2) := ⟨⟨by decide +kernel, by decide +kernel⟩, List.mem_of_getElem? (i := 156) (by decide +kernel), List.mem_of_getElem? (i := 698) (by decide +kernel), List.mem_of_getElem? (i := 699) (by decide +kernel)⟩
theorem lw_p36 : lw_okq (⟨"PlaneMaps$TextWriter", "put", "(I)V"⟩, 2) := ⟨⟨by decide +kernel, by decide +kernel⟩, List.mem_of_getElem? (i := 156) (by decide +kernel), List.mem_of_getElem? (i := 702) (by decide +kernel), List.mem_of_getElem? (i := 703) (by decide +kernel)⟩
theorem lw_p37 : lw_okq (⟨"PlaneMapsModel", "isIn", "(JJJ)Z"⟩, 38) := ⟨⟨by decide +kernel, by decide +kernel⟩, List.mem_of_getElem? (i := 710) (by decide +kernel), List.mem_of_getElem? (i := 836) (by decide +kernel), List.mem_of_getElem? (i := 837) (by decide +kernel)⟩
theorem lw_p38 : lw_okq (⟨"PlaneMapsModel", "laysCounts", "(I)V"⟩, 38) := ⟨⟨by decide +kernel, by decide +kernel⟩, List.mem_of_getElem? (i := 710) (by decide +kernel), List.mem_of_getElem? (i := 842) (by decide +kernel), List.mem_of_getElem? (i := 843) (by decide +kernel)⟩
theorem lw_p39 : lw_okq (⟨"PlaneMapsModel", "joined", "(II)J"⟩, 38) := ⟨⟨by decide +kernel, by decide +kernel⟩, List.mem_of_getElem? (i := 710) (by decide +kernel), List.mem_of_getElem? (i := 846) (by decide +kernel), List.mem_of_getElem? (i := 847) (by decide +kernel)⟩
theorem lw_p40 : lw_okq (⟨"PlaneMapsModel", "at", "(II)J"⟩, 38) := ⟨⟨by decide +kernel, by decide +kernel⟩, List.mem_of_getElem? (i := 710) (by decide +kernel), List.mem_of_getElem? (i := 850) (by decide +kernel), List.mem_of_getElem? (i := 851) (by decide +kernel)⟩
theorem lw_p41 : lw_okq (⟨"PlaneMapsModel", "opened", "(II)J"⟩, 38) := ⟨⟨by decide +kernel, by decide +kernel⟩, List.mem_of_getElem? (i := 710) (by decide +kernel), List.mem_of_getElem? (i := 854) (by decide +kernel), List.mem_of_getElem? (i := 855) (by decide +kernel)⟩
theorem lw_p42 : lw_okq (⟨"PlaneMapsModel", "allTrees", "(I)J"⟩, 38) := ⟨⟨by decide +kernel, by decide +kernel⟩, List.mem_of_getElem? (i := 710) (by decide +kernel), List.mem_of_getElem? (i := 863) (by decide +kernel), List.mem_of_getElem? (i := 864) (by decide +kernel)⟩
theorem lw_p43 : lw_okq (⟨"PlaneMapsModel", "ways", "(II)J"⟩, 38) := ⟨⟨by decide +kernel, by decide +kernel⟩, List.mem_of_getElem? (i := 710) (by decide +kernel), List.mem_of_getElem? (i := 867) (by decide +kernel), List.mem_of_getElem? (i := 868) (by decide +kernel)⟩
theorem lw_p44 : lw_okq (⟨"PlaneMapsModel", "thirds", "(I)J"⟩, 38) := ⟨⟨by decide +kernel, by decide +kernel⟩, List.mem_of_getElem? (i := 710) (by decide +kernel), List.mem_of_getElem? (i := 871) (by decide +kernel), List.mem_of_getElem? (i := 872) (by decide +kernel)⟩
theorem lw_p45 : lw_okq (⟨"PlaneMapsModel", "isTree", "(I)Z"⟩, 38) := ⟨⟨by decide +kernel, by decide +kernel⟩, List.mem_of_getElem? (i := 710) (by decide +kernel), List.mem_of_getElem? (i := 880) (by decide +kernel), List.mem_of_getElem? (i := 881) (by decide +kernel)⟩
theorem lw_p46 : lw_okq (⟨"PlaneMapsModel", "laysTree", "(I)V"⟩, 38) := ⟨⟨by decide +kernel, by decide +kernel⟩, List.mem_of_getElem? (i := 710) (by decide +kernel), List.mem_of_getElem? (i := 885) (by decide +kernel), List.mem_of_getElem? (i := 886) (by decide +kernel)⟩
theorem lw_p47 : lw_okq (⟨"PlaneMapsModel", "corners", "(I)I"⟩, 38) := ⟨⟨by decide +kernel, by decide +kernel⟩, List.mem_of_getElem? (i := 710) (by decide +kernel), List.mem_of_getElem? (i := 897) (by decide +kernel), List.mem_of_getElem? (i := 898) (by decide +kernel)⟩
def lw_privs_3 : List (MethodName × Nat) := [(⟨"PlaneMaps", "mirrorIntoDraft", "(LPlaneMaps$RootedMap;)V"⟩, 15), (⟨"PlaneMaps", "rootingsOfOneCode", "(LPlaneMaps$RootedMap;)I"⟩, 15), (⟨"PlaneMaps", "leaveEdgeOutOfDraft", "(LPlaneMaps$RootedMap;I)V"⟩, 15), (⟨"PlaneMaps$TextWriter", "writeRound", "(LPlaneMaps$RootedMap;II)V"⟩, 2), (⟨"PlaneMaps$TextWriter", "put", "(I)V"⟩, 2), (⟨"PlaneMapsModel", "isIn", "(JJJ)Z"⟩, 38), (⟨"PlaneMapsModel", "laysCounts", "(I)V"⟩, 38), (⟨"PlaneMapsModel", "joined", "(II)J"⟩, 38), (⟨"PlaneMapsModel", "at", "(II)J"⟩, 38), (⟨"PlaneMapsModel", "opened", "(II)J"⟩, 38), (⟨"PlaneMapsModel", "allTrees", "(I)J"⟩, 38), (⟨"PlaneMapsModel", "ways", "(II)J"⟩, 38), (⟨"PlaneMapsModel", "thirds", "(I)J"⟩, 38), (⟨"PlaneMapsModel", "isTree", "(I)Z"⟩, 38), (⟨"PlaneMapsModel", "laysTree", "(I)V"⟩, 38), (⟨"PlaneMapsModel", "corners", "(I)I"⟩, 38)]
theorem lw_r3 : ∀ q ∈ lw_privs_3, lw_okq q := List.forall_mem_cons.mpr ⟨lw_p32, List.forall_mem_cons.mpr ⟨lw_p33, List.forall_mem_cons.mpr ⟨lw_p34, List.forall_mem_cons.mpr ⟨lw_p35, List.forall_mem_cons.mpr ⟨lw_p36, List.forall_mem_cons.mpr ⟨lw_p37, List.forall_mem_cons.mpr ⟨lw_p38, List.forall_mem_cons.mpr ⟨lw_p39, List.forall_mem_cons.mpr ⟨lw_p40, List.forall_mem_cons.mpr ⟨lw_p41, List.forall_mem_cons.mpr ⟨lw_p42, List.forall_mem_cons.mpr ⟨lw_p43, List.forall_mem_cons.mpr ⟨lw_p44, List.forall_mem_cons.mpr ⟨lw_p45, List.forall_mem_cons.mpr ⟨lw_p46, List.forall_mem_cons.mpr ⟨lw_p47, fun _ h => absurd h List.not_mem_nil⟩⟩⟩⟩⟩⟩⟩⟩⟩⟩⟩⟩⟩⟩⟩⟩
theorem lw_p48 : lw_okq (⟨"PlaneMapsModel", "heir", "(II)I"⟩, 38) := ⟨⟨by decide +kernel, by decide +kernel⟩, List.mem_of_getElem? (i := 710) (by decide +kernel), List.mem_of_getElem? (i := 901) (by decide +kernel), List.mem_of_getElem? (i := 902) (by decide +kernel)⟩
theorem lw_p49 : lw_okq (⟨"PlaneMapsModel", "labelAt", "(II)I"⟩, 38) := ⟨⟨by decide +kernel, by decide +kernel⟩, List.mem_of_getElem? (i := 710) (by decide +kernel), List.mem_of_getElem? (i := 905) (by decide +kernel), List.mem_of_getElem? (i := 906) (by decide +kernel)⟩
theorem lw_p50 : lw_okq (⟨"PlaneMapsModel", "isMap", "(I)Z"⟩, 38) := ⟨⟨by decide +kernel, by decide +kernel⟩, List.mem_of_getElem? (i := 710) (by decide +kernel), List.mem_of_getElem? (i := 913) (by decide +kernel), List.mem_of_getElem? (i := 914) (by decide +kernel)⟩
theorem lw_p51 : lw_okq (⟨"PlaneMapsModel", "comes", "(I)V"⟩, 38) := ⟨⟨by decide +kernel, by decide +kernel⟩, List.mem_of_getElem? (i := 710) (by decide +kernel), List.mem_of_getElem? (i := 917) (by decide +kernel), List.mem_of_getElem? (i := 918) (by decide +kernel)⟩
theorem lw_p52 : lw_okq (⟨"PlaneMapsModel", "closes", "(I)V"⟩, 38) := ⟨⟨by decide +kernel, by decide +kernel⟩, List.mem_of_getElem? (i := 710) (by decide +kernel), List.mem_of_getElem? (i := 921) (by decide +kernel), List.mem_of_getElem? (i := 922) (by decide +kernel)⟩
theorem lw_p53 : lw_okq (⟨"PlaneMapsModel", "sets", "(III)V"⟩, 38) := ⟨⟨by decide +kernel, by decide +kernel⟩, List.mem_of_getElem? (i := 710) (by decide +kernel), List.mem_of_getElem? (i := 925) (by decide +kernel), List.mem_of_getElem? (i := 926) (by decide +kernel)⟩
theorem lw_p54 : lw_okq (⟨"PlaneMapsModel", "lays", "(I)V"⟩, 38) := ⟨⟨by decide +kernel, by decide +kernel⟩, List.mem_of_getElem? (i := 710) (by decide +kernel), List.mem_of_getElem? (i := 929) (by decide +kernel), List.mem_of_getElem? (i := 930) (by decide +kernel)⟩
theorem lw_p55 : lw_okq (⟨"PlaneMapsModel", "many", "(I)I"⟩, 38) := ⟨⟨by decide +kernel, by decide +kernel⟩, List.mem_of_getElem? (i := 710) (by decide +kernel), List.mem_of_getElem? (i := 933) (by decide +kernel), List.mem_of_getElem? (i := 934) (by decide +kernel)⟩
theorem lw_p56 : lw_okq (⟨"PlaneMapsModel", "nextOf", "(II)I"⟩, 38) := ⟨⟨by decide +kernel, by decide +kernel⟩, List.mem_of_getElem? (i := 710) (by decide +kernel), List.mem_of_getElem? (i := 937) (by decide +kernel), List.mem_of_getElem? (i := 938) (by decide +kernel)⟩
theorem lw_p57 : lw_okq (⟨"PlaneMapsModel", "follows", "(II)I"⟩, 38) := ⟨⟨by decide +kernel, by decide +kernel⟩, List.mem_of_getElem? (i := 710) (by decide +kernel), List.mem_of_getElem? (i := 941) (by decide +kernel), List.mem_of_getElem? (i := 942) (by decide +kernel)⟩
theorem lw_p58 : lw_okq (⟨"PlaneMapsModel", "isFit", "(I)Z"⟩, 38) := ⟨⟨by decide +kernel, by decide +kernel⟩, List.mem_of_getElem? (i := 710) (by decide +kernel), List.mem_of_getElem? (i := 949) (by decide +kernel), List.mem_of_getElem? (i := 950) (by decide +kernel)⟩
theorem lw_p59 : lw_okq (⟨"PlaneMapsModel", "areFours", "(I)Z"⟩, 38) := ⟨⟨by decide +kernel, by decide +kernel⟩, List.mem_of_getElem? (i := 710) (by decide +kernel), List.mem_of_getElem? (i := 953) (by decide +kernel), List.mem_of_getElem? (i := 954) (by decide +kernel)⟩
theorem lw_p60 : lw_okq (⟨"PlaneMapsModel", "laysFar", "(II)V"⟩, 38) := ⟨⟨by decide +kernel, by decide +kernel⟩, List.mem_of_getElem? (i := 710) (by decide +kernel), List.mem_of_getElem? (i := 957) (by decide +kernel), List.mem_of_getElem? (i := 958) (by decide +kernel)⟩
theorem lw_p61 : lw_okq (⟨"PlaneMapsModel", "hasHalf", "(I)Z"⟩, 38) := ⟨⟨by decide +kernel, by decide +kernel⟩, List.mem_of_getElem? (i := 710) (by decide +kernel), List.mem_of_getElem? (i := 961) (by decide +kernel), List.mem_of_getElem? (i := 962) (by decide +kernel)⟩
theorem lw_p62 : lw_okq (⟨"PlaneMapsModel", "goes", "(IIIIZ)V"⟩, 38) := ⟨⟨by decide +kernel, by decide +kernel⟩, List.mem_of_getElem? (i := 710) (by decide +kernel), List.mem_of_getElem? (i := 965) (by decide +kernel), List.mem_of_getElem? (i := 966) (by decide +kernel)⟩
theorem lw_p63 : lw_okq (⟨"PlaneMapsModel", "otherHalf", "(II)I"⟩, 38) := ⟨⟨by decide +kernel, by decide +kernel⟩, List.mem_of_getElem? (i := 710) (by decide +kernel), List.mem_of_getElem? (i := 969) (by decide +kernel), List.mem_of_getElem? (i := 970) (by decide +kernel)⟩
def lw_privs_4 : List (MethodName × Nat) := [(⟨"PlaneMapsModel", "heir", "(II)I"⟩, 38), (⟨"PlaneMapsModel", "labelAt", "(II)I"⟩, 38), (⟨"PlaneMapsModel", "isMap", "(I)Z"⟩, 38), (⟨"PlaneMapsModel", "comes", "(I)V"⟩, 38), (⟨"PlaneMapsModel", "closes", "(I)V"⟩, 38), (⟨"PlaneMapsModel", "sets", "(III)V"⟩, 38), (⟨"PlaneMapsModel", "lays", "(I)V"⟩, 38), (⟨"PlaneMapsModel", "many", "(I)I"⟩, 38), (⟨"PlaneMapsModel", "nextOf", "(II)I"⟩, 38), (⟨"PlaneMapsModel", "follows", "(II)I"⟩, 38), (⟨"PlaneMapsModel", "isFit", "(I)Z"⟩, 38), (⟨"PlaneMapsModel", "areFours", "(I)Z"⟩, 38), (⟨"PlaneMapsModel", "laysFar", "(II)V"⟩, 38), (⟨"PlaneMapsModel", "hasHalf", "(I)Z"⟩, 38), (⟨"PlaneMapsModel", "goes", "(IIIIZ)V"⟩, 38), (⟨"PlaneMapsModel", "otherHalf", "(II)I"⟩, 38)]
theorem lw_r4 : ∀ q ∈ lw_privs_4, lw_okq q := List.forall_mem_cons.mpr ⟨lw_p48, List.forall_mem_cons.mpr ⟨lw_p49, List.forall_mem_cons.mpr ⟨lw_p50, List.forall_mem_cons.mpr ⟨lw_p51, List.forall_mem_cons.mpr ⟨lw_p52, List.forall_mem_cons.mpr ⟨lw_p53, List.forall_mem_cons.mpr ⟨lw_p54, List.forall_mem_cons.mpr ⟨lw_p55, List.forall_mem_cons.mpr ⟨lw_p56, List.forall_mem_cons.mpr ⟨lw_p57, List.forall_mem_cons.mpr ⟨lw_p58, List.forall_mem_cons.mpr ⟨lw_p59, List.forall_mem_cons.mpr ⟨lw_p60, List.forall_mem_cons.mpr ⟨lw_p61, List.forall_mem_cons.mpr ⟨lw_p62, List.forall_mem_cons.mpr ⟨lw_p63, fun _ h => absurd h List.not_mem_nil⟩⟩⟩⟩⟩⟩⟩⟩⟩⟩⟩⟩⟩⟩⟩⟩
theorem lw_p64 : lw_okq (⟨"PlaneMapsModel", "copies", "(II)V"⟩, 38) := ⟨⟨by decide +kernel, by decide +kernel⟩, List.mem_of_getElem? (i := 710) (by decide +kernel), List.mem_of_getElem? (i := 977) (by decide +kernel), List.mem_of_getElem? (i := 978) (by decide +kernel)⟩
theorem lw_p65 : lw_okq (⟨"PlaneMapsModel", "isEven", "(I)Z"⟩, 38) := ⟨⟨by decide +kernel, by decide +kernel⟩, List.mem_of_getElem? (i := 710) (by decide +kernel), List.mem_of_getElem? (i := 981) (by decide +kernel), List.mem_of_getElem? (i := 982) (by decide +kernel)⟩
theorem lw_p66 : lw_okq (⟨"PlaneMapsModel", "halfOf", "(I)I"⟩, 38) := ⟨⟨by decide +kernel, by decide +kernel⟩, List.mem_of_getElem? (i := 710) (by decide +kernel), List.mem_of_getElem? (i := 985) (by decide +kernel), List.mem_of_getElem? (i := 986) (by decide +kernel)⟩
theorem lw_p67 : lw_okq (⟨"PlaneMapsModel", "skips", "()V"⟩, 38) := ⟨⟨by decide +kernel, by decide +kernel⟩, List.mem_of_getElem? (i := 710) (by decide +kernel), List.mem_of_getElem? (i := 1005) (by decide +kernel), List.mem_of_getElem? (i := 1006) (by decide +kernel)⟩
theorem lw_p68 : lw_okq (⟨"PlaneMapsModel", "see", "()I"⟩, 38) := ⟨⟨by decide +kernel, by decide +kernel⟩, List.mem_of_getElem? (i := 710) (by decide +kernel), List.mem_of_getElem? (i := 1009) (by decide +kernel), List.mem_of_getElem? (i := 1010) (by decide +kernel)⟩
theorem lw_p69 : lw_okq (⟨"PlaneMapsModel", "fine", "()Z"⟩, 38) := ⟨⟨by decide +kernel, by decide +kernel⟩, List.mem_of_getElem? (i := 710) (by decide +kernel), List.mem_of_getElem? (i := 1013) (by decide +kernel), List.mem_of_getElem? (i := 1014) (by decide +kernel)⟩
theorem lw_p70 : lw_okq (⟨"PlaneMapsModel", "readsRound", "()V"⟩, 38) := ⟨⟨by decide +kernel, by decide +kernel⟩, List.mem_of_getElem? (i := 710) (by decide +kernel), List.mem_of_getElem? (i := 1017) (by decide +kernel), List.mem_of_getElem? (i := 1018) (by decide +kernel)⟩
theorem lw_p71 : lw_okq (⟨"PlaneMapsModel", "faulty", "(II)V"⟩, 38) := ⟨⟨by decide +kernel, by decide +kernel⟩, List.mem_of_getElem? (i := 710) (by decide +kernel), List.mem_of_getElem? (i := 1021) (by decide +kernel), List.mem_of_getElem? (i := 1022) (by decide +kernel)⟩
theorem lw_p72 : lw_okq (⟨"PlaneMapsModel", "readsDart", "()I"⟩, 38) := ⟨⟨by decide +kernel, by decide +kernel⟩, List.mem_of_getElem? (i := 710) (by decide +kernel), List.mem_of_getElem? (i := 1025) (by decide +kernel), List.mem_of_getElem? (i := 1026) (by decide +kernel)⟩
theorem lw_p73 : lw_okq (⟨"PlaneMapsModel", "isDigit", "()Z"⟩, 38) := ⟨⟨by decide +kernel, by decide +kernel⟩, List.mem_of_getElem? (i := 710) (by decide +kernel), List.mem_of_getElem? (i := 1029) (by decide +kernel), List.mem_of_getElem? (i := 1030) (by decide +kernel)⟩
theorem lw_p74 : lw_okq (⟨"PlaneMapsModel", "isWhole", "()V"⟩, 38) := ⟨⟨by decide +kernel, by decide +kernel⟩, List.mem_of_getElem? (i := 710) (by decide +kernel), List.mem_of_getElem? (i := 1033) (by decide +kernel), List.mem_of_getElem? (i := 1034) (by decide +kernel)⟩
theorem lw_p75 : lw_okq (⟨"PlaneMapsModel", "greatest", "(I)I"⟩, 38) := ⟨⟨by decide +kernel, by decide +kernel⟩, List.mem_of_getElem? (i := 710) (by decide +kernel), List.mem_of_getElem? (i := 1045) (by decide +kernel), List.mem_of_getElem? (i := 1046) (by decide +kernel)⟩
theorem lw_p76 : lw_okq (⟨"PlaneMapsModel", "isParted", "(I)Z"⟩, 38) := ⟨⟨by decide +kernel, by decide +kernel⟩, List.mem_of_getElem? (i := 710) (by decide +kernel), List.mem_of_getElem? (i := 1049) (by decide +kernel), List.mem_of_getElem? (i := 1050) (by decide +kernel)⟩
theorem lw_p77 : lw_okq (⟨"PlaneMapsModel", "bridges", "(I)I"⟩, 38) := ⟨⟨by decide +kernel, by decide +kernel⟩, List.mem_of_getElem? (i := 710) (by decide +kernel), List.mem_of_getElem? (i := 1053) (by decide +kernel), List.mem_of_getElem? (i := 1054) (by decide +kernel)⟩
theorem lw_p78 : lw_okq (⟨"PlaneMapsModel", "isDart", "(II)Z"⟩, 38) := ⟨⟨by decide +kernel, by decide +kernel⟩, List.mem_of_getElem? (i := 710) (by decide +kernel), List.mem_of_getElem? (i := 1061) (by decide +kernel), List.mem_of_getElem? (i := 1062) (by decide +kernel)⟩
theorem lw_p79 : lw_okq (⟨"PlaneMapsModel", "isVertex", "(I)Z"⟩, 38) := ⟨⟨by decide +kernel, by decide +kernel⟩, List.mem_of_getElem? (i := 710) (by decide +kernel), List.mem_of_getElem? (i := 1073) (by decide +kernel), List.mem_of_getElem? (i := 1074) (by decide +kernel)⟩
def lw_privs_5 : List (MethodName × Nat) := [(⟨"PlaneMapsModel", "copies", "(II)V"⟩, 38), (⟨"PlaneMapsModel", "isEven", "(I)Z"⟩, 38), (⟨"PlaneMapsModel", "halfOf", "(I)I"⟩, 38), (⟨"PlaneMapsModel", "skips", "()V"⟩, 38), (⟨"PlaneMapsModel", "see", "()I"⟩, 38), (⟨"PlaneMapsModel", "fine", "()Z"⟩, 38), (⟨"PlaneMapsModel", "readsRound", "()V"⟩, 38), (⟨"PlaneMapsModel", "faulty", "(II)V"⟩, 38), (⟨"PlaneMapsModel", "readsDart", "()I"⟩, 38), (⟨"PlaneMapsModel", "isDigit", "()Z"⟩, 38), (⟨"PlaneMapsModel", "isWhole", "()V"⟩, 38), (⟨"PlaneMapsModel", "greatest", "(I)I"⟩, 38), (⟨"PlaneMapsModel", "isParted", "(I)Z"⟩, 38), (⟨"PlaneMapsModel", "bridges", "(I)I"⟩, 38), (⟨"PlaneMapsModel", "isDart", "(II)Z"⟩, 38), (⟨"PlaneMapsModel", "isVertex", "(I)Z"⟩, 38)]
theorem lw_r5 : ∀ q ∈ lw_privs_5, lw_okq q := List.forall_mem_cons.mpr ⟨lw_p64, List.forall_mem_cons.mpr ⟨lw_p65, List.forall_mem_cons.mpr ⟨lw_p66, List.forall_mem_cons.mpr ⟨lw_p67, List.forall_mem_cons.mpr ⟨lw_p68, List.forall_mem_cons.mpr ⟨lw_p69, List.forall_mem_cons.mpr ⟨lw_p70, List.forall_mem_cons.mpr ⟨lw_p71, List.forall_mem_cons.mpr ⟨lw_p72, List.forall_mem_cons.mpr ⟨lw_p73, List.forall_mem_cons.mpr ⟨lw_p74, List.forall_mem_cons.mpr ⟨lw_p75, List.forall_mem_cons.mpr ⟨lw_p76, List.forall_mem_cons.mpr ⟨lw_p77, List.forall_mem_cons.mpr ⟨lw_p78, List.forall_mem_cons.mpr ⟨lw_p79, fun _ h => absurd h List.not_mem_nil⟩⟩⟩⟩⟩⟩⟩⟩⟩⟩⟩⟩⟩⟩⟩⟩
theorem lw_p80 : lw_okq (⟨"PlaneMapsModel", "laysCode", "(III)V"⟩, 38) := ⟨⟨by decide +kernel, by decide +kernel⟩, List.mem_of_getElem? (i := 710) (by decide +kernel), List.mem_of_getElem? (i := 1085) (by decide +kernel), List.mem_of_getElem? (i := 1086) (by decide +kernel)⟩
theorem lw_p81 : lw_okq (⟨"PlaneMapsModel", "areAlike", "(I)Z"⟩, 38) := ⟨⟨by decide +kernel, by decide +kernel⟩, List.mem_of_getElem? (i := 710) (by decide +kernel), List.mem_of_getElem? (i := 1093) (by decide +kernel), List.mem_of_getElem? (i := 1094) (by decide +kernel)⟩
theorem lw_p82 : lw_okq (⟨"PlaneMapsModel", "mirrors", "(II)V"⟩, 38) := ⟨⟨by decide +kernel, by decide +kernel⟩, List.mem_of_getElem? (i := 710) (by decide +kernel), List.mem_of_getElem? (i := 1106) (by decide +kernel), List.mem_of_getElem? (i := 1107) (by decide +kernel)⟩
theorem lw_p83 : lw_okq (⟨"PlaneMapsModel", "dual", "(II)V"⟩, 38) := ⟨⟨by decide +kernel, by decide +kernel⟩, List.mem_of_getElem? (i := 710) (by decide +kernel), List.mem_of_getElem? (i := 1110) (by decide +kernel), List.mem_of_getElem? (i := 1111) (by decide +kernel)⟩
theorem lw_p84 : lw_okq (⟨"PlaneMapsModel", "byCode", "(II)V"⟩, 38) := ⟨⟨by decide +kernel, by decide +kernel⟩, List.mem_of_getElem? (i := 710) (by decide +kernel), List.mem_of_getElem? (i := 1114) (by decide +kernel), List.mem_of_getElem? (i := 1115) (by decide +kernel)⟩
theorem lw_p85 : lw_okq (⟨"PlaneMapsModel", "without", "(III)V"⟩, 38) := ⟨⟨by decide +kernel, by decide +kernel⟩, List.mem_of_getElem? (i := 710) (by decide +kernel), List.mem_of_getElem? (i := 1118) (by decide +kernel), List.mem_of_getElem? (i := 1119) (by decide +kernel)⟩
theorem lw_p86 : lw_okq (⟨"PlaneMapsModel", "anew", "(II)I"⟩, 38) := ⟨⟨by decide +kernel, by decide +kernel⟩, List.mem_of_getElem? (i := 710) (by decide +kernel), List.mem_of_getElem? (i := 1122) (by decide +kernel), List.mem_of_getElem? (i := 1123) (by decide +kernel)⟩
theorem lw_p87 : lw_okq (⟨"PlaneMapsModel", "staysBehind", "(II)I"⟩, 38) := ⟨⟨by decide +kernel, by decide +kernel⟩, List.mem_of_getElem? (i := 710) (by decide +kernel), List.mem_of_getElem? (i := 1126) (by decide +kernel), List.mem_of_getElem? (i := 1127) (by decide +kernel)⟩
theorem lw_p88 : lw_okq (⟨"PlaneMapsModel", "puts", "(I)V"⟩, 38) := ⟨⟨by decide +kernel, by decide +kernel⟩, List.mem_of_getElem? (i := 710) (by decide +kernel), List.mem_of_getElem? (i := 1134) (by decide +kernel), List.mem_of_getElem? (i := 1135) (by decide +kernel)⟩
theorem lw_p89 : lw_okq (⟨"PlaneMapsModel", "putsDart", "(I)V"⟩, 38) := ⟨⟨by decide +kernel, by decide +kernel⟩, List.mem_of_getElem? (i := 710) (by decide +kernel), List.mem_of_getElem? (i := 1138) (by decide +kernel), List.mem_of_getElem? (i := 1139) (by decide +kernel)⟩
def lw_privs_6 : List (MethodName × Nat) := [(⟨"PlaneMapsModel", "laysCode", "(III)V"⟩, 38), (⟨"PlaneMapsModel", "areAlike", "(I)Z"⟩, 38), (⟨"PlaneMapsModel", "mirrors", "(II)V"⟩, 38), (⟨"PlaneMapsModel", "dual", "(II)V"⟩, 38), (⟨"PlaneMapsModel", "byCode", "(II)V"⟩, 38), (⟨"PlaneMapsModel", "without", "(III)V"⟩, 38), (⟨"PlaneMapsModel", "anew", "(II)I"⟩, 38), (⟨"PlaneMapsModel", "staysBehind", "(II)I"⟩, 38), (⟨"PlaneMapsModel", "puts", "(I)V"⟩, 38), (⟨"PlaneMapsModel", "putsDart", "(I)V"⟩, 38)]
theorem lw_r6 : ∀ q ∈ lw_privs_6, lw_okq q := List.forall_mem_cons.mpr ⟨lw_p80, List.forall_mem_cons.mpr ⟨lw_p81, List.forall_mem_cons.mpr ⟨lw_p82, List.forall_mem_cons.mpr ⟨lw_p83, List.forall_mem_cons.mpr ⟨lw_p84, List.forall_mem_cons.mpr ⟨lw_p85, List.forall_mem_cons.mpr ⟨lw_p86, List.forall_mem_cons.mpr ⟨lw_p87, List.forall_mem_cons.mpr ⟨lw_p88, List.forall_mem_cons.mpr ⟨lw_p89, fun _ h => absurd h List.not_mem_nil⟩⟩⟩⟩⟩⟩⟩⟩⟩⟩
def lw_privs : List (MethodName × Nat) := lw_privs_1 ++ (lw_privs_2 ++ (lw_privs_3 ++ (lw_privs_4 ++ (lw_privs_5 ++ (lw_privs_6)))))
def lw_tbl : List Cond := k2_sels lw_privs ++ tables_1
theorem lw_privs_ok : ∀ q ∈ lw_privs, lw_okq q := by
  show ∀ q ∈ lw_privs_1 ++ (lw_privs_2 ++ (lw_privs_3 ++ (lw_privs_4 ++ (lw_privs_5 ++ (lw_privs_6))))), lw_okq q
  exact List.forall_mem_append.mpr ⟨lw_r1, List.forall_mem_append.mpr ⟨lw_r2, List.forall_mem_append.mpr ⟨lw_r3, List.forall_mem_append.mpr ⟨lw_r4, List.forall_mem_append.mpr ⟨lw_r5, lw_r6⟩⟩⟩⟩⟩
/-! the words that every method may use, and the classes -/
def TB : List Cond := lw_tbl.filter goodWord
theorem tb_in {w : Cond} (i : Nat) (h : lw_tbl[i]? = some w) (g : goodWord w = true) : w ∈ TB := List.mem_filter.mpr ⟨List.mem_of_getElem? h, g⟩
theorem tb_all (ws : List Cond) (ps : List Nat) (hp : ws = ps.filterMap (fun i => lw_tbl[i]?)) (h : ws.all goodWord = true) : ∀ w ∈ ws, w ∈ TB := by
  intro w hw
  have h1 := List.all_eq_true.mp h w hw
  rw [hp] at hw
  obtain ⟨i, -, hi⟩ := List.mem_filterMap.mp hw
  exact List.mem_filter.mpr ⟨List.mem_of_getElem? hi, h1⟩
theorem tb_lw {w : Cond} (h : w ∈ TB) : w ∈ lw_tbl := (List.mem_filter.mp h).1
theorem tb_good {big : List Cond} (hb : ∀ w ∈ TB, w ∈ big) : GoodIn big TB := fun w hw => ⟨hb w hw, good_of_word (List.mem_filter.mp hw).2⟩
def RX0 : String := "PlaneMaps$Counts"
def TX0 : u_T := fun k => match k with
  | 0 => ("PlaneMaps$Counts", "rows", "[[J", true)
  | _ => ("PlaneMaps$Counts", "made", "I", false)
def tyX0 : Nat → FieldType := fun k => match k with
  | 0 => .array (.array .long)
  | _ => .int
theorem nmX0 : ∀ a, a < 2 → ∀ b, b < 2 → a ≠ b → (TX0 a).2.1 ≠ (TX0 b).2.1 := by decide +kernel
theorem tyX0_ok : ∀ k, k < 2 → parseFieldDescriptor (TX0 k).2.2.1 = some (tyX0 k) := by decide +kernel
set_option maxRecDepth 20000 in
theorem inX0 : ∀ w ∈ u_ws RX0 TX0 2, w ∈ TB := tb_all _ [270, 272] (by decide +kernel) (by decide +kernel)
def RX1 : String := "PlaneMaps$Distances"
def TX1 : u_T := fun k => match k with
  | 0 => ("PlaneMaps$Distances", "row", "[I", true)
  | _ => ("PlaneMaps$Distances", "reached", "I", false)
def tyX1 : Nat → FieldType := fun k => match k with
  | 0 => .array .int
  | _ => .int
theorem nmX1 : ∀ a, a < 2 → ∀ b, b < 2 → a ≠ b → (TX1 a).2.1 ≠ (TX1 b).2.1 := by decide +kernel
theorem tyX1_ok : ∀ k, k < 2 → parseFieldDescriptor (TX1 k).2.2.1 = some (tyX1 k) := by decide +kernel
set_option maxRecDepth 20000 in
theorem inX1 : ∀ w ∈ u_ws RX1 TX1 2, w ∈ TB := tb_all _ [298, 300] (by decide +kernel) (by decide +kernel)
def RX2 : String := "PlaneMaps$Namer"
def TX2 : u_T := fun k => match k with
  | 0 => ("PlaneMaps$Namer", "nameOf", "[I", true)
  | 1 => ("PlaneMaps$Namer", "dartOf", "[I", true)
  | 2 => ("PlaneMaps$Namer", "walked", "[I", true)
  | _ => ("PlaneMaps$Namer", "named", "I", false)
def tyX2 : Nat → FieldType := fun k => match k with
  | 0 => .array .int
  | 1 => .array .int
  | 2 => .array .int
  | _ => .int
theorem nmX2 : ∀ a, a < 4 → ∀ b, b < 4 → a ≠ b → (TX2 a).2.1 ≠ (TX2 b).2.1 := by decide +kernel
theorem tyX2_ok : ∀ k, k < 4 → parseFieldDescriptor (TX2 k).2.2.1 = some (tyX2 k) := by decide +kernel
set_option maxRecDepth 20000 in
theorem inX2 : ∀ w ∈ u_ws RX2 TX2 4, w ∈ TB := tb_all _ [315, 317, 319, 321] (by decide +kernel) (by decide +kernel)
def RX3 : String := "PlaneMaps$Reader"
def TX3 : u_T := fun k => match k with
  | 0 => ("PlaneMaps$Reader", "fault", "I", false)
  | 1 => ("PlaneMaps$Reader", "faultPlace", "I", false)
  | 2 => ("PlaneMaps$Reader", "faultRound", "I", false)
  | 3 => ("PlaneMaps$Reader", "faultRoundPlace", "I", false)
  | 4 => ("PlaneMaps$Reader", "faultDart", "I", false)
  | 5 => ("PlaneMaps$Reader", "next", "[I", true)
  | 6 => ("PlaneMaps$Reader", "told", "[I", true)
  | 7 => ("PlaneMaps$Reader", "roundMaker", "LPlaneMaps$RoundMaker;", true)
  | 8 => ("PlaneMaps$Reader", "toldDarts", "I", false)
  | 9 => ("PlaneMaps$Reader", "where", "I", false)
  | 10 => ("PlaneMaps$Reader", "round", "I", false)
  | 11 => ("PlaneMaps$Reader", "roundPlace", "I", false)
  | 12 => ("PlaneMaps$Reader", "dartsInRound", "I", false)
  | 13 => ("PlaneMaps$Reader", "number", "I", false)
  | _ => ("PlaneMaps$Reader", "numberPlace", "I", false)
def tyX3 : Nat → FieldType := fun k => match k with
  | 0 => .int
  | 1 => .int
  | 2 => .int
  | 3 => .int
  | 4 => .int
  | 5 => .array .int
  | 6 => .array .int
  | 7 => .object "PlaneMaps$RoundMaker"
  | 8 => .int
  | 9 => .int
  | 10 => .int
  | 11 => .int
  | 12 => .int
  | 13 => .int
  | _ => .int
theorem nmX3 : ∀ a, a < 15 → ∀ b, b < 15 → a ≠ b → (TX3 a).2.1 ≠ (TX3 b).2.1 := by decide +kernel
theorem tyX3_ok : ∀ k, k < 15 → parseFieldDescriptor (TX3 k).2.2.1 = some (tyX3 k) := by decide +kernel
set_option maxRecDepth 20000 in
theorem inX3 : ∀ w ∈ u_ws RX3 TX3 15, w ∈ TB := tb_all _ [214, 216, 218, 220, 222, 224, 226, 228, 230, 232, 234, 236, 238, 240, 242] (by decide +kernel) (by decide +kernel)
def RX4 : String := "PlaneMaps$RootedMap"
def TX4 : u_T := fun k => match k with
  | 0 => ("PlaneMaps$RootedMap", "edges", "I", false)
  | 1 => ("PlaneMaps$RootedMap", "root", "I", false)
  | 2 => ("PlaneMaps$RootedMap", "vertices", "I", false)
  | 3 => ("PlaneMaps$RootedMap", "faces", "I", false)
  | 4 => ("PlaneMaps$RootedMap", "next", "[I", true)
  | 5 => ("PlaneMaps$RootedMap", "follow", "[I", true)
  | 6 => ("PlaneMaps$RootedMap", "vertexOf", "[I", true)
  | 7 => ("PlaneMaps$RootedMap", "faceOf", "[I", true)
  | 8 => ("PlaneMaps$RootedMap", "vertexDegrees", "[I", true)
  | _ => ("PlaneMaps$RootedMap", "faceDegrees", "[I", true)
def tyX4 : Nat → FieldType := fun k => match k with
  | 0 => .int
  | 1 => .int
  | 2 => .int
  | 3 => .int
  | 4 => .array .int
  | 5 => .array .int
  | 6 => .array .int
  | 7 => .array .int
  | 8 => .array .int
  | _ => .array .int
theorem nmX4 : ∀ a, a < 10 → ∀ b, b < 10 → a ≠ b → (TX4 a).2.1 ≠ (TX4 b).2.1 := by decide +kernel
theorem tyX4_ok : ∀ k, k < 10 → parseFieldDescriptor (TX4 k).2.2.1 = some (tyX4 k) := by decide +kernel
set_option maxRecDepth 20000 in
theorem inX4 : ∀ w ∈ u_ws RX4 TX4 10, w ∈ TB := tb_all _ [153, 155, 157, 159, 161, 163, 165, 167, 169, 171] (by decide +kernel) (by decide +kernel)
def RX5 : String := "PlaneMaps$RoundMaker"
def TX5 : u_T := fun k => match k with
  | 0 => ("PlaneMaps$RoundMaker", "first", "I", false)
  | _ => ("PlaneMaps$RoundMaker", "last", "I", false)
def tyX5 : Nat → FieldType := fun k => match k with
  | 0 => .int
  | _ => .int
theorem nmX5 : ∀ a, a < 2 → ∀ b, b < 2 → a ≠ b → (TX5 a).2.1 ≠ (TX5 b).2.1 := by decide +kernel
theorem tyX5_ok : ∀ k, k < 2 → parseFieldDescriptor (TX5 k).2.2.1 = some (tyX5 k) := by decide +kernel
set_option maxRecDepth 20000 in
theorem inX5 : ∀ w ∈ u_ws RX5 TX5 2, w ∈ TB := tb_all _ [189, 191] (by decide +kernel) (by decide +kernel)
def RX6 : String := "PlaneMaps$Shapes"
def TX6 : u_T := fun k => match k with
  | _ => ("PlaneMaps$Shapes", "ways", "[[I", true)
def tyX6 : Nat → FieldType := fun k => match k with
  | _ => .array (.array .int)
theorem nmX6 : ∀ a, a < 1 → ∀ b, b < 1 → a ≠ b → (TX6 a).2.1 ≠ (TX6 b).2.1 := by decide +kernel
theorem tyX6_ok : ∀ k, k < 1 → parseFieldDescriptor (TX6 k).2.2.1 = some (tyX6 k) := by decide +kernel
set_option maxRecDepth 20000 in
theorem inX6 : ∀ w ∈ u_ws RX6 TX6 1, w ∈ TB := tb_all _ [285] (by decide +kernel) (by decide +kernel)
def RX7 : String := "PlaneMaps$TextWriter"
def TX7 : u_T := fun k => match k with
  | 0 => ("PlaneMaps$TextWriter", "bytes", "[I", true)
  | _ => ("PlaneMaps$TextWriter", "length", "I", false)
def tyX7 : Nat → FieldType := fun k => match k with
  | 0 => .array .int
  | _ => .int
theorem nmX7 : ∀ a, a < 2 → ∀ b, b < 2 → a ≠ b → (TX7 a).2.1 ≠ (TX7 b).2.1 := by decide +kernel
theorem tyX7_ok : ∀ k, k < 2 → parseFieldDescriptor (TX7 k).2.2.1 = some (tyX7 k) := by decide +kernel
set_option maxRecDepth 20000 in
theorem inX7 : ∀ w ∈ u_ws RX7 TX7 2, w ∈ TB := tb_all _ [255, 257] (by decide +kernel) (by decide +kernel)
def RX8 : String := "PlaneMaps$Tree"
def TX8 : u_T := fun k => match k with
  | 0 => ("PlaneMaps$Tree", "edges", "I", false)
  | 1 => ("PlaneMaps$Tree", "steps", "[I", true)
  | 2 => ("PlaneMaps$Tree", "labels", "[I", true)
  | 3 => ("PlaneMaps$Tree", "parents", "[I", true)
  | 4 => ("PlaneMaps$Tree", "vertexAt", "[I", true)
  | _ => ("PlaneMaps$Tree", "heirs", "[I", true)
def tyX8 : Nat → FieldType := fun k => match k with
  | 0 => .int
  | 1 => .array .int
  | 2 => .array .int
  | 3 => .array .int
  | 4 => .array .int
  | _ => .array .int
theorem nmX8 : ∀ a, a < 6 → ∀ b, b < 6 → a ≠ b → (TX8 a).2.1 ≠ (TX8 b).2.1 := by decide +kernel
theorem tyX8_ok : ∀ k, k < 6 → parseFieldDescriptor (TX8 k).2.2.1 = some (tyX8 k) := by decide +kernel
set_option maxRecDepth 20000 in
theorem inX8 : ∀ w ∈ u_ws RX8 TX8 6, w ∈ TB := tb_all _ [357, 359, 361, 363, 365, 367] (by decide +kernel) (by decide +kernel)
def RX9 : String := "PlaneMaps"
def TX9 : u_T := fun k => match k with
  | 0 => ("PlaneMaps", "tape", "[I", true)
  | 1 => ("PlaneMaps", "tapeLength", "I", false)
  | 2 => ("PlaneMaps", "treeSlots", "[LPlaneMaps$Tree;", true)
  | 3 => ("PlaneMaps", "mapSlots", "[LPlaneMaps$RootedMap;", true)
  | 4 => ("PlaneMaps", "draft", "LPlaneMaps$RootedMap;", false)
  | 5 => ("PlaneMaps", "reader", "LPlaneMaps$Reader;", true)
  | 6 => ("PlaneMaps", "writer", "LPlaneMaps$TextWriter;", true)
  | 7 => ("PlaneMaps", "counts", "LPlaneMaps$Counts;", true)
  | 8 => ("PlaneMaps", "shapes", "LPlaneMaps$Shapes;", true)
  | 9 => ("PlaneMaps", "distances", "LPlaneMaps$Distances;", true)
  | 10 => ("PlaneMaps", "rounds", "LPlaneMaps$RoundMaker;", true)
  | 11 => ("PlaneMaps", "namer", "LPlaneMaps$Namer;", true)
  | 12 => ("PlaneMaps", "oneCode", "[I", true)
  | 13 => ("PlaneMaps", "otherCode", "[I", true)
  | _ => ("PlaneMaps", "marks", "[I", true)
def tyX9 : Nat → FieldType := fun k => match k with
  | 0 => .array .int
  | 1 => .int
  | 2 => .array (.object "PlaneMaps$Tree")
  | 3 => .array (.object "PlaneMaps$RootedMap")
  | 4 => .object "PlaneMaps$RootedMap"
  | 5 => .object "PlaneMaps$Reader"
  | 6 => .object "PlaneMaps$TextWriter"
  | 7 => .object "PlaneMaps$Counts"
  | 8 => .object "PlaneMaps$Shapes"
  | 9 => .object "PlaneMaps$Distances"
  | 10 => .object "PlaneMaps$RoundMaker"
  | 11 => .object "PlaneMaps$Namer"
  | 12 => .array .int
  | 13 => .array .int
  | _ => .array .int
theorem nmX9 : ∀ a, a < 15 → ∀ b, b < 15 → a ≠ b → (TX9 a).2.1 ≠ (TX9 b).2.1 := by decide +kernel
theorem tyX9_ok : ∀ k, k < 15 → parseFieldDescriptor (TX9 k).2.2.1 = some (tyX9 k) := by decide +kernel
set_option maxRecDepth 20000 in
theorem inX9 : ∀ w ∈ u_ws RX9 TX9 15, w ∈ TB := tb_all _ [385, 387, 389, 391, 393, 395, 397, 399, 401, 403, 405, 407, 409, 411, 413] (by decide +kernel) (by decide +kernel)
def RX10 : String := "PlaneMapsModel"
def TX10 : u_T := fun k => match k with
  | 0 => ("PlaneMapsModel", "told", "I", false)
  | 1 => ("PlaneMapsModel", "next", "[I", true)
  | 2 => ("PlaneMapsModel", "edges", "[I", true)
  | 3 => ("PlaneMapsModel", "root", "[I", true)
  | 4 => ("PlaneMapsModel", "vertexOf", "[I", true)
  | 5 => ("PlaneMapsModel", "faceOf", "[I", true)
  | 6 => ("PlaneMapsModel", "degrees", "[I", true)
  | 7 => ("PlaneMapsModel", "vertices", "I", false)
  | 8 => ("PlaneMapsModel", "faces", "I", false)
  | 9 => ("PlaneMapsModel", "far", "[I", true)
  | 10 => ("PlaneMapsModel", "counts", "[J", true)
  | 11 => ("PlaneMapsModel", "size", "[I", true)
  | 12 => ("PlaneMapsModel", "steps", "[I", true)
  | 13 => ("PlaneMapsModel", "labels", "[I", true)
  | 14 => ("PlaneMapsModel", "parent", "[I", true)
  | 15 => ("PlaneMapsModel", "corner", "[I", true)
  | 16 => ("PlaneMapsModel", "round", "[I", true)
  | 17 => ("PlaneMapsModel", "roundMany", "I", false)
  | 18 => ("PlaneMapsModel", "slotNow", "I", false)
  | 19 => ("PlaneMapsModel", "stepNow", "I", false)
  | 20 => ("PlaneMapsModel", "vertexNow", "I", false)
  | 21 => ("PlaneMapsModel", "tape", "[I", true)
  | 22 => ("PlaneMapsModel", "taped", "I", false)
  | 23 => ("PlaneMapsModel", "length", "I", false)
  | 24 => ("PlaneMapsModel", "spot", "I", false)
  | 25 => ("PlaneMapsModel", "fault", "I", false)
  | 26 => ("PlaneMapsModel", "place", "I", false)
  | 27 => ("PlaneMapsModel", "roundNow", "I", false)
  | 28 => ("PlaneMapsModel", "opened", "I", false)
  | 29 => ("PlaneMapsModel", "which", "I", false)
  | 30 => ("PlaneMapsModel", "isWithin", "Z", false)
  | 31 => ("PlaneMapsModel", "seen", "I", false)
  | 32 => ("PlaneMapsModel", "seenMany", "I", false)
  | 33 => ("PlaneMapsModel", "nameOf", "[I", true)
  | 34 => ("PlaneMapsModel", "named", "[I", true)
  | 35 => ("PlaneMapsModel", "codes", "[I", true)
  | 36 => ("PlaneMapsModel", "shownNow", "[I", true)
  | _ => ("PlaneMapsModel", "shownMany", "I", false)
def tyX10 : Nat → FieldType := fun k => match k with
  | 0 => .int
  | 1 => .array .int
  | 2 => .array .int
  | 3 => .array .int
  | 4 => .array .int
  | 5 => .array .int
  | 6 => .array .int
  | 7 => .int
  | 8 => .int
  | 9 => .array .int
  | 10 => .array .long
  | 11 => .array .int
  | 12 => .array .int
  | 13 => .array .int
  | 14 => .array .int
  | 15 => .array .int
  | 16 => .array .int
  | 17 => .int
  | 18 => .int
  | 19 => .int
  | 20 => .int
  | 21 => .array .int
  | 22 => .int
  | 23 => .int
  | 24 => .int
  | 25 => .int
  | 26 => .int
  | 27 => .int
  | 28 => .int
  | 29 => .int
  | 30 => .boolean
  | 31 => .int
  | 32 => .int
  | 33 => .array .int
  | 34 => .array .int
  | 35 => .array .int
  | 36 => .array .int
  | _ => .int
theorem nmX10 : ∀ a, a < 38 → ∀ b, b < 38 → a ≠ b → (TX10 a).2.1 ≠ (TX10 b).2.1 := by decide +kernel
theorem tyX10_ok : ∀ k, k < 38 → parseFieldDescriptor (TX10 k).2.2.1 = some (tyX10 k) := by decide +kernel
set_option maxRecDepth 20000 in
theorem inX10 : ∀ w ∈ u_ws RX10 TX10 38, w ∈ TB := tb_all _ [843, 845, 847, 849, 851, 853, 855, 857, 859, 861, 863, 865, 867, 869, 871, 873, 875, 877, 879, 881, 883, 885, 887, 889, 891, 893, 895, 897, 899, 901, 903, 905, 907, 909, 911, 913, 915, 917] (by decide +kernel) (by decide +kernel)
def RL : String := "PlaneMapsLaw"
def RJ9 : String := "java/lang/Math"
def RJ7 : String := "java/util/Arrays"
abbrev vwCl : List vw_C := [(RX0, TX0, 2), (RX1, TX1, 2), (RX2, TX2, 4), (RX3, TX3, 15), (RX4, TX4, 10), (RX5, TX5, 2), (RX6, TX6, 1), (RX7, TX7, 2), (RX8, TX8, 6), (RX9, TX9, 15), (RX10, TX10, 38)]
/-- what holds of every class of the list -/
def clOK (q : vw_C) : Prop := (∀ w ∈ u_ws q.1 q.2.1 q.2.2, w ∈ TB) ∧ (∀ a, a < q.2.2 → ∀ b, b < q.2.2 → a ≠ b → (q.2.1 a).2.1 ≠ (q.2.1 b).2.1) ∧ ∃ ty : Nat → FieldType, ∀ k, k < q.2.2 → parseFieldDescriptor (q.2.1 k).2.2.1 = some (ty k)
theorem cl_ok : ∀ (ci : Nat) (q : vw_C), vwCl[ci]? = some q → clOK q
  | 0, q, h => by cases h; exact ⟨inX0, nmX0, tyX0, tyX0_ok⟩
  | 1, q, h => by cases h; exact ⟨inX1, nmX1, tyX1, tyX1_ok⟩
  | 2, q, h => by cases h; exact ⟨inX2, nmX2, tyX2, tyX2_ok⟩
  | 3, q, h => by cases h; exact ⟨inX3, nmX3, tyX3, tyX3_ok⟩
  | 4, q, h => by cases h; exact ⟨inX4, nmX4, tyX4, tyX4_ok⟩
  | 5, q, h => by cases h; exact ⟨inX5, nmX5, tyX5, tyX5_ok⟩
  | 6, q, h => by cases h; exact ⟨inX6, nmX6, tyX6, tyX6_ok⟩
  | 7, q, h => by cases h; exact ⟨inX7, nmX7, tyX7, tyX7_ok⟩
  | 8, q, h => by cases h; exact ⟨inX8, nmX8, tyX8, tyX8_ok⟩
  | 9, q, h => by cases h; exact ⟨inX9, nmX9, tyX9, tyX9_ok⟩
  | 10, q, h => by cases h; exact ⟨inX10, nmX10, tyX10, tyX10_ok⟩
  | n + 11, q, h => by simp [vwCl] at h
end
section
/-! THE WORLD. Cells are numbered from 1 on in the order in which they are made; cell k lies at B + k. Memory: ints, longs, references by cell and place. -/
abbrev GE : Type := Nat × Nat × va_G × (Nat → ClassId)
abbrev EN : Type := Nat × (Nat → Nat × Nat) × Nat × (Nat → Int32)
abbrev ME : Type := (Nat → Nat → Int32) × (Nat → Nat → Int64) × (Nat → Nat → Nat)
abbrev gI (M : ME) (k j : Nat) : Int32 := M.1 k j
abbrev gL (M : ME) (k j : Nat) : Int64 := M.2.1 k j
abbrev gR (M : ME) (k j : Nat) : Nat := M.2.2 k j
def up2 {α : Type} (f : Nat → Nat → α) (k j : Nat) (v : α) : Nat → Nat → α := fun a => if a = k then (fun b => if b = j then v else f a b) else f a
def sI (M : ME) (k j : Nat) (v : Int32) : ME := (up2 M.1 k j v, M.2.1, M.2.2)
def sL (M : ME) (k j : Nat) (v : Int64) : ME := (M.1, up2 M.2.1 k j v, M.2.2)
def sR (M : ME) (k j : Nat) (v : Nat) : ME := (M.1, M.2.1, up2 M.2.2 k j v)
theorem up2_ne {α : Type} {f : Nat → Nat → α} {k j : Nat} {v : α} {a : Nat} (h : a ≠ k) : up2 f k j v a = f a := if_neg h
theorem up2_eq {α : Type} {f : Nat → Nat → α} {k j : Nat} {v : α} : up2 f k j v k = fun b => if b = j then v else f k b := if_pos rfl
abbrev shp (E : EN) (k : Nat) : Nat × Nat := E.2.1 k
def rfG (B : Nat) (r : Nat) : Option Nat := if r = 0 then none else some (B + r)
/-- number of fields -/
def cFn (ci : Nat) : Nat := match vwCl[ci]? with
  | some q => q.2.2
  | none => 0
/-- a field's kind: 0 a number; 1 a reference that may change; o + 2 a final one, to the cell o behind the object's -/
def kdF (ci j : Nat) : Nat := match ci with
  | 0 => match j with
    | 0 => 3
    | _ => 0
  | 1 => match j with
    | 0 => 3
    | _ => 0
  | 2 => match j with
    | 0 => 3
    | 1 => 4
    | 2 => 5
    | _ => 0
  | 3 => match j with
    | 5 => 3
    | 6 => 4
    | 7 => 5
    | _ => 0
  | 4 => match j with
    | 4 => 3
    | 5 => 4
    | 6 => 5
    | 7 => 6
    | 8 => 7
    | 9 => 8
    | _ => 0
  | 5 => 0
  | 6 => 3
  | 7 => match j with
    | 0 => 3
    | _ => 0
  | 8 => match j with
    | 0 => 0
    | 1 => 3
    | 2 => 4
    | 3 => 5
    | 4 => 6
    | _ => 7
  | 9 => match j with
    | 0 => 3
    | 1 => 0
    | 2 => 4
    | 3 => 5
    | 4 => 1
    | 5 => 13
    | 6 => 17
    | 7 => 19
    | 8 => 36
    | 9 => 55
    | 10 => 57
    | 11 => 58
    | 12 => 62
    | 13 => 63
    | _ => 64
  | 10 => match j with
    | 1 => 3
    | 2 => 4
    | 3 => 5
    | 4 => 6
    | 5 => 7
    | 6 => 8
    | 9 => 9
    | 10 => 10
    | 11 => 11
    | 12 => 12
    | 13 => 13
    | 14 => 14
    | 15 => 15
    | 16 => 16
    | 21 => 17
    | 33 => 18
    | 34 => 19
    | 35 => 20
    | 36 => 21
    | _ => 0
  | _ => 0
/-- a field's value; raw: the object is being made, final fields stand in memory like the others -/
def fv (B : Nat) (M : ME) (raw : Bool) (ci k j : Nat) : Value := match kdF ci j with
  | 0 => .int (gI M k j)
  | 1 => va_rf (rfG B (gR M k j))
  | o + 2 => if raw = true then va_rf (rfG B (gR M k j)) else .ref (B + (k + o))
def flds (B : Nat) (M : ME) (raw : Bool) (ci k : Nat) : List Value := (List.range (cFn ci)).map (fv B M raw ci k)
/-- what a cell holds, by its shape: (1, n) ints, (2, n) longs, (3, n) trees, (4, n) maps, (5, n) rows of ints, (6, n) rows of longs, (c + 10, _) an object of class c, (c + 30, _) one that is being made -/
def ent (G : GE) (E : EN) (M : ME) (k : Nat) : va_E := match (shp E k).1 with
  | 1 => .inl (G.2.2.2 1, (shp E k).2, .inl (M.1 k))
  | 2 => .inl (G.2.2.2 2, (shp E k).2, .inr (.inl (M.2.1 k)))
  | 3 => .inl (G.2.2.2 3, (shp E k).2, .inr (.inr (.inr (.inr (fun j => rfG G.1 (gR M k j))))))
  | 4 => .inl (G.2.2.2 4, (shp E k).2, .inr (.inr (.inr (.inr (fun j => rfG G.1 (gR M k j))))))
  | 5 => .inl (G.2.2.2 5, (shp E k).2, .inr (.inr (.inr (.inr (fun j => if j < (shp E k).2 then some (G.1 + (k + 1 + j)) else none)))))
  | 6 => .inl (G.2.2.2 6, (shp E k).2, .inr (.inr (.inr (.inr (fun j => if j < (shp E k).2 then some (G.1 + (k + 1 + j)) else none)))))
  | c => if c < 30 then .inr (c - 10, flds G.1 M false (c - 10) k) else .inr (c - 30, flds G.1 M true (c - 30) k)
def wsOf (G : GE) (E : EN) (M : ME) : va_W := (List.range (E.1 - 1)).map (fun k => (G.1 + (k + 1), ent G E M (k + 1)))
def tysG (G : GE) : List (ClassId × FieldType) := [(G.2.2.2 1, .int), (G.2.2.2 2, .long), (G.2.2.2 3, .object "PlaneMaps$Tree"), (G.2.2.2 4, .object "PlaneMaps$RootedMap"), (G.2.2.2 5, .array .int), (G.2.2.2 6, .array .long)]
def wfE (E : EN) : Prop := ∀ k, (shp E k).1 ≠ 0 → 0 < k ∧ k < E.1
def Rp (G : GE) (E : EN) (M : ME) (H : Heap) : Prop := va_P G.2.2.1 vwCl (wsOf G E M) H
theorem rng_at {α : Type} (f : Nat → α) {n k : Nat} (h : k < n) : ((List.range n).map f)[k]? = some (f k) := by
  rw [List.getElem?_map, List.getElem?_range h]; rfl
theorem rng_set {α : Type} (f g : Nat → α) {n k : Nat} (hg : ∀ j, j ≠ k → g j = f j) : ((List.range n).map f).set k (g k) = (List.range n).map g := by
  apply List.ext_getElem?
  intro j
  by_cases hj : j = k
  · subst hj
    by_cases hn : j < n
    · rw [List.getElem?_set_self (by simpa using hn), rng_at g hn]
    · rw [List.getElem?_eq_none (by simpa using hn), List.getElem?_eq_none (by simpa using hn)]
  · rw [List.getElem?_set_ne (Ne.symm hj), List.getElem?_map, List.getElem?_map]
    cases h : (List.range n)[j]? with
    | none => rfl
    | some x =>
      have : x = j := by
        have h2 := List.getElem?_eq_some_iff.mp h
        obtain ⟨h3, h4⟩ := h2
        rw [List.getElem_range] at h4
        exact h4.symm
      subst this
      simp [hg x hj]
theorem ws_at {G : GE} {E : EN} {M : ME} (hw : wfE E) {k : Nat} (hk : (shp E k).1 ≠ 0) : (wsOf G E M)[k - 1]? = some (G.1 + k, ent G E M k) := by
  obtain ⟨h1, h2⟩ := hw k hk
  obtain ⟨j, rfl⟩ : ∃ j, k = j + 1 := ⟨k - 1, by omega⟩
  exact rng_at (fun k => (G.1 + (k + 1), ent G E M (k + 1))) (by omega : j < E.1 - 1)
theorem ws_set {G : GE} {E : EN} {M M' : ME} (hw : wfE E) {k : Nat} (hk : (shp E k).1 ≠ 0) {x : va_E} (hx : ent G E M' k = x) (ho : ∀ j, j ≠ k → ent G E M' j = ent G E M j) : (wsOf G E M).set (k - 1) (G.1 + k, x) = wsOf G E M' := by
  obtain ⟨h1, h2⟩ := hw k hk
  obtain ⟨j, rfl⟩ : ∃ j, k = j + 1 := ⟨k - 1, by omega⟩
  subst hx
  exact rng_set (fun k => (G.1 + (k + 1), ent G E M (k + 1))) (fun k => (G.1 + (k + 1), ent G E M' (k + 1))) (k := j) (fun i hi => by
    show (_, _) = (_, _)
    rw [ho (i + 1) (by omega)])
theorem ws_D {G : GE} {E : EN} {M : ME} : va_D (fun q => G.1 < q) (wsOf G E M) := by
  have key : ∀ (i : Nat) (x : Nat × va_E), (wsOf G E M)[i]? = some x → x.1 = G.1 + (i + 1) := by
    intro i x hx
    by_cases h : i < E.1 - 1
    · have := rng_at (fun k => (G.1 + (k + 1), ent G E M (k + 1))) h
      have e := hx.symm.trans this
      cases e
      rfl
    · have : (wsOf G E M)[i]? = none := List.getElem?_eq_none (by simp [wsOf]; omega)
      rw [this] at hx; cases hx
  refine ⟨fun i j x y hi hj hxy => ?_, fun i x hx => ?_⟩
  · have h1 := key i x hi
    have h2 := key j y hj
    omega
  · have h1 := key i x hx
    show G.1 < x.1
    omega
/-- a pure value as the machine has it: references are cells' numbers; a return address stands for the script -/
def shV (G : GE) : Value → Value
  | .ref k => .ref (G.1 + k)
  | .retAddr _ => .ref G.2.1
  | v => v
theorem shV_cat (G : GE) (v : Value) : (shV G v).category = v.category := by cases v <;> rfl
theorem shV_null (G : GE) (v : Value) : shV G v = .null ↔ v = .null := by cases v <;> simp [shV]
/-! locals: by place; .null where nothing is known -/
def hsL (ls : Array Slot) (nL : Nat) (lv : List Value) : Prop := ls.size = nL ∧ lv_wf ls ∧ ∀ (i : Nat) (v : Value), lv[i]? = some v → v ≠ .null → ls[i]? = some (.val v)
def ivL (lv : List Value) (i : Nat) : List Value := match i with
  | 0 => lv
  | j + 1 => match lv[j]? with
    | some w => if w.category = 2 then lv.set j .null else lv
    | none => lv
def stL (lv : List Value) (i : Nat) (v : Value) : List Value := (ivL lv i).set i v
def stL2 (lv : List Value) (i : Nat) (v : Value) : List Value := (stL lv i v).set (i + 1) .null
def asL (lv : List Value) : List (Nat × Value) := (List.range lv.length).filterMap (fun i => match lv[i]? with
  | some Value.null => none
  | some v => some (i, v)
  | none => none)
theorem asL_mem {lv : List Value} {i : Nat} {v : Value} (h : lv[i]? = some v) (hv : v ≠ .null) : (i, v) ∈ asL lv := by
  refine List.mem_filterMap.mpr ⟨i, List.mem_range.mpr (List.getElem?_eq_some_iff.mp h).1, ?_⟩
  rw [h]
  cases v <;> simp_all
theorem asL_of {lv : List Value} {q : Nat × Value} (h : q ∈ asL lv) : lv[q.1]? = some q.2 ∧ q.2 ≠ .null := by
  obtain ⟨i, -, hi⟩ := List.mem_filterMap.mp h
  cases hl : lv[i]? with
  | none => rw [hl] at hi; cases hi
  | some w =>
    rw [hl] at hi
    cases w <;> simp at hi <;> subst hi <;> exact ⟨hl, by simp⟩
theorem hsL_kit {ls : Array Slot} {nL : Nat} {lv : List Value} (h : hsL ls nL lv) : lv_has ls nL (asL lv) := ⟨h.1, h.2.1, fun q hq => h.2.2 q.1 q.2 (asL_of hq).1 (asL_of hq).2⟩
theorem ivL_at {lv : List Value} {i j : Nat} {v : Value} (h : (ivL lv i)[j]? = some v) (hv : v ≠ .null) : lv[j]? = some v ∧ ¬ (j + 1 = i ∧ v.category = 2) := by
  unfold ivL at h
  cases i with
  | zero => exact ⟨h, fun q => by omega⟩
  | succ m =>
    dsimp only at h
    cases hm : lv[m]? with
    | none =>
      rw [hm] at h
      refine ⟨h, fun q => ?_⟩
      obtain ⟨q1, -⟩ := q
      have : j = m := by omega
      subst this
      have h' : lv[j]? = some v := h
      rw [hm] at h'; cases h'
    | some w =>
      rw [hm] at h
      dsimp only at h
      by_cases hc : w.category = 2
      · rw [if_pos hc] at h
        by_cases hj : j = m
        · subst hj
          rw [List.getElem?_set_self (List.getElem?_eq_some_iff.mp hm).1] at h
          cases h
          exact absurd rfl hv
        · rw [List.getElem?_set_ne (Ne.symm hj)] at h
          exact ⟨h, fun q => hj (by omega)⟩
      · rw [if_neg hc] at h
        refine ⟨h, fun q => ?_⟩
        obtain ⟨q1, q2⟩ := q
        have : j = m := by omega
        subst this
        rw [hm] at h
        cases h
        exact hc q2
theorem stL_at {lv : List Value} {i j : Nat} {v w : Value} (h : (stL lv i v)[j]? = some w) (hw : w ≠ .null) : (j = i ∧ w = v) ∨ (j ≠ i ∧ lv[j]? = some w ∧ ¬ (j + 1 = i ∧ w.category = 2)) := by
  unfold stL at h
  by_cases hj : j = i
  · subst hj
    have hl := (List.getElem?_eq_some_iff.mp h).1
    rw [List.length_set] at hl
    rw [List.getElem?_set_self hl] at h
    cases h
    exact Or.inl ⟨rfl, rfl⟩
  · rw [List.getElem?_set_ne (Ne.symm hj)] at h
    exact Or.inr ⟨hj, ivL_at h hw⟩
theorem hsL_st {ls' : Array Slot} {nL i : Nat} {lv : List Value} {v : Value} (h : lv_has ls' nL ((i, v) :: (asL lv).filter (fun q => !(q.1 == i) && !(q.1 + 1 == i && q.2.category == 2)))) : hsL ls' nL (stL lv i v) := by
  refine ⟨h.1, h.2.1, fun j w hj hw => ?_⟩
  rcases stL_at hj hw with ⟨rfl, rfl⟩ | ⟨h1, h2, h3⟩
  · exact h.2.2 (_, _) List.mem_cons_self
  · refine h.2.2 (j, w) (List.mem_cons_of_mem _ (List.mem_filter.mpr ⟨asL_mem h2 hw, ?_⟩))
    by_cases e : j + 1 = i
    · have : ¬ w.category = 2 := fun q => h3 ⟨e, q⟩
      simp [h1, this]
    · simp [h1, e]
theorem hsL_st2 {ls' : Array Slot} {nL i : Nat} {lv : List Value} {v : Value} (h : lv_has ls' nL ((i, v) :: (asL lv).filter (fun q => !(q.1 == i) && (!(q.1 == i + 1) && !(q.1 + 1 == i && q.2.category == 2))))) : hsL ls' nL (stL2 lv i v) := by
  refine ⟨h.1, h.2.1, fun j w hj hw => ?_⟩
  unfold stL2 at hj
  by_cases hji : j = i + 1
  · subst hji
    have hl := (List.getElem?_eq_some_iff.mp hj).1
    rw [List.length_set] at hl
    rw [List.getElem?_set_self hl] at hj
    cases hj
    exact absurd rfl hw
  · rw [List.getElem?_set_ne (Ne.symm hji)] at hj
    rcases stL_at hj hw with ⟨rfl, rfl⟩ | ⟨h1, h2, h3⟩
    · exact h.2.2 (_, _) List.mem_cons_self
    · refine h.2.2 (j, w) (List.mem_cons_of_mem _ (List.mem_filter.mpr ⟨asL_mem h2 hw, ?_⟩))
      by_cases e : j + 1 = i
      · have : ¬ w.category = 2 := fun q => h3 ⟨e, q⟩
        simp [h1, hji, this]
      · simp [h1, hji, e]
theorem map_ivL (G : GE) (lv : List Value) (i : Nat) : (ivL lv i).map (shV G) = ivL (lv.map (shV G)) i := by
  unfold ivL
  cases i with
  | zero => rfl
  | succ m =>
    dsimp only
    rw [List.getElem?_map]
    cases lv[m]? with
    | none => rfl
    | some w =>
      simp only [Option.map_some, shV_cat]
      by_cases hc : w.category = 2
      · rw [if_pos hc, if_pos hc, List.map_set]; rfl
      · rw [if_neg hc, if_neg hc]
theorem map_stL (G : GE) (lv : List Value) (i : Nat) (v : Value) : (stL lv i v).map (shV G) = stL (lv.map (shV G)) i (shV G v) := by
  unfold stL; rw [List.map_set, map_ivL]
theorem map_stL2 (G : GE) (lv : List Value) (i : Nat) (v : Value) : (stL2 lv i v).map (shV G) = stL2 (lv.map (shV G)) i (shV G v) := by
  unfold stL2; rw [List.map_set, map_stL]; rfl
theorem hsL_ld {G : GE} {ls : Array Slot} {nL i : Nat} {lv : List Value} {v : Value} (h : hsL ls nL (lv.map (shV G))) (hi : lv[i]? = some v) (hv : v ≠ .null) : ls[i]? = some (.val (shV G v)) :=
  h.2.2 i (shV G v) (by rw [List.getElem?_map, hi]; rfl) (fun e => hv ((shV_null G v).mp e))
/-! a method: name, bytes, locals, answer's type, class, instructions -/
abbrev MR : Type := MethodName × ByteArray × Nat × Option FieldType × String × (Nat → Instr × Nat)
abbrev mY (μ : MR) : MethodName := μ.1
abbrev mB (μ : MR) : ByteArray := μ.2.1
abbrev mX (μ : MR) : Nat := μ.2.2.1
abbrev mT (μ : MR) : Option FieldType := μ.2.2.2.1
abbrev mO (μ : MR) : String := μ.2.2.2.2.1
abbrev mI (μ : MR) : Nat → Instr × Nat := μ.2.2.2.2.2
/-- its instructions are those of its bytes; its class; its code is among the words -/
def MOK (μ : MR) : Prop := (∀ pc : Nat, ((mI μ) pc).2 = 0 ∨ decode (mB μ) pc = .ok ((mI μ) pc))
theorem MOK.d {μ : MR} (O : MOK μ) {pc : Nat} {i : Instr} {n : Nat} (h : (mI μ) pc = (i, n + 1)) : decode (mB μ) pc = .ok (i, n + 1) := by
  rcases O pc with h1 | h1
  · rw [h] at h1; cases h1
  · rw [h1, h]
def rmD (d : Nat) : Room := { frames := d, cells := 0, slots := 0, locals := 64 * d }
def Cx (G : GE) (E : EN) (d : Nat) (μ : MR) (p : Program) (Rm : Room) (s : State) (m : MethodId) (args : Array Value) (c : Code) (cells slots : Nat) : Prop :=
  p.tables.exec = Jvm.exec ∧ c.code = mB μ ∧ c.maxLocals = mX μ ∧ s.vm.findClass (mO μ) = some m.cls ∧ (∀ w ∈ TB, w.before args s = true) ∧ va_K G.2.2.1 vwCl (tysG G) s ∧ (d ≤ Rm.frames ∧ 64 * d ≤ Rm.locals ∧ cells ≤ Rm.cells ∧ slots ≤ Rm.slots) ∧ wfE E ∧ G.1 < s.heap.size ∧ (va_X G.2.1 E.2.2.1 E.2.2.2 s s.heap ∧ G.2.1 ≤ G.1) ∧ MOK μ
/-- where a method may end, with what -/
def rOK (μ : MR) (pc : Nat) (v : Option Value) : Prop := (∃ (x : Int32) (t : FieldType), v = some (.int x) ∧ (mI μ) pc = (.ireturn, 1) ∧ mT μ = some t ∧ narrow t (.int x) = .int x) ∨ (∃ x : Int64, v = some (.long x) ∧ (mI μ) pc = (.lreturn, 1) ∧ mT μ = some .long) ∨ (v = none ∧ (mI μ) pc = (.return_, 1) ∧ mT μ = none)
def Wp (E : EN) (d : Nat) (μ : MR) (pc : Nat) (lv st : List Value) (M : ME) (R : Option Value → ME → Prop) : Prop :=
  ∀ (G : GE) (l : Launch) (p : Program) (e : Env) (Rm : Room) (s : State) (m : MethodId) (args : Array Value) (below : List Frame) (meth : Method) (c : Code) (H : Heap) (locs : List Loc) (cells slots : Nat) (Q : State → Prop) (ls : Array Slot),
    Cx G E d μ p Rm s m args c cells slots → Rp G E M H → va_S (fun q => G.1 < q) s.heap H locs → hsL ls (mX μ) (lv.map (shV G)) →
    (∀ (v : Option Value) (M' : ME) (H' : Heap) (locs' : List Loc) (pc' : Nat) (ls' : Array Slot), R v M' → rOK μ pc' v → Rp G E M' H' → va_S (fun q => G.1 < q) s.heap H' locs' → W p l e Rm s m args below meth c H' locs' cells slots Q (F0 m pc' ls' (v.toList.map (shV G)))) →
    W p l e Rm s m args below meth c H locs cells slots Q (F0 m pc ls (st.map (shV G)))
end
section
/-! ROWS: an instruction each, over the world -/
section RW
variable {E : EN} {d : Nat} {μ : MR} {pc : Nat} {lv lv2 st : List Value} {M : ME} {R : Option Value → ME → Prop}
theorem r_iadd {x y : Int32} (h : (mI μ) pc = (.iadd, 1))  (k : Wp E d μ (pc + 1) lv (.int (x + y) :: st) M R) : Wp E d μ pc lv (.int y :: .int x :: st) M R := by
  intro G l p e Rm s m args below meth c H locs cells slots Q ls C P S L K
  obtain ⟨hx, hb, hml, ho, ht, hK, hrm, hw, hlt, hX, O⟩ := id C
  exact lv_iadd hx hb (O.d h)  (k G l p e Rm s m args below meth c H locs cells slots Q ls C P S L K)
theorem r_isub {x y : Int32} (h : (mI μ) pc = (.isub, 1))  (k : Wp E d μ (pc + 1) lv (.int (x - y) :: st) M R) : Wp E d μ pc lv (.int y :: .int x :: st) M R := by
  intro G l p e Rm s m args below meth c H locs cells slots Q ls C P S L K
  obtain ⟨hx, hb, hml, ho, ht, hK, hrm, hw, hlt, hX, O⟩ := id C
  exact lv_isub hx hb (O.d h)  (k G l p e Rm s m args below meth c H locs cells slots Q ls C P S L K)
theorem r_imul {x y : Int32} (h : (mI μ) pc = (.imul, 1))  (k : Wp E d μ (pc + 1) lv (.int (x * y) :: st) M R) : Wp E d μ pc lv (.int y :: .int x :: st) M R := by
  intro G l p e Rm s m args below meth c H locs cells slots Q ls C P S L K
  obtain ⟨hx, hb, hml, ho, ht, hK, hrm, hw, hlt, hX, O⟩ := id C
  exact lv_imul hx hb (O.d h)  (k G l p e Rm s m args below meth c H locs cells slots Q ls C P S L K)
theorem r_iand {x y : Int32} (h : (mI μ) pc = (.iand, 1))  (k : Wp E d μ (pc + 1) lv (.int (x &&& y) :: st) M R) : Wp E d μ pc lv (.int y :: .int x :: st) M R := by
  intro G l p e Rm s m args below meth c H locs cells slots Q ls C P S L K
  obtain ⟨hx, hb, hml, ho, ht, hK, hrm, hw, hlt, hX, O⟩ := id C
  exact lv_iand hx hb (O.d h)  (k G l p e Rm s m args below meth c H locs cells slots Q ls C P S L K)
theorem r_ior {x y : Int32} (h : (mI μ) pc = (.ior, 1))  (k : Wp E d μ (pc + 1) lv (.int (x ||| y) :: st) M R) : Wp E d μ pc lv (.int y :: .int x :: st) M R := by
  intro G l p e Rm s m args below meth c H locs cells slots Q ls C P S L K
  obtain ⟨hx, hb, hml, ho, ht, hK, hrm, hw, hlt, hX, O⟩ := id C
  exact lv_ior hx hb (O.d h)  (k G l p e Rm s m args below meth c H locs cells slots Q ls C P S L K)
theorem r_ixor {x y : Int32} (h : (mI μ) pc = (.ixor, 1))  (k : Wp E d μ (pc + 1) lv (.int (x ^^^ y) :: st) M R) : Wp E d μ pc lv (.int y :: .int x :: st) M R := by
  intro G l p e Rm s m args below meth c H locs cells slots Q ls C P S L K
  obtain ⟨hx, hb, hml, ho, ht, hK, hrm, hw, hlt, hX, O⟩ := id C
  exact lv_ixor hx hb (O.d h)  (k G l p e Rm s m args below meth c H locs cells slots Q ls C P S L K)
theorem r_idiv {x y : Int32} (h : (mI μ) pc = (.idiv, 1)) (hne : ¬ y = 0) (k : Wp E d μ (pc + 1) lv (.int (x / y) :: st) M R) : Wp E d μ pc lv (.int y :: .int x :: st) M R := by
  intro G l p e Rm s m args below meth c H locs cells slots Q ls C P S L K
  obtain ⟨hx, hb, hml, ho, ht, hK, hrm, hw, hlt, hX, O⟩ := id C
  exact lv_idiv hx hb (O.d h) hne (k G l p e Rm s m args below meth c H locs cells slots Q ls C P S L K)
theorem r_irem {x y : Int32} (h : (mI μ) pc = (.irem, 1)) (hne : ¬ y = 0) (k : Wp E d μ (pc + 1) lv (.int (x - x / y * y) :: st) M R) : Wp E d μ pc lv (.int y :: .int x :: st) M R := by
  intro G l p e Rm s m args below meth c H locs cells slots Q ls C P S L K
  obtain ⟨hx, hb, hml, ho, ht, hK, hrm, hw, hlt, hX, O⟩ := id C
  exact lv_irem hx hb (O.d h) hne (k G l p e Rm s m args below meth c H locs cells slots Q ls C P S L K)
theorem r_ladd {x y : Int64} (h : (mI μ) pc = (.ladd, 1))  (k : Wp E d μ (pc + 1) lv (.long (x + y) :: st) M R) : Wp E d μ pc lv (.long y :: .long x :: st) M R := by
  intro G l p e Rm s m args below meth c H locs cells slots Q ls C P S L K
  obtain ⟨hx, hb, hml, ho, ht, hK, hrm, hw, hlt, hX, O⟩ := id C
  exact lv_ladd hx hb (O.d h)  (k G l p e Rm s m args below meth c H locs cells slots Q ls C P S L K)
theorem r_lsub {x y : Int64} (h : (mI μ) pc = (.lsub, 1))  (k : Wp E d μ (pc + 1) lv (.long (x - y) :: st) M R) : Wp E d μ pc lv (.long y :: .long x :: st) M R := by
  intro G l p e Rm s m args below meth c H locs cells slots Q ls C P S L K
  obtain ⟨hx, hb, hml, ho, ht, hK, hrm, hw, hlt, hX, O⟩ := id C
  exact lv_lsub hx hb (O.d h)  (k G l p e Rm s m args below meth c H locs cells slots Q ls C P S L K)
theorem r_lmul {x y : Int64} (h : (mI μ) pc = (.lmul, 1))  (k : Wp E d μ (pc + 1) lv (.long (x * y) :: st) M R) : Wp E d μ pc lv (.long y :: .long x :: st) M R := by
  intro G l p e Rm s m args below meth c H locs cells slots Q ls C P S L K
  obtain ⟨hx, hb, hml, ho, ht, hK, hrm, hw, hlt, hX, O⟩ := id C
  exact lv_lmul hx hb (O.d h)  (k G l p e Rm s m args below meth c H locs cells slots Q ls C P S L K)
theorem r_land {x y : Int64} (h : (mI μ) pc = (.land, 1))  (k : Wp E d μ (pc + 1) lv (.long (x &&& y) :: st) M R) : Wp E d μ pc lv (.long y :: .long x :: st) M R := by
  intro G l p e Rm s m args below meth c H locs cells slots Q ls C P S L K
  obtain ⟨hx, hb, hml, ho, ht, hK, hrm, hw, hlt, hX, O⟩ := id C
  exact lv_land hx hb (O.d h)  (k G l p e Rm s m args below meth c H locs cells slots Q ls C P S L K)
theorem r_lor {x y : Int64} (h : (mI μ) pc = (.lor, 1))  (k : Wp E d μ (pc + 1) lv (.long (x ||| y) :: st) M R) : Wp E d μ pc lv (.long y :: .long x :: st) M R := by
  intro G l p e Rm s m args below meth c H locs cells slots Q ls C P S L K
  obtain ⟨hx, hb, hml, ho, ht, hK, hrm, hw, hlt, hX, O⟩ := id C
  exact lv_lor hx hb (O.d h)  (k G l p e Rm s m args below meth c H locs cells slots Q ls C P S L K)
theorem r_ldiv {x y : Int64} (h : (mI μ) pc = (.ldiv, 1)) (hne : ¬ y = 0) (k : Wp E d μ (pc + 1) lv (.long (x / y) :: st) M R) : Wp E d μ pc lv (.long y :: .long x :: st) M R := by
  intro G l p e Rm s m args below meth c H locs cells slots Q ls C P S L K
  obtain ⟨hx, hb, hml, ho, ht, hK, hrm, hw, hlt, hX, O⟩ := id C
  exact lv_ldiv hx hb (O.d h) hne (k G l p e Rm s m args below meth c H locs cells slots Q ls C P S L K)
theorem r_lrem {x y : Int64} (h : (mI μ) pc = (.lrem, 1)) (hne : ¬ y = 0) (k : Wp E d μ (pc + 1) lv (.long (x - x / y * y) :: st) M R) : Wp E d μ pc lv (.long y :: .long x :: st) M R := by
  intro G l p e Rm s m args below meth c H locs cells slots Q ls C P S L K
  obtain ⟨hx, hb, hml, ho, ht, hK, hrm, hw, hlt, hX, O⟩ := id C
  exact lv_lrem hx hb (O.d h) hne (k G l p e Rm s m args below meth c H locs cells slots Q ls C P S L K)
theorem r_ishl {x y : Int32} (h : (mI μ) pc = (.ishl, 1))  (k : Wp E d μ (pc + 1) lv (.int (x <<< (y &&& 31)) :: st) M R) : Wp E d μ pc lv (.int y :: .int x :: st) M R := by
  intro G l p e Rm s m args below meth c H locs cells slots Q ls C P S L K
  obtain ⟨hx, hb, hml, ho, ht, hK, hrm, hw, hlt, hX, O⟩ := id C
  exact lv_ishl hx hb (O.d h)  (k G l p e Rm s m args below meth c H locs cells slots Q ls C P S L K)
theorem r_ishr {x y : Int32} (h : (mI μ) pc = (.ishr, 1))  (k : Wp E d μ (pc + 1) lv (.int (x >>> (y &&& 31)) :: st) M R) : Wp E d μ pc lv (.int y :: .int x :: st) M R := by
  intro G l p e Rm s m args below meth c H locs cells slots Q ls C P S L K
  obtain ⟨hx, hb, hml, ho, ht, hK, hrm, hw, hlt, hX, O⟩ := id C
  exact lv_ishr hx hb (O.d h)  (k G l p e Rm s m args below meth c H locs cells slots Q ls C P S L K)
theorem r_iushr {x y : Int32} (h : (mI μ) pc = (.iushr, 1))  (k : Wp E d μ (pc + 1) lv (.int ((x.toUInt32 >>> (y.toUInt32 &&& Int32.toUInt32 31)).toInt32) :: st) M R) : Wp E d μ pc lv (.int y :: .int x :: st) M R := by
  intro G l p e Rm s m args below meth c H locs cells slots Q ls C P S L K
  obtain ⟨hx, hb, hml, ho, ht, hK, hrm, hw, hlt, hX, O⟩ := id C
  exact lv_iushr hx hb (O.d h) rfl (k G l p e Rm s m args below meth c H locs cells slots Q ls C P S L K)
theorem r_lshl {x : Int64} {y : Int32} (h : (mI μ) pc = (.lshl, 1))  (k : Wp E d μ (pc + 1) lv (.long (x <<< (y.toInt64 &&& 63)) :: st) M R) : Wp E d μ pc lv (.int y :: .long x :: st) M R := by
  intro G l p e Rm s m args below meth c H locs cells slots Q ls C P S L K
  obtain ⟨hx, hb, hml, ho, ht, hK, hrm, hw, hlt, hX, O⟩ := id C
  exact lv_lshl hx hb (O.d h) rfl (k G l p e Rm s m args below meth c H locs cells slots Q ls C P S L K)
theorem r_i2l {x : Int32} (h : (mI μ) pc = (.i2l, 1))  (k : Wp E d μ (pc + 1) lv (.long x.toInt64 :: st) M R) : Wp E d μ pc lv (.int x :: st) M R := by
  intro G l p e Rm s m args below meth c H locs cells slots Q ls C P S L K
  obtain ⟨hx, hb, hml, ho, ht, hK, hrm, hw, hlt, hX, O⟩ := id C
  exact lv_i2l hx hb (O.d h) rfl (k G l p e Rm s m args below meth c H locs cells slots Q ls C P S L K)
theorem r_l2i {x : Int64} (h : (mI μ) pc = (.l2i, 1))  (k : Wp E d μ (pc + 1) lv (.int x.toInt32 :: st) M R) : Wp E d μ pc lv (.long x :: st) M R := by
  intro G l p e Rm s m args below meth c H locs cells slots Q ls C P S L K
  obtain ⟨hx, hb, hml, ho, ht, hK, hrm, hw, hlt, hX, O⟩ := id C
  exact lv_l2i hx hb (O.d h) rfl (k G l p e Rm s m args below meth c H locs cells slots Q ls C P S L K)
theorem r_lcmp {x y : Int64} (h : (mI μ) pc = (.lcmp, 1))  (k : Wp E d μ (pc + 1) lv (.int (lg_cmp x y) :: st) M R) : Wp E d μ pc lv (.long y :: .long x :: st) M R := by
  intro G l p e Rm s m args below meth c H locs cells slots Q ls C P S L K
  obtain ⟨hx, hb, hml, ho, ht, hK, hrm, hw, hlt, hX, O⟩ := id C
  exact W.lcmp hx hb (O.d h)  (k G l p e Rm s m args below meth c H locs cells slots Q ls C P S L K)
theorem r_iconst {n : Int} (v : Int32) (h : (mI μ) pc = (.iconst n, 1)) (hv : Int32.ofInt n = v) (k : Wp E d μ (pc + 1) lv (.int v :: st) M R) : Wp E d μ pc lv (st) M R := by
  intro G l p e Rm s m args below meth c H locs cells slots Q ls C P S L K
  obtain ⟨hx, hb, hml, ho, ht, hK, hrm, hw, hlt, hX, O⟩ := id C
  exact lv_iconst hx hb (O.d h) hv (k G l p e Rm s m args below meth c H locs cells slots Q ls C P S L K)
theorem r_bipush {n : Int} (v : Int32) (h : (mI μ) pc = (.bipush n, 2)) (hv : (Int8.ofInt n).toInt32 = v) (k : Wp E d μ (pc + 2) lv (.int v :: st) M R) : Wp E d μ pc lv (st) M R := by
  intro G l p e Rm s m args below meth c H locs cells slots Q ls C P S L K
  obtain ⟨hx, hb, hml, ho, ht, hK, hrm, hw, hlt, hX, O⟩ := id C
  exact lv_bipush hx hb (O.d h) hv (k G l p e Rm s m args below meth c H locs cells slots Q ls C P S L K)
theorem r_sipush {n : Int} (v : Int32) (h : (mI μ) pc = (.sipush n, 3)) (hv : (Int16.ofInt n).toInt32 = v) (k : Wp E d μ (pc + 3) lv (.int v :: st) M R) : Wp E d μ pc lv (st) M R := by
  intro G l p e Rm s m args below meth c H locs cells slots Q ls C P S L K
  obtain ⟨hx, hb, hml, ho, ht, hK, hrm, hw, hlt, hX, O⟩ := id C
  exact lv_sipush hx hb (O.d h) hv (k G l p e Rm s m args below meth c H locs cells slots Q ls C P S L K)
theorem r_lconst {n : Fin 2} (v : Int64) (h : (mI μ) pc = (.lconst n, 1)) (hv : Int64.ofNat (n : Nat) = v) (k : Wp E d μ (pc + 1) lv (.long v :: st) M R) : Wp E d μ pc lv (st) M R := by
  intro G l p e Rm s m args below meth c H locs cells slots Q ls C P S L K
  obtain ⟨hx, hb, hml, ho, ht, hK, hrm, hw, hlt, hX, O⟩ := id C
  exact lv_lconst hx hb (O.d h) hv (k G l p e Rm s m args below meth c H locs cells slots Q ls C P S L K)
theorem r_ldc2 {idx : Nat} {v : Int64} (h : (mI μ) pc = (.ldc2_w idx, 3)) (hc : Cond.constantLong (mO μ) idx v ∈ TB) (k : Wp E d μ (pc + 3) lv (.long v :: st) M R) : Wp E d μ pc lv st M R := by
  intro G l p e Rm s m args below meth c H locs cells slots Q ls C P S L K
  obtain ⟨hx, hb, hml, ho, ht, hK, hrm, hw, hlt, hX, O⟩ := id C
  exact W.ldc2 hx hb ho (ht _ hc) rfl (O.d h) (k G l p e Rm s m args below meth c H locs cells slots Q ls C P S L K)
theorem r_iload {i : Nat} {x : Int32} (h : (mI μ) pc = (.iload i, 2)) (hv : lv[i]? = some (.int x)) (k : Wp E d μ (pc + 2) lv (.int x :: st) M R) : Wp E d μ pc lv (st) M R := by
  intro G l p e Rm s m args below meth c H locs cells slots Q ls C P S L K
  obtain ⟨hx, hb, hml, ho, ht, hK, hrm, hw, hlt, hX, O⟩ := id C
  exact lv_iload hx hb (O.d h) (hsL_ld L hv (by simp)) (k G l p e Rm s m args below meth c H locs cells slots Q ls C P S L K)
theorem r_iload_n {i : Fin 4} {x : Int32} (h : (mI μ) pc = (.iload_n i, 1)) (hv : lv[(i : Nat)]? = some (.int x)) (k : Wp E d μ (pc + 1) lv (.int x :: st) M R) : Wp E d μ pc lv (st) M R := by
  intro G l p e Rm s m args below meth c H locs cells slots Q ls C P S L K
  obtain ⟨hx, hb, hml, ho, ht, hK, hrm, hw, hlt, hX, O⟩ := id C
  exact lv_iload_n hx hb (O.d h) rfl (hsL_ld L hv (by simp)) (k G l p e Rm s m args below meth c H locs cells slots Q ls C P S L K)
theorem r_lload {i : Nat} {x : Int64} (h : (mI μ) pc = (.lload i, 2)) (hv : lv[i]? = some (.long x)) (k : Wp E d μ (pc + 2) lv (.long x :: st) M R) : Wp E d μ pc lv (st) M R := by
  intro G l p e Rm s m args below meth c H locs cells slots Q ls C P S L K
  obtain ⟨hx, hb, hml, ho, ht, hK, hrm, hw, hlt, hX, O⟩ := id C
  exact lv_lload hx hb (O.d h) (hsL_ld L hv (by simp)) (k G l p e Rm s m args below meth c H locs cells slots Q ls C P S L K)
theorem r_lload_n {i : Fin 4} {x : Int64} (h : (mI μ) pc = (.lload_n i, 1)) (hv : lv[(i : Nat)]? = some (.long x)) (k : Wp E d μ (pc + 1) lv (.long x :: st) M R) : Wp E d μ pc lv (st) M R := by
  intro G l p e Rm s m args below meth c H locs cells slots Q ls C P S L K
  obtain ⟨hx, hb, hml, ho, ht, hK, hrm, hw, hlt, hX, O⟩ := id C
  exact lv_lload_n hx hb (O.d h) rfl (hsL_ld L hv (by simp)) (k G l p e Rm s m args below meth c H locs cells slots Q ls C P S L K)
theorem r_aload {i : Nat} {x : Nat} (h : (mI μ) pc = (.aload i, 2)) (hv : lv[i]? = some (.ref x)) (k : Wp E d μ (pc + 2) lv (.ref x :: st) M R) : Wp E d μ pc lv (st) M R := by
  intro G l p e Rm s m args below meth c H locs cells slots Q ls C P S L K
  obtain ⟨hx, hb, hml, ho, ht, hK, hrm, hw, hlt, hX, O⟩ := id C
  exact lv_aload hx hb (O.d h) (hsL_ld L hv (by simp)) (k G l p e Rm s m args below meth c H locs cells slots Q ls C P S L K)
theorem r_aload_n {i : Fin 4} {x : Nat} (h : (mI μ) pc = (.aload_n i, 1)) (hv : lv[(i : Nat)]? = some (.ref x)) (k : Wp E d μ (pc + 1) lv (.ref x :: st) M R) : Wp E d μ pc lv (st) M R := by
  intro G l p e Rm s m args below meth c H locs cells slots Q ls C P S L K
  obtain ⟨hx, hb, hml, ho, ht, hK, hrm, hw, hlt, hX, O⟩ := id C
  exact lv_aload_n hx hb (O.d h) rfl (hsL_ld L hv (by simp)) (k G l p e Rm s m args below meth c H locs cells slots Q ls C P S L K)
theorem r_aloadS {i : Fin 4} {x : Nat} (h : (mI μ) pc = (.aload_n i, 1)) (hv : lv[(i : Nat)]? = some (.retAddr x)) (k : Wp E d μ (pc + 1) lv (.retAddr x :: st) M R) : Wp E d μ pc lv (st) M R := by
  intro G l p e Rm s m args below meth c H locs cells slots Q ls C P S L K
  obtain ⟨hx, hb, hml, ho, ht, hK, hrm, hw, hlt, hX, O⟩ := id C
  exact lv_aload_n hx hb (O.d h) rfl (hsL_ld L hv (by simp)) (k G l p e Rm s m args below meth c H locs cells slots Q ls C P S L K)
theorem r_istore {i : Nat} {x : Int32} (h : (mI μ) pc = (.istore i, 2)) (hn : i < mX μ) (hl : stL lv i (.int x) = lv2) (k : Wp E d μ (pc + 2) lv2 st M R) : Wp E d μ pc lv (.int x :: st) M R := by
  intro G l p e Rm s m args below meth c H locs cells slots Q ls C P S L K
  obtain ⟨hx, hb, hml, ho, ht, hK, hrm, hw, hlt, hX, O⟩ := id C
  exact lv_istore hx hb (O.d h) (hsL_kit L) hn rfl (fun ls2 hl2 => k G l p e Rm s m args below meth c H locs cells slots Q ls2 C P S (by rw [← hl, map_stL]; exact hsL_st hl2) K)
theorem r_istore_n {i : Fin 4} {x : Int32} (h : (mI μ) pc = (.istore_n i, 1)) (hn : (i : Nat) < mX μ) (hl : stL lv (i : Nat) (.int x) = lv2) (k : Wp E d μ (pc + 1) lv2 st M R) : Wp E d μ pc lv (.int x :: st) M R := by
  intro G l p e Rm s m args below meth c H locs cells slots Q ls C P S L K
  obtain ⟨hx, hb, hml, ho, ht, hK, hrm, hw, hlt, hX, O⟩ := id C
  exact lv_istore_n hx hb (O.d h) rfl (hsL_kit L) hn rfl (fun ls2 hl2 => k G l p e Rm s m args below meth c H locs cells slots Q ls2 C P S (by rw [← hl, map_stL]; exact hsL_st hl2) K)
theorem r_lstore {i : Nat} {x : Int64} (h : (mI μ) pc = (.lstore i, 2)) (hn : i + 1 < mX μ) (hl : stL2 lv i (.long x) = lv2) (k : Wp E d μ (pc + 2) lv2 st M R) : Wp E d μ pc lv (.long x :: st) M R := by
  intro G l p e Rm s m args below meth c H locs cells slots Q ls C P S L K
  obtain ⟨hx, hb, hml, ho, ht, hK, hrm, hw, hlt, hX, O⟩ := id C
  exact lv_lstore hx hb (O.d h) (hsL_kit L) hn rfl (fun ls2 hl2 => k G l p e Rm s m args below meth c H locs cells slots Q ls2 C P S (by rw [← hl, map_stL2]; exact hsL_st2 hl2) K)
theorem r_lstore_n {i : Fin 4} {x : Int64} (h : (mI μ) pc = (.lstore_n i, 1)) (hn : (i : Nat) + 1 < mX μ) (hl : stL2 lv (i : Nat) (.long x) = lv2) (k : Wp E d μ (pc + 1) lv2 st M R) : Wp E d μ pc lv (.long x :: st) M R := by
  intro G l p e Rm s m args below meth c H locs cells slots Q ls C P S L K
  obtain ⟨hx, hb, hml, ho, ht, hK, hrm, hw, hlt, hX, O⟩ := id C
  exact lv_lstore_n hx hb (O.d h) rfl (hsL_kit L) hn rfl (fun ls2 hl2 => k G l p e Rm s m args below meth c H locs cells slots Q ls2 C P S (by rw [← hl, map_stL2]; exact hsL_st2 hl2) K)
theorem r_astore {i : Nat} {x : Nat} (h : (mI μ) pc = (.astore i, 2)) (hn : i < mX μ) (hl : stL lv i (.ref x) = lv2) (k : Wp E d μ (pc + 2) lv2 st M R) : Wp E d μ pc lv (.ref x :: st) M R := by
  intro G l p e Rm s m args below meth c H locs cells slots Q ls C P S L K
  obtain ⟨hx, hb, hml, ho, ht, hK, hrm, hw, hlt, hX, O⟩ := id C
  exact lv_astore hx hb (O.d h) (hsL_kit L) hn rfl (fun ls2 hl2 => k G l p e Rm s m args below meth c H locs cells slots Q ls2 C P S (by rw [← hl, map_stL]; exact hsL_st hl2) K)
theorem r_astore_n {i : Fin 4} {x : Nat} (h : (mI μ) pc = (.astore_n i, 1)) (hn : (i : Nat) < mX μ) (hl : stL lv (i : Nat) (.ref x) = lv2) (k : Wp E d μ (pc + 1) lv2 st M R) : Wp E d μ pc lv (.ref x :: st) M R := by
  intro G l p e Rm s m args below meth c H locs cells slots Q ls C P S L K
  obtain ⟨hx, hb, hml, ho, ht, hK, hrm, hw, hlt, hX, O⟩ := id C
  exact lv_astore_n hx hb (O.d h) rfl (hsL_kit L) hn rfl (fun ls2 hl2 => k G l p e Rm s m args below meth c H locs cells slots Q ls2 C P S (by rw [← hl, map_stL]; exact hsL_st hl2) K)
theorem r_iinc {i : Nat} {n : Int} {x v : Int32} (h : (mI μ) pc = (.iinc i n, 3)) (hn : i < mX μ) (hg : lv[i]? = some (.int x)) (hv : x + Int32.ofInt n = v) (hl : stL lv i (.int v) = lv2) (k : Wp E d μ (pc + 3) lv2 st M R) : Wp E d μ pc lv st M R := by
  intro G l p e Rm s m args below meth c H locs cells slots Q ls C P S L K
  obtain ⟨hx, hb, hml, ho, ht, hK, hrm, hw, hlt, hX, O⟩ := id C
  have hm : (i, Value.int x) ∈ asL (lv.map (shV G)) := asL_mem (by rw [List.getElem?_map, hg]; rfl) (by simp)
  obtain ⟨q, hq⟩ := List.getElem?_of_mem hm
  exact lv_iinc hx hb (O.d h) (hsL_kit L) hq hv hn rfl (fun ls2 hl2 => k G l p e Rm s m args below meth c H locs cells slots Q ls2 C P S (by rw [← hl, map_stL]; exact hsL_st hl2) K)
theorem r_dup {v : Value} (h : (mI μ) pc = (.dup, 1)) (hv : v.category = 1) (k : Wp E d μ (pc + 1) lv (v :: v :: st) M R) : Wp E d μ pc lv (v :: st) M R := by
  intro G l p e Rm s m args below meth c H locs cells slots Q ls C P S L K
  obtain ⟨hx, hb, hml, ho, ht, hK, hrm, hw, hlt, hX, O⟩ := id C
  exact lv_dup hx hb (O.d h) ((shV_cat G v).trans hv) (k G l p e Rm s m args below meth c H locs cells slots Q ls C P S L K)
theorem r_pop {v : Value} (h : (mI μ) pc = (.pop, 1)) (hv : v.category = 1) (k : Wp E d μ (pc + 1) lv (st) M R) : Wp E d μ pc lv (v :: st) M R := by
  intro G l p e Rm s m args below meth c H locs cells slots Q ls C P S L K
  obtain ⟨hx, hb, hml, ho, ht, hK, hrm, hw, hlt, hX, O⟩ := id C
  exact lv_pop hx hb (O.d h) ((shV_cat G v).trans hv) (k G l p e Rm s m args below meth c H locs cells slots Q ls C P S L K)
theorem r_dup2 {v w : Value} (h : (mI μ) pc = (.dup2, 1)) (hv : v.category = 1) (hw2 : w.category = 1) (k : Wp E d μ (pc + 1) lv (v :: w :: v :: w :: st) M R) : Wp E d μ pc lv (v :: w :: st) M R := by
  intro G l p e Rm s m args below meth c H locs cells slots Q ls C P S L K
  obtain ⟨hx, hb, hml, ho, ht, hK, hrm, hw, hlt, hX, O⟩ := id C
  exact lv_dup2_11 hx hb (O.d h) ((shV_cat G v).trans hv) ((shV_cat G w).trans hw2) (k G l p e Rm s m args below meth c H locs cells slots Q ls C P S L K)
theorem r_if_eq {x : Int32} {off : Int} {tgt : Nat} (h : (mI μ) pc = (.ifCond .eq off, 3)) (hg : (pc : Int) + off = (tgt : Int)) (kt : x = 0 → Wp E d μ tgt lv st M R) (kf : ¬ x = 0 → Wp E d μ (pc + 3) lv st M R) : Wp E d μ pc lv (.int x :: st) M R := by
  intro G l p e Rm s m args below meth c H locs cells slots Q ls C P S L K
  obtain ⟨hx, hb, hml, ho, ht, hK, hrm, hw, hlt, hX, O⟩ := id C
  exact lv_if_eq hx hb (O.d h) hg (fun q => kt q G l p e Rm s m args below meth c H locs cells slots Q ls C P S L K) (fun q => kf q G l p e Rm s m args below meth c H locs cells slots Q ls C P S L K)
theorem r_icmp_eq {x y : Int32} {off : Int} {tgt : Nat} (h : (mI μ) pc = (.if_icmp .eq off, 3)) (hg : (pc : Int) + off = (tgt : Int)) (kt : x = y → Wp E d μ tgt lv st M R) (kf : ¬ x = y → Wp E d μ (pc + 3) lv st M R) : Wp E d μ pc lv (.int y :: .int x :: st) M R := by
  intro G l p e Rm s m args below meth c H locs cells slots Q ls C P S L K
  obtain ⟨hx, hb, hml, ho, ht, hK, hrm, hw, hlt, hX, O⟩ := id C
  exact lv_icmp_eq hx hb (O.d h) hg (fun q => kt q G l p e Rm s m args below meth c H locs cells slots Q ls C P S L K) (fun q => kf q G l p e Rm s m args below meth c H locs cells slots Q ls C P S L K)
theorem r_if_ne {x : Int32} {off : Int} {tgt : Nat} (h : (mI μ) pc = (.ifCond .ne off, 3)) (hg : (pc : Int) + off = (tgt : Int)) (kt : ¬ x = 0 → Wp E d μ tgt lv st M R) (kf : x = 0 → Wp E d μ (pc + 3) lv st M R) : Wp E d μ pc lv (.int x :: st) M R := by
  intro G l p e Rm s m args below meth c H locs cells slots Q ls C P S L K
  obtain ⟨hx, hb, hml, ho, ht, hK, hrm, hw, hlt, hX, O⟩ := id C
  exact lv_if_ne hx hb (O.d h) hg (fun q => kt q G l p e Rm s m args below meth c H locs cells slots Q ls C P S L K) (fun q => kf q G l p e Rm s m args below meth c H locs cells slots Q ls C P S L K)
theorem r_icmp_ne {x y : Int32} {off : Int} {tgt : Nat} (h : (mI μ) pc = (.if_icmp .ne off, 3)) (hg : (pc : Int) + off = (tgt : Int)) (kt : ¬ x = y → Wp E d μ tgt lv st M R) (kf : x = y → Wp E d μ (pc + 3) lv st M R) : Wp E d μ pc lv (.int y :: .int x :: st) M R := by
  intro G l p e Rm s m args below meth c H locs cells slots Q ls C P S L K
  obtain ⟨hx, hb, hml, ho, ht, hK, hrm, hw, hlt, hX, O⟩ := id C
  exact lv_icmp_ne hx hb (O.d h) hg (fun q => kt q G l p e Rm s m args below meth c H locs cells slots Q ls C P S L K) (fun q => kf q G l p e Rm s m args below meth c H locs cells slots Q ls C P S L K)
theorem r_if_lt {x : Int32} {off : Int} {tgt : Nat} (h : (mI μ) pc = (.ifCond .lt off, 3)) (hg : (pc : Int) + off = (tgt : Int)) (kt : x < 0 → Wp E d μ tgt lv st M R) (kf : ¬ x < 0 → Wp E d μ (pc + 3) lv st M R) : Wp E d μ pc lv (.int x :: st) M R := by
  intro G l p e Rm s m args below meth c H locs cells slots Q ls C P S L K
  obtain ⟨hx, hb, hml, ho, ht, hK, hrm, hw, hlt, hX, O⟩ := id C
  exact lv_if_lt hx hb (O.d h) hg (fun q => kt q G l p e Rm s m args below meth c H locs cells slots Q ls C P S L K) (fun q => kf q G l p e Rm s m args below meth c H locs cells slots Q ls C P S L K)
theorem r_icmp_lt {x y : Int32} {off : Int} {tgt : Nat} (h : (mI μ) pc = (.if_icmp .lt off, 3)) (hg : (pc : Int) + off = (tgt : Int)) (kt : x < y → Wp E d μ tgt lv st M R) (kf : ¬ x < y → Wp E d μ (pc + 3) lv st M R) : Wp E d μ pc lv (.int y :: .int x :: st) M R := by
  intro G l p e Rm s m args below meth c H locs cells slots Q ls C P S L K
  obtain ⟨hx, hb, hml, ho, ht, hK, hrm, hw, hlt, hX, O⟩ := id C
  exact lv_icmp_lt hx hb (O.d h) hg (fun q => kt q G l p e Rm s m args below meth c H locs cells slots Q ls C P S L K) (fun q => kf q G l p e Rm s m args below meth c H locs cells slots Q ls C P S L K)
theorem r_if_ge {x : Int32} {off : Int} {tgt : Nat} (h : (mI μ) pc = (.ifCond .ge off, 3)) (hg : (pc : Int) + off = (tgt : Int)) (kt : 0 ≤ x → Wp E d μ tgt lv st M R) (kf : ¬ 0 ≤ x → Wp E d μ (pc + 3) lv st M R) : Wp E d μ pc lv (.int x :: st) M R := by
  intro G l p e Rm s m args below meth c H locs cells slots Q ls C P S L K
  obtain ⟨hx, hb, hml, ho, ht, hK, hrm, hw, hlt, hX, O⟩ := id C
  exact lv_if_ge hx hb (O.d h) hg (fun q => kt q G l p e Rm s m args below meth c H locs cells slots Q ls C P S L K) (fun q => kf q G l p e Rm s m args below meth c H locs cells slots Q ls C P S L K)
theorem r_icmp_ge {x y : Int32} {off : Int} {tgt : Nat} (h : (mI μ) pc = (.if_icmp .ge off, 3)) (hg : (pc : Int) + off = (tgt : Int)) (kt : y ≤ x → Wp E d μ tgt lv st M R) (kf : ¬ y ≤ x → Wp E d μ (pc + 3) lv st M R) : Wp E d μ pc lv (.int y :: .int x :: st) M R := by
  intro G l p e Rm s m args below meth c H locs cells slots Q ls C P S L K
  obtain ⟨hx, hb, hml, ho, ht, hK, hrm, hw, hlt, hX, O⟩ := id C
  exact lv_icmp_ge hx hb (O.d h) hg (fun q => kt q G l p e Rm s m args below meth c H locs cells slots Q ls C P S L K) (fun q => kf q G l p e Rm s m args below meth c H locs cells slots Q ls C P S L K)
theorem r_if_gt {x : Int32} {off : Int} {tgt : Nat} (h : (mI μ) pc = (.ifCond .gt off, 3)) (hg : (pc : Int) + off = (tgt : Int)) (kt : 0 < x → Wp E d μ tgt lv st M R) (kf : ¬ 0 < x → Wp E d μ (pc + 3) lv st M R) : Wp E d μ pc lv (.int x :: st) M R := by
  intro G l p e Rm s m args below meth c H locs cells slots Q ls C P S L K
  obtain ⟨hx, hb, hml, ho, ht, hK, hrm, hw, hlt, hX, O⟩ := id C
  exact lv_if_gt hx hb (O.d h) hg (fun q => kt q G l p e Rm s m args below meth c H locs cells slots Q ls C P S L K) (fun q => kf q G l p e Rm s m args below meth c H locs cells slots Q ls C P S L K)
theorem r_icmp_gt {x y : Int32} {off : Int} {tgt : Nat} (h : (mI μ) pc = (.if_icmp .gt off, 3)) (hg : (pc : Int) + off = (tgt : Int)) (kt : y < x → Wp E d μ tgt lv st M R) (kf : ¬ y < x → Wp E d μ (pc + 3) lv st M R) : Wp E d μ pc lv (.int y :: .int x :: st) M R := by
  intro G l p e Rm s m args below meth c H locs cells slots Q ls C P S L K
  obtain ⟨hx, hb, hml, ho, ht, hK, hrm, hw, hlt, hX, O⟩ := id C
  exact lv_icmp_gt hx hb (O.d h) hg (fun q => kt q G l p e Rm s m args below meth c H locs cells slots Q ls C P S L K) (fun q => kf q G l p e Rm s m args below meth c H locs cells slots Q ls C P S L K)
theorem r_if_le {x : Int32} {off : Int} {tgt : Nat} (h : (mI μ) pc = (.ifCond .le off, 3)) (hg : (pc : Int) + off = (tgt : Int)) (kt : x ≤ 0 → Wp E d μ tgt lv st M R) (kf : ¬ x ≤ 0 → Wp E d μ (pc + 3) lv st M R) : Wp E d μ pc lv (.int x :: st) M R := by
  intro G l p e Rm s m args below meth c H locs cells slots Q ls C P S L K
  obtain ⟨hx, hb, hml, ho, ht, hK, hrm, hw, hlt, hX, O⟩ := id C
  exact lv_if_le hx hb (O.d h) hg (fun q => kt q G l p e Rm s m args below meth c H locs cells slots Q ls C P S L K) (fun q => kf q G l p e Rm s m args below meth c H locs cells slots Q ls C P S L K)
theorem r_icmp_le {x y : Int32} {off : Int} {tgt : Nat} (h : (mI μ) pc = (.if_icmp .le off, 3)) (hg : (pc : Int) + off = (tgt : Int)) (kt : x ≤ y → Wp E d μ tgt lv st M R) (kf : ¬ x ≤ y → Wp E d μ (pc + 3) lv st M R) : Wp E d μ pc lv (.int y :: .int x :: st) M R := by
  intro G l p e Rm s m args below meth c H locs cells slots Q ls C P S L K
  obtain ⟨hx, hb, hml, ho, ht, hK, hrm, hw, hlt, hX, O⟩ := id C
  exact lv_icmp_le hx hb (O.d h) hg (fun q => kt q G l p e Rm s m args below meth c H locs cells slots Q ls C P S L K) (fun q => kf q G l p e Rm s m args below meth c H locs cells slots Q ls C P S L K)
theorem r_goto {off : Int} {tgt : Nat} (h : (mI μ) pc = (.goto off, 3)) (hg : (pc : Int) + off = (tgt : Int)) (k : Wp E d μ tgt lv st M R) : Wp E d μ pc lv st M R := by
  intro G l p e Rm s m args below meth c H locs cells slots Q ls C P S L K
  obtain ⟨hx, hb, hml, ho, ht, hK, hrm, hw, hlt, hX, O⟩ := id C
  exact lv_goto hx hb (O.d h) hg (k G l p e Rm s m args below meth c H locs cells slots Q ls C P S L K)
theorem r_tsOut {dflt lo hi : Int} {offs : Array Int} {n : Nat} {x : Int32} {tgt : Nat} (h : (mI μ) pc = (.tableswitch dflt lo hi offs, n + 1)) (hq : x.toInt < lo ∨ hi < x.toInt) (hg : (pc : Int) + dflt = (tgt : Int)) (k : Wp E d μ tgt lv st M R) : Wp E d μ pc lv (.int x :: st) M R := by
  intro G l p e Rm s m args below meth c H locs cells slots Q ls C P S L K
  obtain ⟨hx, hb, hml, ho, ht, hK, hrm, hw, hlt, hX, O⟩ := id C
  exact lv_tableOut hx hb (O.d h) hq hg (k G l p e Rm s m args below meth c H locs cells slots Q ls C P S L K)
theorem r_tsIn {dflt lo hi : Int} {offs : Array Int} {n : Nat} {x : Int32} {off : Int} {tgt : Nat} (h : (mI μ) pc = (.tableswitch dflt lo hi offs, n + 1)) (h1 : ¬ x.toInt < lo) (h2 : ¬ hi < x.toInt) (hq : offs[(x.toInt - lo).toNat]? = some off) (hg : (pc : Int) + off = (tgt : Int)) (k : Wp E d μ tgt lv st M R) : Wp E d μ pc lv (.int x :: st) M R := by
  intro G l p e Rm s m args below meth c H locs cells slots Q ls C P S L K
  obtain ⟨hx, hb, hml, ho, ht, hK, hrm, hw, hlt, hX, O⟩ := id C
  exact lv_tableIn hx hb (O.d h) h1 h2 hq hg (k G l p e Rm s m args below meth c H locs cells slots Q ls C P S L K)
theorem r_lk {dflt : Int} {ps : Array (Int × Int)} {n : Nat} {x : Int32} {off : Int} {tgt : Nat} (h : (mI μ) pc = (.lookupswitch dflt ps, n + 1)) (hp : (ps.toList.zip (ps.toList.drop 1)).all (fun (a, next) => a.1 < next.1) = true) (hq : Op.lookupswitch.offset ps.toList dflt x.toInt = off) (hg : (pc : Int) + off = (tgt : Int)) (k : Wp E d μ tgt lv st M R) : Wp E d μ pc lv (.int x :: st) M R := by
  intro G l p e Rm s m args below meth c H locs cells slots Q ls C P S L K
  obtain ⟨hx, hb, hml, ho, ht, hK, hrm, hw, hlt, hX, O⟩ := id C
  exact lv_lookup hx hb (O.d h) hp hq hg (k G l p e Rm s m args below meth c H locs cells slots Q ls C P S L K)
theorem r_iret {x : Int32} {t : FieldType} (h : (mI μ) pc = (.ireturn, 1)) (ht2 : mT μ = some t) (hn : narrow t (.int x) = .int x) (hR : R (some (.int x)) M) : Wp E d μ pc lv [.int x] M R := by
  intro G l p e Rm s m args below meth c H locs cells slots Q ls C P S L K
  obtain ⟨hx, hb, hml, ho, ht, hK, hrm, hw, hlt, hX, O⟩ := id C
  exact K (some (.int x)) M H locs pc ls hR (Or.inl ⟨x, t, rfl, h, ht2, hn⟩) P S
theorem r_lret {x : Int64} (h : (mI μ) pc = (.lreturn, 1)) (ht2 : mT μ = some .long) (hR : R (some (.long x)) M) : Wp E d μ pc lv [.long x] M R := by
  intro G l p e Rm s m args below meth c H locs cells slots Q ls C P S L K
  obtain ⟨hx, hb, hml, ho, ht, hK, hrm, hw, hlt, hX, O⟩ := id C
  exact K (some (.long x)) M H locs pc ls hR (Or.inr (Or.inl ⟨x, rfl, h, ht2⟩)) P S
theorem r_ret (h : (mI μ) pc = (.return_, 1)) (ht2 : mT μ = none) (hR : R none M) : Wp E d μ pc lv [] M R := by
  intro G l p e Rm s m args below meth c H locs cells slots Q ls C P S L K
  obtain ⟨hx, hb, hml, ho, ht, hK, hrm, hw, hlt, hX, O⟩ := id C
  exact K none M H locs pc ls hR (Or.inr (Or.inr ⟨rfl, h, ht2⟩)) P S
end RW
end
section
/-! ROWS of memory -/
theorem ent_1 {G : GE} {E : EN} {M : ME} {k n : Nat} (h : shp E k = (1, n)) : ent G E M k = .inl (G.2.2.2 1, n, .inl (M.1 k)) := by
  unfold ent; rw [h]; rfl
theorem ent_2 {G : GE} {E : EN} {M : ME} {k n : Nat} (h : shp E k = (2, n)) : ent G E M k = .inl (G.2.2.2 2, n, .inr (.inl (M.2.1 k))) := by
  unfold ent; rw [h]; rfl
theorem ent_3 {G : GE} {E : EN} {M : ME} {k n : Nat} (h : shp E k = (3, n)) : ent G E M k = .inl (G.2.2.2 3, n, .inr (.inr (.inr (.inr (fun j => rfG G.1 (gR M k j)))))) := by
  unfold ent; rw [h]; rfl
theorem ent_4 {G : GE} {E : EN} {M : ME} {k n : Nat} (h : shp E k = (4, n)) : ent G E M k = .inl (G.2.2.2 4, n, .inr (.inr (.inr (.inr (fun j => rfG G.1 (gR M k j)))))) := by
  unfold ent; rw [h]; rfl
theorem ent_5 {G : GE} {E : EN} {M : ME} {k n : Nat} (h : shp E k = (5, n)) : ent G E M k = .inl (G.2.2.2 5, n, .inr (.inr (.inr (.inr (fun j => if j < n then some (G.1 + (k + 1 + j)) else none))))) := by
  unfold ent; rw [h]; rfl
theorem ent_6 {G : GE} {E : EN} {M : ME} {k n : Nat} (h : shp E k = (6, n)) : ent G E M k = .inl (G.2.2.2 6, n, .inr (.inr (.inr (.inr (fun j => if j < n then some (G.1 + (k + 1 + j)) else none))))) := by
  unfold ent; rw [h]; rfl
theorem ent_o {G : GE} {E : EN} {M : ME} {k ci : Nat} (h : (shp E k).1 = ci + 10) (hc : ci < 20) : ent G E M k = .inr (ci, flds G.1 M false ci k) := by
  unfold ent
  rw [h]
  split
  all_goals first | omega | skip
  rw [if_pos (by omega), Nat.add_sub_cancel]
theorem ent_r {G : GE} {E : EN} {M : ME} {k ci : Nat} (h : (shp E k).1 = ci + 30) : ent G E M k = .inr (ci, flds G.1 M true ci k) := by
  unfold ent
  rw [h]
  split
  all_goals first | omega | skip
  rw [if_neg (by omega), Nat.add_sub_cancel]
theorem fv_congr {B : Nat} {M M' : ME} {raw : Bool} {ci k j : Nat} (h1 : gI M' k j = gI M k j) (h2 : gR M' k j = gR M k j) : fv B M' raw ci k j = fv B M raw ci k j := by
  unfold fv; rw [h1, h2]
theorem ent_congr {G : GE} {E : EN} {M M' : ME} {k : Nat} (h1 : M'.1 k = M.1 k) (h2 : M'.2.1 k = M.2.1 k) (h3 : M'.2.2 k = M.2.2 k) : ent G E M' k = ent G E M k := by
  have hf : ∀ (raw : Bool) (ci : Nat), flds G.1 M' raw ci k = flds G.1 M raw ci k := fun raw ci => by
    unfold flds
    exact List.map_congr_left (fun j _ => fv_congr (by show M'.1 k j = M.1 k j; rw [h1]) (by show M'.2.2 k j = M.2.2 k j; rw [h3]))
  have hg : (fun j => rfG G.1 (gR M' k j)) = (fun j => rfG G.1 (gR M k j)) := funext fun j => by show rfG _ (M'.2.2 k j) = rfG _ (M.2.2 k j); rw [h3]
  unfold ent
  rw [h1, h2, hg]
  split <;> first | rfl | (rw [hf, hf])
theorem Rp_sI {G : GE} {E : EN} {M : ME} {H1 : Heap} {k j : Nat} {v : Int32} {x : va_E} (hw : wfE E) (hk : (shp E k).1 ≠ 0) (hx : ent G E (sI M k j v) k = x) (h : va_P G.2.2.1 vwCl ((wsOf G E M).set (k - 1) (G.1 + k, x)) H1) : Rp G E (sI M k j v) H1 := by
  rw [ws_set (M' := sI M k j v) hw hk hx (fun i hi => ent_congr (M := M) (M' := sI M k j v) (up2_ne hi) rfl rfl)] at h
  exact h
theorem Rp_sL {G : GE} {E : EN} {M : ME} {H1 : Heap} {k j : Nat} {v : Int64} {x : va_E} (hw : wfE E) (hk : (shp E k).1 ≠ 0) (hx : ent G E (sL M k j v) k = x) (h : va_P G.2.2.1 vwCl ((wsOf G E M).set (k - 1) (G.1 + k, x)) H1) : Rp G E (sL M k j v) H1 := by
  rw [ws_set (M' := sL M k j v) hw hk hx (fun i hi => ent_congr (M := M) (M' := sL M k j v) rfl (up2_ne hi) rfl)] at h
  exact h
theorem Rp_sR {G : GE} {E : EN} {M : ME} {H1 : Heap} {k j : Nat} {v : Nat} {x : va_E} (hw : wfE E) (hk : (shp E k).1 ≠ 0) (hx : ent G E (sR M k j v) k = x) (h : va_P G.2.2.1 vwCl ((wsOf G E M).set (k - 1) (G.1 + k, x)) H1) : Rp G E (sR M k j v) H1 := by
  rw [ws_set (M' := sR M k j v) hw hk hx (fun i hi => ent_congr (M := M) (M' := sR M k j v) rfl rfl (up2_ne hi))] at h
  exact h
theorem flds_sI {B : Nat} {M : ME} {raw : Bool} {ci k j : Nat} {v : Int32} (hk : kdF ci j = 0) : (flds B M raw ci k).set j (.int v) = flds B (sI M k j v) raw ci k := by
  have h := rng_set (n := cFn ci) (fv B M raw ci k) (fv B (sI M k j v) raw ci k) (k := j) (fun i hi => fv_congr (by show (up2 M.1 k j v) k i = M.1 k i; rw [up2_eq]; exact if_neg hi) rfl)
  have hv : fv B (sI M k j v) raw ci k j = .int v := by
    unfold fv; rw [hk]
    show Value.int ((up2 M.1 k j v) k j) = _
    rw [up2_eq]; simp
  rw [hv] at h
  exact h
theorem flds_sR {B : Nat} {M : ME} {ci k j : Nat} {v : Nat} {raw : Bool} (hk : kdF ci j = 1 ∨ (raw = true ∧ kdF ci j ≠ 0)) (hv0 : v ≠ 0) : (flds B M raw ci k).set j (.ref (B + v)) = flds B (sR M k j v) raw ci k := by
  have h := rng_set (n := cFn ci) (fv B M raw ci k) (fv B (sR M k j v) raw ci k) (k := j) (fun i hi => fv_congr rfl (by show (up2 M.2.2 k j v) k i = M.2.2 k i; rw [up2_eq]; exact if_neg hi))
  have hr : va_rf (rfG B (gR (sR M k j v) k j)) = .ref (B + v) := by
    show va_rf (rfG B ((up2 M.2.2 k j v) k j)) = _
    rw [up2_eq]; simp [rfG, hv0, va_rf]
  have hv : fv B (sR M k j v) raw ci k j = .ref (B + v) := by
    unfold fv
    rcases hk with hk | ⟨hk, h0⟩
    · rw [hk]; exact hr
    · subst hk
      split
      · rename_i h1; exact absurd h1 h0
      · exact hr
      · rw [if_pos rfl]; exact hr
  rw [hv] at h
  exact h
/-- links of fields -/
def LkF (own : String) (idx ci j : Nat) : Prop := ∃ q : vw_C, vwCl[ci]? = some q ∧ j < q.2.2 ∧ Cond.fieldLink own idx (q.2.1 j).1 (q.2.1 j).2.1 (q.2.1 j).2.2.1 ∈ TB
def LkP (own : String) (idx ci j : Nat) (ty : FieldType) : Prop := ∃ q : vw_C, vwCl[ci]? = some q ∧ j < q.2.2 ∧ Cond.fieldLink own idx (q.2.1 j).1 (q.2.1 j).2.1 (q.2.1 j).2.2.1 ∈ TB ∧ (q.2.1 j).2.2.2 = false ∧ parseFieldDescriptor (q.2.1 j).2.2.1 = some ty
theorem cl_lt {ci : Nat} {q : vw_C} (h : vwCl[ci]? = some q) : ci < 20 := by
  have := (List.getElem?_eq_some_iff.mp h).1
  exact Nat.lt_of_lt_of_le this (by decide)
theorem cFn_of {ci : Nat} {q : vw_C} (h : vwCl[ci]? = some q) : cFn ci = q.2.2 := by unfold cFn; rw [h]
section RM
variable {E : EN} {d : Nat} {μ : MR} {pc : Nat} {lv st : List Value} {M : ME} {R : Option Value → ME → Prop}
theorem r_getI {a idx ci j : Nat} (h : (mI μ) pc = (.getfield idx, 3)) (f : LkF (mO μ) idx ci j) (hs : (shp E a).1 = ci + 10) (hk : kdF ci j = 0) (k : Wp E d μ (pc + 3) lv (.int (gI M a j) :: st) M R) : Wp E d μ pc lv (.ref a :: st) M R := by
  intro G l p e Rm s m args below meth c H locs cells slots Q ls C P S L K
  obtain ⟨hx, hb, hml, ho, ht, hK, hrm, hw, hlt, hX, O⟩ := id C
  obtain ⟨q, f1, f2, f3⟩ := f
  have c1 := cl_ok ci q f1
  have h1 := ws_at (G := G) (M := M) hw (k := a) (by rw [hs]; exact Nat.succ_ne_zero _)
  rw [ent_o hs (cl_lt f1)] at h1
  have h2 : (flds G.1 M false ci a)[j]? = some (fv G.1 M false ci a j) := rng_at _ (by rw [cFn_of f1]; exact f2)
  have h3 : fv G.1 M false ci a j = shV G (.int (gI M a j)) := by
    unfold fv; rw [hk]; rfl
  rw [h3] at h2
  exact va_get hx hb ht c1.1 ho hK P (a - 1) h1 f1 j f2 (ht _ f3) (fun _ h9 => h9) h2 (O.d h) (k G l p e Rm s m args below meth c H locs cells slots Q ls C P S L K)
theorem r_getR {a idx ci j : Nat} (h : (mI μ) pc = (.getfield idx, 3)) (f : LkF (mO μ) idx ci j) (hs : (shp E a).1 = ci + 10) (hk : kdF ci j = 1) (h0 : gR M a j ≠ 0) (k : Wp E d μ (pc + 3) lv (.ref (gR M a j) :: st) M R) : Wp E d μ pc lv (.ref a :: st) M R := by
  intro G l p e Rm s m args below meth c H locs cells slots Q ls C P S L K
  obtain ⟨hx, hb, hml, ho, ht, hK, hrm, hw, hlt, hX, O⟩ := id C
  obtain ⟨q, f1, f2, f3⟩ := f
  have c1 := cl_ok ci q f1
  have h1 := ws_at (G := G) (M := M) hw (k := a) (by rw [hs]; exact Nat.succ_ne_zero _)
  rw [ent_o hs (cl_lt f1)] at h1
  have h2 : (flds G.1 M false ci a)[j]? = some (fv G.1 M false ci a j) := rng_at _ (by rw [cFn_of f1]; exact f2)
  have h3 : fv G.1 M false ci a j = shV G (.ref (gR M a j)) := by
    unfold fv; rw [hk]; simp [rfG, h0, va_rf, shV]
  rw [h3] at h2
  exact va_get hx hb ht c1.1 ho hK P (a - 1) h1 f1 j f2 (ht _ f3) (fun _ h9 => h9) h2 (O.d h) (k G l p e Rm s m args below meth c H locs cells slots Q ls C P S L K)
theorem r_getF {a idx ci j o : Nat} (h : (mI μ) pc = (.getfield idx, 3)) (f : LkF (mO μ) idx ci j) (hs : (shp E a).1 = ci + 10) (hk : kdF ci j = o + 2) (k : Wp E d μ (pc + 3) lv (.ref (a + o) :: st) M R) : Wp E d μ pc lv (.ref a :: st) M R := by
  intro G l p e Rm s m args below meth c H locs cells slots Q ls C P S L K
  obtain ⟨hx, hb, hml, ho, ht, hK, hrm, hw, hlt, hX, O⟩ := id C
  obtain ⟨q, f1, f2, f3⟩ := f
  have c1 := cl_ok ci q f1
  have h1 := ws_at (G := G) (M := M) hw (k := a) (by rw [hs]; exact Nat.succ_ne_zero _)
  rw [ent_o hs (cl_lt f1)] at h1
  have h2 : (flds G.1 M false ci a)[j]? = some (fv G.1 M false ci a j) := rng_at _ (by rw [cFn_of f1]; exact f2)
  have h3 : fv G.1 M false ci a j = shV G (.ref (a + o)) := by
    unfold fv; rw [hk]; rfl
  rw [h3] at h2
  exact va_get hx hb ht c1.1 ho hK P (a - 1) h1 f1 j f2 (ht _ f3) (fun _ h9 => h9) h2 (O.d h) (k G l p e Rm s m args below meth c H locs cells slots Q ls C P S L K)
theorem r_putI {a idx ci j : Nat} {x : Int32} {ty : FieldType} (h : (mI μ) pc = (.putfield idx, 3)) (f : LkP (mO μ) idx ci j ty) (hs : (shp E a).1 = ci + 10) (hk : kdF ci j = 0) (hn : narrow ty (.int x) = .int x) (hf : fits ty (.int x) = true) (k : Wp E d μ (pc + 3) lv st (sI M a j x) R) : Wp E d μ pc lv (.int x :: .ref a :: st) M R := by
  intro G l p e Rm s m args below meth c H locs cells slots Q ls C P S L K
  obtain ⟨hx, hb, hml, ho, ht, hK, hrm, hw, hlt, hX, O⟩ := id C
  obtain ⟨q, f1, f2, f3, f4, f5⟩ := f
  have c1 := cl_ok ci q f1
  have h0 : (shp E a).1 ≠ 0 := by rw [hs]; exact Nat.succ_ne_zero _
  have h1 := ws_at (G := G) (M := M) hw (k := a) h0
  rw [ent_o hs (cl_lt f1)] at h1
  obtain ⟨ty0, hty⟩ := c1.2.2
  have hlen : j < (flds G.1 M false ci a).length := by unfold flds; rw [List.length_map, List.length_range, cFn_of f1]; exact f2
  refine va_put hx hb ht c1.1 ty0 hty c1.2.1 ho hK P ws_D S (a - 1) h1 f1 j f2 (ht _ f3) (fun _ h9 => h9) f4 f5 hn hf hlen (O.d h) (fun H1 locs1 P1 D1 S1 => ?_)
  rw [show shV G (Value.int x) = .int x from rfl, flds_sI hk] at P1
  exact k G l p e Rm s m args below meth c H1 locs1 cells slots Q ls C (Rp_sI hw h0 (ent_o hs (cl_lt f1)) P1) S1 L K
theorem r_putR {a idx ci j x : Nat} {ty : FieldType} (h : (mI μ) pc = (.putfield idx, 3)) (f : LkP (mO μ) idx ci j ty) (hs : (shp E a).1 = ci + 10) (hk : kdF ci j = 1) (hn : ∀ z : Nat, narrow ty (.ref z) = .ref z) (hf : ∀ z : Nat, fits ty (.ref z) = true) (hx0 : x ≠ 0) (k : Wp E d μ (pc + 3) lv st (sR M a j x) R) : Wp E d μ pc lv (.ref x :: .ref a :: st) M R := by
  intro G l p e Rm s m args below meth c H locs cells slots Q ls C P S L K
  obtain ⟨hx, hb, hml, ho, ht, hK, hrm, hw, hlt, hX, O⟩ := id C
  obtain ⟨q, f1, f2, f3, f4, f5⟩ := f
  have c1 := cl_ok ci q f1
  have h0 : (shp E a).1 ≠ 0 := by rw [hs]; exact Nat.succ_ne_zero _
  have h1 := ws_at (G := G) (M := M) hw (k := a) h0
  rw [ent_o hs (cl_lt f1)] at h1
  obtain ⟨ty0, hty⟩ := c1.2.2
  have hlen : j < (flds G.1 M false ci a).length := by unfold flds; rw [List.length_map, List.length_range, cFn_of f1]; exact f2
  refine va_put hx hb ht c1.1 ty0 hty c1.2.1 ho hK P ws_D S (a - 1) h1 f1 j f2 (ht _ f3) (fun _ h9 => h9) f4 f5 (hn _) (hf _) hlen (O.d h) (fun H1 locs1 P1 D1 S1 => ?_)
  rw [show shV G (Value.ref x) = .ref (G.1 + x) from rfl, flds_sR (Or.inl hk) hx0] at P1
  exact k G l p e Rm s m args below meth c H1 locs1 cells slots Q ls C (Rp_sR hw h0 (ent_o hs (cl_lt f1)) P1) S1 L K
theorem r_iald {a n : Nat} {i : Int32} (h : (mI μ) pc = (.iaload, 1)) (hs : shp E a = (1, n)) (hi : vp_in i n) (k : Wp E d μ (pc + 1) lv (.int (gI M a i.toNatClampNeg) :: st) M R) : Wp E d μ pc lv (.int i :: .ref a :: st) M R := by
  intro G l p e Rm s m args below meth c H locs cells slots Q ls C P S L K
  obtain ⟨hx, hb, hml, ho, ht, hK, hrm, hw, hlt, hX, O⟩ := id C
  have h1 := ws_at (G := G) (M := M) hw (k := a) (by rw [hs]; exact Nat.succ_ne_zero _)
  rw [ent_1 hs] at h1
  exact va_iald hx hb hK P (a - 1) 0 h1 rfl hi (O.d h) (k G l p e Rm s m args below meth c H locs cells slots Q ls C P S L K)
theorem r_lald {a n : Nat} {i : Int32} (h : (mI μ) pc = (.laload, 1)) (hs : shp E a = (2, n)) (hi : vp_in i n) (k : Wp E d μ (pc + 1) lv (.long (gL M a i.toNatClampNeg) :: st) M R) : Wp E d μ pc lv (.int i :: .ref a :: st) M R := by
  intro G l p e Rm s m args below meth c H locs cells slots Q ls C P S L K
  obtain ⟨hx, hb, hml, ho, ht, hK, hrm, hw, hlt, hX, O⟩ := id C
  have h1 := ws_at (G := G) (M := M) hw (k := a) (by rw [hs]; exact Nat.succ_ne_zero _)
  rw [ent_2 hs] at h1
  exact va_lald hx hb hK P (a - 1) 1 h1 rfl hi (O.d h) (k G l p e Rm s m args below meth c H locs cells slots Q ls C P S L K)
theorem r_iast {a n : Nat} {i : Int32} {x : Int32} (h : (mI μ) pc = (.iastore, 1)) (hs : shp E a = (1, n)) (hi : vp_in i n) (k : Wp E d μ (pc + 1) lv st (sI M a i.toNatClampNeg x) R) : Wp E d μ pc lv (.int x :: .int i :: .ref a :: st) M R := by
  intro G l p e Rm s m args below meth c H locs cells slots Q ls C P S L K
  obtain ⟨hx, hb, hml, ho, ht, hK, hrm, hw, hlt, hX, O⟩ := id C
  have h0 : (shp E a).1 ≠ 0 := by rw [hs]; exact Nat.succ_ne_zero _
  have h1 := ws_at (G := G) (M := M) hw (k := a) h0
  rw [ent_1 hs] at h1
  refine va_iast hx hb hK P ws_D S (a - 1) 0 h1 rfl hi (O.d h) (fun H1 locs1 P1 D1 S1 => ?_)
  refine k G l p e Rm s m args below meth c H1 locs1 cells slots Q ls C (Rp_sI hw h0 ?_ P1) S1 L K
  rw [ent_1 hs]
  congr 4
  show up2 _ a _ x a = _
  rw [up2_eq]
  rfl
theorem r_last {a n : Nat} {i : Int32} {x : Int64} (h : (mI μ) pc = (.lastore, 1)) (hs : shp E a = (2, n)) (hi : vp_in i n) (k : Wp E d μ (pc + 1) lv st (sL M a i.toNatClampNeg x) R) : Wp E d μ pc lv (.long x :: .int i :: .ref a :: st) M R := by
  intro G l p e Rm s m args below meth c H locs cells slots Q ls C P S L K
  obtain ⟨hx, hb, hml, ho, ht, hK, hrm, hw, hlt, hX, O⟩ := id C
  have h0 : (shp E a).1 ≠ 0 := by rw [hs]; exact Nat.succ_ne_zero _
  have h1 := ws_at (G := G) (M := M) hw (k := a) h0
  rw [ent_2 hs] at h1
  refine va_last hx hb hK P ws_D S (a - 1) 1 h1 rfl hi (O.d h) (fun H1 locs1 P1 D1 S1 => ?_)
  refine k G l p e Rm s m args below meth c H1 locs1 cells slots Q ls C (Rp_sL hw h0 ?_ P1) S1 L K
  rw [ent_2 hs]
  congr 5
  show up2 _ a _ x a = _
  rw [up2_eq]
  rfl
theorem r_aald3 {a n : Nat} {i : Int32} (h : (mI μ) pc = (.aaload, 1)) (hs : shp E a = (3, n)) (hi : vp_in i n) (h0 : gR M a i.toNatClampNeg ≠ 0) (k : Wp E d μ (pc + 1) lv (.ref (gR M a i.toNatClampNeg) :: st) M R) : Wp E d μ pc lv (.int i :: .ref a :: st) M R := by
  intro G l p e Rm s m args below meth c H locs cells slots Q ls C P S L K
  obtain ⟨hx, hb, hml, ho, ht, hK, hrm, hw, hlt, hX, O⟩ := id C
  have h1 := ws_at (G := G) (M := M) hw (k := a) (by rw [hs]; exact Nat.succ_ne_zero _)
  rw [ent_3 hs] at h1
  have k1 := k G l p e Rm s m args below meth c H locs cells slots Q ls C P S L K
  have e1 : va_rf (rfG G.1 (gR M a i.toNatClampNeg)) = shV G (.ref (gR M a i.toNatClampNeg)) := by simp [rfG, h0, va_rf, shV]
  refine va_aldq hx hb hK P (a - 1) 2 h1 rfl hi (O.d h) ?_
  show W p l e Rm s m args below meth c H locs cells slots Q (F0 m (pc + 1) ls (va_rf (rfG G.1 (gR M a i.toNatClampNeg)) :: _))
  rw [e1]
  exact k1
theorem r_aald4 {a n : Nat} {i : Int32} (h : (mI μ) pc = (.aaload, 1)) (hs : shp E a = (4, n)) (hi : vp_in i n) (h0 : gR M a i.toNatClampNeg ≠ 0) (k : Wp E d μ (pc + 1) lv (.ref (gR M a i.toNatClampNeg) :: st) M R) : Wp E d μ pc lv (.int i :: .ref a :: st) M R := by
  intro G l p e Rm s m args below meth c H locs cells slots Q ls C P S L K
  obtain ⟨hx, hb, hml, ho, ht, hK, hrm, hw, hlt, hX, O⟩ := id C
  have h1 := ws_at (G := G) (M := M) hw (k := a) (by rw [hs]; exact Nat.succ_ne_zero _)
  rw [ent_4 hs] at h1
  have k1 := k G l p e Rm s m args below meth c H locs cells slots Q ls C P S L K
  have e1 : va_rf (rfG G.1 (gR M a i.toNatClampNeg)) = shV G (.ref (gR M a i.toNatClampNeg)) := by simp [rfG, h0, va_rf, shV]
  refine va_aldq hx hb hK P (a - 1) 3 h1 rfl hi (O.d h) ?_
  show W p l e Rm s m args below meth c H locs cells slots Q (F0 m (pc + 1) ls (va_rf (rfG G.1 (gR M a i.toNatClampNeg)) :: _))
  rw [e1]
  exact k1
theorem r_aald5 {a n : Nat} {i : Int32} (h : (mI μ) pc = (.aaload, 1)) (hs : shp E a = (5, n)) (hi : vp_in i n) (k : Wp E d μ (pc + 1) lv (.ref (a + 1 + i.toNatClampNeg) :: st) M R) : Wp E d μ pc lv (.int i :: .ref a :: st) M R := by
  intro G l p e Rm s m args below meth c H locs cells slots Q ls C P S L K
  obtain ⟨hx, hb, hml, ho, ht, hK, hrm, hw, hlt, hX, O⟩ := id C
  have h1 := ws_at (G := G) (M := M) hw (k := a) (by rw [hs]; exact Nat.succ_ne_zero _)
  rw [ent_5 hs] at h1
  have hlt2 : i.toNatClampNeg < n := Nat.not_le.mp fun q => hi (Or.inr q)
  have k1 := k G l p e Rm s m args below meth c H locs cells slots Q ls C P S L K
  refine W.aald (v := shV G (.ref (a + 1 + i.toNatClampNeg))) (ty := .array .int) hx hb (P (a - 1) _ h1) ((hK.2 4 _ rfl).1 n (fun j => va_rf (if j < n then some (G.1 + (a + 1 + j)) else none))) rfl (fun q => by cases q) (by show ¬ (i < 0 ∨ (arrV _ _ _).slots.size ≤ _); rw [arrV_size]; exact hi) (by
    show (arrV _ _ _).slots[_]? = _
    rw [arrV_read _ _ hlt2]
    simp [hlt2, va_rf, shV]) rfl rfl (O.d h) k1
theorem r_aald6 {a n : Nat} {i : Int32} (h : (mI μ) pc = (.aaload, 1)) (hs : shp E a = (6, n)) (hi : vp_in i n) (k : Wp E d μ (pc + 1) lv (.ref (a + 1 + i.toNatClampNeg) :: st) M R) : Wp E d μ pc lv (.int i :: .ref a :: st) M R := by
  intro G l p e Rm s m args below meth c H locs cells slots Q ls C P S L K
  obtain ⟨hx, hb, hml, ho, ht, hK, hrm, hw, hlt, hX, O⟩ := id C
  have h1 := ws_at (G := G) (M := M) hw (k := a) (by rw [hs]; exact Nat.succ_ne_zero _)
  rw [ent_6 hs] at h1
  have hlt2 : i.toNatClampNeg < n := Nat.not_le.mp fun q => hi (Or.inr q)
  have k1 := k G l p e Rm s m args below meth c H locs cells slots Q ls C P S L K
  refine W.aald (v := shV G (.ref (a + 1 + i.toNatClampNeg))) (ty := .array .long) hx hb (P (a - 1) _ h1) ((hK.2 5 _ rfl).1 n (fun j => va_rf (if j < n then some (G.1 + (a + 1 + j)) else none))) rfl (fun q => by cases q) (by show ¬ (i < 0 ∨ (arrV _ _ _).slots.size ≤ _); rw [arrV_size]; exact hi) (by
    show (arrV _ _ _).slots[_]? = _
    rw [arrV_read _ _ hlt2]
    simp [hlt2, va_rf, shV]) rfl rfl (O.d h) k1
theorem r_aast4 {a n x : Nat} {i : Int32} (h : (mI μ) pc = (.aastore, 1)) (hs : shp E a = (4, n)) (hi : vp_in i n) (hv : (shp E x).1 = 14) (k : Wp E d μ (pc + 1) lv st (sR M a i.toNatClampNeg x) R) : Wp E d μ pc lv (.ref x :: .int i :: .ref a :: st) M R := by
  intro G l p e Rm s m args below meth c H locs cells slots Q ls C P S L K
  obtain ⟨hx, hb, hml, ho, ht, hK, hrm, hw, hlt, hX, O⟩ := id C
  have h0 : (shp E a).1 ≠ 0 := by rw [hs]; exact Nat.succ_ne_zero _
  have h1 := ws_at (G := G) (M := M) hw (k := a) h0
  rw [ent_4 hs] at h1
  have h0x : (shp E x).1 ≠ 0 := by rw [hv]; exact Nat.succ_ne_zero _
  have h2 := ws_at (G := G) (M := M) hw (k := x) h0x
  rw [ent_o (ci := 4) hv (by decide)] at h2
  have hx0 : x ≠ 0 := Nat.pos_iff_ne_zero.mp (hw x h0x).1
  refine va_astq hx hb hK P ws_D S (a - 1) 3 (x - 1) 4 (r := (RX4, TX4, 10)) h1 rfl h2 rfl hi (O.d h) (fun H1 locs1 P1 D1 S1 => ?_)
  refine k G l p e Rm s m args below meth c H1 locs1 cells slots Q ls C (Rp_sR hw h0 ?_ P1) S1 L K
  rw [ent_4 hs]
  congr 7
  funext z
  show rfG G.1 (up2 _ a _ x a z) = va_up _ _ _ z
  rw [up2_eq]
  by_cases hz : z = i.toNatClampNeg
  · simp [va_up, hz, rfG, hx0]
  · simp [va_up, hz]
theorem r_alen {a n : Nat} {v : Int32} (h : (mI μ) pc = (.arraylength, 1)) (hs : shp E a = (1, n)) (hv : Int32.ofNat n = v) (k : Wp E d μ (pc + 1) lv (.int v :: st) M R) : Wp E d μ pc lv (.ref a :: st) M R := by
  intro G l p e Rm s m args below meth c H locs cells slots Q ls C P S L K
  obtain ⟨hx, hb, hml, ho, ht, hK, hrm, hw, hlt, hX, O⟩ := id C
  have h1 := ws_at (G := G) (M := M) hw (k := a) (by rw [hs]; exact Nat.succ_ne_zero _)
  rw [ent_1 hs] at h1
  exact va_alen hx hb hK P (a - 1) 0 h1 rfl hv (O.d h) (k G l p e Rm s m args below meth c H locs cells slots Q ls C P S L K)
theorem r_sld {z : Nat} {i : Int32} (h : (mI μ) pc = (.iaload, 1)) (hi : vp_in i E.2.2.1) (k : Wp E d μ (pc + 1) lv (.int (E.2.2.2 i.toNatClampNeg) :: st) M R) : Wp E d μ pc lv (.int i :: .retAddr z :: st) M R := by
  intro G l p e Rm s m args below meth c H locs cells slots Q ls C P S L K
  obtain ⟨hx, hb, hml, ho, ht, hK, hrm, hw, hlt, hX, O⟩ := id C
  exact va_sld hx hb hX.1 (Nat.lt_of_le_of_lt hX.2 hlt) (Nat.not_lt.mpr hX.2) S hi (O.d h) (k G l p e Rm s m args below meth c H locs cells slots Q ls C P S L K)
theorem r_slen {z : Nat} (h : (mI μ) pc = (.arraylength, 1)) (k : Wp E d μ (pc + 1) lv (.int (nI E.2.2.1) :: st) M R) : Wp E d μ pc lv (.retAddr z :: st) M R := by
  intro G l p e Rm s m args below meth c H locs cells slots Q ls C P S L K
  obtain ⟨hx, hb, hml, ho, ht, hK, hrm, hw, hlt, hX, O⟩ := id C
  exact va_slen hx hb hX.1 (Nat.lt_of_le_of_lt hX.2 hlt) (Nat.not_lt.mpr hX.2) S (O.d h) (k G l p e Rm s m args below meth c H locs cells slots Q ls C P S L K)
end RM
end
section
/-! CALLS. A method's contract over the world, and a call by it -/
def PcE (G : GE) (E : EN) (as : List Value) (M : ME) : Array Value → State → Prop := va_Pc (as.map (shV G)) (fun U => Rp G E M U.heap ∧ va_K G.2.2.1 vwCl (tysG G) U ∧ wfE E ∧ G.1 < U.heap.size ∧ va_X G.2.1 E.2.2.1 E.2.2.2 U U.heap ∧ G.2.1 ≤ G.1)
def QcE (G : GE) (E : EN) (R : Option Value → ME → Prop) : Array Value → State → Outcome → State → Prop := fun _ st o t => ∃ (v : Option Value) (M' : ME), o = .returned (v.map (shV G)) ∧ R v M' ∧ Rp G E M' t.heap ∧ va_F (fun q => G.1 < q) st t
def wsM (μ : MR) : List Cond := Cond.code (mY μ) (mB μ) (mX μ) (mT μ) :: TB
def Ev (E : EN) (d : Nat) (μ : MR) (as : List Value) (M : ME) (R : Option Value → ME → Prop) : Prop := ∀ (l : Launch) (G : GE), Met l (mY μ) (wsM μ) (rmD d) (PcE G E as M) (QcE G E R) 0 0 (fun q => G.1 < q)
def enL : List Value → List Value
  | [] => []
  | v :: vs => if v.category = 2 then v :: .null :: enL vs else v :: enL vs
def lvE (n : Nat) (as : List Value) : List Value := enL as ++ List.replicate (n - (enL as).length) .null
theorem enL_sl (as : List Value) : (enL as).length = (lg_sl as).length := by
  induction as with
  | nil => rfl
  | cons v vs ih =>
    show (if v.category = 2 then v :: .null :: enL vs else v :: enL vs).length = ((if v.category = 2 then [Slot.val v, .second] else [.val v]) ++ lg_sl vs).length
    by_cases h : v.category = 2
    · rw [if_pos h, if_pos h]; simp [ih]
    · rw [if_neg h, if_neg h]; simp [ih]
theorem enL_map (G : GE) (as : List Value) : (enL as).map (shV G) = enL (as.map (shV G)) := by
  induction as with
  | nil => rfl
  | cons v vs ih =>
    show (if v.category = 2 then v :: .null :: enL vs else v :: enL vs).map (shV G) = if (shV G v).category = 2 then shV G v :: .null :: enL (vs.map (shV G)) else shV G v :: enL (vs.map (shV G))
    rw [shV_cat]
    by_cases h : v.category = 2
    · rw [if_pos h, if_pos h]; simp [ih]; rfl
    · rw [if_neg h, if_neg h]; simp [ih]
theorem enL_args (as : List Value) : ∀ (o i : Nat) (v : Value), (enL as)[i]? = some v → v ≠ .null → (o + i, v) ∈ lv_args o as := by
  induction as with
  | nil => intro o i v h; simp [enL] at h
  | cons w vs ih =>
    intro o i v h hv
    have hd : (if w.category = 2 then w :: .null :: enL vs else w :: enL vs)[i]? = some v := h
    show (o + i, v) ∈ (o, w) :: lv_args (if w.category = 2 then o + 2 else o + 1) vs
    by_cases hc : w.category = 2
    · rw [if_pos hc] at hd ⊢
      match i, hd with
      | 0, hd => simp at hd; subst hd; exact List.mem_cons_self
      | 1, hd => simp at hd; exact absurd hd.symm hv
      | i + 2, hd =>
        simp at hd
        have := ih (o + 2) i v hd hv
        rw [show o + (i + 2) = o + 2 + i by omega]
        exact List.mem_cons_of_mem _ this
    · rw [if_neg hc] at hd ⊢
      match i, hd with
      | 0, hd => simp at hd; subst hd; exact List.mem_cons_self
      | i + 1, hd =>
        simp at hd
        have := ih (o + 1) i v hd hv
        rw [show o + (i + 1) = o + 1 + i by omega]
        exact List.mem_cons_of_mem _ this
theorem lvE_has {G : GE} {n : Nat} {as : List Value} (h : (enL as).length ≤ n) : hsL ((lg_sl (as.map (shV G)) ++ List.replicate (n - (lg_sl (as.map (shV G))).length) Slot.unset).toArray) n ((lvE n as).map (shV G)) := by
  have h1 := lv_entry (as.map (shV G)) (n := n) (by rw [← enL_sl, ← enL_map, List.length_map]; exact h)
  refine ⟨h1.1, h1.2.1, fun i v hi hv => ?_⟩
  unfold lvE at hi
  rw [List.map_append, enL_map, List.map_replicate] at hi
  by_cases hl : i < (enL (as.map (shV G))).length
  · rw [List.getElem?_append_left hl] at hi
    have := enL_args _ 0 i v hi hv
    rw [Nat.zero_add] at this
    exact h1.2.2 _ this
  · rw [List.getElem?_append_right (by omega)] at hi
    have := List.mem_of_getElem? hi
    rw [List.mem_replicate] at this
    exact absurd this.2 hv
/-- what must hold of a method apart from its instructions -/
def MCK (μ : MR) : Prop := MOK μ ∧ plainName (mY μ).cls = true ∧ (mY μ).cls = mO μ
theorem Ev_of {E : EN} {d : Nat} {μ : MR} {as lv : List Value} {M : ME} {R : Option Value → ME → Prop} (Z : MCK μ) (hl : lvE (mX μ) as = lv) (hn : (enL as).length ≤ mX μ) (h : Wp E d μ 0 lv [] M R) : Ev E d μ as M R := by
  obtain ⟨O, hy, ho⟩ := Z
  intro l G
  refine Met.ofW (cc := mB μ) (maxL := mX μ) (ret := mT μ) hy rfl ?_
  intro p e s m args below meth c s₁ B hml hv
  obtain ⟨rfl, hP, hK, hw, hlt, hX, hb⟩ := hv
  have hts : ∀ w ∈ wsM μ, w.before _ s = true := atoms_spec (ws := wsM μ) B.pre
  have hown : s.vm.findClass (mO μ) = some m.cls := by rw [← ho]; exact findClass_of_methodNamed B.named
  have hlocks := B.notSynchronized
  rw [lg_entry_eq]
  refine h G l p e _ s m _ below meth c s.heap [] 0 0 _ _ ⟨B.exec, B.bytes, hml, hown, fun w hw => hts w (List.mem_cons_of_mem _ hw), hK, ⟨Nat.le_refl _, Nat.le_refl _, Nat.zero_le _, Nat.zero_le _⟩, hw, hlt, ⟨hX, hb⟩, O⟩ hP va_S.rf (by rw [← hl]; exact lvE_has hn) ?_
  intro v M' H' locs' pc' ls' hR hro hP' hS'
  have hr := B.returns
  rcases hro with ⟨x, t, rfl, hi, ht, hnr⟩ | ⟨x, rfl, hi, ht⟩ | ⟨rfl, hi, ht⟩
  · exact W.zret (ty := t) B.exec B.bytes (by rw [hr, ht]) hnr (fun T hT hW => ⟨some (.int x), M', rfl, hR, by rw [hT]; exact hP', hS'.F hT⟩) hS'.2.2 (O.d hi)
  · exact W.lret B.exec B.bytes (by rw [hr, ht]) (fun T hT hW => ⟨some (.long x), M', rfl, hR, by rw [hT]; exact hP', hS'.F hT⟩) hS'.2.2 (O.d hi)
  · exact W.vret B.exec B.bytes (by rw [hr, ht]) (fun T hT hW => ⟨none, M', rfl, hR, by rw [hT]; exact hP', hS'.F hT⟩) hS'.2.2 (O.d hi)
theorem Ev_post {E : EN} {d : Nat} {μ : MR} {as : List Value} {M : ME} {R R' : Option Value → ME → Prop} (h : Ev E d μ as M R) (hr : ∀ v M', R v M' → R' v M') : Ev E d μ as M R' := by
  intro l G
  intro p e h1 h2 h3 s m args below h4 h5 h6 h7
  have h8 := h l G p e h1 h2 h3 s m args below h4 h5 h6 h7
  obtain ⟨k, o, q1, q2, q3, ⟨⟨v, M', g1, g2, g3, g4⟩, g5⟩⟩ := h8
  exact ⟨k, o, q1, q2, q3, ⟨⟨v, M', g1, hr _ _ g2, g3, g4⟩, g5⟩⟩
/-- links of methods -/
def LkC (own : String) (idx : Nat) (μ : MR) (n : Nat) : Prop := Cond.methodLink own idx (mY μ) ∈ TB ∧ Cond.code (mY μ) (mB μ) (mX μ) (mT μ) ∈ TB ∧ Cond.initialized (mY μ).cls ∈ TB ∧ ((mY μ).cls ≠ "java/lang/invoke/MethodHandle" ∧ (mY μ).cls ≠ "java/lang/invoke/VarHandle" ∧ (parseMethodDescriptor (mY μ).desc).map (fun d => d.parameters.length) = some n) ∧ mX μ ≤ 45
def LkV (own : String) (idx ci : Nat) (μ : MR) (n : Nat) : Prop := LkC own idx μ n ∧ Cond.instanceMethod (mY μ) ∈ TB ∧ Cond.selects (mY μ).cls (mY μ) (mY μ) ∈ TB ∧ ∃ q : vw_C, vwCl[ci]? = some q ∧ q.1 = (mY μ).cls
def LkS (own : String) (idx : Nat) (μ : MR) (n : Nat) : Prop := LkC own idx μ n ∧ Cond.static (mY μ) ∈ TB
theorem LkC_B {own : String} {idx d n : Nat} {μ : MR} {R : Room} {s : State} {args : Array Value} (h : LkC own idx μ n) (ht : ∀ w ∈ TB, w.before args s = true) (hR : d + 1 ≤ R.frames ∧ 64 * (d + 1) ≤ R.locals) : CallB R s args own idx (mY μ) (mB μ) (mX μ) (mT μ) (wsM μ) (rmD d) 0 0 n := by
  obtain ⟨h1, h2, h3, h4, h5⟩ := h
  have hG : GoodIn TB (wsM μ) := fun w hw => by
    rcases List.mem_cons.mp hw with rfl | hw
    · exact tb_good (fun _ h => h) _ h2
    · exact tb_good (fun _ h => h) _ hw
  exact callB_of n ht hG rfl rfl rfl (ht _ h3) (ht _ h1) h4 ⟨hR.1, by
    have : (rmD d).locals = 64 * d := rfl
    rw [this]
    have := hR.2
    omega⟩
section RC
variable {E : EN} {d : Nat} {μ μ' : MR} {pc : Nat} {lv st stk as : List Value} {M : ME} {R R' : Option Value → ME → Prop}
theorem PcE_blind {G : GE} : FrameBlind (PcE G E as M) := by
  intro a U g mk q
  obtain ⟨q0, q1, q2, q3, q4, q5, q6⟩ := q
  exact ⟨q0, q1, va_K.moved (u := U) (U := U.calling g mk a) (Vm.Alike.refl U.vm) q2, q3, q4, va_X.moved (u := U) (U := U.calling g mk a) (Vm.Alike.refl U.vm) q5, q6⟩
theorem PcE_in {G : GE} {p : Program} {Rm : Room} {s : State} {m : MethodId} {args : Array Value} {c : Code} {cells slots : Nat} {H : Heap} {locs : List Loc} (C : Cx G E d μ p Rm s m args c cells slots) (P : Rp G E M H) (S : va_S (fun q => G.1 < q) s.heap H locs) : ∀ U : State, U.heap = H → s.WarmedH U.vm → PcE G E as M (as.map (shV G)).toArray U := by
  obtain ⟨hx, hb, hml, ho, ht, hK, hrm, hw, hlt, hX, O⟩ := C
  intro U hU hW
  refine ⟨rfl, by rw [hU]; exact P, va_K.moved hW.alike hK, hw, by rw [hU]; exact Nat.lt_of_lt_of_le hlt S.1, ?_, hX.2⟩
  rw [hU]
  exact va_X.moved hW.alike (hX.1.kept (S.2.1 _ (Nat.lt_of_le_of_lt hX.2 hlt) (Nat.not_lt.mpr hX.2)))
theorem run_W {G : GE} {l : Launch} {p : Program} {e : Env} {Rm : Room} {s : State} {m : MethodId} {args : Array Value} {below : List Frame} {meth : Method} {c : Code} {H : Heap} {locs : List Loc} {cells slots : Nat} {Q : State → Prop} {ls : Array Slot} {av : Array Value} (S : va_S (fun q => G.1 < q) s.heap H locs) (hr : va_Run p l e Rm s m args below meth c H locs cells slots 0 0 (F0 m pc ls (stk.map (shV G))) (st.map (shV G)) (QcE G E R' av) (fun q => G.1 < q))
    (kk : ∀ (v : Option Value) (M' : ME) (H1 : Heap) (locs1 : List Loc), R' v M' → Rp G E M' H1 → va_S (fun q => G.1 < q) s.heap H1 locs1 → W p l e Rm s m args below meth c H1 locs1 cells slots Q (F0 m (pc + 3) ls ((v.toList ++ st).map (shV G)))) : W p l e Rm s m args below meth c H locs cells slots Q (F0 m pc ls (stk.map (shV G))) := by
  intro T hT X
  obtain ⟨v, st₀, t, T', L, h0, X', hL, e1, e2, ⟨v', M', hv, hR, hP, hz, hk⟩, hgo⟩ := hr T hT X
  cases hv
  rw [h0] at hz hk
  obtain ⟨t2, a1, b1⟩ := kk v' M' T'.heap (locs ++ L) hR (by rw [e1]; exact hP) ⟨Nat.le_trans S.1 (by rw [e1]; exact hz), fun q h1 h2 => by rw [e1, hk q (Nat.lt_of_lt_of_le h1 S.1) h2]; exact S.2.1 q h1 h2, fun q hq => by
      rcases List.mem_append.mp hq with h | h
      · exact S.2.2 q h
      · exact hL q h⟩ T' rfl X'
  refine ⟨t2, hgo t2 ?_, b1⟩
  have e3 : (Option.map (shV G) v').toList ++ st.map (shV G) = (v'.toList ++ st).map (shV G) := by
    cases v' <;> simp
  show Steps p.tables e below (T'.setTop (F0 m (pc + 3) ls ((Option.map (shV G) v').toList ++ st.map (shV G)))) t2
  rw [e3]
  exact a1
theorem cat_map (G : GE) (st : List Value) : ((st.map (shV G)).map fun v => v.category) = st.map fun v => v.category := by
  rw [List.map_map]; exact List.map_congr_left (fun v _ => shV_cat G v)
theorem r_cV {a idx ci n : Nat} (h : (mI μ) pc = (.invokevirtual idx, 3)) (lk : LkV (mO μ) idx ci μ' n) (hn : as.length = n) (hst : as.reverse ++ .ref a :: st = stk) (hs : (shp E a).1 = ci + 10) (hcat : (st.map fun v => v.category).sum ≤ 8) (ev : Ev E d μ' (.ref a :: as) M R') (k : ∀ v M', R' v M' → Wp E (d + 1) μ (pc + 3) lv (v.toList ++ st) M' R) : Wp E (d + 1) μ pc lv stk M R := by
  intro G l p e Rm s m args below meth c H locs cells slots Q ls C P S L K
  obtain ⟨hx, hb, hml, ho, ht, hK, hrm, hw, hlt, hX, O⟩ := id C
  obtain ⟨l1, l2, l3, q, l4, l5⟩ := lk
  have hCB := LkC_B (d := d) (R := Rm) l1 ht ⟨hrm.1, hrm.2.1⟩
  have h1 := ws_at (G := G) (M := M) hw (k := a) (by rw [hs]; exact Nat.succ_ne_zero _)
  rw [ent_o hs (cl_lt l4)] at h1
  have hrc := va_recv hK P l4 h1
  rw [l5] at hrc
  refine run_W (st := st) (R' := R') S (va_runV (As := as.map (shV G)) (b := G.1 + a) (Ts := TB) (own := mO μ) (C := (mY μ').cls) (nL := mX μ) (index := idx) ⟨hx, hb, hml, ho, ht⟩ (ev l G) ⟨hCB, ht _ l2, ht _ l3⟩ ⟨PcE_blind, hrc, PcE_in (as := .ref a :: as) C P S⟩ rfl (by rw [List.length_map]; exact hn) L.1 ?_ (lv_room (by rw [cat_map]; exact hcat)) (O.d h) ⟨hrm.2.2.1, hrm.2.2.2⟩) (fun v M' H1 locs1 hR hP' hS' => k v M' hR G l p e Rm s m args below meth c H1 locs1 cells slots Q ls C hP' hS' L K)
  show stk.map (shV G) = _
  rw [← hst, List.map_append, List.map_reverse]
  rfl
theorem r_cS {idx n : Nat} (h : (mI μ) pc = (.invokestatic idx, 3)) (lk : LkS (mO μ) idx μ' n) (hn : as.length = n) (hst : as.reverse ++ st = stk) (hcat : (st.map fun v => v.category).sum ≤ 8) (ev : Ev E d μ' as M R') (k : ∀ v M', R' v M' → Wp E (d + 1) μ (pc + 3) lv (v.toList ++ st) M' R) : Wp E (d + 1) μ pc lv stk M R := by
  intro G l p e Rm s m args below meth c H locs cells slots Q ls C P S L K
  obtain ⟨hx, hb, hml, ho, ht, hK, hrm, hw, hlt, hX, O⟩ := id C
  obtain ⟨l1, l2⟩ := lk
  have hCB := LkC_B (d := d) (R := Rm) l1 ht ⟨hrm.1, hrm.2.1⟩
  refine run_W (st := st) (R' := R') S (va_runS (As := as.map (shV G)) (Ts := TB) (own := mO μ) (nL := mX μ) (index := idx) ⟨hx, hb, hml, ho, ht⟩ (ev l G) ⟨hCB, ht _ l2⟩ ⟨PcE_blind, PcE_in (as := as) C P S⟩ rfl (by rw [List.length_map]; exact hn) L.1 ?_ (lv_room (by rw [cat_map]; exact hcat)) (O.d h) ⟨hrm.2.2.1, hrm.2.2.2⟩) (fun v M' H1 locs1 hR hP' hS' => k v M' hR G l p e Rm s m args below meth c H1 locs1 cells slots Q ls C hP' hS' L K)
  show stk.map (shV G) = _
  rw [← hst, List.map_append, List.map_reverse]
end RC
end
