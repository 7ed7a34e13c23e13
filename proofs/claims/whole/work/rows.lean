section
-- ===== PART A: goes FIRST, ahead of the names: the tables' words, and 'selects' of the private methods out of them =====
/-- a private method of a class that the tables say can be made, by its rows of tables_1 -/
def lw_okq (q : MethodName × Nat) : Prop := (q.1.cls ≠ "java/lang/invoke/MethodHandle" ∧ q.1.cls ≠ "java/lang/invoke/VarHandle") ∧ Cond.instantiable q.1.cls q.2 ∈ tables_1 ∧ Cond.privateMethod q.1 ∈ tables_1 ∧ Cond.instanceMethod q.1 ∈ tables_1
theorem lw_p0 : lw_okq (⟨"RatePlanner", "arrangeAnew", "()V"⟩, 12) := ⟨⟨by decide +kernel, by decide +kernel⟩, List.mem_of_getElem? (i := 17) (by decide +kernel), List.mem_of_getElem? (i := 455) (by decide +kernel), List.mem_of_getElem? (i := 456) (by decide +kernel)⟩
theorem lw_p1 : lw_okq (⟨"RatePlanner$Layout", "findStarts", "(LRatePlanner$Clip;I)V"⟩, 10) := ⟨⟨by decide +kernel, by decide +kernel⟩, List.mem_of_getElem? (i := 162) (by decide +kernel), List.mem_of_getElem? (i := 463) (by decide +kernel), List.mem_of_getElem? (i := 464) (by decide +kernel)⟩
theorem lw_p2 : lw_okq (⟨"RatePlanner$Layout", "measureGroups", "()V"⟩, 10) := ⟨⟨by decide +kernel, by decide +kernel⟩, List.mem_of_getElem? (i := 162) (by decide +kernel), List.mem_of_getElem? (i := 473) (by decide +kernel), List.mem_of_getElem? (i := 474) (by decide +kernel)⟩
theorem lw_p3 : lw_okq (⟨"RatePlanner$Layout", "chooseTypes", "(I)V"⟩, 10) := ⟨⟨by decide +kernel, by decide +kernel⟩, List.mem_of_getElem? (i := 162) (by decide +kernel), List.mem_of_getElem? (i := 478) (by decide +kernel), List.mem_of_getElem? (i := 479) (by decide +kernel)⟩
theorem lw_p4 : lw_okq (⟨"RatePlanner$Layout", "putInOrder", "()V"⟩, 10) := ⟨⟨by decide +kernel, by decide +kernel⟩, List.mem_of_getElem? (i := 162) (by decide +kernel), List.mem_of_getElem? (i := 485) (by decide +kernel), List.mem_of_getElem? (i := 486) (by decide +kernel)⟩
theorem lw_p5 : lw_okq (⟨"RatePlanner$Layout", "putAt", "(II)V"⟩, 10) := ⟨⟨by decide +kernel, by decide +kernel⟩, List.mem_of_getElem? (i := 162) (by decide +kernel), List.mem_of_getElem? (i := 489) (by decide +kernel), List.mem_of_getElem? (i := 490) (by decide +kernel)⟩
theorem lw_p6 : lw_okq (⟨"RatePlanner$Layout", "weighWorks", "(LRatePlanner$Clip;)V"⟩, 10) := ⟨⟨by decide +kernel, by decide +kernel⟩, List.mem_of_getElem? (i := 162) (by decide +kernel), List.mem_of_getElem? (i := 493) (by decide +kernel), List.mem_of_getElem? (i := 494) (by decide +kernel)⟩
theorem lw_p7 : lw_okq (⟨"RatePlanner", "isFrame", "(I)Z"⟩, 12) := ⟨⟨by decide +kernel, by decide +kernel⟩, List.mem_of_getElem? (i := 17) (by decide +kernel), List.mem_of_getElem? (i := 504) (by decide +kernel), List.mem_of_getElem? (i := 505) (by decide +kernel)⟩
theorem lw_p8 : lw_okq (⟨"RatePlanner$Text", "skipBlanks", "()V"⟩, 6) := ⟨⟨by decide +kernel, by decide +kernel⟩, List.mem_of_getElem? (i := 133) (by decide +kernel), List.mem_of_getElem? (i := 535) (by decide +kernel), List.mem_of_getElem? (i := 536) (by decide +kernel)⟩
theorem lw_p9 : lw_okq (⟨"RatePlanner$Text", "readRun", "()Z"⟩, 6) := ⟨⟨by decide +kernel, by decide +kernel⟩, List.mem_of_getElem? (i := 133) (by decide +kernel), List.mem_of_getElem? (i := 544) (by decide +kernel), List.mem_of_getElem? (i := 545) (by decide +kernel)⟩
theorem lw_p10 : lw_okq (⟨"RatePlanner$Text", "readNumber", "(II)Z"⟩, 6) := ⟨⟨by decide +kernel, by decide +kernel⟩, List.mem_of_getElem? (i := 133) (by decide +kernel), List.mem_of_getElem? (i := 548) (by decide +kernel), List.mem_of_getElem? (i := 549) (by decide +kernel)⟩
theorem lw_p11 : lw_okq (⟨"RatePlanner$Text", "readSign", "(I)Z"⟩, 6) := ⟨⟨by decide +kernel, by decide +kernel⟩, List.mem_of_getElem? (i := 133) (by decide +kernel), List.mem_of_getElem? (i := 553) (by decide +kernel), List.mem_of_getElem? (i := 554) (by decide +kernel)⟩
theorem lw_p12 : lw_okq (⟨"RatePlanner$Maker", "offsetOf", "(I)I"⟩, 5) := ⟨⟨by decide +kernel, by decide +kernel⟩, List.mem_of_getElem? (i := 297) (by decide +kernel), List.mem_of_getElem? (i := 653) (by decide +kernel), List.mem_of_getElem? (i := 654) (by decide +kernel)⟩
theorem lw_p13 : lw_okq (⟨"RatePlanner", "underflowsOfNewPlan", "()I"⟩, 12) := ⟨⟨by decide +kernel, by decide +kernel⟩, List.mem_of_getElem? (i := 17) (by decide +kernel), List.mem_of_getElem? (i := 671) (by decide +kernel), List.mem_of_getElem? (i := 672) (by decide +kernel)⟩
theorem lw_p14 : lw_okq (⟨"RatePlanner$Maker", "weighShares", "()J"⟩, 5) := ⟨⟨by decide +kernel, by decide +kernel⟩, List.mem_of_getElem? (i := 297) (by decide +kernel), List.mem_of_getElem? (i := 730) (by decide +kernel), List.mem_of_getElem? (i := 731) (by decide +kernel)⟩
theorem lw_p15 : lw_okq (⟨"RatePlanner$Maker", "leastWithin", "(IJ)I"⟩, 5) := ⟨⟨by decide +kernel, by decide +kernel⟩, List.mem_of_getElem? (i := 297) (by decide +kernel), List.mem_of_getElem? (i := 739) (by decide +kernel), List.mem_of_getElem? (i := 740) (by decide +kernel)⟩
def lw_privs_1 : List (MethodName × Nat) := [(⟨"RatePlanner", "arrangeAnew", "()V"⟩, 12), (⟨"RatePlanner$Layout", "findStarts", "(LRatePlanner$Clip;I)V"⟩, 10), (⟨"RatePlanner$Layout", "measureGroups", "()V"⟩, 10), (⟨"RatePlanner$Layout", "chooseTypes", "(I)V"⟩, 10), (⟨"RatePlanner$Layout", "putInOrder", "()V"⟩, 10), (⟨"RatePlanner$Layout", "putAt", "(II)V"⟩, 10), (⟨"RatePlanner$Layout", "weighWorks", "(LRatePlanner$Clip;)V"⟩, 10), (⟨"RatePlanner", "isFrame", "(I)Z"⟩, 12), (⟨"RatePlanner$Text", "skipBlanks", "()V"⟩, 6), (⟨"RatePlanner$Text", "readRun", "()Z"⟩, 6), (⟨"RatePlanner$Text", "readNumber", "(II)Z"⟩, 6), (⟨"RatePlanner$Text", "readSign", "(I)Z"⟩, 6), (⟨"RatePlanner$Maker", "offsetOf", "(I)I"⟩, 5), (⟨"RatePlanner", "underflowsOfNewPlan", "()I"⟩, 12), (⟨"RatePlanner$Maker", "weighShares", "()J"⟩, 5), (⟨"RatePlanner$Maker", "leastWithin", "(IJ)I"⟩, 5)]
theorem lw_r1 : ∀ q ∈ lw_privs_1, lw_okq q := List.forall_mem_cons.mpr ⟨lw_p0, List.forall_mem_cons.mpr ⟨lw_p1, List.forall_mem_cons.mpr ⟨lw_p2, List.forall_mem_cons.mpr ⟨lw_p3, List.forall_mem_cons.mpr ⟨lw_p4, List.forall_mem_cons.mpr ⟨lw_p5, List.forall_mem_cons.mpr ⟨lw_p6, List.forall_mem_cons.mpr ⟨lw_p7, List.forall_mem_cons.mpr ⟨lw_p8, List.forall_mem_cons.mpr ⟨lw_p9, List.forall_mem_cons.mpr ⟨lw_p10, List.forall_mem_cons.mpr ⟨lw_p11, List.forall_mem_cons.mpr ⟨lw_p12, List.forall_mem_cons.mpr ⟨lw_p13, List.forall_mem_cons.mpr ⟨lw_p14, List.forall_mem_cons.mpr ⟨lw_p15, fun _ h => absurd h List.not_mem_nil⟩⟩⟩⟩⟩⟩⟩⟩⟩⟩⟩⟩⟩⟩⟩⟩
theorem lw_p16 : lw_okq (⟨"RatePlanner$Mender", "weighRaise", "(I)V"⟩, 8) := ⟨⟨by decide +kernel, by decide +kernel⟩, List.mem_of_getElem? (i := 319) (by decide +kernel), List.mem_of_getElem? (i := 764) (by decide +kernel), List.mem_of_getElem? (i := 765) (by decide +kernel)⟩
theorem lw_p17 : lw_okq (⟨"RatePlanner$Mender", "nextOf", "(II)I"⟩, 8) := ⟨⟨by decide +kernel, by decide +kernel⟩, List.mem_of_getElem? (i := 319) (by decide +kernel), List.mem_of_getElem? (i := 768) (by decide +kernel), List.mem_of_getElem? (i := 769) (by decide +kernel)⟩
theorem lw_p18 : lw_okq (⟨"RatePlanner$Mender", "cheapestRaise", "(II)I"⟩, 8) := ⟨⟨by decide +kernel, by decide +kernel⟩, List.mem_of_getElem? (i := 319) (by decide +kernel), List.mem_of_getElem? (i := 788) (by decide +kernel), List.mem_of_getElem? (i := 789) (by decide +kernel)⟩
theorem lw_p19 : lw_okq (⟨"RatePlanner$Mender", "raise", "(I)V"⟩, 8) := ⟨⟨by decide +kernel, by decide +kernel⟩, List.mem_of_getElem? (i := 319) (by decide +kernel), List.mem_of_getElem? (i := 795) (by decide +kernel), List.mem_of_getElem? (i := 796) (by decide +kernel)⟩
theorem lw_p20 : lw_okq (⟨"RatePlanner$Mender", "weighLowering", "([II)V"⟩, 8) := ⟨⟨by decide +kernel, by decide +kernel⟩, List.mem_of_getElem? (i := 319) (by decide +kernel), List.mem_of_getElem? (i := 808) (by decide +kernel), List.mem_of_getElem? (i := 809) (by decide +kernel)⟩
theorem lw_p21 : lw_okq (⟨"RatePlanner$Mender", "greatestGain", "()I"⟩, 8) := ⟨⟨by decide +kernel, by decide +kernel⟩, List.mem_of_getElem? (i := 319) (by decide +kernel), List.mem_of_getElem? (i := 814) (by decide +kernel), List.mem_of_getElem? (i := 815) (by decide +kernel)⟩
theorem lw_p22 : lw_okq (⟨"RatePlanner$Mender", "canLower", "([IIII)Z"⟩, 8) := ⟨⟨by decide +kernel, by decide +kernel⟩, List.mem_of_getElem? (i := 319) (by decide +kernel), List.mem_of_getElem? (i := 818) (by decide +kernel), List.mem_of_getElem? (i := 819) (by decide +kernel)⟩
theorem lw_p23 : lw_okq (⟨"RatePlanner$Mender", "lower", "([II)V"⟩, 8) := ⟨⟨by decide +kernel, by decide +kernel⟩, List.mem_of_getElem? (i := 319) (by decide +kernel), List.mem_of_getElem? (i := 826) (by decide +kernel), List.mem_of_getElem? (i := 827) (by decide +kernel)⟩
theorem lw_p24 : lw_okq (⟨"RatePlanner", "followedFrame", "(II)I"⟩, 12) := ⟨⟨by decide +kernel, by decide +kernel⟩, List.mem_of_getElem? (i := 17) (by decide +kernel), List.mem_of_getElem? (i := 838) (by decide +kernel), List.mem_of_getElem? (i := 839) (by decide +kernel)⟩
theorem lw_p25 : lw_okq (⟨"RatePlanner", "followedTotal", "(I)J"⟩, 12) := ⟨⟨by decide +kernel, by decide +kernel⟩, List.mem_of_getElem? (i := 17) (by decide +kernel), List.mem_of_getElem? (i := 848) (by decide +kernel), List.mem_of_getElem? (i := 849) (by decide +kernel)⟩
theorem lw_p26 : lw_okq (⟨"RatePlanner", "changesOfPlan", "()J"⟩, 12) := ⟨⟨by decide +kernel, by decide +kernel⟩, List.mem_of_getElem? (i := 17) (by decide +kernel), List.mem_of_getElem? (i := 852) (by decide +kernel), List.mem_of_getElem? (i := 853) (by decide +kernel)⟩
theorem lw_p27 : lw_okq (⟨"RatePlanner", "bitsOfScene", "(I)I"⟩, 12) := ⟨⟨by decide +kernel, by decide +kernel⟩, List.mem_of_getElem? (i := 17) (by decide +kernel), List.mem_of_getElem? (i := 871) (by decide +kernel), List.mem_of_getElem? (i := 872) (by decide +kernel)⟩
theorem lw_p28 : lw_okq (⟨"RatePlanner", "meanOfScene", "(I)I"⟩, 12) := ⟨⟨by decide +kernel, by decide +kernel⟩, List.mem_of_getElem? (i := 17) (by decide +kernel), List.mem_of_getElem? (i := 875) (by decide +kernel), List.mem_of_getElem? (i := 876) (by decide +kernel)⟩
theorem lw_p29 : lw_okq (⟨"RatePlanner$Finder", "findLeast", "([IIII)I"⟩, 5) := ⟨⟨by decide +kernel, by decide +kernel⟩, List.mem_of_getElem? (i := 351) (by decide +kernel), List.mem_of_getElem? (i := 893) (by decide +kernel), List.mem_of_getElem? (i := 894) (by decide +kernel)⟩
theorem lw_p30 : lw_okq (⟨"RatePlanner$Finder", "suffices", "(II)Z"⟩, 5) := ⟨⟨by decide +kernel, by decide +kernel⟩, List.mem_of_getElem? (i := 351) (by decide +kernel), List.mem_of_getElem? (i := 898) (by decide +kernel), List.mem_of_getElem? (i := 899) (by decide +kernel)⟩
theorem lw_p31 : lw_okq (⟨"RatePlanner", "hashFrame", "(JI)J"⟩, 12) := ⟨⟨by decide +kernel, by decide +kernel⟩, List.mem_of_getElem? (i := 17) (by decide +kernel), List.mem_of_getElem? (i := 969) (by decide +kernel), List.mem_of_getElem? (i := 970) (by decide +kernel)⟩
def lw_privs_2 : List (MethodName × Nat) := [(⟨"RatePlanner$Mender", "weighRaise", "(I)V"⟩, 8), (⟨"RatePlanner$Mender", "nextOf", "(II)I"⟩, 8), (⟨"RatePlanner$Mender", "cheapestRaise", "(II)I"⟩, 8), (⟨"RatePlanner$Mender", "raise", "(I)V"⟩, 8), (⟨"RatePlanner$Mender", "weighLowering", "([II)V"⟩, 8), (⟨"RatePlanner$Mender", "greatestGain", "()I"⟩, 8), (⟨"RatePlanner$Mender", "canLower", "([IIII)Z"⟩, 8), (⟨"RatePlanner$Mender", "lower", "([II)V"⟩, 8), (⟨"RatePlanner", "followedFrame", "(II)I"⟩, 12), (⟨"RatePlanner", "followedTotal", "(I)J"⟩, 12), (⟨"RatePlanner", "changesOfPlan", "()J"⟩, 12), (⟨"RatePlanner", "bitsOfScene", "(I)I"⟩, 12), (⟨"RatePlanner", "meanOfScene", "(I)I"⟩, 12), (⟨"RatePlanner$Finder", "findLeast", "([IIII)I"⟩, 5), (⟨"RatePlanner$Finder", "suffices", "(II)Z"⟩, 5), (⟨"RatePlanner", "hashFrame", "(JI)J"⟩, 12)]
theorem lw_r2 : ∀ q ∈ lw_privs_2, lw_okq q := List.forall_mem_cons.mpr ⟨lw_p16, List.forall_mem_cons.mpr ⟨lw_p17, List.forall_mem_cons.mpr ⟨lw_p18, List.forall_mem_cons.mpr ⟨lw_p19, List.forall_mem_cons.mpr ⟨lw_p20, List.forall_mem_cons.mpr ⟨lw_p21, List.forall_mem_cons.mpr ⟨lw_p22, List.forall_mem_cons.mpr ⟨lw_p23, List.forall_mem_cons.mpr ⟨lw_p24, List.forall_mem_cons.mpr ⟨lw_p25, List.forall_mem_cons.mpr ⟨lw_p26, List.forall_mem_cons.mpr ⟨lw_p27, List.forall_mem_cons.mpr ⟨lw_p28, List.forall_mem_cons.mpr ⟨lw_p29, List.forall_mem_cons.mpr ⟨lw_p30, List.forall_mem_cons.mpr ⟨lw_p31, fun _ h => absurd h List.not_mem_nil⟩⟩⟩⟩⟩⟩⟩⟩⟩⟩⟩⟩⟩⟩⟩⟩
theorem lw_p32 : lw_okq (⟨"RatePlannerModel", "forgets", "()V"⟩, 24) := ⟨⟨by decide +kernel, by decide +kernel⟩, List.mem_of_getElem? (i := 976) (by decide +kernel), List.mem_of_getElem? (i := 1063) (by decide +kernel), List.mem_of_getElem? (i := 1064) (by decide +kernel)⟩
theorem lw_p33 : lw_okq (⟨"RatePlannerModel", "isFrame", "(I)Z"⟩, 24) := ⟨⟨by decide +kernel, by decide +kernel⟩, List.mem_of_getElem? (i := 976) (by decide +kernel), List.mem_of_getElem? (i := 1071) (by decide +kernel), List.mem_of_getElem? (i := 1072) (by decide +kernel)⟩
theorem lw_p34 : lw_okq (⟨"RatePlannerModel", "isCut", "(I)Z"⟩, 24) := ⟨⟨by decide +kernel, by decide +kernel⟩, List.mem_of_getElem? (i := 976) (by decide +kernel), List.mem_of_getElem? (i := 1075) (by decide +kernel), List.mem_of_getElem? (i := 1076) (by decide +kernel)⟩
theorem lw_p35 : lw_okq (⟨"RatePlannerModel", "readsAll", "()V"⟩, 24) := ⟨⟨by decide +kernel, by decide +kernel⟩, List.mem_of_getElem? (i := 976) (by decide +kernel), List.mem_of_getElem? (i := 1095) (by decide +kernel), List.mem_of_getElem? (i := 1096) (by decide +kernel)⟩
theorem lw_p36 : lw_okq (⟨"RatePlannerModel", "skips", "()V"⟩, 24) := ⟨⟨by decide +kernel, by decide +kernel⟩, List.mem_of_getElem? (i := 976) (by decide +kernel), List.mem_of_getElem? (i := 1099) (by decide +kernel), List.mem_of_getElem? (i := 1100) (by decide +kernel)⟩
theorem lw_p37 : lw_okq (⟨"RatePlannerModel", "byteAt", "(I)I"⟩, 24) := ⟨⟨by decide +kernel, by decide +kernel⟩, List.mem_of_getElem? (i := 976) (by decide +kernel), List.mem_of_getElem? (i := 1103) (by decide +kernel), List.mem_of_getElem? (i := 1104) (by decide +kernel)⟩
theorem lw_p38 : lw_okq (⟨"RatePlannerModel", "readsRun", "()V"⟩, 24) := ⟨⟨by decide +kernel, by decide +kernel⟩, List.mem_of_getElem? (i := 976) (by decide +kernel), List.mem_of_getElem? (i := 1107) (by decide +kernel), List.mem_of_getElem? (i := 1108) (by decide +kernel)⟩
theorem lw_p39 : lw_okq (⟨"RatePlannerModel", "fails", "(I)V"⟩, 24) := ⟨⟨by decide +kernel, by decide +kernel⟩, List.mem_of_getElem? (i := 976) (by decide +kernel), List.mem_of_getElem? (i := 1111) (by decide +kernel), List.mem_of_getElem? (i := 1112) (by decide +kernel)⟩
theorem lw_p40 : lw_okq (⟨"RatePlannerModel", "reads1", "(II)I"⟩, 24) := ⟨⟨by decide +kernel, by decide +kernel⟩, List.mem_of_getElem? (i := 976) (by decide +kernel), List.mem_of_getElem? (i := 1115) (by decide +kernel), List.mem_of_getElem? (i := 1116) (by decide +kernel)⟩
theorem lw_p41 : lw_okq (⟨"RatePlannerModel", "findsTypes", "()V"⟩, 24) := ⟨⟨by decide +kernel, by decide +kernel⟩, List.mem_of_getElem? (i := 976) (by decide +kernel), List.mem_of_getElem? (i := 1123) (by decide +kernel), List.mem_of_getElem? (i := 1124) (by decide +kernel)⟩
theorem lw_p42 : lw_okq (⟨"RatePlannerModel", "findsIntra", "()V"⟩, 24) := ⟨⟨by decide +kernel, by decide +kernel⟩, List.mem_of_getElem? (i := 976) (by decide +kernel), List.mem_of_getElem? (i := 1127) (by decide +kernel), List.mem_of_getElem? (i := 1128) (by decide +kernel)⟩
theorem lw_p43 : lw_okq (⟨"RatePlannerModel", "groupSize", "(I)I"⟩, 24) := ⟨⟨by decide +kernel, by decide +kernel⟩, List.mem_of_getElem? (i := 976) (by decide +kernel), List.mem_of_getElem? (i := 1131) (by decide +kernel), List.mem_of_getElem? (i := 1132) (by decide +kernel)⟩
theorem lw_p44 : lw_okq (⟨"RatePlannerModel", "work", "(I)I"⟩, 24) := ⟨⟨by decide +kernel, by decide +kernel⟩, List.mem_of_getElem? (i := 976) (by decide +kernel), List.mem_of_getElem? (i := 1135) (by decide +kernel), List.mem_of_getElem? (i := 1136) (by decide +kernel)⟩
theorem lw_p45 : lw_okq (⟨"RatePlannerModel", "sets", "(II)I"⟩, 24) := ⟨⟨by decide +kernel, by decide +kernel⟩, List.mem_of_getElem? (i := 976) (by decide +kernel), List.mem_of_getElem? (i := 1147) (by decide +kernel), List.mem_of_getElem? (i := 1148) (by decide +kernel)⟩
theorem lw_p46 : lw_okq (⟨"RatePlannerModel", "bits", "(II)I"⟩, 24) := ⟨⟨by decide +kernel, by decide +kernel⟩, List.mem_of_getElem? (i := 976) (by decide +kernel), List.mem_of_getElem? (i := 1185) (by decide +kernel), List.mem_of_getElem? (i := 1186) (by decide +kernel)⟩
theorem lw_p47 : lw_okq (⟨"RatePlannerModel", "loss", "(II)I"⟩, 24) := ⟨⟨by decide +kernel, by decide +kernel⟩, List.mem_of_getElem? (i := 976) (by decide +kernel), List.mem_of_getElem? (i := 1196) (by decide +kernel), List.mem_of_getElem? (i := 1197) (by decide +kernel)⟩
def lw_privs_3 : List (MethodName × Nat) := [(⟨"RatePlannerModel", "forgets", "()V"⟩, 24), (⟨"RatePlannerModel", "isFrame", "(I)Z"⟩, 24), (⟨"RatePlannerModel", "isCut", "(I)Z"⟩, 24), (⟨"RatePlannerModel", "readsAll", "()V"⟩, 24), (⟨"RatePlannerModel", "skips", "()V"⟩, 24), (⟨"RatePlannerModel", "byteAt", "(I)I"⟩, 24), (⟨"RatePlannerModel", "readsRun", "()V"⟩, 24), (⟨"RatePlannerModel", "fails", "(I)V"⟩, 24), (⟨"RatePlannerModel", "reads1", "(II)I"⟩, 24), (⟨"RatePlannerModel", "findsTypes", "()V"⟩, 24), (⟨"RatePlannerModel", "findsIntra", "()V"⟩, 24), (⟨"RatePlannerModel", "groupSize", "(I)I"⟩, 24), (⟨"RatePlannerModel", "work", "(I)I"⟩, 24), (⟨"RatePlannerModel", "sets", "(II)I"⟩, 24), (⟨"RatePlannerModel", "bits", "(II)I"⟩, 24), (⟨"RatePlannerModel", "loss", "(II)I"⟩, 24)]
theorem lw_r3 : ∀ q ∈ lw_privs_3, lw_okq q := List.forall_mem_cons.mpr ⟨lw_p32, List.forall_mem_cons.mpr ⟨lw_p33, List.forall_mem_cons.mpr ⟨lw_p34, List.forall_mem_cons.mpr ⟨lw_p35, List.forall_mem_cons.mpr ⟨lw_p36, List.forall_mem_cons.mpr ⟨lw_p37, List.forall_mem_cons.mpr ⟨lw_p38, List.forall_mem_cons.mpr ⟨lw_p39, List.forall_mem_cons.mpr ⟨lw_p40, List.forall_mem_cons.mpr ⟨lw_p41, List.forall_mem_cons.mpr ⟨lw_p42, List.forall_mem_cons.mpr ⟨lw_p43, List.forall_mem_cons.mpr ⟨lw_p44, List.forall_mem_cons.mpr ⟨lw_p45, List.forall_mem_cons.mpr ⟨lw_p46, List.forall_mem_cons.mpr ⟨lw_p47, fun _ h => absurd h List.not_mem_nil⟩⟩⟩⟩⟩⟩⟩⟩⟩⟩⟩⟩⟩⟩⟩⟩
theorem lw_p48 : lw_okq (⟨"RatePlannerModel", "weight", "(I)I"⟩, 24) := ⟨⟨by decide +kernel, by decide +kernel⟩, List.mem_of_getElem? (i := 976) (by decide +kernel), List.mem_of_getElem? (i := 1200) (by decide +kernel), List.mem_of_getElem? (i := 1201) (by decide +kernel)⟩
theorem lw_p49 : lw_okq (⟨"RatePlannerModel", "plansConstant", "(I)V"⟩, 24) := ⟨⟨by decide +kernel, by decide +kernel⟩, List.mem_of_getElem? (i := 976) (by decide +kernel), List.mem_of_getElem? (i := 1208) (by decide +kernel), List.mem_of_getElem? (i := 1209) (by decide +kernel)⟩
theorem lw_p50 : lw_okq (⟨"RatePlannerModel", "settled", "(II)I"⟩, 24) := ⟨⟨by decide +kernel, by decide +kernel⟩, List.mem_of_getElem? (i := 976) (by decide +kernel), List.mem_of_getElem? (i := 1215) (by decide +kernel), List.mem_of_getElem? (i := 1216) (by decide +kernel)⟩
theorem lw_p51 : lw_okq (⟨"RatePlannerModel", "underflowsNow", "()I"⟩, 24) := ⟨⟨by decide +kernel, by decide +kernel⟩, List.mem_of_getElem? (i := 976) (by decide +kernel), List.mem_of_getElem? (i := 1222) (by decide +kernel), List.mem_of_getElem? (i := 1223) (by decide +kernel)⟩
theorem lw_p52 : lw_okq (⟨"RatePlannerModel", "runsAsSet", "()V"⟩, 24) := ⟨⟨by decide +kernel, by decide +kernel⟩, List.mem_of_getElem? (i := 976) (by decide +kernel), List.mem_of_getElem? (i := 1226) (by decide +kernel), List.mem_of_getElem? (i := 1227) (by decide +kernel)⟩
theorem lw_p53 : lw_okq (⟨"RatePlannerModel", "runs", "(III)V"⟩, 24) := ⟨⟨by decide +kernel, by decide +kernel⟩, List.mem_of_getElem? (i := 976) (by decide +kernel), List.mem_of_getElem? (i := 1230) (by decide +kernel), List.mem_of_getElem? (i := 1231) (by decide +kernel)⟩
theorem lw_p54 : lw_okq (⟨"RatePlannerModel", "passes", "(IIII)V"⟩, 24) := ⟨⟨by decide +kernel, by decide +kernel⟩, List.mem_of_getElem? (i := 976) (by decide +kernel), List.mem_of_getElem? (i := 1234) (by decide +kernel), List.mem_of_getElem? (i := 1235) (by decide +kernel)⟩
theorem lw_p55 : lw_okq (⟨"RatePlannerModel", "share", "(I)I"⟩, 24) := ⟨⟨by decide +kernel, by decide +kernel⟩, List.mem_of_getElem? (i := 976) (by decide +kernel), List.mem_of_getElem? (i := 1247) (by decide +kernel), List.mem_of_getElem? (i := 1248) (by decide +kernel)⟩
theorem lw_p56 : lw_okq (⟨"RatePlannerModel", "leastWithin", "(IJ)I"⟩, 24) := ⟨⟨by decide +kernel, by decide +kernel⟩, List.mem_of_getElem? (i := 976) (by decide +kernel), List.mem_of_getElem? (i := 1255) (by decide +kernel), List.mem_of_getElem? (i := 1256) (by decide +kernel)⟩
theorem lw_p57 : lw_okq (⟨"RatePlannerModel", "firstUnderflow", "()I"⟩, 24) := ⟨⟨by decide +kernel, by decide +kernel⟩, List.mem_of_getElem? (i := 976) (by decide +kernel), List.mem_of_getElem? (i := 1267) (by decide +kernel), List.mem_of_getElem? (i := 1268) (by decide +kernel)⟩
theorem lw_p58 : lw_okq (⟨"RatePlannerModel", "cheapest", "(II)I"⟩, 24) := ⟨⟨by decide +kernel, by decide +kernel⟩, List.mem_of_getElem? (i := 976) (by decide +kernel), List.mem_of_getElem? (i := 1271) (by decide +kernel), List.mem_of_getElem? (i := 1272) (by decide +kernel)⟩
theorem lw_p59 : lw_okq (⟨"RatePlannerModel", "nextQuantizer", "(I)I"⟩, 24) := ⟨⟨by decide +kernel, by decide +kernel⟩, List.mem_of_getElem? (i := 976) (by decide +kernel), List.mem_of_getElem? (i := 1275) (by decide +kernel), List.mem_of_getElem? (i := 1276) (by decide +kernel)⟩
theorem lw_p60 : lw_okq (⟨"RatePlannerModel", "costOf", "(II)J"⟩, 24) := ⟨⟨by decide +kernel, by decide +kernel⟩, List.mem_of_getElem? (i := 976) (by decide +kernel), List.mem_of_getElem? (i := 1279) (by decide +kernel), List.mem_of_getElem? (i := 1280) (by decide +kernel)⟩
theorem lw_p61 : lw_okq (⟨"RatePlannerModel", "gainOf", "(IJI)J"⟩, 24) := ⟨⟨by decide +kernel, by decide +kernel⟩, List.mem_of_getElem? (i := 976) (by decide +kernel), List.mem_of_getElem? (i := 1289) (by decide +kernel), List.mem_of_getElem? (i := 1290) (by decide +kernel)⟩
theorem lw_p62 : lw_okq (⟨"RatePlannerModel", "allBits", "()J"⟩, 24) := ⟨⟨by decide +kernel, by decide +kernel⟩, List.mem_of_getElem? (i := 976) (by decide +kernel), List.mem_of_getElem? (i := 1293) (by decide +kernel), List.mem_of_getElem? (i := 1294) (by decide +kernel)⟩
theorem lw_p63 : lw_okq (⟨"RatePlannerModel", "part", "(II)I"⟩, 24) := ⟨⟨by decide +kernel, by decide +kernel⟩, List.mem_of_getElem? (i := 976) (by decide +kernel), List.mem_of_getElem? (i := 1306) (by decide +kernel), List.mem_of_getElem? (i := 1307) (by decide +kernel)⟩
def lw_privs_4 : List (MethodName × Nat) := [(⟨"RatePlannerModel", "weight", "(I)I"⟩, 24), (⟨"RatePlannerModel", "plansConstant", "(I)V"⟩, 24), (⟨"RatePlannerModel", "settled", "(II)I"⟩, 24), (⟨"RatePlannerModel", "underflowsNow", "()I"⟩, 24), (⟨"RatePlannerModel", "runsAsSet", "()V"⟩, 24), (⟨"RatePlannerModel", "runs", "(III)V"⟩, 24), (⟨"RatePlannerModel", "passes", "(IIII)V"⟩, 24), (⟨"RatePlannerModel", "share", "(I)I"⟩, 24), (⟨"RatePlannerModel", "leastWithin", "(IJ)I"⟩, 24), (⟨"RatePlannerModel", "firstUnderflow", "()I"⟩, 24), (⟨"RatePlannerModel", "cheapest", "(II)I"⟩, 24), (⟨"RatePlannerModel", "nextQuantizer", "(I)I"⟩, 24), (⟨"RatePlannerModel", "costOf", "(II)J"⟩, 24), (⟨"RatePlannerModel", "gainOf", "(IJI)J"⟩, 24), (⟨"RatePlannerModel", "allBits", "()J"⟩, 24), (⟨"RatePlannerModel", "part", "(II)I"⟩, 24)]
theorem lw_r4 : ∀ q ∈ lw_privs_4, lw_okq q := List.forall_mem_cons.mpr ⟨lw_p48, List.forall_mem_cons.mpr ⟨lw_p49, List.forall_mem_cons.mpr ⟨lw_p50, List.forall_mem_cons.mpr ⟨lw_p51, List.forall_mem_cons.mpr ⟨lw_p52, List.forall_mem_cons.mpr ⟨lw_p53, List.forall_mem_cons.mpr ⟨lw_p54, List.forall_mem_cons.mpr ⟨lw_p55, List.forall_mem_cons.mpr ⟨lw_p56, List.forall_mem_cons.mpr ⟨lw_p57, List.forall_mem_cons.mpr ⟨lw_p58, List.forall_mem_cons.mpr ⟨lw_p59, List.forall_mem_cons.mpr ⟨lw_p60, List.forall_mem_cons.mpr ⟨lw_p61, List.forall_mem_cons.mpr ⟨lw_p62, List.forall_mem_cons.mpr ⟨lw_p63, fun _ h => absurd h List.not_mem_nil⟩⟩⟩⟩⟩⟩⟩⟩⟩⟩⟩⟩⟩⟩⟩⟩
theorem lw_p64 : lw_okq (⟨"RatePlannerModel", "sumOf", "(I)J"⟩, 24) := ⟨⟨by decide +kernel, by decide +kernel⟩, List.mem_of_getElem? (i := 976) (by decide +kernel), List.mem_of_getElem? (i := 1316) (by decide +kernel), List.mem_of_getElem? (i := 1317) (by decide +kernel)⟩
theorem lw_p65 : lw_okq (⟨"RatePlannerModel", "change", "(I)I"⟩, 24) := ⟨⟨by decide +kernel, by decide +kernel⟩, List.mem_of_getElem? (i := 976) (by decide +kernel), List.mem_of_getElem? (i := 1320) (by decide +kernel), List.mem_of_getElem? (i := 1321) (by decide +kernel)⟩
theorem lw_p66 : lw_okq (⟨"RatePlannerModel", "isDry", "(III)Z"⟩, 24) := ⟨⟨by decide +kernel, by decide +kernel⟩, List.mem_of_getElem? (i := 976) (by decide +kernel), List.mem_of_getElem? (i := 1332) (by decide +kernel), List.mem_of_getElem? (i := 1333) (by decide +kernel)⟩
theorem lw_p67 : lw_okq (⟨"RatePlannerModel", "counted", "(I)I"⟩, 24) := ⟨⟨by decide +kernel, by decide +kernel⟩, List.mem_of_getElem? (i := 976) (by decide +kernel), List.mem_of_getElem? (i := 1364) (by decide +kernel), List.mem_of_getElem? (i := 1365) (by decide +kernel)⟩
theorem lw_p68 : lw_okq (⟨"RatePlannerModel", "mixes", "(J)V"⟩, 24) := ⟨⟨by decide +kernel, by decide +kernel⟩, List.mem_of_getElem? (i := 976) (by decide +kernel), List.mem_of_getElem? (i := 1374) (by decide +kernel), List.mem_of_getElem? (i := 1375) (by decide +kernel)⟩
def lw_privs_5 : List (MethodName × Nat) := [(⟨"RatePlannerModel", "sumOf", "(I)J"⟩, 24), (⟨"RatePlannerModel", "change", "(I)I"⟩, 24), (⟨"RatePlannerModel", "isDry", "(III)Z"⟩, 24), (⟨"RatePlannerModel", "counted", "(I)I"⟩, 24), (⟨"RatePlannerModel", "mixes", "(J)V"⟩, 24)]
theorem lw_r5 : ∀ q ∈ lw_privs_5, lw_okq q := List.forall_mem_cons.mpr ⟨lw_p64, List.forall_mem_cons.mpr ⟨lw_p65, List.forall_mem_cons.mpr ⟨lw_p66, List.forall_mem_cons.mpr ⟨lw_p67, List.forall_mem_cons.mpr ⟨lw_p68, fun _ h => absurd h List.not_mem_nil⟩⟩⟩⟩⟩
def lw_privs : List (MethodName × Nat) := lw_privs_1 ++ (lw_privs_2 ++ (lw_privs_3 ++ (lw_privs_4 ++ (lw_privs_5))))
def lw_tbl : List Cond := k2_sels lw_privs ++ tables_1
theorem lw_privs_ok : ∀ q ∈ lw_privs, lw_okq q := by
  show ∀ q ∈ lw_privs_1 ++ (lw_privs_2 ++ (lw_privs_3 ++ (lw_privs_4 ++ (lw_privs_5)))), lw_okq q
  exact List.forall_mem_append.mpr ⟨lw_r1, List.forall_mem_append.mpr ⟨lw_r2, List.forall_mem_append.mpr ⟨lw_r3, List.forall_mem_append.mpr ⟨lw_r4, lw_r5⟩⟩⟩⟩
def RX0 : String := "RatePlanner$Clip"
def TX0 : u_T := fun k => match k with
  | 0 => ("RatePlanner$Clip", "length", "I", false)
  | 1 => ("RatePlanner$Clip", "textures", "[I", true)
  | _ => ("RatePlanner$Clip", "motions", "[I", true)
abbrev cX0_init : ByteArray := prog_2_method_1_code
def yX0_init : MethodName := ⟨RX0, "<init>", "()V"⟩
abbrev cX0_add : ByteArray := prog_2_method_2_code
def yX0_add : MethodName := ⟨RX0, "add", "(II)V"⟩
abbrev cX0_isCut : ByteArray := prog_2_method_3_code
def yX0_isCut : MethodName := ⟨RX0, "isCut", "(I)Z"⟩
abbrev cX0_copyFrom : ByteArray := prog_2_method_4_code
def yX0_copyFrom : MethodName := ⟨RX0, "copyFrom", "(LRatePlanner$Clip;)V"⟩
def RX1 : String := "RatePlanner$Course"
def TX1 : u_T := fun k => match k with
  | 0 => ("RatePlanner$Course", "underflows", "I", false)
  | 1 => ("RatePlanner$Course", "bits", "[I", true)
  | 2 => ("RatePlanner$Course", "befores", "[I", true)
  | 3 => ("RatePlanner$Course", "afters", "[I", true)
  | 4 => ("RatePlanner$Course", "lacks", "[I", true)
  | 5 => ("RatePlanner$Course", "surpluses", "[I", true)
  | 6 => ("RatePlanner$Course", "model", "LRatePlanner$Model;", true)
  | 7 => ("RatePlanner$Course", "size", "I", false)
  | 8 => ("RatePlanner$Course", "rate", "I", false)
  | _ => ("RatePlanner$Course", "content", "I", false)
abbrev cX1_init : ByteArray := prog_3_method_1_code
def yX1_init : MethodName := ⟨RX1, "<init>", "(LRatePlanner$Model;)V"⟩
abbrev cX1_follow : ByteArray := prog_3_method_2_code
def yX1_follow : MethodName := ⟨RX1, "follow", "([I)V"⟩
abbrev cX1_takeBits : ByteArray := prog_3_method_3_code
def yX1_takeBits : MethodName := ⟨RX1, "takeBits", "([I)V"⟩
abbrev cX1_passAsSet : ByteArray := prog_3_method_4_code
def yX1_passAsSet : MethodName := ⟨RX1, "passAsSet", "()V"⟩
abbrev cX1_pass : ByteArray := prog_3_method_5_code
def yX1_pass : MethodName := ⟨RX1, "pass", "(III)V"⟩
abbrev cX1_begin : ByteArray := prog_3_method_6_code
def yX1_begin : MethodName := ⟨RX1, "begin", "(III)V"⟩
abbrev cX1_fillBefore : ByteArray := prog_3_method_7_code
def yX1_fillBefore : MethodName := ⟨RX1, "fillBefore", "(I)I"⟩
abbrev cX1_takeOut : ByteArray := prog_3_method_8_code
def yX1_takeOut : MethodName := ⟨RX1, "takeOut", "(II)V"⟩
abbrev cX1_firstUnderflow : ByteArray := prog_3_method_9_code
def yX1_firstUnderflow : MethodName := ⟨RX1, "firstUnderflow", "()I"⟩
abbrev cX1_lastFullNotBehind : ByteArray := prog_3_method_10_code
def yX1_lastFullNotBehind : MethodName := ⟨RX1, "lastFullNotBehind", "(I)I"⟩
abbrev cX1_sumOfBits : ByteArray := prog_3_method_11_code
def yX1_sumOfBits : MethodName := ⟨RX1, "sumOfBits", "()I"⟩
def RX2 : String := "RatePlanner$Finder"
def TX2 : u_T := fun k => match k with
  | 0 => ("RatePlanner$Finder", "settings", "LRatePlanner$Settings;", true)
  | 1 => ("RatePlanner$Finder", "layout", "LRatePlanner$Layout;", true)
  | 2 => ("RatePlanner$Finder", "course", "LRatePlanner$Course;", true)
  | 3 => ("RatePlanner$Finder", "maker", "LRatePlanner$Maker;", true)
  | _ => ("RatePlanner$Finder", "trial", "[I", true)
abbrev cX2_init : ByteArray := prog_4_method_1_code
def yX2_init : MethodName := ⟨RX2, "<init>", "(LRatePlanner$Model;LRatePlanner$Course;LRatePlanner$Maker;)V"⟩
abbrev cX2_findSize : ByteArray := prog_4_method_2_code
def yX2_findSize : MethodName := ⟨RX2, "findSize", "([I)I"⟩
abbrev cX2_findStart : ByteArray := prog_4_method_3_code
def yX2_findStart : MethodName := ⟨RX2, "findStart", "([I)I"⟩
abbrev cX2_findRate : ByteArray := prog_4_method_4_code
def yX2_findRate : MethodName := ⟨RX2, "findRate", "([I)I"⟩
abbrev cX2_findLeast : ByteArray := prog_4_method_5_code
def yX2_findLeast : MethodName := ⟨RX2, "findLeast", "([IIII)I"⟩
abbrev cX2_suffices : ByteArray := prog_4_method_6_code
def yX2_suffices : MethodName := ⟨RX2, "suffices", "(II)Z"⟩
abbrev cX2_findConstant : ByteArray := prog_4_method_7_code
def yX2_findConstant : MethodName := ⟨RX2, "findConstant", "()I"⟩
abbrev cX2_findDemand : ByteArray := prog_4_method_8_code
def yX2_findDemand : MethodName := ⟨RX2, "findDemand", "([III)I"⟩
def RX3 : String := "RatePlanner$Layout"
def TX3 : u_T := fun k => match k with
  | 0 => ("RatePlanner$Layout", "length", "I", false)
  | 1 => ("RatePlanner$Layout", "scenes", "I", false)
  | 2 => ("RatePlanner$Layout", "groups", "I", false)
  | 3 => ("RatePlanner$Layout", "types", "[I", true)
  | 4 => ("RatePlanner$Layout", "sceneNumbers", "[I", true)
  | 5 => ("RatePlanner$Layout", "groupFirsts", "[I", true)
  | 6 => ("RatePlanner$Layout", "groupLengths", "[I", true)
  | 7 => ("RatePlanner$Layout", "works", "[I", true)
  | 8 => ("RatePlanner$Layout", "places", "[I", true)
  | _ => ("RatePlanner$Layout", "order", "[I", true)
abbrev cX3_init : ByteArray := prog_5_method_1_code
def yX3_init : MethodName := ⟨RX3, "<init>", "()V"⟩
abbrev cX3_arrange : ByteArray := prog_5_method_2_code
def yX3_arrange : MethodName := ⟨RX3, "arrange", "(LRatePlanner$Clip;LRatePlanner$Settings;)V"⟩
abbrev cX3_findStarts : ByteArray := prog_5_method_3_code
def yX3_findStarts : MethodName := ⟨RX3, "findStarts", "(LRatePlanner$Clip;I)V"⟩
abbrev cX3_measureGroups : ByteArray := prog_5_method_4_code
def yX3_measureGroups : MethodName := ⟨RX3, "measureGroups", "()V"⟩
abbrev cX3_chooseTypes : ByteArray := prog_5_method_5_code
def yX3_chooseTypes : MethodName := ⟨RX3, "chooseTypes", "(I)V"⟩
abbrev cX3_isMultiple : ByteArray := prog_5_method_6_code
def yX3_isMultiple : MethodName := ⟨RX3, "isMultiple", "(II)Z"⟩
abbrev cX3_putInOrder : ByteArray := prog_5_method_7_code
def yX3_putInOrder : MethodName := ⟨RX3, "putInOrder", "()V"⟩
abbrev cX3_putAt : ByteArray := prog_5_method_8_code
def yX3_putAt : MethodName := ⟨RX3, "putAt", "(II)V"⟩
abbrev cX3_weighWorks : ByteArray := prog_5_method_9_code
def yX3_weighWorks : MethodName := ⟨RX3, "weighWorks", "(LRatePlanner$Clip;)V"⟩
abbrev cX3_workOf : ByteArray := prog_5_method_10_code
def yX3_workOf : MethodName := ⟨RX3, "workOf", "(III)I"⟩
abbrev cX3_firstOfScene : ByteArray := prog_5_method_11_code
def yX3_firstOfScene : MethodName := ⟨RX3, "firstOfScene", "(I)I"⟩
abbrev cX3_framesOfScene : ByteArray := prog_5_method_12_code
def yX3_framesOfScene : MethodName := ⟨RX3, "framesOfScene", "(I)I"⟩
abbrev cX3_groupsOfScene : ByteArray := prog_5_method_13_code
def yX3_groupsOfScene : MethodName := ⟨RX3, "groupsOfScene", "(I)I"⟩
def RX4 : String := "RatePlanner$Maker"
def TX4 : u_T := fun k => match k with
  | 0 => ("RatePlanner$Maker", "model", "LRatePlanner$Model;", true)
  | 1 => ("RatePlanner$Maker", "settings", "LRatePlanner$Settings;", true)
  | 2 => ("RatePlanner$Maker", "layout", "LRatePlanner$Layout;", true)
  | 3 => ("RatePlanner$Maker", "course", "LRatePlanner$Course;", true)
  | _ => ("RatePlanner$Maker", "shares", "[I", true)
abbrev cX4_init : ByteArray := prog_6_method_1_code
def yX4_init : MethodName := ⟨RX4, "<init>", "(LRatePlanner$Model;LRatePlanner$Course;)V"⟩
abbrev cX4_planConstant : ByteArray := prog_6_method_2_code
def yX4_planConstant : MethodName := ⟨RX4, "planConstant", "([II)V"⟩
abbrev cX4_planControlled : ByteArray := prog_6_method_3_code
def yX4_planControlled : MethodName := ⟨RX4, "planControlled", "([III)V"⟩
abbrev cX4_offsetOf : ByteArray := prog_6_method_4_code
def yX4_offsetOf : MethodName := ⟨RX4, "offsetOf", "(I)I"⟩
abbrev cX4_planDistributed : ByteArray := prog_6_method_5_code
def yX4_planDistributed : MethodName := ⟨RX4, "planDistributed", "([II)V"⟩
abbrev cX4_weighShares : ByteArray := prog_6_method_6_code
def yX4_weighShares : MethodName := ⟨RX4, "weighShares", "()J"⟩
abbrev cX4_leastWithin : ByteArray := prog_6_method_7_code
def yX4_leastWithin : MethodName := ⟨RX4, "leastWithin", "(IJ)I"⟩
abbrev cX4_rootOf : ByteArray := prog_6_method_8_code
def yX4_rootOf : MethodName := ⟨RX4, "rootOf", "(I)I"⟩
def RX5 : String := "RatePlanner$Mender"
def TX5 : u_T := fun k => match k with
  | 0 => ("RatePlanner$Mender", "model", "LRatePlanner$Model;", true)
  | 1 => ("RatePlanner$Mender", "settings", "LRatePlanner$Settings;", true)
  | 2 => ("RatePlanner$Mender", "layout", "LRatePlanner$Layout;", true)
  | 3 => ("RatePlanner$Mender", "course", "LRatePlanner$Course;", true)
  | 4 => ("RatePlanner$Mender", "trial", "[I", true)
  | 5 => ("RatePlanner$Mender", "nexts", "[I", true)
  | 6 => ("RatePlanner$Mender", "costs", "[J", true)
  | _ => ("RatePlanner$Mender", "gains", "[J", true)
abbrev cX5_init : ByteArray := prog_7_method_1_code
def yX5_init : MethodName := ⟨RX5, "<init>", "(LRatePlanner$Model;LRatePlanner$Course;)V"⟩
abbrev cX5_smoothen : ByteArray := prog_7_method_2_code
def yX5_smoothen : MethodName := ⟨RX5, "smoothen", "([II)I"⟩
abbrev cX5_mend : ByteArray := prog_7_method_3_code
def yX5_mend : MethodName := ⟨RX5, "mend", "([I)I"⟩
abbrev cX5_cheapestRaise : ByteArray := prog_7_method_4_code
def yX5_cheapestRaise : MethodName := ⟨RX5, "cheapestRaise", "(II)I"⟩
abbrev cX5_raise : ByteArray := prog_7_method_5_code
def yX5_raise : MethodName := ⟨RX5, "raise", "(I)V"⟩
abbrev cX5_weighRaise : ByteArray := prog_7_method_6_code
def yX5_weighRaise : MethodName := ⟨RX5, "weighRaise", "(I)V"⟩
abbrev cX5_nextOf : ByteArray := prog_7_method_7_code
def yX5_nextOf : MethodName := ⟨RX5, "nextOf", "(II)I"⟩
abbrev cX5_loosen : ByteArray := prog_7_method_8_code
def yX5_loosen : MethodName := ⟨RX5, "loosen", "([II)I"⟩
abbrev cX5_greatestGain : ByteArray := prog_7_method_9_code
def yX5_greatestGain : MethodName := ⟨RX5, "greatestGain", "()I"⟩
abbrev cX5_canLower : ByteArray := prog_7_method_10_code
def yX5_canLower : MethodName := ⟨RX5, "canLower", "([IIII)Z"⟩
abbrev cX5_lower : ByteArray := prog_7_method_11_code
def yX5_lower : MethodName := ⟨RX5, "lower", "([II)V"⟩
abbrev cX5_weighLowering : ByteArray := prog_7_method_12_code
def yX5_weighLowering : MethodName := ⟨RX5, "weighLowering", "([II)V"⟩
def RX6 : String := "RatePlanner$Model"
def TX6 : u_T := fun k => match k with
  | 0 => ("RatePlanner$Model", "layout", "LRatePlanner$Layout;", true)
  | 1 => ("RatePlanner$Model", "settings", "LRatePlanner$Settings;", true)
  | _ => ("RatePlanner$Model", "steps", "[I", true)
abbrev cX6_init : ByteArray := prog_8_method_1_code
def yX6_init : MethodName := ⟨RX6, "<init>", "(LRatePlanner$Layout;LRatePlanner$Settings;)V"⟩
abbrev cX6_bitsOf : ByteArray := prog_8_method_2_code
def yX6_bitsOf : MethodName := ⟨RX6, "bitsOf", "(II)I"⟩
abbrev cX6_lossOf : ByteArray := prog_8_method_3_code
def yX6_lossOf : MethodName := ⟨RX6, "lossOf", "(II)I"⟩
abbrev cX6_weightOf : ByteArray := prog_8_method_4_code
def yX6_weightOf : MethodName := ⟨RX6, "weightOf", "(I)I"⟩
def RX7 : String := "RatePlanner$Plan"
def TX7 : u_T := fun k => match k with
  | 0 => ("RatePlanner$Plan", "made", "Z", false)
  | _ => ("RatePlanner$Plan", "quantizers", "[I", true)
abbrev cX7_init : ByteArray := prog_9_method_1_code
def yX7_init : MethodName := ⟨RX7, "<init>", "()V"⟩
abbrev cX7_copyFrom : ByteArray := prog_9_method_2_code
def yX7_copyFrom : MethodName := ⟨RX7, "copyFrom", "(LRatePlanner$Plan;)V"⟩
def RX8 : String := "RatePlanner$Settings"
def TX8 : u_T := fun k => match k with
  | 0 => ("RatePlanner$Settings", "interval", "I", false)
  | 1 => ("RatePlanner$Settings", "bridges", "I", false)
  | 2 => ("RatePlanner$Settings", "least", "I", false)
  | 3 => ("RatePlanner$Settings", "greatest", "I", false)
  | 4 => ("RatePlanner$Settings", "size", "I", false)
  | 5 => ("RatePlanner$Settings", "start", "I", false)
  | 6 => ("RatePlanner$Settings", "rate", "I", false)
  | 7 => ("RatePlanner$Settings", "zones", "I", false)
  | 8 => ("RatePlanner$Settings", "weights", "[I", true)
  | 9 => ("RatePlanner$Settings", "zoneFirsts", "[I", true)
  | 10 => ("RatePlanner$Settings", "zoneLasts", "[I", true)
  | _ => ("RatePlanner$Settings", "zoneOffsets", "[I", true)
abbrev cX8_init : ByteArray := prog_10_method_1_code
def yX8_init : MethodName := ⟨RX8, "<init>", "()V"⟩
abbrev cX8_putZone : ByteArray := prog_10_method_2_code
def yX8_putZone : MethodName := ⟨RX8, "putZone", "(III)V"⟩
abbrev cX8_settle : ByteArray := prog_10_method_3_code
def yX8_settle : MethodName := ⟨RX8, "settle", "(II)I"⟩
abbrev cX8_copyFrom : ByteArray := prog_10_method_4_code
def yX8_copyFrom : MethodName := ⟨RX8, "copyFrom", "(LRatePlanner$Settings;)V"⟩
def RX9 : String := "RatePlanner$Slot"
def TX9 : u_T := fun k => match k with
  | 0 => ("RatePlanner$Slot", "used", "Z", false)
  | 1 => ("RatePlanner$Slot", "clip", "LRatePlanner$Clip;", true)
  | 2 => ("RatePlanner$Slot", "settings", "LRatePlanner$Settings;", true)
  | _ => ("RatePlanner$Slot", "plan", "LRatePlanner$Plan;", true)
abbrev cX9_init : ByteArray := prog_11_method_1_code
def yX9_init : MethodName := ⟨RX9, "<init>", "()V"⟩
def RX10 : String := "RatePlanner$Text"
def TX10 : u_T := fun k => match k with
  | 0 => ("RatePlanner$Text", "length", "I", false)
  | 1 => ("RatePlanner$Text", "read", "LRatePlanner$Clip;", true)
  | 2 => ("RatePlanner$Text", "letters", "[I", true)
  | 3 => ("RatePlanner$Text", "index", "I", false)
  | 4 => ("RatePlanner$Text", "number", "I", false)
  | _ => ("RatePlanner$Text", "fault", "I", false)
abbrev cX10_init : ByteArray := prog_12_method_1_code
def yX10_init : MethodName := ⟨RX10, "<init>", "()V"⟩
abbrev cX10_add : ByteArray := prog_12_method_2_code
def yX10_add : MethodName := ⟨RX10, "add", "(I)V"⟩
abbrev cX10_letterAt : ByteArray := prog_12_method_3_code
def yX10_letterAt : MethodName := ⟨RX10, "letterAt", "(I)I"⟩
abbrev cX10_readClip : ByteArray := prog_12_method_4_code
def yX10_readClip : MethodName := ⟨RX10, "readClip", "()I"⟩
abbrev cX10_readRun : ByteArray := prog_12_method_5_code
def yX10_readRun : MethodName := ⟨RX10, "readRun", "()Z"⟩
abbrev cX10_readSign : ByteArray := prog_12_method_6_code
def yX10_readSign : MethodName := ⟨RX10, "readSign", "(I)Z"⟩
abbrev cX10_readNumber : ByteArray := prog_12_method_7_code
def yX10_readNumber : MethodName := ⟨RX10, "readNumber", "(II)Z"⟩
abbrev cX10_skipBlanks : ByteArray := prog_12_method_8_code
def yX10_skipBlanks : MethodName := ⟨RX10, "skipBlanks", "()V"⟩
def RX11 : String := "RatePlanner"
def TX11 : u_T := fun k => match k with
  | 0 => ("RatePlanner", "clip", "LRatePlanner$Clip;", true)
  | 1 => ("RatePlanner", "settings", "LRatePlanner$Settings;", true)
  | 2 => ("RatePlanner", "plan", "LRatePlanner$Plan;", true)
  | 3 => ("RatePlanner", "text", "LRatePlanner$Text;", true)
  | 4 => ("RatePlanner", "layout", "LRatePlanner$Layout;", true)
  | 5 => ("RatePlanner", "model", "LRatePlanner$Model;", true)
  | 6 => ("RatePlanner", "course", "LRatePlanner$Course;", true)
  | 7 => ("RatePlanner", "maker", "LRatePlanner$Maker;", true)
  | 8 => ("RatePlanner", "mender", "LRatePlanner$Mender;", true)
  | 9 => ("RatePlanner", "finder", "LRatePlanner$Finder;", true)
  | 10 => ("RatePlanner", "firstSlot", "LRatePlanner$Slot;", true)
  | _ => ("RatePlanner", "secondSlot", "LRatePlanner$Slot;", true)
abbrev cX11_init : ByteArray := prog_1_method_1_code
def yX11_init : MethodName := ⟨RX11, "<init>", "()V"⟩
abbrev cX11_append : ByteArray := prog_1_method_2_code
def yX11_append : MethodName := ⟨RX11, "append", "(II)I"⟩
abbrev cX11_set : ByteArray := prog_1_method_3_code
def yX11_set : MethodName := ⟨RX11, "set", "(III)I"⟩
abbrev cX11_drop : ByteArray := prog_1_method_4_code
def yX11_drop : MethodName := ⟨RX11, "drop", "()I"⟩
abbrev cX11_type : ByteArray := prog_1_method_5_code
def yX11_type : MethodName := ⟨RX11, "type", "(I)I"⟩
abbrev cX11_clear : ByteArray := prog_1_method_6_code
def yX11_clear : MethodName := ⟨RX11, "clear", "()I"⟩
abbrev cX11_load : ByteArray := prog_1_method_7_code
def yX11_load : MethodName := ⟨RX11, "load", "()I"⟩
abbrev cX11_frame : ByteArray := prog_1_method_8_code
def yX11_frame : MethodName := ⟨RX11, "frame", "(II)I"⟩
abbrev cX11_coded : ByteArray := prog_1_method_9_code
def yX11_coded : MethodName := ⟨RX11, "coded", "(I)I"⟩
abbrev cX11_setInterval : ByteArray := prog_1_method_10_code
def yX11_setInterval : MethodName := ⟨RX11, "setInterval", "(I)I"⟩
abbrev cX11_setBridges : ByteArray := prog_1_method_11_code
def yX11_setBridges : MethodName := ⟨RX11, "setBridges", "(I)I"⟩
abbrev cX11_setWeight : ByteArray := prog_1_method_12_code
def yX11_setWeight : MethodName := ⟨RX11, "setWeight", "(II)I"⟩
abbrev cX11_setRange : ByteArray := prog_1_method_13_code
def yX11_setRange : MethodName := ⟨RX11, "setRange", "(II)I"⟩
abbrev cX11_setBuffer : ByteArray := prog_1_method_14_code
def yX11_setBuffer : MethodName := ⟨RX11, "setBuffer", "(II)I"⟩
abbrev cX11_setRate : ByteArray := prog_1_method_15_code
def yX11_setRate : MethodName := ⟨RX11, "setRate", "(I)I"⟩
abbrev cX11_addZone : ByteArray := prog_1_method_16_code
def yX11_addZone : MethodName := ⟨RX11, "addZone", "(III)I"⟩
abbrev cX11_clearZones : ByteArray := prog_1_method_17_code
def yX11_clearZones : MethodName := ⟨RX11, "clearZones", "()I"⟩
abbrev cX11_bitsAt : ByteArray := prog_1_method_18_code
def yX11_bitsAt : MethodName := ⟨RX11, "bitsAt", "(II)I"⟩
abbrev cX11_lossAt : ByteArray := prog_1_method_19_code
def yX11_lossAt : MethodName := ⟨RX11, "lossAt", "(II)I"⟩
abbrev cX11_constant : ByteArray := prog_1_method_20_code
def yX11_constant : MethodName := ⟨RX11, "constant", "(I)I"⟩
abbrev cX11_control : ByteArray := prog_1_method_21_code
def yX11_control : MethodName := ⟨RX11, "control", "(II)I"⟩
abbrev cX11_distribute : ByteArray := prog_1_method_22_code
def yX11_distribute : MethodName := ⟨RX11, "distribute", "(I)I"⟩
abbrev cX11_smooth : ByteArray := prog_1_method_23_code
def yX11_smooth : MethodName := ⟨RX11, "smooth", "(I)I"⟩
abbrev cX11_repair : ByteArray := prog_1_method_24_code
def yX11_repair : MethodName := ⟨RX11, "repair", "()I"⟩
abbrev cX11_relax : ByteArray := prog_1_method_25_code
def yX11_relax : MethodName := ⟨RX11, "relax", "(I)I"⟩
abbrev cX11_adjust : ByteArray := prog_1_method_26_code
def yX11_adjust : MethodName := ⟨RX11, "adjust", "(II)I"⟩
abbrev cX11_planned : ByteArray := prog_1_method_27_code
def yX11_planned : MethodName := ⟨RX11, "planned", "(II)I"⟩
abbrev cX11_total : ByteArray := prog_1_method_28_code
def yX11_total : MethodName := ⟨RX11, "total", "(I)J"⟩
abbrev cX11_scene : ByteArray := prog_1_method_29_code
def yX11_scene : MethodName := ⟨RX11, "scene", "(II)I"⟩
abbrev cX11_leastSize : ByteArray := prog_1_method_30_code
def yX11_leastSize : MethodName := ⟨RX11, "leastSize", "()I"⟩
abbrev cX11_leastStart : ByteArray := prog_1_method_31_code
def yX11_leastStart : MethodName := ⟨RX11, "leastStart", "()I"⟩
abbrev cX11_leastRate : ByteArray := prog_1_method_32_code
def yX11_leastRate : MethodName := ⟨RX11, "leastRate", "()I"⟩
abbrev cX11_bestConstant : ByteArray := prog_1_method_33_code
def yX11_bestConstant : MethodName := ⟨RX11, "bestConstant", "()I"⟩
abbrev cX11_demand : ByteArray := prog_1_method_34_code
def yX11_demand : MethodName := ⟨RX11, "demand", "(II)I"⟩
abbrev cX11_save : ByteArray := prog_1_method_35_code
def yX11_save : MethodName := ⟨RX11, "save", "(I)I"⟩
abbrev cX11_restore : ByteArray := prog_1_method_36_code
def yX11_restore : MethodName := ⟨RX11, "restore", "(I)I"⟩
abbrev cX11_count : ByteArray := prog_1_method_37_code
def yX11_count : MethodName := ⟨RX11, "count", "(I)I"⟩
abbrev cX11_digest : ByteArray := prog_1_method_38_code
def yX11_digest : MethodName := ⟨RX11, "digest", "()J"⟩
abbrev cX11_hashFrame : ByteArray := prog_1_method_39_code
def yX11_hashFrame : MethodName := ⟨RX11, "hashFrame", "(JI)J"⟩
abbrev cX11_arrangeAnew : ByteArray := prog_1_method_40_code
def yX11_arrangeAnew : MethodName := ⟨RX11, "arrangeAnew", "()V"⟩
abbrev cX11_underflowsOfNewPlan : ByteArray := prog_1_method_41_code
def yX11_underflowsOfNewPlan : MethodName := ⟨RX11, "underflowsOfNewPlan", "()I"⟩
abbrev cX11_followedFrame : ByteArray := prog_1_method_42_code
def yX11_followedFrame : MethodName := ⟨RX11, "followedFrame", "(II)I"⟩
abbrev cX11_followedTotal : ByteArray := prog_1_method_43_code
def yX11_followedTotal : MethodName := ⟨RX11, "followedTotal", "(I)J"⟩
abbrev cX11_changesOfPlan : ByteArray := prog_1_method_44_code
def yX11_changesOfPlan : MethodName := ⟨RX11, "changesOfPlan", "()J"⟩
abbrev cX11_bitsOfScene : ByteArray := prog_1_method_45_code
def yX11_bitsOfScene : MethodName := ⟨RX11, "bitsOfScene", "(I)I"⟩
abbrev cX11_meanOfScene : ByteArray := prog_1_method_46_code
def yX11_meanOfScene : MethodName := ⟨RX11, "meanOfScene", "(I)I"⟩
abbrev cX11_isFrame : ByteArray := prog_1_method_47_code
def yX11_isFrame : MethodName := ⟨RX11, "isFrame", "(I)Z"⟩
abbrev cX11_isPicture : ByteArray := prog_1_method_48_code
def yX11_isPicture : MethodName := ⟨RX11, "isPicture", "(II)Z"⟩
abbrev cX11_isQuantizer : ByteArray := prog_1_method_49_code
def yX11_isQuantizer : MethodName := ⟨RX11, "isQuantizer", "(I)Z"⟩
abbrev cX11_within : ByteArray := prog_1_method_50_code
def yX11_within : MethodName := ⟨RX11, "within", "(III)Z"⟩
abbrev cX11_limit : ByteArray := prog_1_method_51_code
def yX11_limit : MethodName := ⟨RX11, "limit", "(III)I"⟩
abbrev cX11_at : ByteArray := prog_1_method_52_code
def yX11_at : MethodName := ⟨RX11, "at", "([II)I"⟩
abbrev cX11_at_ : ByteArray := prog_1_method_53_code
def yX11_at_ : MethodName := ⟨RX11, "at", "([JI)J"⟩
abbrev cX11_put : ByteArray := prog_1_method_54_code
def yX11_put : MethodName := ⟨RX11, "put", "([III)V"⟩
abbrev cX11_put_ : ByteArray := prog_1_method_55_code
def yX11_put_ : MethodName := ⟨RX11, "put", "([JIJ)V"⟩
abbrev cX11_copyRow : ByteArray := prog_1_method_56_code
def yX11_copyRow : MethodName := ⟨RX11, "copyRow", "([I[I)V"⟩
abbrev cX11_ratio : ByteArray := prog_1_method_57_code
def yX11_ratio : MethodName := ⟨RX11, "ratio", "(JJ)J"⟩
def RX12 : String := "RatePlannerModel"
def TX12 : u_T := fun k => match k with
  | 0 => ("RatePlannerModel", "m", "[I", true)
  | 1 => ("RatePlannerModel", "saved", "[I", true)
  | 2 => ("RatePlannerModel", "isSaved", "[I", true)
  | 3 => ("RatePlannerModel", "type", "[I", true)
  | 4 => ("RatePlannerModel", "sceneOf", "[I", true)
  | 5 => ("RatePlannerModel", "from", "[I", true)
  | 6 => ("RatePlannerModel", "place", "[I", true)
  | 7 => ("RatePlannerModel", "at", "[I", true)
  | 8 => ("RatePlannerModel", "scenes", "I", false)
  | 9 => ("RatePlannerModel", "groups", "I", false)
  | 10 => ("RatePlannerModel", "before", "[I", true)
  | 11 => ("RatePlannerModel", "behind", "[I", true)
  | 12 => ("RatePlannerModel", "lack", "[I", true)
  | 13 => ("RatePlannerModel", "stuffed", "[I", true)
  | 14 => ("RatePlannerModel", "underflows", "I", false)
  | 15 => ("RatePlannerModel", "text", "[I", true)
  | 16 => ("RatePlannerModel", "length", "I", false)
  | 17 => ("RatePlannerModel", "next", "I", false)
  | 18 => ("RatePlannerModel", "fault", "I", false)
  | 19 => ("RatePlannerModel", "readTexture", "[I", true)
  | 20 => ("RatePlannerModel", "readMotion", "[I", true)
  | 21 => ("RatePlannerModel", "reads", "I", false)
  | 22 => ("RatePlannerModel", "old", "[I", true)
  | _ => ("RatePlannerModel", "hash", "J", false)
abbrev cX12_init : ByteArray := prog_14_method_1_code
def yX12_init : MethodName := ⟨RX12, "<init>", "()V"⟩
abbrev cX12_in : ByteArray := prog_14_method_2_code
def yX12_in : MethodName := ⟨RX12, "in", "(III)Z"⟩
abbrev cX12_limited : ByteArray := prog_14_method_3_code
def yX12_limited : MethodName := ⟨RX12, "limited", "(III)I"⟩
abbrev cX12_isFrame : ByteArray := prog_14_method_4_code
def yX12_isFrame : MethodName := ⟨RX12, "isFrame", "(I)Z"⟩
abbrev cX12_isCut : ByteArray := prog_14_method_5_code
def yX12_isCut : MethodName := ⟨RX12, "isCut", "(I)Z"⟩
abbrev cX12_findsIntra : ByteArray := prog_14_method_6_code
def yX12_findsIntra : MethodName := ⟨RX12, "findsIntra", "()V"⟩
abbrev cX12_groupSize : ByteArray := prog_14_method_7_code
def yX12_groupSize : MethodName := ⟨RX12, "groupSize", "(I)I"⟩
abbrev cX12_findsTypes : ByteArray := prog_14_method_8_code
def yX12_findsTypes : MethodName := ⟨RX12, "findsTypes", "()V"⟩
abbrev cX12_step : ByteArray := prog_14_method_9_code
def yX12_step : MethodName := ⟨RX12, "step", "(I)I"⟩
abbrev cX12_work : ByteArray := prog_14_method_10_code
def yX12_work : MethodName := ⟨RX12, "work", "(I)I"⟩
abbrev cX12_bits : ByteArray := prog_14_method_11_code
def yX12_bits : MethodName := ⟨RX12, "bits", "(II)I"⟩
abbrev cX12_weight : ByteArray := prog_14_method_12_code
def yX12_weight : MethodName := ⟨RX12, "weight", "(I)I"⟩
abbrev cX12_loss : ByteArray := prog_14_method_13_code
def yX12_loss : MethodName := ⟨RX12, "loss", "(II)I"⟩
abbrev cX12_settled : ByteArray := prog_14_method_14_code
def yX12_settled : MethodName := ⟨RX12, "settled", "(II)I"⟩
abbrev cX12_passes : ByteArray := prog_14_method_15_code
def yX12_passes : MethodName := ⟨RX12, "passes", "(IIII)V"⟩
abbrev cX12_runs : ByteArray := prog_14_method_16_code
def yX12_runs : MethodName := ⟨RX12, "runs", "(III)V"⟩
abbrev cX12_runsAsSet : ByteArray := prog_14_method_17_code
def yX12_runsAsSet : MethodName := ⟨RX12, "runsAsSet", "()V"⟩
abbrev cX12_underflowsNow : ByteArray := prog_14_method_18_code
def yX12_underflowsNow : MethodName := ⟨RX12, "underflowsNow", "()I"⟩
abbrev cX12_forgets : ByteArray := prog_14_method_19_code
def yX12_forgets : MethodName := ⟨RX12, "forgets", "()V"⟩
abbrev cX12_append : ByteArray := prog_14_method_20_code
def yX12_append : MethodName := ⟨RX12, "append", "(II)I"⟩
abbrev cX12_set : ByteArray := prog_14_method_21_code
def yX12_set : MethodName := ⟨RX12, "set", "(III)I"⟩
abbrev cX12_drop : ByteArray := prog_14_method_22_code
def yX12_drop : MethodName := ⟨RX12, "drop", "()I"⟩
abbrev cX12_type : ByteArray := prog_14_method_23_code
def yX12_type : MethodName := ⟨RX12, "type", "(I)I"⟩
abbrev cX12_clear : ByteArray := prog_14_method_24_code
def yX12_clear : MethodName := ⟨RX12, "clear", "()I"⟩
abbrev cX12_byteAt : ByteArray := prog_14_method_25_code
def yX12_byteAt : MethodName := ⟨RX12, "byteAt", "(I)I"⟩
abbrev cX12_skips : ByteArray := prog_14_method_26_code
def yX12_skips : MethodName := ⟨RX12, "skips", "()V"⟩
abbrev cX12_fails : ByteArray := prog_14_method_27_code
def yX12_fails : MethodName := ⟨RX12, "fails", "(I)V"⟩
abbrev cX12_reads1 : ByteArray := prog_14_method_28_code
def yX12_reads1 : MethodName := ⟨RX12, "reads1", "(II)I"⟩
abbrev cX12_readsRun : ByteArray := prog_14_method_29_code
def yX12_readsRun : MethodName := ⟨RX12, "readsRun", "()V"⟩
abbrev cX12_readsAll : ByteArray := prog_14_method_30_code
def yX12_readsAll : MethodName := ⟨RX12, "readsAll", "()V"⟩
abbrev cX12_load : ByteArray := prog_14_method_31_code
def yX12_load : MethodName := ⟨RX12, "load", "()I"⟩
abbrev cX12_frame : ByteArray := prog_14_method_32_code
def yX12_frame : MethodName := ⟨RX12, "frame", "(II)I"⟩
abbrev cX12_coded : ByteArray := prog_14_method_33_code
def yX12_coded : MethodName := ⟨RX12, "coded", "(I)I"⟩
abbrev cX12_sets : ByteArray := prog_14_method_34_code
def yX12_sets : MethodName := ⟨RX12, "sets", "(II)I"⟩
abbrev cX12_setInterval : ByteArray := prog_14_method_35_code
def yX12_setInterval : MethodName := ⟨RX12, "setInterval", "(I)I"⟩
abbrev cX12_setBridges : ByteArray := prog_14_method_36_code
def yX12_setBridges : MethodName := ⟨RX12, "setBridges", "(I)I"⟩
abbrev cX12_setWeight : ByteArray := prog_14_method_37_code
def yX12_setWeight : MethodName := ⟨RX12, "setWeight", "(II)I"⟩
abbrev cX12_setRange : ByteArray := prog_14_method_38_code
def yX12_setRange : MethodName := ⟨RX12, "setRange", "(II)I"⟩
abbrev cX12_setBuffer : ByteArray := prog_14_method_39_code
def yX12_setBuffer : MethodName := ⟨RX12, "setBuffer", "(II)I"⟩
abbrev cX12_setRate : ByteArray := prog_14_method_40_code
def yX12_setRate : MethodName := ⟨RX12, "setRate", "(I)I"⟩
abbrev cX12_addZone : ByteArray := prog_14_method_41_code
def yX12_addZone : MethodName := ⟨RX12, "addZone", "(III)I"⟩
abbrev cX12_clearZones : ByteArray := prog_14_method_42_code
def yX12_clearZones : MethodName := ⟨RX12, "clearZones", "()I"⟩
abbrev cX12_bitsAt : ByteArray := prog_14_method_43_code
def yX12_bitsAt : MethodName := ⟨RX12, "bitsAt", "(II)I"⟩
abbrev cX12_lossAt : ByteArray := prog_14_method_44_code
def yX12_lossAt : MethodName := ⟨RX12, "lossAt", "(II)I"⟩
abbrev cX12_byType : ByteArray := prog_14_method_45_code
def yX12_byType : MethodName := ⟨RX12, "byType", "(I)I"⟩
abbrev cX12_plansConstant : ByteArray := prog_14_method_46_code
def yX12_plansConstant : MethodName := ⟨RX12, "plansConstant", "(I)V"⟩
abbrev cX12_constant : ByteArray := prog_14_method_47_code
def yX12_constant : MethodName := ⟨RX12, "constant", "(I)I"⟩
abbrev cX12_control : ByteArray := prog_14_method_48_code
def yX12_control : MethodName := ⟨RX12, "control", "(II)I"⟩
abbrev cX12_root : ByteArray := prog_14_method_49_code
def yX12_root : MethodName := ⟨RX12, "root", "(I)I"⟩
abbrev cX12_share : ByteArray := prog_14_method_50_code
def yX12_share : MethodName := ⟨RX12, "share", "(I)I"⟩
abbrev cX12_leastWithin : ByteArray := prog_14_method_51_code
def yX12_leastWithin : MethodName := ⟨RX12, "leastWithin", "(IJ)I"⟩
abbrev cX12_distribute : ByteArray := prog_14_method_52_code
def yX12_distribute : MethodName := ⟨RX12, "distribute", "(I)I"⟩
abbrev cX12_smooth : ByteArray := prog_14_method_53_code
def yX12_smooth : MethodName := ⟨RX12, "smooth", "(I)I"⟩
abbrev cX12_nextQuantizer : ByteArray := prog_14_method_54_code
def yX12_nextQuantizer : MethodName := ⟨RX12, "nextQuantizer", "(I)I"⟩
abbrev cX12_costOf : ByteArray := prog_14_method_55_code
def yX12_costOf : MethodName := ⟨RX12, "costOf", "(II)J"⟩
abbrev cX12_cheapest : ByteArray := prog_14_method_56_code
def yX12_cheapest : MethodName := ⟨RX12, "cheapest", "(II)I"⟩
abbrev cX12_firstUnderflow : ByteArray := prog_14_method_57_code
def yX12_firstUnderflow : MethodName := ⟨RX12, "firstUnderflow", "()I"⟩
abbrev cX12_repair : ByteArray := prog_14_method_58_code
def yX12_repair : MethodName := ⟨RX12, "repair", "()I"⟩
abbrev cX12_allBits : ByteArray := prog_14_method_59_code
def yX12_allBits : MethodName := ⟨RX12, "allBits", "()J"⟩
abbrev cX12_gainOf : ByteArray := prog_14_method_60_code
def yX12_gainOf : MethodName := ⟨RX12, "gainOf", "(IJI)J"⟩
abbrev cX12_relax : ByteArray := prog_14_method_61_code
def yX12_relax : MethodName := ⟨RX12, "relax", "(I)I"⟩
abbrev cX12_adjust : ByteArray := prog_14_method_62_code
def yX12_adjust : MethodName := ⟨RX12, "adjust", "(II)I"⟩
abbrev cX12_part : ByteArray := prog_14_method_63_code
def yX12_part : MethodName := ⟨RX12, "part", "(II)I"⟩
abbrev cX12_planned : ByteArray := prog_14_method_64_code
def yX12_planned : MethodName := ⟨RX12, "planned", "(II)I"⟩
abbrev cX12_change : ByteArray := prog_14_method_65_code
def yX12_change : MethodName := ⟨RX12, "change", "(I)I"⟩
abbrev cX12_sumOf : ByteArray := prog_14_method_66_code
def yX12_sumOf : MethodName := ⟨RX12, "sumOf", "(I)J"⟩
abbrev cX12_total : ByteArray := prog_14_method_67_code
def yX12_total : MethodName := ⟨RX12, "total", "(I)J"⟩
abbrev cX12_scene : ByteArray := prog_14_method_68_code
def yX12_scene : MethodName := ⟨RX12, "scene", "(II)I"⟩
abbrev cX12_isDry : ByteArray := prog_14_method_69_code
def yX12_isDry : MethodName := ⟨RX12, "isDry", "(III)Z"⟩
abbrev cX12_leastSize : ByteArray := prog_14_method_70_code
def yX12_leastSize : MethodName := ⟨RX12, "leastSize", "()I"⟩
abbrev cX12_leastStart : ByteArray := prog_14_method_71_code
def yX12_leastStart : MethodName := ⟨RX12, "leastStart", "()I"⟩
abbrev cX12_leastRate : ByteArray := prog_14_method_72_code
def yX12_leastRate : MethodName := ⟨RX12, "leastRate", "()I"⟩
abbrev cX12_bestConstant : ByteArray := prog_14_method_73_code
def yX12_bestConstant : MethodName := ⟨RX12, "bestConstant", "()I"⟩
abbrev cX12_demand : ByteArray := prog_14_method_74_code
def yX12_demand : MethodName := ⟨RX12, "demand", "(II)I"⟩
abbrev cX12_save : ByteArray := prog_14_method_75_code
def yX12_save : MethodName := ⟨RX12, "save", "(I)I"⟩
abbrev cX12_restore : ByteArray := prog_14_method_76_code
def yX12_restore : MethodName := ⟨RX12, "restore", "(I)I"⟩
abbrev cX12_counted : ByteArray := prog_14_method_77_code
def yX12_counted : MethodName := ⟨RX12, "counted", "(I)I"⟩
abbrev cX12_count : ByteArray := prog_14_method_78_code
def yX12_count : MethodName := ⟨RX12, "count", "(I)I"⟩
abbrev cX12_mixes : ByteArray := prog_14_method_79_code
def yX12_mixes : MethodName := ⟨RX12, "mixes", "(J)V"⟩
abbrev cX12_digest : ByteArray := prog_14_method_80_code
def yX12_digest : MethodName := ⟨RX12, "digest", "()J"⟩
def RL : String := "RatePlannerLaw"
abbrev cL_law : ByteArray := code
abbrev vwCl : List vw_C := [(RX0, TX0, 3), (RX1, TX1, 10), (RX2, TX2, 5), (RX3, TX3, 10), (RX4, TX4, 5), (RX5, TX5, 8), (RX6, TX6, 3), (RX7, TX7, 2), (RX8, TX8, 12), (RX9, TX9, 4), (RX10, TX10, 6), (RX11, TX11, 12), (RX12, TX12, 24)]
/-! the methods: name, code, locals, result, class, static?, and where the tables speak of them -/
abbrev zMr : Type := MethodName × ByteArray × Nat × Option FieldType × Nat × Bool × Nat × Nat × Nat × Nat
def zMt0 : List zMr := [(yX0_init, cX0_init, 1, none, 0, false, 97, 96, 0, 71), (yX0_add, cX0_add, 3, none, 0, false, 519, 517, 518, 71), (yX0_isCut, cX0_isCut, 2, some .boolean, 0, false, 538, 536, 537, 71), (yX0_copyFrom, cX0_copyFrom, 2, none, 0, false, 629, 627, 628, 71), (yX1_init, cX1_init, 2, none, 1, false, 322, 321, 0, 77), (yX1_follow, cX1_follow, 2, none, 1, false, 746, 744, 745, 77), (yX1_takeBits, cX1_takeBits, 4, none, 1, false, 750, 748, 749, 77), (yX1_passAsSet, cX1_passAsSet, 1, none, 1, false, 757, 755, 756, 77), (yX1_pass, cX1_pass, 5, none, 1, false, 761, 759, 760, 77), (yX1_begin, cX1_begin, 4, none, 1, false, 765, 763, 764, 77), (yX1_fillBefore, cX1_fillBefore, 3, some .int, 1, false, 769, 767, 768, 77), (yX1_takeOut, cX1_takeOut, 4, none, 1, false, 774, 772, 773, 77), (yX1_firstUnderflow, cX1_firstUnderflow, 2, some .int, 1, false, 851, 849, 850, 77), (yX1_lastFullNotBehind, cX1_lastFullNotBehind, 3, some .int, 1, false, 855, 853, 854, 77), (yX1_sumOfBits, cX1_sumOfBits, 3, some .int, 1, false, 893, 891, 892, 77), (yX2_init, cX2_init, 4, none, 2, false, 423, 422, 0, 80), (yX2_findSize, cX2_findSize, 2, some .int, 2, false, 959, 957, 958, 80), (yX2_findStart, cX2_findStart, 2, some .int, 2, false, 978, 976, 977, 80), (yX2_findRate, cX2_findRate, 2, some .int, 2, false, 986, 984, 985, 80), (yX2_findLeast, cX2_findLeast, 9, some .int, 2, false, 964, 963, 29, 80), (yX2_suffices, cX2_suffices, 6, some .boolean, 2, false, 969, 968, 30, 80), (yX2_findConstant, cX2_findConstant, 2, some .int, 2, false, 995, 993, 994, 80), (yX2_findDemand, cX2_findDemand, 7, some .int, 2, false, 1005, 1003, 1004, 80), (yX3_init, cX3_init, 1, none, 3, false, 234, 233, 0, 75)]
def zMt1 : List zMr := [(yX3_arrange, cX3_arrange, 3, none, 3, false, 530, 528, 529, 75), (yX3_findStarts, cX3_findStarts, 6, none, 3, false, 534, 533, 1, 75), (yX3_measureGroups, cX3_measureGroups, 4, none, 3, false, 544, 543, 2, 75), (yX3_chooseTypes, cX3_chooseTypes, 5, none, 3, false, 549, 548, 3, 75), (yX3_isMultiple, cX3_isMultiple, 2, some .boolean, 3, true, 552, 551, 0, 75), (yX3_putInOrder, cX3_putInOrder, 5, none, 3, false, 556, 555, 4, 75), (yX3_putAt, cX3_putAt, 3, none, 3, false, 560, 559, 5, 75), (yX3_weighWorks, cX3_weighWorks, 3, none, 3, false, 564, 563, 6, 75), (yX3_workOf, cX3_workOf, 3, some .int, 3, true, 567, 566, 0, 75), (yX3_firstOfScene, cX3_firstOfScene, 3, some .int, 3, false, 934, 932, 933, 75), (yX3_framesOfScene, cX3_framesOfScene, 4, some .int, 3, false, 938, 936, 937, 75), (yX3_groupsOfScene, cX3_groupsOfScene, 4, some .int, 3, false, 951, 949, 950, 75), (yX4_init, cX4_init, 3, none, 4, false, 369, 368, 0, 78), (yX4_planConstant, cX4_planConstant, 4, none, 4, false, 720, 718, 719, 78), (yX4_planControlled, cX4_planControlled, 10, none, 4, false, 783, 781, 782, 78), (yX4_offsetOf, cX4_offsetOf, 2, some .int, 4, false, 724, 723, 12, 78), (yX4_planDistributed, cX4_planDistributed, 10, none, 4, false, 797, 795, 796, 78), (yX4_weighShares, cX4_weighShares, 5, some .long, 4, false, 801, 800, 14, 78), (yX4_leastWithin, cX4_leastWithin, 5, some .int, 4, false, 810, 809, 15, 78), (yX4_rootOf, cX4_rootOf, 3, some .int, 4, true, 805, 804, 0, 78), (yX5_init, cX5_init, 3, none, 5, false, 391, 390, 0, 79), (yX5_smoothen, cX5_smoothen, 9, some .int, 5, false, 818, 816, 817, 79), (yX5_mend, cX5_mend, 5, some .int, 5, false, 829, 827, 828, 79), (yX5_cheapestRaise, cX5_cheapestRaise, 6, some .int, 5, false, 859, 858, 18, 79)]
def zMt2 : List zMr := [(yX5_raise, cX5_raise, 4, none, 5, false, 866, 865, 19, 79), (yX5_weighRaise, cX5_weighRaise, 9, none, 5, false, 835, 834, 16, 79), (yX5_nextOf, cX5_nextOf, 5, some .int, 5, false, 839, 838, 17, 79), (yX5_loosen, cX5_loosen, 7, some .int, 5, false, 874, 872, 873, 79), (yX5_greatestGain, cX5_greatestGain, 4, some .int, 5, false, 885, 884, 21, 79), (yX5_canLower, cX5_canLower, 8, some .boolean, 5, false, 889, 888, 22, 79), (yX5_lower, cX5_lower, 5, none, 5, false, 897, 896, 23, 79), (yX5_weighLowering, cX5_weighLowering, 9, none, 5, false, 879, 878, 20, 79), (yX6_init, cX6_init, 4, none, 6, false, 293, 292, 0, 76), (yX6_bitsOf, cX6_bitsOf, 3, some .int, 6, false, 697, 695, 696, 76), (yX6_lossOf, cX6_lossOf, 5, some .int, 6, false, 708, 706, 707, 76), (yX6_weightOf, cX6_weightOf, 2, some .int, 6, false, 712, 710, 711, 76), (yX7_init, cX7_init, 1, none, 7, false, 190, 189, 0, 73), (yX7_copyFrom, cX7_copyFrom, 2, none, 7, false, 1020, 1018, 1019, 73), (yX8_init, cX8_init, 2, none, 8, false, 121, 120, 0, 72), (yX8_putZone, cX8_putZone, 4, none, 8, false, 684, 682, 683, 72), (yX8_settle, cX8_settle, 5, some .int, 8, false, 729, 727, 728, 72), (yX8_copyFrom, cX8_copyFrom, 2, none, 8, false, 1015, 1013, 1014, 72), (yX9_init, cX9_init, 1, none, 9, false, 445, 444, 0, 81), (yX10_init, cX10_init, 1, none, 10, false, 205, 204, 0, 74), (yX10_add, cX10_add, 2, none, 10, false, 589, 587, 588, 74), (yX10_letterAt, cX10_letterAt, 2, some .int, 10, false, 610, 608, 609, 74), (yX10_readClip, cX10_readClip, 2, some .int, 10, false, 602, 600, 601, 74), (yX10_readRun, cX10_readRun, 5, some .boolean, 10, false, 615, 614, 9, 74)]
def zMt3 : List zMr := [(yX10_readSign, cX10_readSign, 2, some .boolean, 10, false, 624, 623, 11, 74), (yX10_readNumber, cX10_readNumber, 4, some .boolean, 10, false, 619, 618, 10, 74), (yX10_skipBlanks, cX10_skipBlanks, 1, none, 10, false, 606, 605, 8, 74), (yX11_init, cX11_init, 1, none, 11, false, 89, 88, 0, 70), (yX11_append, cX11_append, 3, some .int, 11, false, 509, 507, 508, 70), (yX11_set, cX11_set, 4, some .int, 11, false, 571, 569, 570, 70), (yX11_drop, cX11_drop, 1, some .int, 11, false, 581, 579, 580, 70), (yX11_type, cX11_type, 2, some .int, 11, false, 585, 583, 584, 70), (yX11_clear, cX11_clear, 2, some .int, 11, false, 594, 592, 593, 70), (yX11_load, cX11_load, 2, some .int, 11, false, 598, 596, 597, 70), (yX11_frame, cX11_frame, 3, some .int, 11, false, 642, 640, 641, 70), (yX11_coded, cX11_coded, 2, some .int, 11, false, 647, 645, 646, 70), (yX11_setInterval, cX11_setInterval, 3, some .int, 11, false, 651, 649, 650, 70), (yX11_setBridges, cX11_setBridges, 3, some .int, 11, false, 655, 653, 654, 70), (yX11_setWeight, cX11_setWeight, 4, some .int, 11, false, 659, 657, 658, 70), (yX11_setRange, cX11_setRange, 4, some .int, 11, false, 663, 661, 662, 70), (yX11_setBuffer, cX11_setBuffer, 4, some .int, 11, false, 670, 668, 669, 70), (yX11_setRate, cX11_setRate, 3, some .int, 11, false, 675, 673, 674, 70), (yX11_addZone, cX11_addZone, 4, some .int, 11, false, 680, 678, 679, 70), (yX11_clearZones, cX11_clearZones, 2, some .int, 11, false, 689, 687, 688, 70), (yX11_bitsAt, cX11_bitsAt, 3, some .int, 11, false, 693, 691, 692, 70), (yX11_lossAt, cX11_lossAt, 3, some .int, 11, false, 704, 702, 703, 70), (yX11_constant, cX11_constant, 2, some .int, 11, false, 716, 714, 715, 70), (yX11_control, cX11_control, 3, some .int, 11, false, 779, 777, 778, 70)]
def zMt4 : List zMr := [(yX11_distribute, cX11_distribute, 2, some .int, 11, false, 792, 790, 791, 70), (yX11_smooth, cX11_smooth, 2, some .int, 11, false, 814, 812, 813, 70), (yX11_repair, cX11_repair, 1, some .int, 11, false, 825, 823, 824, 70), (yX11_relax, cX11_relax, 2, some .int, 11, false, 870, 868, 869, 70), (yX11_adjust, cX11_adjust, 4, some .int, 11, false, 901, 899, 900, 70), (yX11_planned, cX11_planned, 3, some .int, 11, false, 905, 903, 904, 70), (yX11_total, cX11_total, 2, some .long, 11, false, 913, 911, 912, 70), (yX11_scene, cX11_scene, 3, some .int, 11, false, 930, 928, 929, 70), (yX11_leastSize, cX11_leastSize, 1, some .int, 11, false, 955, 953, 954, 70), (yX11_leastStart, cX11_leastStart, 1, some .int, 11, false, 974, 972, 973, 70), (yX11_leastRate, cX11_leastRate, 1, some .int, 11, false, 982, 980, 981, 70), (yX11_bestConstant, cX11_bestConstant, 1, some .int, 11, false, 991, 989, 990, 70), (yX11_demand, cX11_demand, 3, some .int, 11, false, 1001, 999, 1000, 70), (yX11_save, cX11_save, 3, some .int, 11, false, 1011, 1009, 1010, 70), (yX11_restore, cX11_restore, 3, some .int, 11, false, 1025, 1023, 1024, 70), (yX11_count, cX11_count, 2, some .int, 11, false, 1029, 1027, 1028, 70), (yX11_digest, cX11_digest, 5, some .long, 11, false, 1033, 1031, 1032, 70), (yX11_hashFrame, cX11_hashFrame, 7, some .long, 11, false, 1040, 1039, 31, 70), (yX11_arrangeAnew, cX11_arrangeAnew, 1, none, 11, false, 526, 525, 0, 70), (yX11_underflowsOfNewPlan, cX11_underflowsOfNewPlan, 1, some .int, 11, false, 742, 741, 13, 70), (yX11_followedFrame, cX11_followedFrame, 5, some .int, 11, false, 909, 908, 24, 70), (yX11_followedTotal, cX11_followedTotal, 5, some .long, 11, false, 919, 918, 25, 70), (yX11_changesOfPlan, cX11_changesOfPlan, 5, some .long, 11, false, 923, 922, 26, 70), (yX11_bitsOfScene, cX11_bitsOfScene, 4, some .int, 11, false, 942, 941, 27, 70)]
def zMt5 : List zMr := [(yX11_meanOfScene, cX11_meanOfScene, 4, some .int, 11, false, 946, 945, 28, 70), (yX11_isFrame, cX11_isFrame, 2, some .boolean, 11, false, 575, 574, 7, 70), (yX11_isPicture, cX11_isPicture, 2, some .boolean, 11, true, 512, 511, 0, 70), (yX11_isQuantizer, cX11_isQuantizer, 1, some .boolean, 11, true, 666, 665, 0, 70), (yX11_within, cX11_within, 3, some .boolean, 11, true, 515, 514, 0, 70), (yX11_limit, cX11_limit, 3, some .int, 11, true, 734, 733, 0, 70), (yX11_at, cX11_at, 2, some .int, 11, true, 299, 298, 0, 70), (yX11_at_, cX11_at_, 2, some .long, 11, true, 862, 861, 0, 70), (yX11_put, cX11_put, 3, none, 11, true, 522, 521, 0, 70), (yX11_put_, cX11_put_, 4, none, 11, true, 846, 845, 0, 70), (yX11_copyRow, cX11_copyRow, 2, none, 11, true, 632, 631, 0, 70), (yX11_ratio, cX11_ratio, 4, some .long, 11, true, 700, 699, 0, 70), (yX12_init, cX12_init, 2, none, 12, false, 1048, 1047, 0, 82), (yX12_in, cX12_in, 3, some .boolean, 12, true, 1130, 1129, 0, 82), (yX12_limited, cX12_limited, 3, some .int, 12, true, 1289, 1288, 0, 82), (yX12_isFrame, cX12_isFrame, 2, some .boolean, 12, false, 1142, 1141, 33, 82), (yX12_isCut, cX12_isCut, 2, some .boolean, 12, false, 1146, 1145, 34, 82), (yX12_findsIntra, cX12_findsIntra, 4, none, 12, false, 1198, 1197, 42, 82), (yX12_groupSize, cX12_groupSize, 4, some .int, 12, false, 1202, 1201, 43, 82), (yX12_findsTypes, cX12_findsTypes, 5, none, 12, false, 1194, 1193, 41, 82), (yX12_step, cX12_step, 3, some .int, 12, true, 1259, 1258, 0, 82), (yX12_work, cX12_work, 4, some .int, 12, false, 1206, 1205, 44, 82), (yX12_bits, cX12_bits, 3, some .int, 12, false, 1256, 1255, 46, 82), (yX12_weight, cX12_weight, 2, some .int, 12, false, 1271, 1270, 48, 82)]
def zMt6 : List zMr := [(yX12_loss, cX12_loss, 3, some .int, 12, false, 1267, 1266, 47, 82), (yX12_settled, cX12_settled, 6, some .int, 12, false, 1286, 1285, 50, 82), (yX12_passes, cX12_passes, 7, none, 12, false, 1305, 1304, 54, 82), (yX12_runs, cX12_runs, 5, none, 12, false, 1301, 1300, 53, 82), (yX12_runsAsSet, cX12_runsAsSet, 1, none, 12, false, 1297, 1296, 52, 82), (yX12_underflowsNow, cX12_underflowsNow, 1, some .int, 12, false, 1293, 1292, 51, 82), (yX12_forgets, cX12_forgets, 1, none, 12, false, 1134, 1133, 32, 82), (yX12_append, cX12_append, 3, some .int, 12, false, 1127, 1125, 1126, 82), (yX12_set, cX12_set, 4, some .int, 12, false, 1138, 1136, 1137, 82), (yX12_drop, cX12_drop, 1, some .int, 12, false, 1150, 1148, 1149, 82), (yX12_type, cX12_type, 2, some .int, 12, false, 1154, 1152, 1153, 82), (yX12_clear, cX12_clear, 2, some .int, 12, false, 1158, 1156, 1157, 82), (yX12_byteAt, cX12_byteAt, 2, some .int, 12, false, 1174, 1173, 37, 82), (yX12_skips, cX12_skips, 1, none, 12, false, 1170, 1169, 36, 82), (yX12_fails, cX12_fails, 2, none, 12, false, 1182, 1181, 39, 82), (yX12_reads1, cX12_reads1, 5, some .int, 12, false, 1186, 1185, 40, 82), (yX12_readsRun, cX12_readsRun, 5, none, 12, false, 1178, 1177, 38, 82), (yX12_readsAll, cX12_readsAll, 2, none, 12, false, 1166, 1165, 35, 82), (yX12_load, cX12_load, 2, some .int, 12, false, 1162, 1160, 1161, 82), (yX12_frame, cX12_frame, 3, some .int, 12, false, 1190, 1188, 1189, 82), (yX12_coded, cX12_coded, 2, some .int, 12, false, 1210, 1208, 1209, 82), (yX12_sets, cX12_sets, 4, some .int, 12, false, 1218, 1217, 45, 82), (yX12_setInterval, cX12_setInterval, 2, some .int, 12, false, 1214, 1212, 1213, 82), (yX12_setBridges, cX12_setBridges, 2, some .int, 12, false, 1222, 1220, 1221, 82)]
def zMt7 : List zMr := [(yX12_setWeight, cX12_setWeight, 3, some .int, 12, false, 1226, 1224, 1225, 82), (yX12_setRange, cX12_setRange, 4, some .int, 12, false, 1230, 1228, 1229, 82), (yX12_setBuffer, cX12_setBuffer, 3, some .int, 12, false, 1234, 1232, 1233, 82), (yX12_setRate, cX12_setRate, 2, some .int, 12, false, 1239, 1237, 1238, 82), (yX12_addZone, cX12_addZone, 5, some .int, 12, false, 1244, 1242, 1243, 82), (yX12_clearZones, cX12_clearZones, 1, some .int, 12, false, 1248, 1246, 1247, 82), (yX12_bitsAt, cX12_bitsAt, 3, some .int, 12, false, 1252, 1250, 1251, 82), (yX12_lossAt, cX12_lossAt, 3, some .int, 12, false, 1263, 1261, 1262, 82), (yX12_byType, cX12_byType, 1, some .int, 12, true, 1282, 1281, 0, 82), (yX12_plansConstant, cX12_plansConstant, 3, none, 12, false, 1279, 1278, 49, 82), (yX12_constant, cX12_constant, 2, some .int, 12, false, 1275, 1273, 1274, 82), (yX12_control, cX12_control, 6, some .int, 12, false, 1309, 1307, 1308, 82), (yX12_root, cX12_root, 2, some .int, 12, true, 1321, 1320, 0, 82), (yX12_share, cX12_share, 2, some .int, 12, false, 1318, 1317, 55, 82), (yX12_leastWithin, cX12_leastWithin, 5, some .int, 12, false, 1326, 1325, 56, 82), (yX12_distribute, cX12_distribute, 7, some .int, 12, false, 1313, 1311, 1312, 82), (yX12_smooth, cX12_smooth, 8, some .int, 12, false, 1330, 1328, 1329, 82), (yX12_nextQuantizer, cX12_nextQuantizer, 4, some .int, 12, false, 1346, 1345, 59, 82), (yX12_costOf, cX12_costOf, 4, some .long, 12, false, 1350, 1349, 60, 82), (yX12_cheapest, cX12_cheapest, 10, some .int, 12, false, 1342, 1341, 58, 82), (yX12_firstUnderflow, cX12_firstUnderflow, 2, some .int, 12, false, 1338, 1337, 57, 82), (yX12_repair, cX12_repair, 6, some .int, 12, false, 1334, 1332, 1333, 82), (yX12_allBits, cX12_allBits, 4, some .long, 12, false, 1364, 1363, 62, 82), (yX12_gainOf, cX12_gainOf, 8, some .long, 12, false, 1360, 1359, 61, 82)]
def zMt8 : List zMr := [(yX12_relax, cX12_relax, 11, some .int, 12, false, 1355, 1353, 1354, 82), (yX12_adjust, cX12_adjust, 3, some .int, 12, false, 1369, 1367, 1368, 82), (yX12_part, cX12_part, 5, some .int, 12, false, 1377, 1376, 63, 82), (yX12_planned, cX12_planned, 3, some .int, 12, false, 1373, 1371, 1372, 82), (yX12_change, cX12_change, 3, some .int, 12, false, 1391, 1390, 65, 82), (yX12_sumOf, cX12_sumOf, 7, some .long, 12, false, 1387, 1386, 64, 82), (yX12_total, cX12_total, 2, some .long, 12, false, 1381, 1379, 1380, 82), (yX12_scene, cX12_scene, 9, some .int, 12, false, 1395, 1393, 1394, 82), (yX12_isDry, cX12_isDry, 4, some .boolean, 12, false, 1403, 1402, 66, 82), (yX12_leastSize, cX12_leastSize, 5, some .int, 12, false, 1399, 1397, 1398, 82), (yX12_leastStart, cX12_leastStart, 2, some .int, 12, false, 1407, 1405, 1406, 82), (yX12_leastRate, cX12_leastRate, 5, some .int, 12, false, 1411, 1409, 1410, 82), (yX12_bestConstant, cX12_bestConstant, 3, some .int, 12, false, 1415, 1413, 1414, 82), (yX12_demand, cX12_demand, 7, some .int, 12, false, 1419, 1417, 1418, 82), (yX12_save, cX12_save, 3, some .int, 12, false, 1423, 1421, 1422, 82), (yX12_restore, cX12_restore, 3, some .int, 12, false, 1427, 1425, 1426, 82), (yX12_counted, cX12_counted, 2, some .int, 12, false, 1435, 1434, 67, 82), (yX12_count, cX12_count, 2, some .int, 12, false, 1431, 1429, 1430, 82), (yX12_mixes, cX12_mixes, 3, none, 12, false, 1445, 1444, 68, 82), (yX12_digest, cX12_digest, 4, some .long, 12, false, 1439, 1437, 1438, 82), (⟨RL, "law", "([I)Z"⟩, cL_law, 4, some .boolean, 13, true, 0, 0, 0, 0)]
def zMt : List zMr := zMt0 ++ (zMt1 ++ (zMt2 ++ (zMt3 ++ (zMt4 ++ (zMt5 ++ (zMt6 ++ (zMt7 ++ (zMt8))))))))
abbrev nX0_init : Nat := 0
abbrev nX0_add : Nat := 1
abbrev nX0_isCut : Nat := 2
abbrev nX0_copyFrom : Nat := 3
abbrev nX1_init : Nat := 4
abbrev nX1_follow : Nat := 5
abbrev nX1_takeBits : Nat := 6
abbrev nX1_passAsSet : Nat := 7
abbrev nX1_pass : Nat := 8
abbrev nX1_begin : Nat := 9
abbrev nX1_fillBefore : Nat := 10
abbrev nX1_takeOut : Nat := 11
abbrev nX1_firstUnderflow : Nat := 12
abbrev nX1_lastFullNotBehind : Nat := 13
abbrev nX1_sumOfBits : Nat := 14
abbrev nX2_init : Nat := 15
abbrev nX2_findSize : Nat := 16
abbrev nX2_findStart : Nat := 17
abbrev nX2_findRate : Nat := 18
abbrev nX2_findLeast : Nat := 19
abbrev nX2_suffices : Nat := 20
abbrev nX2_findConstant : Nat := 21
abbrev nX2_findDemand : Nat := 22
abbrev nX3_init : Nat := 23
abbrev nX3_arrange : Nat := 24
abbrev nX3_findStarts : Nat := 25
abbrev nX3_measureGroups : Nat := 26
abbrev nX3_chooseTypes : Nat := 27
abbrev nX3_isMultiple : Nat := 28
abbrev nX3_putInOrder : Nat := 29
abbrev nX3_putAt : Nat := 30
abbrev nX3_weighWorks : Nat := 31
abbrev nX3_workOf : Nat := 32
abbrev nX3_firstOfScene : Nat := 33
abbrev nX3_framesOfScene : Nat := 34
abbrev nX3_groupsOfScene : Nat := 35
abbrev nX4_init : Nat := 36
abbrev nX4_planConstant : Nat := 37
abbrev nX4_planControlled : Nat := 38
abbrev nX4_offsetOf : Nat := 39
abbrev nX4_planDistributed : Nat := 40
abbrev nX4_weighShares : Nat := 41
abbrev nX4_leastWithin : Nat := 42
abbrev nX4_rootOf : Nat := 43
abbrev nX5_init : Nat := 44
abbrev nX5_smoothen : Nat := 45
abbrev nX5_mend : Nat := 46
abbrev nX5_cheapestRaise : Nat := 47
abbrev nX5_raise : Nat := 48
abbrev nX5_weighRaise : Nat := 49
abbrev nX5_nextOf : Nat := 50
abbrev nX5_loosen : Nat := 51
abbrev nX5_greatestGain : Nat := 52
abbrev nX5_canLower : Nat := 53
abbrev nX5_lower : Nat := 54
abbrev nX5_weighLowering : Nat := 55
abbrev nX6_init : Nat := 56
abbrev nX6_bitsOf : Nat := 57
abbrev nX6_lossOf : Nat := 58
abbrev nX6_weightOf : Nat := 59
abbrev nX7_init : Nat := 60
abbrev nX7_copyFrom : Nat := 61
abbrev nX8_init : Nat := 62
abbrev nX8_putZone : Nat := 63
abbrev nX8_settle : Nat := 64
abbrev nX8_copyFrom : Nat := 65
abbrev nX9_init : Nat := 66
abbrev nX10_init : Nat := 67
abbrev nX10_add : Nat := 68
abbrev nX10_letterAt : Nat := 69
abbrev nX10_readClip : Nat := 70
abbrev nX10_readRun : Nat := 71
abbrev nX10_readSign : Nat := 72
abbrev nX10_readNumber : Nat := 73
abbrev nX10_skipBlanks : Nat := 74
abbrev nX11_init : Nat := 75
abbrev nX11_append : Nat := 76
abbrev nX11_set : Nat := 77
abbrev nX11_drop : Nat := 78
abbrev nX11_type : Nat := 79
abbrev nX11_clear : Nat := 80
abbrev nX11_load : Nat := 81
abbrev nX11_frame : Nat := 82
abbrev nX11_coded : Nat := 83
abbrev nX11_setInterval : Nat := 84
abbrev nX11_setBridges : Nat := 85
abbrev nX11_setWeight : Nat := 86
abbrev nX11_setRange : Nat := 87
abbrev nX11_setBuffer : Nat := 88
abbrev nX11_setRate : Nat := 89
abbrev nX11_addZone : Nat := 90
abbrev nX11_clearZones : Nat := 91
abbrev nX11_bitsAt : Nat := 92
abbrev nX11_lossAt : Nat := 93
abbrev nX11_constant : Nat := 94
abbrev nX11_control : Nat := 95
abbrev nX11_distribute : Nat := 96
abbrev nX11_smooth : Nat := 97
abbrev nX11_repair : Nat := 98
abbrev nX11_relax : Nat := 99
abbrev nX11_adjust : Nat := 100
abbrev nX11_planned : Nat := 101
abbrev nX11_total : Nat := 102
abbrev nX11_scene : Nat := 103
abbrev nX11_leastSize : Nat := 104
abbrev nX11_leastStart : Nat := 105
abbrev nX11_leastRate : Nat := 106
abbrev nX11_bestConstant : Nat := 107
abbrev nX11_demand : Nat := 108
abbrev nX11_save : Nat := 109
abbrev nX11_restore : Nat := 110
abbrev nX11_count : Nat := 111
abbrev nX11_digest : Nat := 112
abbrev nX11_hashFrame : Nat := 113
abbrev nX11_arrangeAnew : Nat := 114
abbrev nX11_underflowsOfNewPlan : Nat := 115
abbrev nX11_followedFrame : Nat := 116
abbrev nX11_followedTotal : Nat := 117
abbrev nX11_changesOfPlan : Nat := 118
abbrev nX11_bitsOfScene : Nat := 119
abbrev nX11_meanOfScene : Nat := 120
abbrev nX11_isFrame : Nat := 121
abbrev nX11_isPicture : Nat := 122
abbrev nX11_isQuantizer : Nat := 123
abbrev nX11_within : Nat := 124
abbrev nX11_limit : Nat := 125
abbrev nX11_at : Nat := 126
abbrev nX11_at_ : Nat := 127
abbrev nX11_put : Nat := 128
abbrev nX11_put_ : Nat := 129
abbrev nX11_copyRow : Nat := 130
abbrev nX11_ratio : Nat := 131
abbrev nX12_init : Nat := 132
abbrev nX12_in : Nat := 133
abbrev nX12_limited : Nat := 134
abbrev nX12_isFrame : Nat := 135
abbrev nX12_isCut : Nat := 136
abbrev nX12_findsIntra : Nat := 137
abbrev nX12_groupSize : Nat := 138
abbrev nX12_findsTypes : Nat := 139
abbrev nX12_step : Nat := 140
abbrev nX12_work : Nat := 141
abbrev nX12_bits : Nat := 142
abbrev nX12_weight : Nat := 143
abbrev nX12_loss : Nat := 144
abbrev nX12_settled : Nat := 145
abbrev nX12_passes : Nat := 146
abbrev nX12_runs : Nat := 147
abbrev nX12_runsAsSet : Nat := 148
abbrev nX12_underflowsNow : Nat := 149
abbrev nX12_forgets : Nat := 150
abbrev nX12_append : Nat := 151
abbrev nX12_set : Nat := 152
abbrev nX12_drop : Nat := 153
abbrev nX12_type : Nat := 154
abbrev nX12_clear : Nat := 155
abbrev nX12_byteAt : Nat := 156
abbrev nX12_skips : Nat := 157
abbrev nX12_fails : Nat := 158
abbrev nX12_reads1 : Nat := 159
abbrev nX12_readsRun : Nat := 160
abbrev nX12_readsAll : Nat := 161
abbrev nX12_load : Nat := 162
abbrev nX12_frame : Nat := 163
abbrev nX12_coded : Nat := 164
abbrev nX12_sets : Nat := 165
abbrev nX12_setInterval : Nat := 166
abbrev nX12_setBridges : Nat := 167
abbrev nX12_setWeight : Nat := 168
abbrev nX12_setRange : Nat := 169
abbrev nX12_setBuffer : Nat := 170
abbrev nX12_setRate : Nat := 171
abbrev nX12_addZone : Nat := 172
abbrev nX12_clearZones : Nat := 173
abbrev nX12_bitsAt : Nat := 174
abbrev nX12_lossAt : Nat := 175
abbrev nX12_byType : Nat := 176
abbrev nX12_plansConstant : Nat := 177
abbrev nX12_constant : Nat := 178
abbrev nX12_control : Nat := 179
abbrev nX12_root : Nat := 180
abbrev nX12_share : Nat := 181
abbrev nX12_leastWithin : Nat := 182
abbrev nX12_distribute : Nat := 183
abbrev nX12_smooth : Nat := 184
abbrev nX12_nextQuantizer : Nat := 185
abbrev nX12_costOf : Nat := 186
abbrev nX12_cheapest : Nat := 187
abbrev nX12_firstUnderflow : Nat := 188
abbrev nX12_repair : Nat := 189
abbrev nX12_allBits : Nat := 190
abbrev nX12_gainOf : Nat := 191
abbrev nX12_relax : Nat := 192
abbrev nX12_adjust : Nat := 193
abbrev nX12_part : Nat := 194
abbrev nX12_planned : Nat := 195
abbrev nX12_change : Nat := 196
abbrev nX12_sumOf : Nat := 197
abbrev nX12_total : Nat := 198
abbrev nX12_scene : Nat := 199
abbrev nX12_isDry : Nat := 200
abbrev nX12_leastSize : Nat := 201
abbrev nX12_leastStart : Nat := 202
abbrev nX12_leastRate : Nat := 203
abbrev nX12_bestConstant : Nat := 204
abbrev nX12_demand : Nat := 205
abbrev nX12_save : Nat := 206
abbrev nX12_restore : Nat := 207
abbrev nX12_counted : Nat := 208
abbrev nX12_count : Nat := 209
abbrev nX12_mixes : Nat := 210
abbrev nX12_digest : Nat := 211
abbrev nL_law : Nat := 212
/-! the shape of the world behind the makings: a role each cell -/
abbrev zKd : Type := Nat × Nat × List (Nat × Nat)
def zSh : List zKd := [(0, 11, [(0, 1), (0, 4), (0, 9), (0, 11), (0, 16), (0, 24), (0, 26), (0, 32), (0, 34), (0, 39), (0, 41), (0, 52)]), (0, 0, [(1, 0), (0, 2), (0, 3)]), (1, 60, []), (1, 60, []), (0, 8, [(1, 0), (1, 0), (1, 0), (1, 0), (1, 0), (1, 0), (1, 0), (1, 0), (0, 5), (0, 6), (0, 7), (0, 8)]), (1, 60, []), (1, 6, []), (1, 6, []), (1, 6, []), (0, 7, [(2, 0), (0, 10)]), (1, 60, []), (0, 10, [(1, 0), (0, 12), (0, 15), (1, 0), (1, 0), (1, 0)]), (0, 0, [(1, 0), (0, 13), (0, 14)]), (1, 60, []), (1, 60, []), (1, 100, []), (0, 3, [(1, 0), (1, 0), (1, 0), (0, 17), (0, 18), (0, 19), (0, 20), (0, 21), (0, 22), (0, 23)]), (1, 60, []), (1, 60, []), (1, 60, []), (1, 60, []), (1, 60, []), (1, 60, []), (1, 60, []), (0, 6, [(0, 16), (0, 4), (0, 25)]), (1, 52, []), (0, 1, [(1, 0), (0, 27), (0, 28), (0, 29), (0, 30), (0, 31), (0, 24), (1, 0), (1, 0), (1, 0)]), (1, 60, []), (1, 60, []), (1, 60, []), (1, 60, []), (1, 60, []), (0, 4, [(0, 24), (0, 4), (0, 16), (0, 26), (0, 33)]), (1, 60, []), (0, 5, [(0, 24), (0, 4), (0, 16), (0, 26), (0, 35), (0, 36), (0, 37), (0, 38)]), (1, 60, []), (1, 60, []), (2, 60, []), (2, 60, []), (0, 2, [(0, 4), (0, 16), (0, 26), (0, 32), (0, 40)]), (1, 60, []), (0, 9, [(2, 0), (0, 42), (0, 45), (0, 50)]), (0, 0, [(1, 0), (0, 43), (0, 44)]), (1, 60, []), (1, 60, []), (0, 8, [(1, 0), (1, 0), (1, 0), (1, 0), (1, 0), (1, 0), (1, 0), (1, 0), (0, 46), (0, 47), (0, 48), (0, 49)]), (1, 60, []), (1, 6, []), (1, 6, []), (1, 6, []), (0, 7, [(2, 0), (0, 51)]), (1, 60, []), (0, 9, [(2, 0), (0, 53), (0, 56), (0, 61)]), (0, 0, [(1, 0), (0, 54), (0, 55)]), (1, 60, []), (1, 60, []), (0, 8, [(1, 0), (1, 0), (1, 0), (1, 0), (1, 0), (1, 0), (1, 0), (1, 0), (0, 57), (0, 58), (0, 59), (0, 60)]), (1, 60, []), (1, 6, []), (1, 6, []), (1, 6, []), (0, 7, [(2, 0), (0, 62)]), (1, 60, []), (0, 12, [(0, 64), (0, 65), (0, 66), (0, 67), (0, 68), (0, 69), (0, 70), (0, 71), (1, 0), (1, 0), (0, 72), (0, 73), (0, 74), (0, 75), (1, 0), (0, 76), (1, 0), (1, 0), (1, 0), (0, 77), (0, 78), (1, 0), (0, 79), (3, 0)]), (1, 268, []), (1, 536, []), (1, 2, []), (1, 60, []), (1, 60, []), (1, 60, []), (1, 60, []), (1, 60, []), (1, 60, []), (1, 60, []), (1, 60, []), (1, 60, []), (1, 100, []), (1, 60, []), (1, 60, []), (1, 60, [])]
end
section
/-! the tables as the small machine reads them, and what a program checks of them -/
def zMe (mi : Nat) : zMr := zMt.getD mi (⟨"", "", ""⟩, ⟨#[]⟩, 0, none, 99, false, 0, 0, 0, 0)
def zY (mi : Nat) : MethodName := (zMe mi).1
def zBy (mi : Nat) : ByteArray := (zMe mi).2.1
def zMl (mi : Nat) : Nat := (zMe mi).2.2.1
def zRt (mi : Nat) : Option FieldType := (zMe mi).2.2.2.1
def zMc (mi : Nat) : Nat := (zMe mi).2.2.2.2.1
def zMs (mi : Nat) : Bool := (zMe mi).2.2.2.2.2.1
def zP1 (mi : Nat) : Nat := (zMe mi).2.2.2.2.2.2.1
def zP2 (mi : Nat) : Nat := (zMe mi).2.2.2.2.2.2.2.1
def zP3 (mi : Nat) : Nat := (zMe mi).2.2.2.2.2.2.2.2.1
def zP4 (mi : Nat) : Nat := (zMe mi).2.2.2.2.2.2.2.2.2
def zCl (a : Nat) : vw_C := vwCl.getD a ("", fun _ => ("", "", "", false), 0)
def zNst : Cond → Bool
  | .methodLinkNest .. => true
  | .fieldLinkNest .. => true
  | _ => false
def zTg : List Cond := lw_tbl.filter goodWord
def zNw : List Cond := lw_tbl.filter zNst
theorem zin (p : Nat) {w : Cond} (h : lw_tbl[p]? = some w) (hg : goodWord w = true) : w ∈ zTg := List.mem_filter.mpr ⟨List.mem_of_getElem? h, hg⟩
theorem zinN (p : Nat) {w : Cond} (h : lw_tbl[p]? = some w) (hg : zNst w = true) : w ∈ zNw := List.mem_filter.mpr ⟨List.mem_of_getElem? h, hg⟩
theorem zTg_good {w : Cond} (h : w ∈ zTg) : w ∈ lw_tbl ∧ ((w.onTables && w.keeps) = true ∨ ∃ ty, w = .arrayClass ty) := ⟨(List.mem_filter.mp h).1, good_of_word (List.mem_filter.mp h).2⟩
def zNoH (y : MethodName) : Bool := decide (y.cls ≠ "java/lang/invoke/MethodHandle") && decide (y.cls ≠ "java/lang/invoke/VarHandle")
/-- a method's own row is true -/
def zMv (mi : Nat) : Bool := decide (lw_tbl[zP1 mi]? = some (.code (zY mi) (zBy mi) (zMl mi) (zRt mi))) && decide (lw_tbl[zP4 mi]? = some (.initialized (zY mi).cls)) && zNoH (zY mi) && plainName (zY mi).cls && Nat.ble (zMl mi) 13 &&
  (match zMs mi with
  | true => decide (lw_tbl[zP2 mi]? = some (.static (zY mi)))
  | false => decide (lw_tbl[zP2 mi]? = some (.instanceMethod (zY mi))) && (decide ((zY mi).name = "<init>") || decide (lw_tbl[zP3 mi]? = some (.selects (zY mi).cls (zY mi) (zY mi)))) && Nat.blt (zMc mi) 13 && decide ((zCl (zMc mi)).1 = (zY mi).cls))
/-- a class's row is true -/
def zCv (q : vw_C) : Bool := (u_ws q.1 q.2.1 q.2.2).all (fun w => decide (w ∈ lw_tbl) && goodWord w) && (List.range q.2.2).all fun k => (parseFieldDescriptor (q.2.1 k).2.2.1).isSome && (List.range q.2.2).all fun j => Nat.beq j k || decide ((q.2.1 j).2.1 ≠ (q.2.1 k).2.1)
end
section
theorem zv0 : zMv 0 = true := by decide +kernel
theorem zv1 : zMv 1 = true := by decide +kernel
theorem zv2 : zMv 2 = true := by decide +kernel
theorem zv3 : zMv 3 = true := by decide +kernel
theorem zv4 : zMv 4 = true := by decide +kernel
theorem zv5 : zMv 5 = true := by decide +kernel
theorem zv6 : zMv 6 = true := by decide +kernel
theorem zv7 : zMv 7 = true := by decide +kernel
theorem zv8 : zMv 8 = true := by decide +kernel
theorem zv9 : zMv 9 = true := by decide +kernel
theorem zv10 : zMv 10 = true := by decide +kernel
theorem zv11 : zMv 11 = true := by decide +kernel
theorem zv12 : zMv 12 = true := by decide +kernel
theorem zv13 : zMv 13 = true := by decide +kernel
theorem zv14 : zMv 14 = true := by decide +kernel
theorem zv15 : zMv 15 = true := by decide +kernel
theorem zv16 : zMv 16 = true := by decide +kernel
theorem zv17 : zMv 17 = true := by decide +kernel
theorem zv18 : zMv 18 = true := by decide +kernel
theorem zv19 : zMv 19 = true := by decide +kernel
theorem zv20 : zMv 20 = true := by decide +kernel
theorem zv21 : zMv 21 = true := by decide +kernel
theorem zv22 : zMv 22 = true := by decide +kernel
theorem zv23 : zMv 23 = true := by decide +kernel
theorem zv24 : zMv 24 = true := by decide +kernel
theorem zv25 : zMv 25 = true := by decide +kernel
theorem zv26 : zMv 26 = true := by decide +kernel
theorem zv27 : zMv 27 = true := by decide +kernel
theorem zv28 : zMv 28 = true := by decide +kernel
theorem zv29 : zMv 29 = true := by decide +kernel
theorem zv30 : zMv 30 = true := by decide +kernel
theorem zv31 : zMv 31 = true := by decide +kernel
theorem zv32 : zMv 32 = true := by decide +kernel
theorem zv33 : zMv 33 = true := by decide +kernel
theorem zv34 : zMv 34 = true := by decide +kernel
theorem zv35 : zMv 35 = true := by decide +kernel
theorem zv36 : zMv 36 = true := by decide +kernel
theorem zv37 : zMv 37 = true := by decide +kernel
theorem zv38 : zMv 38 = true := by decide +kernel
theorem zv39 : zMv 39 = true := by decide +kernel
theorem zv40 : zMv 40 = true := by decide +kernel
theorem zv41 : zMv 41 = true := by decide +kernel
theorem zv42 : zMv 42 = true := by decide +kernel
theorem zv43 : zMv 43 = true := by decide +kernel
theorem zv44 : zMv 44 = true := by decide +kernel
theorem zv45 : zMv 45 = true := by decide +kernel
theorem zv46 : zMv 46 = true := by decide +kernel
theorem zv47 : zMv 47 = true := by decide +kernel
theorem zv48 : zMv 48 = true := by decide +kernel
theorem zv49 : zMv 49 = true := by decide +kernel
theorem zv50 : zMv 50 = true := by decide +kernel
theorem zv51 : zMv 51 = true := by decide +kernel
theorem zv52 : zMv 52 = true := by decide +kernel
theorem zv53 : zMv 53 = true := by decide +kernel
theorem zv54 : zMv 54 = true := by decide +kernel
theorem zv55 : zMv 55 = true := by decide +kernel
theorem zv56 : zMv 56 = true := by decide +kernel
theorem zv57 : zMv 57 = true := by decide +kernel
theorem zv58 : zMv 58 = true := by decide +kernel
theorem zv59 : zMv 59 = true := by decide +kernel
theorem zv60 : zMv 60 = true := by decide +kernel
theorem zv61 : zMv 61 = true := by decide +kernel
theorem zv62 : zMv 62 = true := by decide +kernel
theorem zv63 : zMv 63 = true := by decide +kernel
theorem zv64 : zMv 64 = true := by decide +kernel
theorem zv65 : zMv 65 = true := by decide +kernel
theorem zv66 : zMv 66 = true := by decide +kernel
theorem zv67 : zMv 67 = true := by decide +kernel
theorem zv68 : zMv 68 = true := by decide +kernel
theorem zv69 : zMv 69 = true := by decide +kernel
theorem zv70 : zMv 70 = true := by decide +kernel
theorem zv71 : zMv 71 = true := by decide +kernel
theorem zv72 : zMv 72 = true := by decide +kernel
theorem zv73 : zMv 73 = true := by decide +kernel
theorem zv74 : zMv 74 = true := by decide +kernel
theorem zv75 : zMv 75 = true := by decide +kernel
theorem zv76 : zMv 76 = true := by decide +kernel
theorem zv77 : zMv 77 = true := by decide +kernel
theorem zv78 : zMv 78 = true := by decide +kernel
theorem zv79 : zMv 79 = true := by decide +kernel
theorem zv80 : zMv 80 = true := by decide +kernel
theorem zv81 : zMv 81 = true := by decide +kernel
theorem zv82 : zMv 82 = true := by decide +kernel
theorem zv83 : zMv 83 = true := by decide +kernel
theorem zv84 : zMv 84 = true := by decide +kernel
theorem zv85 : zMv 85 = true := by decide +kernel
theorem zv86 : zMv 86 = true := by decide +kernel
theorem zv87 : zMv 87 = true := by decide +kernel
theorem zv88 : zMv 88 = true := by decide +kernel
theorem zv89 : zMv 89 = true := by decide +kernel
theorem zv90 : zMv 90 = true := by decide +kernel
theorem zv91 : zMv 91 = true := by decide +kernel
theorem zv92 : zMv 92 = true := by decide +kernel
theorem zv93 : zMv 93 = true := by decide +kernel
theorem zv94 : zMv 94 = true := by decide +kernel
theorem zv95 : zMv 95 = true := by decide +kernel
theorem zv96 : zMv 96 = true := by decide +kernel
theorem zv97 : zMv 97 = true := by decide +kernel
theorem zv98 : zMv 98 = true := by decide +kernel
theorem zv99 : zMv 99 = true := by decide +kernel
theorem zv100 : zMv 100 = true := by decide +kernel
theorem zv101 : zMv 101 = true := by decide +kernel
theorem zv102 : zMv 102 = true := by decide +kernel
theorem zv103 : zMv 103 = true := by decide +kernel
theorem zv104 : zMv 104 = true := by decide +kernel
theorem zv105 : zMv 105 = true := by decide +kernel
theorem zv106 : zMv 106 = true := by decide +kernel
theorem zv107 : zMv 107 = true := by decide +kernel
theorem zv108 : zMv 108 = true := by decide +kernel
theorem zv109 : zMv 109 = true := by decide +kernel
theorem zv110 : zMv 110 = true := by decide +kernel
theorem zv111 : zMv 111 = true := by decide +kernel
theorem zv112 : zMv 112 = true := by decide +kernel
theorem zv113 : zMv 113 = true := by decide +kernel
theorem zv114 : zMv 114 = true := by decide +kernel
theorem zv115 : zMv 115 = true := by decide +kernel
theorem zv116 : zMv 116 = true := by decide +kernel
theorem zv117 : zMv 117 = true := by decide +kernel
theorem zv118 : zMv 118 = true := by decide +kernel
theorem zv119 : zMv 119 = true := by decide +kernel
theorem zv120 : zMv 120 = true := by decide +kernel
theorem zv121 : zMv 121 = true := by decide +kernel
theorem zv122 : zMv 122 = true := by decide +kernel
theorem zv123 : zMv 123 = true := by decide +kernel
theorem zv124 : zMv 124 = true := by decide +kernel
theorem zv125 : zMv 125 = true := by decide +kernel
theorem zv126 : zMv 126 = true := by decide +kernel
theorem zv127 : zMv 127 = true := by decide +kernel
theorem zv128 : zMv 128 = true := by decide +kernel
theorem zv129 : zMv 129 = true := by decide +kernel
theorem zv130 : zMv 130 = true := by decide +kernel
theorem zv131 : zMv 131 = true := by decide +kernel
theorem zv132 : zMv 132 = true := by decide +kernel
theorem zv133 : zMv 133 = true := by decide +kernel
theorem zv134 : zMv 134 = true := by decide +kernel
theorem zv135 : zMv 135 = true := by decide +kernel
theorem zv136 : zMv 136 = true := by decide +kernel
theorem zv137 : zMv 137 = true := by decide +kernel
theorem zv138 : zMv 138 = true := by decide +kernel
theorem zv139 : zMv 139 = true := by decide +kernel
theorem zv140 : zMv 140 = true := by decide +kernel
theorem zv141 : zMv 141 = true := by decide +kernel
theorem zv142 : zMv 142 = true := by decide +kernel
theorem zv143 : zMv 143 = true := by decide +kernel
theorem zv144 : zMv 144 = true := by decide +kernel
theorem zv145 : zMv 145 = true := by decide +kernel
theorem zv146 : zMv 146 = true := by decide +kernel
theorem zv147 : zMv 147 = true := by decide +kernel
theorem zv148 : zMv 148 = true := by decide +kernel
theorem zv149 : zMv 149 = true := by decide +kernel
theorem zv150 : zMv 150 = true := by decide +kernel
theorem zv151 : zMv 151 = true := by decide +kernel
theorem zv152 : zMv 152 = true := by decide +kernel
theorem zv153 : zMv 153 = true := by decide +kernel
theorem zv154 : zMv 154 = true := by decide +kernel
theorem zv155 : zMv 155 = true := by decide +kernel
theorem zv156 : zMv 156 = true := by decide +kernel
theorem zv157 : zMv 157 = true := by decide +kernel
theorem zv158 : zMv 158 = true := by decide +kernel
theorem zv159 : zMv 159 = true := by decide +kernel
theorem zv160 : zMv 160 = true := by decide +kernel
theorem zv161 : zMv 161 = true := by decide +kernel
theorem zv162 : zMv 162 = true := by decide +kernel
theorem zv163 : zMv 163 = true := by decide +kernel
theorem zv164 : zMv 164 = true := by decide +kernel
theorem zv165 : zMv 165 = true := by decide +kernel
theorem zv166 : zMv 166 = true := by decide +kernel
theorem zv167 : zMv 167 = true := by decide +kernel
theorem zv168 : zMv 168 = true := by decide +kernel
theorem zv169 : zMv 169 = true := by decide +kernel
theorem zv170 : zMv 170 = true := by decide +kernel
theorem zv171 : zMv 171 = true := by decide +kernel
theorem zv172 : zMv 172 = true := by decide +kernel
theorem zv173 : zMv 173 = true := by decide +kernel
theorem zv174 : zMv 174 = true := by decide +kernel
theorem zv175 : zMv 175 = true := by decide +kernel
theorem zv176 : zMv 176 = true := by decide +kernel
theorem zv177 : zMv 177 = true := by decide +kernel
theorem zv178 : zMv 178 = true := by decide +kernel
theorem zv179 : zMv 179 = true := by decide +kernel
theorem zv180 : zMv 180 = true := by decide +kernel
theorem zv181 : zMv 181 = true := by decide +kernel
theorem zv182 : zMv 182 = true := by decide +kernel
theorem zv183 : zMv 183 = true := by decide +kernel
theorem zv184 : zMv 184 = true := by decide +kernel
theorem zv185 : zMv 185 = true := by decide +kernel
theorem zv186 : zMv 186 = true := by decide +kernel
theorem zv187 : zMv 187 = true := by decide +kernel
theorem zv188 : zMv 188 = true := by decide +kernel
theorem zv189 : zMv 189 = true := by decide +kernel
theorem zv190 : zMv 190 = true := by decide +kernel
theorem zv191 : zMv 191 = true := by decide +kernel
theorem zv192 : zMv 192 = true := by decide +kernel
theorem zv193 : zMv 193 = true := by decide +kernel
theorem zv194 : zMv 194 = true := by decide +kernel
theorem zv195 : zMv 195 = true := by decide +kernel
theorem zv196 : zMv 196 = true := by decide +kernel
theorem zv197 : zMv 197 = true := by decide +kernel
theorem zv198 : zMv 198 = true := by decide +kernel
theorem zv199 : zMv 199 = true := by decide +kernel
theorem zv200 : zMv 200 = true := by decide +kernel
theorem zv201 : zMv 201 = true := by decide +kernel
theorem zv202 : zMv 202 = true := by decide +kernel
theorem zv203 : zMv 203 = true := by decide +kernel
theorem zv204 : zMv 204 = true := by decide +kernel
theorem zv205 : zMv 205 = true := by decide +kernel
theorem zv206 : zMv 206 = true := by decide +kernel
theorem zv207 : zMv 207 = true := by decide +kernel
theorem zv208 : zMv 208 = true := by decide +kernel
theorem zv209 : zMv 209 = true := by decide +kernel
theorem zv210 : zMv 210 = true := by decide +kernel
theorem zv211 : zMv 211 = true := by decide +kernel
theorem zvr0 : ∀ q ∈ [0, 1, 2, 3, 4, 5, 6, 7, 8, 9, 10, 11, 12, 13, 14, 15], zMv q = true := List.forall_mem_cons.mpr ⟨zv0, List.forall_mem_cons.mpr ⟨zv1, List.forall_mem_cons.mpr ⟨zv2, List.forall_mem_cons.mpr ⟨zv3, List.forall_mem_cons.mpr ⟨zv4, List.forall_mem_cons.mpr ⟨zv5, List.forall_mem_cons.mpr ⟨zv6, List.forall_mem_cons.mpr ⟨zv7, List.forall_mem_cons.mpr ⟨zv8, List.forall_mem_cons.mpr ⟨zv9, List.forall_mem_cons.mpr ⟨zv10, List.forall_mem_cons.mpr ⟨zv11, List.forall_mem_cons.mpr ⟨zv12, List.forall_mem_cons.mpr ⟨zv13, List.forall_mem_cons.mpr ⟨zv14, List.forall_mem_cons.mpr ⟨zv15, fun _ h => absurd h List.not_mem_nil⟩⟩⟩⟩⟩⟩⟩⟩⟩⟩⟩⟩⟩⟩⟩⟩
theorem zvr1 : ∀ q ∈ [16, 17, 18, 19, 20, 21, 22, 23, 24, 25, 26, 27, 28, 29, 30, 31], zMv q = true := List.forall_mem_cons.mpr ⟨zv16, List.forall_mem_cons.mpr ⟨zv17, List.forall_mem_cons.mpr ⟨zv18, List.forall_mem_cons.mpr ⟨zv19, List.forall_mem_cons.mpr ⟨zv20, List.forall_mem_cons.mpr ⟨zv21, List.forall_mem_cons.mpr ⟨zv22, List.forall_mem_cons.mpr ⟨zv23, List.forall_mem_cons.mpr ⟨zv24, List.forall_mem_cons.mpr ⟨zv25, List.forall_mem_cons.mpr ⟨zv26, List.forall_mem_cons.mpr ⟨zv27, List.forall_mem_cons.mpr ⟨zv28, List.forall_mem_cons.mpr ⟨zv29, List.forall_mem_cons.mpr ⟨zv30, List.forall_mem_cons.mpr ⟨zv31, fun _ h => absurd h List.not_mem_nil⟩⟩⟩⟩⟩⟩⟩⟩⟩⟩⟩⟩⟩⟩⟩⟩
theorem zvr2 : ∀ q ∈ [32, 33, 34, 35, 36, 37, 38, 39, 40, 41, 42, 43, 44, 45, 46, 47], zMv q = true := List.forall_mem_cons.mpr ⟨zv32, List.forall_mem_cons.mpr ⟨zv33, List.forall_mem_cons.mpr ⟨zv34, List.forall_mem_cons.mpr ⟨zv35, List.forall_mem_cons.mpr ⟨zv36, List.forall_mem_cons.mpr ⟨zv37, List.forall_mem_cons.mpr ⟨zv38, List.forall_mem_cons.mpr ⟨zv39, List.forall_mem_cons.mpr ⟨zv40, List.forall_mem_cons.mpr ⟨zv41, List.forall_mem_cons.mpr ⟨zv42, List.forall_mem_cons.mpr ⟨zv43, List.forall_mem_cons.mpr ⟨zv44, List.forall_mem_cons.mpr ⟨zv45, List.forall_mem_cons.mpr ⟨zv46, List.forall_mem_cons.mpr ⟨zv47, fun _ h => absurd h List.not_mem_nil⟩⟩⟩⟩⟩⟩⟩⟩⟩⟩⟩⟩⟩⟩⟩⟩
theorem zvr3 : ∀ q ∈ [48, 49, 50, 51, 52, 53, 54, 55, 56, 57, 58, 59, 60, 61, 62, 63], zMv q = true := List.forall_mem_cons.mpr ⟨zv48, List.forall_mem_cons.mpr ⟨zv49, List.forall_mem_cons.mpr ⟨zv50, List.forall_mem_cons.mpr ⟨zv51, List.forall_mem_cons.mpr ⟨zv52, List.forall_mem_cons.mpr ⟨zv53, List.forall_mem_cons.mpr ⟨zv54, List.forall_mem_cons.mpr ⟨zv55, List.forall_mem_cons.mpr ⟨zv56, List.forall_mem_cons.mpr ⟨zv57, List.forall_mem_cons.mpr ⟨zv58, List.forall_mem_cons.mpr ⟨zv59, List.forall_mem_cons.mpr ⟨zv60, List.forall_mem_cons.mpr ⟨zv61, List.forall_mem_cons.mpr ⟨zv62, List.forall_mem_cons.mpr ⟨zv63, fun _ h => absurd h List.not_mem_nil⟩⟩⟩⟩⟩⟩⟩⟩⟩⟩⟩⟩⟩⟩⟩⟩
theorem zvr4 : ∀ q ∈ [64, 65, 66, 67, 68, 69, 70, 71, 72, 73, 74, 75, 76, 77, 78, 79], zMv q = true := List.forall_mem_cons.mpr ⟨zv64, List.forall_mem_cons.mpr ⟨zv65, List.forall_mem_cons.mpr ⟨zv66, List.forall_mem_cons.mpr ⟨zv67, List.forall_mem_cons.mpr ⟨zv68, List.forall_mem_cons.mpr ⟨zv69, List.forall_mem_cons.mpr ⟨zv70, List.forall_mem_cons.mpr ⟨zv71, List.forall_mem_cons.mpr ⟨zv72, List.forall_mem_cons.mpr ⟨zv73, List.forall_mem_cons.mpr ⟨zv74, List.forall_mem_cons.mpr ⟨zv75, List.forall_mem_cons.mpr ⟨zv76, List.forall_mem_cons.mpr ⟨zv77, List.forall_mem_cons.mpr ⟨zv78, List.forall_mem_cons.mpr ⟨zv79, fun _ h => absurd h List.not_mem_nil⟩⟩⟩⟩⟩⟩⟩⟩⟩⟩⟩⟩⟩⟩⟩⟩
theorem zvr5 : ∀ q ∈ [80, 81, 82, 83, 84, 85, 86, 87, 88, 89, 90, 91, 92, 93, 94, 95], zMv q = true := List.forall_mem_cons.mpr ⟨zv80, List.forall_mem_cons.mpr ⟨zv81, List.forall_mem_cons.mpr ⟨zv82, List.forall_mem_cons.mpr ⟨zv83, List.forall_mem_cons.mpr ⟨zv84, List.forall_mem_cons.mpr ⟨zv85, List.forall_mem_cons.mpr ⟨zv86, List.forall_mem_cons.mpr ⟨zv87, List.forall_mem_cons.mpr ⟨zv88, List.forall_mem_cons.mpr ⟨zv89, List.forall_mem_cons.mpr ⟨zv90, List.forall_mem_cons.mpr ⟨zv91, List.forall_mem_cons.mpr ⟨zv92, List.forall_mem_cons.mpr ⟨zv93, List.forall_mem_cons.mpr ⟨zv94, List.forall_mem_cons.mpr ⟨zv95, fun _ h => absurd h List.not_mem_nil⟩⟩⟩⟩⟩⟩⟩⟩⟩⟩⟩⟩⟩⟩⟩⟩
theorem zvr6 : ∀ q ∈ [96, 97, 98, 99, 100, 101, 102, 103, 104, 105, 106, 107, 108, 109, 110, 111], zMv q = true := List.forall_mem_cons.mpr ⟨zv96, List.forall_mem_cons.mpr ⟨zv97, List.forall_mem_cons.mpr ⟨zv98, List.forall_mem_cons.mpr ⟨zv99, List.forall_mem_cons.mpr ⟨zv100, List.forall_mem_cons.mpr ⟨zv101, List.forall_mem_cons.mpr ⟨zv102, List.forall_mem_cons.mpr ⟨zv103, List.forall_mem_cons.mpr ⟨zv104, List.forall_mem_cons.mpr ⟨zv105, List.forall_mem_cons.mpr ⟨zv106, List.forall_mem_cons.mpr ⟨zv107, List.forall_mem_cons.mpr ⟨zv108, List.forall_mem_cons.mpr ⟨zv109, List.forall_mem_cons.mpr ⟨zv110, List.forall_mem_cons.mpr ⟨zv111, fun _ h => absurd h List.not_mem_nil⟩⟩⟩⟩⟩⟩⟩⟩⟩⟩⟩⟩⟩⟩⟩⟩
theorem zvr7 : ∀ q ∈ [112, 113, 114, 115, 116, 117, 118, 119, 120, 121, 122, 123, 124, 125, 126, 127], zMv q = true := List.forall_mem_cons.mpr ⟨zv112, List.forall_mem_cons.mpr ⟨zv113, List.forall_mem_cons.mpr ⟨zv114, List.forall_mem_cons.mpr ⟨zv115, List.forall_mem_cons.mpr ⟨zv116, List.forall_mem_cons.mpr ⟨zv117, List.forall_mem_cons.mpr ⟨zv118, List.forall_mem_cons.mpr ⟨zv119, List.forall_mem_cons.mpr ⟨zv120, List.forall_mem_cons.mpr ⟨zv121, List.forall_mem_cons.mpr ⟨zv122, List.forall_mem_cons.mpr ⟨zv123, List.forall_mem_cons.mpr ⟨zv124, List.forall_mem_cons.mpr ⟨zv125, List.forall_mem_cons.mpr ⟨zv126, List.forall_mem_cons.mpr ⟨zv127, fun _ h => absurd h List.not_mem_nil⟩⟩⟩⟩⟩⟩⟩⟩⟩⟩⟩⟩⟩⟩⟩⟩
theorem zvr8 : ∀ q ∈ [128, 129, 130, 131, 132, 133, 134, 135, 136, 137, 138, 139, 140, 141, 142, 143], zMv q = true := List.forall_mem_cons.mpr ⟨zv128, List.forall_mem_cons.mpr ⟨zv129, List.forall_mem_cons.mpr ⟨zv130, List.forall_mem_cons.mpr ⟨zv131, List.forall_mem_cons.mpr ⟨zv132, List.forall_mem_cons.mpr ⟨zv133, List.forall_mem_cons.mpr ⟨zv134, List.forall_mem_cons.mpr ⟨zv135, List.forall_mem_cons.mpr ⟨zv136, List.forall_mem_cons.mpr ⟨zv137, List.forall_mem_cons.mpr ⟨zv138, List.forall_mem_cons.mpr ⟨zv139, List.forall_mem_cons.mpr ⟨zv140, List.forall_mem_cons.mpr ⟨zv141, List.forall_mem_cons.mpr ⟨zv142, List.forall_mem_cons.mpr ⟨zv143, fun _ h => absurd h List.not_mem_nil⟩⟩⟩⟩⟩⟩⟩⟩⟩⟩⟩⟩⟩⟩⟩⟩
theorem zvr9 : ∀ q ∈ [144, 145, 146, 147, 148, 149, 150, 151, 152, 153, 154, 155, 156, 157, 158, 159], zMv q = true := List.forall_mem_cons.mpr ⟨zv144, List.forall_mem_cons.mpr ⟨zv145, List.forall_mem_cons.mpr ⟨zv146, List.forall_mem_cons.mpr ⟨zv147, List.forall_mem_cons.mpr ⟨zv148, List.forall_mem_cons.mpr ⟨zv149, List.forall_mem_cons.mpr ⟨zv150, List.forall_mem_cons.mpr ⟨zv151, List.forall_mem_cons.mpr ⟨zv152, List.forall_mem_cons.mpr ⟨zv153, List.forall_mem_cons.mpr ⟨zv154, List.forall_mem_cons.mpr ⟨zv155, List.forall_mem_cons.mpr ⟨zv156, List.forall_mem_cons.mpr ⟨zv157, List.forall_mem_cons.mpr ⟨zv158, List.forall_mem_cons.mpr ⟨zv159, fun _ h => absurd h List.not_mem_nil⟩⟩⟩⟩⟩⟩⟩⟩⟩⟩⟩⟩⟩⟩⟩⟩
theorem zvr10 : ∀ q ∈ [160, 161, 162, 163, 164, 165, 166, 167, 168, 169, 170, 171, 172, 173, 174, 175], zMv q = true := List.forall_mem_cons.mpr ⟨zv160, List.forall_mem_cons.mpr ⟨zv161, List.forall_mem_cons.mpr ⟨zv162, List.forall_mem_cons.mpr ⟨zv163, List.forall_mem_cons.mpr ⟨zv164, List.forall_mem_cons.mpr ⟨zv165, List.forall_mem_cons.mpr ⟨zv166, List.forall_mem_cons.mpr ⟨zv167, List.forall_mem_cons.mpr ⟨zv168, List.forall_mem_cons.mpr ⟨zv169, List.forall_mem_cons.mpr ⟨zv170, List.forall_mem_cons.mpr ⟨zv171, List.forall_mem_cons.mpr ⟨zv172, List.forall_mem_cons.mpr ⟨zv173, List.forall_mem_cons.mpr ⟨zv174, List.forall_mem_cons.mpr ⟨zv175, fun _ h => absurd h List.not_mem_nil⟩⟩⟩⟩⟩⟩⟩⟩⟩⟩⟩⟩⟩⟩⟩⟩
theorem zvr11 : ∀ q ∈ [176, 177, 178, 179, 180, 181, 182, 183, 184, 185, 186, 187, 188, 189, 190, 191], zMv q = true := List.forall_mem_cons.mpr ⟨zv176, List.forall_mem_cons.mpr ⟨zv177, List.forall_mem_cons.mpr ⟨zv178, List.forall_mem_cons.mpr ⟨zv179, List.forall_mem_cons.mpr ⟨zv180, List.forall_mem_cons.mpr ⟨zv181, List.forall_mem_cons.mpr ⟨zv182, List.forall_mem_cons.mpr ⟨zv183, List.forall_mem_cons.mpr ⟨zv184, List.forall_mem_cons.mpr ⟨zv185, List.forall_mem_cons.mpr ⟨zv186, List.forall_mem_cons.mpr ⟨zv187, List.forall_mem_cons.mpr ⟨zv188, List.forall_mem_cons.mpr ⟨zv189, List.forall_mem_cons.mpr ⟨zv190, List.forall_mem_cons.mpr ⟨zv191, fun _ h => absurd h List.not_mem_nil⟩⟩⟩⟩⟩⟩⟩⟩⟩⟩⟩⟩⟩⟩⟩⟩
theorem zvr12 : ∀ q ∈ [192, 193, 194, 195, 196, 197, 198, 199, 200, 201, 202, 203, 204, 205, 206, 207], zMv q = true := List.forall_mem_cons.mpr ⟨zv192, List.forall_mem_cons.mpr ⟨zv193, List.forall_mem_cons.mpr ⟨zv194, List.forall_mem_cons.mpr ⟨zv195, List.forall_mem_cons.mpr ⟨zv196, List.forall_mem_cons.mpr ⟨zv197, List.forall_mem_cons.mpr ⟨zv198, List.forall_mem_cons.mpr ⟨zv199, List.forall_mem_cons.mpr ⟨zv200, List.forall_mem_cons.mpr ⟨zv201, List.forall_mem_cons.mpr ⟨zv202, List.forall_mem_cons.mpr ⟨zv203, List.forall_mem_cons.mpr ⟨zv204, List.forall_mem_cons.mpr ⟨zv205, List.forall_mem_cons.mpr ⟨zv206, List.forall_mem_cons.mpr ⟨zv207, fun _ h => absurd h List.not_mem_nil⟩⟩⟩⟩⟩⟩⟩⟩⟩⟩⟩⟩⟩⟩⟩⟩
theorem zvr13 : ∀ q ∈ [208, 209, 210, 211], zMv q = true := List.forall_mem_cons.mpr ⟨zv208, List.forall_mem_cons.mpr ⟨zv209, List.forall_mem_cons.mpr ⟨zv210, List.forall_mem_cons.mpr ⟨zv211, fun _ h => absurd h List.not_mem_nil⟩⟩⟩⟩
theorem zvs : ∀ q ∈ [0, 1, 2, 3, 4, 5, 6, 7, 8, 9, 10, 11, 12, 13, 14, 15] ++ ([16, 17, 18, 19, 20, 21, 22, 23, 24, 25, 26, 27, 28, 29, 30, 31] ++ ([32, 33, 34, 35, 36, 37, 38, 39, 40, 41, 42, 43, 44, 45, 46, 47] ++ ([48, 49, 50, 51, 52, 53, 54, 55, 56, 57, 58, 59, 60, 61, 62, 63] ++ ([64, 65, 66, 67, 68, 69, 70, 71, 72, 73, 74, 75, 76, 77, 78, 79] ++ ([80, 81, 82, 83, 84, 85, 86, 87, 88, 89, 90, 91, 92, 93, 94, 95] ++ ([96, 97, 98, 99, 100, 101, 102, 103, 104, 105, 106, 107, 108, 109, 110, 111] ++ ([112, 113, 114, 115, 116, 117, 118, 119, 120, 121, 122, 123, 124, 125, 126, 127] ++ ([128, 129, 130, 131, 132, 133, 134, 135, 136, 137, 138, 139, 140, 141, 142, 143] ++ ([144, 145, 146, 147, 148, 149, 150, 151, 152, 153, 154, 155, 156, 157, 158, 159] ++ ([160, 161, 162, 163, 164, 165, 166, 167, 168, 169, 170, 171, 172, 173, 174, 175] ++ ([176, 177, 178, 179, 180, 181, 182, 183, 184, 185, 186, 187, 188, 189, 190, 191] ++ ([192, 193, 194, 195, 196, 197, 198, 199, 200, 201, 202, 203, 204, 205, 206, 207] ++ ([208, 209, 210, 211]))))))))))))), zMv q = true := (List.forall_mem_append.mpr ⟨zvr0, (List.forall_mem_append.mpr ⟨zvr1, (List.forall_mem_append.mpr ⟨zvr2, (List.forall_mem_append.mpr ⟨zvr3, (List.forall_mem_append.mpr ⟨zvr4, (List.forall_mem_append.mpr ⟨zvr5, (List.forall_mem_append.mpr ⟨zvr6, (List.forall_mem_append.mpr ⟨zvr7, (List.forall_mem_append.mpr ⟨zvr8, (List.forall_mem_append.mpr ⟨zvr9, (List.forall_mem_append.mpr ⟨zvr10, (List.forall_mem_append.mpr ⟨zvr11, (List.forall_mem_append.mpr ⟨zvr12, zvr13⟩)⟩)⟩)⟩)⟩)⟩)⟩)⟩)⟩)⟩)⟩)⟩)⟩)
theorem zMv_all : ∀ mi, mi < 213 → mi ≠ nL_law → zMv mi = true := fun mi h h2 => zvs mi (of_decide_eq_true (List.all_eq_true.mp (by decide +kernel : ((List.range 213).all fun k => decide (k ≠ nL_law → k ∈ [0, 1, 2, 3, 4, 5, 6, 7, 8, 9, 10, 11, 12, 13, 14, 15] ++ ([16, 17, 18, 19, 20, 21, 22, 23, 24, 25, 26, 27, 28, 29, 30, 31] ++ ([32, 33, 34, 35, 36, 37, 38, 39, 40, 41, 42, 43, 44, 45, 46, 47] ++ ([48, 49, 50, 51, 52, 53, 54, 55, 56, 57, 58, 59, 60, 61, 62, 63] ++ ([64, 65, 66, 67, 68, 69, 70, 71, 72, 73, 74, 75, 76, 77, 78, 79] ++ ([80, 81, 82, 83, 84, 85, 86, 87, 88, 89, 90, 91, 92, 93, 94, 95] ++ ([96, 97, 98, 99, 100, 101, 102, 103, 104, 105, 106, 107, 108, 109, 110, 111] ++ ([112, 113, 114, 115, 116, 117, 118, 119, 120, 121, 122, 123, 124, 125, 126, 127] ++ ([128, 129, 130, 131, 132, 133, 134, 135, 136, 137, 138, 139, 140, 141, 142, 143] ++ ([144, 145, 146, 147, 148, 149, 150, 151, 152, 153, 154, 155, 156, 157, 158, 159] ++ ([160, 161, 162, 163, 164, 165, 166, 167, 168, 169, 170, 171, 172, 173, 174, 175] ++ ([176, 177, 178, 179, 180, 181, 182, 183, 184, 185, 186, 187, 188, 189, 190, 191] ++ ([192, 193, 194, 195, 196, 197, 198, 199, 200, 201, 202, 203, 204, 205, 206, 207] ++ ([208, 209, 210, 211]))))))))))))))) = true) mi (List.mem_range.mpr h)) h2)
set_option maxRecDepth 100000 in
theorem zCv_all : vwCl.all zCv = true := by decide +kernel
set_option maxRecDepth 100000 in
theorem zIn_max : lw_tbl.contains (.static Lib.Math.max.name) && lw_tbl.contains (.code Lib.Math.max.name Lib.Math.max.code 2 (some .int)) && lw_tbl.contains (.static Lib.Math.min.name) && lw_tbl.contains (.code Lib.Math.min.name Lib.Math.min.code 2 (some .int)) && lw_tbl.contains (.static Lib.Math.abs.name) && lw_tbl.contains (.code Lib.Math.abs.name Lib.Math.abs.code 1 (some .int)) && lw_tbl.contains (.initialized "java/lang/Math") && lw_tbl.contains (.native arraycopyName) && lw_tbl.contains (.static arraycopyName) && lw_tbl.contains (.initialized "java/lang/System") = true := by decide +kernel
end
section
/-! A SMALL MACHINE: what a method's code does to numbers alone. A reference is a role (a place in zSh); the world's numbers are a pair of functions. -/
abbrev zF : Type := Nat → Nat → Int32
abbrev zL : Type := Nat → Nat → Int64
abbrev zS : Type := zF × zL
/-- an instruction, read ahead: (instr, next pc, a, b, c, e, place of its word, int, long, targets) -/
abbrev zOp : Type := Instr × Nat × Nat × Nat × Nat × Nat × Nat × Int32 × Int64 × List (Int32 × Nat)
abbrev zLo : Type := List (Option Value)
abbrev zPo : Type := Option Value → zS → Prop
abbrev zCa : Type := Nat → List Value → zS → zPo → Prop
abbrev zX : Type := Nat → zLo → List Value → zS → Prop
def zK (r : Nat) : zKd := zSh.getD r (9, 0, [])
def zIsO (r ci : Nat) : Bool := Nat.beq (zK r).1 0 && Nat.beq (zK r).2.1 ci
def zSl (r j : Nat) : Nat × Nat := (zK r).2.2.getD j (9, 0)
def zTo (r j : Nat) : Nat := (zSl r j).2
def zIsI (r : Nat) : Bool := Nat.beq (zK r).1 1
def zIsJ (r : Nat) : Bool := Nat.beq (zK r).1 2
def zN (r : Nat) : Nat := (zK r).2.1
def zG (b : Bool) (P : Prop) : Prop := match b with
  | true => P
  | false => False
def zSI (σ : zS) (r j : Nat) (x : Int32) : zS := (fun a => if a = r then upd (σ.1 a) j x else σ.1 a, σ.2)
def zSJ (σ : zS) (r j : Nat) (x : Int64) : zS := (σ.1, fun a => if a = r then vp_updL (σ.2 a) j x else σ.2 a)
def zSR (σ : zS) (r : Nat) (f : Nat → Int32) : zS := (fun a => if a = r then f else σ.1 a, σ.2)
-- what is taken off the stack
def zI (st : List Value) (k : Int32 → List Value → Prop) : Prop := match st with
  | .int x :: r => k x r
  | _ => False
def zJ (st : List Value) (k : Int64 → List Value → Prop) : Prop := match st with
  | .long x :: r => k x r
  | _ => False
def zA (st : List Value) (k : Nat → List Value → Prop) : Prop := match st with
  | .ref x :: r => k x r
  | _ => False
def zII (st : List Value) (k : Int32 → Int32 → List Value → Prop) : Prop := zI st fun y r => zI r fun x r => k x y r
def zJJ (st : List Value) (k : Int64 → Int64 → List Value → Prop) : Prop := zJ st fun y r => zJ r fun x r => k x y r
def zAI (st : List Value) (k : Nat → Int32 → List Value → Prop) : Prop := zI st fun i r => zA r fun a r => k a i r
def zCat : Value → Nat
  | .long _ => 2
  | .double _ => 2
  | _ => 1
def zV1 (st : List Value) (k : Value → List Value → Prop) : Prop := match st with
  | v :: r => zG (Nat.beq (zCat v) 1) (k v r)
  | _ => False
def zLg (ls : zLo) (i : Nat) (k : Value → Prop) : Prop := match ls.getD i none with
  | some v => k v
  | none => False
def zLi (ls : zLo) (i : Nat) (k : Int32 → Prop) : Prop := zLg ls i fun v => match v with
  | .int x => k x
  | _ => False
def zLj (ls : zLo) (i : Nat) (k : Int64 → Prop) : Prop := zLg ls i fun v => match v with
  | .long x => k x
  | _ => False
def zLa (ls : zLo) (i : Nat) (k : Nat → Prop) : Prop := zLg ls i fun v => match v with
  | .ref x => k x
  | _ => False
def zNo2 : Option Value → Option Value
  | some (.long _) => none
  | some (.double _) => none
  | o => o
def zS1 (v : Value) : zLo → Nat → zLo
  | [], _ => []
  | _ :: r, 0 => some v :: r
  | o :: r, 1 => zNo2 o :: zS1 v r 0
  | o :: r, i + 2 => o :: zS1 v r (i + 1)
def zS2 (v : Value) : zLo → Nat → zLo
  | [], _ => []
  | [_], _ => [none]
  | _ :: _ :: r, 0 => some v :: none :: r
  | o :: r, 1 => zNo2 o :: zS2 v r 0
  | o :: r, i + 2 => o :: zS2 v r (i + 1)
def zAr : List Value → zLo
  | [] => []
  | v :: r => match zCat v with
    | 2 => some v :: none :: zAr r
    | _ => some v :: zAr r
def zPn : Nat → List Value → List Value → (List Value → List Value → Prop) → Prop
  | 0, acc, st, k => k acc st
  | _ + 1, _, [], _ => False
  | n + 1, acc, v :: st, k => zPn n (v :: acc) st k
def zRc (av : List Value) (ci : Nat) : Bool := match av with
  | .ref r :: _ => zIsO r ci
  | _ => false
def zW8 : List Value → Nat
  | [] => 0
  | v :: r => zCat v + zW8 r
-- what a call hands back
def zPI (k : Int32 → zS → Prop) : zPo := fun r σ => ∃ x : Int32, r = some (.int x) ∧ k x σ
def zPJ (k : Int64 → zS → Prop) : zPo := fun r σ => ∃ x : Int64, r = some (.long x) ∧ k x σ
def zPV (k : zS → Prop) : zPo := fun r σ => r = none ∧ k σ
def zTb (x : Int32) (X : Nat → Prop) (d : Nat) : List (Int32 × Nat) → Prop
  | [] => X d
  | q :: r => (x = q.1 → X q.2) ∧ (¬ x = q.1 → zTb x X d r)
def zRI (st : List Value) (k : Int32 → Prop) : Prop := match st with
  | [.int x] => k x
  | _ => False
def zRJ (st : List Value) (k : Int64 → Prop) : Prop := match st with
  | [.long x] => k x
  | _ => False
def zRV (st : List Value) (k : Prop) : Prop := match st with
  | [] => k
  | _ => False
def zIf (c : Prop) (A B : Prop) : Prop := (c → A) ∧ (¬ c → B)
/-- one instruction -/
def zEx (sc : Option (Nat × (Nat → Int32))) (C : zCa) (post : zPo) (X : zX) (o : zOp) (ls : zLo) (st : List Value) (σ : zS) : Prop := match o with
  | (i, n, a, b, c, e, _, v, w, tb) => match i with
    | .iconst _ => X n ls (.int v :: st) σ
    | .bipush _ => X n ls (.int v :: st) σ
    | .sipush _ => X n ls (.int v :: st) σ
    | .ldc _ => X n ls (.int v :: st) σ
    | .lconst _ => X n ls (.long w :: st) σ
    | .ldc2_w _ => X n ls (.long w :: st) σ
    | .iload_n _ => zLi ls a fun x => X n ls (.int x :: st) σ
    | .iload _ => zLi ls a fun x => X n ls (.int x :: st) σ
    | .lload_n _ => zLj ls a fun x => X n ls (.long x :: st) σ
    | .lload _ => zLj ls a fun x => X n ls (.long x :: st) σ
    | .aload_n _ => zLa ls a fun x => X n ls (.ref x :: st) σ
    | .aload _ => zLa ls a fun x => X n ls (.ref x :: st) σ
    | .istore_n _ => zI st fun x r => zG (Nat.blt a ls.length) (X n (zS1 (.int x) ls a) r σ)
    | .istore _ => zI st fun x r => zG (Nat.blt a ls.length) (X n (zS1 (.int x) ls a) r σ)
    | .lstore_n _ => zJ st fun x r => zG (Nat.blt (a + 1) ls.length) (X n (zS2 (.long x) ls a) r σ)
    | .lstore _ => zJ st fun x r => zG (Nat.blt (a + 1) ls.length) (X n (zS2 (.long x) ls a) r σ)
    | .iinc _ _ => zLi ls a fun x => X n (zS1 (.int (x + v)) ls a) st σ
    | .iadd => zII st fun x y r => X n ls (.int (x + y) :: r) σ
    | .isub => zII st fun x y r => X n ls (.int (x - y) :: r) σ
    | .imul => zII st fun x y r => X n ls (.int (x * y) :: r) σ
    | .iand => zII st fun x y r => X n ls (.int (x &&& y) :: r) σ
    | .idiv => zII st fun x y r => ¬ y = 0 ∧ X n ls (.int (x / y) :: r) σ
    | .irem => zII st fun x y r => ¬ y = 0 ∧ X n ls (.int (x - x / y * y) :: r) σ
    | .ineg => zI st fun x r => X n ls (.int (-x) :: r) σ
    | .ladd => zJJ st fun x y r => X n ls (.long (x + y) :: r) σ
    | .lsub => zJJ st fun x y r => X n ls (.long (x - y) :: r) σ
    | .lmul => zJJ st fun x y r => X n ls (.long (x * y) :: r) σ
    | .ldiv => zJJ st fun x y r => ¬ y = 0 ∧ X n ls (.long (x / y) :: r) σ
    | .lcmp => zJJ st fun x y r => X n ls (.int (lg_cmp x y) :: r) σ
    | .i2l => zI st fun x r => X n ls (.long x.toInt64 :: r) σ
    | .l2i => zJ st fun x r => X n ls (.int x.toInt32 :: r) σ
    | .dup => zV1 st fun v r => X n ls (v :: v :: r) σ
    | .pop => zV1 st fun _ r => X n ls r σ
    | .dup2 => zV1 st fun v r => zV1 r fun u r => X n ls (v :: u :: v :: u :: r) σ
    | .ifCond .eq _ => zI st fun x r => zIf (x = 0) (X a ls r σ) (X n ls r σ)
    | .ifCond .ne _ => zI st fun x r => zIf (x = 0) (X n ls r σ) (X a ls r σ)
    | .ifCond .lt _ => zI st fun x r => zIf (x < 0) (X a ls r σ) (X n ls r σ)
    | .ifCond .ge _ => zI st fun x r => zIf (x < 0) (X n ls r σ) (X a ls r σ)
    | .ifCond .gt _ => zI st fun x r => zIf (x ≤ 0) (X n ls r σ) (X a ls r σ)
    | .ifCond .le _ => zI st fun x r => zIf (x ≤ 0) (X a ls r σ) (X n ls r σ)
    | .if_icmp .eq _ => zII st fun x y r => zIf (x = y) (X a ls r σ) (X n ls r σ)
    | .if_icmp .ne _ => zII st fun x y r => zIf (x = y) (X n ls r σ) (X a ls r σ)
    | .if_icmp .lt _ => zII st fun x y r => zIf (x < y) (X a ls r σ) (X n ls r σ)
    | .if_icmp .ge _ => zII st fun x y r => zIf (x < y) (X n ls r σ) (X a ls r σ)
    | .if_icmp .gt _ => zII st fun x y r => zIf (x ≤ y) (X n ls r σ) (X a ls r σ)
    | .if_icmp .le _ => zII st fun x y r => zIf (x ≤ y) (X a ls r σ) (X n ls r σ)
    | .goto _ => X a ls st σ
    | .tableswitch _ _ _ _ => zI st fun x r => zTb x (fun p => X p ls r σ) a tb
    | .lookupswitch _ _ => zI st fun x r => zTb x (fun p => X p ls r σ) a tb
    | .getfield _ => zA st fun q r => zG (zIsO q a && Nat.beq (zSl q b).1 c) (match c with
      | 0 => X n ls (.ref (zTo q b) :: r) σ
      | 1 => X n ls (.int (σ.1 q b) :: r) σ
      | 2 => X n ls (.int (σ.1 q b) :: r) σ
      | 3 => X n ls (.long (σ.2 q b) :: r) σ
      | _ => False)
    | .putfield _ => match c with
      | 1 => zI st fun x r => zA r fun q r => zG (zIsO q a && Nat.beq (zSl q b).1 1) (X n ls r (zSI σ q b x))
      | 2 => zI st fun x r => zA r fun q r => zG (zIsO q a && Nat.beq (zSl q b).1 2) (zG (x == 0 || x == 1) (X n ls r (zSI σ q b x)))
      | 3 => zJ st fun x r => zA r fun q r => zG (zIsO q a && Nat.beq (zSl q b).1 3) (X n ls r (zSJ σ q b x))
      | _ => False
    | .iaload => zAI st fun q i r => match zIsI q with
      | true => vp_in i (zN q) ∧ X n ls (.int (σ.1 q i.toNatClampNeg) :: r) σ
      | false => match sc with
        | some s => zG (Nat.beq q 80) (vp_in i s.1 ∧ X n ls (.int (s.2 i.toNatClampNeg) :: r) σ)
        | none => False
    | .laload => zAI st fun q i r => zG (zIsJ q) (vp_in i (zN q) ∧ X n ls (.long (σ.2 q i.toNatClampNeg) :: r) σ)
    | .iastore => zI st fun x r => zAI r fun q i r => zG (zIsI q) (vp_in i (zN q) ∧ X n ls r (zSI σ q i.toNatClampNeg x))
    | .lastore => zJ st fun x r => zAI r fun q i r => zG (zIsJ q) (vp_in i (zN q) ∧ X n ls r (zSJ σ q i.toNatClampNeg x))
    | .arraylength => zA st fun q r => match zIsI q || zIsJ q with
      | true => X n ls (.int (nI (zN q)) :: r) σ
      | false => match sc with
        | some s => zG (Nat.beq q 80) (X n ls (.int (nI s.1) :: r) σ)
        | none => False
    | .invokevirtual _ => zPn b [] st fun av r => zG (zRc av e && Nat.ble (zW8 r) 8) (match c with
      | 0 => C a av σ (zPV fun σ => X n ls r σ)
      | 1 => C a av σ (zPI fun x σ => X n ls (.int x :: r) σ)
      | _ => C a av σ (zPJ fun x σ => X n ls (.long x :: r) σ))
    | .invokestatic _ => match e with
      | 0 => zPn b [] st fun av r => zG (Nat.ble (zW8 r) 8) (match c with
        | 0 => C a av σ (zPV fun σ => X n ls r σ)
        | 1 => C a av σ (zPI fun x σ => X n ls (.int x :: r) σ)
        | _ => C a av σ (zPJ fun x σ => X n ls (.long x :: r) σ))
      | 1 => zII st fun x y r => zG (Nat.ble (zW8 r) 8) (X n ls (.int (if x < y then y else x) :: r) σ)
      | 2 => zII st fun x y r => zG (Nat.ble (zW8 r) 8) (X n ls (.int (if y < x then y else x) :: r) σ)
      | 3 => zI st fun x r => zG (Nat.ble (zW8 r) 8) (X n ls (.int (if 0 ≤ x then x else 0 - x) :: r) σ)
      | _ => zI st fun k r => zI r fun dp r => zA r fun d r => zI r fun sp r => zA r fun q r => zG (zIsI q && zIsI d && Nat.ble (zW8 r) 8) ((¬ sp < 0 ∧ ¬ dp < 0 ∧ ¬ k < 0 ∧ sp.toNatClampNeg + k.toNatClampNeg ≤ zN q ∧ dp.toNatClampNeg + k.toNatClampNeg ≤ zN d) ∧ X n ls r (zSR σ d (va_cpy (σ.1 q) (σ.1 d) sp.toNatClampNeg dp.toNatClampNeg k.toNatClampNeg)))
    | .ireturn => zRI st fun x => match c with
      | 1 => zG (x == 0 || x == 1) (post (some (.int x)) σ)
      | _ => post (some (.int x)) σ
    | .lreturn => zRJ st fun x => post (some (.long x)) σ
    | .return_ => zRV st (post none σ)
    | _ => False
/-! what a program checks of the code -/
def zTbOk (pc : Nat) : Int → List Int → List (Int32 × Nat) → Bool
  | _, [], [] => true
  | k, o :: os, q :: tb => decide (q.1.toInt = k) && decide ((pc : Int) + o = (q.2 : Int)) && zTbOk pc (k + 1) os tb
  | _, _, _ => false
def zLkOk (pc : Nat) : List (Int × Int) → List (Int32 × Nat) → Bool
  | [], [] => true
  | o :: os, q :: tb => decide (q.1.toInt = o.1) && decide ((pc : Int) + o.2 = (q.2 : Int)) && zLkOk pc os tb
  | _, _ => false
def zRk (r : Option FieldType) (c : Nat) : Bool := match r, c with
  | none, 0 => true
  | some .int, 1 => true
  | some .boolean, 1 => true
  | some .long, 2 => true
  | _, _ => false
def zKt : Nat → FieldType
  | 1 => .int
  | 2 => .boolean
  | _ => .long
def zFl (own : String) (idx a b g : Nat) : Bool := decide (lw_tbl[g]? = some (.fieldLink own idx ((zCl a).2.1 b).1 ((zCl a).2.1 b).2.1 ((zCl a).2.1 b).2.2.1))
def zFn (own : String) (idx a b g : Nat) : Bool := decide (lw_tbl[g]? = some (.fieldLinkNest own idx ((zCl a).2.1 b).1 ((zCl a).2.1 b).2.1 ((zCl a).2.1 b).2.2.1 "RatePlanner"))
/-- the code at a place is this instruction, read ahead -/
def zOk (mi pc : Nat) (o : zOp) : Bool := match o with
  | (i, n, a, b, c, e, g, v, w, tb) => Nat.blt pc n && decide (decode (zBy mi) pc = .ok (i, n - pc)) && (match i with
    | .iconst z => Nat.beq (n - pc) 1 && decide (Int32.ofInt z = v)
    | .bipush z => Nat.beq (n - pc) 2 && decide ((Int8.ofInt z).toInt32 = v)
    | .sipush z => Nat.beq (n - pc) 3 && decide ((Int16.ofInt z).toInt32 = v)
    | .ldc idx => Nat.beq (n - pc) 2 && decide (lw_tbl[g]? = some (.constant (zY mi).cls idx v))
    | .lconst z => Nat.beq (n - pc) 1 && decide (Int64.ofNat (z : Nat) = w)
    | .ldc2_w idx => Nat.beq (n - pc) 3 && decide (lw_tbl[g]? = some (.constantLong (zY mi).cls idx w))
    | .iload_n k => Nat.beq (n - pc) 1 && Nat.beq k.val a
    | .iload k => Nat.beq (n - pc) 2 && Nat.beq k a
    | .lload_n k => Nat.beq (n - pc) 1 && Nat.beq k.val a
    | .lload k => Nat.beq (n - pc) 2 && Nat.beq k a
    | .aload_n k => Nat.beq (n - pc) 1 && Nat.beq k.val a
    | .aload k => Nat.beq (n - pc) 2 && Nat.beq k a
    | .istore_n k => Nat.beq (n - pc) 1 && Nat.beq k.val a
    | .istore k => Nat.beq (n - pc) 2 && Nat.beq k a
    | .lstore_n k => Nat.beq (n - pc) 1 && Nat.beq k.val a
    | .lstore k => Nat.beq (n - pc) 2 && Nat.beq k a
    | .iinc k z => Nat.beq (n - pc) 3 && Nat.beq k a && decide (Int32.ofInt z = v)
    | .ifCond _ off => Nat.beq (n - pc) 3 && decide ((pc : Int) + off = (a : Int))
    | .if_icmp _ off => Nat.beq (n - pc) 3 && decide ((pc : Int) + off = (a : Int))
    | .goto off => Nat.beq (n - pc) 3 && decide ((pc : Int) + off = (a : Int))
    | .tableswitch d lo hi offs => decide ((pc : Int) + d = (a : Int)) && decide (hi = lo + (offs.toList.length : Int) - 1) && zTbOk pc lo offs.toList tb
    | .lookupswitch d ps => decide ((pc : Int) + d = (a : Int)) && (ps.toList.zip (ps.toList.drop 1)).all (fun (x, y) => x.1 < y.1) && zLkOk pc ps.toList tb
    | .getfield idx => Nat.beq (n - pc) 3 && Nat.blt a 13 && Nat.blt b (zCl a).2.2 && (zFl (zY mi).cls idx a b g || zFn (zY mi).cls idx a b g)
    | .putfield idx => Nat.beq (n - pc) 3 && Nat.blt a 13 && Nat.blt b (zCl a).2.2 && zFl (zY mi).cls idx a b g && !((zCl a).2.1 b).2.2.2 && decide (parseFieldDescriptor ((zCl a).2.1 b).2.2.1 = some (zKt c))
    | .invokevirtual idx => Nat.beq (n - pc) 3 && Nat.blt a 213 && !(Nat.beq a nL_law) && !(zMs a) && Nat.beq e (zMc a) && !(decide ((zY a).name = "<init>")) && Nat.blt 0 b && decide ((parseMethodDescriptor (zY a).desc).map (fun d => d.parameters.length) = some (b - 1)) && zRk (zRt a) c &&
      (decide (lw_tbl[g]? = some (.methodLink (zY mi).cls idx (zY a))) || decide (lw_tbl[g]? = some (.methodLinkNest (zY mi).cls idx (zY a) "RatePlanner")))
    | .invokestatic idx => Nat.beq (n - pc) 3 && (match e with
      | 0 => Nat.blt a 213 && !(Nat.beq a nL_law) && zMs a && decide ((parseMethodDescriptor (zY a).desc).map (fun d => d.parameters.length) = some b) && zRk (zRt a) c &&
        (decide (lw_tbl[g]? = some (.methodLink (zY mi).cls idx (zY a))) || decide (lw_tbl[g]? = some (.methodLinkNest (zY mi).cls idx (zY a) "RatePlanner")))
      | 1 => decide (lw_tbl[g]? = some (.methodLink (zY mi).cls idx Lib.Math.max.name))
      | 2 => decide (lw_tbl[g]? = some (.methodLink (zY mi).cls idx Lib.Math.min.name))
      | 3 => decide (lw_tbl[g]? = some (.methodLink (zY mi).cls idx Lib.Math.abs.name))
      | _ => decide (lw_tbl[g]? = some (.methodLink (zY mi).cls idx arraycopyName)))
    | .ireturn => Nat.beq (n - pc) 1 && (match zRt mi, c with
      | some .int, 0 => true
      | some .boolean, 1 => true
      | _, _ => false)
    | .lreturn => Nat.beq (n - pc) 1 && decide (zRt mi = some .long)
    | .return_ => Nat.beq (n - pc) 1 && decide (zRt mi = none)
    | _ => Nat.beq (n - pc) 1)
def zOks (mi : Nat) : List zOp → Nat → Bool
  | [], _ => true
  | o :: r, p => zOk mi p o && zOks mi r o.2.1
end
section
/-! the world of a pair of functions, as the kit's cells; locals; what is taken off the stack -/
def zR (ad : Nat → Nat) : Value → Value
  | .ref r => .ref (ad r)
  | v => v
def zFs (ad : Nat → Nat) (σ : zS) (r : Nat) : Nat → List (Nat × Nat) → List Value
  | _, [] => []
  | j, s :: t => (match s.1 with
    | 0 => .ref (ad s.2)
    | 3 => .long (σ.2 r j)
    | _ => .int (σ.1 r j)) :: zFs ad σ r (j + 1) t
def zEn (ad : Nat → Nat) (cI cJ : ClassId) (σ : zS) (r : Nat) (kd : zKd) : va_E := match kd.1 with
  | 0 => .inr (kd.2.1, zFs ad σ r 0 kd.2.2)
  | 1 => .inl (cI, kd.2.1, .inl (σ.1 r))
  | _ => .inl (cJ, kd.2.1, .inr (.inl (σ.2 r)))
def zWA (ad : Nat → Nat) (cI cJ : ClassId) (σ : zS) : Nat → List zKd → va_W
  | _, [] => []
  | r, kd :: t => (ad r, zEn ad cI cJ σ r kd) :: zWA ad cI cJ σ (r + 1) t
def zW (ad : Nat → Nat) (cI cJ : ClassId) (σ : zS) : va_W := zWA ad cI cJ σ 0 zSh
theorem zFs_len (ad : Nat → Nat) (σ : zS) (r : Nat) : ∀ (sl : List (Nat × Nat)) (j : Nat), (zFs ad σ r j sl).length = sl.length
  | [], _ => rfl
  | _ :: t, j => by simp only [zFs, List.length_cons, zFs_len ad σ r t (j + 1)]
theorem zFs_get (ad : Nat → Nat) (σ : zS) (r : Nat) : ∀ (sl : List (Nat × Nat)) (j k : Nat) (s : Nat × Nat), sl[k]? = some s → (zFs ad σ r j sl)[k]? = some (match s.1 with
    | 0 => .ref (ad s.2)
    | 3 => .long (σ.2 r (j + k))
    | _ => .int (σ.1 r (j + k)))
  | [], _, _, _, h => by simp at h
  | q :: t, j, 0, s, h => by
    simp only [List.getElem?_cons_zero, Option.some.injEq] at h
    subst h
    simp only [zFs, List.getElem?_cons_zero, Nat.add_zero]
  | q :: t, j, k + 1, s, h => by
    simp only [List.getElem?_cons_succ] at h
    have e := zFs_get ad σ r t (j + 1) k s h
    simp only [zFs, List.getElem?_cons_succ, e, show j + 1 + k = j + (k + 1) by omega]
theorem zFs_cong (ad : Nat → Nat) {σ τ : zS} (r : Nat) (h1 : τ.1 r = σ.1 r) (h2 : τ.2 r = σ.2 r) : ∀ (sl : List (Nat × Nat)) (j : Nat), zFs ad τ r j sl = zFs ad σ r j sl
  | [], _ => rfl
  | q :: t, j => by simp only [zFs, h1, h2, zFs_cong ad r h1 h2 t (j + 1)]
theorem zFs_far (ad : Nat → Nat) {σ τ : zS} (r k : Nat) (h1 : ∀ j, j ≠ k → τ.1 r j = σ.1 r j) (h2 : ∀ j, j ≠ k → τ.2 r j = σ.2 r j) : ∀ (sl : List (Nat × Nat)) (j : Nat), k < j → zFs ad τ r j sl = zFs ad σ r j sl
  | [], _, _ => rfl
  | q :: t, j, h => by simp only [zFs, h1 j (by omega), h2 j (by omega), zFs_far ad r k h1 h2 t (j + 1) (by omega)]
theorem zFs_setI (ad : Nat → Nat) (σ : zS) (r : Nat) (x : Int32) : ∀ (sl : List (Nat × Nat)) (j k : Nat) (s : Nat × Nat), sl[k]? = some s → (s.1 = 1 ∨ s.1 = 2) → (zFs ad σ r j sl).set k (.int x) = zFs ad (zSI σ r (j + k) x) r j sl
  | [], _, _, _, h, _ => by simp at h
  | q :: t, j, 0, s, h, hs => by
    simp only [List.getElem?_cons_zero, Option.some.injEq] at h
    subst h
    have e : zFs ad (zSI σ r (j + 0) x) r (j + 1) t = zFs ad σ r (j + 1) t := zFs_far ad (τ := zSI σ r (j + 0) x) (σ := σ) r j (fun i hi => by simp [zSI, upd, hi]) (fun i hi => rfl) t (j + 1) (by omega)
    simp only [zFs, List.set_cons_zero, e]
    rcases hs with hs | hs <;> simp [hs, zSI, upd]
  | q :: t, j, k + 1, s, h, hs => by
    simp only [List.getElem?_cons_succ] at h
    have e := zFs_setI ad σ r x t (j + 1) k s h hs
    rw [show j + 1 + k = j + (k + 1) by omega] at e
    simp only [zFs, List.set_cons_succ, e]
    have h1 : (zSI σ r (j + (k + 1)) x).1 r j = σ.1 r j := by
      have : ¬ j = j + (k + 1) := by omega
      simp [zSI, upd, this]
    simp only [h1]
    rfl
theorem zFs_setJ (ad : Nat → Nat) (σ : zS) (r : Nat) (x : Int64) : ∀ (sl : List (Nat × Nat)) (j k : Nat) (s : Nat × Nat), sl[k]? = some s → s.1 = 3 → (zFs ad σ r j sl).set k (.long x) = zFs ad (zSJ σ r (j + k) x) r j sl
  | [], _, _, _, h, _ => by simp at h
  | q :: t, j, 0, s, h, hs => by
    simp only [List.getElem?_cons_zero, Option.some.injEq] at h
    subst h
    have e : zFs ad (zSJ σ r (j + 0) x) r (j + 1) t = zFs ad σ r (j + 1) t := zFs_far ad (τ := zSJ σ r (j + 0) x) (σ := σ) r j (fun i hi => rfl) (fun i hi => by simp [zSJ, vp_updL, hi]) t (j + 1) (by omega)
    simp only [zFs, List.set_cons_zero, e]
    simp [hs, zSJ, vp_updL]
  | q :: t, j, k + 1, s, h, hs => by
    simp only [List.getElem?_cons_succ] at h
    have e := zFs_setJ ad σ r x t (j + 1) k s h hs
    rw [show j + 1 + k = j + (k + 1) by omega] at e
    simp only [zFs, List.set_cons_succ, e]
    have h1 : (zSJ σ r (j + (k + 1)) x).2 r j = σ.2 r j := by
      have : ¬ j = j + (k + 1) := by omega
      simp [zSJ, vp_updL, this]
    simp only [h1]
    rfl
theorem zEn_cong (ad : Nat → Nat) (cI cJ : ClassId) {σ τ : zS} (r : Nat) (h1 : τ.1 r = σ.1 r) (h2 : τ.2 r = σ.2 r) (kd : zKd) : zEn ad cI cJ τ r kd = zEn ad cI cJ σ r kd := by
  unfold zEn
  rw [zFs_cong ad r h1 h2, h1, h2]
theorem zWA_get (ad : Nat → Nat) (cI cJ : ClassId) (σ : zS) : ∀ (l : List zKd) (r k : Nat) (kd : zKd), l[k]? = some kd → (zWA ad cI cJ σ r l)[k]? = some (ad (r + k), zEn ad cI cJ σ (r + k) kd)
  | [], _, _, _, h => by simp at h
  | q :: t, r, 0, kd, h => by
    simp only [List.getElem?_cons_zero, Option.some.injEq] at h
    subst h
    rfl
  | q :: t, r, k + 1, kd, h => by
    simp only [List.getElem?_cons_succ] at h
    have e := zWA_get ad cI cJ σ t (r + 1) k kd h
    simp only [zWA, List.getElem?_cons_succ, e, show r + 1 + k = r + (k + 1) by omega]
theorem zWA_len (ad : Nat → Nat) (cI cJ : ClassId) (σ : zS) : ∀ (l : List zKd) (r : Nat), (zWA ad cI cJ σ r l).length = l.length
  | [], _ => rfl
  | _ :: t, r => by simp only [zWA, List.length_cons, zWA_len ad cI cJ σ t (r + 1)]
theorem zWA_far (ad : Nat → Nat) (cI cJ : ClassId) {σ τ : zS} (k : Nat) (h : ∀ r kd, r ≠ k → zEn ad cI cJ τ r kd = zEn ad cI cJ σ r kd) : ∀ (l : List zKd) (r : Nat), k < r → zWA ad cI cJ τ r l = zWA ad cI cJ σ r l
  | [], _, _ => rfl
  | q :: t, r, hr => by simp only [zWA, h r q (by omega), zWA_far ad cI cJ k h t (r + 1) (by omega)]
theorem zWA_set (ad : Nat → Nat) (cI cJ : ClassId) {σ τ : zS} : ∀ (l : List zKd) (r k : Nat) (kd : zKd), (∀ a kd, a ≠ r + k → zEn ad cI cJ τ a kd = zEn ad cI cJ σ a kd) → l[k]? = some kd → (zWA ad cI cJ σ r l).set k (ad (r + k), zEn ad cI cJ τ (r + k) kd) = zWA ad cI cJ τ r l
  | [], _, _, _, _, h => by simp at h
  | q :: t, r, 0, kd, hc, h => by
    simp only [List.getElem?_cons_zero, Option.some.injEq] at h
    subst h
    simp only [zWA, List.set_cons_zero, Nat.add_zero, zWA_far ad cI cJ r (fun a kd ha => hc a kd (by omega)) t (r + 1) (by omega)]
  | q :: t, r, k + 1, kd, hc, h => by
    simp only [List.getElem?_cons_succ] at h
    have e := zWA_set ad cI cJ (τ := τ) (σ := σ) t (r + 1) k kd (fun a kd ha => hc a kd (by omega)) h
    rw [show r + 1 + k = r + (k + 1) by omega] at e
    simp only [zWA, List.set_cons_succ, e, hc r q (by omega)]
theorem zW_get (ad : Nat → Nat) (cI cJ : ClassId) (σ : zS) {r : Nat} {kd : zKd} (h : zSh[r]? = some kd) : (zW ad cI cJ σ)[r]? = some (ad r, zEn ad cI cJ σ r kd) := by
  have e := zWA_get ad cI cJ σ zSh 0 r kd h
  rwa [Nat.zero_add] at e
theorem zW_set (ad : Nat → Nat) (cI cJ : ClassId) {σ τ : zS} {r : Nat} {kd : zKd} (h : zSh[r]? = some kd) (h1 : ∀ a, a ≠ r → τ.1 a = σ.1 a) (h2 : ∀ a, a ≠ r → τ.2 a = σ.2 a) : (zW ad cI cJ σ).set r (ad r, zEn ad cI cJ τ r kd) = zW ad cI cJ τ := by
  have e := zWA_set ad cI cJ (τ := τ) (σ := σ) zSh 0 r kd (fun a k ha => zEn_cong ad cI cJ a (h1 a (by omega)) (h2 a (by omega)) k) h
  rwa [Nat.zero_add] at e
theorem zSI_1 {σ : zS} {r j : Nat} {x : Int32} {a : Nat} (h : a ≠ r) : (zSI σ r j x).1 a = σ.1 a := by simp [zSI, h]
theorem zSI_s {σ : zS} {r j : Nat} {x : Int32} : (zSI σ r j x).1 r = upd (σ.1 r) j x := by simp [zSI]
theorem zSJ_1 {σ : zS} {r j : Nat} {x : Int64} {a : Nat} (h : a ≠ r) : (zSJ σ r j x).2 a = σ.2 a := by simp [zSJ, h]
theorem zSJ_s {σ : zS} {r j : Nat} {x : Int64} : (zSJ σ r j x).2 r = vp_updL (σ.2 r) j x := by simp [zSJ]
theorem zSR_1 {σ : zS} {r : Nat} {f : Nat → Int32} {a : Nat} (h : a ≠ r) : (zSR σ r f).1 a = σ.1 a := by simp [zSR, h]
theorem zSR_s {σ : zS} {r : Nat} {f : Nat → Int32} : (zSR σ r f).1 r = f := by simp [zSR]
-- the shape
theorem zK_some {r : Nat} (h : ¬ (zK r).1 = 9) : zSh[r]? = some (zK r) := by
  unfold zK at h ⊢
  rw [List.getD_eq_getElem?_getD] at h ⊢
  cases e : zSh[r]? with
  | none => rw [e] at h; exact absurd rfl h
  | some q => rfl
theorem zIsO_spec {r ci : Nat} (h : zIsO r ci = true) : ∃ sl, zSh[r]? = some (0, ci, sl) ∧ ∀ j, zSl r j = sl.getD j (9, 0) := by
  simp only [zIsO, Bool.and_eq_true] at h
  have h1 := Nat.eq_of_beq_eq_true h.1
  have h2 := Nat.eq_of_beq_eq_true h.2
  have e := zK_some (r := r) (by omega)
  refine ⟨(zK r).2.2, ?_, fun j => rfl⟩
  rw [e, ← h1, ← h2]
theorem zIsI_spec {r : Nat} (h : zIsI r = true) : ∃ sl, zSh[r]? = some (1, zN r, sl) := by
  have h1 := Nat.eq_of_beq_eq_true h
  have e := zK_some (r := r) (by omega)
  exact ⟨(zK r).2.2, by rw [e, ← h1]; rfl⟩
theorem zIsJ_spec {r : Nat} (h : zIsJ r = true) : ∃ sl, zSh[r]? = some (2, zN r, sl) := by
  have h1 := Nat.eq_of_beq_eq_true h
  have e := zK_some (r := r) (by omega)
  exact ⟨(zK r).2.2, by rw [e, ← h1]; rfl⟩
theorem zGetD_some {sl : List (Nat × Nat)} {j : Nat} (h : ¬ (sl.getD j (9, 0)).1 = 9) : sl[j]? = some (sl.getD j (9, 0)) := by
  rw [List.getD_eq_getElem?_getD] at h ⊢
  cases e : sl[j]? with
  | none => rw [e] at h; exact absurd rfl h
  | some q => rfl
-- off the stack
theorem zG_inv {b : Bool} {P : Prop} (h : zG b P) : b = true ∧ P := by
  cases b with
  | true => exact ⟨rfl, h⟩
  | false => exact False.elim h
theorem zI_inv {st : List Value} {k : Int32 → List Value → Prop} (h : zI st k) : ∃ x r, st = .int x :: r ∧ k x r := by
  cases st with
  | nil => exact False.elim h
  | cons v r => cases v <;> first | exact ⟨_, _, rfl, h⟩ | exact False.elim h
theorem zJ_inv {st : List Value} {k : Int64 → List Value → Prop} (h : zJ st k) : ∃ x r, st = .long x :: r ∧ k x r := by
  cases st with
  | nil => exact False.elim h
  | cons v r => cases v <;> first | exact ⟨_, _, rfl, h⟩ | exact False.elim h
theorem zA_inv {st : List Value} {k : Nat → List Value → Prop} (h : zA st k) : ∃ x r, st = .ref x :: r ∧ k x r := by
  cases st with
  | nil => exact False.elim h
  | cons v r => cases v <;> first | exact ⟨_, _, rfl, h⟩ | exact False.elim h
theorem zII_inv {st : List Value} {k : Int32 → Int32 → List Value → Prop} (h : zII st k) : ∃ x y r, st = .int y :: .int x :: r ∧ k x y r := by
  obtain ⟨y, r, rfl, h1⟩ := zI_inv h
  obtain ⟨x, r2, rfl, h2⟩ := zI_inv h1
  exact ⟨x, y, r2, rfl, h2⟩
theorem zJJ_inv {st : List Value} {k : Int64 → Int64 → List Value → Prop} (h : zJJ st k) : ∃ x y r, st = .long y :: .long x :: r ∧ k x y r := by
  obtain ⟨y, r, rfl, h1⟩ := zJ_inv h
  obtain ⟨x, r2, rfl, h2⟩ := zJ_inv h1
  exact ⟨x, y, r2, rfl, h2⟩
theorem zAI_inv {st : List Value} {k : Nat → Int32 → List Value → Prop} (h : zAI st k) : ∃ a i r, st = .int i :: .ref a :: r ∧ k a i r := by
  obtain ⟨y, r, rfl, h1⟩ := zI_inv h
  obtain ⟨x, r2, rfl, h2⟩ := zA_inv h1
  exact ⟨x, y, r2, rfl, h2⟩
theorem zCat_R (ad : Nat → Nat) (v : Value) : (zR ad v).category = zCat v := by cases v <;> rfl
theorem zV1_inv {st : List Value} {k : Value → List Value → Prop} (h : zV1 st k) : ∃ v r, st = v :: r ∧ zCat v = 1 ∧ k v r := by
  cases st with
  | nil => exact False.elim h
  | cons v r =>
    obtain ⟨h1, h2⟩ := zG_inv h
    exact ⟨v, r, rfl, Nat.eq_of_beq_eq_true h1, h2⟩
theorem zLg_inv {ls : zLo} {i : Nat} {k : Value → Prop} (h : zLg ls i k) : ∃ v, ls.getD i none = some v ∧ k v := by
  unfold zLg at h
  cases e : ls.getD i none with
  | none => rw [e] at h; exact False.elim h
  | some v => rw [e] at h; exact ⟨v, rfl, h⟩
theorem zLi_inv {ls : zLo} {i : Nat} {k : Int32 → Prop} (h : zLi ls i k) : ∃ x, ls.getD i none = some (.int x) ∧ k x := by
  obtain ⟨v, e, h⟩ := zLg_inv h
  cases v <;> first | exact ⟨_, e, h⟩ | exact False.elim h
theorem zLj_inv {ls : zLo} {i : Nat} {k : Int64 → Prop} (h : zLj ls i k) : ∃ x, ls.getD i none = some (.long x) ∧ k x := by
  obtain ⟨v, e, h⟩ := zLg_inv h
  cases v <;> first | exact ⟨_, e, h⟩ | exact False.elim h
theorem zLa_inv {ls : zLo} {i : Nat} {k : Nat → Prop} (h : zLa ls i k) : ∃ x, ls.getD i none = some (.ref x) ∧ k x := by
  obtain ⟨v, e, h⟩ := zLg_inv h
  cases v <;> first | exact ⟨_, e, h⟩ | exact False.elim h
theorem zW8_R (ad : Nat → Nat) : ∀ r : List Value, ((r.map (zR ad)).map fun v => v.category).sum = zW8 r
  | [] => rfl
  | v :: r => by simp only [List.map_cons, List.sum_cons, zCat_R, zW8_R ad r, zW8]
theorem zPn_inv : ∀ (n : Nat) (acc st : List Value) (k : List Value → List Value → Prop), zPn n acc st k → ∃ av r, av.length = n ∧ st = av ++ r ∧ k (av.reverse ++ acc) r
  | 0, acc, st, k, h => ⟨[], st, rfl, rfl, h⟩
  | n + 1, acc, [], k, h => False.elim h
  | n + 1, acc, v :: st, k, h => by
    obtain ⟨av, r, h1, h2, h3⟩ := zPn_inv n (v :: acc) st k h
    exact ⟨v :: av, r, by simp [h1], by simp [h2], by simpa using h3⟩
theorem zTb_inv {x : Int32} {X : Nat → Prop} {d : Nat} : ∀ {tb : List (Int32 × Nat)}, zTb x X d tb → (∃ (k : Nat) (q : Int32 × Nat), tb[k]? = some q ∧ x = q.1 ∧ X q.2 ∧ ∀ (j : Nat) (p : Int32 × Nat), j < k → tb[j]? = some p → ¬ x = p.1) ∨ ((∀ (k : Nat) (q : Int32 × Nat), tb[k]? = some q → ¬ x = q.1) ∧ X d)
  | [], h => Or.inr ⟨fun k q e => by simp at e, h⟩
  | q :: r, h => by
    by_cases e : x = q.1
    · exact Or.inl ⟨0, q, rfl, e, h.1 e, fun j p hj => absurd hj (Nat.not_lt_zero j)⟩
    · rcases zTb_inv (h.2 e) with ⟨k, p, h1, h2, h3, h4⟩ | ⟨h1, h2⟩
      · refine Or.inl ⟨k + 1, p, h1, h2, h3, fun j p' hj hp => ?_⟩
        cases j with
        | zero =>
          simp only [List.getElem?_cons_zero, Option.some.injEq] at hp
          rw [← hp]; exact e
        | succ j => exact h4 j p' (by omega) hp
      · refine Or.inr ⟨fun k p hp => ?_, h2⟩
        cases k with
        | zero =>
          simp only [List.getElem?_cons_zero, Option.some.injEq] at hp
          rw [← hp]; exact e
        | succ j => exact h1 j p hp
-- the locals
def zAs (ad : Nat → Nat) : Nat → zLo → List (Nat × Value)
  | _, [] => []
  | i, none :: r => zAs ad (i + 1) r
  | i, some v :: r => (i, zR ad v) :: zAs ad (i + 1) r
theorem zAs_mem (ad : Nat → Nat) : ∀ (lv : zLo) (k : Nat) (q : Nat × Value), q ∈ zAs ad k lv ↔ ∃ j v, lv[j]? = some (some v) ∧ q = (k + j, zR ad v)
  | [], k, q => by simp [zAs]
  | none :: r, k, q => by
    simp only [zAs]
    rw [zAs_mem ad r (k + 1) q]
    constructor
    · rintro ⟨j, v, h1, h2⟩
      exact ⟨j + 1, v, h1, by rw [h2, show k + 1 + j = k + (j + 1) by omega]⟩
    · rintro ⟨j, v, h1, h2⟩
      cases j with
      | zero => simp at h1
      | succ j => exact ⟨j, v, h1, by rw [h2, show k + 1 + j = k + (j + 1) by omega]⟩
  | some u :: r, k, q => by
    simp only [zAs, List.mem_cons]
    rw [zAs_mem ad r (k + 1) q]
    constructor
    · rintro (h | ⟨j, v, h1, h2⟩)
      · exact ⟨0, u, rfl, h⟩
      · exact ⟨j + 1, v, h1, by rw [h2, show k + 1 + j = k + (j + 1) by omega]⟩
    · rintro ⟨j, v, h1, h2⟩
      cases j with
      | zero =>
        simp only [List.getElem?_cons_zero, Option.some.injEq] at h1
        exact Or.inl (by rw [h2, h1]; rfl)
      | succ j => exact Or.inr ⟨j, v, h1, by rw [h2, show k + 1 + j = k + (j + 1) by omega]⟩
def zHas (ad : Nat → Nat) (ls : Array Slot) (nL : Nat) (lv : zLo) : Prop := lv_has ls nL (zAs ad 0 lv) ∧ lv.length ≤ nL
theorem zHas.at {ad : Nat → Nat} {ls : Array Slot} {nL : Nat} {lv : zLo} (h : zHas ad ls nL lv) {i : Nat} {v : Value} (e : lv.getD i none = some v) : ls[i]? = some (.val (zR ad v)) := by
  have e2 : lv[i]? = some (some v) := by
    rw [List.getD_eq_getElem?_getD] at e
    cases e3 : lv[i]? with
    | none => rw [e3] at e; simp at e
    | some o => rw [e3] at e; simp at e; rw [e]
  exact h.1.2.2 (i, zR ad v) ((zAs_mem ad lv 0 _).mpr ⟨i, v, e2, by rw [Nat.zero_add]⟩)
theorem zHas.lt {ad : Nat → Nat} {ls : Array Slot} {nL : Nat} {lv : zLo} (h : zHas ad ls nL lv) {i : Nat} {v : Value} (e : lv.getD i none = some v) : i < nL := by
  have h1 := (Array.getElem?_eq_some_iff.mp (h.at e)).1
  rw [h.1.1] at h1
  exact h1
theorem zNo2_some {o : Option Value} {u : Value} (h : zNo2 o = some u) : o = some u ∧ ¬ zCat u = 2 := by
  cases o with
  | none => cases h
  | some v => cases v <;> first | (cases h; done) | (simp only [zNo2, Option.some.injEq] at h; subst h; exact ⟨rfl, by simp [zCat]⟩)
theorem zS1_len (v : Value) : ∀ (lv : zLo) (i : Nat), (zS1 v lv i).length = lv.length
  | [], _ => rfl
  | _ :: r, 0 => rfl
  | o :: r, 1 => by simp only [zS1, List.length_cons, zS1_len v r 0]
  | o :: r, i + 2 => by simp only [zS1, List.length_cons, zS1_len v r (i + 1)]
theorem zS1_get (v : Value) : ∀ (lv : zLo) (i j : Nat) (u : Value), (zS1 v lv i)[j]? = some (some u) → (j = i ∧ u = v) ∨ (j ≠ i ∧ lv[j]? = some (some u) ∧ ¬ (j + 1 = i ∧ zCat u = 2))
  | [], _, _, _, h => by simp [zS1] at h
  | o :: r, 0, j, u, h => by
    cases j with
    | zero => simp only [zS1, List.getElem?_cons_zero, Option.some.injEq] at h; exact Or.inl ⟨rfl, h.symm⟩
    | succ j => exact Or.inr ⟨by omega, h, by omega⟩
  | o :: r, 1, j, u, h => by
    cases j with
    | zero =>
      simp only [zS1, List.getElem?_cons_zero, Option.some.injEq] at h
      obtain ⟨e, h2⟩ := zNo2_some h
      exact Or.inr ⟨by omega, by rw [e]; rfl, fun q => h2 q.2⟩
    | succ j =>
      rcases zS1_get v r 0 j u h with ⟨h1, h2⟩ | ⟨h1, h2, h3⟩
      · exact Or.inl ⟨by omega, h2⟩
      · exact Or.inr ⟨by omega, h2, by omega⟩
  | o :: r, i + 2, j, u, h => by
    cases j with
    | zero => exact Or.inr ⟨by omega, h, by omega⟩
    | succ j =>
      rcases zS1_get v r (i + 1) j u h with ⟨h1, h2⟩ | ⟨h1, h2, h3⟩
      · exact Or.inl ⟨by omega, h2⟩
      · exact Or.inr ⟨by omega, h2, fun q => h3 ⟨by omega, q.2⟩⟩
theorem zS2_len (v : Value) : ∀ (lv : zLo) (i : Nat), (zS2 v lv i).length = lv.length
  | [], _ => rfl
  | [_], _ => rfl
  | _ :: _ :: r, 0 => rfl
  | o :: p :: r, 1 => by simp only [zS2, List.length_cons, zS2_len v (p :: r) 0]
  | o :: p :: r, i + 2 => by simp only [zS2, List.length_cons, zS2_len v (p :: r) (i + 1)]
theorem zS2_get (v : Value) : ∀ (lv : zLo) (i j : Nat) (u : Value), (zS2 v lv i)[j]? = some (some u) → (j = i ∧ u = v) ∨ (j ≠ i ∧ j ≠ i + 1 ∧ lv[j]? = some (some u) ∧ ¬ (j + 1 = i ∧ zCat u = 2))
  | [], _, _, _, h => by simp [zS2] at h
  | [o], i, j, u, h => by
    cases j <;> simp [zS2] at h
  | o :: p :: r, 0, j, u, h => by
    cases j with
    | zero => simp only [zS2, List.getElem?_cons_zero, Option.some.injEq] at h; exact Or.inl ⟨rfl, h.symm⟩
    | succ j =>
      cases j with
      | zero => simp [zS2] at h
      | succ j => exact Or.inr ⟨by omega, by omega, h, by omega⟩
  | o :: p :: r, 1, j, u, h => by
    cases j with
    | zero =>
      simp only [zS2, List.getElem?_cons_zero, Option.some.injEq] at h
      obtain ⟨e, h2⟩ := zNo2_some h
      exact Or.inr ⟨by omega, by omega, by rw [e]; rfl, fun q => h2 q.2⟩
    | succ j =>
      rcases zS2_get v (p :: r) 0 j u h with ⟨h1, h2⟩ | ⟨h1, h2, h3, h4⟩
      · exact Or.inl ⟨by omega, h2⟩
      · exact Or.inr ⟨by omega, by omega, h3, by omega⟩
  | o :: p :: r, i + 2, j, u, h => by
    cases j with
    | zero => exact Or.inr ⟨by omega, by omega, h, by omega⟩
    | succ j =>
      rcases zS2_get v (p :: r) (i + 1) j u h with ⟨h1, h2⟩ | ⟨h1, h2, h3, h4⟩
      · exact Or.inl ⟨by omega, h2⟩
      · exact Or.inr ⟨by omega, by omega, h3, fun q => h4 ⟨by omega, q.2⟩⟩
theorem zHas.st1 {ad : Nat → Nat} {ls : Array Slot} {nL : Nat} {lv : zLo} (h : zHas ad ls nL lv) {i : Nat} {v : Value} {ls' : Array Slot} (h' : lv_has ls' nL ((i, zR ad v) :: (zAs ad 0 lv).filter (fun q => !(q.1 == i) && !(q.1 + 1 == i && q.2.category == 2)))) : zHas ad ls' nL (zS1 v lv i) := by
  refine ⟨⟨h'.1, h'.2.1, fun q hq => h'.2.2 q ?_⟩, by rw [zS1_len]; exact h.2⟩
  obtain ⟨j, u, h1, rfl⟩ := (zAs_mem ad _ 0 q).mp hq
  rw [Nat.zero_add]
  rcases zS1_get v lv i j u h1 with ⟨rfl, rfl⟩ | ⟨h2, h3, h4⟩
  · exact List.mem_cons_self
  · refine List.mem_cons_of_mem _ (List.mem_filter.mpr ⟨(zAs_mem ad lv 0 _).mpr ⟨j, u, h3, by rw [Nat.zero_add]⟩, ?_⟩)
    simp only [zCat_R]
    simp only [Bool.and_eq_true, Bool.not_eq_true', beq_eq_false_iff_ne, ne_eq, Bool.and_eq_false_iff]
    exact ⟨h2, by by_cases e : j + 1 = i
                  · exact Or.inr (fun e2 => h4 ⟨e, e2⟩)
                  · exact Or.inl e⟩
theorem zHas.st2 {ad : Nat → Nat} {ls : Array Slot} {nL : Nat} {lv : zLo} (h : zHas ad ls nL lv) {i : Nat} {v : Value} {ls' : Array Slot} (h' : lv_has ls' nL ((i, zR ad v) :: (zAs ad 0 lv).filter (fun q => !(q.1 == i) && (!(q.1 == i + 1) && !(q.1 + 1 == i && q.2.category == 2))))) : zHas ad ls' nL (zS2 v lv i) := by
  refine ⟨⟨h'.1, h'.2.1, fun q hq => h'.2.2 q ?_⟩, by rw [zS2_len]; exact h.2⟩
  obtain ⟨j, u, h1, rfl⟩ := (zAs_mem ad _ 0 q).mp hq
  rw [Nat.zero_add]
  rcases zS2_get v lv i j u h1 with ⟨rfl, rfl⟩ | ⟨h2, h2', h3, h4⟩
  · exact List.mem_cons_self
  · refine List.mem_cons_of_mem _ (List.mem_filter.mpr ⟨(zAs_mem ad lv 0 _).mpr ⟨j, u, h3, by rw [Nat.zero_add]⟩, ?_⟩)
    simp only [zCat_R]
    simp only [Bool.and_eq_true, Bool.not_eq_true', beq_eq_false_iff_ne, ne_eq, Bool.and_eq_false_iff]
    exact ⟨h2, h2', by by_cases e : j + 1 = i
                       · exact Or.inr (fun e2 => h4 ⟨e, e2⟩)
                       · exact Or.inl e⟩
theorem zAr_len (ad : Nat → Nat) : ∀ av : List Value, (lg_sl (av.map (zR ad))).length = (zAr av).length
  | [] => rfl
  | v :: r => by
    have e := zAr_len ad r
    simp only [lg_sl] at e
    rcases (show zCat v = 2 ∨ zCat v = 1 by cases v <;> simp [zCat]) with h | h
    · simp [lg_sl, zAr, h, zCat_R, e]
    · simp [lg_sl, zAr, h, zCat_R, e]
theorem zAr_args (ad : Nat → Nat) : ∀ (av : List Value) (k n : Nat) (q : Nat × Value), q ∈ zAs ad k (zAr av ++ List.replicate n none) → q ∈ lv_args k (av.map (zR ad))
  | [], k, n, q, h => by
    obtain ⟨j, v, h1, -⟩ := (zAs_mem ad _ k q).mp h
    simp only [zAr, List.nil_append] at h1
    have := List.eq_of_mem_replicate (List.mem_of_getElem? h1)
    cases this
  | v :: r, k, n, q, h => by
    rcases (show zCat v = 2 ∨ zCat v = 1 by cases v <;> simp [zCat]) with e | e
    · simp only [zAr, e, List.cons_append, zAs, List.mem_cons] at h
      simp only [List.map_cons, lv_args, zCat_R, e, if_true, List.mem_cons]
      rcases h with h | h
      · exact Or.inl h
      · exact Or.inr (zAr_args ad r (k + 2) n q h)
    · simp only [zAr, e, List.cons_append, zAs, List.mem_cons] at h
      simp only [List.map_cons, lv_args, zCat_R, e, List.mem_cons]
      rcases h with h | h
      · exact Or.inl h
      · exact Or.inr (zAr_args ad r (k + 1) n q h)
theorem zHas.entry (ad : Nat → Nat) (av : List Value) (n : Nat) (h : (zAr av).length ≤ n) : zHas ad ((lg_sl (av.map (zR ad)) ++ List.replicate (n - (lg_sl (av.map (zR ad))).length) Slot.unset).toArray) n (zAr av ++ List.replicate (n - (zAr av).length) none) := by
  have e := lv_entry (av.map (zR ad)) (n := n) (by rw [zAr_len]; exact h)
  exact ⟨⟨e.1, e.2.1, fun q hq => e.2.2 q (zAr_args ad av 0 _ q hq)⟩, by simp; omega⟩
-- fewer locals
def zMb : List Bool → zLo → zLo
  | true :: b, o :: r => o :: zMb b r
  | false :: b, _ :: r => none :: zMb b r
  | _, _ => []
def zMk : List (Nat × List Bool) → Nat → zLo → zLo
  | [], _, ls => ls
  | q :: r, pc, ls => match Nat.beq q.1 pc with
    | true => zMb q.2 ls
    | false => zMk r pc ls
theorem zMb_get : ∀ (b : List Bool) (lv : zLo) (j : Nat) (u : Value), (zMb b lv)[j]? = some (some u) → lv[j]? = some (some u)
  | true :: b, o :: r, 0, u, h => h
  | true :: b, o :: r, j + 1, u, h => zMb_get b r j u h
  | false :: b, o :: r, 0, u, h => by simp [zMb] at h
  | false :: b, o :: r, j + 1, u, h => zMb_get b r j u h
  | [], lv, j, u, h => by simp [zMb] at h
  | true :: b, [], j, u, h => by simp [zMb] at h
  | false :: b, [], j, u, h => by simp [zMb] at h
theorem zMb_len : ∀ (b : List Bool) (lv : zLo), (zMb b lv).length ≤ lv.length
  | true :: b, o :: r => by simp only [zMb, List.length_cons]; have := zMb_len b r; omega
  | false :: b, o :: r => by simp only [zMb, List.length_cons]; have := zMb_len b r; omega
  | [], lv => by simp [zMb]
  | true :: b, [] => by simp [zMb]
  | false :: b, [] => by simp [zMb]
theorem zMk_get : ∀ (ms : List (Nat × List Bool)) (pc : Nat) (lv : zLo), (∀ (j : Nat) (u : Value), (zMk ms pc lv)[j]? = some (some u) → lv[j]? = some (some u)) ∧ (zMk ms pc lv).length ≤ lv.length
  | [], pc, lv => ⟨fun _ _ h => h, Nat.le_refl _⟩
  | q :: r, pc, lv => by
    unfold zMk
    cases Nat.beq q.1 pc with
    | true => exact ⟨zMb_get q.2 lv, zMb_len q.2 lv⟩
    | false => exact zMk_get r pc lv
theorem zHas.mk {ad : Nat → Nat} {ls : Array Slot} {nL : Nat} {lv : zLo} (h : zHas ad ls nL lv) (ms : List (Nat × List Bool)) (pc : Nat) : zHas ad ls nL (zMk ms pc lv) := by
  obtain ⟨h1, h2⟩ := zMk_get ms pc lv
  refine ⟨⟨h.1.1, h.1.2.1, fun q hq => h.1.2.2 q ?_⟩, Nat.le_trans h2 h.2⟩
  obtain ⟨j, v, e1, e2⟩ := (zAs_mem ad _ 0 q).mp hq
  exact (zAs_mem ad lv 0 q).mpr ⟨j, v, h1 j v e1, e2⟩
end
section
/-! the small machine is the machine: one instruction -/
def zClosed (sc : Option (Nat × (Nat → Int32))) (C : zCa) (post : zPo) (mi : Nat) (X : zX) : Prop :=
  (∀ (Z : zX) (pc : Nat) (o : zOp) (ls : zLo) (st : List Value) (σ : zS), (∀ (pc : Nat) (ls : zLo) (st : List Value) (σ : zS), Z pc ls st σ → X pc ls st σ) → zOk mi pc o = true → zEx sc C post Z o ls st σ → X pc ls st σ) ∧
  ∀ (ms : List (Nat × List Bool)) (pc : Nat) (ls : zLo) (st : List Value) (σ : zS), X pc (zMk ms pc ls) st σ → X pc ls st σ
def zCall : Nat → zCa
  | 0 => fun _ _ _ _ => False
  | d + 1 => fun mi av σ post => zG (Nat.ble (zAr av).length (zMl mi)) (∀ X : zX, zClosed none (zCall d) post mi X → X 0 (zAr av ++ List.replicate (zMl mi - (zAr av).length) none) [] σ)
def zSeq (sc : Option (Nat × (Nat → Int32))) (C : zCa) (post : zPo) (X : zX) (ms : List (Nat × List Bool)) : List zOp → Nat → zX
  | [], _ => fun pc ls st σ => X pc (zMk ms pc ls) st σ
  | o :: r, p => fun pc ls st σ => match Nat.beq pc p with
    | true => zEx sc C post (zSeq sc C post X ms r o.2.1) o ls st σ
    | false => zSeq sc C post X ms r o.2.1 pc ls st σ
theorem zSeq_ok {sc : Option (Nat × (Nat → Int32))} {C : zCa} {post : zPo} {mi : Nat} {X : zX} (hX : zClosed sc C post mi X) (ms : List (Nat × List Bool)) : ∀ (is : List zOp) (p pc : Nat) (ls : zLo) (st : List Value) (σ : zS), zOks mi is p = true → zSeq sc C post X ms is p pc ls st σ → X pc ls st σ
  | [], p, pc, ls, st, σ, _, h => hX.2 ms pc ls st σ h
  | o :: r, p, pc, ls, st, σ, hk, h => by
    simp only [zOks, Bool.and_eq_true] at hk
    simp only [zSeq] at h
    cases e : Nat.beq pc p with
    | true =>
      rw [e] at h
      have e2 := Nat.eq_of_beq_eq_true e
      subst e2
      exact hX.1 _ pc o ls st σ (fun pc ls st σ h => zSeq_ok hX ms r o.2.1 pc ls st σ hk.2 h) hk.1 h
    | false =>
      rw [e] at h
      exact zSeq_ok hX ms r o.2.1 pc ls st σ hk.2 h
def zWs (mi : Nat) : List Cond := .code (zY mi) (zBy mi) (zMl mi) (zRt mi) :: zTg
def zRm (d : Nat) : Room := { frames := d, cells := 0, slots := 0, locals := 32 * d }
def zA0 (ad : Nat → Nat) (sz : Nat) : Nat → Prop := fun q => (∃ k, k < zSh.length ∧ ad k = q) ∨ sz ≤ q
def zQ (D : va_G) (cI cJ : ClassId) (ad : Nat → Nat) (sz : Nat) (post : zPo) : Array Value → State → Outcome → State → Prop := fun _ st oc t => (∃ (r : Option Value) (σ : zS), oc = .returned r ∧ post r σ ∧ va_P D vwCl (zW ad cI cJ σ) t.heap) ∧ va_F (zA0 ad sz) st t
def zB (D : va_G) (cI cJ : ClassId) (ad : Nat → Nat) (sz : Nat) (σ : zS) : State → Prop := fun U => U.heap.size = sz ∧ va_P D vwCl (zW ad cI cJ σ) U.heap ∧ va_K D vwCl [(cI, .int), (cJ, .long)] U ∧ ∀ w ∈ zNw, va_Nw w U
def zCon (l : Launch) (D : va_G) (cI cJ : ClassId) (ad : Nat → Nat) (d : Nat) (mi : Nat) (av : List Value) (σ : zS) (post : zPo) : Prop :=
  ∀ sz : Nat, Met l (zY mi) (zWs mi) (zRm d) (va_Pc (av.map (zR ad)) (zB D cI cJ ad sz σ)) (zQ D cI cJ ad sz post) 0 0 (zA0 ad sz)
theorem zLen {bs : ByteArray} {pc n k : Nat} {i : Instr} (h1 : Nat.blt pc n = true) (h2 : decode bs pc = .ok (i, n - pc)) (h3 : Nat.beq (n - pc) k = true) : n = pc + k ∧ decode bs pc = .ok (i, k) := by
  have a := Nat.le_of_ble_eq_true h1
  have b := Nat.eq_of_beq_eq_true h3
  exact ⟨by omega, by rw [← b]; exact h2⟩
theorem zW_inv {ad : Nat → Nat} {cI cJ : ClassId} {σ : zS} {k : Nat} {q : Nat × va_E} (h : (zW ad cI cJ σ)[k]? = some q) : k < zSh.length ∧ q.1 = ad k := by
  have hl : k < (zW ad cI cJ σ).length := (List.getElem?_eq_some_iff.mp h).1
  have hz : (zW ad cI cJ σ).length = zSh.length := zWA_len ad cI cJ σ zSh 0
  rw [hz] at hl
  have e := zW_get ad cI cJ σ (List.getElem?_eq_getElem hl)
  rw [h] at e
  exact ⟨hl, congrArg Prod.fst (Option.some.inj e)⟩
theorem zD_of {ad : Nat → Nat} {cI cJ : ClassId} {A : Nat → Prop} (hi : ∀ i j, i < zSh.length → j < zSh.length → ad i = ad j → i = j) (hA : ∀ k, k < zSh.length → A (ad k)) (σ : zS) : va_D A (zW ad cI cJ σ) := by
  refine ⟨fun i j x y hx hy e => ?_, fun k q h => ?_⟩
  · obtain ⟨h1, h2⟩ := zW_inv hx
    obtain ⟨h3, h4⟩ := zW_inv hy
    exact hi i j h1 h3 (by rw [← h2, ← h4, e])
  · obtain ⟨h1, h2⟩ := zW_inv h
    rw [h2]
    exact hA k h1
section ZS
variable {p : Program} {l : Launch} {e : Env} {R : Room} {s : State} {m : MethodId} {args : Array Value} {below : List Frame} {meth : Method} {c : Code} {H : Heap} {locs : List Loc} {cells slots : Nat} {Q : State → Prop}
theorem z_callG {pc : Nat} {ls : Array Slot} {rest st0 : List Value} {Qa : State → Outcome → State → Prop} {free : Addr → Prop} (hr : va_Run p l e R s m args below meth c H locs cells slots 0 0 (F0 m pc ls st0) rest Qa free)
    (kk : ∀ (v : Option Value) (st₀ t : State) (H1 : Heap) (L : List Loc), st₀.heap = H → t.heap = H1 → Qa st₀ (.returned v) t → (∀ q ∈ L, free q.base) → W p l e R s m args below meth c H1 (locs ++ L) cells slots Q (F0 m (pc + 3) ls (v.toList ++ rest))) : W p l e R s m args below meth c H locs cells slots Q (F0 m pc ls st0) := by
  intro T hT X
  obtain ⟨v, st₀, t, T', L, h0, X', hL, e1, e2, hq, st⟩ := hr T hT X
  obtain ⟨t2, a1, b1⟩ := kk v st₀ t T'.heap L h0 e1.symm hq hL T' rfl X'
  exact ⟨t2, st t2 a1, b1⟩
theorem zS_call {ad : Nat → Nat} {A : Nat → Prop} {H0 H1 : Heap} {st₀ t : State} {L : List Loc} (hS : va_S A H0 H locs) (hAd : ∀ k, k < zSh.length → A (ad k)) (hA : ∀ q, H0.size ≤ q → A q) (h0 : st₀.heap = H) (hF : va_F (zA0 ad H.size) st₀ t) (ht : t.heap = H1) (hL : ∀ q ∈ L, zA0 ad H.size q.base) : va_S A H0 H1 (locs ++ L) := by
  subst h0; subst ht
  have hz : ∀ q, zA0 ad st₀.heap.size q → A q := by
    intro q h
    rcases h with ⟨k, h1, h2⟩ | h
    · rw [← h2]; exact hAd k h1
    · exact hA q (Nat.le_trans hS.1 h)
  refine ⟨Nat.le_trans hS.1 hF.1, fun q h1 h2 => ?_, fun q hq => ?_⟩
  · rw [hF.2 q (Nat.lt_of_lt_of_le h1 hS.1) (fun z => h2 (hz q z))]
    exact hS.2.1 q h1 h2
  · rcases List.mem_append.mp hq with h | h
    · exact hS.2.2 q h
    · exact hz _ (hL q h)
end ZS
theorem zTg_GoodIn {ws : List Cond} (h : ∀ w ∈ ws, w ∈ zTg) : GoodIn zTg ws := fun w hw => ⟨h w hw, (zTg_good (h w hw)).2⟩
theorem zMv_spec {a : Nat} (h : a < 213) (h2 : a ≠ nL_law) : (Cond.code (zY a) (zBy a) (zMl a) (zRt a) ∈ zTg) ∧ (Cond.initialized (zY a).cls ∈ zTg) ∧ ((zY a).cls ≠ "java/lang/invoke/MethodHandle" ∧ (zY a).cls ≠ "java/lang/invoke/VarHandle") ∧ plainName (zY a).cls = true ∧ zMl a ≤ 13 ∧
    (zMs a = true → Cond.static (zY a) ∈ zTg) ∧ (zMs a = false → Cond.instanceMethod (zY a) ∈ zTg ∧ ((zY a).name = "<init>" ∨ Cond.selects (zY a).cls (zY a) (zY a) ∈ zTg) ∧ zMc a < 13 ∧ (zCl (zMc a)).1 = (zY a).cls) := by
  have h3 := zMv_all a h h2
  simp only [zMv, zNoH, Bool.and_eq_true, decide_eq_true_eq] at h3
  obtain ⟨⟨⟨⟨⟨h4, h5⟩, h6⟩, h7⟩, h8⟩, h9⟩ := h3
  refine ⟨zin _ h4 rfl, zin _ h5 rfl, h6, h7, Nat.le_of_ble_eq_true h8, fun q => ?_, fun q => ?_⟩
  · rw [q] at h9
    exact zin _ (of_decide_eq_true h9) rfl
  · rw [q] at h9
    simp only [Bool.and_eq_true, Bool.or_eq_true, decide_eq_true_eq] at h9
    obtain ⟨⟨⟨g1, g2⟩, g3⟩, g4⟩ := h9
    exact ⟨zin _ g1 rfl, g2.imp id (fun z => zin _ z rfl), Nat.le_of_ble_eq_true g3, g4⟩
theorem zCl_get {a : Nat} (h : a < 13) : vwCl[a]? = some ((zCl a).1, (zCl a).2.1, (zCl a).2.2) ∧ zCv (zCl a) = true := by
  have hl : a < vwCl.length := h
  have e : vwCl[a]? = some (zCl a) := by
    unfold zCl
    rw [List.getD_eq_getElem?_getD, List.getElem?_eq_getElem hl]
    rfl
  exact ⟨e, List.all_eq_true.mp zCv_all _ (List.mem_of_getElem? e)⟩
theorem zCv_spec {q : vw_C} (h : zCv q = true) : (∀ w ∈ u_ws q.1 q.2.1 q.2.2, w ∈ zTg) ∧ (∀ k, k < q.2.2 → parseFieldDescriptor (q.2.1 k).2.2.1 = some ((parseFieldDescriptor (q.2.1 k).2.2.1).getD .int)) ∧ (∀ a, a < q.2.2 → ∀ b, b < q.2.2 → a ≠ b → (q.2.1 a).2.1 ≠ (q.2.1 b).2.1) := by
  simp only [zCv, Bool.and_eq_true] at h
  obtain ⟨h1, h2⟩ := h
  refine ⟨fun w hw => ?_, fun k hk => ?_, fun a ha b hb hab => ?_⟩
  · have e := List.all_eq_true.mp h1 w hw
    simp only [Bool.and_eq_true, decide_eq_true_eq] at e
    exact List.mem_filter.mpr e
  · have e := List.all_eq_true.mp h2 k (List.mem_range.mpr hk)
    simp only [Bool.and_eq_true] at e
    obtain ⟨v, hv⟩ := Option.isSome_iff_exists.mp e.1
    rw [hv]; rfl
  · have e := List.all_eq_true.mp h2 b (List.mem_range.mpr hb)
    simp only [Bool.and_eq_true] at e
    have e2 := List.all_eq_true.mp e.2 a (List.mem_range.mpr ha)
    simp only [Bool.or_eq_true, decide_eq_true_eq] at e2
    rcases e2 with e2 | e2
    · exact absurd (Nat.eq_of_beq_eq_true e2) hab
    · exact e2
theorem zNw_kind {w : Cond} (h : w ∈ zNw) : zNst w = true := (List.mem_filter.mp h).2
theorem zNw_same {w : Cond} (h : w ∈ zNw) {u U : State} (hv : u.vm = U.vm) (hZ : va_Nw w u) : va_Nw w U := by
  have hk := zNw_kind h
  cases w <;> first | (exact va_Nw.same rfl hv hZ) | (exact absurd hk (by simp [zNst]))
theorem zNw_warm {w : Cond} (h : w ∈ zNw) {s U : State} (hW : s.WarmedH U.vm) (hZ : va_Nw w s) : va_Nw w U := by
  have hk := zNw_kind h
  cases w <;> first | (exact va_Nw.warmF hW hZ) | (exact va_Nw.warmM hW hZ) | (exact absurd hk (by simp [zNst]))
theorem zB_blind (D : va_G) (cI cJ : ClassId) (ad : Nat → Nat) (sz : Nat) (σ : zS) (av : List Value) : FrameBlind (va_Pc av (zB D cI cJ ad sz σ)) := by
  intro a U g mk q
  obtain ⟨q0, q1, qP, qK, qN⟩ := q
  exact ⟨q0, q1, qP, va_K.moved (u := U) (U := U.calling g mk a) (Vm.Alike.refl U.vm) qK, fun w hw => zNw_same hw (u := U) (U := U.calling g mk a) rfl (qN w hw)⟩
end
section
/-! the small machine's instruction is the machine's -/
/-- what holds in a method's frame -/
def zCx (p : Program) (l : Launch) (R : Room) (s : State) (m : MethodId) (args : Array Value) (meth : Method) (c : Code) (cells slots : Nat) (D : va_G) (cI cJ : ClassId) (ad : Nat → Nat) (A : Nat → Prop) (d mi : Nat) : Prop :=
  p.tables.exec = Jvm.exec ∧ c.code = zBy mi ∧ c.maxLocals = zMl mi ∧ s.vm.findClass (zY mi).cls = some m.cls ∧ (∀ w ∈ zTg, w.before args s = true) ∧ (∀ w ∈ zNw, va_Nw w s) ∧ va_K D vwCl [(cI, .int), (cJ, .long)] s ∧ (∀ i j, i < zSh.length → j < zSh.length → ad i = ad j → i = j) ∧ (∀ k, k < zSh.length → A (ad k)) ∧ (∀ q, s.heap.size ≤ q → A q) ∧ cells ≤ R.cells ∧ slots ≤ R.slots ∧ d + 1 ≤ R.frames ∧ 32 * (d + 1) ≤ R.locals
theorem z01_nar {x : Int32} (h : (x == 0 || x == 1) = true) : narrow .boolean (.int x) = .int x := by
  simp only [Bool.or_eq_true, beq_iff_eq] at h
  rcases h with rfl | rfl <;> rfl
section ZX
variable {p : Program} {l : Launch} {e : Env} {R : Room} {s : State} {m : MethodId} {args : Array Value} {below : List Frame} {meth : Method} {c : Code} {cells slots : Nat} {Q : State → Prop} {D : va_G} {cI cJ : ClassId} {ad : Nat → Nat} {A : Nat → Prop} {d mi : Nat}
def zXs (p : Program) (l : Launch) (e : Env) (R : Room) (s : State) (m : MethodId) (args : Array Value) (below : List Frame) (meth : Method) (c : Code) (cells slots : Nat) (Q : State → Prop) (D : va_G) (cI cJ : ClassId) (ad : Nat → Nat) (A : Nat → Prop) (mi : Nat) : zX := fun pc lv st σ =>
  ∀ (H : Heap) (locs : List Loc) (ls : Array Slot), va_P D vwCl (zW ad cI cJ σ) H → va_S A s.heap H locs → zHas ad ls (zMl mi) lv → W p l e R s m args below meth c H locs cells slots Q (F0 m pc ls (st.map (zR ad)))
variable {sc : Option (Nat × (Nat → Int32))} {C : zCa} {post : zPo} {Z : zX} {pc n a b k1 e1 g : Nat} {v : Int32} {w : Int64} {tb : List (Int32 × Nat)} {lv : zLo} {st : List Value} {σ : zS}
abbrev zZX (p : Program) (l : Launch) (e : Env) (R : Room) (s : State) (m : MethodId) (args : Array Value) (below : List Frame) (meth : Method) (c : Code) (cells slots : Nat) (Q : State → Prop) (D : va_G) (cI cJ : ClassId) (ad : Nat → Nat) (A : Nat → Prop) (mi : Nat) (Z : zX) : Prop := ∀ (pc : Nat) (ls : zLo) (st : List Value) (σ : zS), Z pc ls st σ → zXs p l e R s m args below meth c cells slots Q D cI cJ ad A mi pc ls st σ
theorem zo_iconst {z : Int} (K : zCx p l R s m args meth c cells slots D cI cJ ad A d mi) (hZ : zZX p l e R s m args below meth c cells slots Q D cI cJ ad A mi Z) (hk : zOk mi pc (.iconst z, n, a, b, k1, e1, g, v, w, tb) = true) (h : zEx sc C post Z (.iconst z, n, a, b, k1, e1, g, v, w, tb) lv st σ) : zXs p l e R s m args below meth c cells slots Q D cI cJ ad A mi pc lv st σ := by
  obtain ⟨hx, hb, hml, hown, hts, hnw, hK, hinj, hAd, hA, hcl, hsl, hfr, hlo⟩ := K
  intro H locs ls hP hS hl
  simp only [zOk, Bool.and_eq_true, decide_eq_true_eq] at hk
  simp only [zEx] at h
  obtain ⟨⟨hn, hdg⟩, hk⟩ := hk
  obtain ⟨rfl, hd2⟩ := zLen hn hdg hk.1
  exact lv_iconst hx hb hd2 hk.2 (hZ _ _ _ _ h H locs ls hP hS hl)
theorem zo_bipush {z : Int} (K : zCx p l R s m args meth c cells slots D cI cJ ad A d mi) (hZ : zZX p l e R s m args below meth c cells slots Q D cI cJ ad A mi Z) (hk : zOk mi pc (.bipush z, n, a, b, k1, e1, g, v, w, tb) = true) (h : zEx sc C post Z (.bipush z, n, a, b, k1, e1, g, v, w, tb) lv st σ) : zXs p l e R s m args below meth c cells slots Q D cI cJ ad A mi pc lv st σ := by
  obtain ⟨hx, hb, hml, hown, hts, hnw, hK, hinj, hAd, hA, hcl, hsl, hfr, hlo⟩ := K
  intro H locs ls hP hS hl
  simp only [zOk, Bool.and_eq_true, decide_eq_true_eq] at hk
  simp only [zEx] at h
  obtain ⟨⟨hn, hdg⟩, hk⟩ := hk
  obtain ⟨rfl, hd2⟩ := zLen hn hdg hk.1
  exact lv_bipush hx hb hd2 hk.2 (hZ _ _ _ _ h H locs ls hP hS hl)
theorem zo_sipush {z : Int} (K : zCx p l R s m args meth c cells slots D cI cJ ad A d mi) (hZ : zZX p l e R s m args below meth c cells slots Q D cI cJ ad A mi Z) (hk : zOk mi pc (.sipush z, n, a, b, k1, e1, g, v, w, tb) = true) (h : zEx sc C post Z (.sipush z, n, a, b, k1, e1, g, v, w, tb) lv st σ) : zXs p l e R s m args below meth c cells slots Q D cI cJ ad A mi pc lv st σ := by
  obtain ⟨hx, hb, hml, hown, hts, hnw, hK, hinj, hAd, hA, hcl, hsl, hfr, hlo⟩ := K
  intro H locs ls hP hS hl
  simp only [zOk, Bool.and_eq_true, decide_eq_true_eq] at hk
  simp only [zEx] at h
  obtain ⟨⟨hn, hdg⟩, hk⟩ := hk
  obtain ⟨rfl, hd2⟩ := zLen hn hdg hk.1
  exact lv_sipush hx hb hd2 hk.2 (hZ _ _ _ _ h H locs ls hP hS hl)
theorem zo_lconst {z : Fin 2} (K : zCx p l R s m args meth c cells slots D cI cJ ad A d mi) (hZ : zZX p l e R s m args below meth c cells slots Q D cI cJ ad A mi Z) (hk : zOk mi pc (.lconst z, n, a, b, k1, e1, g, v, w, tb) = true) (h : zEx sc C post Z (.lconst z, n, a, b, k1, e1, g, v, w, tb) lv st σ) : zXs p l e R s m args below meth c cells slots Q D cI cJ ad A mi pc lv st σ := by
  obtain ⟨hx, hb, hml, hown, hts, hnw, hK, hinj, hAd, hA, hcl, hsl, hfr, hlo⟩ := K
  intro H locs ls hP hS hl
  simp only [zOk, Bool.and_eq_true, decide_eq_true_eq] at hk
  simp only [zEx] at h
  obtain ⟨⟨hn, hdg⟩, hk⟩ := hk
  obtain ⟨rfl, hd2⟩ := zLen hn hdg hk.1
  exact lv_lconst hx hb hd2 hk.2 (hZ _ _ _ _ h H locs ls hP hS hl)
theorem zo_ldc {idx : Nat} (K : zCx p l R s m args meth c cells slots D cI cJ ad A d mi) (hZ : zZX p l e R s m args below meth c cells slots Q D cI cJ ad A mi Z) (hk : zOk mi pc (.ldc idx, n, a, b, k1, e1, g, v, w, tb) = true) (h : zEx sc C post Z (.ldc idx, n, a, b, k1, e1, g, v, w, tb) lv st σ) : zXs p l e R s m args below meth c cells slots Q D cI cJ ad A mi pc lv st σ := by
  obtain ⟨hx, hb, hml, hown, hts, hnw, hK, hinj, hAd, hA, hcl, hsl, hfr, hlo⟩ := K
  intro H locs ls hP hS hl
  simp only [zOk, Bool.and_eq_true, decide_eq_true_eq] at hk
  simp only [zEx] at h
  obtain ⟨⟨hn, hdg⟩, hk⟩ := hk
  obtain ⟨rfl, hd2⟩ := zLen hn hdg hk.1
  exact lv_ldc hx hb hown (hts _ (zin _ hk.2 rfl)) hd2 (hZ _ _ _ _ h H locs ls hP hS hl)
theorem zo_ldc2 {idx : Nat} (K : zCx p l R s m args meth c cells slots D cI cJ ad A d mi) (hZ : zZX p l e R s m args below meth c cells slots Q D cI cJ ad A mi Z) (hk : zOk mi pc (.ldc2_w idx, n, a, b, k1, e1, g, v, w, tb) = true) (h : zEx sc C post Z (.ldc2_w idx, n, a, b, k1, e1, g, v, w, tb) lv st σ) : zXs p l e R s m args below meth c cells slots Q D cI cJ ad A mi pc lv st σ := by
  obtain ⟨hx, hb, hml, hown, hts, hnw, hK, hinj, hAd, hA, hcl, hsl, hfr, hlo⟩ := K
  intro H locs ls hP hS hl
  simp only [zOk, Bool.and_eq_true, decide_eq_true_eq] at hk
  simp only [zEx] at h
  obtain ⟨⟨hn, hdg⟩, hk⟩ := hk
  obtain ⟨rfl, hd2⟩ := zLen hn hdg hk.1
  exact lv_ldc2 hx hb hown (hts _ (zin _ hk.2 rfl)) hd2 (hZ _ _ _ _ h H locs ls hP hS hl)
theorem zo_iload_n {z : Fin 4} (K : zCx p l R s m args meth c cells slots D cI cJ ad A d mi) (hZ : zZX p l e R s m args below meth c cells slots Q D cI cJ ad A mi Z) (hk : zOk mi pc (.iload_n z, n, a, b, k1, e1, g, v, w, tb) = true) (h : zEx sc C post Z (.iload_n z, n, a, b, k1, e1, g, v, w, tb) lv st σ) : zXs p l e R s m args below meth c cells slots Q D cI cJ ad A mi pc lv st σ := by
  obtain ⟨hx, hb, hml, hown, hts, hnw, hK, hinj, hAd, hA, hcl, hsl, hfr, hlo⟩ := K
  intro H locs ls hP hS hl
  simp only [zOk, Bool.and_eq_true, decide_eq_true_eq] at hk
  simp only [zEx] at h
  obtain ⟨⟨hn, hdg⟩, hk⟩ := hk
  obtain ⟨rfl, hd2⟩ := zLen hn hdg hk.1
  obtain ⟨x, hg, h⟩ := zLi_inv h
  exact lv_iload_n hx hb hd2 (Nat.eq_of_beq_eq_true hk.2) (hl.at hg) (hZ _ _ _ _ h H locs ls hP hS hl)
theorem zo_iload {z : Nat} (K : zCx p l R s m args meth c cells slots D cI cJ ad A d mi) (hZ : zZX p l e R s m args below meth c cells slots Q D cI cJ ad A mi Z) (hk : zOk mi pc (.iload z, n, a, b, k1, e1, g, v, w, tb) = true) (h : zEx sc C post Z (.iload z, n, a, b, k1, e1, g, v, w, tb) lv st σ) : zXs p l e R s m args below meth c cells slots Q D cI cJ ad A mi pc lv st σ := by
  obtain ⟨hx, hb, hml, hown, hts, hnw, hK, hinj, hAd, hA, hcl, hsl, hfr, hlo⟩ := K
  intro H locs ls hP hS hl
  simp only [zOk, Bool.and_eq_true, decide_eq_true_eq] at hk
  simp only [zEx] at h
  obtain ⟨⟨hn, hdg⟩, hk⟩ := hk
  obtain ⟨rfl, hd2⟩ := zLen hn hdg hk.1
  have hz := Nat.eq_of_beq_eq_true hk.2
  subst hz
  obtain ⟨x, hg, h5⟩ := zLi_inv h
  exact lv_iload hx hb hd2 (hl.at hg) (hZ _ _ _ _ h5 H locs ls hP hS hl)
theorem zo_lload_n {z : Fin 4} (K : zCx p l R s m args meth c cells slots D cI cJ ad A d mi) (hZ : zZX p l e R s m args below meth c cells slots Q D cI cJ ad A mi Z) (hk : zOk mi pc (.lload_n z, n, a, b, k1, e1, g, v, w, tb) = true) (h : zEx sc C post Z (.lload_n z, n, a, b, k1, e1, g, v, w, tb) lv st σ) : zXs p l e R s m args below meth c cells slots Q D cI cJ ad A mi pc lv st σ := by
  obtain ⟨hx, hb, hml, hown, hts, hnw, hK, hinj, hAd, hA, hcl, hsl, hfr, hlo⟩ := K
  intro H locs ls hP hS hl
  simp only [zOk, Bool.and_eq_true, decide_eq_true_eq] at hk
  simp only [zEx] at h
  obtain ⟨⟨hn, hdg⟩, hk⟩ := hk
  obtain ⟨rfl, hd2⟩ := zLen hn hdg hk.1
  obtain ⟨x, hg, h⟩ := zLj_inv h
  exact lv_lload_n hx hb hd2 (Nat.eq_of_beq_eq_true hk.2) (hl.at hg) (hZ _ _ _ _ h H locs ls hP hS hl)
theorem zo_lload {z : Nat} (K : zCx p l R s m args meth c cells slots D cI cJ ad A d mi) (hZ : zZX p l e R s m args below meth c cells slots Q D cI cJ ad A mi Z) (hk : zOk mi pc (.lload z, n, a, b, k1, e1, g, v, w, tb) = true) (h : zEx sc C post Z (.lload z, n, a, b, k1, e1, g, v, w, tb) lv st σ) : zXs p l e R s m args below meth c cells slots Q D cI cJ ad A mi pc lv st σ := by
  obtain ⟨hx, hb, hml, hown, hts, hnw, hK, hinj, hAd, hA, hcl, hsl, hfr, hlo⟩ := K
  intro H locs ls hP hS hl
  simp only [zOk, Bool.and_eq_true, decide_eq_true_eq] at hk
  simp only [zEx] at h
  obtain ⟨⟨hn, hdg⟩, hk⟩ := hk
  obtain ⟨rfl, hd2⟩ := zLen hn hdg hk.1
  have hz := Nat.eq_of_beq_eq_true hk.2
  subst hz
  obtain ⟨x, hg, h5⟩ := zLj_inv h
  exact lv_lload hx hb hd2 (hl.at hg) (hZ _ _ _ _ h5 H locs ls hP hS hl)
theorem zo_aload_n {z : Fin 4} (K : zCx p l R s m args meth c cells slots D cI cJ ad A d mi) (hZ : zZX p l e R s m args below meth c cells slots Q D cI cJ ad A mi Z) (hk : zOk mi pc (.aload_n z, n, a, b, k1, e1, g, v, w, tb) = true) (h : zEx sc C post Z (.aload_n z, n, a, b, k1, e1, g, v, w, tb) lv st σ) : zXs p l e R s m args below meth c cells slots Q D cI cJ ad A mi pc lv st σ := by
  obtain ⟨hx, hb, hml, hown, hts, hnw, hK, hinj, hAd, hA, hcl, hsl, hfr, hlo⟩ := K
  intro H locs ls hP hS hl
  simp only [zOk, Bool.and_eq_true, decide_eq_true_eq] at hk
  simp only [zEx] at h
  obtain ⟨⟨hn, hdg⟩, hk⟩ := hk
  obtain ⟨rfl, hd2⟩ := zLen hn hdg hk.1
  obtain ⟨x, hg, h⟩ := zLa_inv h
  exact lv_aload_n hx hb hd2 (Nat.eq_of_beq_eq_true hk.2) (hl.at hg) (hZ _ _ _ _ h H locs ls hP hS hl)
theorem zo_aload {z : Nat} (K : zCx p l R s m args meth c cells slots D cI cJ ad A d mi) (hZ : zZX p l e R s m args below meth c cells slots Q D cI cJ ad A mi Z) (hk : zOk mi pc (.aload z, n, a, b, k1, e1, g, v, w, tb) = true) (h : zEx sc C post Z (.aload z, n, a, b, k1, e1, g, v, w, tb) lv st σ) : zXs p l e R s m args below meth c cells slots Q D cI cJ ad A mi pc lv st σ := by
  obtain ⟨hx, hb, hml, hown, hts, hnw, hK, hinj, hAd, hA, hcl, hsl, hfr, hlo⟩ := K
  intro H locs ls hP hS hl
  simp only [zOk, Bool.and_eq_true, decide_eq_true_eq] at hk
  simp only [zEx] at h
  obtain ⟨⟨hn, hdg⟩, hk⟩ := hk
  obtain ⟨rfl, hd2⟩ := zLen hn hdg hk.1
  have hz := Nat.eq_of_beq_eq_true hk.2
  subst hz
  obtain ⟨x, hg, h5⟩ := zLa_inv h
  exact lv_aload hx hb hd2 (hl.at hg) (hZ _ _ _ _ h5 H locs ls hP hS hl)
theorem zo_istore_n {z : Fin 4} (K : zCx p l R s m args meth c cells slots D cI cJ ad A d mi) (hZ : zZX p l e R s m args below meth c cells slots Q D cI cJ ad A mi Z) (hk : zOk mi pc (.istore_n z, n, a, b, k1, e1, g, v, w, tb) = true) (h : zEx sc C post Z (.istore_n z, n, a, b, k1, e1, g, v, w, tb) lv st σ) : zXs p l e R s m args below meth c cells slots Q D cI cJ ad A mi pc lv st σ := by
  obtain ⟨hx, hb, hml, hown, hts, hnw, hK, hinj, hAd, hA, hcl, hsl, hfr, hlo⟩ := K
  intro H locs ls hP hS hl
  simp only [zOk, Bool.and_eq_true, decide_eq_true_eq] at hk
  simp only [zEx] at h
  obtain ⟨⟨hn, hdg⟩, hk⟩ := hk
  obtain ⟨rfl, hd2⟩ := zLen hn hdg hk.1
  obtain ⟨x, r, rfl, h⟩ := zI_inv h
  obtain ⟨hlt, h⟩ := zG_inv h
  exact lv_istore_n hx hb hd2 (Nat.eq_of_beq_eq_true hk.2) hl.1 (Nat.lt_of_lt_of_le (Nat.le_of_ble_eq_true hlt) hl.2) rfl (fun ls2 hl2 => hZ _ _ _ _ h H locs ls2 hP hS (hl.st1 (v := .int x) hl2))
theorem zo_istore {z : Nat} (K : zCx p l R s m args meth c cells slots D cI cJ ad A d mi) (hZ : zZX p l e R s m args below meth c cells slots Q D cI cJ ad A mi Z) (hk : zOk mi pc (.istore z, n, a, b, k1, e1, g, v, w, tb) = true) (h : zEx sc C post Z (.istore z, n, a, b, k1, e1, g, v, w, tb) lv st σ) : zXs p l e R s m args below meth c cells slots Q D cI cJ ad A mi pc lv st σ := by
  obtain ⟨hx, hb, hml, hown, hts, hnw, hK, hinj, hAd, hA, hcl, hsl, hfr, hlo⟩ := K
  intro H locs ls hP hS hl
  simp only [zOk, Bool.and_eq_true, decide_eq_true_eq] at hk
  simp only [zEx] at h
  obtain ⟨⟨hn, hdg⟩, hk⟩ := hk
  obtain ⟨rfl, hd2⟩ := zLen hn hdg hk.1
  obtain ⟨x, r, rfl, h⟩ := zI_inv h
  obtain ⟨hlt, h⟩ := zG_inv h
  have hz := Nat.eq_of_beq_eq_true hk.2
  subst hz
  exact lv_istore hx hb hd2 hl.1 (Nat.lt_of_lt_of_le (Nat.le_of_ble_eq_true hlt) hl.2) rfl (fun ls2 hl2 => hZ _ _ _ _ h H locs ls2 hP hS (hl.st1 (v := .int x) hl2))
theorem zo_lstore_n {z : Fin 4} (K : zCx p l R s m args meth c cells slots D cI cJ ad A d mi) (hZ : zZX p l e R s m args below meth c cells slots Q D cI cJ ad A mi Z) (hk : zOk mi pc (.lstore_n z, n, a, b, k1, e1, g, v, w, tb) = true) (h : zEx sc C post Z (.lstore_n z, n, a, b, k1, e1, g, v, w, tb) lv st σ) : zXs p l e R s m args below meth c cells slots Q D cI cJ ad A mi pc lv st σ := by
  obtain ⟨hx, hb, hml, hown, hts, hnw, hK, hinj, hAd, hA, hcl, hsl, hfr, hlo⟩ := K
  intro H locs ls hP hS hl
  simp only [zOk, Bool.and_eq_true, decide_eq_true_eq] at hk
  simp only [zEx] at h
  obtain ⟨⟨hn, hdg⟩, hk⟩ := hk
  obtain ⟨rfl, hd2⟩ := zLen hn hdg hk.1
  obtain ⟨x, r, rfl, h⟩ := zJ_inv h
  obtain ⟨hlt, h⟩ := zG_inv h
  exact lv_lstore_n hx hb hd2 (Nat.eq_of_beq_eq_true hk.2) hl.1 (Nat.lt_of_lt_of_le (Nat.le_of_ble_eq_true hlt) hl.2) rfl (fun ls2 hl2 => hZ _ _ _ _ h H locs ls2 hP hS (hl.st2 (v := .long x) hl2))
theorem zo_lstore {z : Nat} (K : zCx p l R s m args meth c cells slots D cI cJ ad A d mi) (hZ : zZX p l e R s m args below meth c cells slots Q D cI cJ ad A mi Z) (hk : zOk mi pc (.lstore z, n, a, b, k1, e1, g, v, w, tb) = true) (h : zEx sc C post Z (.lstore z, n, a, b, k1, e1, g, v, w, tb) lv st σ) : zXs p l e R s m args below meth c cells slots Q D cI cJ ad A mi pc lv st σ := by
  obtain ⟨hx, hb, hml, hown, hts, hnw, hK, hinj, hAd, hA, hcl, hsl, hfr, hlo⟩ := K
  intro H locs ls hP hS hl
  simp only [zOk, Bool.and_eq_true, decide_eq_true_eq] at hk
  simp only [zEx] at h
  obtain ⟨⟨hn, hdg⟩, hk⟩ := hk
  obtain ⟨rfl, hd2⟩ := zLen hn hdg hk.1
  obtain ⟨x, r, rfl, h⟩ := zJ_inv h
  obtain ⟨hlt, h⟩ := zG_inv h
  have hz := Nat.eq_of_beq_eq_true hk.2
  subst hz
  exact lv_lstore hx hb hd2 hl.1 (Nat.lt_of_lt_of_le (Nat.le_of_ble_eq_true hlt) hl.2) rfl (fun ls2 hl2 => hZ _ _ _ _ h H locs ls2 hP hS (hl.st2 (v := .long x) hl2))
theorem zo_iinc {z : Nat} {y : Int} (K : zCx p l R s m args meth c cells slots D cI cJ ad A d mi) (hZ : zZX p l e R s m args below meth c cells slots Q D cI cJ ad A mi Z) (hk : zOk mi pc (.iinc z y, n, a, b, k1, e1, g, v, w, tb) = true) (h : zEx sc C post Z (.iinc z y, n, a, b, k1, e1, g, v, w, tb) lv st σ) : zXs p l e R s m args below meth c cells slots Q D cI cJ ad A mi pc lv st σ := by
  obtain ⟨hx, hb, hml, hown, hts, hnw, hK, hinj, hAd, hA, hcl, hsl, hfr, hlo⟩ := K
  intro H locs ls hP hS hl
  simp only [zOk, Bool.and_eq_true, decide_eq_true_eq] at hk
  simp only [zEx] at h
  obtain ⟨⟨hn, hdg⟩, ⟨hk0, hk1⟩, hk2⟩ := hk
  obtain ⟨rfl, hd2⟩ := zLen hn hdg hk0
  have hz := Nat.eq_of_beq_eq_true hk1
  subst hz
  obtain ⟨x, hg, h⟩ := zLi_inv h
  obtain ⟨k, hkk⟩ := List.getElem?_of_mem ((zAs_mem ad lv 0 (z, zR ad (.int x))).mpr ⟨z, .int x, by rw [List.getD_eq_getElem?_getD] at hg; cases e3 : lv[z]? with | none => rw [e3] at hg; simp at hg | some o => (rw [e3] at hg; simp at hg; rw [hg]), by rw [Nat.zero_add]⟩)
  exact lv_iinc (v := x + v) hx hb hd2 hl.1 (k := k) hkk (by rw [hk2]) (hl.lt hg) rfl (fun ls2 hl2 => hZ _ _ _ _ h H locs ls2 hP hS (hl.st1 (v := .int (x + v)) hl2))
theorem zo_iadd (K : zCx p l R s m args meth c cells slots D cI cJ ad A d mi) (hZ : zZX p l e R s m args below meth c cells slots Q D cI cJ ad A mi Z) (hk : zOk mi pc (.iadd, n, a, b, k1, e1, g, v, w, tb) = true) (h : zEx sc C post Z (.iadd, n, a, b, k1, e1, g, v, w, tb) lv st σ) : zXs p l e R s m args below meth c cells slots Q D cI cJ ad A mi pc lv st σ := by
  obtain ⟨hx, hb, hml, hown, hts, hnw, hK, hinj, hAd, hA, hcl, hsl, hfr, hlo⟩ := K
  intro H locs ls hP hS hl
  simp only [zOk, Bool.and_eq_true, decide_eq_true_eq] at hk
  simp only [zEx] at h
  obtain ⟨⟨hn, hdg⟩, hk⟩ := hk
  obtain ⟨rfl, hd2⟩ := zLen hn hdg hk
  obtain ⟨x, y, r, rfl, h⟩ := zII_inv h
  exact lv_iadd hx hb hd2 (hZ _ _ _ _ h H locs ls hP hS hl)
theorem zo_isub (K : zCx p l R s m args meth c cells slots D cI cJ ad A d mi) (hZ : zZX p l e R s m args below meth c cells slots Q D cI cJ ad A mi Z) (hk : zOk mi pc (.isub, n, a, b, k1, e1, g, v, w, tb) = true) (h : zEx sc C post Z (.isub, n, a, b, k1, e1, g, v, w, tb) lv st σ) : zXs p l e R s m args below meth c cells slots Q D cI cJ ad A mi pc lv st σ := by
  obtain ⟨hx, hb, hml, hown, hts, hnw, hK, hinj, hAd, hA, hcl, hsl, hfr, hlo⟩ := K
  intro H locs ls hP hS hl
  simp only [zOk, Bool.and_eq_true, decide_eq_true_eq] at hk
  simp only [zEx] at h
  obtain ⟨⟨hn, hdg⟩, hk⟩ := hk
  obtain ⟨rfl, hd2⟩ := zLen hn hdg hk
  obtain ⟨x, y, r, rfl, h⟩ := zII_inv h
  exact lv_isub hx hb hd2 (hZ _ _ _ _ h H locs ls hP hS hl)
theorem zo_imul (K : zCx p l R s m args meth c cells slots D cI cJ ad A d mi) (hZ : zZX p l e R s m args below meth c cells slots Q D cI cJ ad A mi Z) (hk : zOk mi pc (.imul, n, a, b, k1, e1, g, v, w, tb) = true) (h : zEx sc C post Z (.imul, n, a, b, k1, e1, g, v, w, tb) lv st σ) : zXs p l e R s m args below meth c cells slots Q D cI cJ ad A mi pc lv st σ := by
  obtain ⟨hx, hb, hml, hown, hts, hnw, hK, hinj, hAd, hA, hcl, hsl, hfr, hlo⟩ := K
  intro H locs ls hP hS hl
  simp only [zOk, Bool.and_eq_true, decide_eq_true_eq] at hk
  simp only [zEx] at h
  obtain ⟨⟨hn, hdg⟩, hk⟩ := hk
  obtain ⟨rfl, hd2⟩ := zLen hn hdg hk
  obtain ⟨x, y, r, rfl, h⟩ := zII_inv h
  exact lv_imul hx hb hd2 (hZ _ _ _ _ h H locs ls hP hS hl)
theorem zo_iand (K : zCx p l R s m args meth c cells slots D cI cJ ad A d mi) (hZ : zZX p l e R s m args below meth c cells slots Q D cI cJ ad A mi Z) (hk : zOk mi pc (.iand, n, a, b, k1, e1, g, v, w, tb) = true) (h : zEx sc C post Z (.iand, n, a, b, k1, e1, g, v, w, tb) lv st σ) : zXs p l e R s m args below meth c cells slots Q D cI cJ ad A mi pc lv st σ := by
  obtain ⟨hx, hb, hml, hown, hts, hnw, hK, hinj, hAd, hA, hcl, hsl, hfr, hlo⟩ := K
  intro H locs ls hP hS hl
  simp only [zOk, Bool.and_eq_true, decide_eq_true_eq] at hk
  simp only [zEx] at h
  obtain ⟨⟨hn, hdg⟩, hk⟩ := hk
  obtain ⟨rfl, hd2⟩ := zLen hn hdg hk
  obtain ⟨x, y, r, rfl, h⟩ := zII_inv h
  exact lv_iand hx hb hd2 (hZ _ _ _ _ h H locs ls hP hS hl)
theorem zo_idiv (K : zCx p l R s m args meth c cells slots D cI cJ ad A d mi) (hZ : zZX p l e R s m args below meth c cells slots Q D cI cJ ad A mi Z) (hk : zOk mi pc (.idiv, n, a, b, k1, e1, g, v, w, tb) = true) (h : zEx sc C post Z (.idiv, n, a, b, k1, e1, g, v, w, tb) lv st σ) : zXs p l e R s m args below meth c cells slots Q D cI cJ ad A mi pc lv st σ := by
  obtain ⟨hx, hb, hml, hown, hts, hnw, hK, hinj, hAd, hA, hcl, hsl, hfr, hlo⟩ := K
  intro H locs ls hP hS hl
  simp only [zOk, Bool.and_eq_true, decide_eq_true_eq] at hk
  simp only [zEx] at h
  obtain ⟨⟨hn, hdg⟩, hk⟩ := hk
  obtain ⟨rfl, hd2⟩ := zLen hn hdg hk
  obtain ⟨x, y, r, rfl, h0, h⟩ := zII_inv h
  exact lv_idiv hx hb hd2 h0 (hZ _ _ _ _ h H locs ls hP hS hl)
theorem zo_irem (K : zCx p l R s m args meth c cells slots D cI cJ ad A d mi) (hZ : zZX p l e R s m args below meth c cells slots Q D cI cJ ad A mi Z) (hk : zOk mi pc (.irem, n, a, b, k1, e1, g, v, w, tb) = true) (h : zEx sc C post Z (.irem, n, a, b, k1, e1, g, v, w, tb) lv st σ) : zXs p l e R s m args below meth c cells slots Q D cI cJ ad A mi pc lv st σ := by
  obtain ⟨hx, hb, hml, hown, hts, hnw, hK, hinj, hAd, hA, hcl, hsl, hfr, hlo⟩ := K
  intro H locs ls hP hS hl
  simp only [zOk, Bool.and_eq_true, decide_eq_true_eq] at hk
  simp only [zEx] at h
  obtain ⟨⟨hn, hdg⟩, hk⟩ := hk
  obtain ⟨rfl, hd2⟩ := zLen hn hdg hk
  obtain ⟨x, y, r, rfl, h0, h⟩ := zII_inv h
  exact lv_irem hx hb hd2 h0 (hZ _ _ _ _ h H locs ls hP hS hl)
theorem zo_ladd (K : zCx p l R s m args meth c cells slots D cI cJ ad A d mi) (hZ : zZX p l e R s m args below meth c cells slots Q D cI cJ ad A mi Z) (hk : zOk mi pc (.ladd, n, a, b, k1, e1, g, v, w, tb) = true) (h : zEx sc C post Z (.ladd, n, a, b, k1, e1, g, v, w, tb) lv st σ) : zXs p l e R s m args below meth c cells slots Q D cI cJ ad A mi pc lv st σ := by
  obtain ⟨hx, hb, hml, hown, hts, hnw, hK, hinj, hAd, hA, hcl, hsl, hfr, hlo⟩ := K
  intro H locs ls hP hS hl
  simp only [zOk, Bool.and_eq_true, decide_eq_true_eq] at hk
  simp only [zEx] at h
  obtain ⟨⟨hn, hdg⟩, hk⟩ := hk
  obtain ⟨rfl, hd2⟩ := zLen hn hdg hk
  obtain ⟨x, y, r, rfl, h⟩ := zJJ_inv h
  exact lv_ladd hx hb hd2 (hZ _ _ _ _ h H locs ls hP hS hl)
theorem zo_lsub (K : zCx p l R s m args meth c cells slots D cI cJ ad A d mi) (hZ : zZX p l e R s m args below meth c cells slots Q D cI cJ ad A mi Z) (hk : zOk mi pc (.lsub, n, a, b, k1, e1, g, v, w, tb) = true) (h : zEx sc C post Z (.lsub, n, a, b, k1, e1, g, v, w, tb) lv st σ) : zXs p l e R s m args below meth c cells slots Q D cI cJ ad A mi pc lv st σ := by
  obtain ⟨hx, hb, hml, hown, hts, hnw, hK, hinj, hAd, hA, hcl, hsl, hfr, hlo⟩ := K
  intro H locs ls hP hS hl
  simp only [zOk, Bool.and_eq_true, decide_eq_true_eq] at hk
  simp only [zEx] at h
  obtain ⟨⟨hn, hdg⟩, hk⟩ := hk
  obtain ⟨rfl, hd2⟩ := zLen hn hdg hk
  obtain ⟨x, y, r, rfl, h⟩ := zJJ_inv h
  exact lv_lsub hx hb hd2 (hZ _ _ _ _ h H locs ls hP hS hl)
theorem zo_lmul (K : zCx p l R s m args meth c cells slots D cI cJ ad A d mi) (hZ : zZX p l e R s m args below meth c cells slots Q D cI cJ ad A mi Z) (hk : zOk mi pc (.lmul, n, a, b, k1, e1, g, v, w, tb) = true) (h : zEx sc C post Z (.lmul, n, a, b, k1, e1, g, v, w, tb) lv st σ) : zXs p l e R s m args below meth c cells slots Q D cI cJ ad A mi pc lv st σ := by
  obtain ⟨hx, hb, hml, hown, hts, hnw, hK, hinj, hAd, hA, hcl, hsl, hfr, hlo⟩ := K
  intro H locs ls hP hS hl
  simp only [zOk, Bool.and_eq_true, decide_eq_true_eq] at hk
  simp only [zEx] at h
  obtain ⟨⟨hn, hdg⟩, hk⟩ := hk
  obtain ⟨rfl, hd2⟩ := zLen hn hdg hk
  obtain ⟨x, y, r, rfl, h⟩ := zJJ_inv h
  exact lv_lmul hx hb hd2 (hZ _ _ _ _ h H locs ls hP hS hl)
theorem zo_ldiv (K : zCx p l R s m args meth c cells slots D cI cJ ad A d mi) (hZ : zZX p l e R s m args below meth c cells slots Q D cI cJ ad A mi Z) (hk : zOk mi pc (.ldiv, n, a, b, k1, e1, g, v, w, tb) = true) (h : zEx sc C post Z (.ldiv, n, a, b, k1, e1, g, v, w, tb) lv st σ) : zXs p l e R s m args below meth c cells slots Q D cI cJ ad A mi pc lv st σ := by
  obtain ⟨hx, hb, hml, hown, hts, hnw, hK, hinj, hAd, hA, hcl, hsl, hfr, hlo⟩ := K
  intro H locs ls hP hS hl
  simp only [zOk, Bool.and_eq_true, decide_eq_true_eq] at hk
  simp only [zEx] at h
  obtain ⟨⟨hn, hdg⟩, hk⟩ := hk
  obtain ⟨rfl, hd2⟩ := zLen hn hdg hk
  obtain ⟨x, y, r, rfl, h0, h⟩ := zJJ_inv h
  exact lv_ldiv hx hb hd2 h0 (hZ _ _ _ _ h H locs ls hP hS hl)
theorem zo_lcmp (K : zCx p l R s m args meth c cells slots D cI cJ ad A d mi) (hZ : zZX p l e R s m args below meth c cells slots Q D cI cJ ad A mi Z) (hk : zOk mi pc (.lcmp, n, a, b, k1, e1, g, v, w, tb) = true) (h : zEx sc C post Z (.lcmp, n, a, b, k1, e1, g, v, w, tb) lv st σ) : zXs p l e R s m args below meth c cells slots Q D cI cJ ad A mi pc lv st σ := by
  obtain ⟨hx, hb, hml, hown, hts, hnw, hK, hinj, hAd, hA, hcl, hsl, hfr, hlo⟩ := K
  intro H locs ls hP hS hl
  simp only [zOk, Bool.and_eq_true, decide_eq_true_eq] at hk
  simp only [zEx] at h
  obtain ⟨⟨hn, hdg⟩, hk⟩ := hk
  obtain ⟨rfl, hd2⟩ := zLen hn hdg hk
  obtain ⟨x, y, r, rfl, h⟩ := zJJ_inv h
  exact W.lcmp hx hb hd2 (hZ _ _ _ _ h H locs ls hP hS hl)
theorem zo_ineg (K : zCx p l R s m args meth c cells slots D cI cJ ad A d mi) (hZ : zZX p l e R s m args below meth c cells slots Q D cI cJ ad A mi Z) (hk : zOk mi pc (.ineg, n, a, b, k1, e1, g, v, w, tb) = true) (h : zEx sc C post Z (.ineg, n, a, b, k1, e1, g, v, w, tb) lv st σ) : zXs p l e R s m args below meth c cells slots Q D cI cJ ad A mi pc lv st σ := by
  obtain ⟨hx, hb, hml, hown, hts, hnw, hK, hinj, hAd, hA, hcl, hsl, hfr, hlo⟩ := K
  intro H locs ls hP hS hl
  simp only [zOk, Bool.and_eq_true, decide_eq_true_eq] at hk
  simp only [zEx] at h
  obtain ⟨⟨hn, hdg⟩, hk⟩ := hk
  obtain ⟨rfl, hd2⟩ := zLen hn hdg hk
  obtain ⟨x, r, rfl, h⟩ := zI_inv h
  exact lv_ineg hx hb hd2 (hZ _ _ _ _ h H locs ls hP hS hl)
theorem zo_i2l (K : zCx p l R s m args meth c cells slots D cI cJ ad A d mi) (hZ : zZX p l e R s m args below meth c cells slots Q D cI cJ ad A mi Z) (hk : zOk mi pc (.i2l, n, a, b, k1, e1, g, v, w, tb) = true) (h : zEx sc C post Z (.i2l, n, a, b, k1, e1, g, v, w, tb) lv st σ) : zXs p l e R s m args below meth c cells slots Q D cI cJ ad A mi pc lv st σ := by
  obtain ⟨hx, hb, hml, hown, hts, hnw, hK, hinj, hAd, hA, hcl, hsl, hfr, hlo⟩ := K
  intro H locs ls hP hS hl
  simp only [zOk, Bool.and_eq_true, decide_eq_true_eq] at hk
  simp only [zEx] at h
  obtain ⟨⟨hn, hdg⟩, hk⟩ := hk
  obtain ⟨rfl, hd2⟩ := zLen hn hdg hk
  obtain ⟨x, r, rfl, h⟩ := zI_inv h
  exact lv_i2l hx hb hd2 rfl (hZ _ _ _ _ h H locs ls hP hS hl)
theorem zo_l2i (K : zCx p l R s m args meth c cells slots D cI cJ ad A d mi) (hZ : zZX p l e R s m args below meth c cells slots Q D cI cJ ad A mi Z) (hk : zOk mi pc (.l2i, n, a, b, k1, e1, g, v, w, tb) = true) (h : zEx sc C post Z (.l2i, n, a, b, k1, e1, g, v, w, tb) lv st σ) : zXs p l e R s m args below meth c cells slots Q D cI cJ ad A mi pc lv st σ := by
  obtain ⟨hx, hb, hml, hown, hts, hnw, hK, hinj, hAd, hA, hcl, hsl, hfr, hlo⟩ := K
  intro H locs ls hP hS hl
  simp only [zOk, Bool.and_eq_true, decide_eq_true_eq] at hk
  simp only [zEx] at h
  obtain ⟨⟨hn, hdg⟩, hk⟩ := hk
  obtain ⟨rfl, hd2⟩ := zLen hn hdg hk
  obtain ⟨x, r, rfl, h⟩ := zJ_inv h
  exact lv_l2i hx hb hd2 rfl (hZ _ _ _ _ h H locs ls hP hS hl)
theorem zo_dup (K : zCx p l R s m args meth c cells slots D cI cJ ad A d mi) (hZ : zZX p l e R s m args below meth c cells slots Q D cI cJ ad A mi Z) (hk : zOk mi pc (.dup, n, a, b, k1, e1, g, v, w, tb) = true) (h : zEx sc C post Z (.dup, n, a, b, k1, e1, g, v, w, tb) lv st σ) : zXs p l e R s m args below meth c cells slots Q D cI cJ ad A mi pc lv st σ := by
  obtain ⟨hx, hb, hml, hown, hts, hnw, hK, hinj, hAd, hA, hcl, hsl, hfr, hlo⟩ := K
  intro H locs ls hP hS hl
  simp only [zOk, Bool.and_eq_true, decide_eq_true_eq] at hk
  simp only [zEx] at h
  obtain ⟨⟨hn, hdg⟩, hk⟩ := hk
  obtain ⟨rfl, hd2⟩ := zLen hn hdg hk
  obtain ⟨x, r, rfl, h0, h⟩ := zV1_inv h
  exact lv_dup hx hb hd2 (by rw [zCat_R]; exact h0) (hZ _ _ _ _ h H locs ls hP hS hl)
theorem zo_pop (K : zCx p l R s m args meth c cells slots D cI cJ ad A d mi) (hZ : zZX p l e R s m args below meth c cells slots Q D cI cJ ad A mi Z) (hk : zOk mi pc (.pop, n, a, b, k1, e1, g, v, w, tb) = true) (h : zEx sc C post Z (.pop, n, a, b, k1, e1, g, v, w, tb) lv st σ) : zXs p l e R s m args below meth c cells slots Q D cI cJ ad A mi pc lv st σ := by
  obtain ⟨hx, hb, hml, hown, hts, hnw, hK, hinj, hAd, hA, hcl, hsl, hfr, hlo⟩ := K
  intro H locs ls hP hS hl
  simp only [zOk, Bool.and_eq_true, decide_eq_true_eq] at hk
  simp only [zEx] at h
  obtain ⟨⟨hn, hdg⟩, hk⟩ := hk
  obtain ⟨rfl, hd2⟩ := zLen hn hdg hk
  obtain ⟨x, r, rfl, h0, h⟩ := zV1_inv h
  exact lv_pop hx hb hd2 (by rw [zCat_R]; exact h0) (hZ _ _ _ _ h H locs ls hP hS hl)
theorem zo_dup2 (K : zCx p l R s m args meth c cells slots D cI cJ ad A d mi) (hZ : zZX p l e R s m args below meth c cells slots Q D cI cJ ad A mi Z) (hk : zOk mi pc (.dup2, n, a, b, k1, e1, g, v, w, tb) = true) (h : zEx sc C post Z (.dup2, n, a, b, k1, e1, g, v, w, tb) lv st σ) : zXs p l e R s m args below meth c cells slots Q D cI cJ ad A mi pc lv st σ := by
  obtain ⟨hx, hb, hml, hown, hts, hnw, hK, hinj, hAd, hA, hcl, hsl, hfr, hlo⟩ := K
  intro H locs ls hP hS hl
  simp only [zOk, Bool.and_eq_true, decide_eq_true_eq] at hk
  simp only [zEx] at h
  obtain ⟨⟨hn, hdg⟩, hk⟩ := hk
  obtain ⟨rfl, hd2⟩ := zLen hn hdg hk
  obtain ⟨x, r, rfl, h0, h1⟩ := zV1_inv h
  obtain ⟨y, r2, rfl, h2, h⟩ := zV1_inv h1
  exact lv_dup2_11 hx hb hd2 (by rw [zCat_R]; exact h0) (by rw [zCat_R]; exact h2) (hZ _ _ _ _ h H locs ls hP hS hl)
theorem zo_if_eq {off : Int} (K : zCx p l R s m args meth c cells slots D cI cJ ad A d mi) (hZ : zZX p l e R s m args below meth c cells slots Q D cI cJ ad A mi Z) (hk : zOk mi pc (.ifCond .eq off, n, a, b, k1, e1, g, v, w, tb) = true) (h : zEx sc C post Z (.ifCond .eq off, n, a, b, k1, e1, g, v, w, tb) lv st σ) : zXs p l e R s m args below meth c cells slots Q D cI cJ ad A mi pc lv st σ := by
  obtain ⟨hx, hb, hml, hown, hts, hnw, hK, hinj, hAd, hA, hcl, hsl, hfr, hlo⟩ := K
  intro H locs ls hP hS hl
  simp only [zOk, Bool.and_eq_true, decide_eq_true_eq] at hk
  simp only [zEx] at h
  obtain ⟨⟨hn, hdg⟩, hk⟩ := hk
  obtain ⟨rfl, hd2⟩ := zLen hn hdg hk.1
  obtain ⟨x, r, rfl, h⟩ := zI_inv h
  exact lv_if_eq hx hb hd2 hk.2 (fun q => hZ _ _ _ _ (h.1 q) H locs ls hP hS hl) (fun q => hZ _ _ _ _ (h.2 q) H locs ls hP hS hl)
theorem zo_icmp_eq {off : Int} (K : zCx p l R s m args meth c cells slots D cI cJ ad A d mi) (hZ : zZX p l e R s m args below meth c cells slots Q D cI cJ ad A mi Z) (hk : zOk mi pc (.if_icmp .eq off, n, a, b, k1, e1, g, v, w, tb) = true) (h : zEx sc C post Z (.if_icmp .eq off, n, a, b, k1, e1, g, v, w, tb) lv st σ) : zXs p l e R s m args below meth c cells slots Q D cI cJ ad A mi pc lv st σ := by
  obtain ⟨hx, hb, hml, hown, hts, hnw, hK, hinj, hAd, hA, hcl, hsl, hfr, hlo⟩ := K
  intro H locs ls hP hS hl
  simp only [zOk, Bool.and_eq_true, decide_eq_true_eq] at hk
  simp only [zEx] at h
  obtain ⟨⟨hn, hdg⟩, hk⟩ := hk
  obtain ⟨rfl, hd2⟩ := zLen hn hdg hk.1
  obtain ⟨x, y, r, rfl, h⟩ := zII_inv h
  exact lv_icmp_eq hx hb hd2 hk.2 (fun q => hZ _ _ _ _ (h.1 q) H locs ls hP hS hl) (fun q => hZ _ _ _ _ (h.2 q) H locs ls hP hS hl)
theorem zo_if_ne {off : Int} (K : zCx p l R s m args meth c cells slots D cI cJ ad A d mi) (hZ : zZX p l e R s m args below meth c cells slots Q D cI cJ ad A mi Z) (hk : zOk mi pc (.ifCond .ne off, n, a, b, k1, e1, g, v, w, tb) = true) (h : zEx sc C post Z (.ifCond .ne off, n, a, b, k1, e1, g, v, w, tb) lv st σ) : zXs p l e R s m args below meth c cells slots Q D cI cJ ad A mi pc lv st σ := by
  obtain ⟨hx, hb, hml, hown, hts, hnw, hK, hinj, hAd, hA, hcl, hsl, hfr, hlo⟩ := K
  intro H locs ls hP hS hl
  simp only [zOk, Bool.and_eq_true, decide_eq_true_eq] at hk
  simp only [zEx] at h
  obtain ⟨⟨hn, hdg⟩, hk⟩ := hk
  obtain ⟨rfl, hd2⟩ := zLen hn hdg hk.1
  obtain ⟨x, r, rfl, h⟩ := zI_inv h
  exact lv_if_ne hx hb hd2 hk.2 (fun q => hZ _ _ _ _ (h.2 q) H locs ls hP hS hl) (fun q => hZ _ _ _ _ (h.1 q) H locs ls hP hS hl)
theorem zo_icmp_ne {off : Int} (K : zCx p l R s m args meth c cells slots D cI cJ ad A d mi) (hZ : zZX p l e R s m args below meth c cells slots Q D cI cJ ad A mi Z) (hk : zOk mi pc (.if_icmp .ne off, n, a, b, k1, e1, g, v, w, tb) = true) (h : zEx sc C post Z (.if_icmp .ne off, n, a, b, k1, e1, g, v, w, tb) lv st σ) : zXs p l e R s m args below meth c cells slots Q D cI cJ ad A mi pc lv st σ := by
  obtain ⟨hx, hb, hml, hown, hts, hnw, hK, hinj, hAd, hA, hcl, hsl, hfr, hlo⟩ := K
  intro H locs ls hP hS hl
  simp only [zOk, Bool.and_eq_true, decide_eq_true_eq] at hk
  simp only [zEx] at h
  obtain ⟨⟨hn, hdg⟩, hk⟩ := hk
  obtain ⟨rfl, hd2⟩ := zLen hn hdg hk.1
  obtain ⟨x, y, r, rfl, h⟩ := zII_inv h
  exact lv_icmp_ne hx hb hd2 hk.2 (fun q => hZ _ _ _ _ (h.2 q) H locs ls hP hS hl) (fun q => hZ _ _ _ _ (h.1 q) H locs ls hP hS hl)
theorem zo_if_lt {off : Int} (K : zCx p l R s m args meth c cells slots D cI cJ ad A d mi) (hZ : zZX p l e R s m args below meth c cells slots Q D cI cJ ad A mi Z) (hk : zOk mi pc (.ifCond .lt off, n, a, b, k1, e1, g, v, w, tb) = true) (h : zEx sc C post Z (.ifCond .lt off, n, a, b, k1, e1, g, v, w, tb) lv st σ) : zXs p l e R s m args below meth c cells slots Q D cI cJ ad A mi pc lv st σ := by
  obtain ⟨hx, hb, hml, hown, hts, hnw, hK, hinj, hAd, hA, hcl, hsl, hfr, hlo⟩ := K
  intro H locs ls hP hS hl
  simp only [zOk, Bool.and_eq_true, decide_eq_true_eq] at hk
  simp only [zEx] at h
  obtain ⟨⟨hn, hdg⟩, hk⟩ := hk
  obtain ⟨rfl, hd2⟩ := zLen hn hdg hk.1
  obtain ⟨x, r, rfl, h⟩ := zI_inv h
  exact lv_if_lt hx hb hd2 hk.2 (fun q => hZ _ _ _ _ (h.1 q) H locs ls hP hS hl) (fun q => hZ _ _ _ _ (h.2 q) H locs ls hP hS hl)
theorem zo_icmp_lt {off : Int} (K : zCx p l R s m args meth c cells slots D cI cJ ad A d mi) (hZ : zZX p l e R s m args below meth c cells slots Q D cI cJ ad A mi Z) (hk : zOk mi pc (.if_icmp .lt off, n, a, b, k1, e1, g, v, w, tb) = true) (h : zEx sc C post Z (.if_icmp .lt off, n, a, b, k1, e1, g, v, w, tb) lv st σ) : zXs p l e R s m args below meth c cells slots Q D cI cJ ad A mi pc lv st σ := by
  obtain ⟨hx, hb, hml, hown, hts, hnw, hK, hinj, hAd, hA, hcl, hsl, hfr, hlo⟩ := K
  intro H locs ls hP hS hl
  simp only [zOk, Bool.and_eq_true, decide_eq_true_eq] at hk
  simp only [zEx] at h
  obtain ⟨⟨hn, hdg⟩, hk⟩ := hk
  obtain ⟨rfl, hd2⟩ := zLen hn hdg hk.1
  obtain ⟨x, y, r, rfl, h⟩ := zII_inv h
  exact lv_icmp_lt hx hb hd2 hk.2 (fun q => hZ _ _ _ _ (h.1 q) H locs ls hP hS hl) (fun q => hZ _ _ _ _ (h.2 q) H locs ls hP hS hl)
theorem zo_if_le {off : Int} (K : zCx p l R s m args meth c cells slots D cI cJ ad A d mi) (hZ : zZX p l e R s m args below meth c cells slots Q D cI cJ ad A mi Z) (hk : zOk mi pc (.ifCond .le off, n, a, b, k1, e1, g, v, w, tb) = true) (h : zEx sc C post Z (.ifCond .le off, n, a, b, k1, e1, g, v, w, tb) lv st σ) : zXs p l e R s m args below meth c cells slots Q D cI cJ ad A mi pc lv st σ := by
  obtain ⟨hx, hb, hml, hown, hts, hnw, hK, hinj, hAd, hA, hcl, hsl, hfr, hlo⟩ := K
  intro H locs ls hP hS hl
  simp only [zOk, Bool.and_eq_true, decide_eq_true_eq] at hk
  simp only [zEx] at h
  obtain ⟨⟨hn, hdg⟩, hk⟩ := hk
  obtain ⟨rfl, hd2⟩ := zLen hn hdg hk.1
  obtain ⟨x, r, rfl, h⟩ := zI_inv h
  exact lv_if_le hx hb hd2 hk.2 (fun q => hZ _ _ _ _ (h.1 q) H locs ls hP hS hl) (fun q => hZ _ _ _ _ (h.2 q) H locs ls hP hS hl)
theorem zo_icmp_le {off : Int} (K : zCx p l R s m args meth c cells slots D cI cJ ad A d mi) (hZ : zZX p l e R s m args below meth c cells slots Q D cI cJ ad A mi Z) (hk : zOk mi pc (.if_icmp .le off, n, a, b, k1, e1, g, v, w, tb) = true) (h : zEx sc C post Z (.if_icmp .le off, n, a, b, k1, e1, g, v, w, tb) lv st σ) : zXs p l e R s m args below meth c cells slots Q D cI cJ ad A mi pc lv st σ := by
  obtain ⟨hx, hb, hml, hown, hts, hnw, hK, hinj, hAd, hA, hcl, hsl, hfr, hlo⟩ := K
  intro H locs ls hP hS hl
  simp only [zOk, Bool.and_eq_true, decide_eq_true_eq] at hk
  simp only [zEx] at h
  obtain ⟨⟨hn, hdg⟩, hk⟩ := hk
  obtain ⟨rfl, hd2⟩ := zLen hn hdg hk.1
  obtain ⟨x, y, r, rfl, h⟩ := zII_inv h
  exact lv_icmp_le hx hb hd2 hk.2 (fun q => hZ _ _ _ _ (h.1 q) H locs ls hP hS hl) (fun q => hZ _ _ _ _ (h.2 q) H locs ls hP hS hl)
theorem zo_if_ge {off : Int} (K : zCx p l R s m args meth c cells slots D cI cJ ad A d mi) (hZ : zZX p l e R s m args below meth c cells slots Q D cI cJ ad A mi Z) (hk : zOk mi pc (.ifCond .ge off, n, a, b, k1, e1, g, v, w, tb) = true) (h : zEx sc C post Z (.ifCond .ge off, n, a, b, k1, e1, g, v, w, tb) lv st σ) : zXs p l e R s m args below meth c cells slots Q D cI cJ ad A mi pc lv st σ := by
  obtain ⟨hx, hb, hml, hown, hts, hnw, hK, hinj, hAd, hA, hcl, hsl, hfr, hlo⟩ := K
  intro H locs ls hP hS hl
  simp only [zOk, Bool.and_eq_true, decide_eq_true_eq] at hk
  simp only [zEx] at h
  obtain ⟨⟨hn, hdg⟩, hk⟩ := hk
  obtain ⟨rfl, hd2⟩ := zLen hn hdg hk.1
  obtain ⟨x, r, rfl, h⟩ := zI_inv h
  exact lv_if_ge hx hb hd2 hk.2 (fun q => hZ _ _ _ _ (h.2 (Int32.not_lt.mpr q)) H locs ls hP hS hl) (fun q => hZ _ _ _ _ (h.1 (Int32.not_le.mp q)) H locs ls hP hS hl)
theorem zo_icmp_ge {off : Int} (K : zCx p l R s m args meth c cells slots D cI cJ ad A d mi) (hZ : zZX p l e R s m args below meth c cells slots Q D cI cJ ad A mi Z) (hk : zOk mi pc (.if_icmp .ge off, n, a, b, k1, e1, g, v, w, tb) = true) (h : zEx sc C post Z (.if_icmp .ge off, n, a, b, k1, e1, g, v, w, tb) lv st σ) : zXs p l e R s m args below meth c cells slots Q D cI cJ ad A mi pc lv st σ := by
  obtain ⟨hx, hb, hml, hown, hts, hnw, hK, hinj, hAd, hA, hcl, hsl, hfr, hlo⟩ := K
  intro H locs ls hP hS hl
  simp only [zOk, Bool.and_eq_true, decide_eq_true_eq] at hk
  simp only [zEx] at h
  obtain ⟨⟨hn, hdg⟩, hk⟩ := hk
  obtain ⟨rfl, hd2⟩ := zLen hn hdg hk.1
  obtain ⟨x, y, r, rfl, h⟩ := zII_inv h
  exact lv_icmp_ge hx hb hd2 hk.2 (fun q => hZ _ _ _ _ (h.2 (Int32.not_lt.mpr q)) H locs ls hP hS hl) (fun q => hZ _ _ _ _ (h.1 (Int32.not_le.mp q)) H locs ls hP hS hl)
theorem zo_if_gt {off : Int} (K : zCx p l R s m args meth c cells slots D cI cJ ad A d mi) (hZ : zZX p l e R s m args below meth c cells slots Q D cI cJ ad A mi Z) (hk : zOk mi pc (.ifCond .gt off, n, a, b, k1, e1, g, v, w, tb) = true) (h : zEx sc C post Z (.ifCond .gt off, n, a, b, k1, e1, g, v, w, tb) lv st σ) : zXs p l e R s m args below meth c cells slots Q D cI cJ ad A mi pc lv st σ := by
  obtain ⟨hx, hb, hml, hown, hts, hnw, hK, hinj, hAd, hA, hcl, hsl, hfr, hlo⟩ := K
  intro H locs ls hP hS hl
  simp only [zOk, Bool.and_eq_true, decide_eq_true_eq] at hk
  simp only [zEx] at h
  obtain ⟨⟨hn, hdg⟩, hk⟩ := hk
  obtain ⟨rfl, hd2⟩ := zLen hn hdg hk.1
  obtain ⟨x, r, rfl, h⟩ := zI_inv h
  exact lv_if_gt hx hb hd2 hk.2 (fun q => hZ _ _ _ _ (h.2 (Int32.not_le.mpr q)) H locs ls hP hS hl) (fun q => hZ _ _ _ _ (h.1 (Int32.not_lt.mp q)) H locs ls hP hS hl)
theorem zo_icmp_gt {off : Int} (K : zCx p l R s m args meth c cells slots D cI cJ ad A d mi) (hZ : zZX p l e R s m args below meth c cells slots Q D cI cJ ad A mi Z) (hk : zOk mi pc (.if_icmp .gt off, n, a, b, k1, e1, g, v, w, tb) = true) (h : zEx sc C post Z (.if_icmp .gt off, n, a, b, k1, e1, g, v, w, tb) lv st σ) : zXs p l e R s m args below meth c cells slots Q D cI cJ ad A mi pc lv st σ := by
  obtain ⟨hx, hb, hml, hown, hts, hnw, hK, hinj, hAd, hA, hcl, hsl, hfr, hlo⟩ := K
  intro H locs ls hP hS hl
  simp only [zOk, Bool.and_eq_true, decide_eq_true_eq] at hk
  simp only [zEx] at h
  obtain ⟨⟨hn, hdg⟩, hk⟩ := hk
  obtain ⟨rfl, hd2⟩ := zLen hn hdg hk.1
  obtain ⟨x, y, r, rfl, h⟩ := zII_inv h
  exact lv_icmp_gt hx hb hd2 hk.2 (fun q => hZ _ _ _ _ (h.2 (Int32.not_le.mpr q)) H locs ls hP hS hl) (fun q => hZ _ _ _ _ (h.1 (Int32.not_lt.mp q)) H locs ls hP hS hl)
theorem zo_goto {off : Int} (K : zCx p l R s m args meth c cells slots D cI cJ ad A d mi) (hZ : zZX p l e R s m args below meth c cells slots Q D cI cJ ad A mi Z) (hk : zOk mi pc (.goto off, n, a, b, k1, e1, g, v, w, tb) = true) (h : zEx sc C post Z (.goto off, n, a, b, k1, e1, g, v, w, tb) lv st σ) : zXs p l e R s m args below meth c cells slots Q D cI cJ ad A mi pc lv st σ := by
  obtain ⟨hx, hb, hml, hown, hts, hnw, hK, hinj, hAd, hA, hcl, hsl, hfr, hlo⟩ := K
  intro H locs ls hP hS hl
  simp only [zOk, Bool.and_eq_true, decide_eq_true_eq] at hk
  simp only [zEx] at h
  obtain ⟨⟨hn, hdg⟩, hk⟩ := hk
  obtain ⟨rfl, hd2⟩ := zLen hn hdg hk.1
  exact lv_goto hx hb hd2 hk.2 (hZ _ _ _ _ h H locs ls hP hS hl)
theorem zTbOk_get {pc : Nat} : ∀ (k : Int) (os : List Int) (tb : List (Int32 × Nat)), zTbOk pc k os tb = true → os.length = tb.length ∧ ∀ (j : Nat) (q : Int32 × Nat), tb[j]? = some q → q.1.toInt = k + (j : Int) ∧ ∃ o, os[j]? = some o ∧ (pc : Int) + o = (q.2 : Int)
  | k, [], [], _ => ⟨rfl, fun j q h => by simp at h⟩
  | k, [], q :: tb, h => by simp [zTbOk] at h
  | k, o :: os, [], h => by simp [zTbOk] at h
  | k, o :: os, q :: tb, h => by
    simp only [zTbOk, Bool.and_eq_true, decide_eq_true_eq] at h
    obtain ⟨⟨h1, h2⟩, h3⟩ := h
    obtain ⟨g1, g2⟩ := zTbOk_get (k + 1) os tb h3
    refine ⟨by simp [g1], fun j q2 hq => ?_⟩
    cases j with
    | zero =>
      simp only [List.getElem?_cons_zero, Option.some.injEq] at hq
      subst hq
      exact ⟨by omega, o, rfl, h2⟩
    | succ j =>
      obtain ⟨a1, o2, a2, a3⟩ := g2 j q2 hq
      exact ⟨by omega, o2, a2, a3⟩
theorem zLkOk_get {pc : Nat} {x : Int32} {d : Int} {X : Nat → Prop} {dt : Nat} (hd : (pc : Int) + d = (dt : Int)) : ∀ (os : List (Int × Int)) (tb : List (Int32 × Nat)), zLkOk pc os tb = true → zTb x X dt tb → ∃ t : Nat, (pc : Int) + Op.lookupswitch.offset os d x.toInt = (t : Int) ∧ X t
  | [], [], _, h => ⟨dt, by simpa [Op.lookupswitch.offset] using hd, h⟩
  | [], q :: tb, hk, _ => by simp [zLkOk] at hk
  | o :: os, [], hk, _ => by simp [zLkOk] at hk
  | o :: os, q :: tb, hk, h => by
    simp only [zLkOk, Bool.and_eq_true, decide_eq_true_eq] at hk
    obtain ⟨⟨h1, h2⟩, h3⟩ := hk
    obtain ⟨oa, ob⟩ := o
    by_cases e : x = q.1
    · refine ⟨q.2, ?_, h.1 e⟩
      rw [Op.lookupswitch.offset_cons, if_pos (by rw [e]; exact h1.symm)]
      exact h2
    · obtain ⟨t, a1, a2⟩ := zLkOk_get hd os tb h3 (h.2 e)
      exact ⟨t, by rw [lv_osw e h1]; exact a1, a2⟩
theorem zo_tableswitch {df lo hi : Int} {offs : Array Int} (K : zCx p l R s m args meth c cells slots D cI cJ ad A d mi) (hZ : zZX p l e R s m args below meth c cells slots Q D cI cJ ad A mi Z) (hk : zOk mi pc (.tableswitch df lo hi offs, n, a, b, k1, e1, g, v, w, tb) = true) (h : zEx sc C post Z (.tableswitch df lo hi offs, n, a, b, k1, e1, g, v, w, tb) lv st σ) : zXs p l e R s m args below meth c cells slots Q D cI cJ ad A mi pc lv st σ := by
  obtain ⟨hx, hb, hml, hown, hts, hnw, hK, hinj, hAd, hA, hcl, hsl, hfr, hlo⟩ := K
  intro H locs ls hP hS hl
  simp only [zOk, Bool.and_eq_true, decide_eq_true_eq] at hk
  simp only [zEx] at h
  obtain ⟨⟨hn, hdg⟩, ⟨h1, h2⟩, h3⟩ := hk
  obtain ⟨x, r, rfl, h⟩ := zI_inv h
  obtain ⟨g1, g2⟩ := zTbOk_get lo _ tb h3
  rcases zTb_inv h with ⟨k, q, e1, e2, e3, -⟩ | ⟨e1, e2⟩
  · obtain ⟨a1, o, a2, a3⟩ := g2 k q e1
    have hkl : k < tb.length := (List.getElem?_eq_some_iff.mp e1).1
    rw [← e2] at a1
    refine lv_tableIn hx hb hdg (by omega) (by omega) (off := o) ?_ a3 (hZ _ _ _ _ e3 H locs ls hP hS hl)
    rw [show (x.toInt - lo).toNat = k by omega, ← Array.getElem?_toList]
    exact a2
  · refine lv_tableOut hx hb hdg ?_ h1 (hZ _ _ _ _ e2 H locs ls hP hS hl)
    by_cases z1 : x.toInt < lo
    · exact Or.inl z1
    · by_cases z2 : hi < x.toInt
      · exact Or.inr z2
      · exfalso
        have hj : (x.toInt - lo).toNat < tb.length := by omega
        have e3 := List.getElem?_eq_getElem hj
        obtain ⟨a1, -⟩ := g2 _ _ e3
        refine e1 _ _ e3 ?_
        rw [← Int32.toInt_inj, a1]
        omega
theorem zo_lookupswitch {df : Int} {ps : Array (Int × Int)} (K : zCx p l R s m args meth c cells slots D cI cJ ad A d mi) (hZ : zZX p l e R s m args below meth c cells slots Q D cI cJ ad A mi Z) (hk : zOk mi pc (.lookupswitch df ps, n, a, b, k1, e1, g, v, w, tb) = true) (h : zEx sc C post Z (.lookupswitch df ps, n, a, b, k1, e1, g, v, w, tb) lv st σ) : zXs p l e R s m args below meth c cells slots Q D cI cJ ad A mi pc lv st σ := by
  obtain ⟨hx, hb, hml, hown, hts, hnw, hK, hinj, hAd, hA, hcl, hsl, hfr, hlo⟩ := K
  intro H locs ls hP hS hl
  simp only [zOk, Bool.and_eq_true, decide_eq_true_eq] at hk
  simp only [zEx] at h
  obtain ⟨⟨hn, hdg⟩, ⟨h1, h2⟩, h3⟩ := hk
  obtain ⟨x, r, rfl, h⟩ := zI_inv h
  obtain ⟨t, a1, a2⟩ := zLkOk_get h1 _ tb h3 h
  exact lv_lookup hx hb hdg h2 rfl a1 (hZ _ _ _ _ a2 H locs ls hP hS hl)
theorem zFl_spec {own : String} {idx a b g : Nat} (h : zFl own idx a b g = true) : Cond.fieldLink own idx ((zCl a).2.1 b).1 ((zCl a).2.1 b).2.1 ((zCl a).2.1 b).2.2.1 ∈ zTg := zin _ (of_decide_eq_true h) rfl
theorem zFn_spec {own : String} {idx a b g : Nat} (h : zFn own idx a b g = true) : Cond.fieldLinkNest own idx ((zCl a).2.1 b).1 ((zCl a).2.1 b).2.1 ((zCl a).2.1 b).2.2.1 "RatePlanner" ∈ zNw := zinN _ (of_decide_eq_true h) rfl
theorem zo_getfield {idx : Nat} (K : zCx p l R s m args meth c cells slots D cI cJ ad A d mi) (hZ : zZX p l e R s m args below meth c cells slots Q D cI cJ ad A mi Z) (hk : zOk mi pc (.getfield idx, n, a, b, k1, e1, g, v, w, tb) = true) (h : zEx sc C post Z (.getfield idx, n, a, b, k1, e1, g, v, w, tb) lv st σ) : zXs p l e R s m args below meth c cells slots Q D cI cJ ad A mi pc lv st σ := by
  obtain ⟨hx, hb, hml, hown, hts, hnw, hK, hinj, hAd, hA, hcl, hsl, hfr, hlo⟩ := K
  intro H locs ls hP hS hl
  simp only [zOk, Bool.and_eq_true, decide_eq_true_eq] at hk
  simp only [zEx] at h
  obtain ⟨⟨hn, hdg⟩, ⟨⟨h1, h2⟩, h3⟩, h4⟩ := hk
  obtain ⟨rfl, hd2⟩ := zLen hn hdg h1
  have h2 := Nat.le_of_ble_eq_true h2
  have h3 := Nat.le_of_ble_eq_true h3
  obtain ⟨q, r, rfl, h⟩ := zA_inv h
  obtain ⟨hg, h⟩ := zG_inv h
  simp only [Bool.and_eq_true] at hg
  obtain ⟨sl, hq, hs⟩ := zIsO_spec hg.1
  have hkd := Nat.eq_of_beq_eq_true hg.2
  obtain ⟨hcl2, hcv⟩ := zCl_get h2
  obtain ⟨hin, -, -⟩ := zCv_spec hcv
  have go : ∀ val : Value, (zFs ad σ q 0 sl)[b]? = some val → W p l e R s m args below meth c H locs cells slots Q (F0 m (pc + 3) ls (val :: r.map (zR ad))) → W p l e R s m args below meth c H locs cells slots Q (F0 m pc ls (.ref (ad q) :: r.map (zR ad))) := by
    intro val hv hw
    have he := zW_get ad cI cJ σ hq
    simp only [Bool.or_eq_true] at h4
    rcases h4 with h4 | h4
    · exact va_get (D := D) hx hb hts hin hown hK hP q he hcl2 b h3 (hts _ (zFl_spec h4)) (fun _ h9 => h9) hv hd2 hw
    · exact va_getN (D := D) hx hb hts hin hown hK hP q he hcl2 b h3 (va_Nw.use rfl (hnw _ (zFn_spec h4))) (fun _ h9 => h9) hv hd2 hw
  have hsl : (zSl q b).1 ≠ 9 → sl[b]? = some (zSl q b) := fun z => by rw [hs b] at z ⊢; exact zGetD_some z
  match k1, hkd, h with
  | 0, hkd, h =>
    have e2 := zFs_get ad σ q sl 0 b _ (hsl (by rw [hkd]; decide))
    rw [hkd] at e2
    exact go _ e2 (hZ _ _ _ _ h H locs ls hP hS hl)
  | 1, hkd, h =>
    have e2 := zFs_get ad σ q sl 0 b _ (hsl (by rw [hkd]; decide))
    rw [hkd, Nat.zero_add] at e2
    exact go _ e2 (hZ _ _ _ _ h H locs ls hP hS hl)
  | 2, hkd, h =>
    have e2 := zFs_get ad σ q sl 0 b _ (hsl (by rw [hkd]; decide))
    rw [hkd, Nat.zero_add] at e2
    exact go _ e2 (hZ _ _ _ _ h H locs ls hP hS hl)
  | 3, hkd, h =>
    have e2 := zFs_get ad σ q sl 0 b _ (hsl (by rw [hkd]; decide))
    rw [hkd, Nat.zero_add] at e2
    exact go _ e2 (hZ _ _ _ _ h H locs ls hP hS hl)
  | k + 4, _, h => exact False.elim h
theorem zo_putfield {idx : Nat} (K : zCx p l R s m args meth c cells slots D cI cJ ad A d mi) (hZ : zZX p l e R s m args below meth c cells slots Q D cI cJ ad A mi Z) (hk : zOk mi pc (.putfield idx, n, a, b, k1, e1, g, v, w, tb) = true) (h : zEx sc C post Z (.putfield idx, n, a, b, k1, e1, g, v, w, tb) lv st σ) : zXs p l e R s m args below meth c cells slots Q D cI cJ ad A mi pc lv st σ := by
  obtain ⟨hx, hb, hml, hown, hts, hnw, hK, hinj, hAd, hA, hcl, hsl, hfr, hlo⟩ := K
  intro H locs ls hP hS hl
  simp only [zOk, Bool.and_eq_true, decide_eq_true_eq] at hk
  simp only [zEx] at h
  obtain ⟨⟨hn, hdg⟩, ⟨⟨⟨⟨h1, h2⟩, h3⟩, h4⟩, h5⟩, h6⟩ := hk
  obtain ⟨rfl, hd2⟩ := zLen hn hdg h1
  have h2 := Nat.le_of_ble_eq_true h2
  have h3 := Nat.le_of_ble_eq_true h3
  obtain ⟨hcl2, hcv⟩ := zCl_get h2
  obtain ⟨hin, hty, hnm⟩ := zCv_spec hcv
  have hfin : ((zCl a).2.1 b).2.2.2 = false := by simpa using h5
  match k1, h, h6 with
  | 0, h, _ => exact False.elim h
  | 1, h, h6 =>
    obtain ⟨x, r, rfl, h7⟩ := zI_inv h
    obtain ⟨q, r2, rfl, h8⟩ := zA_inv h7
    obtain ⟨hg, h9⟩ := zG_inv h8
    simp only [Bool.and_eq_true] at hg
    obtain ⟨sl, hq, hs⟩ := zIsO_spec hg.1
    have hkd := Nat.eq_of_beq_eq_true hg.2
    have hsl : sl[b]? = some (zSl q b) := by rw [hs b]; exact zGetD_some (by rw [← hs b, hkd]; decide)
    have he : (zW ad cI cJ σ)[q]? = some (ad q, .inr (a, zFs ad σ q 0 sl)) := zW_get ad cI cJ σ hq
    have e1 : (zW ad cI cJ σ).set q (ad q, .inr (a, (zFs ad σ q 0 sl).set b (.int x))) = zW ad cI cJ (zSI σ q b x) := by
      rw [zFs_setI ad σ q x sl 0 b _ hsl (Or.inl hkd), Nat.zero_add]
      exact zW_set ad cI cJ hq (fun a h => zSI_1 h) (fun a h => rfl)
    exact va_put (D := D) (ty := .int) (v := .int x) hx hb hts hin _ hty hnm hown hK hP (zD_of hinj hAd σ) hS q he hcl2 b h3 (hts _ (zFl_spec h4)) (fun _ h9 => h9) hfin h6 rfl rfl (by rw [zFs_len]; exact (List.getElem?_eq_some_iff.mp hsl).1) hd2 (fun H1 locs1 hP1 hD1 hS1 => hZ _ _ _ _ h9 H1 locs1 ls (by rw [e1] at hP1; exact hP1) hS1 hl)
  | 2, h, h6 =>
    obtain ⟨x, r, rfl, h7⟩ := zI_inv h
    obtain ⟨q, r2, rfl, h8⟩ := zA_inv h7
    obtain ⟨hg, h9⟩ := zG_inv h8
    obtain ⟨hg2, h10⟩ := zG_inv h9
    simp only [Bool.and_eq_true] at hg
    obtain ⟨sl, hq, hs⟩ := zIsO_spec hg.1
    have hkd := Nat.eq_of_beq_eq_true hg.2
    have hsl : sl[b]? = some (zSl q b) := by rw [hs b]; exact zGetD_some (by rw [← hs b, hkd]; decide)
    have he : (zW ad cI cJ σ)[q]? = some (ad q, .inr (a, zFs ad σ q 0 sl)) := zW_get ad cI cJ σ hq
    have e1 : (zW ad cI cJ σ).set q (ad q, .inr (a, (zFs ad σ q 0 sl).set b (.int x))) = zW ad cI cJ (zSI σ q b x) := by
      rw [zFs_setI ad σ q x sl 0 b _ hsl (Or.inr hkd), Nat.zero_add]
      exact zW_set ad cI cJ hq (fun a h => zSI_1 h) (fun a h => rfl)
    exact va_put (D := D) (ty := .boolean) (v := .int x) hx hb hts hin _ hty hnm hown hK hP (zD_of hinj hAd σ) hS q he hcl2 b h3 (hts _ (zFl_spec h4)) (fun _ h9 => h9) hfin h6 (z01_nar hg2) hg2 (by rw [zFs_len]; exact (List.getElem?_eq_some_iff.mp hsl).1) hd2 (fun H1 locs1 hP1 hD1 hS1 => hZ _ _ _ _ h10 H1 locs1 ls (by rw [e1] at hP1; exact hP1) hS1 hl)
  | 3, h, h6 =>
    obtain ⟨x, r, rfl, h7⟩ := zJ_inv h
    obtain ⟨q, r2, rfl, h8⟩ := zA_inv h7
    obtain ⟨hg, h9⟩ := zG_inv h8
    simp only [Bool.and_eq_true] at hg
    obtain ⟨sl, hq, hs⟩ := zIsO_spec hg.1
    have hkd := Nat.eq_of_beq_eq_true hg.2
    have hsl : sl[b]? = some (zSl q b) := by rw [hs b]; exact zGetD_some (by rw [← hs b, hkd]; decide)
    have he : (zW ad cI cJ σ)[q]? = some (ad q, .inr (a, zFs ad σ q 0 sl)) := zW_get ad cI cJ σ hq
    have e1 : (zW ad cI cJ σ).set q (ad q, .inr (a, (zFs ad σ q 0 sl).set b (.long x))) = zW ad cI cJ (zSJ σ q b x) := by
      rw [zFs_setJ ad σ q x sl 0 b _ hsl hkd, Nat.zero_add]
      exact zW_set ad cI cJ hq (fun a h => rfl) (fun a h => zSJ_1 h)
    exact va_put (D := D) (ty := .long) (v := .long x) hx hb hts hin _ hty hnm hown hK hP (zD_of hinj hAd σ) hS q he hcl2 b h3 (hts _ (zFl_spec h4)) (fun _ h9 => h9) hfin h6 rfl rfl (by rw [zFs_len]; exact (List.getElem?_eq_some_iff.mp hsl).1) hd2 (fun H1 locs1 hP1 hD1 hS1 => hZ _ _ _ _ h9 H1 locs1 ls (by rw [e1] at hP1; exact hP1) hS1 hl)
  | k + 4, h, _ => exact False.elim h
theorem zo_iaload (hsc : ∀ t, sc = some t → va_X (ad 80) t.1 t.2 s s.heap ∧ ad 80 < s.heap.size ∧ ¬ A (ad 80)) (K : zCx p l R s m args meth c cells slots D cI cJ ad A d mi) (hZ : zZX p l e R s m args below meth c cells slots Q D cI cJ ad A mi Z) (hk : zOk mi pc (.iaload, n, a, b, k1, e1, g, v, w, tb) = true) (h : zEx sc C post Z (.iaload, n, a, b, k1, e1, g, v, w, tb) lv st σ) : zXs p l e R s m args below meth c cells slots Q D cI cJ ad A mi pc lv st σ := by
  obtain ⟨hx, hb, hml, hown, hts, hnw, hK, hinj, hAd, hA, hcl, hsl, hfr, hlo⟩ := K
  intro H locs ls hP hS hl
  simp only [zOk, Bool.and_eq_true, decide_eq_true_eq] at hk
  simp only [zEx] at h
  obtain ⟨⟨hn, hdg⟩, hk⟩ := hk
  obtain ⟨rfl, hd2⟩ := zLen hn hdg hk
  obtain ⟨q, i, r, rfl, h0⟩ := zAI_inv h
  cases hz : zIsI q with
  | true =>
    rw [hz] at h0
    obtain ⟨sl, hq⟩ := zIsI_spec hz
    exact va_iald (D := D) hx hb hK hP q 0 (cA := cI) (n := zN q) (f := σ.1 q) (zW_get ad cI cJ σ hq) rfl h0.1 hd2 (hZ _ _ _ _ h0.2 H locs ls hP hS hl)
  | false =>
    rw [hz] at h0
    cases sc with
    | none => exact False.elim h0
    | some t =>
      obtain ⟨h1, h2⟩ := zG_inv h0
      have e := Nat.eq_of_beq_eq_true h1
      subst e
      obtain ⟨g1, g2, g3⟩ := hsc t rfl
      exact va_sld hx hb g1 g2 g3 hS h2.1 hd2 (hZ _ _ _ _ h2.2 H locs ls hP hS hl)
theorem zo_laload (K : zCx p l R s m args meth c cells slots D cI cJ ad A d mi) (hZ : zZX p l e R s m args below meth c cells slots Q D cI cJ ad A mi Z) (hk : zOk mi pc (.laload, n, a, b, k1, e1, g, v, w, tb) = true) (h : zEx sc C post Z (.laload, n, a, b, k1, e1, g, v, w, tb) lv st σ) : zXs p l e R s m args below meth c cells slots Q D cI cJ ad A mi pc lv st σ := by
  obtain ⟨hx, hb, hml, hown, hts, hnw, hK, hinj, hAd, hA, hcl, hsl, hfr, hlo⟩ := K
  intro H locs ls hP hS hl
  simp only [zOk, Bool.and_eq_true, decide_eq_true_eq] at hk
  simp only [zEx] at h
  obtain ⟨⟨hn, hdg⟩, hk⟩ := hk
  obtain ⟨rfl, hd2⟩ := zLen hn hdg hk
  obtain ⟨q, i, r, rfl, h⟩ := zAI_inv h
  obtain ⟨hz, h⟩ := zG_inv h
  obtain ⟨sl, hq⟩ := zIsJ_spec hz
  exact va_lald (D := D) hx hb hK hP q 1 (cA := cJ) (n := zN q) (f := σ.2 q) (zW_get ad cI cJ σ hq) rfl h.1 hd2 (hZ _ _ _ _ h.2 H locs ls hP hS hl)
theorem zo_iastore (K : zCx p l R s m args meth c cells slots D cI cJ ad A d mi) (hZ : zZX p l e R s m args below meth c cells slots Q D cI cJ ad A mi Z) (hk : zOk mi pc (.iastore, n, a, b, k1, e1, g, v, w, tb) = true) (h : zEx sc C post Z (.iastore, n, a, b, k1, e1, g, v, w, tb) lv st σ) : zXs p l e R s m args below meth c cells slots Q D cI cJ ad A mi pc lv st σ := by
  obtain ⟨hx, hb, hml, hown, hts, hnw, hK, hinj, hAd, hA, hcl, hsl, hfr, hlo⟩ := K
  intro H locs ls hP hS hl
  simp only [zOk, Bool.and_eq_true, decide_eq_true_eq] at hk
  simp only [zEx] at h
  obtain ⟨⟨hn, hdg⟩, hk⟩ := hk
  obtain ⟨rfl, hd2⟩ := zLen hn hdg hk
  obtain ⟨x, r0, rfl, h1⟩ := zI_inv h
  obtain ⟨q, i, r, rfl, h2⟩ := zAI_inv h1
  obtain ⟨hz, h3⟩ := zG_inv h2
  obtain ⟨sl, hq⟩ := zIsI_spec hz
  have e1 := zW_set ad cI cJ (σ := σ) (τ := zSI σ q i.toNatClampNeg x) hq (fun a h => zSI_1 h) (fun a h => rfl)
  rw [show zEn ad cI cJ (zSI σ q i.toNatClampNeg x) q (1, zN q, sl) = .inl (cI, zN q, .inl (upd (σ.1 q) i.toNatClampNeg x)) from by rw [← zSI_s]; rfl] at e1
  exact va_iast (D := D) hx hb hK hP (zD_of hinj hAd σ) hS q 0 (cA := cI) (n := zN q) (f := σ.1 q) (zW_get ad cI cJ σ hq) rfl h3.1 hd2 (fun H1 locs1 hP1 hD1 hS1 => hZ _ _ _ _ h3.2 H1 locs1 ls (by rw [e1] at hP1; exact hP1) hS1 hl)
theorem zo_lastore (K : zCx p l R s m args meth c cells slots D cI cJ ad A d mi) (hZ : zZX p l e R s m args below meth c cells slots Q D cI cJ ad A mi Z) (hk : zOk mi pc (.lastore, n, a, b, k1, e1, g, v, w, tb) = true) (h : zEx sc C post Z (.lastore, n, a, b, k1, e1, g, v, w, tb) lv st σ) : zXs p l e R s m args below meth c cells slots Q D cI cJ ad A mi pc lv st σ := by
  obtain ⟨hx, hb, hml, hown, hts, hnw, hK, hinj, hAd, hA, hcl, hsl, hfr, hlo⟩ := K
  intro H locs ls hP hS hl
  simp only [zOk, Bool.and_eq_true, decide_eq_true_eq] at hk
  simp only [zEx] at h
  obtain ⟨⟨hn, hdg⟩, hk⟩ := hk
  obtain ⟨rfl, hd2⟩ := zLen hn hdg hk
  obtain ⟨x, r0, rfl, h1⟩ := zJ_inv h
  obtain ⟨q, i, r, rfl, h2⟩ := zAI_inv h1
  obtain ⟨hz, h3⟩ := zG_inv h2
  obtain ⟨sl, hq⟩ := zIsJ_spec hz
  have e1 := zW_set ad cI cJ (σ := σ) (τ := zSJ σ q i.toNatClampNeg x) hq (fun a h => rfl) (fun a h => zSJ_1 h)
  rw [show zEn ad cI cJ (zSJ σ q i.toNatClampNeg x) q (2, zN q, sl) = .inl (cJ, zN q, .inr (.inl (vp_updL (σ.2 q) i.toNatClampNeg x))) from by rw [← zSJ_s]; rfl] at e1
  exact va_last (D := D) hx hb hK hP (zD_of hinj hAd σ) hS q 1 (cA := cJ) (n := zN q) (f := σ.2 q) (zW_get ad cI cJ σ hq) rfl h3.1 hd2 (fun H1 locs1 hP1 hD1 hS1 => hZ _ _ _ _ h3.2 H1 locs1 ls (by rw [e1] at hP1; exact hP1) hS1 hl)
theorem zo_arraylength (hsc : ∀ t, sc = some t → va_X (ad 80) t.1 t.2 s s.heap ∧ ad 80 < s.heap.size ∧ ¬ A (ad 80)) (K : zCx p l R s m args meth c cells slots D cI cJ ad A d mi) (hZ : zZX p l e R s m args below meth c cells slots Q D cI cJ ad A mi Z) (hk : zOk mi pc (.arraylength, n, a, b, k1, e1, g, v, w, tb) = true) (h : zEx sc C post Z (.arraylength, n, a, b, k1, e1, g, v, w, tb) lv st σ) : zXs p l e R s m args below meth c cells slots Q D cI cJ ad A mi pc lv st σ := by
  obtain ⟨hx, hb, hml, hown, hts, hnw, hK, hinj, hAd, hA, hcl, hsl, hfr, hlo⟩ := K
  intro H locs ls hP hS hl
  simp only [zOk, Bool.and_eq_true, decide_eq_true_eq] at hk
  simp only [zEx] at h
  obtain ⟨⟨hn, hdg⟩, hk⟩ := hk
  obtain ⟨rfl, hd2⟩ := zLen hn hdg hk
  obtain ⟨q, r, rfl, h1⟩ := zA_inv h
  cases hz : zIsI q with
  | true =>
    rw [hz] at h1
    obtain ⟨sl, hq⟩ := zIsI_spec hz
    exact va_alen (D := D) hx hb hK hP q 0 (cA := cI) (zW_get ad cI cJ σ hq) rfl rfl hd2 (hZ _ _ _ _ h1 H locs ls hP hS hl)
  | false =>
    cases hz2 : zIsJ q with
    | true =>
      rw [hz, hz2] at h1
      obtain ⟨sl, hq⟩ := zIsJ_spec hz2
      exact va_alen (D := D) hx hb hK hP q 1 (cA := cJ) (zW_get ad cI cJ σ hq) rfl rfl hd2 (hZ _ _ _ _ h1 H locs ls hP hS hl)
    | false =>
      rw [hz, hz2] at h1
      cases sc with
      | none => exact False.elim h1
      | some t =>
        obtain ⟨h2, h3⟩ := zG_inv h1
        have e := Nat.eq_of_beq_eq_true h2
        subst e
        obtain ⟨g1, g2, g3⟩ := hsc t rfl
        exact va_slen hx hb g1 g2 g3 hS hd2 (hZ _ _ _ _ h3 H locs ls hP hS hl)
end ZX
end
section
/-! calls and ends of the small machine; then all of it -/
section ZC
variable {p : Program} {l : Launch} {e : Env} {R : Room} {s : State} {m : MethodId} {args : Array Value} {below : List Frame} {meth : Method} {c : Code} {cells slots : Nat} {Q : State → Prop} {D : va_G} {cI cJ : ClassId} {ad : Nat → Nat} {A : Nat → Prop} {d mi : Nat}
variable {sc : Option (Nat × (Nat → Int32))} {C : zCa} {post : zPo} {Z : zX} {pc n a b k1 e1 g : Nat} {v : Int32} {w : Int64} {tb : List (Int32 × Nat)} {lv : zLo} {st : List Value} {σ : zS}
/-- behind a call -/
theorem z_go {H : Heap} {locs : List Loc} {ls : Array Slot} {st0 r : List Value} {po : zPo} {av : Array Value} (K : zCx p l R s m args meth c cells slots D cI cJ ad A d mi) (hS : va_S A s.heap H locs) (hl : zHas ad ls (zMl mi) lv)
    (hrun : va_Run p l e R s m args below meth c H locs cells slots 0 0 (F0 m pc ls st0) (r.map (zR ad)) (zQ D cI cJ ad H.size po av) (zA0 ad H.size))
    (hk : ∀ (v : Option Value) (σ2 : zS), po v σ2 → v.toList.map (zR ad) = v.toList ∧ zXs p l e R s m args below meth c cells slots Q D cI cJ ad A mi (pc + 3) lv (v.toList ++ r) σ2) : W p l e R s m args below meth c H locs cells slots Q (F0 m pc ls st0) := by
  obtain ⟨hx, hb, hml, hown, hts, hnw, hK, hinj, hAd, hA, hcl, hsl, hfr, hlo⟩ := K
  refine z_callG hrun (fun v st₀ t H1 L h0 ht hQa hL => ?_)
  obtain ⟨⟨r2, σ2, hr, hp, hP1⟩, hF⟩ := hQa
  cases hr
  obtain ⟨g1, g2⟩ := hk v σ2 hp
  have e3 := g2 H1 (locs ++ L) ls (by rw [← ht]; exact hP1) (zS_call hS hAd hA h0 hF ht hL) hl
  rw [List.map_append, g1] at e3
  exact e3
/-- what a call's room and words ask -/
theorem z_room (K : zCx p l R s m args meth c cells slots D cI cJ ad A d mi) {a : Nat} (ha : zMl a ≤ 13) : (zRm d).frames + 1 ≤ R.frames ∧ 8 + (zMl a + 11) + (zRm d).locals ≤ R.locals := by
  obtain ⟨hx, hb, hml, hown, hts, hnw, hK, hinj, hAd, hA, hcl, hsl, hfr, hlo⟩ := K
  refine ⟨hfr, ?_⟩
  show 8 + (zMl a + 11) + 32 * d ≤ R.locals
  omega
theorem z_pre (K : zCx p l R s m args meth c cells slots D cI cJ ad A d mi) {H : Heap} (hP : va_P D vwCl (zW ad cI cJ σ) H) {U : State} (hU : U.heap = H) (hW : s.WarmedH U.vm) : zB D cI cJ ad H.size σ U := by
  obtain ⟨hx, hb, hml, hown, hts, hnw, hK, hinj, hAd, hA, hcl, hsl, hfr, hlo⟩ := K
  exact ⟨by rw [hU], by rw [hU]; exact hP, va_K.moved hW.alike hK, fun w hw => zNw_warm hw hW (hnw w hw)⟩
theorem z_res {av : List Value} {cc : Nat} {X : zX} {r : List Value} {pc : Nat} {lv : zLo} {hC : zCa} {a : Nat} (h : match cc with
    | 0 => hC a av σ (zPV fun σ => X pc lv r σ)
    | 1 => hC a av σ (zPI fun x σ => X pc lv (.int x :: r) σ)
    | _ => hC a av σ (zPJ fun x σ => X pc lv (.long x :: r) σ)) : ∃ po : zPo, hC a av σ po ∧ ∀ (v : Option Value) (σ2 : zS), po v σ2 → (∀ ad : Nat → Nat, v.toList.map (zR ad) = v.toList) ∧ X pc lv (v.toList ++ r) σ2 := by
  match cc, h with
  | 0, h => exact ⟨_, h, fun v σ2 hp => by obtain ⟨rfl, hp⟩ := hp; exact ⟨fun _ => rfl, hp⟩⟩
  | 1, h => exact ⟨_, h, fun v σ2 hp => by obtain ⟨x, rfl, hp⟩ := hp; exact ⟨fun _ => rfl, hp⟩⟩
  | k + 2, h => exact ⟨_, h, fun v σ2 hp => by obtain ⟨x, rfl, hp⟩ := hp; exact ⟨fun _ => rfl, hp⟩⟩
theorem zo_invokevirtual {idx : Nat} (hC : ∀ (a : Nat) (av : List Value) (σ : zS) (po : zPo), a < 213 → a ≠ nL_law → C a av σ po → zCon l D cI cJ ad d a av σ po) (K : zCx p l R s m args meth c cells slots D cI cJ ad A d mi) (hZ : zZX p l e R s m args below meth c cells slots Q D cI cJ ad A mi Z) (hk : zOk mi pc (.invokevirtual idx, n, a, b, k1, e1, g, v, w, tb) = true) (h : zEx sc C post Z (.invokevirtual idx, n, a, b, k1, e1, g, v, w, tb) lv st σ) : zXs p l e R s m args below meth c cells slots Q D cI cJ ad A mi pc lv st σ := by
  have K0 := K
  obtain ⟨hx, hb, hml, hown, hts, hnw, hK, hinj, hAd, hA, hcl, hsl, hfr, hlo⟩ := K
  intro H locs ls hP hS hl
  simp only [zOk, Bool.and_eq_true, decide_eq_true_eq] at hk
  simp only [zEx] at h
  obtain ⟨⟨hn, hdg⟩, ⟨⟨⟨⟨⟨⟨⟨⟨h1, h2⟩, h3⟩, h4⟩, h5⟩, h6⟩, h7⟩, h8⟩, h9⟩, h10⟩ := hk
  obtain ⟨rfl, hd2⟩ := zLen hn hdg h1
  have h2 := Nat.le_of_ble_eq_true h2
  have h3 : a ≠ nL_law := by
    intro q
    rw [q] at h3
    simp at h3
  have h4 : zMs a = false := by simpa using h4
  have h5 := Nat.eq_of_beq_eq_true h5
  have h6 : ¬ (zY a).name = "<init>" := by simpa using h6
  have h7 := Nat.le_of_ble_eq_true h7
  obtain ⟨av0, r, hlen, rfl, hq⟩ := zPn_inv b [] st _ h
  rw [List.append_nil] at hq
  obtain ⟨hg, hq2⟩ := zG_inv hq
  simp only [Bool.and_eq_true] at hg
  obtain ⟨hrc, hw8⟩ := hg
  have hw8 := Nat.le_of_ble_eq_true hw8
  obtain ⟨m1, m2, m3, m4, m5, m6, m7⟩ := zMv_spec h2 h3
  obtain ⟨n1, n2, n3, n4⟩ := m7 h4
  have n2 := n2.resolve_left h6
  obtain ⟨po, hca, hpo⟩ := z_res hq2
  have hM := hC a av0.reverse σ po h2 h3 hca H.size
  -- the receiver
  cases hav : av0.reverse with
  | nil => rw [hav] at hrc; exact absurd hrc (by simp [zRc])
  | cons rv as =>
    rw [hav] at hrc hM
    cases rv with
    | ref q =>
      obtain ⟨sl, hq3, -⟩ := zIsO_spec (show zIsO q e1 = true from hrc)
      have hav2 : av0 = as.reverse ++ [.ref q] := by
        have := congrArg List.reverse hav
        simpa using this
      subst h5
      have hn1 : (as.map (zR ad)).length = b - 1 := by
        have : av0.length = as.length + 1 := by rw [hav2]; simp
        rw [List.length_map]; omega
      have hst : (List.map (zR ad) (av0 ++ r)) = (as.map (zR ad)).reverse ++ .ref (ad q) :: r.map (zR ad) := by
        rw [hav2]; simp [zR]
      obtain ⟨hcl2, hcv⟩ := zCl_get n3
      have hrecv := va_recv hK hP hcl2 (zW_get ad cI cJ σ hq3)
      have hpre : PreV s H (zY a).cls (ad q) (va_Pc ((Value.ref q :: as).map (zR ad)) (zB D cI cJ ad H.size σ)) (as.map (zR ad)) :=
        ⟨zB_blind D cI cJ ad H.size σ _, by rw [← n4]; exact hrecv, fun U hU hW => ⟨rfl, z_pre K0 hP hU hW⟩⟩
      have hsum : ((r.map (zR ad)).map fun v => v.category).sum ≤ 8 := by rw [zW8_R]; exact hw8
      rw [hst]
      simp only [Bool.or_eq_true, decide_eq_true_eq] at h10
      rcases h10 with h10 | h10
      · refine z_go K0 hS hl (va_runV (Ts := zTg) (own := (zY mi).cls) (C := (zY a).cls) (index := idx) (n := b - 1) ⟨hx, hb, hml, hown, hts⟩ hM (cwV (b - 1) hts (zTg_GoodIn fun w hw => ?_) rfl rfl rfl ⟨rfl, m3.1, m3.2, h8⟩ (z_room K0 m5)) hpre rfl hn1 hl.1.1 rfl (lv_room hsum) hd2 ⟨hcl, hsl⟩) (fun v σ2 hp => ⟨(hpo v σ2 hp).1 ad, hZ _ _ _ _ (hpo v σ2 hp).2⟩)
        rcases List.mem_append.mp hw with hw | hw
        · simp only [List.mem_cons, List.not_mem_nil, or_false] at hw
          rcases hw with rfl | rfl | rfl | rfl
          · exact zin _ h10 rfl
          · exact n1
          · exact n2
          · exact m2
        · rcases List.mem_cons.mp hw with rfl | hw
          · exact m1
          · exact hw
      · refine z_go K0 hS hl (va_runVN (Ts := zTg) (own := (zY mi).cls) (C := (zY a).cls) (host := "RatePlanner") (index := idx) (n := b - 1) ⟨hx, hb, hml, hown, hts⟩ hM ⟨va_cnB (b - 1) hts (zTg_GoodIn fun w hw => ?_) rfl rfl rfl (hnw _ (zinN _ h10 rfl)) (hts _ m2) ⟨m3.1, m3.2, h8⟩ (z_room K0 m5), hts _ n1, hts _ n2⟩ hpre rfl hn1 hl.1.1 rfl (lv_room hsum) hd2 ⟨hcl, hsl⟩) (fun v σ2 hp => ⟨(hpo v σ2 hp).1 ad, hZ _ _ _ _ (hpo v σ2 hp).2⟩)
        rcases List.mem_cons.mp hw with rfl | hw
        · exact m1
        · exact hw
    | _ => exact absurd hrc (by simp [zRc])
theorem zo_invokestatic {idx : Nat} (hC : ∀ (a : Nat) (av : List Value) (σ : zS) (po : zPo), a < 213 → a ≠ nL_law → C a av σ po → zCon l D cI cJ ad d a av σ po) (K : zCx p l R s m args meth c cells slots D cI cJ ad A d mi) (hZ : zZX p l e R s m args below meth c cells slots Q D cI cJ ad A mi Z) (hk : zOk mi pc (.invokestatic idx, n, a, b, k1, e1, g, v, w, tb) = true) (h : zEx sc C post Z (.invokestatic idx, n, a, b, k1, e1, g, v, w, tb) lv st σ) : zXs p l e R s m args below meth c cells slots Q D cI cJ ad A mi pc lv st σ := by
  have K0 := K
  obtain ⟨hx, hb, hml, hown, hts, hnw, hK, hinj, hAd, hA, hcl, hsl, hfr, hlo⟩ := K
  intro H locs ls hP hS hl
  simp only [zOk, Bool.and_eq_true, decide_eq_true_eq] at hk
  simp only [zEx] at h
  obtain ⟨⟨hn, hdg⟩, h1, hk⟩ := hk
  obtain ⟨rfl, hd2⟩ := zLen hn hdg h1
  have zmem : ∀ w : Cond, lw_tbl.contains w = true → goodWord w = true → w ∈ zTg := fun w h1 h2 => List.mem_filter.mpr ⟨List.contains_iff_mem.mp h1, h2⟩
  have hmx := zIn_max
  simp only [Bool.and_eq_true] at hmx
  obtain ⟨⟨⟨⟨⟨⟨⟨⟨⟨x1, x2⟩, x3⟩, x4⟩, x5⟩, x6⟩, x7⟩, x8⟩, x9⟩, x10⟩ := hmx
  have hml2 : c.maxLocals = ls.size := by rw [hml]; exact hl.1.1.symm
  match e1, h, hk with
  | 0, h, hk =>
    simp only [Bool.and_eq_true, decide_eq_true_eq] at hk
    obtain ⟨⟨⟨⟨⟨h2, h3⟩, h4⟩, h8⟩, h9⟩, h10⟩ := hk
    have h2 := Nat.le_of_ble_eq_true h2
    have h3 : a ≠ nL_law := by
      intro q
      rw [q] at h3
      simp at h3
    obtain ⟨av0, r, hlen, rfl, hq⟩ := zPn_inv b [] st _ h
    rw [List.append_nil] at hq
    obtain ⟨hw8, hq2⟩ := zG_inv hq
    have hw8 := Nat.le_of_ble_eq_true hw8
    obtain ⟨m1, m2, m3, m4, m5, m6, m7⟩ := zMv_spec h2 h3
    have n1 := m6 h4
    obtain ⟨po, hca, hpo⟩ := z_res hq2
    have hM := hC a av0.reverse σ po h2 h3 hca H.size
    have hn1 : (av0.reverse.map (zR ad)).length = b := by rw [List.length_map, List.length_reverse]; exact hlen
    have hst : (List.map (zR ad) (av0 ++ r)) = (av0.reverse.map (zR ad)).reverse ++ r.map (zR ad) := by simp
    have hpre : PreS s H (va_Pc (av0.reverse.map (zR ad)) (zB D cI cJ ad H.size σ)) (av0.reverse.map (zR ad)) :=
      ⟨zB_blind D cI cJ ad H.size σ _, fun U hU hW => ⟨rfl, z_pre K0 hP hU hW⟩⟩
    have hsum : ((r.map (zR ad)).map fun v => v.category).sum ≤ 8 := by rw [zW8_R]; exact hw8
    rw [hst]
    simp only [Bool.or_eq_true, decide_eq_true_eq] at h10
    rcases h10 with h10 | h10
    · refine z_go K0 hS hl (va_runS (Ts := zTg) (own := (zY mi).cls) (index := idx) (n := b) ⟨hx, hb, hml, hown, hts⟩ hM ⟨callB_of b hts (zTg_GoodIn fun w hw => ?_) rfl rfl rfl (hts _ m2) (hts _ (zin _ h10 rfl)) ⟨m3.1, m3.2, h8⟩ (z_room K0 m5), hts _ n1⟩ hpre rfl hn1 hl.1.1 rfl (lv_room hsum) hd2 ⟨hcl, hsl⟩) (fun v σ2 hp => ⟨(hpo v σ2 hp).1 ad, hZ _ _ _ _ (hpo v σ2 hp).2⟩)
      rcases List.mem_cons.mp hw with rfl | hw
      · exact m1
      · exact hw
    · refine z_go K0 hS hl (va_runSN (Ts := zTg) (own := (zY mi).cls) (host := "RatePlanner") (index := idx) (n := b) ⟨hx, hb, hml, hown, hts⟩ hM ⟨va_cnB b hts (zTg_GoodIn fun w hw => ?_) rfl rfl rfl (hnw _ (zinN _ h10 rfl)) (hts _ m2) ⟨m3.1, m3.2, h8⟩ (z_room K0 m5), hts _ n1, trivial⟩ hpre rfl hn1 hl.1.1 rfl (lv_room hsum) hd2 ⟨hcl, hsl⟩) (fun v σ2 hp => ⟨(hpo v σ2 hp).1 ad, hZ _ _ _ _ (hpo v σ2 hp).2⟩)
      rcases List.mem_cons.mp hw with rfl | hw
      · exact m1
      · exact hw
  | 1, h, hk =>
    obtain ⟨x, y, r, rfl, h0⟩ := zII_inv h
    obtain ⟨hw8, h5⟩ := zG_inv h0
    have hw8 := Nat.le_of_ble_eq_true hw8
    exact va_mmax hx hb hml2 hown (hts _ (zin _ (of_decide_eq_true hk) rfl)) (hts _ (zmem _ x1 rfl)) (hts _ (zmem _ x7 rfl)) (hts _ (zmem _ x2 rfl)) (by omega) (by rw [zW8_R]; omega) hcl hsl hd2 (hZ _ _ _ _ h5 H locs ls hP hS hl)
  | 2, h, hk =>
    obtain ⟨x, y, r, rfl, h0⟩ := zII_inv h
    obtain ⟨hw8, h5⟩ := zG_inv h0
    have hw8 := Nat.le_of_ble_eq_true hw8
    exact va_mmin hx hb hml2 hown (hts _ (zin _ (of_decide_eq_true hk) rfl)) (hts _ (zmem _ x3 rfl)) (hts _ (zmem _ x7 rfl)) (hts _ (zmem _ x4 rfl)) (by omega) (by rw [zW8_R]; omega) hcl hsl hd2 (hZ _ _ _ _ h5 H locs ls hP hS hl)
  | 3, h, hk =>
    obtain ⟨x, r, rfl, h0⟩ := zI_inv h
    obtain ⟨hw8, h5⟩ := zG_inv h0
    have hw8 := Nat.le_of_ble_eq_true hw8
    exact va_mabs hx hb hml2 hown (hts _ (zin _ (of_decide_eq_true hk) rfl)) (hts _ (zmem _ x5 rfl)) (hts _ (zmem _ x7 rfl)) (hts _ (zmem _ x6 rfl)) (by omega) (by rw [zW8_R]; omega) hcl hsl hd2 (hZ _ _ _ _ h5 H locs ls hP hS hl)
  | j + 4, h, hk =>
    obtain ⟨k, r1, rfl, g1⟩ := zI_inv h
    obtain ⟨dp, r2, rfl, g2⟩ := zI_inv g1
    obtain ⟨dd, r3, rfl, g3⟩ := zA_inv g2
    obtain ⟨sp, r4, rfl, g4⟩ := zI_inv g3
    obtain ⟨q, r, rfl, g5⟩ := zA_inv g4
    obtain ⟨hg, ⟨a1, a2, a3, a4, a5⟩, h5⟩ := zG_inv g5
    simp only [Bool.and_eq_true] at hg
    obtain ⟨⟨hi1, hi2⟩, hw8⟩ := hg
    have hw8 := Nat.le_of_ble_eq_true hw8
    obtain ⟨sl1, hq1⟩ := zIsI_spec hi1
    obtain ⟨sl2, hq2⟩ := zIsI_spec hi2
    have e1 := zW_set ad cI cJ (σ := σ) (τ := zSR σ dd (va_cpy (σ.1 q) (σ.1 dd) sp.toNatClampNeg dp.toNatClampNeg k.toNatClampNeg)) hq2 (fun a h => zSR_1 h) (fun a h => rfl)
    rw [show zEn ad cI cJ (zSR σ dd (va_cpy (σ.1 q) (σ.1 dd) sp.toNatClampNeg dp.toNatClampNeg k.toNatClampNeg)) dd (1, zN dd, sl2) = .inl (cI, zN dd, .inl (va_cpy (σ.1 q) (σ.1 dd) sp.toNatClampNeg dp.toNatClampNeg k.toNatClampNeg)) from by show Sum.inl (cI, zN dd, Sum.inl ((zSR σ dd _).1 dd)) = _; rw [zSR_s]] at e1
    exact va_copyi (D := D) hx hb hml2 hown (hts _ (zin _ (of_decide_eq_true hk) rfl)) (hts _ (zmem _ x8 rfl)) (hts _ (zmem _ x9 rfl)) (hts _ (zmem _ x10 rfl)) hK hP (zD_of hinj hAd σ) hS q dd 0 0 (c0 := cI) (c1 := cI) (n0 := zN q) (n1 := zN dd) (f := σ.1 q) (g := σ.1 dd) (ty := .int) (zW_get ad cI cJ σ hq1) (zW_get ad cI cJ σ hq2) rfl rfl rfl a1 a2 a3 a4 a5 (fun _ _ => rfl) (by omega) (by rw [zW8_R, show nativeFrameWords "java/lang/System" "arraycopy" 5 = 7 from by decide +kernel]; omega) hd2 (fun H1 locs1 hP1 hD1 hS1 => hZ _ _ _ _ h5 H1 locs1 ls (by rw [e1] at hP1; exact hP1) hS1 hl)
end ZC
end
section
/-! one instruction, whichever; a method of any depth -/
theorem zRI_inv {st : List Value} {k : Int32 → Prop} (h : zRI st k) : ∃ x, st = [.int x] ∧ k x := by
  unfold zRI at h
  split at h
  · exact ⟨_, rfl, h⟩
  · exact False.elim h
theorem zRJ_inv {st : List Value} {k : Int64 → Prop} (h : zRJ st k) : ∃ x, st = [.long x] ∧ k x := by
  unfold zRJ at h
  split at h
  · exact ⟨_, rfl, h⟩
  · exact False.elim h
theorem zRV_inv {st : List Value} {k : Prop} (h : zRV st k) : st = [] ∧ k := by
  unfold zRV at h
  split at h
  · exact ⟨rfl, h⟩
  · exact False.elim h
section ZE
variable {p : Program} {l : Launch} {e : Env} {R : Room} {s : State} {m : MethodId} {args : Array Value} {below : List Frame} {meth : Method} {c : Code} {cells slots : Nat} {Q : State → Prop} {D : va_G} {cI cJ : ClassId} {ad : Nat → Nat} {A : Nat → Prop} {d mi : Nat}
variable {sc : Option (Nat × (Nat → Int32))} {C : zCa} {post : zPo} {Z : zX}
theorem zEx_ok (K : zCx p l R s m args meth c cells slots D cI cJ ad A d mi)
    (hsc : ∀ t, sc = some t → va_X (ad 80) t.1 t.2 s s.heap ∧ ad 80 < s.heap.size ∧ ¬ A (ad 80))
    (hC : ∀ (a : Nat) (av : List Value) (σ : zS) (po : zPo), a < 213 → a ≠ nL_law → C a av σ po → zCon l D cI cJ ad d a av σ po)
    (hRi : ∀ (x : Int32) (σ : zS) (H : Heap) (locs : List Loc) (ls : Array Slot) (pc : Nat), post (some (.int x)) σ → va_P D vwCl (zW ad cI cJ σ) H → va_S A s.heap H locs → decode (zBy mi) pc = .ok (.ireturn, 1) → (zRt mi = some .int ∨ (zRt mi = some .boolean ∧ (x == 0 || x == 1) = true)) → W p l e R s m args below meth c H locs cells slots Q (F0 m pc ls [.int x]))
    (hRl : ∀ (x : Int64) (σ : zS) (H : Heap) (locs : List Loc) (ls : Array Slot) (pc : Nat), post (some (.long x)) σ → va_P D vwCl (zW ad cI cJ σ) H → va_S A s.heap H locs → decode (zBy mi) pc = .ok (.lreturn, 1) → zRt mi = some .long → W p l e R s m args below meth c H locs cells slots Q (F0 m pc ls [.long x]))
    (hRv : ∀ (σ : zS) (H : Heap) (locs : List Loc) (ls : Array Slot) (pc : Nat), post none σ → va_P D vwCl (zW ad cI cJ σ) H → va_S A s.heap H locs → decode (zBy mi) pc = .ok (.return_, 1) → zRt mi = none → W p l e R s m args below meth c H locs cells slots Q (F0 m pc ls []))
    (hZ : zZX p l e R s m args below meth c cells slots Q D cI cJ ad A mi Z) {pc : Nat} {o : zOp} {lv : zLo} {st : List Value} {σ : zS} (hk : zOk mi pc o = true) (h : zEx sc C post Z o lv st σ) : zXs p l e R s m args below meth c cells slots Q D cI cJ ad A mi pc lv st σ := by
  obtain ⟨i, n, a, b, k1, e1, g, v, w, tb⟩ := o
  cases i with
  | iconst z => exact zo_iconst K hZ hk h
  | bipush z => exact zo_bipush K hZ hk h
  | sipush z => exact zo_sipush K hZ hk h
  | ldc z => exact zo_ldc K hZ hk h
  | lconst z => exact zo_lconst K hZ hk h
  | ldc2_w z => exact zo_ldc2 K hZ hk h
  | iload_n z => exact zo_iload_n K hZ hk h
  | iload z => exact zo_iload K hZ hk h
  | lload_n z => exact zo_lload_n K hZ hk h
  | lload z => exact zo_lload K hZ hk h
  | aload_n z => exact zo_aload_n K hZ hk h
  | aload z => exact zo_aload K hZ hk h
  | istore_n z => exact zo_istore_n K hZ hk h
  | istore z => exact zo_istore K hZ hk h
  | lstore_n z => exact zo_lstore_n K hZ hk h
  | lstore z => exact zo_lstore K hZ hk h
  | iinc z y => exact zo_iinc K hZ hk h
  | iadd => exact zo_iadd K hZ hk h
  | isub => exact zo_isub K hZ hk h
  | imul => exact zo_imul K hZ hk h
  | iand => exact zo_iand K hZ hk h
  | idiv => exact zo_idiv K hZ hk h
  | irem => exact zo_irem K hZ hk h
  | ladd => exact zo_ladd K hZ hk h
  | lsub => exact zo_lsub K hZ hk h
  | lmul => exact zo_lmul K hZ hk h
  | ldiv => exact zo_ldiv K hZ hk h
  | lcmp => exact zo_lcmp K hZ hk h
  | ineg => exact zo_ineg K hZ hk h
  | i2l => exact zo_i2l K hZ hk h
  | l2i => exact zo_l2i K hZ hk h
  | dup => exact zo_dup K hZ hk h
  | pop => exact zo_pop K hZ hk h
  | dup2 => exact zo_dup2 K hZ hk h
  | laload => exact zo_laload K hZ hk h
  | iastore => exact zo_iastore K hZ hk h
  | lastore => exact zo_lastore K hZ hk h
  | iaload => exact zo_iaload hsc K hZ hk h
  | arraylength => exact zo_arraylength hsc K hZ hk h
  | goto z => exact zo_goto K hZ hk h
  | tableswitch x y z t => exact zo_tableswitch K hZ hk h
  | lookupswitch x y => exact zo_lookupswitch K hZ hk h
  | getfield z => exact zo_getfield K hZ hk h
  | putfield z => exact zo_putfield K hZ hk h
  | invokevirtual z => exact zo_invokevirtual hC K hZ hk h
  | invokestatic z => exact zo_invokestatic hC K hZ hk h
  | ifCond cd z => cases cd with
    | eq => exact zo_if_eq K hZ hk h
    | ne => exact zo_if_ne K hZ hk h
    | lt => exact zo_if_lt K hZ hk h
    | ge => exact zo_if_ge K hZ hk h
    | gt => exact zo_if_gt K hZ hk h
    | le => exact zo_if_le K hZ hk h
  | if_icmp cd z => cases cd with
    | eq => exact zo_icmp_eq K hZ hk h
    | ne => exact zo_icmp_ne K hZ hk h
    | lt => exact zo_icmp_lt K hZ hk h
    | ge => exact zo_icmp_ge K hZ hk h
    | gt => exact zo_icmp_gt K hZ hk h
    | le => exact zo_icmp_le K hZ hk h
  | ireturn =>
    intro H locs ls hP hS hl
    simp only [zOk, Bool.and_eq_true, decide_eq_true_eq] at hk
    simp only [zEx] at h
    obtain ⟨⟨hn, hdg⟩, h1, h2⟩ := hk
    obtain ⟨rfl, hd2⟩ := zLen hn hdg h1
    obtain ⟨x, rfl, h3⟩ := zRI_inv h
    refine hRi x σ H locs ls pc ?_ hP hS hd2 ?_
    · match k1, h3 with
      | 0, h3 => exact h3
      | 1, h3 => exact (zG_inv h3).2
      | k + 2, h3 => exact h3
    · match zRt mi, k1, h2, h3 with
      | some .int, _, _, _ => exact Or.inl rfl
      | some .boolean, 1, _, h3 => exact Or.inr ⟨rfl, (zG_inv h3).1⟩
      | some .boolean, 0, h2, _ => exact absurd h2 (by simp)
      | some .boolean, k + 2, h2, _ => exact absurd h2 (by simp)
  | lreturn =>
    intro H locs ls hP hS hl
    simp only [zOk, Bool.and_eq_true, decide_eq_true_eq] at hk
    simp only [zEx] at h
    obtain ⟨⟨hn, hdg⟩, h1, h2⟩ := hk
    obtain ⟨rfl, hd2⟩ := zLen hn hdg h1
    obtain ⟨x, rfl, h3⟩ := zRJ_inv h
    exact hRl x σ H locs ls pc h3 hP hS hd2 h2
  | return_ =>
    intro H locs ls hP hS hl
    simp only [zOk, Bool.and_eq_true, decide_eq_true_eq] at hk
    simp only [zEx] at h
    obtain ⟨⟨hn, hdg⟩, h1, h2⟩ := hk
    obtain ⟨rfl, hd2⟩ := zLen hn hdg h1
    obtain ⟨rfl, h3⟩ := zRV_inv h
    exact hRv σ H locs ls pc h3 hP hS hd2 h2
  | _ => exact False.elim h
theorem zClosed_of (K : zCx p l R s m args meth c cells slots D cI cJ ad A d mi)
    (hsc : ∀ t, sc = some t → va_X (ad 80) t.1 t.2 s s.heap ∧ ad 80 < s.heap.size ∧ ¬ A (ad 80))
    (hC : ∀ (a : Nat) (av : List Value) (σ : zS) (po : zPo), a < 213 → a ≠ nL_law → C a av σ po → zCon l D cI cJ ad d a av σ po)
    (hRi : ∀ (x : Int32) (σ : zS) (H : Heap) (locs : List Loc) (ls : Array Slot) (pc : Nat), post (some (.int x)) σ → va_P D vwCl (zW ad cI cJ σ) H → va_S A s.heap H locs → decode (zBy mi) pc = .ok (.ireturn, 1) → (zRt mi = some .int ∨ (zRt mi = some .boolean ∧ (x == 0 || x == 1) = true)) → W p l e R s m args below meth c H locs cells slots Q (F0 m pc ls [.int x]))
    (hRl : ∀ (x : Int64) (σ : zS) (H : Heap) (locs : List Loc) (ls : Array Slot) (pc : Nat), post (some (.long x)) σ → va_P D vwCl (zW ad cI cJ σ) H → va_S A s.heap H locs → decode (zBy mi) pc = .ok (.lreturn, 1) → zRt mi = some .long → W p l e R s m args below meth c H locs cells slots Q (F0 m pc ls [.long x]))
    (hRv : ∀ (σ : zS) (H : Heap) (locs : List Loc) (ls : Array Slot) (pc : Nat), post none σ → va_P D vwCl (zW ad cI cJ σ) H → va_S A s.heap H locs → decode (zBy mi) pc = .ok (.return_, 1) → zRt mi = none → W p l e R s m args below meth c H locs cells slots Q (F0 m pc ls [])) : zClosed sc C post mi (zXs p l e R s m args below meth c cells slots Q D cI cJ ad A mi) :=
  ⟨fun Z pc o ls st σ hZ hk h => zEx_ok K hsc hC hRi hRl hRv hZ hk h, fun ms pc ls st σ h H locs ls2 hP hS hl => h H locs ls2 hP hS (hl.mk ms pc)⟩
end ZE
theorem zSound (l : Launch) (D : va_G) (cI cJ : ClassId) (ad : Nat → Nat) (hinj : ∀ i j, i < zSh.length → j < zSh.length → ad i = ad j → i = j) : ∀ (d a : Nat) (av : List Value) (σ : zS) (post : zPo), a < 213 → a ≠ nL_law → zCall d a av σ post → zCon l D cI cJ ad d a av σ post
  | 0, a, av, σ, post, _, _, h => False.elim h
  | d + 1, a, av, σ, post, ha, hna, h => by
    intro sz
    obtain ⟨hb0, hrun⟩ := zG_inv h
    obtain ⟨m1, m2, m3, m4, m5, m6, m7⟩ := zMv_spec ha hna
    refine Met.ofW (cc := zBy a) (maxL := zMl a) (ret := zRt a) m4 rfl ?_
    intro p e s m args below meth c s₁ B hml hv
    obtain ⟨rfl, hsz, hP, hK, hN⟩ := hv
    subst hsz
    have hts0 := atoms_spec (ws := zWs a) B.pre
    have hts : ∀ w ∈ zTg, w.before _ s = true := fun w hw => hts0 w (List.mem_cons_of_mem _ hw)
    have hown : s.vm.findClass (zY a).cls = some m.cls := findClass_of_methodNamed B.named
    have hx := B.exec
    have hbb := B.bytes
    have hr := B.returns
    have hlocks := B.notSynchronized
    have K : zCx p l (headSpec (zWs a) (zRm (d + 1))).room s m _ meth c 0 0 D cI cJ ad (zA0 ad s.heap.size) d a := ⟨hx, hbb, hml, hown, hts, hN, hK, hinj, fun k hk => Or.inl ⟨k, hk, rfl⟩, fun q hq => Or.inr hq, Nat.zero_le _, Nat.zero_le _, Nat.le_refl _, Nat.le_refl _⟩
    rw [lg_entry_eq]
    exact hrun _ (zClosed_of (e := e) (below := below) (Q := MQ below (zQ D cI cJ ad s.heap.size post) (av.map (zR ad)).toArray s 0 0 (zA0 ad s.heap.size)) K (fun t ht => by cases ht) (fun a av σ po h1 h2 h3 => zSound l D cI cJ ad hinj d a av σ po h1 h2 h3)
      (fun x σ H locs ls pc hp hP hS hdg ht => by
        rcases ht with ht | ⟨ht, hb⟩
        · exact W.iret hx hbb (hr.trans ht) (fun t ht hW => ⟨⟨_, σ, rfl, hp, by rw [ht]; exact hP⟩, hS.F ht⟩) hS.2.2 hdg
        · exact W.zret (ty := .boolean) hx hbb (hr.trans ht) (z01_nar hb) (fun t ht hW => ⟨⟨_, σ, rfl, hp, by rw [ht]; exact hP⟩, hS.F ht⟩) hS.2.2 hdg)
      (fun x σ H locs ls pc hp hP hS hdg ht => W.lret hx hbb (hr.trans ht) (fun t ht hW => ⟨⟨_, σ, rfl, hp, by rw [ht]; exact hP⟩, hS.F ht⟩) hS.2.2 hdg)
      (fun σ H locs ls pc hp hP hS hdg ht => W.vret hx hbb (hr.trans ht) (fun t ht hW => ⟨⟨_, σ, rfl, hp, by rw [ht]; exact hP⟩, hS.F ht⟩) hS.2.2 hdg)) s.heap [] _ hP va_S.rf (zHas.entry ad av (zMl a) (Nat.le_of_ble_eq_true hb0))
end
