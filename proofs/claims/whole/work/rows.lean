section
-- ===== PART A: goes FIRST, ahead of the names: the tables' words, and 'selects' of the private methods out of them =====
/-- a private method of a class that the tables say can be made, by its rows of tables_1 -/
def lw_okq (q : MethodName × Nat) : Prop := (q.1.cls ≠ "java/lang/invoke/MethodHandle" ∧ q.1.cls ≠ "java/lang/invoke/VarHandle") ∧ Cond.instantiable q.1.cls q.2 ∈ tables_1 ∧ Cond.privateMethod q.1 ∈ tables_1 ∧ Cond.instanceMethod q.1 ∈ tables_1
theorem lw_p0 : lw_okq (⟨"RatePlanner", "arrangeAnew", "()V"⟩, 12) := ⟨⟨by decide +kernel, by decide +kernel⟩, List.mem_of_getElem? (i := 17) (by decide +kernel), List.mem_of_getElem? (i := 455) (by decide +kernel), List.mem_of_getElem? (i := 456) (by decide +kernel)⟩
theorem lw_p1 : lw_okq (⟨"RatePlanner$Layout", "findStarts", "(LRatePlanner$Clip;I)V"⟩, 10) := ⟨⟨by decide +kernel, by decide +kernel⟩, List.mem_of_getElem? (i := 162) (by decide +kernel), List.mem_of_getElem? (i := 463) (by decide +kernel), List.mem_of_getElem? (i := 464) (by decide +kernel)⟩
theorem lw_p2 : lw_okq (⟨"RatePlanner$Layout", "measureGroups", "()V"⟩, 10) := ⟨⟨by decide +kernel, by decide +kernel⟩, List.mem_of_getElem? (i := 162) (by decide +kernel), List.mem_of_getElem? (i := 473) (by decide +kernel), List.mem_of_getElem? (i := 474) (by decide +kernel)⟩
theorem lw_p3 : lw_okq (⟨"RatePlanner$Layout", "chooseTypes", "(I)V"⟩, 10) := ⟨⟨by decide +kernel, by decide +kernel⟩, List.mem_of_getElem? (i := 162) (by decide +kernel), List.mem_of_getElem? (i := 478) (by decide +kernel), List.mem_of_getElem? (i := 479) (by decide +kernel)⟩
theorem lw_p4 : lw_okq (⟨"RatePlanner$Layout", "putInOrder", "()V"⟩, 10) := ⟨⟨by decide +kernel, by decide +kernel⟩, List.mem_of_getElem? (i := 162) (by decide +kernel), List.mem_of_getElem? (i := 485) (by decide +kernel), List.mem_of_getElem? (i := 486) (by decide +kernel)⟩
theorem lw_p5 : lw_okq (⟨"RatePlanner$Layout", "putAt", "(II)V"⟩, 10) := ⟨⟨by decide +kernel, by decide +kernel⟩, List.mem_of_getElem? (i := 162) (by decide +kernel), List.mem_of_getElem? (i := 489) (by decide +kernel), List.mem_of_getElem? (i := 490) (by decide +kernel)⟩
theorem lw_p6 : lw_okq (⟨"RatePlanner$Layout", "weighWorks", "(LRatePlanner$Clip;)V"⟩, 10) := ⟨⟨by decide +kernel, by decide +kernel⟩, List.mem_of_getElem? (i := 162) (by decide +kernel), List.mem_of_getElem? (i := 493) (by decide +kernel), List.mem_of_getElem? (i := 494) (by decide +kernel)⟩
theorem lw_p7 : lw_okq (⟨"RatePlanner", "isFrame", "(I)Z"⟩, 12) := ⟨⟨by decide +kernel, by decide +kernel⟩, List.mem_of_getElem? (i := 17) (by decide +kernel), List.mem_of_getElem? (i := 504) (by decide +kernel), List.mem_of_getElem? (i := 505) (by decide +kernel)⟩
theorem lw_p8 : lw_okq (⟨"RatePlanner$Text", "skipBlanks", "()V"⟩, 6) := ⟨⟨by decide +kernel, by decide +kernel⟩, List.mem_of_getElem? (i := 133) (by decide +kernel), List.mem_of_getElem? (i := 535) (by decide +kernel), List.mem_of_getElem? (i := 536) (by decide +kernel)⟩
theorem lw_p9 : lw_okq (⟨"RatePlanner$Text", "readRun", "()Z"⟩, 6) := ⟨⟨by decide +kernel, by decide +kernel⟩, List.mem_of_getElem? (i := 133) (by decide +kernel), List.mem_of_getElem? (i := 544) (by decide +kernel), List.mem_of_getElem? (i := 545) (by decide +kernel)⟩
theorem lw_p10 : lw_okq (⟨"RatePlanner$Text", "readNumber", "(II)Z"⟩, 6) := ⟨⟨by decide +kernel, by decide +kernel⟩, List.mem_of_getElem? (i := 133) (by decide +kernel), List.mem_of_getElem? (i := 548) (by decide +kernel), List.mem_of_getElem? (i := 549) (by decide +kernel)⟩
theorem lw_p11 : lw_okq (⟨"RatePlanner$Text", "readSign", "(I)Z"⟩, 6) := ⟨⟨by decide +kernel, by decide +kernel⟩, List.mem_of_getElem? (i := 133) (by decide +kernel), List.mem_of_getElem? (i := 553) (by decide +kernel), List.mem_of_getElem? (i := 554) (by decide +kernel)⟩
theorem lw_p12 : lw_okq (⟨"RatePlanner$Maker", "offsetOf", "(I)I"⟩, 5) := ⟨⟨by decide +kernel, by decide +kernel⟩, List.mem_of_getElem? (i := 297) (by decide +kernel), List.mem_of_getElem? (i := 653) (by decide +kernel), List.mem_of_getElem? (i := 654) (by decide +kernel)⟩
theorem lw_p13 : lw_okq (⟨"RatePlanner", "underflowsOfNewPlan", "()I"⟩, 12) := ⟨⟨by decide +kernel, by decide +kernel⟩, List.mem_of_getElem? (i := 17) (by decide +kernel), List.mem_of_getElem? (i := 671) (by decide +kernel), List.mem_of_getElem? (i := 672) (by decide +kernel)⟩
theorem lw_p14 : lw_okq (⟨"RatePlanner$Maker", "weighShares", "()J"⟩, 5) := ⟨⟨by decide +kernel, by decide +kernel⟩, List.mem_of_getElem? (i := 297) (by decide +kernel), List.mem_of_getElem? (i := 730) (by decide +kernel), List.mem_of_getElem? (i := 731) (by decide +kernel)⟩
theorem lw_p15 : lw_okq (⟨"RatePlanner$Maker", "leastWithin", "(IJ)I"⟩, 5) := ⟨⟨by decide +kernel, by decide +kernel⟩, List.mem_of_getElem? (i := 297) (by decide +kernel), List.mem_of_getElem? (i := 739) (by decide +kernel), List.mem_of_getElem? (i := 740) (by decide +kernel)⟩
def lw_privs_1 : List (MethodName × Nat) := [(⟨"RatePlanner", "arrangeAnew", "()V"⟩, 12), (⟨"RatePlanner$Layout", "findStarts", "(LRatePlanner$Clip;I)V"⟩, 10), (⟨"RatePlanner$Layout", "measureGroups", "()V"⟩, 10), (⟨"RatePlanner$Layout", "chooseTypes", "(I)V"⟩, 10), (⟨"RatePlanner$Layout", "putInOrder", "()V"⟩, 10), (⟨"RatePlanner$Layout", "putAt", "(II)V"⟩, 10), (⟨"RatePlanner$Layout", "weighWorks", "(LRatePlanner$Clip;)V"⟩, 10), (⟨"RatePlanner", "isFrame", "(I)Z"⟩, 12), (⟨"RatePlanner$Text", "skipBlanks", "()V"⟩, 6), (⟨"RatePlanner$Text", "readRun", "()Z"⟩, 6), (⟨"RatePlanner$Text", "readNumber", "(II)Z"⟩, 6), (⟨"RatePlanner$Text", "readSign", "(I)Z"⟩, 6), (⟨"RatePlanner$Maker", "offsetOf", "(I)I"⟩, 5), (⟨"RatePlanner", "underflowsOfNewPlan", "()I"⟩, 12), (⟨"RatePlanner$Maker", "weighShares", "()J"⟩, 5), (⟨"RatePlanner$Maker", "leastWithin", "(IJ)I"⟩, 5)]
theorem lw_r1 : ∀ q ∈ lw_privs_1, lw_okq q := List.forall_mem_cons.mpr ⟨lw_p0, List.forall_mem_cons.mpr ⟨lw_p1, List.forall_mem_cons.mpr ⟨lw_p2, List.forall_mem_cons.mpr ⟨lw_p3, List.forall_mem_cons.mpr ⟨lw_p4, List.forall_mem_cons.mpr ⟨lw_p5, List.forall_mem_cons.mpr ⟨lw_p6, List.forall_mem_cons.mpr ⟨lw_p7, List.forall_mem_cons.mpr ⟨lw_p8, List.forall_mem_cons.mpr ⟨lw_p9, List.forall_mem_cons.mpr ⟨lw_p10, List.forall_mem_cons.mpr ⟨lw_p11, List.forall_mem_cons.mpr ⟨lw_p12, List.forall_mem_cons.mpr ⟨lw_p13, List.forall_mem_cons.mpr ⟨lw_p14, List.forall_mem_cons.mpr ⟨lw_p15, fun _ h => absurd h List.not_mem_nil⟩⟩⟩⟩⟩⟩⟩⟩⟩⟩⟩⟩⟩⟩⟩⟩
theorem lw_p16 : lw_okq (⟨"RatePlanner$Mender", "weighRaise", "(I)V"⟩, 8) := ⟨⟨by decide +kernel, by decide +kernel⟩, List.mem_of_getElem? (i := 319) (by decide +kernel), List.mem_of_getElem? (i := 764) (by decide +kernel), List.mem_of_getElem? (i := 765) (by decide +kernel)⟩
theorem lw_p17 : lw_okq (⟨"RatePlanner$Mender", "nextOf", "(II)I"⟩, 8) := ⟨⟨by decide +kernel, by decide +kernel⟩, List.mem_of_getElem? (i := 319) (by decide +kernel), List.mem_of_getElem? (i := 768) (by decide +kernel), List.mem_of_getElem? (i := 769) (by decide +kernel)⟩
theorem lw_p18 : lw_okq (⟨"RatePlanner$Mender", "cheapestRaise", "(II)I"⟩, 8) := ⟨⟨by decide +kernel, by decide +kernel⟩, List.mem_of_getElem? (i := 319) (by decide +kernel), List.mem_of_getElem? (i := 788) (by decide +kernel), List.mem_of_getElem? (i := 789) (by decide +kernel)⟩
theorem lw_p19 : lw_okq (⟨"RatePlanner$Mender", "raise", "(I)V"⟩, 8) := ⟨⟨by decide +kernel, by decide +kernel⟩, List.mem_of_getElem? (i := 319) (by decide +kernel), List.mem_of_getElem? (i := 795) (by decide +kernel), List.mem_of_getElem? (i := 796) (by decide +kernel)⟩
theorem lw_p20 : lw_okq (⟨"RatePlanner$Mender", "weighLowering", "([II)V"⟩, 8) := ⟨⟨by decide +kernel, by decide +kernel⟩, List.mem_of_getElem? (i := 319) (by decide +kernel), List.mem_of_getElem? (i := 808) (by decide +kernel), List.mem_of_getElem? (i := 809) (by decide +kernel)⟩
theorem lw_p21 : lw_okq (⟨"RatePlanner$Mender", "greatestGain", "()I"⟩, 8) := ⟨⟨by decide +kernel, by decide +kernel⟩, List.mem_of_getElem? (i := 319) (by decide +kernel), List.mem_of_getElem? (i := 814) (by decide +kernel), List.mem_of_getElem? (i := 815) (by decide +kernel)⟩
theorem lw_p22 : lw_okq (⟨"RatePlanner$Mender", "canLower", "([IIII)Z"⟩, 8) := ⟨⟨by decide +kernel, by decide +kernel⟩, List.mem_of_getElem? (i := 319) (by decide +kernel), List.mem_of_getElem? (i := 818) (by decide +kernel), List.mem_of_getElem? (i := 819) (by decide +kernel)⟩
theorem lw_p23 : lw_okq (⟨"RatePlanner$Mender", "lower", "([II)V"⟩, 8) := ⟨⟨by decide +kernel, by decide +kernel⟩, List.mem_of_getElem? (i := 319) (by decide +kernel), List.mem_of_getElem? (i := 826) (by decide +kernel), List.mem_of_getElem? (i := 827) (by decide +kernel)⟩
theorem lw_p24 : lw_okq (⟨"RatePlanner", "followedFrame", "(II)I"⟩, 12) := ⟨⟨by decide +kernel, by decide +kernel⟩, List.mem_of_getElem? (i := 17) (by decide +kernel), List.mem_of_getElem? (i := 838) (by decide +kernel), List.mem_of_getElem? (i := 839) (by decide +kernel)⟩
theorem lw_p25 : lw_okq (⟨"RatePlanner", "followedTotal", "(I)J"⟩, 12) := ⟨⟨by decide +kernel, by decide +kernel⟩, List.mem_of_getElem? (i := 17) (by decide +kernel), List.mem_of_getElem? (i := 848) (by decide +kernel), List.mem_of_getElem? (i := 849) (by decide +kernel)⟩
theorem lw_p26 : lw_okq (⟨"RatePlanner", "changesOfPlan", "()J"⟩, 12) := ⟨⟨by decide +kernel, by decide +kernel⟩, List.mem_of_getElem? (i := 17) (by decide +kernel), List.mem_of_getElem? (i := 852) (by decide +kernel), List.mem_of_getElem? (i := 853) (by decide +kernel)⟩
theorem lw_p27 : lw_okq (⟨"RatePlanner", "bitsOfScene", "(I)I"⟩, 12) := ⟨⟨by decide +kernel, by decide +kernel⟩, List.mem_of_getElem? (i := 17) (by decide +kernel), List.mem_of_getElem? (i := 871) (by decide +kernel), List.mem_of_getElem? (i := 872) (by decide +kernel)⟩
theorem lw_p28 : lw_okq (⟨"RatePlanner", "meanOfScene", "(I)I"⟩, 12) := ⟨⟨by decide +kernel, by decide +kernel⟩, List.mem_of_getElem? (i := 17) (by decide +kernel), List.mem_of_getElem? (i := 875) (by decide +kernel), List.mem_of_getElem? (i := 876) (by decide +kernel)⟩
theorem lw_p29 : lw_okq (⟨"RatePlanner$Finder", "findLeast", "([IIII)I"⟩, 5) := ⟨⟨by decide +kernel, by decide +kernel⟩, List.mem_of_getElem? (i := 351) (by decide +kernel), List.mem_of_getElem? (i := 893) (by decide +kernel), List.mem_of_getElem? (i := 894) (by decide +kernel)⟩
theorem lw_p30 : lw_okq (⟨"RatePlanner$Finder", "suffices", "(II)Z"⟩, 5) := ⟨⟨by decide +kernel, by decide +kernel⟩, List.mem_of_getElem? (i := 351) (by decide +kernel), List.mem_of_getElem? (i := 898) (by decide +kernel), List.mem_of_getElem? (i := 899) (by decide +kernel)⟩
theorem lw_p31 : lw_okq (⟨"RatePlanner", "hashFrame", "(JI)J"⟩, 12) := ⟨⟨by decide +kernel, by decide +kernel⟩, List.mem_of_getElem? (i := 17) (by decide +kernel), List.mem_of_getElem? (i := 969) (by decide +kernel), List.mem_of_getElem? (i := 970) (by decide +kernel)⟩
def lw_privs_2 : List (MethodName × Nat) := [(⟨"RatePlanner$Mender", "weighRaise", "(I)V"⟩, 8), (⟨"RatePlanner$Mender", "nextOf", "(II)I"⟩, 8), (⟨"RatePlanner$Mender", "cheapestRaise", "(II)I"⟩, 8), (⟨"RatePlanner$Mender", "raise", "(I)V"⟩, 8), (⟨"RatePlanner$Mender", "weighLowering", "([II)V"⟩, 8), (⟨"RatePlanner$Mender", "greatestGain", "()I"⟩, 8), (⟨"RatePlanner$Mender", "canLower", "([IIII)Z"⟩, 8), (⟨"RatePlanner$Mender", "lower", "([II)V"⟩, 8), (⟨"RatePlanner", "followedFrame", "(II)I"⟩, 12), (⟨"RatePlanner", "followedTotal", "(I)J"⟩, 12), (⟨"RatePlanner", "changesOfPlan", "()J"⟩, 12), (⟨"RatePlanner", "bitsOfScene", "(I)I"⟩, 12), (⟨"RatePlanner", "meanOfScene", "(I)I"⟩, 12), (⟨"RatePlanner$Finder", "findLeast", "([IIII)I"⟩, 5), (⟨"RatePlanner$Finder", "suffices", "(II)Z"⟩, 5), (⟨"RatePlanner", "hashFrame", "(JI)J"⟩, 12)]
theorem lw_r2 : ∀ q ∈ lw_privs_2, lw_okq q := List.forall_mem_cons.mpr ⟨lw_p16, List.forall_mem_cons.mpr ⟨lw_p17, List.forall_mem_cons.mpr ⟨lw_p18, List.forall_mem_cons.mpr ⟨lw_p19, List.forall_mem_cons.mpr ⟨lw_p20, List.forall_mem_cons.mpr ⟨lw_p21, List.forall_mem_cons.mpr ⟨lw_p22, List.forall_mem_cons.mpr ⟨lw_p23, List.forall_mem_cons.mpr ⟨lw_p24, List.forall_mem_cons.mpr ⟨lw_p25, List.forall_mem_cons.mpr ⟨lw_p26, List.forall_mem_cons.mpr ⟨lw_p27, List.forall_mem_cons.mpr ⟨lw_p28, List.forall_mem_cons.mpr ⟨lw_p29, List.forall_mem_cons.mpr ⟨lw_p30, List.forall_mem_cons.mpr ⟨lw_p31, fun _ h => absurd h List.not_mem_nil⟩⟩⟩⟩⟩⟩⟩⟩⟩⟩⟩⟩⟩⟩⟩⟩
theorem lw_p32 : lw_okq (⟨"RatePlannerModel", "forgets", "()V"⟩, 24) := ⟨⟨by decide +kernel, by decide +kernel⟩, List.mem_of_getElem? (i := 976) (by decide +kernel), List.mem_of_getElem? (i := 1063) (by decide +kernel), List.mem_of_getElem? (i := 1064) (by decide +kernel)⟩
theorem lw_p33 : lw_okq (⟨"RatePlannerModel", "isFrame", "(I)Z"⟩, 24) := ⟨⟨by decide +kernel, by decide +kernel⟩, List.mem_of_getElem? (i := 976) (by decide +kernel), List.mem_of_getElem? (i := 1071) (by decide +kernel), List.mem_of_getElem? (i := 1072) (by decide +kernel)⟩
theorem lw_p34 : lw_okq (⟨"RatePlannerModel", "isCut", "(I)Z"⟩, 24) := ⟨⟨by decide +kernel, by decide +kernel⟩, List.mem_of_getElem? (i := 976) (by decide +kernel), List.mem_of_getElem? (i := 1075) (by decide +kernel), List.mem_of_getElem? (i := 1076) (by decide +kernel)⟩
theorem lw_p35 : lw_okq (⟨"RatePlannerModel", "readsAll", "()V"⟩, 24) := ⟨⟨by decide +kernel, by decide +kernel⟩, List.mem_of_getElem? (i := 976) (by decide +kernel), List.mem_of_getElem? (i := 1095) (by decide +kernel), List.mem_of_getElem? (i := 1096) (by decide +kernel)⟩
theorem lw_p36 : lw_okq (⟨"RatePlannerModel", "skips", "()V"⟩, 24) := ⟨⟨by decide +kernel, by decide +kernel⟩, List.mem_of_getElem? (i := 976) (by decide +kernel), List.mem_of_getElem? (i := 1099) (by decide +kernel), List.mem_of_getElem? (i := 1100) (by decide +kernel)⟩
theorem lw_p37 : lw_okq (⟨"RatePlannerModel", "byteAt", "(I)I"⟩, 24) := ⟨⟨by decide +kernel, by decide +kernel⟩, List.mem_of_getElem? (i := 976) (by decide +kernel), List.mem_of_getElem? (i := 1103) (by decide +kernel), List.mem_of_getElem? (i := 1104) (by decide +kernel)⟩
theorem lw_p38 : lw_okq (⟨"RatePlannerModel", "readsRun", "()V"⟩, 24) := ⟨⟨by decide +kernel, by decide +kernel⟩, List.mem_of_getElem? (i := 976) (by decide +kernel), List.mem_of_getElem? (i := 1107) (by decide +kernel), List.mem_of_getElem? (i := 1108) (by decide +kernel)⟩
theorem lw_p39 : lw_okq (⟨"RatePlannerModel", "fails", "(I)V"⟩, 24) := ⟨⟨by decide +kernel, by decide +kernel⟩, List.mem_of_getElem? (i := 976) (by decide +kernel), List.mem_of_getElem? (i := 1111) (by decide +kernel), List.mem_of_getElem? (i := 1112) (by decide +kernel)⟩
theorem lw_p40 : lw_okq (⟨"RatePlannerModel", "reads1", "(II)I"⟩, 24) := ⟨⟨by decide +kernel, by decide +kernel⟩, List.mem_of_getElem? (i := 976) (by decide +kernel), List.mem_of_getElem? (i := 1115) (by decide +kernel), List.mem_of_getElem? (i := 1116) (by decide +kernel)⟩
theorem lw_p41 : lw_okq (⟨"RatePlannerModel", "findsTypes", "()V"⟩, 24) := ⟨⟨by decide +kernel, by decide +kernel⟩, List.mem_of_getElem? (i := 976) (by decide +kernel), List.mem_of_getElem? (i := 1123) (by decide +kernel), List.mem_of_getElem? (i := 1124) (by decide +kernel)⟩
theorem lw_p42 : lw_okq (⟨"RatePlannerModel", "findsIntra", "()V"⟩, 24) := ⟨⟨by decide +kernel, by decide +kernel⟩, List.mem_of_getElem? (i := 976) (by decide +kernel), List.mem_of_getElem? (i := 1127) (by decide +kernel), List.mem_of_getElem? (i := 1128) (by decide +kernel)⟩
theorem lw_p43 : lw_okq (⟨"RatePlannerModel", "groupSize", "(I)I"⟩, 24) := ⟨⟨by decide +kernel, by decide +kernel⟩, List.mem_of_getElem? (i := 976) (by decide +kernel), List.mem_of_getElem? (i := 1131) (by decide +kernel), List.mem_of_getElem? (i := 1132) (by decide +kernel)⟩
theorem lw_p44 : lw_okq (⟨"RatePlannerModel", "work", "(I)I"⟩, 24) := ⟨⟨by decide +kernel, by decide +kernel⟩, List.mem_of_getElem? (i := 976) (by decide +kernel), List.mem_of_getElem? (i := 1135) (by decide +kernel), List.mem_of_getElem? (i := 1136) (by decide +kernel)⟩
theorem lw_p45 : lw_okq (⟨"RatePlannerModel", "sets", "(II)I"⟩, 24) := ⟨⟨by decide +kernel, by decide +kernel⟩, List.mem_of_getElem? (i := 976) (by decide +kernel), List.mem_of_getElem? (i := 1147) (by decide +kernel), List.mem_of_getElem? (i := 1148) (by decide +kernel)⟩
theorem lw_p46 : lw_okq (⟨"RatePlannerModel", "bits", "(II)I"⟩, 24) := ⟨⟨by decide +kernel, by decide +kernel⟩, List.mem_of_getElem? (i := 976) (by decide +kernel), List.mem_of_getElem? (i := 1185) (by decide +kernel), List.mem_of_getElem? (i := 1186) (by decide +kernel)⟩
theorem lw_p47 : lw_okq (⟨"RatePlannerModel", "loss", "(II)I"⟩, 24) := ⟨⟨by decide +kernel, by decide +kernel⟩, List.mem_of_getElem? (i := 976) (by decide +kernel), List.mem_of_getElem? (i := 1196) (by decide +kernel), List.mem_of_getElem? (i := 1197) (by decide +kernel)⟩
def lw_privs_3 : List (MethodName × Nat) := [(⟨"RatePlannerModel", "forgets", "()V"⟩, 24), (⟨"RatePlannerModel", "isFrame", "(I)Z"⟩, 24), (⟨"RatePlannerModel", "isCut", "(I)Z"⟩, 24), (⟨"RatePlannerModel", "readsAll", "()V"⟩, 24), (⟨"RatePlannerModel", "skips", "()V"⟩, 24), (⟨"RatePlannerModel", "byteAt", "(I)I"⟩, 24), (⟨"RatePlannerModel", "readsRun", "()V"⟩, 24), (⟨"RatePlannerModel", "fails", "(I)V"⟩, 24), (⟨"RatePlannerModel", "reads1", "(II)I"⟩, 24), (⟨"RatePlannerModel", "findsTypes", "()V"⟩, 24), (⟨"RatePlannerModel", "findsIntra", "()V"⟩, 24), (⟨"RatePlannerModel", "groupSize", "(I)I"⟩, 24), (⟨"RatePlannerModel", "work", "(I)I"⟩, 24), (⟨"RatePlannerModel", "sets", "(II)I"⟩, 24), (⟨"RatePlannerModel", "bits", "(II)I"⟩, 24), (⟨"RatePlannerModel", "loss", "(II)I"⟩, 24)]
theorem lw_r3 : ∀ q ∈ lw_privs_3, lw_okq q := List.forall_mem_cons.mpr ⟨lw_p32, List.forall_mem_cons.mpr ⟨lw_p33, List.forall_mem_cons.mpr ⟨lw_p34, List.forall_mem_cons.mpr ⟨lw_p35, List.forall_mem_cons.mpr ⟨lw_p36, List.forall_mem_cons.mpr ⟨lw_p37, List.forall_mem_cons.mpr ⟨lw_p38, List.forall_mem_cons.mpr ⟨lw_p39, List.forall_mem_cons.mpr ⟨lw_p40, List.forall_mem_cons.mpr ⟨lw_p41, List.forall_mem_cons.mpr ⟨lw_p42, List.forall_mem_cons.mpr ⟨lw_p43, List.forall_mem_cons.mpr ⟨lw_p44, List.forall_mem_cons.mpr ⟨lw_p45, List.forall_mem_cons.mpr ⟨lw_p46, List.forall_mem_cons.mpr ⟨lw_p47, fun _ h => absurd h List.not_mem_nil⟩⟩⟩⟩⟩⟩⟩⟩⟩⟩⟩⟩⟩⟩⟩⟩
theorem lw_p48 : lw_okq (⟨"RatePlannerModel", "weight", "(I)I"⟩, 24) := ⟨⟨by decide +kernel, by decide +kernel⟩, List.mem_of_getElem? (i := 976) (by decide +kernel), List.mem_of_getElem? (i := 1200) (by decide +kernel), List.mem_of_getElem? (i := 1201) (by decide +kernel)⟩
theorem lw_p49 : lw_okq (⟨"RatePlannerModel", "plansConstant", "(I)V"⟩, 24) := ⟨⟨by decide +kernel, by decide +kernel⟩, List.mem_of_getElem? (i := 976) (by decide +kernel), List.mem_of_getElem? (i := 1208) (by decide +kernel), List.mem_of_getElem? (i := 1209) (by decide +kernel)⟩
theorem lw_p50 : lw_okq (⟨"RatePlannerModel", "settled", "(II)I"⟩, 24) := ⟨⟨by decide +kernel, by decide +kernel⟩, List.mem_of_getElem? (i := 976) (by decide +kernel), List.mem_of_getElem? (i := 1215) (by decide +kernel), List.mem_of_getElem? (i := 1216) (by decide +kernel)⟩
theorem lw_p51 : lw_okq (⟨"RatePlannerModel", "underflowsNow", "()I"⟩, 24) := ⟨⟨by decide +kernel, by decide +kernel⟩, List.mem_of_getElem? (i := 976) (by decide +kernel), List.mem_of_getElem? (i := 1222) (by decide +kernel), List.mem_of_getElem? (i := 1223) (by decide +kernel)⟩
theorem lw_p52 : lw_okq (⟨"RatePlannerModel", "runsAsSet", "()V"⟩, 24) := ⟨⟨by decide +kernel, by decide +kernel⟩, List.mem_of_getElem? (i := 976) (by decide +kernel), List.mem_of_getElem? (i := 1226) (by decide +kernel), List.mem_of_getElem? (i := 1227) (by decide +kernel)⟩
theorem lw_p53 : lw_okq (⟨"RatePlannerModel", "runs", "(III)V"⟩, 24) := ⟨⟨by decide +kernel, by decide +kernel⟩, List.mem_of_getElem? (i := 976) (by decide +kernel), List.mem_of_getElem? (i := 1230) (by decide +kernel), List.mem_of_getElem? (i := 1231) (by decide +kernel)⟩
theorem lw_p54 : lw_okq (⟨"RatePlannerModel", "passes", "(IIII)V"⟩, 24) := ⟨⟨by decide +kernel, by decide +kernel⟩, List.mem_of_getElem? (i := 976) (by decide +kernel), List.mem_of_getElem? (i := 1234) (by decide +kernel), List.mem_of_getElem? (i := 1235) (by decide +kernel)⟩
theorem lw_p55 : lw_okq (⟨"RatePlannerModel", "share", "(I)I"⟩, 24) := ⟨⟨by decide +kernel, by decide +kernel⟩, List.mem_of_getElem? (i := 976) (by decide +kernel), List.mem_of_getElem? (i := 1247) (by decide +kernel), List.mem_of_getElem? (i := 1248) (by decide +kernel)⟩
theorem lw_p56 : lw_okq (⟨"RatePlannerModel", "leastWithin", "(IJ)I"⟩, 24) := ⟨⟨by decide +kernel, by decide +kernel⟩, List.mem_of_getElem? (i := 976) (by decide +kernel), List.mem_of_getElem? (i := 1255) (by decide +kernel), List.mem_of_getElem? (i := 1256) (by decide +kernel)⟩
theorem lw_p57 : lw_okq (⟨"RatePlannerModel", "firstUnderflow", "()I"⟩, 24) := ⟨⟨by decide +kernel, by decide +kernel⟩, List.mem_of_getElem? (i := 976) (by decide +kernel), List.mem_of_getElem? (i := 1267) (by decide +kernel), List.mem_of_getElem? (i := 1268) (by decide +kernel)⟩
theorem lw_p58 : lw_okq (⟨"RatePlannerModel", "cheapest", "(II)I"⟩, 24) := ⟨⟨by decide +kernel, by decide +kernel⟩, List.mem_of_getElem? (i := 976) (by decide +kernel), List.mem_of_getElem? (i := 1271) (by decide +kernel), List.mem_of_getElem? (i := 1272) (by decide +kernel)⟩
theorem lw_p59 : lw_okq (⟨"RatePlannerModel", "nextQuantizer", "(I)I"⟩, 24) := ⟨⟨by decide +kernel, by decide +kernel⟩, List.mem_of_getElem? (i := 976) (by decide +kernel), List.mem_of_getElem? (i := 1275) (by decide +kernel), List.mem_of_getElem? (i := 1276) (by decide +kernel)⟩
theorem lw_p60 : lw_okq (⟨"RatePlannerModel", "costOf", "(II)J"⟩, 24) := ⟨⟨by decide +kernel, by decide +kernel⟩, List.mem_of_getElem? (i := 976) (by decide +kernel), List.mem_of_getElem? (i := 1279) (by decide +kernel), List.mem_of_getElem? (i := 1280) (by decide +kernel)⟩
theorem lw_p61 : lw_okq (⟨"RatePlannerModel", "gainOf", "(IJI)J"⟩, 24) := ⟨⟨by decide +kernel, by decide +kernel⟩, List.mem_of_getElem? (i := 976) (by decide +kernel), List.mem_of_getElem? (i := 1289) (by decide +kernel), List.mem_of_getElem? (i := 1290) (by decide +kernel)⟩
theorem lw_p62 : lw_okq (⟨"RatePlannerModel", "allBits", "()J"⟩, 24) := ⟨⟨by decide +kernel, by decide +kernel⟩, List.mem_of_getElem? (i := 976) (by decide +kernel), List.mem_of_getElem? (i := 1293) (by decide +kernel), List.mem_of_getElem? (i := 1294) (by decide +kernel)⟩
theorem lw_p63 : lw_okq (⟨"RatePlannerModel", "part", "(II)I"⟩, 24) := ⟨⟨by decide +kernel, by decide +kernel⟩, List.mem_of_getElem? (i := 976) (by decide +kernel), List.mem_of_getElem? (i := 1306) (by decide +kernel), List.mem_of_getElem? (i := 1307) (by decide +kernel)⟩
def lw_privs_4 : List (MethodName × Nat) := [(⟨"RatePlannerModel", "weight", "(I)I"⟩, 24), (⟨"RatePlannerModel", "plansConstant", "(I)V"⟩, 24), (⟨"RatePlannerModel", "settled", "(II)I"⟩, 24), (⟨"RatePlannerModel", "underflowsNow", "()I"⟩, 24), (⟨"RatePlannerModel", "runsAsSet", "()V"⟩, 24), (⟨"RatePlannerModel", "runs", "(III)V"⟩, 24), (⟨"RatePlannerModel", "passes", "(IIII)V"⟩, 24), (⟨"RatePlannerModel", "share", "(I)I"⟩, 24), (⟨"RatePlannerModel", "leastWithin", "(IJ)I"⟩, 24), (⟨"RatePlannerModel", "firstUnderflow", "()I"⟩, 24), (⟨"RatePlannerModel", "cheapest", "(II)I"⟩, 24), (⟨"RatePlannerModel", "nextQuantizer", "(I)I"⟩, 24), (⟨"RatePlannerModel", "costOf", "(II)J"⟩, 24), (⟨"RatePlannerModel", "gainOf", "(IJI)J"⟩, 24), (⟨"RatePlannerModel", "allBits", "()J"⟩, 24), (⟨"RatePlannerModel", "part", "(II)I"⟩, 24)]
theorem lw_r4 : ∀ q ∈ lw_privs_4, lw_okq q := List.forall_mem_cons.mpr ⟨lw_p48, List.forall_mem_cons.mpr ⟨lw_p49, List.forall_mem_cons.mpr ⟨lw_p50, List.forall_mem_cons.mpr ⟨lw_p51, List.forall_mem_cons.mpr ⟨lw_p52, List.forall_mem_cons.mpr ⟨lw_p53, List.forall_mem_cons.mpr ⟨lw_p54, List.forall_mem_cons.mpr ⟨lw_p55, List.forall_mem_cons.mpr ⟨lw_p56, List.forall_mem_cons.mpr ⟨lw_p57, List.forall_mem_cons.mpr ⟨lw_p58, List.forall_mem_cons.mpr ⟨lw_p59, List.forall_mem_cons.mpr ⟨lw_p60, List.forall_mem_cons.mpr ⟨lw_p61, List.forall_mem_cons.mpr ⟨lw_p62, List.forall_mem_cons.mpr ⟨lw_p63, fun _ h => absurd h List.not_mem_nil⟩⟩⟩⟩⟩⟩⟩⟩⟩⟩⟩⟩⟩⟩⟩⟩
theorem lw_p64 : lw_okq (⟨"RatePlannerModel", "sumOf", "(I)J"⟩, 24) := ⟨⟨by decide +kernel, by decide +kernel⟩, List.mem_of_getElem? (i := 976) (by decide +kernel), List.mem_of_getElem? (i := 1316) (by decide +kernel), List.mem_of_getElem? (i := 1317) (by decide +kernel)⟩
theorem lw_p65 : lw_okq (⟨"RatePlannerModel", "change", "(I)I"⟩, 24) := ⟨⟨by decide +kernel, by decide +kernel⟩, List.mem_of_getElem? (i := 976) (by decide +kernel), List.mem_of_getElem? (i := 1320) (by decide +kernel), List.mem_of_getElem? (i := 1321) (by decide +kernel)⟩
theorem lw_p66 : lw_okq (⟨"RatePlannerModel", "isDry", "(III)Z"⟩, 24) := ⟨⟨by decide +kernel, by decide +kernel⟩, List.mem_of_getElem? (i := 976) (by decide +kernel), List.mem_of_getElem? (i := 1332) (by decide +kernel), List.mem_of_getElem? (i := 1333) (by decide +kernel)⟩
theorem lw_p67 : lw_okq (⟨"RatePlannerModel", "counted", "(I)I"⟩, 24) := ⟨⟨by decide +kernel, by decide +kernel⟩, List.mem_of_getElem? (i := 976) (by decide +kernel), List.mem_of_getElem? (i := 1364) (by decide +kernel), List.mem_of_getElem? (i := 1365) (by decide +kernel)⟩
theorem lw_p68 : lw_okq (⟨"RatePlannerModel", "mixes", "(J)V"⟩, 24) := ⟨⟨by decide +kernel, by decide +kernel⟩, List.mem_of_getElem? (i := 976) (by decide +kernel), List.mem_of_getElem? (i := 1374) (by decide +kernel), List.mem_of_getElem? (i := 1375) (by decide +kernel)⟩
def lw_privs_5 : List (MethodName × Nat) := [(⟨"RatePlannerModel", "sumOf", "(I)J"⟩, 24), (⟨"RatePlannerModel", "change", "(I)I"⟩, 24), (⟨"RatePlannerModel", "isDry", "(III)Z"⟩, 24), (⟨"RatePlannerModel", "counted", "(I)I"⟩, 24), (⟨"RatePlannerModel", "mixes", "(J)V"⟩, 24)]
theorem lw_r5 : ∀ q ∈ lw_privs_5, lw_okq q := List.forall_mem_cons.mpr ⟨lw_p64, List.forall_mem_cons.mpr ⟨lw_p65, List.forall_mem_cons.mpr ⟨lw_p66, List.forall_mem_cons.mpr ⟨lw_p67, List.forall_mem_cons.mpr ⟨lw_p68, fun _ h => absurd h List.not_mem_nil⟩⟩⟩⟩⟩
def lw_privs : List (MethodName × Nat) := lw_privs_1 ++ (lw_privs_2 ++ (lw_privs_3 ++ (lw_privs_4 ++ (lw_privs_5))))
def lw_tbl : List Cond := k2_sels lw_privs ++ tables_1
theorem lw_privs_ok : ∀ q ∈ lw_privs, lw_okq q := by
  show ∀ q ∈ lw_privs_1 ++ (lw_privs_2 ++ (lw_privs_3 ++ (lw_privs_4 ++ (lw_privs_5)))), lw_okq q
  exact List.forall_mem_append.mpr ⟨lw_r1, List.forall_mem_append.mpr ⟨lw_r2, List.forall_mem_append.mpr ⟨lw_r3, List.forall_mem_append.mpr ⟨lw_r4, lw_r5⟩⟩⟩⟩
def RX0 : String := "RatePlanner$Clip"
def TX0 : u_T := fun k => match k with
  | 0 => ("RatePlanner$Clip", "length", "I", false)
  | 1 => ("RatePlanner$Clip", "textures", "[I", true)
  | _ => ("RatePlanner$Clip", "motions", "[I", true)
abbrev cX0_init : ByteArray := prog_2_method_1_code
def yX0_init : MethodName := ⟨RX0, "<init>", "()V"⟩
abbrev cX0_add : ByteArray := prog_2_method_2_code
def yX0_add : MethodName := ⟨RX0, "add", "(II)V"⟩
abbrev cX0_isCut : ByteArray := prog_2_method_3_code
def yX0_isCut : MethodName := ⟨RX0, "isCut", "(I)Z"⟩
abbrev cX0_copyFrom : ByteArray := prog_2_method_4_code
def yX0_copyFrom : MethodName := ⟨RX0, "copyFrom", "(LRatePlanner$Clip;)V"⟩
def RX1 : String := "RatePlanner$Course"
def TX1 : u_T := fun k => match k with
  | 0 => ("RatePlanner$Course", "underflows", "I", false)
  | 1 => ("RatePlanner$Course", "bits", "[I", true)
  | 2 => ("RatePlanner$Course", "befores", "[I", true)
  | 3 => ("RatePlanner$Course", "afters", "[I", true)
  | 4 => ("RatePlanner$Course", "lacks", "[I", true)
  | 5 => ("RatePlanner$Course", "surpluses", "[I", true)
  | 6 => ("RatePlanner$Course", "model", "LRatePlanner$Model;", true)
  | 7 => ("RatePlanner$Course", "size", "I", false)
  | 8 => ("RatePlanner$Course", "rate", "I", false)
  | _ => ("RatePlanner$Course", "content", "I", false)
abbrev cX1_init : ByteArray := prog_3_method_1_code
def yX1_init : MethodName := ⟨RX1, "<init>", "(LRatePlanner$Model;)V"⟩
abbrev cX1_follow : ByteArray := prog_3_method_2_code
def yX1_follow : MethodName := ⟨RX1, "follow", "([I)V"⟩
abbrev cX1_takeBits : ByteArray := prog_3_method_3_code
def yX1_takeBits : MethodName := ⟨RX1, "takeBits", "([I)V"⟩
abbrev cX1_passAsSet : ByteArray := prog_3_method_4_code
def yX1_passAsSet : MethodName := ⟨RX1, "passAsSet", "()V"⟩
abbrev cX1_pass : ByteArray := prog_3_method_5_code
def yX1_pass : MethodName := ⟨RX1, "pass", "(III)V"⟩
abbrev cX1_begin : ByteArray := prog_3_method_6_code
def yX1_begin : MethodName := ⟨RX1, "begin", "(III)V"⟩
abbrev cX1_fillBefore : ByteArray := prog_3_method_7_code
def yX1_fillBefore : MethodName := ⟨RX1, "fillBefore", "(I)I"⟩
abbrev cX1_takeOut : ByteArray := prog_3_method_8_code
def yX1_takeOut : MethodName := ⟨RX1, "takeOut", "(II)V"⟩
abbrev cX1_firstUnderflow : ByteArray := prog_3_method_9_code
def yX1_firstUnderflow : MethodName := ⟨RX1, "firstUnderflow", "()I"⟩
abbrev cX1_lastFullNotBehind : ByteArray := prog_3_method_10_code
def yX1_lastFullNotBehind : MethodName := ⟨RX1, "lastFullNotBehind", "(I)I"⟩
abbrev cX1_sumOfBits : ByteArray := prog_3_method_11_code
def yX1_sumOfBits : MethodName := ⟨RX1, "sumOfBits", "()I"⟩
def RX2 : String := "RatePlanner$Finder"
def TX2 : u_T := fun k => match k with
  | 0 => ("RatePlanner$Finder", "settings", "LRatePlanner$Settings;", true)
  | 1 => ("RatePlanner$Finder", "layout", "LRatePlanner$Layout;", true)
  | 2 => ("RatePlanner$Finder", "course", "LRatePlanner$Course;", true)
  | 3 => ("RatePlanner$Finder", "maker", "LRatePlanner$Maker;", true)
  | _ => ("RatePlanner$Finder", "trial", "[I", true)
abbrev cX2_init : ByteArray := prog_4_method_1_code
def yX2_init : MethodName := ⟨RX2, "<init>", "(LRatePlanner$Model;LRatePlanner$Course;LRatePlanner$Maker;)V"⟩
abbrev cX2_findSize : ByteArray := prog_4_method_2_code
def yX2_findSize : MethodName := ⟨RX2, "findSize", "([I)I"⟩
abbrev cX2_findStart : ByteArray := prog_4_method_3_code
def yX2_findStart : MethodName := ⟨RX2, "findStart", "([I)I"⟩
abbrev cX2_findRate : ByteArray := prog_4_method_4_code
def yX2_findRate : MethodName := ⟨RX2, "findRate", "([I)I"⟩
abbrev cX2_findLeast : ByteArray := prog_4_method_5_code
def yX2_findLeast : MethodName := ⟨RX2, "findLeast", "([IIII)I"⟩
abbrev cX2_suffices : ByteArray := prog_4_method_6_code
def yX2_suffices : MethodName := ⟨RX2, "suffices", "(II)Z"⟩
abbrev cX2_findConstant : ByteArray := prog_4_method_7_code
def yX2_findConstant : MethodName := ⟨RX2, "findConstant", "()I"⟩
abbrev cX2_findDemand : ByteArray := prog_4_method_8_code
def yX2_findDemand : MethodName := ⟨RX2, "findDemand", "([III)I"⟩
def RX3 : String := "RatePlanner$Layout"
def TX3 : u_T := fun k => match k with
  | 0 => ("RatePlanner$Layout", "length", "I", false)
  | 1 => ("RatePlanner$Layout", "scenes", "I", false)
  | 2 => ("RatePlanner$Layout", "groups", "I", false)
  | 3 => ("RatePlanner$Layout", "types", "[I", true)
  | 4 => ("RatePlanner$Layout", "sceneNumbers", "[I", true)
  | 5 => ("RatePlanner$Layout", "groupFirsts", "[I", true)
  | 6 => ("RatePlanner$Layout", "groupLengths", "[I", true)
  | 7 => ("RatePlanner$Layout", "works", "[I", true)
  | 8 => ("RatePlanner$Layout", "places", "[I", true)
  | _ => ("RatePlanner$Layout", "order", "[I", true)
abbrev cX3_init : ByteArray := prog_5_method_1_code
def yX3_init : MethodName := ⟨RX3, "<init>", "()V"⟩
abbrev cX3_arrange : ByteArray := prog_5_method_2_code
def yX3_arrange : MethodName := ⟨RX3, "arrange", "(LRatePlanner$Clip;LRatePlanner$Settings;)V"⟩
abbrev cX3_findStarts : ByteArray := prog_5_method_3_code
def yX3_findStarts : MethodName := ⟨RX3, "findStarts", "(LRatePlanner$Clip;I)V"⟩
abbrev cX3_measureGroups : ByteArray := prog_5_method_4_code
def yX3_measureGroups : MethodName := ⟨RX3, "measureGroups", "()V"⟩
abbrev cX3_chooseTypes : ByteArray := prog_5_method_5_code
def yX3_chooseTypes : MethodName := ⟨RX3, "chooseTypes", "(I)V"⟩
abbrev cX3_isMultiple : ByteArray := prog_5_method_6_code
def yX3_isMultiple : MethodName := ⟨RX3, "isMultiple", "(II)Z"⟩
abbrev cX3_putInOrder : ByteArray := prog_5_method_7_code
def yX3_putInOrder : MethodName := ⟨RX3, "putInOrder", "()V"⟩
abbrev cX3_putAt : ByteArray := prog_5_method_8_code
def yX3_putAt : MethodName := ⟨RX3, "putAt", "(II)V"⟩
abbrev cX3_weighWorks : ByteArray := prog_5_method_9_code
def yX3_weighWorks : MethodName := ⟨RX3, "weighWorks", "(LRatePlanner$Clip;)V"⟩
abbrev cX3_workOf : ByteArray := prog_5_method_10_code
def yX3_workOf : MethodName := ⟨RX3, "workOf", "(III)I"⟩
abbrev cX3_firstOfScene : ByteArray := prog_5_method_11_code
def yX3_firstOfScene : MethodName := ⟨RX3, "firstOfScene", "(I)I"⟩
abbrev cX3_framesOfScene : ByteArray := prog_5_method_12_code
def yX3_framesOfScene : MethodName := ⟨RX3, "framesOfScene", "(I)I"⟩
abbrev cX3_groupsOfScene : ByteArray := prog_5_method_13_code
def yX3_groupsOfScene : MethodName := ⟨RX3, "groupsOfScene", "(I)I"⟩
def RX4 : String := "RatePlanner$Maker"
def TX4 : u_T := fun k => match k with
  | 0 => ("RatePlanner$Maker", "model", "LRatePlanner$Model;", true)
  | 1 => ("RatePlanner$Maker", "settings", "LRatePlanner$Settings;", true)
  | 2 => ("RatePlanner$Maker", "layout", "LRatePlanner$Layout;", true)
  | 3 => ("RatePlanner$Maker", "course", "LRatePlanner$Course;", true)
  | _ => ("RatePlanner$Maker", "shares", "[I", true)
abbrev cX4_init : ByteArray := prog_6_method_1_code
def yX4_init : MethodName := ⟨RX4, "<init>", "(LRatePlanner$Model;LRatePlanner$Course;)V"⟩
abbrev cX4_planConstant : ByteArray := prog_6_method_2_code
def yX4_planConstant : MethodName := ⟨RX4, "planConstant", "([II)V"⟩
abbrev cX4_planControlled : ByteArray := prog_6_method_3_code
def yX4_planControlled : MethodName := ⟨RX4, "planControlled", "([III)V"⟩
abbrev cX4_offsetOf : ByteArray := prog_6_method_4_code
def yX4_offsetOf : MethodName := ⟨RX4, "offsetOf", "(I)I"⟩
abbrev cX4_planDistributed : ByteArray := prog_6_method_5_code
def yX4_planDistributed : MethodName := ⟨RX4, "planDistributed", "([II)V"⟩
abbrev cX4_weighShares : ByteArray := prog_6_method_6_code
def yX4_weighShares : MethodName := ⟨RX4, "weighShares", "()J"⟩
abbrev cX4_leastWithin : ByteArray := prog_6_method_7_code
def yX4_leastWithin : MethodName := ⟨RX4, "leastWithin", "(IJ)I"⟩
abbrev cX4_rootOf : ByteArray := prog_6_method_8_code
def yX4_rootOf : MethodName := ⟨RX4, "rootOf", "(I)I"⟩
def RX5 : String := "RatePlanner$Mender"
def TX5 : u_T := fun k => match k with
  | 0 => ("RatePlanner$Mender", "model", "LRatePlanner$Model;", true)
  | 1 => ("RatePlanner$Mender", "settings", "LRatePlanner$Settings;", true)
  | 2 => ("RatePlanner$Mender", "layout", "LRatePlanner$Layout;", true)
  | 3 => ("RatePlanner$Mender", "course", "LRatePlanner$Course;", true)
  | 4 => ("RatePlanner$Mender", "trial", "[I", true)
  | 5 => ("RatePlanner$Mender", "nexts", "[I", true)
  | 6 => ("RatePlanner$Mender", "costs", "[J", true)
  | _ => ("RatePlanner$Mender", "gains", "[J", true)
abbrev cX5_init : ByteArray := prog_7_method_1_code
def yX5_init : MethodName := ⟨RX5, "<init>", "(LRatePlanner$Model;LRatePlanner$Course;)V"⟩
abbrev cX5_smoothen : ByteArray := prog_7_method_2_code
def yX5_smoothen : MethodName := ⟨RX5, "smoothen", "([II)I"⟩
abbrev cX5_mend : ByteArray := prog_7_method_3_code
def yX5_mend : MethodName := ⟨RX5, "mend", "([I)I"⟩
abbrev cX5_cheapestRaise : ByteArray := prog_7_method_4_code
def yX5_cheapestRaise : MethodName := ⟨RX5, "cheapestRaise", "(II)I"⟩
abbrev cX5_raise : ByteArray := prog_7_method_5_code
def yX5_raise : MethodName := ⟨RX5, "raise", "(I)V"⟩
abbrev cX5_weighRaise : ByteArray := prog_7_method_6_code
def yX5_weighRaise : MethodName := ⟨RX5, "weighRaise", "(I)V"⟩
abbrev cX5_nextOf : ByteArray := prog_7_method_7_code
def yX5_nextOf : MethodName := ⟨RX5, "nextOf", "(II)I"⟩
abbrev cX5_loosen : ByteArray := prog_7_method_8_code
def yX5_loosen : MethodName := ⟨RX5, "loosen", "([II)I"⟩
abbrev cX5_greatestGain : ByteArray := prog_7_method_9_code
def yX5_greatestGain : MethodName := ⟨RX5, "greatestGain", "()I"⟩
abbrev cX5_canLower : ByteArray := prog_7_method_10_code
def yX5_canLower : MethodName := ⟨RX5, "canLower", "([IIII)Z"⟩
abbrev cX5_lower : ByteArray := prog_7_method_11_code
def yX5_lower : MethodName := ⟨RX5, "lower", "([II)V"⟩
abbrev cX5_weighLowering : ByteArray := prog_7_method_12_code
def yX5_weighLowering : MethodName := ⟨RX5, "weighLowering", "([II)V"⟩
def RX6 : String := "RatePlanner$Model"
def TX6 : u_T := fun k => match k with
  | 0 => ("RatePlanner$Model", "layout", "LRatePlanner$Layout;", true)
  | 1 => ("RatePlanner$Model", "settings", "LRatePlanner$Settings;", true)
  | _ => ("RatePlanner$Model", "steps", "[I", true)
abbrev cX6_init : ByteArray := prog_8_method_1_code
def yX6_init : MethodName := ⟨RX6, "<init>", "(LRatePlanner$Layout;LRatePlanner$Settings;)V"⟩
abbrev cX6_bitsOf : ByteArray := prog_8_method_2_code
def yX6_bitsOf : MethodName := ⟨RX6, "bitsOf", "(II)I"⟩
abbrev cX6_lossOf : ByteArray := prog_8_method_3_code
def yX6_lossOf : MethodName := ⟨RX6, "lossOf", "(II)I"⟩
abbrev cX6_weightOf : ByteArray := prog_8_method_4_code
def yX6_weightOf : MethodName := ⟨RX6, "weightOf", "(I)I"⟩
def RX7 : String := "RatePlanner$Plan"
def TX7 : u_T := fun k => match k with
  | 0 => ("RatePlanner$Plan", "made", "Z", false)
  | _ => ("RatePlanner$Plan", "quantizers", "[I", true)
abbrev cX7_init : ByteArray := prog_9_method_1_code
def yX7_init : MethodName := ⟨RX7, "<init>", "()V"⟩
abbrev cX7_copyFrom : ByteArray := prog_9_method_2_code
def yX7_copyFrom : MethodName := ⟨RX7, "copyFrom", "(LRatePlanner$Plan;)V"⟩
def RX8 : String := "RatePlanner$Settings"
def TX8 : u_T := fun k => match k with
  | 0 => ("RatePlanner$Settings", "interval", "I", false)
  | 1 => ("RatePlanner$Settings", "bridges", "I", false)
  | 2 => ("RatePlanner$Settings", "least", "I", false)
  | 3 => ("RatePlanner$Settings", "greatest", "I", false)
  | 4 => ("RatePlanner$Settings", "size", "I", false)
  | 5 => ("RatePlanner$Settings", "start", "I", false)
  | 6 => ("RatePlanner$Settings", "rate", "I", false)
  | 7 => ("RatePlanner$Settings", "zones", "I", false)
  | 8 => ("RatePlanner$Settings", "weights", "[I", true)
  | 9 => ("RatePlanner$Settings", "zoneFirsts", "[I", true)
  | 10 => ("RatePlanner$Settings", "zoneLasts", "[I", true)
  | _ => ("RatePlanner$Settings", "zoneOffsets", "[I", true)
abbrev cX8_init : ByteArray := prog_10_method_1_code
def yX8_init : MethodName := ⟨RX8, "<init>", "()V"⟩
abbrev cX8_putZone : ByteArray := prog_10_method_2_code
def yX8_putZone : MethodName := ⟨RX8, "putZone", "(III)V"⟩
abbrev cX8_settle : ByteArray := prog_10_method_3_code
def yX8_settle : MethodName := ⟨RX8, "settle", "(II)I"⟩
abbrev cX8_copyFrom : ByteArray := prog_10_method_4_code
def yX8_copyFrom : MethodName := ⟨RX8, "copyFrom", "(LRatePlanner$Settings;)V"⟩
def RX9 : String := "RatePlanner$Slot"
def TX9 : u_T := fun k => match k with
  | 0 => ("RatePlanner$Slot", "used", "Z", false)
  | 1 => ("RatePlanner$Slot", "clip", "LRatePlanner$Clip;", true)
  | 2 => ("RatePlanner$Slot", "settings", "LRatePlanner$Settings;", true)
  | _ => ("RatePlanner$Slot", "plan", "LRatePlanner$Plan;", true)
abbrev cX9_init : ByteArray := prog_11_method_1_code
def yX9_init : MethodName := ⟨RX9, "<init>", "()V"⟩
def RX10 : String := "RatePlanner$Text"
def TX10 : u_T := fun k => match k with
  | 0 => ("RatePlanner$Text", "length", "I", false)
  | 1 => ("RatePlanner$Text", "read", "LRatePlanner$Clip;", true)
  | 2 => ("RatePlanner$Text", "letters", "[I", true)
  | 3 => ("RatePlanner$Text", "index", "I", false)
  | 4 => ("RatePlanner$Text", "number", "I", false)
  | _ => ("RatePlanner$Text", "fault", "I", false)
abbrev cX10_init : ByteArray := prog_12_method_1_code
def yX10_init : MethodName := ⟨RX10, "<init>", "()V"⟩
abbrev cX10_add : ByteArray := prog_12_method_2_code
def yX10_add : MethodName := ⟨RX10, "add", "(I)V"⟩
abbrev cX10_letterAt : ByteArray := prog_12_method_3_code
def yX10_letterAt : MethodName := ⟨RX10, "letterAt", "(I)I"⟩
abbrev cX10_readClip : ByteArray := prog_12_method_4_code
def yX10_readClip : MethodName := ⟨RX10, "readClip", "()I"⟩
abbrev cX10_readRun : ByteArray := prog_12_method_5_code
def yX10_readRun : MethodName := ⟨RX10, "readRun", "()Z"⟩
abbrev cX10_readSign : ByteArray := prog_12_method_6_code
def yX10_readSign : MethodName := ⟨RX10, "readSign", "(I)Z"⟩
abbrev cX10_readNumber : ByteArray := prog_12_method_7_code
def yX10_readNumber : MethodName := ⟨RX10, "readNumber", "(II)Z"⟩
abbrev cX10_skipBlanks : ByteArray := prog_12_method_8_code
def yX10_skipBlanks : MethodName := ⟨RX10, "skipBlanks", "()V"⟩
def RX11 : String := "RatePlanner"
def TX11 : u_T := fun k => match k with
  | 0 => ("RatePlanner", "clip", "LRatePlanner$Clip;", true)
  | 1 => ("RatePlanner", "settings", "LRatePlanner$Settings;", true)
  | 2 => ("RatePlanner", "plan", "LRatePlanner$Plan;", true)
  | 3 => ("RatePlanner", "text", "LRatePlanner$Text;", true)
  | 4 => ("RatePlanner", "layout", "LRatePlanner$Layout;", true)
  | 5 => ("RatePlanner", "model", "LRatePlanner$Model;", true)
  | 6 => ("RatePlanner", "course", "LRatePlanner$Course;", true)
  | 7 => ("RatePlanner", "maker", "LRatePlanner$Maker;", true)
  | 8 => ("RatePlanner", "mender", "LRatePlanner$Mender;", true)
  | 9 => ("RatePlanner", "finder", "LRatePlanner$Finder;", true)
  | 10 => ("RatePlanner", "firstSlot", "LRatePlanner$Slot;", true)
  | _ => ("RatePlanner", "secondSlot", "LRatePlanner$Slot;", true)
abbrev cX11_init : ByteArray := prog_1_method_1_code
def yX11_init : MethodName := ⟨RX11, "<init>", "()V"⟩
abbrev cX11_append : ByteArray := prog_1_method_2_code
def yX11_append : MethodName := ⟨RX11, "append", "(II)I"⟩
abbrev cX11_set : ByteArray := prog_1_method_3_code
def yX11_set : MethodName := ⟨RX11, "set", "(III)I"⟩
abbrev cX11_drop : ByteArray := prog_1_method_4_code
def yX11_drop : MethodName := ⟨RX11, "drop", "()I"⟩
abbrev cX11_type : ByteArray := prog_1_method_5_code
def yX11_type : MethodName := ⟨RX11, "type", "(I)I"⟩
abbrev cX11_clear : ByteArray := prog_1_method_6_code
def yX11_clear : MethodName := ⟨RX11, "clear", "()I"⟩
abbrev cX11_load : ByteArray := prog_1_method_7_code
def yX11_load : MethodName := ⟨RX11, "load", "()I"⟩
abbrev cX11_frame : ByteArray := prog_1_method_8_code
def yX11_frame : MethodName := ⟨RX11, "frame", "(II)I"⟩
abbrev cX11_coded : ByteArray := prog_1_method_9_code
def yX11_coded : MethodName := ⟨RX11, "coded", "(I)I"⟩
abbrev cX11_setInterval : ByteArray := prog_1_method_10_code
def yX11_setInterval : MethodName := ⟨RX11, "setInterval", "(I)I"⟩
abbrev cX11_setBridges : ByteArray := prog_1_method_11_code
def yX11_setBridges : MethodName := ⟨RX11, "setBridges", "(I)I"⟩
abbrev cX11_setWeight : ByteArray := prog_1_method_12_code
def yX11_setWeight : MethodName := ⟨RX11, "setWeight", "(II)I"⟩
abbrev cX11_setRange : ByteArray := prog_1_method_13_code
def yX11_setRange : MethodName := ⟨RX11, "setRange", "(II)I"⟩
abbrev cX11_setBuffer : ByteArray := prog_1_method_14_code
def yX11_setBuffer : MethodName := ⟨RX11, "setBuffer", "(II)I"⟩
abbrev cX11_setRate : ByteArray := prog_1_method_15_code
def yX11_setRate : MethodName := ⟨RX11, "setRate", "(I)I"⟩
abbrev cX11_addZone : ByteArray := prog_1_method_16_code
def yX11_addZone : MethodName := ⟨RX11, "addZone", "(III)I"⟩
abbrev cX11_clearZones : ByteArray := prog_1_method_17_code
def yX11_clearZones : MethodName := ⟨RX11, "clearZones", "()I"⟩
abbrev cX11_bitsAt : ByteArray := prog_1_method_18_code
def yX11_bitsAt : MethodName := ⟨RX11, "bitsAt", "(II)I"⟩
abbrev cX11_lossAt : ByteArray := prog_1_method_19_code
def yX11_lossAt : MethodName := ⟨RX11, "lossAt", "(II)I"⟩
abbrev cX11_constant : ByteArray := prog_1_method_20_code
def yX11_constant : MethodName := ⟨RX11, "constant", "(I)I"⟩
abbrev cX11_control : ByteArray := prog_1_method_21_code
def yX11_control : MethodName := ⟨RX11, "control", "(II)I"⟩
abbrev cX11_distribute : ByteArray := prog_1_method_22_code
def yX11_distribute : MethodName := ⟨RX11, "distribute", "(I)I"⟩
abbrev cX11_smooth : ByteArray := prog_1_method_23_code
def yX11_smooth : MethodName := ⟨RX11, "smooth", "(I)I"⟩
abbrev cX11_repair : ByteArray := prog_1_method_24_code
def yX11_repair : MethodName := ⟨RX11, "repair", "()I"⟩
abbrev cX11_relax : ByteArray := prog_1_method_25_code
def yX11_relax : MethodName := ⟨RX11, "relax", "(I)I"⟩
abbrev cX11_adjust : ByteArray := prog_1_method_26_code
def yX11_adjust : MethodName := ⟨RX11, "adjust", "(II)I"⟩
abbrev cX11_planned : ByteArray := prog_1_method_27_code
def yX11_planned : MethodName := ⟨RX11, "planned", "(II)I"⟩
abbrev cX11_total : ByteArray := prog_1_method_28_code
def yX11_total : MethodName := ⟨RX11, "total", "(I)J"⟩
abbrev cX11_scene : ByteArray := prog_1_method_29_code
def yX11_scene : MethodName := ⟨RX11, "scene", "(II)I"⟩
abbrev cX11_leastSize : ByteArray := prog_1_method_30_code
def yX11_leastSize : MethodName := ⟨RX11, "leastSize", "()I"⟩
abbrev cX11_leastStart : ByteArray := prog_1_method_31_code
def yX11_leastStart : MethodName := ⟨RX11, "leastStart", "()I"⟩
abbrev cX11_leastRate : ByteArray := prog_1_method_32_code
def yX11_leastRate : MethodName := ⟨RX11, "leastRate", "()I"⟩
abbrev cX11_bestConstant : ByteArray := prog_1_method_33_code
def yX11_bestConstant : MethodName := ⟨RX11, "bestConstant", "()I"⟩
abbrev cX11_demand : ByteArray := prog_1_method_34_code
def yX11_demand : MethodName := ⟨RX11, "demand", "(II)I"⟩
abbrev cX11_save : ByteArray := prog_1_method_35_code
def yX11_save : MethodName := ⟨RX11, "save", "(I)I"⟩
abbrev cX11_restore : ByteArray := prog_1_method_36_code
def yX11_restore : MethodName := ⟨RX11, "restore", "(I)I"⟩
abbrev cX11_count : ByteArray := prog_1_method_37_code
def yX11_count : MethodName := ⟨RX11, "count", "(I)I"⟩
abbrev cX11_digest : ByteArray := prog_1_method_38_code
def yX11_digest : MethodName := ⟨RX11, "digest", "()J"⟩
abbrev cX11_hashFrame : ByteArray := prog_1_method_39_code
def yX11_hashFrame : MethodName := ⟨RX11, "hashFrame", "(JI)J"⟩
abbrev cX11_arrangeAnew : ByteArray := prog_1_method_40_code
def yX11_arrangeAnew : MethodName := ⟨RX11, "arrangeAnew", "()V"⟩
abbrev cX11_underflowsOfNewPlan : ByteArray := prog_1_method_41_code
def yX11_underflowsOfNewPlan : MethodName := ⟨RX11, "underflowsOfNewPlan", "()I"⟩
abbrev cX11_followedFrame : ByteArray := prog_1_method_42_code
def yX11_followedFrame : MethodName := ⟨RX11, "followedFrame", "(II)I"⟩
abbrev cX11_followedTotal : ByteArray := prog_1_method_43_code
def yX11_followedTotal : MethodName := ⟨RX11, "followedTotal", "(I)J"⟩
abbrev cX11_changesOfPlan : ByteArray := prog_1_method_44_code
def yX11_changesOfPlan : MethodName := ⟨RX11, "changesOfPlan", "()J"⟩
abbrev cX11_bitsOfScene : ByteArray := prog_1_method_45_code
def yX11_bitsOfScene : MethodName := ⟨RX11, "bitsOfScene", "(I)I"⟩
abbrev cX11_meanOfScene : ByteArray := prog_1_method_46_code
def yX11_meanOfScene : MethodName := ⟨RX11, "meanOfScene", "(I)I"⟩
abbrev cX11_isFrame : ByteArray := prog_1_method_47_code
def yX11_isFrame : MethodName := ⟨RX11, "isFrame", "(I)Z"⟩
abbrev cX11_isPicture : ByteArray := prog_1_method_48_code
def yX11_isPicture : MethodName := ⟨RX11, "isPicture", "(II)Z"⟩
abbrev cX11_isQuantizer : ByteArray := prog_1_method_49_code
def yX11_isQuantizer : MethodName := ⟨RX11, "isQuantizer", "(I)Z"⟩
abbrev cX11_within : ByteArray := prog_1_method_50_code
def yX11_within : MethodName := ⟨RX11, "within", "(III)Z"⟩
abbrev cX11_limit : ByteArray := prog_1_method_51_code
def yX11_limit : MethodName := ⟨RX11, "limit", "(III)I"⟩
abbrev cX11_at : ByteArray := prog_1_method_52_code
def yX11_at : MethodName := ⟨RX11, "at", "([II)I"⟩
abbrev cX11_at_ : ByteArray := prog_1_method_53_code
def yX11_at_ : MethodName := ⟨RX11, "at", "([JI)J"⟩
abbrev cX11_put : ByteArray := prog_1_method_54_code
def yX11_put : MethodName := ⟨RX11, "put", "([III)V"⟩
abbrev cX11_put_ : ByteArray := prog_1_method_55_code
def yX11_put_ : MethodName := ⟨RX11, "put", "([JIJ)V"⟩
abbrev cX11_copyRow : ByteArray := prog_1_method_56_code
def yX11_copyRow : MethodName := ⟨RX11, "copyRow", "([I[I)V"⟩
abbrev cX11_ratio : ByteArray := prog_1_method_57_code
def yX11_ratio : MethodName := ⟨RX11, "ratio", "(JJ)J"⟩
def RX12 : String := "RatePlannerModel"
def TX12 : u_T := fun k => match k with
  | 0 => ("RatePlannerModel", "m", "[I", true)
  | 1 => ("RatePlannerModel", "saved", "[I", true)
  | 2 => ("RatePlannerModel", "isSaved", "[I", true)
  | 3 => ("RatePlannerModel", "type", "[I", true)
  | 4 => ("RatePlannerModel", "sceneOf", "[I", true)
  | 5 => ("RatePlannerModel", "from", "[I", true)
  | 6 => ("RatePlannerModel", "place", "[I", true)
  | 7 => ("RatePlannerModel", "at", "[I", true)
  | 8 => ("RatePlannerModel", "scenes", "I", false)
  | 9 => ("RatePlannerModel", "groups", "I", false)
  | 10 => ("RatePlannerModel", "before", "[I", true)
  | 11 => ("RatePlannerModel", "behind", "[I", true)
  | 12 => ("RatePlannerModel", "lack", "[I", true)
  | 13 => ("RatePlannerModel", "stuffed", "[I", true)
  | 14 => ("RatePlannerModel", "underflows", "I", false)
  | 15 => ("RatePlannerModel", "text", "[I", true)
  | 16 => ("RatePlannerModel", "length", "I", false)
  | 17 => ("RatePlannerModel", "next", "I", false)
  | 18 => ("RatePlannerModel", "fault", "I", false)
  | 19 => ("RatePlannerModel", "readTexture", "[I", true)
  | 20 => ("RatePlannerModel", "readMotion", "[I", true)
  | 21 => ("RatePlannerModel", "reads", "I", false)
  | 22 => ("RatePlannerModel", "old", "[I", true)
  | _ => ("RatePlannerModel", "hash", "J", false)
abbrev cX12_init : ByteArray := prog_14_method_1_code
def yX12_init : MethodName := ⟨RX12, "<init>", "()V"⟩
abbrev cX12_in : ByteArray := prog_14_method_2_code
def yX12_in : MethodName := ⟨RX12, "in", "(III)Z"⟩
abbrev cX12_limited : ByteArray := prog_14_method_3_code
def yX12_limited : MethodName := ⟨RX12, "limited", "(III)I"⟩
abbrev cX12_isFrame : ByteArray := prog_14_method_4_code
def yX12_isFrame : MethodName := ⟨RX12, "isFrame", "(I)Z"⟩
abbrev cX12_isCut : ByteArray := prog_14_method_5_code
def yX12_isCut : MethodName := ⟨RX12, "isCut", "(I)Z"⟩
abbrev cX12_findsIntra : ByteArray := prog_14_method_6_code
def yX12_findsIntra : MethodName := ⟨RX12, "findsIntra", "()V"⟩
abbrev cX12_groupSize : ByteArray := prog_14_method_7_code
def yX12_groupSize : MethodName := ⟨RX12, "groupSize", "(I)I"⟩
abbrev cX12_findsTypes : ByteArray := prog_14_method_8_code
def yX12_findsTypes : MethodName := ⟨RX12, "findsTypes", "()V"⟩
abbrev cX12_step : ByteArray := prog_14_method_9_code
def yX12_step : MethodName := ⟨RX12, "step", "(I)I"⟩
abbrev cX12_work : ByteArray := prog_14_method_10_code
def yX12_work : MethodName := ⟨RX12, "work", "(I)I"⟩
abbrev cX12_bits : ByteArray := prog_14_method_11_code
def yX12_bits : MethodName := ⟨RX12, "bits", "(II)I"⟩
abbrev cX12_weight : ByteArray := prog_14_method_12_code
def yX12_weight : MethodName := ⟨RX12, "weight", "(I)I"⟩
abbrev cX12_loss : ByteArray := prog_14_method_13_code
def yX12_loss : MethodName := ⟨RX12, "loss", "(II)I"⟩
abbrev cX12_settled : ByteArray := prog_14_method_14_code
def yX12_settled : MethodName := ⟨RX12, "settled", "(II)I"⟩
abbrev cX12_passes : ByteArray := prog_14_method_15_code
def yX12_passes : MethodName := ⟨RX12, "passes", "(IIII)V"⟩
abbrev cX12_runs : ByteArray := prog_14_method_16_code
def yX12_runs : MethodName := ⟨RX12, "runs", "(III)V"⟩
abbrev cX12_runsAsSet : ByteArray := prog_14_method_17_code
def yX12_runsAsSet : MethodName := ⟨RX12, "runsAsSet", "()V"⟩
abbrev cX12_underflowsNow : ByteArray := prog_14_method_18_code
def yX12_underflowsNow : MethodName := ⟨RX12, "underflowsNow", "()I"⟩
abbrev cX12_forgets : ByteArray := prog_14_method_19_code
def yX12_forgets : MethodName := ⟨RX12, "forgets", "()V"⟩
abbrev cX12_append : ByteArray := prog_14_method_20_code
def yX12_append : MethodName := ⟨RX12, "append", "(II)I"⟩
abbrev cX12_set : ByteArray := prog_14_method_21_code
def yX12_set : MethodName := ⟨RX12, "set", "(III)I"⟩
abbrev cX12_drop : ByteArray := prog_14_method_22_code
def yX12_drop : MethodName := ⟨RX12, "drop", "()I"⟩
abbrev cX12_type : ByteArray := prog_14_method_23_code
def yX12_type : MethodName := ⟨RX12, "type", "(I)I"⟩
abbrev cX12_clear : ByteArray := prog_14_method_24_code
def yX12_clear : MethodName := ⟨RX12, "clear", "()I"⟩
abbrev cX12_byteAt : ByteArray := prog_14_method_25_code
def yX12_byteAt : MethodName := ⟨RX12, "byteAt", "(I)I"⟩
abbrev cX12_skips : ByteArray := prog_14_method_26_code
def yX12_skips : MethodName := ⟨RX12, "skips", "()V"⟩
abbrev cX12_fails : ByteArray := prog_14_method_27_code
def yX12_fails : MethodName := ⟨RX12, "fails", "(I)V"⟩
abbrev cX12_reads1 : ByteArray := prog_14_method_28_code
def yX12_reads1 : MethodName := ⟨RX12, "reads1", "(II)I"⟩
abbrev cX12_readsRun : ByteArray := prog_14_method_29_code
def yX12_readsRun : MethodName := ⟨RX12, "readsRun", "()V"⟩
abbrev cX12_readsAll : ByteArray := prog_14_method_30_code
def yX12_readsAll : MethodName := ⟨RX12, "readsAll", "()V"⟩
abbrev cX12_load : ByteArray := prog_14_method_31_code
def yX12_load : MethodName := ⟨RX12, "load", "()I"⟩
abbrev cX12_frame : ByteArray := prog_14_method_32_code
def yX12_frame : MethodName := ⟨RX12, "frame", "(II)I"⟩
abbrev cX12_coded : ByteArray := prog_14_method_33_code
def yX12_coded : MethodName := ⟨RX12, "coded", "(I)I"⟩
abbrev cX12_sets : ByteArray := prog_14_method_34_code
def yX12_sets : MethodName := ⟨RX12, "sets", "(II)I"⟩
abbrev cX12_setInterval : ByteArray := prog_14_method_35_code
def yX12_setInterval : MethodName := ⟨RX12, "setInterval", "(I)I"⟩
abbrev cX12_setBridges : ByteArray := prog_14_method_36_code
def yX12_setBridges : MethodName := ⟨RX12, "setBridges", "(I)I"⟩
abbrev cX12_setWeight : ByteArray := prog_14_method_37_code
def yX12_setWeight : MethodName := ⟨RX12, "setWeight", "(II)I"⟩
abbrev cX12_setRange : ByteArray := prog_14_method_38_code
def yX12_setRange : MethodName := ⟨RX12, "setRange", "(II)I"⟩
abbrev cX12_setBuffer : ByteArray := prog_14_method_39_code
def yX12_setBuffer : MethodName := ⟨RX12, "setBuffer", "(II)I"⟩
abbrev cX12_setRate : ByteArray := prog_14_method_40_code
def yX12_setRate : MethodName := ⟨RX12, "setRate", "(I)I"⟩
abbrev cX12_addZone : ByteArray := prog_14_method_41_code
def yX12_addZone : MethodName := ⟨RX12, "addZone", "(III)I"⟩
abbrev cX12_clearZones : ByteArray := prog_14_method_42_code
def yX12_clearZones : MethodName := ⟨RX12, "clearZones", "()I"⟩
abbrev cX12_bitsAt : ByteArray := prog_14_method_43_code
def yX12_bitsAt : MethodName := ⟨RX12, "bitsAt", "(II)I"⟩
abbrev cX12_lossAt : ByteArray := prog_14_method_44_code
def yX12_lossAt : MethodName := ⟨RX12, "lossAt", "(II)I"⟩
abbrev cX12_byType : ByteArray := prog_14_method_45_code
def yX12_byType : MethodName := ⟨RX12, "byType", "(I)I"⟩
abbrev cX12_plansConstant : ByteArray := prog_14_method_46_code
def yX12_plansConstant : MethodName := ⟨RX12, "plansConstant", "(I)V"⟩
abbrev cX12_constant : ByteArray := prog_14_method_47_code
def yX12_constant : MethodName := ⟨RX12, "constant", "(I)I"⟩
abbrev cX12_control : ByteArray := prog_14_method_48_code
def yX12_control : MethodName := ⟨RX12, "control", "(II)I"⟩
abbrev cX12_root : ByteArray := prog_14_method_49_code
def yX12_root : MethodName := ⟨RX12, "root", "(I)I"⟩
abbrev cX12_share : ByteArray := prog_14_method_50_code
def yX12_share : MethodName := ⟨RX12, "share", "(I)I"⟩
abbrev cX12_leastWithin : ByteArray := prog_14_method_51_code
def yX12_leastWithin : MethodName := ⟨RX12, "leastWithin", "(IJ)I"⟩
abbrev cX12_distribute : ByteArray := prog_14_method_52_code
def yX12_distribute : MethodName := ⟨RX12, "distribute", "(I)I"⟩
abbrev cX12_smooth : ByteArray := prog_14_method_53_code
def yX12_smooth : MethodName := ⟨RX12, "smooth", "(I)I"⟩
abbrev cX12_nextQuantizer : ByteArray := prog_14_method_54_code
def yX12_nextQuantizer : MethodName := ⟨RX12, "nextQuantizer", "(I)I"⟩
abbrev cX12_costOf : ByteArray := prog_14_method_55_code
def yX12_costOf : MethodName := ⟨RX12, "costOf", "(II)J"⟩
abbrev cX12_cheapest : ByteArray := prog_14_method_56_code
def yX12_cheapest : MethodName := ⟨RX12, "cheapest", "(II)I"⟩
abbrev cX12_firstUnderflow : ByteArray := prog_14_method_57_code
def yX12_firstUnderflow : MethodName := ⟨RX12, "firstUnderflow", "()I"⟩
abbrev cX12_repair : ByteArray := prog_14_method_58_code
def yX12_repair : MethodName := ⟨RX12, "repair", "()I"⟩
abbrev cX12_allBits : ByteArray := prog_14_method_59_code
def yX12_allBits : MethodName := ⟨RX12, "allBits", "()J"⟩
abbrev cX12_gainOf : ByteArray := prog_14_method_60_code
def yX12_gainOf : MethodName := ⟨RX12, "gainOf", "(IJI)J"⟩
abbrev cX12_relax : ByteArray := prog_14_method_61_code
def yX12_relax : MethodName := ⟨RX12, "relax", "(I)I"⟩
abbrev cX12_adjust : ByteArray := prog_14_method_62_code
def yX12_adjust : MethodName := ⟨RX12, "adjust", "(II)I"⟩
abbrev cX12_part : ByteArray := prog_14_method_63_code
def yX12_part : MethodName := ⟨RX12, "part", "(II)I"⟩
abbrev cX12_planned : ByteArray := prog_14_method_64_code
def yX12_planned : MethodName := ⟨RX12, "planned", "(II)I"⟩
abbrev cX12_change : ByteArray := prog_14_method_65_code
def yX12_change : MethodName := ⟨RX12, "change", "(I)I"⟩
abbrev cX12_sumOf : ByteArray := prog_14_method_66_code
def yX12_sumOf : MethodName := ⟨RX12, "sumOf", "(I)J"⟩
abbrev cX12_total : ByteArray := prog_14_method_67_code
def yX12_total : MethodName := ⟨RX12, "total", "(I)J"⟩
abbrev cX12_scene : ByteArray := prog_14_method_68_code
def yX12_scene : MethodName := ⟨RX12, "scene", "(II)I"⟩
abbrev cX12_isDry : ByteArray := prog_14_method_69_code
def yX12_isDry : MethodName := ⟨RX12, "isDry", "(III)Z"⟩
abbrev cX12_leastSize : ByteArray := prog_14_method_70_code
def yX12_leastSize : MethodName := ⟨RX12, "leastSize", "()I"⟩
abbrev cX12_leastStart : ByteArray := prog_14_method_71_code
def yX12_leastStart : MethodName := ⟨RX12, "leastStart", "()I"⟩
abbrev cX12_leastRate : ByteArray := prog_14_method_72_code
def yX12_leastRate : MethodName := ⟨RX12, "leastRate", "()I"⟩
abbrev cX12_bestConstant : ByteArray := prog_14_method_73_code
def yX12_bestConstant : MethodName := ⟨RX12, "bestConstant", "()I"⟩
abbrev cX12_demand : ByteArray := prog_14_method_74_code
def yX12_demand : MethodName := ⟨RX12, "demand", "(II)I"⟩
abbrev cX12_save : ByteArray := prog_14_method_75_code
def yX12_save : MethodName := ⟨RX12, "save", "(I)I"⟩
abbrev cX12_restore : ByteArray := prog_14_method_76_code
def yX12_restore : MethodName := ⟨RX12, "restore", "(I)I"⟩
abbrev cX12_counted : ByteArray := prog_14_method_77_code
def yX12_counted : MethodName := ⟨RX12, "counted", "(I)I"⟩
abbrev cX12_count : ByteArray := prog_14_method_78_code
def yX12_count : MethodName := ⟨RX12, "count", "(I)I"⟩
abbrev cX12_mixes : ByteArray := prog_14_method_79_code
def yX12_mixes : MethodName := ⟨RX12, "mixes", "(J)V"⟩
abbrev cX12_digest : ByteArray := prog_14_method_80_code
def yX12_digest : MethodName := ⟨RX12, "digest", "()J"⟩
def RL : String := "RatePlannerLaw"
abbrev cL_law : ByteArray := code
abbrev vwCl : List vw_C := [(RX0, TX0, 3), (RX1, TX1, 10), (RX2, TX2, 5), (RX3, TX3, 10), (RX4, TX4, 5), (RX5, TX5, 8), (RX6, TX6, 3), (RX7, TX7, 2), (RX8, TX8, 12), (RX9, TX9, 4), (RX10, TX10, 6), (RX11, TX11, 12), (RX12, TX12, 24)]
/-! the methods: name, code, locals, result, class, static?, and where the tables speak of them -/
abbrev zMr : Type := MethodName × ByteArray × Nat × Option FieldType × Nat × Bool × Nat × Nat × Nat × Nat
def zMt0 : List zMr := [(yX0_init, cX0_init, 1, none, 0, false, 97, 96, 0, 71), (yX0_add, cX0_add, 3, none, 0, false, 519, 517, 518, 71), (yX0_isCut, cX0_isCut, 2, some .boolean, 0, false, 538, 536, 537, 71), (yX0_copyFrom, cX0_copyFrom, 2, none, 0, false, 629, 627, 628, 71), (yX1_init, cX1_init, 2, none, 1, false, 322, 321, 0, 77), (yX1_follow, cX1_follow, 2, none, 1, false, 746, 744, 745, 77), (yX1_takeBits, cX1_takeBits, 4, none, 1, false, 750, 748, 749, 77), (yX1_passAsSet, cX1_passAsSet, 1, none, 1, false, 757, 755, 756, 77), (yX1_pass, cX1_pass, 5, none, 1, false, 761, 759, 760, 77), (yX1_begin, cX1_begin, 4, none, 1, false, 765, 763, 764, 77), (yX1_fillBefore, cX1_fillBefore, 3, some .int, 1, false, 769, 767, 768, 77), (yX1_takeOut, cX1_takeOut, 4, none, 1, false, 774, 772, 773, 77), (yX1_firstUnderflow, cX1_firstUnderflow, 2, some .int, 1, false, 851, 849, 850, 77), (yX1_lastFullNotBehind, cX1_lastFullNotBehind, 3, some .int, 1, false, 855, 853, 854, 77), (yX1_sumOfBits, cX1_sumOfBits, 3, some .int, 1, false, 893, 891, 892, 77), (yX2_init, cX2_init, 4, none, 2, false, 423, 422, 0, 80), (yX2_findSize, cX2_findSize, 2, some .int, 2, false, 959, 957, 958, 80), (yX2_findStart, cX2_findStart, 2, some .int, 2, false, 978, 976, 977, 80), (yX2_findRate, cX2_findRate, 2, some .int, 2, false, 986, 984, 985, 80), (yX2_findLeast, cX2_findLeast, 9, some .int, 2, false, 964, 963, 29, 80), (yX2_suffices, cX2_suffices, 6, some .boolean, 2, false, 969, 968, 30, 80), (yX2_findConstant, cX2_findConstant, 2, some .int, 2, false, 995, 993, 994, 80), (yX2_findDemand, cX2_findDemand, 7, some .int, 2, false, 1005, 1003, 1004, 80), (yX3_init, cX3_init, 1, none, 3, false, 234, 233, 0, 75)]
def zMt1 : List zMr := [(yX3_arrange, cX3_arrange, 3, none, 3, false, 530, 528, 529, 75), (yX3_findStarts, cX3_findStarts, 6, none, 3, false, 534, 533, 1, 75), (yX3_measureGroups, cX3_measureGroups, 4, none, 3, false, 544, 543, 2, 75), (yX3_chooseTypes, cX3_chooseTypes, 5, none, 3, false, 549, 548, 3, 75), (yX3_isMultiple, cX3_isMultiple, 2, some .boolean, 3, true, 552, 551, 0, 75), (yX3_putInOrder, cX3_putInOrder, 5, none, 3, false, 556, 555, 4, 75), (yX3_putAt, cX3_putAt, 3, none, 3, false, 560, 559, 5, 75), (yX3_weighWorks, cX3_weighWorks, 3, none, 3, false, 564, 563, 6, 75), (yX3_workOf, cX3_workOf, 3, some .int, 3, true, 567, 566, 0, 75), (yX3_firstOfScene, cX3_firstOfScene, 3, some .int, 3, false, 934, 932, 933, 75), (yX3_framesOfScene, cX3_framesOfScene, 4, some .int, 3, false, 938, 936, 937, 75), (yX3_groupsOfScene, cX3_groupsOfScene, 4, some .int, 3, false, 951, 949, 950, 75), (yX4_init, cX4_init, 3, none, 4, false, 369, 368, 0, 78), (yX4_planConstant, cX4_planConstant, 4, none, 4, false, 720, 718, 719, 78), (yX4_planControlled, cX4_planControlled, 10, none, 4, false, 783, 781, 782, 78), (yX4_offsetOf, cX4_offsetOf, 2, some .int, 4, false, 724, 723, 12, 78), (yX4_planDistributed, cX4_planDistributed, 10, none, 4, false, 797, 795, 796, 78), (yX4_weighShares, cX4_weighShares, 5, some .long, 4, false, 801, 800, 14, 78), (yX4_leastWithin, cX4_leastWithin, 5, some .int, 4, false, 810, 809, 15, 78), (yX4_rootOf, cX4_rootOf, 3, some .int, 4, true, 805, 804, 0, 78), (yX5_init, cX5_init, 3, none, 5, false, 391, 390, 0, 79), (yX5_smoothen, cX5_smoothen, 9, some .int, 5, false, 818, 816, 817, 79), (yX5_mend, cX5_mend, 5, some .int, 5, false, 829, 827, 828, 79), (yX5_cheapestRaise, cX5_cheapestRaise, 6, some .int, 5, false, 859, 858, 18, 79)]
def zMt2 : List zMr := [(yX5_raise, cX5_raise, 4, none, 5, false, 866, 865, 19, 79), (yX5_weighRaise, cX5_weighRaise, 9, none, 5, false, 835, 834, 16, 79), (yX5_nextOf, cX5_nextOf, 5, some .int, 5, false, 839, 838, 17, 79), (yX5_loosen, cX5_loosen, 7, some .int, 5, false, 874, 872, 873, 79), (yX5_greatestGain, cX5_greatestGain, 4, some .int, 5, false, 885, 884, 21, 79), (yX5_canLower, cX5_canLower, 8, some .boolean, 5, false, 889, 888, 22, 79), (yX5_lower, cX5_lower, 5, none, 5, false, 897, 896, 23, 79), (yX5_weighLowering, cX5_weighLowering, 9, none, 5, false, 879, 878, 20, 79), (yX6_init, cX6_init, 4, none, 6, false, 293, 292, 0, 76), (yX6_bitsOf, cX6_bitsOf, 3, some .int, 6, false, 697, 695, 696, 76), (yX6_lossOf, cX6_lossOf, 5, some .int, 6, false, 708, 706, 707, 76), (yX6_weightOf, cX6_weightOf, 2, some .int, 6, false, 712, 710, 711, 76), (yX7_init, cX7_init, 1, none, 7, false, 190, 189, 0, 73), (yX7_copyFrom, cX7_copyFrom, 2, none, 7, false, 1020, 1018, 1019, 73), (yX8_init, cX8_init, 2, none, 8, false, 121, 120, 0, 72), (yX8_putZone, cX8_putZone, 4, none, 8, false, 684, 682, 683, 72), (yX8_settle, cX8_settle, 5, some .int, 8, false, 729, 727, 728, 72), (yX8_copyFrom, cX8_copyFrom, 2, none, 8, false, 1015, 1013, 1014, 72), (yX9_init, cX9_init, 1, none, 9, false, 445, 444, 0, 81), (yX10_init, cX10_init, 1, none, 10, false, 205, 204, 0, 74), (yX10_add, cX10_add, 2, none, 10, false, 589, 587, 588, 74), (yX10_letterAt, cX10_letterAt, 2, some .int, 10, false, 610, 608, 609, 74), (yX10_readClip, cX10_readClip, 2, some .int, 10, false, 602, 600, 601, 74), (yX10_readRun, cX10_readRun, 5, some .boolean, 10, false, 615, 614, 9, 74)]
def zMt3 : List zMr := [(yX10_readSign, cX10_readSign, 2, some .boolean, 10, false, 624, 623, 11, 74), (yX10_readNumber, cX10_readNumber, 4, some .boolean, 10, false, 619, 618, 10, 74), (yX10_skipBlanks, cX10_skipBlanks, 1, none, 10, false, 606, 605, 8, 74), (yX11_init, cX11_init, 1, none, 11, false, 89, 88, 0, 70), (yX11_append, cX11_append, 3, some .int, 11, false, 509, 507, 508, 70), (yX11_set, cX11_set, 4, some .int, 11, false, 571, 569, 570, 70), (yX11_drop, cX11_drop, 1, some .int, 11, false, 581, 579, 580, 70), (yX11_type, cX11_type, 2, some .int, 11, false, 585, 583, 584, 70), (yX11_clear, cX11_clear, 2, some .int, 11, false, 594, 592, 593, 70), (yX11_load, cX11_load, 2, some .int, 11, false, 598, 596, 597, 70), (yX11_frame, cX11_frame, 3, some .int, 11, false, 642, 640, 641, 70), (yX11_coded, cX11_coded, 2, some .int, 11, false, 647, 645, 646, 70), (yX11_setInterval, cX11_setInterval, 3, some .int, 11, false, 651, 649, 650, 70), (yX11_setBridges, cX11_setBridges, 3, some .int, 11, false, 655, 653, 654, 70), (yX11_setWeight, cX11_setWeight, 4, some .int, 11, false, 659, 657, 658, 70), (yX11_setRange, cX11_setRange, 4, some .int, 11, false, 663, 661, 662, 70), (yX11_setBuffer, cX11_setBuffer, 4, some .int, 11, false, 670, 668, 669, 70), (yX11_setRate, cX11_setRate, 3, some .int, 11, false, 675, 673, 674, 70), (yX11_addZone, cX11_addZone, 4, some .int, 11, false, 680, 678, 679, 70), (yX11_clearZones, cX11_clearZones, 2, some .int, 11, false, 689, 687, 688, 70), (yX11_bitsAt, cX11_bitsAt, 3, some .int, 11, false, 693, 691, 692, 70), (yX11_lossAt, cX11_lossAt, 3, some .int, 11, false, 704, 702, 703, 70), (yX11_constant, cX11_constant, 2, some .int, 11, false, 716, 714, 715, 70), (yX11_control, cX11_control, 3, some .int, 11, false, 779, 777, 778, 70)]
def zMt4 : List zMr := [(yX11_distribute, cX11_distribute, 2, some .int, 11, false, 792, 790, 791, 70), (yX11_smooth, cX11_smooth, 2, some .int, 11, false, 814, 812, 813, 70), (yX11_repair, cX11_repair, 1, some .int, 11, false, 825, 823, 824, 70), (yX11_relax, cX11_relax, 2, some .int, 11, false, 870, 868, 869, 70), (yX11_adjust, cX11_adjust, 4, some .int, 11, false, 901, 899, 900, 70), (yX11_planned, cX11_planned, 3, some .int, 11, false, 905, 903, 904, 70), (yX11_total, cX11_total, 2, some .long, 11, false, 913, 911, 912, 70), (yX11_scene, cX11_scene, 3, some .int, 11, false, 930, 928, 929, 70), (yX11_leastSize, cX11_leastSize, 1, some .int, 11, false, 955, 953, 954, 70), (yX11_leastStart, cX11_leastStart, 1, some .int, 11, false, 974, 972, 973, 70), (yX11_leastRate, cX11_leastRate, 1, some .int, 11, false, 982, 980, 981, 70), (yX11_bestConstant, cX11_bestConstant, 1, some .int, 11, false, 991, 989, 990, 70), (yX11_demand, cX11_demand, 3, some .int, 11, false, 1001, 999, 1000, 70), (yX11_save, cX11_save, 3, some .int, 11, false, 1011, 1009, 1010, 70), (yX11_restore, cX11_restore, 3, some .int, 11, false, 1025, 1023, 1024, 70), (yX11_count, cX11_count, 2, some .int, 11, false, 1029, 1027, 1028, 70), (yX11_digest, cX11_digest, 5, some .long, 11, false, 1033, 1031, 1032, 70), (yX11_hashFrame, cX11_hashFrame, 7, some .long, 11, false, 1040, 1039, 31, 70), (yX11_arrangeAnew, cX11_arrangeAnew, 1, none, 11, false, 526, 525, 0, 70), (yX11_underflowsOfNewPlan, cX11_underflowsOfNewPlan, 1, some .int, 11, false, 742, 741, 13, 70), (yX11_followedFrame, cX11_followedFrame, 5, some .int, 11, false, 909, 908, 24, 70), (yX11_followedTotal, cX11_followedTotal, 5, some .long, 11, false, 919, 918, 25, 70), (yX11_changesOfPlan, cX11_changesOfPlan, 5, some .long, 11, false, 923, 922, 26, 70), (yX11_bitsOfScene, cX11_bitsOfScene, 4, some .int, 11, false, 942, 941, 27, 70)]
def zMt5 : List zMr := [(yX11_meanOfScene, cX11_meanOfScene, 4, some .int, 11, false, 946, 945, 28, 70), (yX11_isFrame, cX11_isFrame, 2, some .boolean, 11, false, 575, 574, 7, 70), (yX11_isPicture, cX11_isPicture, 2, some .boolean, 11, true, 512, 511, 0, 70), (yX11_isQuantizer, cX11_isQuantizer, 1, some .boolean, 11, true, 666, 665, 0, 70), (yX11_within, cX11_within, 3, some .boolean, 11, true, 515, 514, 0, 70), (yX11_limit, cX11_limit, 3, some .int, 11, true, 734, 733, 0, 70), (yX11_at, cX11_at, 2, some .int, 11, true, 299, 298, 0, 70), (yX11_at_, cX11_at_, 2, some .long, 11, true, 862, 861, 0, 70), (yX11_put, cX11_put, 3, none, 11, true, 522, 521, 0, 70), (yX11_put_, cX11_put_, 4, none, 11, true, 846, 845, 0, 70), (yX11_copyRow, cX11_copyRow, 2, none, 11, true, 632, 631, 0, 70), (yX11_ratio, cX11_ratio, 4, some .long, 11, true, 700, 699, 0, 70), (yX12_init, cX12_init, 2, none, 12, false, 1048, 1047, 0, 82), (yX12_in, cX12_in, 3, some .boolean, 12, true, 1130, 1129, 0, 82), (yX12_limited, cX12_limited, 3, some .int, 12, true, 1289, 1288, 0, 82), (yX12_isFrame, cX12_isFrame, 2, some .boolean, 12, false, 1142, 1141, 33, 82), (yX12_isCut, cX12_isCut, 2, some .boolean, 12, false, 1146, 1145, 34, 82), (yX12_findsIntra, cX12_findsIntra, 4, none, 12, false, 1198, 1197, 42, 82), (yX12_groupSize, cX12_groupSize, 4, some .int, 12, false, 1202, 1201, 43, 82), (yX12_findsTypes, cX12_findsTypes, 5, none, 12, false, 1194, 1193, 41, 82), (yX12_step, cX12_step, 3, some .int, 12, true, 1259, 1258, 0, 82), (yX12_work, cX12_work, 4, some .int, 12, false, 1206, 1205, 44, 82), (yX12_bits, cX12_bits, 3, some .int, 12, false, 1256, 1255, 46, 82), (yX12_weight, cX12_weight, 2, some .int, 12, false, 1271, 1270, 48, 82)]
def zMt6 : List zMr := [(yX12_loss, cX12_loss, 3, some .int, 12, false, 1267, 1266, 47, 82), (yX12_settled, cX12_settled, 6, some .int, 12, false, 1286, 1285, 50, 82), (yX12_passes, cX12_passes, 7, none, 12, false, 1305, 1304, 54, 82), (yX12_runs, cX12_runs, 5, none, 12, false, 1301, 1300, 53, 82), (yX12_runsAsSet, cX12_runsAsSet, 1, none, 12, false, 1297, 1296, 52, 82), (yX12_underflowsNow, cX12_underflowsNow, 1, some .int, 12, false, 1293, 1292, 51, 82), (yX12_forgets, cX12_forgets, 1, none, 12, false, 1134, 1133, 32, 82), (yX12_append, cX12_append, 3, some .int, 12, false, 1127, 1125, 1126, 82), (yX12_set, cX12_set, 4, some .int, 12, false, 1138, 1136, 1137, 82), (yX12_drop, cX12_drop, 1, some .int, 12, false, 1150, 1148, 1149, 82), (yX12_type, cX12_type, 2, some .int, 12, false, 1154, 1152, 1153, 82), (yX12_clear, cX12_clear, 2, some .int, 12, false, 1158, 1156, 1157, 82), (yX12_byteAt, cX12_byteAt, 2, some .int, 12, false, 1174, 1173, 37, 82), (yX12_skips, cX12_skips, 1, none, 12, false, 1170, 1169, 36, 82), (yX12_fails, cX12_fails, 2, none, 12, false, 1182, 1181, 39, 82), (yX12_reads1, cX12_reads1, 5, some .int, 12, false, 1186, 1185, 40, 82), (yX12_readsRun, cX12_readsRun, 5, none, 12, false, 1178, 1177, 38, 82), (yX12_readsAll, cX12_readsAll, 2, none, 12, false, 1166, 1165, 35, 82), (yX12_load, cX12_load, 2, some .int, 12, false, 1162, 1160, 1161, 82), (yX12_frame, cX12_frame, 3, some .int, 12, false, 1190, 1188, 1189, 82), (yX12_coded, cX12_coded, 2, some .int, 12, false, 1210, 1208, 1209, 82), (yX12_sets, cX12_sets, 4, some .int, 12, false, 1218, 1217, 45, 82), (yX12_setInterval, cX12_setInterval, 2, some .int, 12, false, 1214, 1212, 1213, 82), (yX12_setBridges, cX12_setBridges, 2, some .int, 12, false, 1222, 1220, 1221, 82)]
def zMt7 : List zMr := [(yX12_setWeight, cX12_setWeight, 3, some .int, 12, false, 1226, 1224, 1225, 82), (yX12_setRange, cX12_setRange, 4, some .int, 12, false, 1230, 1228, 1229, 82), (yX12_setBuffer, cX12_setBuffer, 3, some .int, 12, false, 1234, 1232, 1233, 82), (yX12_setRate, cX12_setRate, 2, some .int, 12, false, 1239, 1237, 1238, 82), (yX12_addZone, cX12_addZone, 5, some .int, 12, false, 1244, 1242, 1243, 82), (yX12_clearZones, cX12_clearZones, 1, some .int, 12, false, 1248, 1246, 1247, 82), (yX12_bitsAt, cX12_bitsAt, 3, some .int, 12, false, 1252, 1250, 1251, 82), (yX12_lossAt, cX12_lossAt, 3, some .int, 12, false, 1263, 1261, 1262, 82), (yX12_byType, cX12_byType, 1, some .int, 12, true, 1282, 1281, 0, 82), (yX12_plansConstant, cX12_plansConstant, 3, none, 12, false, 1279, 1278, 49, 82), (yX12_constant, cX12_constant, 2, some .int, 12, false, 1275, 1273, 1274, 82), (yX12_control, cX12_control, 6, some .int, 12, false, 1309, 1307, 1308, 82), (yX12_root, cX12_root, 2, some .int, 12, true, 1321, 1320, 0, 82), (yX12_share, cX12_share, 2, some .int, 12, false, 1318, 1317, 55, 82), (yX12_leastWithin, cX12_leastWithin, 5, some .int, 12, false, 1326, 1325, 56, 82), (yX12_distribute, cX12_distribute, 7, some .int, 12, false, 1313, 1311, 1312, 82), (yX12_smooth, cX12_smooth, 8, some .int, 12, false, 1330, 1328, 1329, 82), (yX12_nextQuantizer, cX12_nextQuantizer, 4, some .int, 12, false, 1346, 1345, 59, 82), (yX12_costOf, cX12_costOf, 4, some .long, 12, false, 1350, 1349, 60, 82), (yX12_cheapest, cX12_cheapest, 10, some .int, 12, false, 1342, 1341, 58, 82), (yX12_firstUnderflow, cX12_firstUnderflow, 2, some .int, 12, false, 1338, 1337, 57, 82), (yX12_repair, cX12_repair, 6, some .int, 12, false, 1334, 1332, 1333, 82), (yX12_allBits, cX12_allBits, 4, some .long, 12, false, 1364, 1363, 62, 82), (yX12_gainOf, cX12_gainOf, 8, some .long, 12, false, 1360, 1359, 61, 82)]
def zMt8 : List zMr := [(yX12_relax, cX12_relax, 11, some .int, 12, false, 1355, 1353, 1354, 82), (yX12_adjust, cX12_adjust, 3, some .int, 12, false, 1369, 1367, 1368, 82), (yX12_part, cX12_part, 5, some .int, 12, false, 1377, 1376, 63, 82), (yX12_planned, cX12_planned, 3, some .int, 12, false, 1373, 1371, 1372, 82), (yX12_change, cX12_change, 3, some .int, 12, false, 1391, 1390, 65, 82), (yX12_sumOf, cX12_sumOf, 7, some .long, 12, false, 1387, 1386, 64, 82), (yX12_total, cX12_total, 2, some .long, 12, false, 1381, 1379, 1380, 82), (yX12_scene, cX12_scene, 9, some .int, 12, false, 1395, 1393, 1394, 82), (yX12_isDry, cX12_isDry, 4, some .boolean, 12, false, 1403, 1402, 66, 82), (yX12_leastSize, cX12_leastSize, 5, some .int, 12, false, 1399, 1397, 1398, 82), (yX12_leastStart, cX12_leastStart, 2, some .int, 12, false, 1407, 1405, 1406, 82), (yX12_leastRate, cX12_leastRate, 5, some .int, 12, false, 1411, 1409, 1410, 82), (yX12_bestConstant, cX12_bestConstant, 3, some .int, 12, false, 1415, 1413, 1414, 82), (yX12_demand, cX12_demand, 7, some .int, 12, false, 1419, 1417, 1418, 82), (yX12_save, cX12_save, 3, some .int, 12, false, 1423, 1421, 1422, 82), (yX12_restore, cX12_restore, 3, some .int, 12, false, 1427, 1425, 1426, 82), (yX12_counted, cX12_counted, 2, some .int, 12, false, 1435, 1434, 67, 82), (yX12_count, cX12_count, 2, some .int, 12, false, 1431, 1429, 1430, 82), (yX12_mixes, cX12_mixes, 3, none, 12, false, 1445, 1444, 68, 82), (yX12_digest, cX12_digest, 4, some .long, 12, false, 1439, 1437, 1438, 82), (⟨RL, "law", "([I)Z"⟩, cL_law, 4, some .boolean, 13, true, 0, 0, 0, 0)]
def zMt : List zMr := zMt0 ++ (zMt1 ++ (zMt2 ++ (zMt3 ++ (zMt4 ++ (zMt5 ++ (zMt6 ++ (zMt7 ++ (zMt8))))))))
abbrev nX0_init : Nat := 0
abbrev nX0_add : Nat := 1
abbrev nX0_isCut : Nat := 2
abbrev nX0_copyFrom : Nat := 3
abbrev nX1_init : Nat := 4
abbrev nX1_follow : Nat := 5
abbrev nX1_takeBits : Nat := 6
abbrev nX1_passAsSet : Nat := 7
abbrev nX1_pass : Nat := 8
abbrev nX1_begin : Nat := 9
abbrev nX1_fillBefore : Nat := 10
abbrev nX1_takeOut : Nat := 11
abbrev nX1_firstUnderflow : Nat := 12
abbrev nX1_lastFullNotBehind : Nat := 13
abbrev nX1_sumOfBits : Nat := 14
abbrev nX2_init : Nat := 15
abbrev nX2_findSize : Nat := 16
abbrev nX2_findStart : Nat := 17
abbrev nX2_findRate : Nat := 18
abbrev nX2_findLeast : Nat := 19
abbrev nX2_suffices : Nat := 20
abbrev nX2_findConstant : Nat := 21
abbrev nX2_findDemand : Nat := 22
abbrev nX3_init : Nat := 23
abbrev nX3_arrange : Nat := 24
abbrev nX3_findStarts : Nat := 25
abbrev nX3_measureGroups : Nat := 26
abbrev nX3_chooseTypes : Nat := 27
abbrev nX3_isMultiple : Nat := 28
abbrev nX3_putInOrder : Nat := 29
abbrev nX3_putAt : Nat := 30
abbrev nX3_weighWorks : Nat := 31
abbrev nX3_workOf : Nat := 32
abbrev nX3_firstOfScene : Nat := 33
abbrev nX3_framesOfScene : Nat := 34
abbrev nX3_groupsOfScene : Nat := 35
abbrev nX4_init : Nat := 36
abbrev nX4_planConstant : Nat := 37
abbrev nX4_planControlled : Nat := 38
abbrev nX4_offsetOf : Nat := 39
abbrev nX4_planDistributed : Nat := 40
abbrev nX4_weighShares : Nat := 41
abbrev nX4_leastWithin : Nat := 42
abbrev nX4_rootOf : Nat := 43
abbrev nX5_init : Nat := 44
abbrev nX5_smoothen : Nat := 45
abbrev nX5_mend : Nat := 46
abbrev nX5_cheapestRaise : Nat := 47
abbrev nX5_raise : Nat := 48
abbrev nX5_weighRaise : Nat := 49
abbrev nX5_nextOf : Nat := 50
abbrev nX5_loosen : Nat := 51
abbrev nX5_greatestGain : Nat := 52
abbrev nX5_canLower : Nat := 53
abbrev nX5_lower : Nat := 54
abbrev nX5_weighLowering : Nat := 55
abbrev nX6_init : Nat := 56
abbrev nX6_bitsOf : Nat := 57
abbrev nX6_lossOf : Nat := 58
abbrev nX6_weightOf : Nat := 59
abbrev nX7_init : Nat := 60
abbrev nX7_copyFrom : Nat := 61
abbrev nX8_init : Nat := 62
abbrev nX8_putZone : Nat := 63
abbrev nX8_settle : Nat := 64
abbrev nX8_copyFrom : Nat := 65
abbrev nX9_init : Nat := 66
abbrev nX10_init : Nat := 67
abbrev nX10_add : Nat := 68
abbrev nX10_letterAt : Nat := 69
abbrev nX10_readClip : Nat := 70
abbrev nX10_readRun : Nat := 71
abbrev nX10_readSign : Nat := 72
abbrev nX10_readNumber : Nat := 73
abbrev nX10_skipBlanks : Nat := 74
abbrev nX11_init : Nat := 75
abbrev nX11_append : Nat := 76
abbrev nX11_set : Nat := 77
abbrev nX11_drop : Nat := 78
abbrev nX11_type : Nat := 79
abbrev nX11_clear : Nat := 80
abbrev nX11_load : Nat := 81
abbrev nX11_frame : Nat := 82
abbrev nX11_coded : Nat := 83
abbrev nX11_setInterval : Nat := 84
abbrev nX11_setBridges : Nat := 85
abbrev nX11_setWeight : Nat := 86
abbrev nX11_setRange : Nat := 87
abbrev nX11_setBuffer : Nat := 88
abbrev nX11_setRate : Nat := 89
abbrev nX11_addZone : Nat := 90
abbrev nX11_clearZones : Nat := 91
abbrev nX11_bitsAt : Nat := 92
abbrev nX11_lossAt : Nat := 93
abbrev nX11_constant : Nat := 94
abbrev nX11_control : Nat := 95
abbrev nX11_distribute : Nat := 96
abbrev nX11_smooth : Nat := 97
abbrev nX11_repair : Nat := 98
abbrev nX11_relax : Nat := 99
abbrev nX11_adjust : Nat := 100
abbrev nX11_planned : Nat := 101
abbrev nX11_total : Nat := 102
abbrev nX11_scene : Nat := 103
abbrev nX11_leastSize : Nat := 104
abbrev nX11_leastStart : Nat := 105
abbrev nX11_leastRate : Nat := 106
abbrev nX11_bestConstant : Nat := 107
abbrev nX11_demand : Nat := 108
abbrev nX11_save : Nat := 109
abbrev nX11_restore : Nat := 110
abbrev nX11_count : Nat := 111
abbrev nX11_digest : Nat := 112
abbrev nX11_hashFrame : Nat := 113
abbrev nX11_arrangeAnew : Nat := 114
abbrev nX11_underflowsOfNewPlan : Nat := 115
abbrev nX11_followedFrame : Nat := 116
abbrev nX11_followedTotal : Nat := 117
abbrev nX11_changesOfPlan : Nat := 118
abbrev nX11_bitsOfScene : Nat := 119
abbrev nX11_meanOfScene : Nat := 120
abbrev nX11_isFrame : Nat := 121
abbrev nX11_isPicture : Nat := 122
abbrev nX11_isQuantizer : Nat := 123
abbrev nX11_within : Nat := 124
abbrev nX11_limit : Nat := 125
abbrev nX11_at : Nat := 126
abbrev nX11_at_ : Nat := 127
abbrev nX11_put : Nat := 128
abbrev nX11_put_ : Nat := 129
abbrev nX11_copyRow : Nat := 130
abbrev nX11_ratio : Nat := 131
abbrev nX12_init : Nat := 132
abbrev nX12_in : Nat := 133
abbrev nX12_limited : Nat := 134
abbrev nX12_isFrame : Nat := 135
abbrev nX12_isCut : Nat := 136
abbrev nX12_findsIntra : Nat := 137
abbrev nX12_groupSize : Nat := 138
abbrev nX12_findsTypes : Nat := 139
abbrev nX12_step : Nat := 140
abbrev nX12_work : Nat := 141
abbrev nX12_bits : Nat := 142
abbrev nX12_weight : Nat := 143
abbrev nX12_loss : Nat := 144
abbrev nX12_settled : Nat := 145
abbrev nX12_passes : Nat := 146
abbrev nX12_runs : Nat := 147
abbrev nX12_runsAsSet : Nat := 148
abbrev nX12_underflowsNow : Nat := 149
abbrev nX12_forgets : Nat := 150
abbrev nX12_append : Nat := 151
abbrev nX12_set : Nat := 152
abbrev nX12_drop : Nat := 153
abbrev nX12_type : Nat := 154
abbrev nX12_clear : Nat := 155
abbrev nX12_byteAt : Nat := 156
abbrev nX12_skips : Nat := 157
abbrev nX12_fails : Nat := 158
abbrev nX12_reads1 : Nat := 159
abbrev nX12_readsRun : Nat := 160
abbrev nX12_readsAll : Nat := 161
abbrev nX12_load : Nat := 162
abbrev nX12_frame : Nat := 163
abbrev nX12_coded : Nat := 164
abbrev nX12_sets : Nat := 165
abbrev nX12_setInterval : Nat := 166
abbrev nX12_setBridges : Nat := 167
abbrev nX12_setWeight : Nat := 168
abbrev nX12_setRange : Nat := 169
abbrev nX12_setBuffer : Nat := 170
abbrev nX12_setRate : Nat := 171
abbrev nX12_addZone : Nat := 172
abbrev nX12_clearZones : Nat := 173
abbrev nX12_bitsAt : Nat := 174
abbrev nX12_lossAt : Nat := 175
abbrev nX12_byType : Nat := 176
abbrev nX12_plansConstant : Nat := 177
abbrev nX12_constant : Nat := 178
abbrev nX12_control : Nat := 179
abbrev nX12_root : Nat := 180
abbrev nX12_share : Nat := 181
abbrev nX12_leastWithin : Nat := 182
abbrev nX12_distribute : Nat := 183
abbrev nX12_smooth : Nat := 184
abbrev nX12_nextQuantizer : Nat := 185
abbrev nX12_costOf : Nat := 186
abbrev nX12_cheapest : Nat := 187
abbrev nX12_firstUnderflow : Nat := 188
abbrev nX12_repair : Nat := 189
abbrev nX12_allBits : Nat := 190
abbrev nX12_gainOf : Nat := 191
abbrev nX12_relax : Nat := 192
abbrev nX12_adjust : Nat := 193
abbrev nX12_part : Nat := 194
abbrev nX12_planned : Nat := 195
abbrev nX12_change : Nat := 196
abbrev nX12_sumOf : Nat := 197
abbrev nX12_total : Nat := 198
abbrev nX12_scene : Nat := 199
abbrev nX12_isDry : Nat := 200
abbrev nX12_leastSize : Nat := 201
abbrev nX12_leastStart : Nat := 202
abbrev nX12_leastRate : Nat := 203
abbrev nX12_bestConstant : Nat := 204
abbrev nX12_demand : Nat := 205
abbrev nX12_save : Nat := 206
abbrev nX12_restore : Nat := 207
abbrev nX12_counted : Nat := 208
abbrev nX12_count : Nat := 209
abbrev nX12_mixes : Nat := 210
abbrev nX12_digest : Nat := 211
abbrev nL_law : Nat := 212
/-! the shape of the world behind the makings: a role each cell -/
abbrev zKd : Type := Nat × Nat × List (Nat × Nat)
def zSh : List zKd := [(0, 11, [(0, 1), (0, 4), (0, 9), (0, 11), (0, 16), (0, 24), (0, 26), (0, 32), (0, 34), (0, 39), (0, 41), (0, 52)]), (0, 0, [(1, 0), (0, 2), (0, 3)]), (1, 60, []), (1, 60, []), (0, 8, [(1, 0), (1, 0), (1, 0), (1, 0), (1, 0), (1, 0), (1, 0), (1, 0), (0, 5), (0, 6), (0, 7), (0, 8)]), (1, 60, []), (1, 6, []), (1, 6, []), (1, 6, []), (0, 7, [(2, 0), (0, 10)]), (1, 60, []), (0, 10, [(1, 0), (0, 12), (0, 15), (1, 0), (1, 0), (1, 0)]), (0, 0, [(1, 0), (0, 13), (0, 14)]), (1, 60, []), (1, 60, []), (1, 100, []), (0, 3, [(1, 0), (1, 0), (1, 0), (0, 17), (0, 18), (0, 19), (0, 20), (0, 21), (0, 22), (0, 23)]), (1, 60, []), (1, 60, []), (1, 60, []), (1, 60, []), (1, 60, []), (1, 60, []), (1, 60, []), (0, 6, [(0, 16), (0, 4), (0, 25)]), (1, 52, []), (0, 1, [(1, 0), (0, 27), (0, 28), (0, 29), (0, 30), (0, 31), (0, 24), (1, 0), (1, 0), (1, 0)]), (1, 60, []), (1, 60, []), (1, 60, []), (1, 60, []), (1, 60, []), (0, 4, [(0, 24), (0, 4), (0, 16), (0, 26), (0, 33)]), (1, 60, []), (0, 5, [(0, 24), (0, 4), (0, 16), (0, 26), (0, 35), (0, 36), (0, 37), (0, 38)]), (1, 60, []), (1, 60, []), (2, 60, []), (2, 60, []), (0, 2, [(0, 4), (0, 16), (0, 26), (0, 32), (0, 40)]), (1, 60, []), (0, 9, [(2, 0), (0, 42), (0, 45), (0, 50)]), (0, 0, [(1, 0), (0, 43), (0, 44)]), (1, 60, []), (1, 60, []), (0, 8, [(1, 0), (1, 0), (1, 0), (1, 0), (1, 0), (1, 0), (1, 0), (1, 0), (0, 46), (0, 47), (0, 48), (0, 49)]), (1, 60, []), (1, 6, []), (1, 6, []), (1, 6, []), (0, 7, [(2, 0), (0, 51)]), (1, 60, []), (0, 9, [(2, 0), (0, 53), (0, 56), (0, 61)]), (0, 0, [(1, 0), (0, 54), (0, 55)]), (1, 60, []), (1, 60, []), (0, 8, [(1, 0), (1, 0), (1, 0), (1, 0), (1, 0), (1, 0), (1, 0), (1, 0), (0, 57), (0, 58), (0, 59), (0, 60)]), (1, 60, []), (1, 6, []), (1, 6, []), (1, 6, []), (0, 7, [(2, 0), (0, 62)]), (1, 60, []), (0, 12, [(0, 64), (0, 65), (0, 66), (0, 67), (0, 68), (0, 69), (0, 70), (0, 71), (1, 0), (1, 0), (0, 72), (0, 73), (0, 74), (0, 75), (1, 0), (0, 76), (1, 0), (1, 0), (1, 0), (0, 77), (0, 78), (1, 0), (0, 79), (3, 0)]), (1, 268, []), (1, 536, []), (1, 2, []), (1, 60, []), (1, 60, []), (1, 60, []), (1, 60, []), (1, 60, []), (1, 60, []), (1, 60, []), (1, 60, []), (1, 60, []), (1, 100, []), (1, 60, []), (1, 60, []), (1, 60, [])]
end
section
/-! the tables as the small machine reads them, and what a program checks of them -/
def zMe (mi : Nat) : zMr := zMt.getD mi (⟨"", "", ""⟩, ⟨#[]⟩, 0, none, 99, false, 0, 0, 0, 0)
def zY (mi : Nat) : MethodName := (zMe mi).1
def zBy (mi : Nat) : ByteArray := (zMe mi).2.1
def zMl (mi : Nat) : Nat := (zMe mi).2.2.1
def zRt (mi : Nat) : Option FieldType := (zMe mi).2.2.2.1
def zMc (mi : Nat) : Nat := (zMe mi).2.2.2.2.1
def zMs (mi : Nat) : Bool := (zMe mi).2.2.2.2.2.1
def zP1 (mi : Nat) : Nat := (zMe mi).2.2.2.2.2.2.1
def zP2 (mi : Nat) : Nat := (zMe mi).2.2.2.2.2.2.2.1
def zP3 (mi : Nat) : Nat := (zMe mi).2.2.2.2.2.2.2.2.1
def zP4 (mi : Nat) : Nat := (zMe mi).2.2.2.2.2.2.2.2.2
def zCl (a : Nat) : vw_C := vwCl.getD a ("", fun _ => ("", "", "", false), 0)
def zNst : Cond → Bool
  | .methodLinkNest .. => true
  | .fieldLinkNest .. => true
  | _ => false
def zTg : List Cond := lw_tbl.filter goodWord
def zNw : List Cond := lw_tbl.filter zNst
theorem zin (p : Nat) {w : Cond} (h : lw_tbl[p]? = some w) (hg : goodWord w = true) : w ∈ zTg := List.mem_filter.mpr ⟨List.mem_of_getElem? h, hg⟩
theorem zinN (p : Nat) {w : Cond} (h : lw_tbl[p]? = some w) (hg : zNst w = true) : w ∈ zNw := List.mem_filter.mpr ⟨List.mem_of_getElem? h, hg⟩
theorem zTg_good {w : Cond} (h : w ∈ zTg) : w ∈ lw_tbl ∧ ((w.onTables && w.keeps) = true ∨ ∃ ty, w = .arrayClass ty) := ⟨(List.mem_filter.mp h).1, good_of_word (List.mem_filter.mp h).2⟩
def zNoH (y : MethodName) : Bool := decide (y.cls ≠ "java/lang/invoke/MethodHandle") && decide (y.cls ≠ "java/lang/invoke/VarHandle")
/-- a method's own row is true -/
def zMv (mi : Nat) : Bool := decide (lw_tbl[zP1 mi]? = some (.code (zY mi) (zBy mi) (zMl mi) (zRt mi))) && decide (lw_tbl[zP4 mi]? = some (.initialized (zY mi).cls)) && zNoH (zY mi) && plainName (zY mi).cls && Nat.ble (zMl mi) 13 &&
  (match zMs mi with
  | true => decide (lw_tbl[zP2 mi]? = some (.static (zY mi)))
  | false => decide (lw_tbl[zP2 mi]? = some (.instanceMethod (zY mi))) && (decide ((zY mi).name = "<init>") || decide (lw_tbl[zP3 mi]? = some (.selects (zY mi).cls (zY mi) (zY mi)))) && Nat.blt (zMc mi) 13 && decide ((zCl (zMc mi)).1 = (zY mi).cls))
/-- a class's row is true -/
def zCv (q : vw_C) : Bool := (u_ws q.1 q.2.1 q.2.2).all (fun w => decide (w ∈ lw_tbl) && goodWord w) && (List.range q.2.2).all fun k => (parseFieldDescriptor (q.2.1 k).2.2.1).isSome && (List.range q.2.2).all fun j => Nat.beq j k || decide ((q.2.1 j).2.1 ≠ (q.2.1 k).2.1)
end
section
theorem zv0 : zMv 0 = true := by decide +kernel
theorem zv1 : zMv 1 = true := by decide +kernel
theorem zv2 : zMv 2 = true := by decide +kernel
theorem zv3 : zMv 3 = true := by decide +kernel
theorem zv4 : zMv 4 = true := by decide +kernel
theorem zv5 : zMv 5 = true := by decide +kernel
theorem zv6 : zMv 6 = true := by decide +kernel
theorem zv7 : zMv 7 = true := by decide +kernel
theorem zv8 : zMv 8 = true := by decide +kernel
theorem zv9 : zMv 9 = true := by decide +kernel
theorem zv10 : zMv 10 = true := by decide +kernel
theorem zv11 : zMv 11 = true := by decide +kernel
theorem zv12 : zMv 12 = true := by decide +kernel
theorem zv13 : zMv 13 = true := by decide +kernel
theorem zv14 : zMv 14 = true := by decide +kernel
theorem zv15 : zMv 15 = true := by decide +kernel
theorem zv16 : zMv 16 = true := by decide +kernel
theorem zv17 : zMv 17 = true := by decide +kernel
theorem zv18 : zMv 18 = true := by decide +kernel
theorem zv19 : zMv 19 = true := by decide +kernel
theorem zv20 : zMv 20 = true := by decide +kernel
theorem zv21 : zMv 21 = true := by decide +kernel
theorem zv22 : zMv 22 = true := by decide +kernel
theorem zv23 : zMv 23 = true := by decide +kernel
theorem zv24 : zMv 24 = true := by decide +kernel
theorem zv25 : zMv 25 = true := by decide +kernel
theorem zv26 : zMv 26 = true := by decide +kernel
theorem zv27 : zMv 27 = true := by decide +kernel
theorem zv28 : zMv 28 = true := by decide +kernel
theorem zv29 : zMv 29 = true := by decide +kernel
theorem zv30 : zMv 30 = true := by decide +kernel
theorem zv31 : zMv 31 = true := by decide +kernel
theorem zv32 : zMv 32 = true := by decide +kernel
theorem zv33 : zMv 33 = true := by decide +kernel
theorem zv34 : zMv 34 = true := by decide +kernel
theorem zv35 : zMv 35 = true := by decide +kernel
theorem zv36 : zMv 36 = true := by decide +kernel
theorem zv37 : zMv 37 = true := by decide +kernel
theorem zv38 : zMv 38 = true := by decide +kernel
theorem zv39 : zMv 39 = true := by decide +kernel
theorem zv40 : zMv 40 = true := by decide +kernel
theorem zv41 : zMv 41 = true := by decide +kernel
theorem zv42 : zMv 42 = true := by decide +kernel
theorem zv43 : zMv 43 = true := by decide +kernel
theorem zv44 : zMv 44 = true := by decide +kernel
theorem zv45 : zMv 45 = true := by decide +kernel
theorem zv46 : zMv 46 = true := by decide +kernel
theorem zv47 : zMv 47 = true := by decide +kernel
theorem zv48 : zMv 48 = true := by decide +kernel
theorem zv49 : zMv 49 = true := by decide +kernel
theorem zv50 : zMv 50 = true := by decide +kernel
theorem zv51 : zMv 51 = true := by decide +kernel
theorem zv52 : zMv 52 = true := by decide +kernel
theorem zv53 : zMv 53 = true := by decide +kernel
theorem zv54 : zMv 54 = true := by decide +kernel
theorem zv55 : zMv 55 = true := by decide +kernel
theorem zv56 : zMv 56 = true := by decide +kernel
theorem zv57 : zMv 57 = true := by decide +kernel
theorem zv58 : zMv 58 = true := by decide +kernel
theorem zv59 : zMv 59 = true := by decide +kernel
theorem zv60 : zMv 60 = true := by decide +kernel
theorem zv61 : zMv 61 = true := by decide +kernel
theorem zv62 : zMv 62 = true := by decide +kernel
theorem zv63 : zMv 63 = true := by decide +kernel
theorem zv64 : zMv 64 = true := by decide +kernel
theorem zv65 : zMv 65 = true := by decide +kernel
theorem zv66 : zMv 66 = true := by decide +kernel
theorem zv67 : zMv 67 = true := by decide +kernel
theorem zv68 : zMv 68 = true := by decide +kernel
theorem zv69 : zMv 69 = true := by decide +kernel
theorem zv70 : zMv 70 = true := by decide +kernel
theorem zv71 : zMv 71 = true := by decide +kernel
theorem zv72 : zMv 72 = true := by decide +kernel
theorem zv73 : zMv 73 = true := by decide +kernel
theorem zv74 : zMv 74 = true := by decide +kernel
theorem zv75 : zMv 75 = true := by decide +kernel
theorem zv76 : zMv 76 = true := by decide +kernel
theorem zv77 : zMv 77 = true := by decide +kernel
theorem zv78 : zMv 78 = true := by decide +kernel
theorem zv79 : zMv 79 = true := by decide +kernel
theorem zv80 : zMv 80 = true := by decide +kernel
theorem zv81 : zMv 81 = true := by decide +kernel
theorem zv82 : zMv 82 = true := by decide +kernel
theorem zv83 : zMv 83 = true := by decide +kernel
theorem zv84 : zMv 84 = true := by decide +kernel
theorem zv85 : zMv 85 = true := by decide +kernel
theorem zv86 : zMv 86 = true := by decide +kernel
theorem zv87 : zMv 87 = true := by decide +kernel
theorem zv88 : zMv 88 = true := by decide +kernel
theorem zv89 : zMv 89 = true := by decide +kernel
theorem zv90 : zMv 90 = true := by decide +kernel
theorem zv91 : zMv 91 = true := by decide +kernel
theorem zv92 : zMv 92 = true := by decide +kernel
theorem zv93 : zMv 93 = true := by decide +kernel
theorem zv94 : zMv 94 = true := by decide +kernel
theorem zv95 : zMv 95 = true := by decide +kernel
theorem zv96 : zMv 96 = true := by decide +kernel
theorem zv97 : zMv 97 = true := by decide +kernel
theorem zv98 : zMv 98 = true := by decide +kernel
theorem zv99 : zMv 99 = true := by decide +kernel
theorem zv100 : zMv 100 = true := by decide +kernel
theorem zv101 : zMv 101 = true := by decide +kernel
theorem zv102 : zMv 102 = true := by decide +kernel
theorem zv103 : zMv 103 = true := by decide +kernel
theorem zv104 : zMv 104 = true := by decide +kernel
theorem zv105 : zMv 105 = true := by decide +kernel
theorem zv106 : zMv 106 = true := by decide +kernel
theorem zv107 : zMv 107 = true := by decide +kernel
theorem zv108 : zMv 108 = true := by decide +kernel
theorem zv109 : zMv 109 = true := by decide +kernel
theorem zv110 : zMv 110 = true := by decide +kernel
theorem zv111 : zMv 111 = true := by decide +kernel
theorem zv112 : zMv 112 = true := by decide +kernel
theorem zv113 : zMv 113 = true := by decide +kernel
theorem zv114 : zMv 114 = true := by decide +kernel
theorem zv115 : zMv 115 = true := by decide +kernel
theorem zv116 : zMv 116 = true := by decide +kernel
theorem zv117 : zMv 117 = true := by decide +kernel
theorem zv118 : zMv 118 = true := by decide +kernel
theorem zv119 : zMv 119 = true := by decide +kernel
theorem zv120 : zMv 120 = true := by decide +kernel
theorem zv121 : zMv 121 = true := by decide +kernel
theorem zv122 : zMv 122 = true := by decide +kernel
theorem zv123 : zMv 123 = true := by decide +kernel
theorem zv124 : zMv 124 = true := by decide +kernel
theorem zv125 : zMv 125 = true := by decide +kernel
theorem zv126 : zMv 126 = true := by decide +kernel
theorem zv127 : zMv 127 = true := by decide +kernel
theorem zv128 : zMv 128 = true := by decide +kernel
theorem zv129 : zMv 129 = true := by decide +kernel
theorem zv130 : zMv 130 = true := by decide +kernel
theorem zv131 : zMv 131 = true := by decide +kernel
theorem zv132 : zMv 132 = true := by decide +kernel
theorem zv133 : zMv 133 = true := by decide +kernel
theorem zv134 : zMv 134 = true := by decide +kernel
theorem zv135 : zMv 135 = true := by decide +kernel
theorem zv136 : zMv 136 = true := by decide +kernel
theorem zv137 : zMv 137 = true := by decide +kernel
theorem zv138 : zMv 138 = true := by decide +kernel
theorem zv139 : zMv 139 = true := by decide +kernel
theorem zv140 : zMv 140 = true := by decide +kernel
theorem zv141 : zMv 141 = true := by decide +kernel
theorem zv142 : zMv 142 = true := by decide +kernel
theorem zv143 : zMv 143 = true := by decide +kernel
theorem zv144 : zMv 144 = true := by decide +kernel
theorem zv145 : zMv 145 = true := by decide +kernel
theorem zv146 : zMv 146 = true := by decide +kernel
theorem zv147 : zMv 147 = true := by decide +kernel
theorem zv148 : zMv 148 = true := by decide +kernel
theorem zv149 : zMv 149 = true := by decide +kernel
theorem zv150 : zMv 150 = true := by decide +kernel
theorem zv151 : zMv 151 = true := by decide +kernel
theorem zv152 : zMv 152 = true := by decide +kernel
theorem zv153 : zMv 153 = true := by decide +kernel
theorem zv154 : zMv 154 = true := by decide +kernel
theorem zv155 : zMv 155 = true := by decide +kernel
theorem zv156 : zMv 156 = true := by decide +kernel
theorem zv157 : zMv 157 = true := by decide +kernel
theorem zv158 : zMv 158 = true := by decide +kernel
theorem zv159 : zMv 159 = true := by decide +kernel
theorem zv160 : zMv 160 = true := by decide +kernel
theorem zv161 : zMv 161 = true := by decide +kernel
theorem zv162 : zMv 162 = true := by decide +kernel
theorem zv163 : zMv 163 = true := by decide +kernel
theorem zv164 : zMv 164 = true := by decide +kernel
theorem zv165 : zMv 165 = true := by decide +kernel
theorem zv166 : zMv 166 = true := by decide +kernel
theorem zv167 : zMv 167 = true := by decide +kernel
theorem zv168 : zMv 168 = true := by decide +kernel
theorem zv169 : zMv 169 = true := by decide +kernel
theorem zv170 : zMv 170 = true := by decide +kernel
theorem zv171 : zMv 171 = true := by decide +kernel
theorem zv172 : zMv 172 = true := by decide +kernel
theorem zv173 : zMv 173 = true := by decide +kernel
theorem zv174 : zMv 174 = true := by decide +kernel
theorem zv175 : zMv 175 = true := by decide +kernel
theorem zv176 : zMv 176 = true := by decide +kernel
theorem zv177 : zMv 177 = true := by decide +kernel
theorem zv178 : zMv 178 = true := by decide +kernel
theorem zv179 : zMv 179 = true := by decide +kernel
theorem zv180 : zMv 180 = true := by decide +kernel
theorem zv181 : zMv 181 = true := by decide +kernel
theorem zv182 : zMv 182 = true := by decide +kernel
theorem zv183 : zMv 183 = true := by decide +kernel
theorem zv184 : zMv 184 = true := by decide +kernel
theorem zv185 : zMv 185 = true := by decide +kernel
theorem zv186 : zMv 186 = true := by decide +kernel
theorem zv187 : zMv 187 = true := by decide +kernel
theorem zv188 : zMv 188 = true := by decide +kernel
theorem zv189 : zMv 189 = true := by decide +kernel
theorem zv190 : zMv 190 = true := by decide +kernel
theorem zv191 : zMv 191 = true := by decide +kernel
theorem zv192 : zMv 192 = true := by decide +kernel
theorem zv193 : zMv 193 = true := by decide +kernel
theorem zv194 : zMv 194 = true := by decide +kernel
theorem zv195 : zMv 195 = true := by decide +kernel
theorem zv196 : zMv 196 = true := by decide +kernel
theorem zv197 : zMv 197 = true := by decide +kernel
theorem zv198 : zMv 198 = true := by decide +kernel
theorem zv199 : zMv 199 = true := by decide +kernel
theorem zv200 : zMv 200 = true := by decide +kernel
theorem zv201 : zMv 201 = true := by decide +kernel
theorem zv202 : zMv 202 = true := by decide +kernel
theorem zv203 : zMv 203 = true := by decide +kernel
theorem zv204 : zMv 204 = true := by decide +kernel
theorem zv205 : zMv 205 = true := by decide +kernel
theorem zv206 : zMv 206 = true := by decide +kernel
theorem zv207 : zMv 207 = true := by decide +kernel
theorem zv208 : zMv 208 = true := by decide +kernel
theorem zv209 : zMv 209 = true := by decide +kernel
theorem zv210 : zMv 210 = true := by decide +kernel
theorem zv211 : zMv 211 = true := by decide +kernel
theorem zvr0 : ∀ q ∈ [0, 1, 2, 3, 4, 5, 6, 7, 8, 9, 10, 11, 12, 13, 14, 15], zMv q = true := List.forall_mem_cons.mpr ⟨zv0, List.forall_mem_cons.mpr ⟨zv1, List.forall_mem_cons.mpr ⟨zv2, List.forall_mem_cons.mpr ⟨zv3, List.forall_mem_cons.mpr ⟨zv4, List.forall_mem_cons.mpr ⟨zv5, List.forall_mem_cons.mpr ⟨zv6, List.forall_mem_cons.mpr ⟨zv7, List.forall_mem_cons.mpr ⟨zv8, List.forall_mem_cons.mpr ⟨zv9, List.forall_mem_cons.mpr ⟨zv10, List.forall_mem_cons.mpr ⟨zv11, List.forall_mem_cons.mpr ⟨zv12, List.forall_mem_cons.mpr ⟨zv13, List.forall_mem_cons.mpr ⟨zv14, List.forall_mem_cons.mpr ⟨zv15, fun _ h => absurd h List.not_mem_nil⟩⟩⟩⟩⟩⟩⟩⟩⟩⟩⟩⟩⟩⟩⟩⟩
theorem zvr1 : ∀ q ∈ [16, 17, 18, 19, 20, 21, 22, 23, 24, 25, 26, 27, 28, 29, 30, 31], zMv q = true := List.forall_mem_cons.mpr ⟨zv16, List.forall_mem_cons.mpr ⟨zv17, List.forall_mem_cons.mpr ⟨zv18, List.forall_mem_cons.mpr ⟨zv19, List.forall_mem_cons.mpr ⟨zv20, List.forall_mem_cons.mpr ⟨zv21, List.forall_mem_cons.mpr ⟨zv22, List.forall_mem_cons.mpr ⟨zv23, List.forall_mem_cons.mpr ⟨zv24, List.forall_mem_cons.mpr ⟨zv25, List.forall_mem_cons.mpr ⟨zv26, List.forall_mem_cons.mpr ⟨zv27, List.forall_mem_cons.mpr ⟨zv28, List.forall_mem_cons.mpr ⟨zv29, List.forall_mem_cons.mpr ⟨zv30, List.forall_mem_cons.mpr ⟨zv31, fun _ h => absurd h List.not_mem_nil⟩⟩⟩⟩⟩⟩⟩⟩⟩⟩⟩⟩⟩⟩⟩⟩
theorem zvr2 : ∀ q ∈ [32, 33, 34, 35, 36, 37, 38, 39, 40, 41, 42, 43, 44, 45, 46, 47], zMv q = true := List.forall_mem_cons.mpr ⟨zv32, List.forall_mem_cons.mpr ⟨zv33, List.forall_mem_cons.mpr ⟨zv34, List.forall_mem_cons.mpr ⟨zv35, List.forall_mem_cons.mpr ⟨zv36, List.forall_mem_cons.mpr ⟨zv37, List.forall_mem_cons.mpr ⟨zv38, List.forall_mem_cons.mpr ⟨zv39, List.forall_mem_cons.mpr ⟨zv40, List.forall_mem_cons.mpr ⟨zv41, List.forall_mem_cons.mpr ⟨zv42, List.forall_mem_cons.mpr ⟨zv43, List.forall_mem_cons.mpr ⟨zv44, List.forall_mem_cons.mpr ⟨zv45, List.forall_mem_cons.mpr ⟨zv46, List.forall_mem_cons.mpr ⟨zv47, fun _ h => absurd h List.not_mem_nil⟩⟩⟩⟩⟩⟩⟩⟩⟩⟩⟩⟩⟩⟩⟩⟩
theorem zvr3 : ∀ q ∈ [48, 49, 50, 51, 52, 53, 54, 55, 56, 57, 58, 59, 60, 61, 62, 63], zMv q = true := List.forall_mem_cons.mpr ⟨zv48, List.forall_mem_cons.mpr ⟨zv49, List.forall_mem_cons.mpr ⟨zv50, List.forall_mem_cons.mpr ⟨zv51, List.forall_mem_cons.mpr ⟨zv52, List.forall_mem_cons.mpr ⟨zv53, List.forall_mem_cons.mpr ⟨zv54, List.forall_mem_cons.mpr ⟨zv55, List.forall_mem_cons.mpr ⟨zv56, List.forall_mem_cons.mpr ⟨zv57, List.forall_mem_cons.mpr ⟨zv58, List.forall_mem_cons.mpr ⟨zv59, List.forall_mem_cons.mpr ⟨zv60, List.forall_mem_cons.mpr ⟨zv61, List.forall_mem_cons.mpr ⟨zv62, List.forall_mem_cons.mpr ⟨zv63, fun _ h => absurd h List.not_mem_nil⟩⟩⟩⟩⟩⟩⟩⟩⟩⟩⟩⟩⟩⟩⟩⟩
theorem zvr4 : ∀ q ∈ [64, 65, 66, 67, 68, 69, 70, 71, 72, 73, 74, 75, 76, 77, 78, 79], zMv q = true := List.forall_mem_cons.mpr ⟨zv64, List.forall_mem_cons.mpr ⟨zv65, List.forall_mem_cons.mpr ⟨zv66, List.forall_mem_cons.mpr ⟨zv67, List.forall_mem_cons.mpr ⟨zv68, List.forall_mem_cons.mpr ⟨zv69, List.forall_mem_cons.mpr ⟨zv70, List.forall_mem_cons.mpr ⟨zv71, List.forall_mem_cons.mpr ⟨zv72, List.forall_mem_cons.mpr ⟨zv73, List.forall_mem_cons.mpr ⟨zv74, List.forall_mem_cons.mpr ⟨zv75, List.forall_mem_cons.mpr ⟨zv76, List.forall_mem_cons.mpr ⟨zv77, List.forall_mem_cons.mpr ⟨zv78, List.forall_mem_cons.mpr ⟨zv79, fun _ h => absurd h List.not_mem_nil⟩⟩⟩⟩⟩⟩⟩⟩⟩⟩⟩⟩⟩⟩⟩⟩
theorem zvr5 : ∀ q ∈ [80, 81, 82, 83, 84, 85, 86, 87, 88, 89, 90, 91, 92, 93, 94, 95], zMv q = true := List.forall_mem_cons.mpr ⟨zv80, List.forall_mem_cons.mpr ⟨zv81, List.forall_mem_cons.mpr ⟨zv82, List.forall_mem_cons.mpr ⟨zv83, List.forall_mem_cons.mpr ⟨zv84, List.forall_mem_cons.mpr ⟨zv85, List.forall_mem_cons.mpr ⟨zv86, List.forall_mem_cons.mpr ⟨zv87, List.forall_mem_cons.mpr ⟨zv88, List.forall_mem_cons.mpr ⟨zv89, List.forall_mem_cons.mpr ⟨zv90, List.forall_mem_cons.mpr ⟨zv91, List.forall_mem_cons.mpr ⟨zv92, List.forall_mem_cons.mpr ⟨zv93, List.forall_mem_cons.mpr ⟨zv94, List.forall_mem_cons.mpr ⟨zv95, fun _ h => absurd h List.not_mem_nil⟩⟩⟩⟩⟩⟩⟩⟩⟩⟩⟩⟩⟩⟩⟩⟩
theorem zvr6 : ∀ q ∈ [96, 97, 98, 99, 100, 101, 102, 103, 104, 105, 106, 107, 108, 109, 110, 111], zMv q = true := List.forall_mem_cons.mpr ⟨zv96, List.forall_mem_cons.mpr ⟨zv97, List.forall_mem_cons.mpr ⟨zv98, List.forall_mem_cons.mpr ⟨zv99, List.forall_mem_cons.mpr ⟨zv100, List.forall_mem_cons.mpr ⟨zv101, List.forall_mem_cons.mpr ⟨zv102, List.forall_mem_cons.mpr ⟨zv103, List.forall_mem_cons.mpr ⟨zv104, List.forall_mem_cons.mpr ⟨zv105, List.forall_mem_cons.mpr ⟨zv106, List.forall_mem_cons.mpr ⟨zv107, List.forall_mem_cons.mpr ⟨zv108, List.forall_mem_cons.mpr ⟨zv109, List.forall_mem_cons.mpr ⟨zv110, List.forall_mem_cons.mpr ⟨zv111, fun _ h => absurd h List.not_mem_nil⟩⟩⟩⟩⟩⟩⟩⟩⟩⟩⟩⟩⟩⟩⟩⟩
theorem zvr7 : ∀ q ∈ [112, 113, 114, 115, 116, 117, 118, 119, 120, 121, 122, 123, 124, 125, 126, 127], zMv q = true := List.forall_mem_cons.mpr ⟨zv112, List.forall_mem_cons.mpr ⟨zv113, List.forall_mem_cons.mpr ⟨zv114, List.forall_mem_cons.mpr ⟨zv115, List.forall_mem_cons.mpr ⟨zv116, List.forall_mem_cons.mpr ⟨zv117, List.forall_mem_cons.mpr ⟨zv118, List.forall_mem_cons.mpr ⟨zv119, List.forall_mem_cons.mpr ⟨zv120, List.forall_mem_cons.mpr ⟨zv121, List.forall_mem_cons.mpr ⟨zv122, List.forall_mem_cons.mpr ⟨zv123, List.forall_mem_cons.mpr ⟨zv124, List.forall_mem_cons.mpr ⟨zv125, List.forall_mem_cons.mpr ⟨zv126, List.forall_mem_cons.mpr ⟨zv127, fun _ h => absurd h List.not_mem_nil⟩⟩⟩⟩⟩⟩⟩⟩⟩⟩⟩⟩⟩⟩⟩⟩
theorem zvr8 : ∀ q ∈ [128, 129, 130, 131, 132, 133, 134, 135, 136, 137, 138, 139, 140, 141, 142, 143], zMv q = true := List.forall_mem_cons.mpr ⟨zv128, List.forall_mem_cons.mpr ⟨zv129, List.forall_mem_cons.mpr ⟨zv130, List.forall_mem_cons.mpr ⟨zv131, List.forall_mem_cons.mpr ⟨zv132, List.forall_mem_cons.mpr ⟨zv133, List.forall_mem_cons.mpr ⟨zv134, List.forall_mem_cons.mpr ⟨zv135, List.forall_mem_cons.mpr ⟨zv136, List.forall_mem_cons.mpr ⟨zv137, List.forall_mem_cons.mpr ⟨zv138, List.forall_mem_cons.mpr ⟨zv139, List.forall_mem_cons.mpr ⟨zv140, List.forall_mem_cons.mpr ⟨zv141, List.forall_mem_cons.mpr ⟨zv142, List.forall_mem_cons.mpr ⟨zv143, fun _ h => absurd h List.not_mem_nil⟩⟩⟩⟩⟩⟩⟩⟩⟩⟩⟩⟩⟩⟩⟩⟩
theorem zvr9 : ∀ q ∈ [144, 145, 146, 147, 148, 149, 150, 151, 152, 153, 154, 155, 156, 157, 158, 159], zMv q = true := List.forall_mem_cons.mpr ⟨zv144, List.forall_mem_cons.mpr ⟨zv145, List.forall_mem_cons.mpr ⟨zv146, List.forall_mem_cons.mpr ⟨zv147, List.forall_mem_cons.mpr ⟨zv148, List.forall_mem_cons.mpr ⟨zv149, List.forall_mem_cons.mpr ⟨zv150, List.forall_mem_cons.mpr ⟨zv151, List.forall_mem_cons.mpr ⟨zv152, List.forall_mem_cons.mpr ⟨zv153, List.forall_mem_cons.mpr ⟨zv154, List.forall_mem_cons.mpr ⟨zv155, List.forall_mem_cons.mpr ⟨zv156, List.forall_mem_cons.mpr ⟨zv157, List.forall_mem_cons.mpr ⟨zv158, List.forall_mem_cons.mpr ⟨zv159, fun _ h => absurd h List.not_mem_nil⟩⟩⟩⟩⟩⟩⟩⟩⟩⟩⟩⟩⟩⟩⟩⟩
theorem zvr10 : ∀ q ∈ [160, 161, 162, 163, 164, 165, 166, 167, 168, 169, 170, 171, 172, 173, 174, 175], zMv q = true := List.forall_mem_cons.mpr ⟨zv160, List.forall_mem_cons.mpr ⟨zv161, List.forall_mem_cons.mpr ⟨zv162, List.forall_mem_cons.mpr ⟨zv163, List.forall_mem_cons.mpr ⟨zv164, List.forall_mem_cons.mpr ⟨zv165, List.forall_mem_cons.mpr ⟨zv166, List.forall_mem_cons.mpr ⟨zv167, List.forall_mem_cons.mpr ⟨zv168, List.forall_mem_cons.mpr ⟨zv169, List.forall_mem_cons.mpr ⟨zv170, List.forall_mem_cons.mpr ⟨zv171, List.forall_mem_cons.mpr ⟨zv172, List.forall_mem_cons.mpr ⟨zv173, List.forall_mem_cons.mpr ⟨zv174, List.forall_mem_cons.mpr ⟨zv175, fun _ h => absurd h List.not_mem_nil⟩⟩⟩⟩⟩⟩⟩⟩⟩⟩⟩⟩⟩⟩⟩⟩
theorem zvr11 : ∀ q ∈ [176, 177, 178, 179, 180, 181, 182, 183, 184, 185, 186, 187, 188, 189, 190, 191], zMv q = true := List.forall_mem_cons.mpr ⟨zv176, List.forall_mem_cons.mpr ⟨zv177, List.forall_mem_cons.mpr ⟨zv178, List.forall_mem_cons.mpr ⟨zv179, List.forall_mem_cons.mpr ⟨zv180, List.forall_mem_cons.mpr ⟨zv181, List.forall_mem_cons.mpr ⟨zv182, List.forall_mem_cons.mpr ⟨zv183, List.forall_mem_cons.mpr ⟨zv184, List.forall_mem_cons.mpr ⟨zv185, List.forall_mem_cons.mpr ⟨zv186, List.forall_mem_cons.mpr ⟨zv187, List.forall_mem_cons.mpr ⟨zv188, List.forall_mem_cons.mpr ⟨zv189, List.forall_mem_cons.mpr ⟨zv190, List.forall_mem_cons.mpr ⟨zv191, fun _ h => absurd h List.not_mem_nil⟩⟩⟩⟩⟩⟩⟩⟩⟩⟩⟩⟩⟩⟩⟩⟩
theorem zvr12 : ∀ q ∈ [192, 193, 194, 195, 196, 197, 198, 199, 200, 201, 202, 203, 204, 205, 206, 207], zMv q = true := List.forall_mem_cons.mpr ⟨zv192, List.forall_mem_cons.mpr ⟨zv193, List.forall_mem_cons.mpr ⟨zv194, List.forall_mem_cons.mpr ⟨zv195, List.forall_mem_cons.mpr ⟨zv196, List.forall_mem_cons.mpr ⟨zv197, List.forall_mem_cons.mpr ⟨zv198, List.forall_mem_cons.mpr ⟨zv199, List.forall_mem_cons.mpr ⟨zv200, List.forall_mem_cons.mpr ⟨zv201, List.forall_mem_cons.mpr ⟨zv202, List.forall_mem_cons.mpr ⟨zv203, List.forall_mem_cons.mpr ⟨zv204, List.forall_mem_cons.mpr ⟨zv205, List.forall_mem_cons.mpr ⟨zv206, List.forall_mem_cons.mpr ⟨zv207, fun _ h => absurd h List.not_mem_nil⟩⟩⟩⟩⟩⟩⟩⟩⟩⟩⟩⟩⟩⟩⟩⟩
theorem zvr13 : ∀ q ∈ [208, 209, 210, 211], zMv q = true := List.forall_mem_cons.mpr ⟨zv208, List.forall_mem_cons.mpr ⟨zv209, List.forall_mem_cons.mpr ⟨zv210, List.forall_mem_cons.mpr ⟨zv211, fun _ h => absurd h List.not_mem_nil⟩⟩⟩⟩
theorem zvs : ∀ q ∈ [0, 1, 2, 3, 4, 5, 6, 7, 8, 9, 10, 11, 12, 13, 14, 15] ++ ([16, 17, 18, 19, 20, 21, 22, 23, 24, 25, 26, 27, 28, 29, 30, 31] ++ ([32, 33, 34, 35, 36, 37, 38, 39, 40, 41, 42, 43, 44, 45, 46, 47] ++ ([48, 49, 50, 51, 52, 53, 54, 55, 56, 57, 58, 59, 60, 61, 62, 63] ++ ([64, 65, 66, 67, 68, 69, 70, 71, 72, 73, 74, 75, 76, 77, 78, 79] ++ ([80, 81, 82, 83, 84, 85, 86, 87, 88, 89, 90, 91, 92, 93, 94, 95] ++ ([96, 97, 98, 99, 100, 101, 102, 103, 104, 105, 106, 107, 108, 109, 110, 111] ++ ([112, 113, 114, 115, 116, 117, 118, 119, 120, 121, 122, 123, 124, 125, 126, 127] ++ ([128, 129, 130, 131, 132, 133, 134, 135, 136, 137, 138, 139, 140, 141, 142, 143] ++ ([144, 145, 146, 147, 148, 149, 150, 151, 152, 153, 154, 155, 156, 157, 158, 159] ++ ([160, 161, 162, 163, 164, 165, 166, 167, 168, 169, 170, 171, 172, 173, 174, 175] ++ ([176, 177, 178, 179, 180, 181, 182, 183, 184, 185, 186, 187, 188, 189, 190, 191] ++ ([192, 193, 194, 195, 196, 197, 198, 199, 200, 201, 202, 203, 204, 205, 206, 207] ++ ([208, 209, 210, 211]))))))))))))), zMv q = true := (List.forall_mem_append.mpr ⟨zvr0, (List.forall_mem_append.mpr ⟨zvr1, (List.forall_mem_append.mpr ⟨zvr2, (List.forall_mem_append.mpr ⟨zvr3, (List.forall_mem_append.mpr ⟨zvr4, (List.forall_mem_append.mpr ⟨zvr5, (List.forall_mem_append.mpr ⟨zvr6, (List.forall_mem_append.mpr ⟨zvr7, (List.forall_mem_append.mpr ⟨zvr8, (List.forall_mem_append.mpr ⟨zvr9, (List.forall_mem_append.mpr ⟨zvr10, (List.forall_mem_append.mpr ⟨zvr11, (List.forall_mem_append.mpr ⟨zvr12, zvr13⟩)⟩)⟩)⟩)⟩)⟩)⟩)⟩)⟩)⟩)⟩)⟩)⟩)
theorem zMv_all : ∀ mi, mi < 213 → mi ≠ nL_law → zMv mi = true := fun mi h h2 => zvs mi (of_decide_eq_true (List.all_eq_true.mp (by decide +kernel : ((List.range 213).all fun k => decide (k ≠ nL_law → k ∈ [0, 1, 2, 3, 4, 5, 6, 7, 8, 9, 10, 11, 12, 13, 14, 15] ++ ([16, 17, 18, 19, 20, 21, 22, 23, 24, 25, 26, 27, 28, 29, 30, 31] ++ ([32, 33, 34, 35, 36, 37, 38, 39, 40, 41, 42, 43, 44, 45, 46, 47] ++ ([48, 49, 50, 51, 52, 53, 54, 55, 56, 57, 58, 59, 60, 61, 62, 63] ++ ([64, 65, 66, 67, 68, 69, 70, 71, 72, 73, 74, 75, 76, 77, 78, 79] ++ ([80, 81, 82, 83, 84, 85, 86, 87, 88, 89, 90, 91, 92, 93, 94, 95] ++ ([96, 97, 98, 99, 100, 101, 102, 103, 104, 105, 106, 107, 108, 109, 110, 111] ++ ([112, 113, 114, 115, 116, 117, 118, 119, 120, 121, 122, 123, 124, 125, 126, 127] ++ ([128, 129, 130, 131, 132, 133, 134, 135, 136, 137, 138, 139, 140, 141, 142, 143] ++ ([144, 145, 146, 147, 148, 149, 150, 151, 152, 153, 154, 155, 156, 157, 158, 159] ++ ([160, 161, 162, 163, 164, 165, 166, 167, 168, 169, 170, 171, 172, 173, 174, 175] ++ ([176, 177, 178, 179, 180, 181, 182, 183, 184, 185, 186, 187, 188, 189, 190, 191] ++ ([192, 193, 194, 195, 196, 197, 198, 199, 200, 201, 202, 203, 204, 205, 206, 207] ++ ([208, 209, 210, 211]))))))))))))))) = true) mi (List.mem_range.mpr h)) h2)
set_option maxRecDepth 100000 in
theorem zCv_all : vwCl.all zCv = true := by decide +kernel
set_option maxRecDepth 100000 in
theorem zIn_max : lw_tbl.contains (.static Lib.Math.max.name) && lw_tbl.contains (.code Lib.Math.max.name Lib.Math.max.code 2 (some .int)) && lw_tbl.contains (.static Lib.Math.min.name) && lw_tbl.contains (.code Lib.Math.min.name Lib.Math.min.code 2 (some .int)) && lw_tbl.contains (.static Lib.Math.abs.name) && lw_tbl.contains (.code Lib.Math.abs.name Lib.Math.abs.code 1 (some .int)) && lw_tbl.contains (.initialized "java/lang/Math") && lw_tbl.contains (.native arraycopyName) && lw_tbl.contains (.static arraycopyName) && lw_tbl.contains (.initialized "java/lang/System") = true := by decide +kernel
end
section
/-! A SMALL MACHINE: what a method's code does to numbers alone. A reference is a role (a place in zSh); the world's numbers are a pair of functions. -/
abbrev zF : Type := Nat → Nat → Int32
abbrev zL : Type := Nat → Nat → Int64
abbrev zS : Type := zF × zL
/-- an instruction, read ahead: (instr, next pc, a, b, c, e, place of its word, int, long, targets) -/
abbrev zOp : Type := Instr × Nat × Nat × Nat × Nat × Nat × Nat × Int32 × Int64 × List (Int32 × Nat)
abbrev zLo : Type := List (Option Value)
abbrev zPo : Type := Option Value → zS → Prop
abbrev zCa : Type := Nat → List Value → zS → zPo → Prop
abbrev zX : Type := Nat → zLo → List Value → zS → Prop
def zK (r : Nat) : zKd := zSh.getD r (9, 0, [])
def zIsO (r ci : Nat) : Bool := Nat.beq (zK r).1 0 && Nat.beq (zK r).2.1 ci
def zSl (r j : Nat) : Nat × Nat := (zK r).2.2.getD j (9, 0)
def zTo (r j : Nat) : Nat := (zSl r j).2
def zIsI (r : Nat) : Bool := Nat.beq (zK r).1 1
def zIsJ (r : Nat) : Bool := Nat.beq (zK r).1 2
def zN (r : Nat) : Nat := (zK r).2.1
def zG (b : Bool) (P : Prop) : Prop := match b with
  | true => P
  | false => False
def zSI (σ : zS) (r j : Nat) (x : Int32) : zS := (fun a => if a = r then upd (σ.1 a) j x else σ.1 a, σ.2)
def zSJ (σ : zS) (r j : Nat) (x : Int64) : zS := (σ.1, fun a => if a = r then vp_updL (σ.2 a) j x else σ.2 a)
def zSR (σ : zS) (r : Nat) (f : Nat → Int32) : zS := (fun a => if a = r then f else σ.1 a, σ.2)
-- what is taken off the stack
def zI (st : List Value) (k : Int32 → List Value → Prop) : Prop := match st with
  | .int x :: r => k x r
  | _ => False
def zJ (st : List Value) (k : Int64 → List Value → Prop) : Prop := match st with
  | .long x :: r => k x r
  | _ => False
def zA (st : List Value) (k : Nat → List Value → Prop) : Prop := match st with
  | .ref x :: r => k x r
  | _ => False
def zII (st : List Value) (k : Int32 → Int32 → List Value → Prop) : Prop := zI st fun y r => zI r fun x r => k x y r
def zJJ (st : List Value) (k : Int64 → Int64 → List Value → Prop) : Prop := zJ st fun y r => zJ r fun x r => k x y r
def zAI (st : List Value) (k : Nat → Int32 → List Value → Prop) : Prop := zI st fun i r => zA r fun a r => k a i r
def zCat : Value → Nat
  | .long _ => 2
  | .double _ => 2
  | _ => 1
def zV1 (st : List Value) (k : Value → List Value → Prop) : Prop := match st with
  | v :: r => zG (Nat.beq (zCat v) 1) (k v r)
  | _ => False
def zLg (ls : zLo) (i : Nat) (k : Value → Prop) : Prop := match ls.getD i none with
  | some v => k v
  | none => False
def zLi (ls : zLo) (i : Nat) (k : Int32 → Prop) : Prop := zLg ls i fun v => match v with
  | .int x => k x
  | _ => False
def zLj (ls : zLo) (i : Nat) (k : Int64 → Prop) : Prop := zLg ls i fun v => match v with
  | .long x => k x
  | _ => False
def zLa (ls : zLo) (i : Nat) (k : Nat → Prop) : Prop := zLg ls i fun v => match v with
  | .ref x => k x
  | _ => False
def zNo2 : Option Value → Option Value
  | some (.long _) => none
  | some (.double _) => none
  | o => o
def zS1 (v : Value) : zLo → Nat → zLo
  | [], _ => []
  | _ :: r, 0 => some v :: r
  | o :: r, 1 => zNo2 o :: zS1 v r 0
  | o :: r, i + 2 => o :: zS1 v r (i + 1)
def zS2 (v : Value) : zLo → Nat → zLo
  | [], _ => []
  | [_], _ => [none]
  | _ :: _ :: r, 0 => some v :: none :: r
  | o :: r, 1 => zNo2 o :: zS2 v r 0
  | o :: r, i + 2 => o :: zS2 v r (i + 1)
def zAr : List Value → zLo
  | [] => []
  | v :: r => match zCat v with
    | 2 => some v :: none :: zAr r
    | _ => some v :: zAr r
def zPn : Nat → List Value → List Value → (List Value → List Value → Prop) → Prop
  | 0, acc, st, k => k acc st
  | _ + 1, _, [], _ => False
  | n + 1, acc, v :: st, k => zPn n (v :: acc) st k
def zRc (av : List Value) (ci : Nat) : Bool := match av with
  | .ref r :: _ => zIsO r ci
  | _ => false
def zW8 : List Value → Nat
  | [] => 0
  | v :: r => zCat v + zW8 r
-- what a call hands back
def zPI (k : Int32 → zS → Prop) : zPo := fun r σ => ∃ x : Int32, r = some (.int x) ∧ k x σ
def zPJ (k : Int64 → zS → Prop) : zPo := fun r σ => ∃ x : Int64, r = some (.long x) ∧ k x σ
def zPV (k : zS → Prop) : zPo := fun r σ => r = none ∧ k σ
def zTb (x : Int32) (X : Nat → Prop) (d : Nat) : List (Int32 × Nat) → Prop
  | [] => X d
  | q :: r => (x = q.1 → X q.2) ∧ (¬ x = q.1 → zTb x X d r)
def zRI (st : List Value) (k : Int32 → Prop) : Prop := match st with
  | [.int x] => k x
  | _ => False
def zRJ (st : List Value) (k : Int64 → Prop) : Prop := match st with
  | [.long x] => k x
  | _ => False
def zRV (st : List Value) (k : Prop) : Prop := match st with
  | [] => k
  | _ => False
def zIf (c : Prop) (A B : Prop) : Prop := (c → A) ∧ (¬ c → B)
def zIl (sc : Option (Nat × (Nat → Int32))) (σ : zS) (q : Nat) (i : Int32) (k : Int32 → Prop) : Prop := match zIsI q with
  | true => vp_in i (zN q) ∧ k (σ.1 q i.toNatClampNeg)
  | false => match sc with
    | some s => zG (Nat.beq q 80) (vp_in i s.1 ∧ k (s.2 i.toNatClampNeg))
    | none => False
def zLe (sc : Option (Nat × (Nat → Int32))) (q : Nat) (k : Int32 → Prop) : Prop := match zIsI q || zIsJ q with
  | true => k (nI (zN q))
  | false => match sc with
    | some s => zG (Nat.beq q 80) (k (nI s.1))
    | none => False
/-- one instruction -/
def zEx (sc : Option (Nat × (Nat → Int32))) (C : zCa) (post : zPo) (X : zX) (o : zOp) (ls : zLo) (st : List Value) (σ : zS) : Prop := match o with
  | (i, n, a, b, c, e, _, v, w, tb) => match i with
    | .iconst _ => X n ls (.int v :: st) σ
    | .bipush _ => X n ls (.int v :: st) σ
    | .sipush _ => X n ls (.int v :: st) σ
    | .ldc _ => X n ls (.int v :: st) σ
    | .lconst _ => X n ls (.long w :: st) σ
    | .ldc2_w _ => X n ls (.long w :: st) σ
    | .iload_n _ => zLi ls a fun x => X n ls (.int x :: st) σ
    | .iload _ => zLi ls a fun x => X n ls (.int x :: st) σ
    | .lload_n _ => zLj ls a fun x => X n ls (.long x :: st) σ
    | .lload _ => zLj ls a fun x => X n ls (.long x :: st) σ
    | .aload_n _ => zLa ls a fun x => X n ls (.ref x :: st) σ
    | .aload _ => zLa ls a fun x => X n ls (.ref x :: st) σ
    | .istore_n _ => zI st fun x r => zG (Nat.blt a ls.length) (X n (zS1 (.int x) ls a) r σ)
    | .istore _ => zI st fun x r => zG (Nat.blt a ls.length) (X n (zS1 (.int x) ls a) r σ)
    | .lstore_n _ => zJ st fun x r => zG (Nat.blt (a + 1) ls.length) (X n (zS2 (.long x) ls a) r σ)
    | .lstore _ => zJ st fun x r => zG (Nat.blt (a + 1) ls.length) (X n (zS2 (.long x) ls a) r σ)
    | .astore_n _ => zA st fun x r => zG (Nat.blt a ls.length) (X n (zS1 (.ref x) ls a) r σ)
    | .iinc _ _ => zLi ls a fun x => X n (zS1 (.int (x + v)) ls a) st σ
    | .iadd => zII st fun x y r => X n ls (.int (x + y) :: r) σ
    | .isub => zII st fun x y r => X n ls (.int (x - y) :: r) σ
    | .imul => zII st fun x y r => X n ls (.int (x * y) :: r) σ
    | .iand => zII st fun x y r => X n ls (.int (x &&& y) :: r) σ
    | .idiv => zII st fun x y r => ¬ y = 0 ∧ X n ls (.int (x / y) :: r) σ
    | .irem => zII st fun x y r => ¬ y = 0 ∧ X n ls (.int (x - x / y * y) :: r) σ
    | .ineg => zI st fun x r => X n ls (.int (-x) :: r) σ
    | .ladd => zJJ st fun x y r => X n ls (.long (x + y) :: r) σ
    | .lsub => zJJ st fun x y r => X n ls (.long (x - y) :: r) σ
    | .lmul => zJJ st fun x y r => X n ls (.long (x * y) :: r) σ
    | .ldiv => zJJ st fun x y r => ¬ y = 0 ∧ X n ls (.long (x / y) :: r) σ
    | .lcmp => zJJ st fun x y r => X n ls (.int (lg_cmp x y) :: r) σ
    | .i2l => zI st fun x r => X n ls (.long x.toInt64 :: r) σ
    | .l2i => zJ st fun x r => X n ls (.int x.toInt32 :: r) σ
    | .dup => zV1 st fun v r => X n ls (v :: v :: r) σ
    | .pop => zV1 st fun _ r => X n ls r σ
    | .dup2 => zV1 st fun v r => zV1 r fun u r => X n ls (v :: u :: v :: u :: r) σ
    | .ifCond .eq _ => zI st fun x r => zIf (x = 0) (X a ls r σ) (X n ls r σ)
    | .ifCond .ne _ => zI st fun x r => zIf (x = 0) (X n ls r σ) (X a ls r σ)
    | .ifCond .lt _ => zI st fun x r => zIf (x < 0) (X a ls r σ) (X n ls r σ)
    | .ifCond .ge _ => zI st fun x r => zIf (x < 0) (X n ls r σ) (X a ls r σ)
    | .ifCond .gt _ => zI st fun x r => zIf (x ≤ 0) (X n ls r σ) (X a ls r σ)
    | .ifCond .le _ => zI st fun x r => zIf (x ≤ 0) (X a ls r σ) (X n ls r σ)
    | .if_icmp .eq _ => zII st fun x y r => zIf (x = y) (X a ls r σ) (X n ls r σ)
    | .if_icmp .ne _ => zII st fun x y r => zIf (x = y) (X n ls r σ) (X a ls r σ)
    | .if_icmp .lt _ => zII st fun x y r => zIf (x < y) (X a ls r σ) (X n ls r σ)
    | .if_icmp .ge _ => zII st fun x y r => zIf (x < y) (X n ls r σ) (X a ls r σ)
    | .if_icmp .gt _ => zII st fun x y r => zIf (x ≤ y) (X n ls r σ) (X a ls r σ)
    | .if_icmp .le _ => zII st fun x y r => zIf (x ≤ y) (X a ls r σ) (X n ls r σ)
    | .goto _ => X a ls st σ
    | .tableswitch _ _ _ _ => zI st fun x r => zTb x (fun p => X p ls r σ) a tb
    | .lookupswitch _ _ => zI st fun x r => zTb x (fun p => X p ls r σ) a tb
    | .getfield _ => zA st fun q r => zG (zIsO q a && Nat.beq (zSl q b).1 c) (match c with
      | 0 => X n ls (.ref (zTo q b) :: r) σ
      | 1 => X n ls (.int (σ.1 q b) :: r) σ
      | 2 => X n ls (.int (σ.1 q b) :: r) σ
      | 3 => X n ls (.long (σ.2 q b) :: r) σ
      | _ => False)
    | .putfield _ => match c with
      | 1 => zI st fun x r => zA r fun q r => zG (zIsO q a && Nat.beq (zSl q b).1 1) (X n ls r (zSI σ q b x))
      | 2 => zI st fun x r => zA r fun q r => zG (zIsO q a && Nat.beq (zSl q b).1 2) (zG (x == 0 || x == 1) (X n ls r (zSI σ q b x)))
      | 3 => zJ st fun x r => zA r fun q r => zG (zIsO q a && Nat.beq (zSl q b).1 3) (X n ls r (zSJ σ q b x))
      | _ => False
    | .iaload => zAI st fun q i r => zIl sc σ q i fun x => X n ls (.int x :: r) σ
    | .laload => zAI st fun q i r => zG (zIsJ q) (vp_in i (zN q) ∧ X n ls (.long (σ.2 q i.toNatClampNeg) :: r) σ)
    | .iastore => zI st fun x r => zAI r fun q i r => zG (zIsI q) (vp_in i (zN q) ∧ X n ls r (zSI σ q i.toNatClampNeg x))
    | .lastore => zJ st fun x r => zAI r fun q i r => zG (zIsJ q) (vp_in i (zN q) ∧ X n ls r (zSJ σ q i.toNatClampNeg x))
    | .arraylength => zA st fun q r => zLe sc q fun x => X n ls (.int x :: r) σ
    | .invokevirtual _ => zPn b [] st fun av r => zG (zRc av e && Nat.ble (zW8 r) 8) (match c with
      | 0 => C a av σ (zPV fun σ => X n ls r σ)
      | 1 => C a av σ (zPI fun x σ => X n ls (.int x :: r) σ)
      | _ => C a av σ (zPJ fun x σ => X n ls (.long x :: r) σ))
    | .invokestatic _ => match e with
      | 0 => zPn b [] st fun av r => zG (Nat.ble (zW8 r) 8) (match c with
        | 0 => C a av σ (zPV fun σ => X n ls r σ)
        | 1 => C a av σ (zPI fun x σ => X n ls (.int x :: r) σ)
        | _ => C a av σ (zPJ fun x σ => X n ls (.long x :: r) σ))
      | 1 => zII st fun x y r => zG (Nat.ble (zW8 r) 8) (X n ls (.int (if x < y then y else x) :: r) σ)
      | 2 => zII st fun x y r => zG (Nat.ble (zW8 r) 8) (X n ls (.int (if y < x then y else x) :: r) σ)
      | 3 => zI st fun x r => zG (Nat.ble (zW8 r) 8) (X n ls (.int (if 0 ≤ x then x else 0 - x) :: r) σ)
      | _ => zI st fun k r => zI r fun dp r => zA r fun d r => zI r fun sp r => zA r fun q r => zG (zIsI q && zIsI d && Nat.ble (zW8 r) 8) ((¬ sp < 0 ∧ ¬ dp < 0 ∧ ¬ k < 0 ∧ sp.toNatClampNeg + k.toNatClampNeg ≤ zN q ∧ dp.toNatClampNeg + k.toNatClampNeg ≤ zN d) ∧ X n ls r (zSR σ d (va_cpy (σ.1 q) (σ.1 d) sp.toNatClampNeg dp.toNatClampNeg k.toNatClampNeg)))
    | .ireturn => zRI st fun x => match c with
      | 1 => zG (x == 0 || x == 1) (post (some (.int x)) σ)
      | _ => post (some (.int x)) σ
    | .lreturn => zRJ st fun x => post (some (.long x)) σ
    | .return_ => zRV st (post none σ)
    | _ => False
/-! what a program checks of the code -/
def zTbOk (pc : Nat) : Int → List Int → List (Int32 × Nat) → Bool
  | _, [], [] => true
  | k, o :: os, q :: tb => decide (q.1.toInt = k) && decide ((pc : Int) + o = (q.2 : Int)) && zTbOk pc (k + 1) os tb
  | _, _, _ => false
def zLkOk (pc : Nat) : List (Int × Int) → List (Int32 × Nat) → Bool
  | [], [] => true
  | o :: os, q :: tb => decide (q.1.toInt = o.1) && decide ((pc : Int) + o.2 = (q.2 : Int)) && zLkOk pc os tb
  | _, _ => false
def zRk (r : Option FieldType) (c : Nat) : Bool := match r, c with
  | none, 0 => true
  | some .int, 1 => true
  | some .boolean, 1 => true
  | some .long, 2 => true
  | _, _ => false
def zKt : Nat → FieldType
  | 1 => .int
  | 2 => .boolean
  | _ => .long
def zFl (own : String) (idx a b g : Nat) : Bool := decide (lw_tbl[g]? = some (.fieldLink own idx ((zCl a).2.1 b).1 ((zCl a).2.1 b).2.1 ((zCl a).2.1 b).2.2.1))
def zFn (own : String) (idx a b g : Nat) : Bool := decide (lw_tbl[g]? = some (.fieldLinkNest own idx ((zCl a).2.1 b).1 ((zCl a).2.1 b).2.1 ((zCl a).2.1 b).2.2.1 "RatePlanner"))
/-- the code at a place is this instruction, read ahead -/
def zOk (mi pc : Nat) (o : zOp) : Bool := match o with
  | (i, n, a, b, c, e, g, v, w, tb) => Nat.blt pc n && decide (decode (zBy mi) pc = .ok (i, n - pc)) && (match i with
    | .iconst z => Nat.beq (n - pc) 1 && decide (Int32.ofInt z = v)
    | .bipush z => Nat.beq (n - pc) 2 && decide ((Int8.ofInt z).toInt32 = v)
    | .sipush z => Nat.beq (n - pc) 3 && decide ((Int16.ofInt z).toInt32 = v)
    | .ldc idx => Nat.beq (n - pc) 2 && decide (lw_tbl[g]? = some (.constant (zY mi).cls idx v))
    | .lconst z => Nat.beq (n - pc) 1 && decide (Int64.ofNat (z : Nat) = w)
    | .ldc2_w idx => Nat.beq (n - pc) 3 && decide (lw_tbl[g]? = some (.constantLong (zY mi).cls idx w))
    | .iload_n k => Nat.beq (n - pc) 1 && Nat.beq k.val a
    | .iload k => Nat.beq (n - pc) 2 && Nat.beq k a
    | .lload_n k => Nat.beq (n - pc) 1 && Nat.beq k.val a
    | .lload k => Nat.beq (n - pc) 2 && Nat.beq k a
    | .aload_n k => Nat.beq (n - pc) 1 && Nat.beq k.val a
    | .aload k => Nat.beq (n - pc) 2 && Nat.beq k a
    | .istore_n k => Nat.beq (n - pc) 1 && Nat.beq k.val a
    | .istore k => Nat.beq (n - pc) 2 && Nat.beq k a
    | .lstore_n k => Nat.beq (n - pc) 1 && Nat.beq k.val a
    | .lstore k => Nat.beq (n - pc) 2 && Nat.beq k a
    | .astore_n k => Nat.beq (n - pc) 1 && Nat.beq k.val a
    | .iinc k z => Nat.beq (n - pc) 3 && Nat.beq k a && decide (Int32.ofInt z = v)
    | .ifCond _ off => Nat.beq (n - pc) 3 && decide ((pc : Int) + off = (a : Int))
    | .if_icmp _ off => Nat.beq (n - pc) 3 && decide ((pc : Int) + off = (a : Int))
    | .goto off => Nat.beq (n - pc) 3 && decide ((pc : Int) + off = (a : Int))
    | .tableswitch d lo hi offs => decide ((pc : Int) + d = (a : Int)) && decide (hi = lo + (offs.toList.length : Int) - 1) && zTbOk pc lo offs.toList tb
    | .lookupswitch d ps => decide ((pc : Int) + d = (a : Int)) && (ps.toList.zip (ps.toList.drop 1)).all (fun (x, y) => x.1 < y.1) && zLkOk pc ps.toList tb
    | .getfield idx => Nat.beq (n - pc) 3 && Nat.blt a 13 && Nat.blt b (zCl a).2.2 && (zFl (zY mi).cls idx a b g || zFn (zY mi).cls idx a b g)
    | .putfield idx => Nat.beq (n - pc) 3 && Nat.blt a 13 && Nat.blt b (zCl a).2.2 && zFl (zY mi).cls idx a b g && !((zCl a).2.1 b).2.2.2 && decide (parseFieldDescriptor ((zCl a).2.1 b).2.2.1 = some (zKt c))
    | .invokevirtual idx => Nat.beq (n - pc) 3 && Nat.blt a 213 && !(Nat.beq a nL_law) && !(zMs a) && Nat.beq e (zMc a) && !(decide ((zY a).name = "<init>")) && Nat.blt 0 b && decide ((parseMethodDescriptor (zY a).desc).map (fun d => d.parameters.length) = some (b - 1)) && zRk (zRt a) c &&
      (decide (lw_tbl[g]? = some (.methodLink (zY mi).cls idx (zY a))) || decide (lw_tbl[g]? = some (.methodLinkNest (zY mi).cls idx (zY a) "RatePlanner")))
    | .invokestatic idx => Nat.beq (n - pc) 3 && (match e with
      | 0 => Nat.blt a 213 && !(Nat.beq a nL_law) && zMs a && decide ((parseMethodDescriptor (zY a).desc).map (fun d => d.parameters.length) = some b) && zRk (zRt a) c &&
        (decide (lw_tbl[g]? = some (.methodLink (zY mi).cls idx (zY a))) || decide (lw_tbl[g]? = some (.methodLinkNest (zY mi).cls idx (zY a) "RatePlanner")))
      | 1 => decide (lw_tbl[g]? = some (.methodLink (zY mi).cls idx Lib.Math.max.name))
      | 2 => decide (lw_tbl[g]? = some (.methodLink (zY mi).cls idx Lib.Math.min.name))
      | 3 => decide (lw_tbl[g]? = some (.methodLink (zY mi).cls idx Lib.Math.abs.name))
      | _ => decide (lw_tbl[g]? = some (.methodLink (zY mi).cls idx arraycopyName)))
    | .ireturn => Nat.beq (n - pc) 1 && (match zRt mi, c with
      | some .int, 0 => true
      | some .boolean, 1 => true
      | _, _ => false)
    | .lreturn => Nat.beq (n - pc) 1 && decide (zRt mi = some .long)
    | .return_ => Nat.beq (n - pc) 1 && decide (zRt mi = none)
    | _ => Nat.beq (n - pc) 1)
def zOks (mi : Nat) : List zOp → Nat → Bool
  | [], _ => true
  | o :: r, p => zOk mi p o && zOks mi r o.2.1
end
section
/-! the world of a pair of functions, as the kit's cells; locals; what is taken off the stack -/
def zR (ad : Nat → Nat) : Value → Value
  | .ref r => .ref (ad r)
  | v => v
def zFs (ad : Nat → Nat) (σ : zS) (r : Nat) : Nat → List (Nat × Nat) → List Value
  | _, [] => []
  | j, s :: t => (match s.1 with
    | 0 => .ref (ad s.2)
    | 3 => .long (σ.2 r j)
    | _ => .int (σ.1 r j)) :: zFs ad σ r (j + 1) t
def zEn (ad : Nat → Nat) (cI cJ : ClassId) (σ : zS) (r : Nat) (kd : zKd) : va_E := match kd.1 with
  | 0 => .inr (kd.2.1, zFs ad σ r 0 kd.2.2)
  | 1 => .inl (cI, kd.2.1, .inl (σ.1 r))
  | _ => .inl (cJ, kd.2.1, .inr (.inl (σ.2 r)))
def zWA (ad : Nat → Nat) (cI cJ : ClassId) (σ : zS) : Nat → List zKd → va_W
  | _, [] => []
  | r, kd :: t => (ad r, zEn ad cI cJ σ r kd) :: zWA ad cI cJ σ (r + 1) t
def zW (ad : Nat → Nat) (cI cJ : ClassId) (σ : zS) : va_W := zWA ad cI cJ σ 0 zSh
theorem zFs_len (ad : Nat → Nat) (σ : zS) (r : Nat) : ∀ (sl : List (Nat × Nat)) (j : Nat), (zFs ad σ r j sl).length = sl.length
  | [], _ => rfl
  | _ :: t, j => by simp only [zFs, List.length_cons, zFs_len ad σ r t (j + 1)]
theorem zFs_get (ad : Nat → Nat) (σ : zS) (r : Nat) : ∀ (sl : List (Nat × Nat)) (j k : Nat) (s : Nat × Nat), sl[k]? = some s → (zFs ad σ r j sl)[k]? = some (match s.1 with
    | 0 => .ref (ad s.2)
    | 3 => .long (σ.2 r (j + k))
    | _ => .int (σ.1 r (j + k)))
  | [], _, _, _, h => by simp at h
  | q :: t, j, 0, s, h => by
    simp only [List.getElem?_cons_zero, Option.some.injEq] at h
    subst h
    simp only [zFs, List.getElem?_cons_zero, Nat.add_zero]
  | q :: t, j, k + 1, s, h => by
    simp only [List.getElem?_cons_succ] at h
    have e := zFs_get ad σ r t (j + 1) k s h
    simp only [zFs, List.getElem?_cons_succ, e, show j + 1 + k = j + (k + 1) by omega]
theorem zFs_cong (ad : Nat → Nat) {σ τ : zS} (r : Nat) (h1 : τ.1 r = σ.1 r) (h2 : τ.2 r = σ.2 r) : ∀ (sl : List (Nat × Nat)) (j : Nat), zFs ad τ r j sl = zFs ad σ r j sl
  | [], _ => rfl
  | q :: t, j => by simp only [zFs, h1, h2, zFs_cong ad r h1 h2 t (j + 1)]
theorem zFs_far (ad : Nat → Nat) {σ τ : zS} (r k : Nat) (h1 : ∀ j, j ≠ k → τ.1 r j = σ.1 r j) (h2 : ∀ j, j ≠ k → τ.2 r j = σ.2 r j) : ∀ (sl : List (Nat × Nat)) (j : Nat), k < j → zFs ad τ r j sl = zFs ad σ r j sl
  | [], _, _ => rfl
  | q :: t, j, h => by simp only [zFs, h1 j (by omega), h2 j (by omega), zFs_far ad r k h1 h2 t (j + 1) (by omega)]
theorem zFs_setI (ad : Nat → Nat) (σ : zS) (r : Nat) (x : Int32) : ∀ (sl : List (Nat × Nat)) (j k : Nat) (s : Nat × Nat), sl[k]? = some s → (s.1 = 1 ∨ s.1 = 2) → (zFs ad σ r j sl).set k (.int x) = zFs ad (zSI σ r (j + k) x) r j sl
  | [], _, _, _, h, _ => by simp at h
  | q :: t, j, 0, s, h, hs => by
    simp only [List.getElem?_cons_zero, Option.some.injEq] at h
    subst h
    have e : zFs ad (zSI σ r (j + 0) x) r (j + 1) t = zFs ad σ r (j + 1) t := zFs_far ad (τ := zSI σ r (j + 0) x) (σ := σ) r j (fun i hi => by simp [zSI, upd, hi]) (fun i hi => rfl) t (j + 1) (by omega)
    simp only [zFs, List.set_cons_zero, e]
    rcases hs with hs | hs <;> simp [hs, zSI, upd]
  | q :: t, j, k + 1, s, h, hs => by
    simp only [List.getElem?_cons_succ] at h
    have e := zFs_setI ad σ r x t (j + 1) k s h hs
    rw [show j + 1 + k = j + (k + 1) by omega] at e
    simp only [zFs, List.set_cons_succ, e]
    have h1 : (zSI σ r (j + (k + 1)) x).1 r j = σ.1 r j := by
      have : ¬ j = j + (k + 1) := by omega
      simp [zSI, upd, this]
    simp only [h1]
    rfl
theorem zFs_setJ (ad : Nat → Nat) (σ : zS) (r : Nat) (x : Int64) : ∀ (sl : List (Nat × Nat)) (j k : Nat) (s : Nat × Nat), sl[k]? = some s → s.1 = 3 → (zFs ad σ r j sl).set k (.long x) = zFs ad (zSJ σ r (j + k) x) r j sl
  | [], _, _, _, h, _ => by simp at h
  | q :: t, j, 0, s, h, hs => by
    simp only [List.getElem?_cons_zero, Option.some.injEq] at h
    subst h
    have e : zFs ad (zSJ σ r (j + 0) x) r (j + 1) t = zFs ad σ r (j + 1) t := zFs_far ad (τ := zSJ σ r (j + 0) x) (σ := σ) r j (fun i hi => rfl) (fun i hi => by simp [zSJ, vp_updL, hi]) t (j + 1) (by omega)
    simp only [zFs, List.set_cons_zero, e]
    simp [hs, zSJ, vp_updL]
  | q :: t, j, k + 1, s, h, hs => by
    simp only [List.getElem?_cons_succ] at h
    have e := zFs_setJ ad σ r x t (j + 1) k s h hs
    rw [show j + 1 + k = j + (k + 1) by omega] at e
    simp only [zFs, List.set_cons_succ, e]
    have h1 : (zSJ σ r (j + (k + 1)) x).2 r j = σ.2 r j := by
      have : ¬ j = j + (k + 1) := by omega
      simp [zSJ, vp_updL, this]
    simp only [h1]
    rfl
theorem zEn_cong (ad : Nat → Nat) (cI cJ : ClassId) {σ τ : zS} (r : Nat) (h1 : τ.1 r = σ.1 r) (h2 : τ.2 r = σ.2 r) (kd : zKd) : zEn ad cI cJ τ r kd = zEn ad cI cJ σ r kd := by
  unfold zEn
  rw [zFs_cong ad r h1 h2, h1, h2]
theorem zWA_get (ad : Nat → Nat) (cI cJ : ClassId) (σ : zS) : ∀ (l : List zKd) (r k : Nat) (kd : zKd), l[k]? = some kd → (zWA ad cI cJ σ r l)[k]? = some (ad (r + k), zEn ad cI cJ σ (r + k) kd)
  | [], _, _, _, h => by simp at h
  | q :: t, r, 0, kd, h => by
    simp only [List.getElem?_cons_zero, Option.some.injEq] at h
    subst h
    rfl
  | q :: t, r, k + 1, kd, h => by
    simp only [List.getElem?_cons_succ] at h
    have e := zWA_get ad cI cJ σ t (r + 1) k kd h
    simp only [zWA, List.getElem?_cons_succ, e, show r + 1 + k = r + (k + 1) by omega]
theorem zWA_len (ad : Nat → Nat) (cI cJ : ClassId) (σ : zS) : ∀ (l : List zKd) (r : Nat), (zWA ad cI cJ σ r l).length = l.length
  | [], _ => rfl
  | _ :: t, r => by simp only [zWA, List.length_cons, zWA_len ad cI cJ σ t (r + 1)]
theorem zWA_far (ad : Nat → Nat) (cI cJ : ClassId) {σ τ : zS} (k : Nat) (h : ∀ r kd, r ≠ k → zEn ad cI cJ τ r kd = zEn ad cI cJ σ r kd) : ∀ (l : List zKd) (r : Nat), k < r → zWA ad cI cJ τ r l = zWA ad cI cJ σ r l
  | [], _, _ => rfl
  | q :: t, r, hr => by simp only [zWA, h r q (by omega), zWA_far ad cI cJ k h t (r + 1) (by omega)]
theorem zWA_set (ad : Nat → Nat) (cI cJ : ClassId) {σ τ : zS} : ∀ (l : List zKd) (r k : Nat) (kd : zKd), (∀ a kd, a ≠ r + k → zEn ad cI cJ τ a kd = zEn ad cI cJ σ a kd) → l[k]? = some kd → (zWA ad cI cJ σ r l).set k (ad (r + k), zEn ad cI cJ τ (r + k) kd) = zWA ad cI cJ τ r l
  | [], _, _, _, _, h => by simp at h
  | q :: t, r, 0, kd, hc, h => by
    simp only [List.getElem?_cons_zero, Option.some.injEq] at h
    subst h
    simp only [zWA, List.set_cons_zero, Nat.add_zero, zWA_far ad cI cJ r (fun a kd ha => hc a kd (by omega)) t (r + 1) (by omega)]
  | q :: t, r, k + 1, kd, hc, h => by
    simp only [List.getElem?_cons_succ] at h
    have e := zWA_set ad cI cJ (τ := τ) (σ := σ) t (r + 1) k kd (fun a kd ha => hc a kd (by omega)) h
    rw [show r + 1 + k = r + (k + 1) by omega] at e
    simp only [zWA, List.set_cons_succ, e, hc r q (by omega)]
theorem zW_get (ad : Nat → Nat) (cI cJ : ClassId) (σ : zS) {r : Nat} {kd : zKd} (h : zSh[r]? = some kd) : (zW ad cI cJ σ)[r]? = some (ad r, zEn ad cI cJ σ r kd) := by
  have e := zWA_get ad cI cJ σ zSh 0 r kd h
  rwa [Nat.zero_add] at e
theorem zW_set (ad : Nat → Nat) (cI cJ : ClassId) {σ τ : zS} {r : Nat} {kd : zKd} (h : zSh[r]? = some kd) (h1 : ∀ a, a ≠ r → τ.1 a = σ.1 a) (h2 : ∀ a, a ≠ r → τ.2 a = σ.2 a) : (zW ad cI cJ σ).set r (ad r, zEn ad cI cJ τ r kd) = zW ad cI cJ τ := by
  have e := zWA_set ad cI cJ (τ := τ) (σ := σ) zSh 0 r kd (fun a k ha => zEn_cong ad cI cJ a (h1 a (by omega)) (h2 a (by omega)) k) h
  rwa [Nat.zero_add] at e
theorem zSI_1 {σ : zS} {r j : Nat} {x : Int32} {a : Nat} (h : a ≠ r) : (zSI σ r j x).1 a = σ.1 a := by simp [zSI, h]
theorem zSI_s {σ : zS} {r j : Nat} {x : Int32} : (zSI σ r j x).1 r = upd (σ.1 r) j x := by simp [zSI]
theorem zSJ_1 {σ : zS} {r j : Nat} {x : Int64} {a : Nat} (h : a ≠ r) : (zSJ σ r j x).2 a = σ.2 a := by simp [zSJ, h]
theorem zSJ_s {σ : zS} {r j : Nat} {x : Int64} : (zSJ σ r j x).2 r = vp_updL (σ.2 r) j x := by simp [zSJ]
theorem zSR_1 {σ : zS} {r : Nat} {f : Nat → Int32} {a : Nat} (h : a ≠ r) : (zSR σ r f).1 a = σ.1 a := by simp [zSR, h]
theorem zSR_s {σ : zS} {r : Nat} {f : Nat → Int32} : (zSR σ r f).1 r = f := by simp [zSR]
-- the shape
theorem zK_some {r : Nat} (h : ¬ (zK r).1 = 9) : zSh[r]? = some (zK r) := by
  unfold zK at h ⊢
  rw [List.getD_eq_getElem?_getD] at h ⊢
  cases e : zSh[r]? with
  | none => rw [e] at h; exact absurd rfl h
  | some q => rfl
theorem zIsO_spec {r ci : Nat} (h : zIsO r ci = true) : ∃ sl, zSh[r]? = some (0, ci, sl) ∧ ∀ j, zSl r j = sl.getD j (9, 0) := by
  simp only [zIsO, Bool.and_eq_true] at h
  have h1 := Nat.eq_of_beq_eq_true h.1
  have h2 := Nat.eq_of_beq_eq_true h.2
  have e := zK_some (r := r) (by omega)
  refine ⟨(zK r).2.2, ?_, fun j => rfl⟩
  rw [e, ← h1, ← h2]
theorem zIsI_spec {r : Nat} (h : zIsI r = true) : ∃ sl, zSh[r]? = some (1, zN r, sl) := by
  have h1 := Nat.eq_of_beq_eq_true h
  have e := zK_some (r := r) (by omega)
  exact ⟨(zK r).2.2, by rw [e, ← h1]; rfl⟩
theorem zIsJ_spec {r : Nat} (h : zIsJ r = true) : ∃ sl, zSh[r]? = some (2, zN r, sl) := by
  have h1 := Nat.eq_of_beq_eq_true h
  have e := zK_some (r := r) (by omega)
  exact ⟨(zK r).2.2, by rw [e, ← h1]; rfl⟩
theorem zGetD_some {sl : List (Nat × Nat)} {j : Nat} (h : ¬ (sl.getD j (9, 0)).1 = 9) : sl[j]? = some (sl.getD j (9, 0)) := by
  rw [List.getD_eq_getElem?_getD] at h ⊢
  cases e : sl[j]? with
  | none => rw [e] at h; exact absurd rfl h
  | some q => rfl
-- off the stack
theorem zG_inv {b : Bool} {P : Prop} (h : zG b P) : b = true ∧ P := by
  cases b with
  | true => exact ⟨rfl, h⟩
  | false => exact False.elim h
theorem zI_inv {st : List Value} {k : Int32 → List Value → Prop} (h : zI st k) : ∃ x r, st = .int x :: r ∧ k x r := by
  cases st with
  | nil => exact False.elim h
  | cons v r => cases v <;> first | exact ⟨_, _, rfl, h⟩ | exact False.elim h
theorem zJ_inv {st : List Value} {k : Int64 → List Value → Prop} (h : zJ st k) : ∃ x r, st = .long x :: r ∧ k x r := by
  cases st with
  | nil => exact False.elim h
  | cons v r => cases v <;> first | exact ⟨_, _, rfl, h⟩ | exact False.elim h
theorem zA_inv {st : List Value} {k : Nat → List Value → Prop} (h : zA st k) : ∃ x r, st = .ref x :: r ∧ k x r := by
  cases st with
  | nil => exact False.elim h
  | cons v r => cases v <;> first | exact ⟨_, _, rfl, h⟩ | exact False.elim h
theorem zII_inv {st : List Value} {k : Int32 → Int32 → List Value → Prop} (h : zII st k) : ∃ x y r, st = .int y :: .int x :: r ∧ k x y r := by
  obtain ⟨y, r, rfl, h1⟩ := zI_inv h
  obtain ⟨x, r2, rfl, h2⟩ := zI_inv h1
  exact ⟨x, y, r2, rfl, h2⟩
theorem zJJ_inv {st : List Value} {k : Int64 → Int64 → List Value → Prop} (h : zJJ st k) : ∃ x y r, st = .long y :: .long x :: r ∧ k x y r := by
  obtain ⟨y, r, rfl, h1⟩ := zJ_inv h
  obtain ⟨x, r2, rfl, h2⟩ := zJ_inv h1
  exact ⟨x, y, r2, rfl, h2⟩
theorem zAI_inv {st : List Value} {k : Nat → Int32 → List Value → Prop} (h : zAI st k) : ∃ a i r, st = .int i :: .ref a :: r ∧ k a i r := by
  obtain ⟨y, r, rfl, h1⟩ := zI_inv h
  obtain ⟨x, r2, rfl, h2⟩ := zA_inv h1
  exact ⟨x, y, r2, rfl, h2⟩
theorem zCat_R (ad : Nat → Nat) (v : Value) : (zR ad v).category = zCat v := by cases v <;> rfl
theorem zV1_inv {st : List Value} {k : Value → List Value → Prop} (h : zV1 st k) : ∃ v r, st = v :: r ∧ zCat v = 1 ∧ k v r := by
  cases st with
  | nil => exact False.elim h
  | cons v r =>
    obtain ⟨h1, h2⟩ := zG_inv h
    exact ⟨v, r, rfl, Nat.eq_of_beq_eq_true h1, h2⟩
theorem zLg_inv {ls : zLo} {i : Nat} {k : Value → Prop} (h : zLg ls i k) : ∃ v, ls.getD i none = some v ∧ k v := by
  unfold zLg at h
  cases e : ls.getD i none with
  | none => rw [e] at h; exact False.elim h
  | some v => rw [e] at h; exact ⟨v, rfl, h⟩
theorem zLi_inv {ls : zLo} {i : Nat} {k : Int32 → Prop} (h : zLi ls i k) : ∃ x, ls.getD i none = some (.int x) ∧ k x := by
  obtain ⟨v, e, h⟩ := zLg_inv h
  cases v <;> first | exact ⟨_, e, h⟩ | exact False.elim h
theorem zLj_inv {ls : zLo} {i : Nat} {k : Int64 → Prop} (h : zLj ls i k) : ∃ x, ls.getD i none = some (.long x) ∧ k x := by
  obtain ⟨v, e, h⟩ := zLg_inv h
  cases v <;> first | exact ⟨_, e, h⟩ | exact False.elim h
theorem zLa_inv {ls : zLo} {i : Nat} {k : Nat → Prop} (h : zLa ls i k) : ∃ x, ls.getD i none = some (.ref x) ∧ k x := by
  obtain ⟨v, e, h⟩ := zLg_inv h
  cases v <;> first | exact ⟨_, e, h⟩ | exact False.elim h
theorem zW8_R (ad : Nat → Nat) : ∀ r : List Value, ((r.map (zR ad)).map fun v => v.category).sum = zW8 r
  | [] => rfl
  | v :: r => by simp only [List.map_cons, List.sum_cons, zCat_R, zW8_R ad r, zW8]
theorem zPn_inv : ∀ (n : Nat) (acc st : List Value) (k : List Value → List Value → Prop), zPn n acc st k → ∃ av r, av.length = n ∧ st = av ++ r ∧ k (av.reverse ++ acc) r
  | 0, acc, st, k, h => ⟨[], st, rfl, rfl, h⟩
  | n + 1, acc, [], k, h => False.elim h
  | n + 1, acc, v :: st, k, h => by
    obtain ⟨av, r, h1, h2, h3⟩ := zPn_inv n (v :: acc) st k h
    exact ⟨v :: av, r, by simp [h1], by simp [h2], by simpa using h3⟩
theorem zTb_inv {x : Int32} {X : Nat → Prop} {d : Nat} : ∀ {tb : List (Int32 × Nat)}, zTb x X d tb → (∃ (k : Nat) (q : Int32 × Nat), tb[k]? = some q ∧ x = q.1 ∧ X q.2 ∧ ∀ (j : Nat) (p : Int32 × Nat), j < k → tb[j]? = some p → ¬ x = p.1) ∨ ((∀ (k : Nat) (q : Int32 × Nat), tb[k]? = some q → ¬ x = q.1) ∧ X d)
  | [], h => Or.inr ⟨fun k q e => by simp at e, h⟩
  | q :: r, h => by
    by_cases e : x = q.1
    · exact Or.inl ⟨0, q, rfl, e, h.1 e, fun j p hj => absurd hj (Nat.not_lt_zero j)⟩
    · rcases zTb_inv (h.2 e) with ⟨k, p, h1, h2, h3, h4⟩ | ⟨h1, h2⟩
      · refine Or.inl ⟨k + 1, p, h1, h2, h3, fun j p' hj hp => ?_⟩
        cases j with
        | zero =>
          simp only [List.getElem?_cons_zero, Option.some.injEq] at hp
          rw [← hp]; exact e
        | succ j => exact h4 j p' (by omega) hp
      · refine Or.inr ⟨fun k p hp => ?_, h2⟩
        cases k with
        | zero =>
          simp only [List.getElem?_cons_zero, Option.some.injEq] at hp
          rw [← hp]; exact e
        | succ j => exact h1 j p hp
-- the locals
def zAs (ad : Nat → Nat) : Nat → zLo → List (Nat × Value)
  | _, [] => []
  | i, none :: r => zAs ad (i + 1) r
  | i, some v :: r => (i, zR ad v) :: zAs ad (i + 1) r
theorem zAs_mem (ad : Nat → Nat) : ∀ (lv : zLo) (k : Nat) (q : Nat × Value), q ∈ zAs ad k lv ↔ ∃ j v, lv[j]? = some (some v) ∧ q = (k + j, zR ad v)
  | [], k, q => by simp [zAs]
  | none :: r, k, q => by
    simp only [zAs]
    rw [zAs_mem ad r (k + 1) q]
    constructor
    · rintro ⟨j, v, h1, h2⟩
      exact ⟨j + 1, v, h1, by rw [h2, show k + 1 + j = k + (j + 1) by omega]⟩
    · rintro ⟨j, v, h1, h2⟩
      cases j with
      | zero => simp at h1
      | succ j => exact ⟨j, v, h1, by rw [h2, show k + 1 + j = k + (j + 1) by omega]⟩
  | some u :: r, k, q => by
    simp only [zAs, List.mem_cons]
    rw [zAs_mem ad r (k + 1) q]
    constructor
    · rintro (h | ⟨j, v, h1, h2⟩)
      · exact ⟨0, u, rfl, h⟩
      · exact ⟨j + 1, v, h1, by rw [h2, show k + 1 + j = k + (j + 1) by omega]⟩
    · rintro ⟨j, v, h1, h2⟩
      cases j with
      | zero =>
        simp only [List.getElem?_cons_zero, Option.some.injEq] at h1
        exact Or.inl (by rw [h2, h1]; rfl)
      | succ j => exact Or.inr ⟨j, v, h1, by rw [h2, show k + 1 + j = k + (j + 1) by omega]⟩
def zHas (ad : Nat → Nat) (ls : Array Slot) (nL : Nat) (lv : zLo) : Prop := lv_has ls nL (zAs ad 0 lv) ∧ lv.length ≤ nL
theorem zHas.at {ad : Nat → Nat} {ls : Array Slot} {nL : Nat} {lv : zLo} (h : zHas ad ls nL lv) {i : Nat} {v : Value} (e : lv.getD i none = some v) : ls[i]? = some (.val (zR ad v)) := by
  have e2 : lv[i]? = some (some v) := by
    rw [List.getD_eq_getElem?_getD] at e
    cases e3 : lv[i]? with
    | none => rw [e3] at e; simp at e
    | some o => rw [e3] at e; simp at e; rw [e]
  exact h.1.2.2 (i, zR ad v) ((zAs_mem ad lv 0 _).mpr ⟨i, v, e2, by rw [Nat.zero_add]⟩)
theorem zHas.lt {ad : Nat → Nat} {ls : Array Slot} {nL : Nat} {lv : zLo} (h : zHas ad ls nL lv) {i : Nat} {v : Value} (e : lv.getD i none = some v) : i < nL := by
  have h1 := (Array.getElem?_eq_some_iff.mp (h.at e)).1
  rw [h.1.1] at h1
  exact h1
theorem zNo2_some {o : Option Value} {u : Value} (h : zNo2 o = some u) : o = some u ∧ ¬ zCat u = 2 := by
  cases o with
  | none => cases h
  | some v => cases v <;> first | (cases h; done) | (simp only [zNo2, Option.some.injEq] at h; subst h; exact ⟨rfl, by simp [zCat]⟩)
theorem zS1_len (v : Value) : ∀ (lv : zLo) (i : Nat), (zS1 v lv i).length = lv.length
  | [], _ => rfl
  | _ :: r, 0 => rfl
  | o :: r, 1 => by simp only [zS1, List.length_cons, zS1_len v r 0]
  | o :: r, i + 2 => by simp only [zS1, List.length_cons, zS1_len v r (i + 1)]
theorem zS1_get (v : Value) : ∀ (lv : zLo) (i j : Nat) (u : Value), (zS1 v lv i)[j]? = some (some u) → (j = i ∧ u = v) ∨ (j ≠ i ∧ lv[j]? = some (some u) ∧ ¬ (j + 1 = i ∧ zCat u = 2))
  | [], _, _, _, h => by simp [zS1] at h
  | o :: r, 0, j, u, h => by
    cases j with
    | zero => simp only [zS1, List.getElem?_cons_zero, Option.some.injEq] at h; exact Or.inl ⟨rfl, h.symm⟩
    | succ j => exact Or.inr ⟨by omega, h, by omega⟩
  | o :: r, 1, j, u, h => by
    cases j with
    | zero =>
      simp only [zS1, List.getElem?_cons_zero, Option.some.injEq] at h
      obtain ⟨e, h2⟩ := zNo2_some h
      exact Or.inr ⟨by omega, by rw [e]; rfl, fun q => h2 q.2⟩
    | succ j =>
      rcases zS1_get v r 0 j u h with ⟨h1, h2⟩ | ⟨h1, h2, h3⟩
      · exact Or.inl ⟨by omega, h2⟩
      · exact Or.inr ⟨by omega, h2, by omega⟩
  | o :: r, i + 2, j, u, h => by
    cases j with
    | zero => exact Or.inr ⟨by omega, h, by omega⟩
    | succ j =>
      rcases zS1_get v r (i + 1) j u h with ⟨h1, h2⟩ | ⟨h1, h2, h3⟩
      · exact Or.inl ⟨by omega, h2⟩
      · exact Or.inr ⟨by omega, h2, fun q => h3 ⟨by omega, q.2⟩⟩
theorem zS2_len (v : Value) : ∀ (lv : zLo) (i : Nat), (zS2 v lv i).length = lv.length
  | [], _ => rfl
  | [_], _ => rfl
  | _ :: _ :: r, 0 => rfl
  | o :: p :: r, 1 => by simp only [zS2, List.length_cons, zS2_len v (p :: r) 0]
  | o :: p :: r, i + 2 => by simp only [zS2, List.length_cons, zS2_len v (p :: r) (i + 1)]
theorem zS2_get (v : Value) : ∀ (lv : zLo) (i j : Nat) (u : Value), (zS2 v lv i)[j]? = some (some u) → (j = i ∧ u = v) ∨ (j ≠ i ∧ j ≠ i + 1 ∧ lv[j]? = some (some u) ∧ ¬ (j + 1 = i ∧ zCat u = 2))
  | [], _, _, _, h => by simp [zS2] at h
  | [o], i, j, u, h => by
    cases j <;> simp [zS2] at h
  | o :: p :: r, 0, j, u, h => by
    cases j with
    | zero => simp only [zS2, List.getElem?_cons_zero, Option.some.injEq] at h; exact Or.inl ⟨rfl, h.symm⟩
    | succ j =>
      cases j with
      | zero => simp [zS2] at h
      | succ j => exact Or.inr ⟨by omega, by omega, h, by omega⟩
  | o :: p :: r, 1, j, u, h => by
    cases j with
    | zero =>
      simp only [zS2, List.getElem?_cons_zero, Option.some.injEq] at h
      obtain ⟨e, h2⟩ := zNo2_some h
      exact Or.inr ⟨by omega, by omega, by rw [e]; rfl, fun q => h2 q.2⟩
    | succ j =>
      rcases zS2_get v (p :: r) 0 j u h with ⟨h1, h2⟩ | ⟨h1, h2, h3, h4⟩
      · exact Or.inl ⟨by omega, h2⟩
      · exact Or.inr ⟨by omega, by omega, h3, by omega⟩
  | o :: p :: r, i + 2, j, u, h => by
    cases j with
    | zero => exact Or.inr ⟨by omega, by omega, h, by omega⟩
    | succ j =>
      rcases zS2_get v (p :: r) (i + 1) j u h with ⟨h1, h2⟩ | ⟨h1, h2, h3, h4⟩
      · exact Or.inl ⟨by omega, h2⟩
      · exact Or.inr ⟨by omega, by omega, h3, fun q => h4 ⟨by omega, q.2⟩⟩
theorem zHas.st1 {ad : Nat → Nat} {ls : Array Slot} {nL : Nat} {lv : zLo} (h : zHas ad ls nL lv) {i : Nat} {v : Value} {ls' : Array Slot} (h' : lv_has ls' nL ((i, zR ad v) :: (zAs ad 0 lv).filter (fun q => !(q.1 == i) && !(q.1 + 1 == i && q.2.category == 2)))) : zHas ad ls' nL (zS1 v lv i) := by
  refine ⟨⟨h'.1, h'.2.1, fun q hq => h'.2.2 q ?_⟩, by rw [zS1_len]; exact h.2⟩
  obtain ⟨j, u, h1, rfl⟩ := (zAs_mem ad _ 0 q).mp hq
  rw [Nat.zero_add]
  rcases zS1_get v lv i j u h1 with ⟨rfl, rfl⟩ | ⟨h2, h3, h4⟩
  · exact List.mem_cons_self
  · refine List.mem_cons_of_mem _ (List.mem_filter.mpr ⟨(zAs_mem ad lv 0 _).mpr ⟨j, u, h3, by rw [Nat.zero_add]⟩, ?_⟩)
    simp only [zCat_R]
    simp only [Bool.and_eq_true, Bool.not_eq_true', beq_eq_false_iff_ne, ne_eq, Bool.and_eq_false_iff]
    exact ⟨h2, by by_cases e : j + 1 = i
                  · exact Or.inr (fun e2 => h4 ⟨e, e2⟩)
                  · exact Or.inl e⟩
theorem zHas.st2 {ad : Nat → Nat} {ls : Array Slot} {nL : Nat} {lv : zLo} (h : zHas ad ls nL lv) {i : Nat} {v : Value} {ls' : Array Slot} (h' : lv_has ls' nL ((i, zR ad v) :: (zAs ad 0 lv).filter (fun q => !(q.1 == i) && (!(q.1 == i + 1) && !(q.1 + 1 == i && q.2.category == 2))))) : zHas ad ls' nL (zS2 v lv i) := by
  refine ⟨⟨h'.1, h'.2.1, fun q hq => h'.2.2 q ?_⟩, by rw [zS2_len]; exact h.2⟩
  obtain ⟨j, u, h1, rfl⟩ := (zAs_mem ad _ 0 q).mp hq
  rw [Nat.zero_add]
  rcases zS2_get v lv i j u h1 with ⟨rfl, rfl⟩ | ⟨h2, h2', h3, h4⟩
  · exact List.mem_cons_self
  · refine List.mem_cons_of_mem _ (List.mem_filter.mpr ⟨(zAs_mem ad lv 0 _).mpr ⟨j, u, h3, by rw [Nat.zero_add]⟩, ?_⟩)
    simp only [zCat_R]
    simp only [Bool.and_eq_true, Bool.not_eq_true', beq_eq_false_iff_ne, ne_eq, Bool.and_eq_false_iff]
    exact ⟨h2, h2', by by_cases e : j + 1 = i
                       · exact Or.inr (fun e2 => h4 ⟨e, e2⟩)
                       · exact Or.inl e⟩
theorem zAr_len (ad : Nat → Nat) : ∀ av : List Value, (lg_sl (av.map (zR ad))).length = (zAr av).length
  | [] => rfl
  | v :: r => by
    have e := zAr_len ad r
    simp only [lg_sl] at e
    rcases (show zCat v = 2 ∨ zCat v = 1 by cases v <;> simp [zCat]) with h | h
    · simp [lg_sl, zAr, h, zCat_R, e]
    · simp [lg_sl, zAr, h, zCat_R, e]
theorem zAr_args (ad : Nat → Nat) : ∀ (av : List Value) (k n : Nat) (q : Nat × Value), q ∈ zAs ad k (zAr av ++ List.replicate n none) → q ∈ lv_args k (av.map (zR ad))
  | [], k, n, q, h => by
    obtain ⟨j, v, h1, -⟩ := (zAs_mem ad _ k q).mp h
    simp only [zAr, List.nil_append] at h1
    have := List.eq_of_mem_replicate (List.mem_of_getElem? h1)
    cases this
  | v :: r, k, n, q, h => by
    rcases (show zCat v = 2 ∨ zCat v = 1 by cases v <;> simp [zCat]) with e | e
    · simp only [zAr, e, List.cons_append, zAs, List.mem_cons] at h
      simp only [List.map_cons, lv_args, zCat_R, e, if_true, List.mem_cons]
      rcases h with h | h
      · exact Or.inl h
      · exact Or.inr (zAr_args ad r (k + 2) n q h)
    · simp only [zAr, e, List.cons_append, zAs, List.mem_cons] at h
      simp only [List.map_cons, lv_args, zCat_R, e, List.mem_cons]
      rcases h with h | h
      · exact Or.inl h
      · exact Or.inr (zAr_args ad r (k + 1) n q h)
theorem zHas.entry (ad : Nat → Nat) (av : List Value) (n : Nat) (h : (zAr av).length ≤ n) : zHas ad ((lg_sl (av.map (zR ad)) ++ List.replicate (n - (lg_sl (av.map (zR ad))).length) Slot.unset).toArray) n (zAr av ++ List.replicate (n - (zAr av).length) none) := by
  have e := lv_entry (av.map (zR ad)) (n := n) (by rw [zAr_len]; exact h)
  exact ⟨⟨e.1, e.2.1, fun q hq => e.2.2 q (zAr_args ad av 0 _ q hq)⟩, by simp; omega⟩
-- fewer locals
def zMb : List Bool → zLo → zLo
  | true :: b, o :: r => o :: zMb b r
  | false :: b, _ :: r => none :: zMb b r
  | _, _ => []
def zMk : List (Nat × List Bool) → Nat → zLo → zLo
  | [], _, ls => ls
  | q :: r, pc, ls => match Nat.beq q.1 pc with
    | true => zMb q.2 ls
    | false => zMk r pc ls
theorem zMb_get : ∀ (b : List Bool) (lv : zLo) (j : Nat) (u : Value), (zMb b lv)[j]? = some (some u) → lv[j]? = some (some u)
  | true :: b, o :: r, 0, u, h => h
  | true :: b, o :: r, j + 1, u, h => zMb_get b r j u h
  | false :: b, o :: r, 0, u, h => by simp [zMb] at h
  | false :: b, o :: r, j + 1, u, h => zMb_get b r j u h
  | [], lv, j, u, h => by simp [zMb] at h
  | true :: b, [], j, u, h => by simp [zMb] at h
  | false :: b, [], j, u, h => by simp [zMb] at h
theorem zMb_len : ∀ (b : List Bool) (lv : zLo), (zMb b lv).length ≤ lv.length
  | true :: b, o :: r => by simp only [zMb, List.length_cons]; have := zMb_len b r; omega
  | false :: b, o :: r => by simp only [zMb, List.length_cons]; have := zMb_len b r; omega
  | [], lv => by simp [zMb]
  | true :: b, [] => by simp [zMb]
  | false :: b, [] => by simp [zMb]
theorem zMk_get : ∀ (ms : List (Nat × List Bool)) (pc : Nat) (lv : zLo), (∀ (j : Nat) (u : Value), (zMk ms pc lv)[j]? = some (some u) → lv[j]? = some (some u)) ∧ (zMk ms pc lv).length ≤ lv.length
  | [], pc, lv => ⟨fun _ _ h => h, Nat.le_refl _⟩
  | q :: r, pc, lv => by
    unfold zMk
    cases Nat.beq q.1 pc with
    | true => exact ⟨zMb_get q.2 lv, zMb_len q.2 lv⟩
    | false => exact zMk_get r pc lv
theorem zHas.mk {ad : Nat → Nat} {ls : Array Slot} {nL : Nat} {lv : zLo} (h : zHas ad ls nL lv) (ms : List (Nat × List Bool)) (pc : Nat) : zHas ad ls nL (zMk ms pc lv) := by
  obtain ⟨h1, h2⟩ := zMk_get ms pc lv
  refine ⟨⟨h.1.1, h.1.2.1, fun q hq => h.1.2.2 q ?_⟩, Nat.le_trans h2 h.2⟩
  obtain ⟨j, v, e1, e2⟩ := (zAs_mem ad _ 0 q).mp hq
  exact (zAs_mem ad lv 0 q).mpr ⟨j, v, h1 j v e1, e2⟩
end
section
/-! the small machine is the machine: one instruction -/
def zClosed (sc : Option (Nat × (Nat → Int32))) (C : zCa) (post : zPo) (mi : Nat) (X : zX) : Prop :=
  (∀ (Z : zX) (pc : Nat) (o : zOp) (ls : zLo) (st : List Value) (σ : zS), (∀ (pc : Nat) (ls : zLo) (st : List Value) (σ : zS), Z pc ls st σ → X pc ls st σ) → zOk mi pc o = true → zEx sc C post Z o ls st σ → X pc ls st σ) ∧
  ∀ (ms : List (Nat × List Bool)) (pc : Nat) (ls : zLo) (st : List Value) (σ : zS), X pc (zMk ms pc ls) st σ → X pc ls st σ
def zCall : Nat → zCa
  | 0 => fun _ _ _ _ => False
  | d + 1 => fun mi av σ post => zG (Nat.ble (zAr av).length (zMl mi)) (∀ X : zX, zClosed none (zCall d) post mi X → X 0 (zAr av ++ List.replicate (zMl mi - (zAr av).length) none) [] σ)
def zSeq (sc : Option (Nat × (Nat → Int32))) (C : zCa) (post : zPo) (X : zX) (ms : List (Nat × List Bool)) : List zOp → Nat → zX
  | [], _ => fun pc ls st σ => X pc (zMk ms pc ls) st σ
  | o :: r, p => fun pc ls st σ => match Nat.beq pc p with
    | true => zEx sc C post (zSeq sc C post X ms r o.2.1) o ls st σ
    | false => zSeq sc C post X ms r o.2.1 pc ls st σ
theorem zSeq_ok {sc : Option (Nat × (Nat → Int32))} {C : zCa} {post : zPo} {mi : Nat} {X : zX} (hX : zClosed sc C post mi X) (ms : List (Nat × List Bool)) : ∀ (is : List zOp) (p pc : Nat) (ls : zLo) (st : List Value) (σ : zS), zOks mi is p = true → zSeq sc C post X ms is p pc ls st σ → X pc ls st σ
  | [], p, pc, ls, st, σ, _, h => hX.2 ms pc ls st σ h
  | o :: r, p, pc, ls, st, σ, hk, h => by
    simp only [zOks, Bool.and_eq_true] at hk
    simp only [zSeq] at h
    cases e : Nat.beq pc p with
    | true =>
      rw [e] at h
      have e2 := Nat.eq_of_beq_eq_true e
      subst e2
      exact hX.1 _ pc o ls st σ (fun pc ls st σ h => zSeq_ok hX ms r o.2.1 pc ls st σ hk.2 h) hk.1 h
    | false =>
      rw [e] at h
      exact zSeq_ok hX ms r o.2.1 pc ls st σ hk.2 h
def zWs (mi : Nat) : List Cond := .code (zY mi) (zBy mi) (zMl mi) (zRt mi) :: zTg
def zRm (d : Nat) : Room := { frames := d, cells := 0, slots := 0, locals := 32 * d }
def zA0 (ad : Nat → Nat) (sz : Nat) : Nat → Prop := fun q => (∃ k, k < zSh.length ∧ ad k = q) ∨ sz ≤ q
def zQ (D : va_G) (cI cJ : ClassId) (ad : Nat → Nat) (sz : Nat) (post : zPo) : Array Value → State → Outcome → State → Prop := fun _ st oc t => (∃ (r : Option Value) (σ : zS), oc = .returned r ∧ post r σ ∧ va_P D vwCl (zW ad cI cJ σ) t.heap) ∧ va_F (zA0 ad sz) st t
def zB (D : va_G) (cI cJ : ClassId) (ad : Nat → Nat) (sz : Nat) (σ : zS) : State → Prop := fun U => U.heap.size = sz ∧ va_P D vwCl (zW ad cI cJ σ) U.heap ∧ va_K D vwCl [(cI, .int), (cJ, .long)] U ∧ ∀ w ∈ zNw, va_Nw w U
def zCon (l : Launch) (D : va_G) (cI cJ : ClassId) (ad : Nat → Nat) (d : Nat) (mi : Nat) (av : List Value) (σ : zS) (post : zPo) : Prop :=
  ∀ sz : Nat, Met l (zY mi) (zWs mi) (zRm d) (va_Pc (av.map (zR ad)) (zB D cI cJ ad sz σ)) (zQ D cI cJ ad sz post) 0 0 (zA0 ad sz)
theorem zLen {bs : ByteArray} {pc n k : Nat} {i : Instr} (h1 : Nat.blt pc n = true) (h2 : decode bs pc = .ok (i, n - pc)) (h3 : Nat.beq (n - pc) k = true) : n = pc + k ∧ decode bs pc = .ok (i, k) := by
  have a := Nat.le_of_ble_eq_true h1
  have b := Nat.eq_of_beq_eq_true h3
  exact ⟨by omega, by rw [← b]; exact h2⟩
theorem zW_inv {ad : Nat → Nat} {cI cJ : ClassId} {σ : zS} {k : Nat} {q : Nat × va_E} (h : (zW ad cI cJ σ)[k]? = some q) : k < zSh.length ∧ q.1 = ad k := by
  have hl : k < (zW ad cI cJ σ).length := (List.getElem?_eq_some_iff.mp h).1
  have hz : (zW ad cI cJ σ).length = zSh.length := zWA_len ad cI cJ σ zSh 0
  rw [hz] at hl
  have e := zW_get ad cI cJ σ (List.getElem?_eq_getElem hl)
  rw [h] at e
  exact ⟨hl, congrArg Prod.fst (Option.some.inj e)⟩
theorem zD_of {ad : Nat → Nat} {cI cJ : ClassId} {A : Nat → Prop} (hi : ∀ i j, i < zSh.length → j < zSh.length → ad i = ad j → i = j) (hA : ∀ k, k < zSh.length → A (ad k)) (σ : zS) : va_D A (zW ad cI cJ σ) := by
  refine ⟨fun i j x y hx hy e => ?_, fun k q h => ?_⟩
  · obtain ⟨h1, h2⟩ := zW_inv hx
    obtain ⟨h3, h4⟩ := zW_inv hy
    exact hi i j h1 h3 (by rw [← h2, ← h4, e])
  · obtain ⟨h1, h2⟩ := zW_inv h
    rw [h2]
    exact hA k h1
section ZS
variable {p : Program} {l : Launch} {e : Env} {R : Room} {s : State} {m : MethodId} {args : Array Value} {below : List Frame} {meth : Method} {c : Code} {H : Heap} {locs : List Loc} {cells slots : Nat} {Q : State → Prop}
theorem z_callG {pc : Nat} {ls : Array Slot} {rest st0 : List Value} {Qa : State → Outcome → State → Prop} {free : Addr → Prop} (hr : va_Run p l e R s m args below meth c H locs cells slots 0 0 (F0 m pc ls st0) rest Qa free)
    (kk : ∀ (v : Option Value) (st₀ t : State) (H1 : Heap) (L : List Loc), st₀.heap = H → t.heap = H1 → Qa st₀ (.returned v) t → (∀ q ∈ L, free q.base) → W p l e R s m args below meth c H1 (locs ++ L) cells slots Q (F0 m (pc + 3) ls (v.toList ++ rest))) : W p l e R s m args below meth c H locs cells slots Q (F0 m pc ls st0) := by
  intro T hT X
  obtain ⟨v, st₀, t, T', L, h0, X', hL, e1, e2, hq, st⟩ := hr T hT X
  obtain ⟨t2, a1, b1⟩ := kk v st₀ t T'.heap L h0 e1.symm hq hL T' rfl X'
  exact ⟨t2, st t2 a1, b1⟩
theorem zS_call {ad : Nat → Nat} {A : Nat → Prop} {H0 H1 : Heap} {st₀ t : State} {L : List Loc} (hS : va_S A H0 H locs) (hAd : ∀ k, k < zSh.length → A (ad k)) (hA : ∀ q, H0.size ≤ q → A q) (h0 : st₀.heap = H) (hF : va_F (zA0 ad H.size) st₀ t) (ht : t.heap = H1) (hL : ∀ q ∈ L, zA0 ad H.size q.base) : va_S A H0 H1 (locs ++ L) := by
  subst h0; subst ht
  have hz : ∀ q, zA0 ad st₀.heap.size q → A q := by
    intro q h
    rcases h with ⟨k, h1, h2⟩ | h
    · rw [← h2]; exact hAd k h1
    · exact hA q (Nat.le_trans hS.1 h)
  refine ⟨Nat.le_trans hS.1 hF.1, fun q h1 h2 => ?_, fun q hq => ?_⟩
  · rw [hF.2 q (Nat.lt_of_lt_of_le h1 hS.1) (fun z => h2 (hz q z))]
    exact hS.2.1 q h1 h2
  · rcases List.mem_append.mp hq with h | h
    · exact hS.2.2 q h
    · exact hz _ (hL q h)
end ZS
theorem zTg_GoodIn {ws : List Cond} (h : ∀ w ∈ ws, w ∈ zTg) : GoodIn zTg ws := fun w hw => ⟨h w hw, (zTg_good (h w hw)).2⟩
theorem zMv_spec {a : Nat} (h : a < 213) (h2 : a ≠ nL_law) : (Cond.code (zY a) (zBy a) (zMl a) (zRt a) ∈ zTg) ∧ (Cond.initialized (zY a).cls ∈ zTg) ∧ ((zY a).cls ≠ "java/lang/invoke/MethodHandle" ∧ (zY a).cls ≠ "java/lang/invoke/VarHandle") ∧ plainName (zY a).cls = true ∧ zMl a ≤ 13 ∧
    (zMs a = true → Cond.static (zY a) ∈ zTg) ∧ (zMs a = false → Cond.instanceMethod (zY a) ∈ zTg ∧ ((zY a).name = "<init>" ∨ Cond.selects (zY a).cls (zY a) (zY a) ∈ zTg) ∧ zMc a < 13 ∧ (zCl (zMc a)).1 = (zY a).cls) := by
  have h3 := zMv_all a h h2
  simp only [zMv, zNoH, Bool.and_eq_true, decide_eq_true_eq] at h3
  obtain ⟨⟨⟨⟨⟨h4, h5⟩, h6⟩, h7⟩, h8⟩, h9⟩ := h3
  refine ⟨zin _ h4 rfl, zin _ h5 rfl, h6, h7, Nat.le_of_ble_eq_true h8, fun q => ?_, fun q => ?_⟩
  · rw [q] at h9
    exact zin _ (of_decide_eq_true h9) rfl
  · rw [q] at h9
    simp only [Bool.and_eq_true, Bool.or_eq_true, decide_eq_true_eq] at h9
    obtain ⟨⟨⟨g1, g2⟩, g3⟩, g4⟩ := h9
    exact ⟨zin _ g1 rfl, g2.imp id (fun z => zin _ z rfl), Nat.le_of_ble_eq_true g3, g4⟩
theorem zCl_get {a : Nat} (h : a < 13) : vwCl[a]? = some ((zCl a).1, (zCl a).2.1, (zCl a).2.2) ∧ zCv (zCl a) = true := by
  have hl : a < vwCl.length := h
  have e : vwCl[a]? = some (zCl a) := by
    unfold zCl
    rw [List.getD_eq_getElem?_getD, List.getElem?_eq_getElem hl]
    rfl
  exact ⟨e, List.all_eq_true.mp zCv_all _ (List.mem_of_getElem? e)⟩
theorem zCv_spec {q : vw_C} (h : zCv q = true) : (∀ w ∈ u_ws q.1 q.2.1 q.2.2, w ∈ zTg) ∧ (∀ k, k < q.2.2 → parseFieldDescriptor (q.2.1 k).2.2.1 = some ((parseFieldDescriptor (q.2.1 k).2.2.1).getD .int)) ∧ (∀ a, a < q.2.2 → ∀ b, b < q.2.2 → a ≠ b → (q.2.1 a).2.1 ≠ (q.2.1 b).2.1) := by
  simp only [zCv, Bool.and_eq_true] at h
  obtain ⟨h1, h2⟩ := h
  refine ⟨fun w hw => ?_, fun k hk => ?_, fun a ha b hb hab => ?_⟩
  · have e := List.all_eq_true.mp h1 w hw
    simp only [Bool.and_eq_true, decide_eq_true_eq] at e
    exact List.mem_filter.mpr e
  · have e := List.all_eq_true.mp h2 k (List.mem_range.mpr hk)
    simp only [Bool.and_eq_true] at e
    obtain ⟨v, hv⟩ := Option.isSome_iff_exists.mp e.1
    rw [hv]; rfl
  · have e := List.all_eq_true.mp h2 b (List.mem_range.mpr hb)
    simp only [Bool.and_eq_true] at e
    have e2 := List.all_eq_true.mp e.2 a (List.mem_range.mpr ha)
    simp only [Bool.or_eq_true, decide_eq_true_eq] at e2
    rcases e2 with e2 | e2
    · exact absurd (Nat.eq_of_beq_eq_true e2) hab
    · exact e2
theorem zNw_kind {w : Cond} (h : w ∈ zNw) : zNst w = true := (List.mem_filter.mp h).2
theorem zNw_same {w : Cond} (h : w ∈ zNw) {u U : State} (hv : u.vm = U.vm) (hZ : va_Nw w u) : va_Nw w U := by
  have hk := zNw_kind h
  cases w <;> first | (exact va_Nw.same rfl hv hZ) | (exact absurd hk (by simp [zNst]))
theorem zNw_warm {w : Cond} (h : w ∈ zNw) {s U : State} (hW : s.WarmedH U.vm) (hZ : va_Nw w s) : va_Nw w U := by
  have hk := zNw_kind h
  cases w <;> first | (exact va_Nw.warmF hW hZ) | (exact va_Nw.warmM hW hZ) | (exact absurd hk (by simp [zNst]))
theorem zB_blind (D : va_G) (cI cJ : ClassId) (ad : Nat → Nat) (sz : Nat) (σ : zS) (av : List Value) : FrameBlind (va_Pc av (zB D cI cJ ad sz σ)) := by
  intro a U g mk q
  obtain ⟨q0, q1, qP, qK, qN⟩ := q
  exact ⟨q0, q1, qP, va_K.moved (u := U) (U := U.calling g mk a) (Vm.Alike.refl U.vm) qK, fun w hw => zNw_same hw (u := U) (U := U.calling g mk a) rfl (qN w hw)⟩
end
section
/-! the small machine's instruction is the machine's -/
/-- what holds in a method's frame -/
def zCx (p : Program) (l : Launch) (R : Room) (s : State) (m : MethodId) (args : Array Value) (meth : Method) (c : Code) (cells slots : Nat) (D : va_G) (cI cJ : ClassId) (ad : Nat → Nat) (A : Nat → Prop) (d mi : Nat) : Prop :=
  p.tables.exec = Jvm.exec ∧ c.code = zBy mi ∧ c.maxLocals = zMl mi ∧ s.vm.findClass (zY mi).cls = some m.cls ∧ (∀ w ∈ zTg, w.before args s = true) ∧ (∀ w ∈ zNw, va_Nw w s) ∧ va_K D vwCl [(cI, .int), (cJ, .long)] s ∧ (∀ i j, i < zSh.length → j < zSh.length → ad i = ad j → i = j) ∧ (∀ k, k < zSh.length → A (ad k)) ∧ (∀ q, s.heap.size ≤ q → A q) ∧ cells ≤ R.cells ∧ slots ≤ R.slots ∧ d + 1 ≤ R.frames ∧ 32 * (d + 1) ≤ R.locals
theorem z01_nar {x : Int32} (h : (x == 0 || x == 1) = true) : narrow .boolean (.int x) = .int x := by
  simp only [Bool.or_eq_true, beq_iff_eq] at h
  rcases h with rfl | rfl <;> rfl
section ZX
variable {p : Program} {l : Launch} {e : Env} {R : Room} {s : State} {m : MethodId} {args : Array Value} {below : List Frame} {meth : Method} {c : Code} {cells slots : Nat} {Q : State → Prop} {D : va_G} {cI cJ : ClassId} {ad : Nat → Nat} {A : Nat → Prop} {d mi : Nat}
def zXs (p : Program) (l : Launch) (e : Env) (R : Room) (s : State) (m : MethodId) (args : Array Value) (below : List Frame) (meth : Method) (c : Code) (cells slots : Nat) (Q : State → Prop) (D : va_G) (cI cJ : ClassId) (ad : Nat → Nat) (A : Nat → Prop) (mi : Nat) : zX := fun pc lv st σ =>
  ∀ (H : Heap) (locs : List Loc) (ls : Array Slot), va_P D vwCl (zW ad cI cJ σ) H → va_S A s.heap H locs → zHas ad ls (zMl mi) lv → W p l e R s m args below meth c H locs cells slots Q (F0 m pc ls (st.map (zR ad)))
variable {sc : Option (Nat × (Nat → Int32))} {C : zCa} {post : zPo} {Z : zX} {pc n a b k1 e1 g : Nat} {v : Int32} {w : Int64} {tb : List (Int32 × Nat)} {lv : zLo} {st : List Value} {σ : zS}
abbrev zZX (p : Program) (l : Launch) (e : Env) (R : Room) (s : State) (m : MethodId) (args : Array Value) (below : List Frame) (meth : Method) (c : Code) (cells slots : Nat) (Q : State → Prop) (D : va_G) (cI cJ : ClassId) (ad : Nat → Nat) (A : Nat → Prop) (mi : Nat) (Z : zX) : Prop := ∀ (pc : Nat) (ls : zLo) (st : List Value) (σ : zS), Z pc ls st σ → zXs p l e R s m args below meth c cells slots Q D cI cJ ad A mi pc ls st σ
theorem zo_iconst {z : Int} (K : zCx p l R s m args meth c cells slots D cI cJ ad A d mi) (hZ : zZX p l e R s m args below meth c cells slots Q D cI cJ ad A mi Z) (hk : zOk mi pc (.iconst z, n, a, b, k1, e1, g, v, w, tb) = true) (h : zEx sc C post Z (.iconst z, n, a, b, k1, e1, g, v, w, tb) lv st σ) : zXs p l e R s m args below meth c cells slots Q D cI cJ ad A mi pc lv st σ := by
  obtain ⟨hx, hb, hml, hown, hts, hnw, hK, hinj, hAd, hA, hcl, hsl, hfr, hlo⟩ := K
  intro H locs ls hP hS hl
  simp only [zOk, Bool.and_eq_true, decide_eq_true_eq] at hk
  simp only [zEx] at h
  obtain ⟨⟨hn, hdg⟩, hk⟩ := hk
  obtain ⟨rfl, hd2⟩ := zLen hn hdg hk.1
  exact lv_iconst hx hb hd2 hk.2 (hZ _ _ _ _ h H locs ls hP hS hl)
theorem zo_bipush {z : Int} (K : zCx p l R s m args meth c cells slots D cI cJ ad A d mi) (hZ : zZX p l e R s m args below meth c cells slots Q D cI cJ ad A mi Z) (hk : zOk mi pc (.bipush z, n, a, b, k1, e1, g, v, w, tb) = true) (h : zEx sc C post Z (.bipush z, n, a, b, k1, e1, g, v, w, tb) lv st σ) : zXs p l e R s m args below meth c cells slots Q D cI cJ ad A mi pc lv st σ := by
  obtain ⟨hx, hb, hml, hown, hts, hnw, hK, hinj, hAd, hA, hcl, hsl, hfr, hlo⟩ := K
  intro H locs ls hP hS hl
  simp only [zOk, Bool.and_eq_true, decide_eq_true_eq] at hk
  simp only [zEx] at h
  obtain ⟨⟨hn, hdg⟩, hk⟩ := hk
  obtain ⟨rfl, hd2⟩ := zLen hn hdg hk.1
  exact lv_bipush hx hb hd2 hk.2 (hZ _ _ _ _ h H locs ls hP hS hl)
theorem zo_sipush {z : Int} (K : zCx p l R s m args meth c cells slots D cI cJ ad A d mi) (hZ : zZX p l e R s m args below meth c cells slots Q D cI cJ ad A mi Z) (hk : zOk mi pc (.sipush z, n, a, b, k1, e1, g, v, w, tb) = true) (h : zEx sc C post Z (.sipush z, n, a, b, k1, e1, g, v, w, tb) lv st σ) : zXs p l e R s m args below meth c cells slots Q D cI cJ ad A mi pc lv st σ := by
  obtain ⟨hx, hb, hml, hown, hts, hnw, hK, hinj, hAd, hA, hcl, hsl, hfr, hlo⟩ := K
  intro H locs ls hP hS hl
  simp only [zOk, Bool.and_eq_true, decide_eq_true_eq] at hk
  simp only [zEx] at h
  obtain ⟨⟨hn, hdg⟩, hk⟩ := hk
  obtain ⟨rfl, hd2⟩ := zLen hn hdg hk.1
  exact lv_sipush hx hb hd2 hk.2 (hZ _ _ _ _ h H locs ls hP hS hl)
theorem zo_lconst {z : Fin 2} (K : zCx p l R s m args meth c cells slots D cI cJ ad A d mi) (hZ : zZX p l e R s m args below meth c cells slots Q D cI cJ ad A mi Z) (hk : zOk mi pc (.lconst z, n, a, b, k1, e1, g, v, w, tb) = true) (h : zEx sc C post Z (.lconst z, n, a, b, k1, e1, g, v, w, tb) lv st σ) : zXs p l e R s m args below meth c cells slots Q D cI cJ ad A mi pc lv st σ := by
  obtain ⟨hx, hb, hml, hown, hts, hnw, hK, hinj, hAd, hA, hcl, hsl, hfr, hlo⟩ := K
  intro H locs ls hP hS hl
  simp only [zOk, Bool.and_eq_true, decide_eq_true_eq] at hk
  simp only [zEx] at h
  obtain ⟨⟨hn, hdg⟩, hk⟩ := hk
  obtain ⟨rfl, hd2⟩ := zLen hn hdg hk.1
  exact lv_lconst hx hb hd2 hk.2 (hZ _ _ _ _ h H locs ls hP hS hl)
theorem zo_ldc {idx : Nat} (K : zCx p l R s m args meth c cells slots D cI cJ ad A d mi) (hZ : zZX p l e R s m args below meth c cells slots Q D cI cJ ad A mi Z) (hk : zOk mi pc (.ldc idx, n, a, b, k1, e1, g, v, w, tb) = true) (h : zEx sc C post Z (.ldc idx, n, a, b, k1, e1, g, v, w, tb) lv st σ) : zXs p l e R s m args below meth c cells slots Q D cI cJ ad A mi pc lv st σ := by
  obtain ⟨hx, hb, hml, hown, hts, hnw, hK, hinj, hAd, hA, hcl, hsl, hfr, hlo⟩ := K
  intro H locs ls hP hS hl
  simp only [zOk, Bool.and_eq_true, decide_eq_true_eq] at hk
  simp only [zEx] at h
  obtain ⟨⟨hn, hdg⟩, hk⟩ := hk
  obtain ⟨rfl, hd2⟩ := zLen hn hdg hk.1
  exact lv_ldc hx hb hown (hts _ (zin _ hk.2 rfl)) hd2 (hZ _ _ _ _ h H locs ls hP hS hl)
theorem zo_ldc2 {idx : Nat} (K : zCx p l R s m args meth c cells slots D cI cJ ad A d mi) (hZ : zZX p l e R s m args below meth c cells slots Q D cI cJ ad A mi Z) (hk : zOk mi pc (.ldc2_w idx, n, a, b, k1, e1, g, v, w, tb) = true) (h : zEx sc C post Z (.ldc2_w idx, n, a, b, k1, e1, g, v, w, tb) lv st σ) : zXs p l e R s m args below meth c cells slots Q D cI cJ ad A mi pc lv st σ := by
  obtain ⟨hx, hb, hml, hown, hts, hnw, hK, hinj, hAd, hA, hcl, hsl, hfr, hlo⟩ := K
  intro H locs ls hP hS hl
  simp only [zOk, Bool.and_eq_true, decide_eq_true_eq] at hk
  simp only [zEx] at h
  obtain ⟨⟨hn, hdg⟩, hk⟩ := hk
  obtain ⟨rfl, hd2⟩ := zLen hn hdg hk.1
  exact lv_ldc2 hx hb hown (hts _ (zin _ hk.2 rfl)) hd2 (hZ _ _ _ _ h H locs ls hP hS hl)
theorem zo_iload_n {z : Fin 4} (K : zCx p l R s m args meth c cells slots D cI cJ ad A d mi) (hZ : zZX p l e R s m args below meth c cells slots Q D cI cJ ad A mi Z) (hk : zOk mi pc (.iload_n z, n, a, b, k1, e1, g, v, w, tb) = true) (h : zEx sc C post Z (.iload_n z, n, a, b, k1, e1, g, v, w, tb) lv st σ) : zXs p l e R s m args below meth c cells slots Q D cI cJ ad A mi pc lv st σ := by
  obtain ⟨hx, hb, hml, hown, hts, hnw, hK, hinj, hAd, hA, hcl, hsl, hfr, hlo⟩ := K
  intro H locs ls hP hS hl
  simp only [zOk, Bool.and_eq_true, decide_eq_true_eq] at hk
  simp only [zEx] at h
  obtain ⟨⟨hn, hdg⟩, hk⟩ := hk
  obtain ⟨rfl, hd2⟩ := zLen hn hdg hk.1
  obtain ⟨x, hg, h⟩ := zLi_inv h
  exact lv_iload_n hx hb hd2 (Nat.eq_of_beq_eq_true hk.2) (hl.at hg) (hZ _ _ _ _ h H locs ls hP hS hl)
theorem zo_iload {z : Nat} (K : zCx p l R s m args meth c cells slots D cI cJ ad A d mi) (hZ : zZX p l e R s m args below meth c cells slots Q D cI cJ ad A mi Z) (hk : zOk mi pc (.iload z, n, a, b, k1, e1, g, v, w, tb) = true) (h : zEx sc C post Z (.iload z, n, a, b, k1, e1, g, v, w, tb) lv st σ) : zXs p l e R s m args below meth c cells slots Q D cI cJ ad A mi pc lv st σ := by
  obtain ⟨hx, hb, hml, hown, hts, hnw, hK, hinj, hAd, hA, hcl, hsl, hfr, hlo⟩ := K
  intro H locs ls hP hS hl
  simp only [zOk, Bool.and_eq_true, decide_eq_true_eq] at hk
  simp only [zEx] at h
  obtain ⟨⟨hn, hdg⟩, hk⟩ := hk
  obtain ⟨rfl, hd2⟩ := zLen hn hdg hk.1
  have hz := Nat.eq_of_beq_eq_true hk.2
  subst hz
  obtain ⟨x, hg, h5⟩ := zLi_inv h
  exact lv_iload hx hb hd2 (hl.at hg) (hZ _ _ _ _ h5 H locs ls hP hS hl)
theorem zo_lload_n {z : Fin 4} (K : zCx p l R s m args meth c cells slots D cI cJ ad A d mi) (hZ : zZX p l e R s m args below meth c cells slots Q D cI cJ ad A mi Z) (hk : zOk mi pc (.lload_n z, n, a, b, k1, e1, g, v, w, tb) = true) (h : zEx sc C post Z (.lload_n z, n, a, b, k1, e1, g, v, w, tb) lv st σ) : zXs p l e R s m args below meth c cells slots Q D cI cJ ad A mi pc lv st σ := by
  obtain ⟨hx, hb, hml, hown, hts, hnw, hK, hinj, hAd, hA, hcl, hsl, hfr, hlo⟩ := K
  intro H locs ls hP hS hl
  simp only [zOk, Bool.and_eq_true, decide_eq_true_eq] at hk
  simp only [zEx] at h
  obtain ⟨⟨hn, hdg⟩, hk⟩ := hk
  obtain ⟨rfl, hd2⟩ := zLen hn hdg hk.1
  obtain ⟨x, hg, h⟩ := zLj_inv h
  exact lv_lload_n hx hb hd2 (Nat.eq_of_beq_eq_true hk.2) (hl.at hg) (hZ _ _ _ _ h H locs ls hP hS hl)
theorem zo_lload {z : Nat} (K : zCx p l R s m args meth c cells slots D cI cJ ad A d mi) (hZ : zZX p l e R s m args below meth c cells slots Q D cI cJ ad A mi Z) (hk : zOk mi pc (.lload z, n, a, b, k1, e1, g, v, w, tb) = true) (h : zEx sc C post Z (.lload z, n, a, b, k1, e1, g, v, w, tb) lv st σ) : zXs p l e R s m args below meth c cells slots Q D cI cJ ad A mi pc lv st σ := by
  obtain ⟨hx, hb, hml, hown, hts, hnw, hK, hinj, hAd, hA, hcl, hsl, hfr, hlo⟩ := K
  intro H locs ls hP hS hl
  simp only [zOk, Bool.and_eq_true, decide_eq_true_eq] at hk
  simp only [zEx] at h
  obtain ⟨⟨hn, hdg⟩, hk⟩ := hk
  obtain ⟨rfl, hd2⟩ := zLen hn hdg hk.1
  have hz := Nat.eq_of_beq_eq_true hk.2
  subst hz
  obtain ⟨x, hg, h5⟩ := zLj_inv h
  exact lv_lload hx hb hd2 (hl.at hg) (hZ _ _ _ _ h5 H locs ls hP hS hl)
theorem zo_aload_n {z : Fin 4} (K : zCx p l R s m args meth c cells slots D cI cJ ad A d mi) (hZ : zZX p l e R s m args below meth c cells slots Q D cI cJ ad A mi Z) (hk : zOk mi pc (.aload_n z, n, a, b, k1, e1, g, v, w, tb) = true) (h : zEx sc C post Z (.aload_n z, n, a, b, k1, e1, g, v, w, tb) lv st σ) : zXs p l e R s m args below meth c cells slots Q D cI cJ ad A mi pc lv st σ := by
  obtain ⟨hx, hb, hml, hown, hts, hnw, hK, hinj, hAd, hA, hcl, hsl, hfr, hlo⟩ := K
  intro H locs ls hP hS hl
  simp only [zOk, Bool.and_eq_true, decide_eq_true_eq] at hk
  simp only [zEx] at h
  obtain ⟨⟨hn, hdg⟩, hk⟩ := hk
  obtain ⟨rfl, hd2⟩ := zLen hn hdg hk.1
  obtain ⟨x, hg, h⟩ := zLa_inv h
  exact lv_aload_n hx hb hd2 (Nat.eq_of_beq_eq_true hk.2) (hl.at hg) (hZ _ _ _ _ h H locs ls hP hS hl)
theorem zo_aload {z : Nat} (K : zCx p l R s m args meth c cells slots D cI cJ ad A d mi) (hZ : zZX p l e R s m args below meth c cells slots Q D cI cJ ad A mi Z) (hk : zOk mi pc (.aload z, n, a, b, k1, e1, g, v, w, tb) = true) (h : zEx sc C post Z (.aload z, n, a, b, k1, e1, g, v, w, tb) lv st σ) : zXs p l e R s m args below meth c cells slots Q D cI cJ ad A mi pc lv st σ := by
  obtain ⟨hx, hb, hml, hown, hts, hnw, hK, hinj, hAd, hA, hcl, hsl, hfr, hlo⟩ := K
  intro H locs ls hP hS hl
  simp only [zOk, Bool.and_eq_true, decide_eq_true_eq] at hk
  simp only [zEx] at h
  obtain ⟨⟨hn, hdg⟩, hk⟩ := hk
  obtain ⟨rfl, hd2⟩ := zLen hn hdg hk.1
  have hz := Nat.eq_of_beq_eq_true hk.2
  subst hz
  obtain ⟨x, hg, h5⟩ := zLa_inv h
  exact lv_aload hx hb hd2 (hl.at hg) (hZ _ _ _ _ h5 H locs ls hP hS hl)
theorem zo_istore_n {z : Fin 4} (K : zCx p l R s m args meth c cells slots D cI cJ ad A d mi) (hZ : zZX p l e R s m args below meth c cells slots Q D cI cJ ad A mi Z) (hk : zOk mi pc (.istore_n z, n, a, b, k1, e1, g, v, w, tb) = true) (h : zEx sc C post Z (.istore_n z, n, a, b, k1, e1, g, v, w, tb) lv st σ) : zXs p l e R s m args below meth c cells slots Q D cI cJ ad A mi pc lv st σ := by
  obtain ⟨hx, hb, hml, hown, hts, hnw, hK, hinj, hAd, hA, hcl, hsl, hfr, hlo⟩ := K
  intro H locs ls hP hS hl
  simp only [zOk, Bool.and_eq_true, decide_eq_true_eq] at hk
  simp only [zEx] at h
  obtain ⟨⟨hn, hdg⟩, hk⟩ := hk
  obtain ⟨rfl, hd2⟩ := zLen hn hdg hk.1
  obtain ⟨x, r, rfl, h⟩ := zI_inv h
  obtain ⟨hlt, h⟩ := zG_inv h
  exact lv_istore_n hx hb hd2 (Nat.eq_of_beq_eq_true hk.2) hl.1 (Nat.lt_of_lt_of_le (Nat.le_of_ble_eq_true hlt) hl.2) rfl (fun ls2 hl2 => hZ _ _ _ _ h H locs ls2 hP hS (hl.st1 (v := .int x) hl2))
theorem zo_istore {z : Nat} (K : zCx p l R s m args meth c cells slots D cI cJ ad A d mi) (hZ : zZX p l e R s m args below meth c cells slots Q D cI cJ ad A mi Z) (hk : zOk mi pc (.istore z, n, a, b, k1, e1, g, v, w, tb) = true) (h : zEx sc C post Z (.istore z, n, a, b, k1, e1, g, v, w, tb) lv st σ) : zXs p l e R s m args below meth c cells slots Q D cI cJ ad A mi pc lv st σ := by
  obtain ⟨hx, hb, hml, hown, hts, hnw, hK, hinj, hAd, hA, hcl, hsl, hfr, hlo⟩ := K
  intro H locs ls hP hS hl
  simp only [zOk, Bool.and_eq_true, decide_eq_true_eq] at hk
  simp only [zEx] at h
  obtain ⟨⟨hn, hdg⟩, hk⟩ := hk
  obtain ⟨rfl, hd2⟩ := zLen hn hdg hk.1
  obtain ⟨x, r, rfl, h⟩ := zI_inv h
  obtain ⟨hlt, h⟩ := zG_inv h
  have hz := Nat.eq_of_beq_eq_true hk.2
  subst hz
  exact lv_istore hx hb hd2 hl.1 (Nat.lt_of_lt_of_le (Nat.le_of_ble_eq_true hlt) hl.2) rfl (fun ls2 hl2 => hZ _ _ _ _ h H locs ls2 hP hS (hl.st1 (v := .int x) hl2))
theorem zo_astore_n {z : Fin 4} (K : zCx p l R s m args meth c cells slots D cI cJ ad A d mi) (hZ : zZX p l e R s m args below meth c cells slots Q D cI cJ ad A mi Z) (hk : zOk mi pc (.astore_n z, n, a, b, k1, e1, g, v, w, tb) = true) (h : zEx sc C post Z (.astore_n z, n, a, b, k1, e1, g, v, w, tb) lv st σ) : zXs p l e R s m args below meth c cells slots Q D cI cJ ad A mi pc lv st σ := by
  obtain ⟨hx, hb, hml, hown, hts, hnw, hK, hinj, hAd, hA, hcl, hsl, hfr, hlo⟩ := K
  intro H locs ls hP hS hl
  simp only [zOk, Bool.and_eq_true, decide_eq_true_eq] at hk
  simp only [zEx] at h
  obtain ⟨⟨hn, hdg⟩, hk⟩ := hk
  obtain ⟨rfl, hd2⟩ := zLen hn hdg hk.1
  obtain ⟨x, r, rfl, h⟩ := zA_inv h
  obtain ⟨hlt, h⟩ := zG_inv h
  exact lv_astore_n hx hb hd2 (Nat.eq_of_beq_eq_true hk.2) hl.1 (Nat.lt_of_lt_of_le (Nat.le_of_ble_eq_true hlt) hl.2) rfl (fun ls2 hl2 => hZ _ _ _ _ h H locs ls2 hP hS (hl.st1 (v := .ref x) hl2))
theorem zo_lstore_n {z : Fin 4} (K : zCx p l R s m args meth c cells slots D cI cJ ad A d mi) (hZ : zZX p l e R s m args below meth c cells slots Q D cI cJ ad A mi Z) (hk : zOk mi pc (.lstore_n z, n, a, b, k1, e1, g, v, w, tb) = true) (h : zEx sc C post Z (.lstore_n z, n, a, b, k1, e1, g, v, w, tb) lv st σ) : zXs p l e R s m args below meth c cells slots Q D cI cJ ad A mi pc lv st σ := by
  obtain ⟨hx, hb, hml, hown, hts, hnw, hK, hinj, hAd, hA, hcl, hsl, hfr, hlo⟩ := K
  intro H locs ls hP hS hl
  simp only [zOk, Bool.and_eq_true, decide_eq_true_eq] at hk
  simp only [zEx] at h
  obtain ⟨⟨hn, hdg⟩, hk⟩ := hk
  obtain ⟨rfl, hd2⟩ := zLen hn hdg hk.1
  obtain ⟨x, r, rfl, h⟩ := zJ_inv h
  obtain ⟨hlt, h⟩ := zG_inv h
  exact lv_lstore_n hx hb hd2 (Nat.eq_of_beq_eq_true hk.2) hl.1 (Nat.lt_of_lt_of_le (Nat.le_of_ble_eq_true hlt) hl.2) rfl (fun ls2 hl2 => hZ _ _ _ _ h H locs ls2 hP hS (hl.st2 (v := .long x) hl2))
theorem zo_lstore {z : Nat} (K : zCx p l R s m args meth c cells slots D cI cJ ad A d mi) (hZ : zZX p l e R s m args below meth c cells slots Q D cI cJ ad A mi Z) (hk : zOk mi pc (.lstore z, n, a, b, k1, e1, g, v, w, tb) = true) (h : zEx sc C post Z (.lstore z, n, a, b, k1, e1, g, v, w, tb) lv st σ) : zXs p l e R s m args below meth c cells slots Q D cI cJ ad A mi pc lv st σ := by
  obtain ⟨hx, hb, hml, hown, hts, hnw, hK, hinj, hAd, hA, hcl, hsl, hfr, hlo⟩ := K
  intro H locs ls hP hS hl
  simp only [zOk, Bool.and_eq_true, decide_eq_true_eq] at hk
  simp only [zEx] at h
  obtain ⟨⟨hn, hdg⟩, hk⟩ := hk
  obtain ⟨rfl, hd2⟩ := zLen hn hdg hk.1
  obtain ⟨x, r, rfl, h⟩ := zJ_inv h
  obtain ⟨hlt, h⟩ := zG_inv h
  have hz := Nat.eq_of_beq_eq_true hk.2
  subst hz
  exact lv_lstore hx hb hd2 hl.1 (Nat.lt_of_lt_of_le (Nat.le_of_ble_eq_true hlt) hl.2) rfl (fun ls2 hl2 => hZ _ _ _ _ h H locs ls2 hP hS (hl.st2 (v := .long x) hl2))
theorem zo_iinc {z : Nat} {y : Int} (K : zCx p l R s m args meth c cells slots D cI cJ ad A d mi) (hZ : zZX p l e R s m args below meth c cells slots Q D cI cJ ad A mi Z) (hk : zOk mi pc (.iinc z y, n, a, b, k1, e1, g, v, w, tb) = true) (h : zEx sc C post Z (.iinc z y, n, a, b, k1, e1, g, v, w, tb) lv st σ) : zXs p l e R s m args below meth c cells slots Q D cI cJ ad A mi pc lv st σ := by
  obtain ⟨hx, hb, hml, hown, hts, hnw, hK, hinj, hAd, hA, hcl, hsl, hfr, hlo⟩ := K
  intro H locs ls hP hS hl
  simp only [zOk, Bool.and_eq_true, decide_eq_true_eq] at hk
  simp only [zEx] at h
  obtain ⟨⟨hn, hdg⟩, ⟨hk0, hk1⟩, hk2⟩ := hk
  obtain ⟨rfl, hd2⟩ := zLen hn hdg hk0
  have hz := Nat.eq_of_beq_eq_true hk1
  subst hz
  obtain ⟨x, hg, h⟩ := zLi_inv h
  obtain ⟨k, hkk⟩ := List.getElem?_of_mem ((zAs_mem ad lv 0 (z, zR ad (.int x))).mpr ⟨z, .int x, by rw [List.getD_eq_getElem?_getD] at hg; cases e3 : lv[z]? with | none => rw [e3] at hg; simp at hg | some o => (rw [e3] at hg; simp at hg; rw [hg]), by rw [Nat.zero_add]⟩)
  exact lv_iinc (v := x + v) hx hb hd2 hl.1 (k := k) hkk (by rw [hk2]) (hl.lt hg) rfl (fun ls2 hl2 => hZ _ _ _ _ h H locs ls2 hP hS (hl.st1 (v := .int (x + v)) hl2))
theorem zo_iadd (K : zCx p l R s m args meth c cells slots D cI cJ ad A d mi) (hZ : zZX p l e R s m args below meth c cells slots Q D cI cJ ad A mi Z) (hk : zOk mi pc (.iadd, n, a, b, k1, e1, g, v, w, tb) = true) (h : zEx sc C post Z (.iadd, n, a, b, k1, e1, g, v, w, tb) lv st σ) : zXs p l e R s m args below meth c cells slots Q D cI cJ ad A mi pc lv st σ := by
  obtain ⟨hx, hb, hml, hown, hts, hnw, hK, hinj, hAd, hA, hcl, hsl, hfr, hlo⟩ := K
  intro H locs ls hP hS hl
  simp only [zOk, Bool.and_eq_true, decide_eq_true_eq] at hk
  simp only [zEx] at h
  obtain ⟨⟨hn, hdg⟩, hk⟩ := hk
  obtain ⟨rfl, hd2⟩ := zLen hn hdg hk
  obtain ⟨x, y, r, rfl, h⟩ := zII_inv h
  exact lv_iadd hx hb hd2 (hZ _ _ _ _ h H locs ls hP hS hl)
theorem zo_isub (K : zCx p l R s m args meth c cells slots D cI cJ ad A d mi) (hZ : zZX p l e R s m args below meth c cells slots Q D cI cJ ad A mi Z) (hk : zOk mi pc (.isub, n, a, b, k1, e1, g, v, w, tb) = true) (h : zEx sc C post Z (.isub, n, a, b, k1, e1, g, v, w, tb) lv st σ) : zXs p l e R s m args below meth c cells slots Q D cI cJ ad A mi pc lv st σ := by
  obtain ⟨hx, hb, hml, hown, hts, hnw, hK, hinj, hAd, hA, hcl, hsl, hfr, hlo⟩ := K
  intro H locs ls hP hS hl
  simp only [zOk, Bool.and_eq_true, decide_eq_true_eq] at hk
  simp only [zEx] at h
  obtain ⟨⟨hn, hdg⟩, hk⟩ := hk
  obtain ⟨rfl, hd2⟩ := zLen hn hdg hk
  obtain ⟨x, y, r, rfl, h⟩ := zII_inv h
  exact lv_isub hx hb hd2 (hZ _ _ _ _ h H locs ls hP hS hl)
theorem zo_imul (K : zCx p l R s m args meth c cells slots D cI cJ ad A d mi) (hZ : zZX p l e R s m args below meth c cells slots Q D cI cJ ad A mi Z) (hk : zOk mi pc (.imul, n, a, b, k1, e1, g, v, w, tb) = true) (h : zEx sc C post Z (.imul, n, a, b, k1, e1, g, v, w, tb) lv st σ) : zXs p l e R s m args below meth c cells slots Q D cI cJ ad A mi pc lv st σ := by
  obtain ⟨hx, hb, hml, hown, hts, hnw, hK, hinj, hAd, hA, hcl, hsl, hfr, hlo⟩ := K
  intro H locs ls hP hS hl
  simp only [zOk, Bool.and_eq_true, decide_eq_true_eq] at hk
  simp only [zEx] at h
  obtain ⟨⟨hn, hdg⟩, hk⟩ := hk
  obtain ⟨rfl, hd2⟩ := zLen hn hdg hk
  obtain ⟨x, y, r, rfl, h⟩ := zII_inv h
  exact lv_imul hx hb hd2 (hZ _ _ _ _ h H locs ls hP hS hl)
theorem zo_iand (K : zCx p l R s m args meth c cells slots D cI cJ ad A d mi) (hZ : zZX p l e R s m args below meth c cells slots Q D cI cJ ad A mi Z) (hk : zOk mi pc (.iand, n, a, b, k1, e1, g, v, w, tb) = true) (h : zEx sc C post Z (.iand, n, a, b, k1, e1, g, v, w, tb) lv st σ) : zXs p l e R s m args below meth c cells slots Q D cI cJ ad A mi pc lv st σ := by
  obtain ⟨hx, hb, hml, hown, hts, hnw, hK, hinj, hAd, hA, hcl, hsl, hfr, hlo⟩ := K
  intro H locs ls hP hS hl
  simp only [zOk, Bool.and_eq_true, decide_eq_true_eq] at hk
  simp only [zEx] at h
  obtain ⟨⟨hn, hdg⟩, hk⟩ := hk
  obtain ⟨rfl, hd2⟩ := zLen hn hdg hk
  obtain ⟨x, y, r, rfl, h⟩ := zII_inv h
  exact lv_iand hx hb hd2 (hZ _ _ _ _ h H locs ls hP hS hl)
theorem zo_idiv (K : zCx p l R s m args meth c cells slots D cI cJ ad A d mi) (hZ : zZX p l e R s m args below meth c cells slots Q D cI cJ ad A mi Z) (hk : zOk mi pc (.idiv, n, a, b, k1, e1, g, v, w, tb) = true) (h : zEx sc C post Z (.idiv, n, a, b, k1, e1, g, v, w, tb) lv st σ) : zXs p l e R s m args below meth c cells slots Q D cI cJ ad A mi pc lv st σ := by
  obtain ⟨hx, hb, hml, hown, hts, hnw, hK, hinj, hAd, hA, hcl, hsl, hfr, hlo⟩ := K
  intro H locs ls hP hS hl
  simp only [zOk, Bool.and_eq_true, decide_eq_true_eq] at hk
  simp only [zEx] at h
  obtain ⟨⟨hn, hdg⟩, hk⟩ := hk
  obtain ⟨rfl, hd2⟩ := zLen hn hdg hk
  obtain ⟨x, y, r, rfl, h0, h⟩ := zII_inv h
  exact lv_idiv hx hb hd2 h0 (hZ _ _ _ _ h H locs ls hP hS hl)
theorem zo_irem (K : zCx p l R s m args meth c cells slots D cI cJ ad A d mi) (hZ : zZX p l e R s m args below meth c cells slots Q D cI cJ ad A mi Z) (hk : zOk mi pc (.irem, n, a, b, k1, e1, g, v, w, tb) = true) (h : zEx sc C post Z (.irem, n, a, b, k1, e1, g, v, w, tb) lv st σ) : zXs p l e R s m args below meth c cells slots Q D cI cJ ad A mi pc lv st σ := by
  obtain ⟨hx, hb, hml, hown, hts, hnw, hK, hinj, hAd, hA, hcl, hsl, hfr, hlo⟩ := K
  intro H locs ls hP hS hl
  simp only [zOk, Bool.and_eq_true, decide_eq_true_eq] at hk
  simp only [zEx] at h
  obtain ⟨⟨hn, hdg⟩, hk⟩ := hk
  obtain ⟨rfl, hd2⟩ := zLen hn hdg hk
  obtain ⟨x, y, r, rfl, h0, h⟩ := zII_inv h
  exact lv_irem hx hb hd2 h0 (hZ _ _ _ _ h H locs ls hP hS hl)
theorem zo_ladd (K : zCx p l R s m args meth c cells slots D cI cJ ad A d mi) (hZ : zZX p l e R s m args below meth c cells slots Q D cI cJ ad A mi Z) (hk : zOk mi pc (.ladd, n, a, b, k1, e1, g, v, w, tb) = true) (h : zEx sc C post Z (.ladd, n, a, b, k1, e1, g, v, w, tb) lv st σ) : zXs p l e R s m args below meth c cells slots Q D cI cJ ad A mi pc lv st σ := by
  obtain ⟨hx, hb, hml, hown, hts, hnw, hK, hinj, hAd, hA, hcl, hsl, hfr, hlo⟩ := K
  intro H locs ls hP hS hl
  simp only [zOk, Bool.and_eq_true, decide_eq_true_eq] at hk
  simp only [zEx] at h
  obtain ⟨⟨hn, hdg⟩, hk⟩ := hk
  obtain ⟨rfl, hd2⟩ := zLen hn hdg hk
  obtain ⟨x, y, r, rfl, h⟩ := zJJ_inv h
  exact lv_ladd hx hb hd2 (hZ _ _ _ _ h H locs ls hP hS hl)
theorem zo_lsub (K : zCx p l R s m args meth c cells slots D cI cJ ad A d mi) (hZ : zZX p l e R s m args below meth c cells slots Q D cI cJ ad A mi Z) (hk : zOk mi pc (.lsub, n, a, b, k1, e1, g, v, w, tb) = true) (h : zEx sc C post Z (.lsub, n, a, b, k1, e1, g, v, w, tb) lv st σ) : zXs p l e R s m args below meth c cells slots Q D cI cJ ad A mi pc lv st σ := by
  obtain ⟨hx, hb, hml, hown, hts, hnw, hK, hinj, hAd, hA, hcl, hsl, hfr, hlo⟩ := K
  intro H locs ls hP hS hl
  simp only [zOk, Bool.and_eq_true, decide_eq_true_eq] at hk
  simp only [zEx] at h
  obtain ⟨⟨hn, hdg⟩, hk⟩ := hk
  obtain ⟨rfl, hd2⟩ := zLen hn hdg hk
  obtain ⟨x, y, r, rfl, h⟩ := zJJ_inv h
  exact lv_lsub hx hb hd2 (hZ _ _ _ _ h H locs ls hP hS hl)
theorem zo_lmul (K : zCx p l R s m args meth c cells slots D cI cJ ad A d mi) (hZ : zZX p l e R s m args below meth c cells slots Q D cI cJ ad A mi Z) (hk : zOk mi pc (.lmul, n, a, b, k1, e1, g, v, w, tb) = true) (h : zEx sc C post Z (.lmul, n, a, b, k1, e1, g, v, w, tb) lv st σ) : zXs p l e R s m args below meth c cells slots Q D cI cJ ad A mi pc lv st σ := by
  obtain ⟨hx, hb, hml, hown, hts, hnw, hK, hinj, hAd, hA, hcl, hsl, hfr, hlo⟩ := K
  intro H locs ls hP hS hl
  simp only [zOk, Bool.and_eq_true, decide_eq_true_eq] at hk
  simp only [zEx] at h
  obtain ⟨⟨hn, hdg⟩, hk⟩ := hk
  obtain ⟨rfl, hd2⟩ := zLen hn hdg hk
  obtain ⟨x, y, r, rfl, h⟩ := zJJ_inv h
  exact lv_lmul hx hb hd2 (hZ _ _ _ _ h H locs ls hP hS hl)
theorem zo_ldiv (K : zCx p l R s m args meth c cells slots D cI cJ ad A d mi) (hZ : zZX p l e R s m args below meth c cells slots Q D cI cJ ad A mi Z) (hk : zOk mi pc (.ldiv, n, a, b, k1, e1, g, v, w, tb) = true) (h : zEx sc C post Z (.ldiv, n, a, b, k1, e1, g, v, w, tb) lv st σ) : zXs p l e R s m args below meth c cells slots Q D cI cJ ad A mi pc lv st σ := by
  obtain ⟨hx, hb, hml, hown, hts, hnw, hK, hinj, hAd, hA, hcl, hsl, hfr, hlo⟩ := K
  intro H locs ls hP hS hl
  simp only [zOk, Bool.and_eq_true, decide_eq_true_eq] at hk
  simp only [zEx] at h
  obtain ⟨⟨hn, hdg⟩, hk⟩ := hk
  obtain ⟨rfl, hd2⟩ := zLen hn hdg hk
  obtain ⟨x, y, r, rfl, h0, h⟩ := zJJ_inv h
  exact lv_ldiv hx hb hd2 h0 (hZ _ _ _ _ h H locs ls hP hS hl)
theorem zo_lcmp (K : zCx p l R s m args meth c cells slots D cI cJ ad A d mi) (hZ : zZX p l e R s m args below meth c cells slots Q D cI cJ ad A mi Z) (hk : zOk mi pc (.lcmp, n, a, b, k1, e1, g, v, w, tb) = true) (h : zEx sc C post Z (.lcmp, n, a, b, k1, e1, g, v, w, tb) lv st σ) : zXs p l e R s m args below meth c cells slots Q D cI cJ ad A mi pc lv st σ := by
  obtain ⟨hx, hb, hml, hown, hts, hnw, hK, hinj, hAd, hA, hcl, hsl, hfr, hlo⟩ := K
  intro H locs ls hP hS hl
  simp only [zOk, Bool.and_eq_true, decide_eq_true_eq] at hk
  simp only [zEx] at h
  obtain ⟨⟨hn, hdg⟩, hk⟩ := hk
  obtain ⟨rfl, hd2⟩ := zLen hn hdg hk
  obtain ⟨x, y, r, rfl, h⟩ := zJJ_inv h
  exact W.lcmp hx hb hd2 (hZ _ _ _ _ h H locs ls hP hS hl)
theorem zo_ineg (K : zCx p l R s m args meth c cells slots D cI cJ ad A d mi) (hZ : zZX p l e R s m args below meth c cells slots Q D cI cJ ad A mi Z) (hk : zOk mi pc (.ineg, n, a, b, k1, e1, g, v, w, tb) = true) (h : zEx sc C post Z (.ineg, n, a, b, k1, e1, g, v, w, tb) lv st σ) : zXs p l e R s m args below meth c cells slots Q D cI cJ ad A mi pc lv st σ := by
  obtain ⟨hx, hb, hml, hown, hts, hnw, hK, hinj, hAd, hA, hcl, hsl, hfr, hlo⟩ := K
  intro H locs ls hP hS hl
  simp only [zOk, Bool.and_eq_true, decide_eq_true_eq] at hk
  simp only [zEx] at h
  obtain ⟨⟨hn, hdg⟩, hk⟩ := hk
  obtain ⟨rfl, hd2⟩ := zLen hn hdg hk
  obtain ⟨x, r, rfl, h⟩ := zI_inv h
  exact lv_ineg hx hb hd2 (hZ _ _ _ _ h H locs ls hP hS hl)
theorem zo_i2l (K : zCx p l R s m args meth c cells slots D cI cJ ad A d mi) (hZ : zZX p l e R s m args below meth c cells slots Q D cI cJ ad A mi Z) (hk : zOk mi pc (.i2l, n, a, b, k1, e1, g, v, w, tb) = true) (h : zEx sc C post Z (.i2l, n, a, b, k1, e1, g, v, w, tb) lv st σ) : zXs p l e R s m args below meth c cells slots Q D cI cJ ad A mi pc lv st σ := by
  obtain ⟨hx, hb, hml, hown, hts, hnw, hK, hinj, hAd, hA, hcl, hsl, hfr, hlo⟩ := K
  intro H locs ls hP hS hl
  simp only [zOk, Bool.and_eq_true, decide_eq_true_eq] at hk
  simp only [zEx] at h
  obtain ⟨⟨hn, hdg⟩, hk⟩ := hk
  obtain ⟨rfl, hd2⟩ := zLen hn hdg hk
  obtain ⟨x, r, rfl, h⟩ := zI_inv h
  exact lv_i2l hx hb hd2 rfl (hZ _ _ _ _ h H locs ls hP hS hl)
theorem zo_l2i (K : zCx p l R s m args meth c cells slots D cI cJ ad A d mi) (hZ : zZX p l e R s m args below meth c cells slots Q D cI cJ ad A mi Z) (hk : zOk mi pc (.l2i, n, a, b, k1, e1, g, v, w, tb) = true) (h : zEx sc C post Z (.l2i, n, a, b, k1, e1, g, v, w, tb) lv st σ) : zXs p l e R s m args below meth c cells slots Q D cI cJ ad A mi pc lv st σ := by
  obtain ⟨hx, hb, hml, hown, hts, hnw, hK, hinj, hAd, hA, hcl, hsl, hfr, hlo⟩ := K
  intro H locs ls hP hS hl
  simp only [zOk, Bool.and_eq_true, decide_eq_true_eq] at hk
  simp only [zEx] at h
  obtain ⟨⟨hn, hdg⟩, hk⟩ := hk
  obtain ⟨rfl, hd2⟩ := zLen hn hdg hk
  obtain ⟨x, r, rfl, h⟩ := zJ_inv h
  exact lv_l2i hx hb hd2 rfl (hZ _ _ _ _ h H locs ls hP hS hl)
theorem zo_dup (K : zCx p l R s m args meth c cells slots D cI cJ ad A d mi) (hZ : zZX p l e R s m args below meth c cells slots Q D cI cJ ad A mi Z) (hk : zOk mi pc (.dup, n, a, b, k1, e1, g, v, w, tb) = true) (h : zEx sc C post Z (.dup, n, a, b, k1, e1, g, v, w, tb) lv st σ) : zXs p l e R s m args below meth c cells slots Q D cI cJ ad A mi pc lv st σ := by
  obtain ⟨hx, hb, hml, hown, hts, hnw, hK, hinj, hAd, hA, hcl, hsl, hfr, hlo⟩ := K
  intro H locs ls hP hS hl
  simp only [zOk, Bool.and_eq_true, decide_eq_true_eq] at hk
  simp only [zEx] at h
  obtain ⟨⟨hn, hdg⟩, hk⟩ := hk
  obtain ⟨rfl, hd2⟩ := zLen hn hdg hk
  obtain ⟨x, r, rfl, h0, h⟩ := zV1_inv h
  exact lv_dup hx hb hd2 (by rw [zCat_R]; exact h0) (hZ _ _ _ _ h H locs ls hP hS hl)
theorem zo_pop (K : zCx p l R s m args meth c cells slots D cI cJ ad A d mi) (hZ : zZX p l e R s m args below meth c cells slots Q D cI cJ ad A mi Z) (hk : zOk mi pc (.pop, n, a, b, k1, e1, g, v, w, tb) = true) (h : zEx sc C post Z (.pop, n, a, b, k1, e1, g, v, w, tb) lv st σ) : zXs p l e R s m args below meth c cells slots Q D cI cJ ad A mi pc lv st σ := by
  obtain ⟨hx, hb, hml, hown, hts, hnw, hK, hinj, hAd, hA, hcl, hsl, hfr, hlo⟩ := K
  intro H locs ls hP hS hl
  simp only [zOk, Bool.and_eq_true, decide_eq_true_eq] at hk
  simp only [zEx] at h
  obtain ⟨⟨hn, hdg⟩, hk⟩ := hk
  obtain ⟨rfl, hd2⟩ := zLen hn hdg hk
  obtain ⟨x, r, rfl, h0, h⟩ := zV1_inv h
  exact lv_pop hx hb hd2 (by rw [zCat_R]; exact h0) (hZ _ _ _ _ h H locs ls hP hS hl)
theorem zo_dup2 (K : zCx p l R s m args meth c cells slots D cI cJ ad A d mi) (hZ : zZX p l e R s m args below meth c cells slots Q D cI cJ ad A mi Z) (hk : zOk mi pc (.dup2, n, a, b, k1, e1, g, v, w, tb) = true) (h : zEx sc C post Z (.dup2, n, a, b, k1, e1, g, v, w, tb) lv st σ) : zXs p l e R s m args below meth c cells slots Q D cI cJ ad A mi pc lv st σ := by
  obtain ⟨hx, hb, hml, hown, hts, hnw, hK, hinj, hAd, hA, hcl, hsl, hfr, hlo⟩ := K
  intro H locs ls hP hS hl
  simp only [zOk, Bool.and_eq_true, decide_eq_true_eq] at hk
  simp only [zEx] at h
  obtain ⟨⟨hn, hdg⟩, hk⟩ := hk
  obtain ⟨rfl, hd2⟩ := zLen hn hdg hk
  obtain ⟨x, r, rfl, h0, h1⟩ := zV1_inv h
  obtain ⟨y, r2, rfl, h2, h⟩ := zV1_inv h1
  exact lv_dup2_11 hx hb hd2 (by rw [zCat_R]; exact h0) (by rw [zCat_R]; exact h2) (hZ _ _ _ _ h H locs ls hP hS hl)
theorem zo_if_eq {off : Int} (K : zCx p l R s m args meth c cells slots D cI cJ ad A d mi) (hZ : zZX p l e R s m args below meth c cells slots Q D cI cJ ad A mi Z) (hk : zOk mi pc (.ifCond .eq off, n, a, b, k1, e1, g, v, w, tb) = true) (h : zEx sc C post Z (.ifCond .eq off, n, a, b, k1, e1, g, v, w, tb) lv st σ) : zXs p l e R s m args below meth c cells slots Q D cI cJ ad A mi pc lv st σ := by
  obtain ⟨hx, hb, hml, hown, hts, hnw, hK, hinj, hAd, hA, hcl, hsl, hfr, hlo⟩ := K
  intro H locs ls hP hS hl
  simp only [zOk, Bool.and_eq_true, decide_eq_true_eq] at hk
  simp only [zEx] at h
  obtain ⟨⟨hn, hdg⟩, hk⟩ := hk
  obtain ⟨rfl, hd2⟩ := zLen hn hdg hk.1
  obtain ⟨x, r, rfl, h⟩ := zI_inv h
  exact lv_if_eq hx hb hd2 hk.2 (fun q => hZ _ _ _ _ (h.1 q) H locs ls hP hS hl) (fun q => hZ _ _ _ _ (h.2 q) H locs ls hP hS hl)
theorem zo_icmp_eq {off : Int} (K : zCx p l R s m args meth c cells slots D cI cJ ad A d mi) (hZ : zZX p l e R s m args below meth c cells slots Q D cI cJ ad A mi Z) (hk : zOk mi pc (.if_icmp .eq off, n, a, b, k1, e1, g, v, w, tb) = true) (h : zEx sc C post Z (.if_icmp .eq off, n, a, b, k1, e1, g, v, w, tb) lv st σ) : zXs p l e R s m args below meth c cells slots Q D cI cJ ad A mi pc lv st σ := by
  obtain ⟨hx, hb, hml, hown, hts, hnw, hK, hinj, hAd, hA, hcl, hsl, hfr, hlo⟩ := K
  intro H locs ls hP hS hl
  simp only [zOk, Bool.and_eq_true, decide_eq_true_eq] at hk
  simp only [zEx] at h
  obtain ⟨⟨hn, hdg⟩, hk⟩ := hk
  obtain ⟨rfl, hd2⟩ := zLen hn hdg hk.1
  obtain ⟨x, y, r, rfl, h⟩ := zII_inv h
  exact lv_icmp_eq hx hb hd2 hk.2 (fun q => hZ _ _ _ _ (h.1 q) H locs ls hP hS hl) (fun q => hZ _ _ _ _ (h.2 q) H locs ls hP hS hl)
theorem zo_if_ne {off : Int} (K : zCx p l R s m args meth c cells slots D cI cJ ad A d mi) (hZ : zZX p l e R s m args below meth c cells slots Q D cI cJ ad A mi Z) (hk : zOk mi pc (.ifCond .ne off, n, a, b, k1, e1, g, v, w, tb) = true) (h : zEx sc C post Z (.ifCond .ne off, n, a, b, k1, e1, g, v, w, tb) lv st σ) : zXs p l e R s m args below meth c cells slots Q D cI cJ ad A mi pc lv st σ := by
  obtain ⟨hx, hb, hml, hown, hts, hnw, hK, hinj, hAd, hA, hcl, hsl, hfr, hlo⟩ := K
  intro H locs ls hP hS hl
  simp only [zOk, Bool.and_eq_true, decide_eq_true_eq] at hk
  simp only [zEx] at h
  obtain ⟨⟨hn, hdg⟩, hk⟩ := hk
  obtain ⟨rfl, hd2⟩ := zLen hn hdg hk.1
  obtain ⟨x, r, rfl, h⟩ := zI_inv h
  exact lv_if_ne hx hb hd2 hk.2 (fun q => hZ _ _ _ _ (h.2 q) H locs ls hP hS hl) (fun q => hZ _ _ _ _ (h.1 q) H locs ls hP hS hl)
theorem zo_icmp_ne {off : Int} (K : zCx p l R s m args meth c cells slots D cI cJ ad A d mi) (hZ : zZX p l e R s m args below meth c cells slots Q D cI cJ ad A mi Z) (hk : zOk mi pc (.if_icmp .ne off, n, a, b, k1, e1, g, v, w, tb) = true) (h : zEx sc C post Z (.if_icmp .ne off, n, a, b, k1, e1, g, v, w, tb) lv st σ) : zXs p l e R s m args below meth c cells slots Q D cI cJ ad A mi pc lv st σ := by
  obtain ⟨hx, hb, hml, hown, hts, hnw, hK, hinj, hAd, hA, hcl, hsl, hfr, hlo⟩ := K
  intro H locs ls hP hS hl
  simp only [zOk, Bool.and_eq_true, decide_eq_true_eq] at hk
  simp only [zEx] at h
  obtain ⟨⟨hn, hdg⟩, hk⟩ := hk
  obtain ⟨rfl, hd2⟩ := zLen hn hdg hk.1
  obtain ⟨x, y, r, rfl, h⟩ := zII_inv h
  exact lv_icmp_ne hx hb hd2 hk.2 (fun q => hZ _ _ _ _ (h.2 q) H locs ls hP hS hl) (fun q => hZ _ _ _ _ (h.1 q) H locs ls hP hS hl)
theorem zo_if_lt {off : Int} (K : zCx p l R s m args meth c cells slots D cI cJ ad A d mi) (hZ : zZX p l e R s m args below meth c cells slots Q D cI cJ ad A mi Z) (hk : zOk mi pc (.ifCond .lt off, n, a, b, k1, e1, g, v, w, tb) = true) (h : zEx sc C post Z (.ifCond .lt off, n, a, b, k1, e1, g, v, w, tb) lv st σ) : zXs p l e R s m args below meth c cells slots Q D cI cJ ad A mi pc lv st σ := by
  obtain ⟨hx, hb, hml, hown, hts, hnw, hK, hinj, hAd, hA, hcl, hsl, hfr, hlo⟩ := K
  intro H locs ls hP hS hl
  simp only [zOk, Bool.and_eq_true, decide_eq_true_eq] at hk
  simp only [zEx] at h
  obtain ⟨⟨hn, hdg⟩, hk⟩ := hk
  obtain ⟨rfl, hd2⟩ := zLen hn hdg hk.1
  obtain ⟨x, r, rfl, h⟩ := zI_inv h
  exact lv_if_lt hx hb hd2 hk.2 (fun q => hZ _ _ _ _ (h.1 q) H locs ls hP hS hl) (fun q => hZ _ _ _ _ (h.2 q) H locs ls hP hS hl)
theorem zo_icmp_lt {off : Int} (K : zCx p l R s m args meth c cells slots D cI cJ ad A d mi) (hZ : zZX p l e R s m args below meth c cells slots Q D cI cJ ad A mi Z) (hk : zOk mi pc (.if_icmp .lt off, n, a, b, k1, e1, g, v, w, tb) = true) (h : zEx sc C post Z (.if_icmp .lt off, n, a, b, k1, e1, g, v, w, tb) lv st σ) : zXs p l e R s m args below meth c cells slots Q D cI cJ ad A mi pc lv st σ := by
  obtain ⟨hx, hb, hml, hown, hts, hnw, hK, hinj, hAd, hA, hcl, hsl, hfr, hlo⟩ := K
  intro H locs ls hP hS hl
  simp only [zOk, Bool.and_eq_true, decide_eq_true_eq] at hk
  simp only [zEx] at h
  obtain ⟨⟨hn, hdg⟩, hk⟩ := hk
  obtain ⟨rfl, hd2⟩ := zLen hn hdg hk.1
  obtain ⟨x, y, r, rfl, h⟩ := zII_inv h
  exact lv_icmp_lt hx hb hd2 hk.2 (fun q => hZ _ _ _ _ (h.1 q) H locs ls hP hS hl) (fun q => hZ _ _ _ _ (h.2 q) H locs ls hP hS hl)
theorem zo_if_le {off : Int} (K : zCx p l R s m args meth c cells slots D cI cJ ad A d mi) (hZ : zZX p l e R s m args below meth c cells slots Q D cI cJ ad A mi Z) (hk : zOk mi pc (.ifCond .le off, n, a, b, k1, e1, g, v, w, tb) = true) (h : zEx sc C post Z (.ifCond .le off, n, a, b, k1, e1, g, v, w, tb) lv st σ) : zXs p l e R s m args below meth c cells slots Q D cI cJ ad A mi pc lv st σ := by
  obtain ⟨hx, hb, hml, hown, hts, hnw, hK, hinj, hAd, hA, hcl, hsl, hfr, hlo⟩ := K
  intro H locs ls hP hS hl
  simp only [zOk, Bool.and_eq_true, decide_eq_true_eq] at hk
  simp only [zEx] at h
  obtain ⟨⟨hn, hdg⟩, hk⟩ := hk
  obtain ⟨rfl, hd2⟩ := zLen hn hdg hk.1
  obtain ⟨x, r, rfl, h⟩ := zI_inv h
  exact lv_if_le hx hb hd2 hk.2 (fun q => hZ _ _ _ _ (h.1 q) H locs ls hP hS hl) (fun q => hZ _ _ _ _ (h.2 q) H locs ls hP hS hl)
theorem zo_icmp_le {off : Int} (K : zCx p l R s m args meth c cells slots D cI cJ ad A d mi) (hZ : zZX p l e R s m args below meth c cells slots Q D cI cJ ad A mi Z) (hk : zOk mi pc (.if_icmp .le off, n, a, b, k1, e1, g, v, w, tb) = true) (h : zEx sc C post Z (.if_icmp .le off, n, a, b, k1, e1, g, v, w, tb) lv st σ) : zXs p l e R s m args below meth c cells slots Q D cI cJ ad A mi pc lv st σ := by
  obtain ⟨hx, hb, hml, hown, hts, hnw, hK, hinj, hAd, hA, hcl, hsl, hfr, hlo⟩ := K
  intro H locs ls hP hS hl
  simp only [zOk, Bool.and_eq_true, decide_eq_true_eq] at hk
  simp only [zEx] at h
  obtain ⟨⟨hn, hdg⟩, hk⟩ := hk
  obtain ⟨rfl, hd2⟩ := zLen hn hdg hk.1
  obtain ⟨x, y, r, rfl, h⟩ := zII_inv h
  exact lv_icmp_le hx hb hd2 hk.2 (fun q => hZ _ _ _ _ (h.1 q) H locs ls hP hS hl) (fun q => hZ _ _ _ _ (h.2 q) H locs ls hP hS hl)
theorem zo_if_ge {off : Int} (K : zCx p l R s m args meth c cells slots D cI cJ ad A d mi) (hZ : zZX p l e R s m args below meth c cells slots Q D cI cJ ad A mi Z) (hk : zOk mi pc (.ifCond .ge off, n, a, b, k1, e1, g, v, w, tb) = true) (h : zEx sc C post Z (.ifCond .ge off, n, a, b, k1, e1, g, v, w, tb) lv st σ) : zXs p l e R s m args below meth c cells slots Q D cI cJ ad A mi pc lv st σ := by
  obtain ⟨hx, hb, hml, hown, hts, hnw, hK, hinj, hAd, hA, hcl, hsl, hfr, hlo⟩ := K
  intro H locs ls hP hS hl
  simp only [zOk, Bool.and_eq_true, decide_eq_true_eq] at hk
  simp only [zEx] at h
  obtain ⟨⟨hn, hdg⟩, hk⟩ := hk
  obtain ⟨rfl, hd2⟩ := zLen hn hdg hk.1
  obtain ⟨x, r, rfl, h⟩ := zI_inv h
  exact lv_if_ge hx hb hd2 hk.2 (fun q => hZ _ _ _ _ (h.2 (Int32.not_lt.mpr q)) H locs ls hP hS hl) (fun q => hZ _ _ _ _ (h.1 (Int32.not_le.mp q)) H locs ls hP hS hl)
theorem zo_icmp_ge {off : Int} (K : zCx p l R s m args meth c cells slots D cI cJ ad A d mi) (hZ : zZX p l e R s m args below meth c cells slots Q D cI cJ ad A mi Z) (hk : zOk mi pc (.if_icmp .ge off, n, a, b, k1, e1, g, v, w, tb) = true) (h : zEx sc C post Z (.if_icmp .ge off, n, a, b, k1, e1, g, v, w, tb) lv st σ) : zXs p l e R s m args below meth c cells slots Q D cI cJ ad A mi pc lv st σ := by
  obtain ⟨hx, hb, hml, hown, hts, hnw, hK, hinj, hAd, hA, hcl, hsl, hfr, hlo⟩ := K
  intro H locs ls hP hS hl
  simp only [zOk, Bool.and_eq_true, decide_eq_true_eq] at hk
  simp only [zEx] at h
  obtain ⟨⟨hn, hdg⟩, hk⟩ := hk
  obtain ⟨rfl, hd2⟩ := zLen hn hdg hk.1
  obtain ⟨x, y, r, rfl, h⟩ := zII_inv h
  exact lv_icmp_ge hx hb hd2 hk.2 (fun q => hZ _ _ _ _ (h.2 (Int32.not_lt.mpr q)) H locs ls hP hS hl) (fun q => hZ _ _ _ _ (h.1 (Int32.not_le.mp q)) H locs ls hP hS hl)
theorem zo_if_gt {off : Int} (K : zCx p l R s m args meth c cells slots D cI cJ ad A d mi) (hZ : zZX p l e R s m args below meth c cells slots Q D cI cJ ad A mi Z) (hk : zOk mi pc (.ifCond .gt off, n, a, b, k1, e1, g, v, w, tb) = true) (h : zEx sc C post Z (.ifCond .gt off, n, a, b, k1, e1, g, v, w, tb) lv st σ) : zXs p l e R s m args below meth c cells slots Q D cI cJ ad A mi pc lv st σ := by
  obtain ⟨hx, hb, hml, hown, hts, hnw, hK, hinj, hAd, hA, hcl, hsl, hfr, hlo⟩ := K
  intro H locs ls hP hS hl
  simp only [zOk, Bool.and_eq_true, decide_eq_true_eq] at hk
  simp only [zEx] at h
  obtain ⟨⟨hn, hdg⟩, hk⟩ := hk
  obtain ⟨rfl, hd2⟩ := zLen hn hdg hk.1
  obtain ⟨x, r, rfl, h⟩ := zI_inv h
  exact lv_if_gt hx hb hd2 hk.2 (fun q => hZ _ _ _ _ (h.2 (Int32.not_le.mpr q)) H locs ls hP hS hl) (fun q => hZ _ _ _ _ (h.1 (Int32.not_lt.mp q)) H locs ls hP hS hl)
theorem zo_icmp_gt {off : Int} (K : zCx p l R s m args meth c cells slots D cI cJ ad A d mi) (hZ : zZX p l e R s m args below meth c cells slots Q D cI cJ ad A mi Z) (hk : zOk mi pc (.if_icmp .gt off, n, a, b, k1, e1, g, v, w, tb) = true) (h : zEx sc C post Z (.if_icmp .gt off, n, a, b, k1, e1, g, v, w, tb) lv st σ) : zXs p l e R s m args below meth c cells slots Q D cI cJ ad A mi pc lv st σ := by
  obtain ⟨hx, hb, hml, hown, hts, hnw, hK, hinj, hAd, hA, hcl, hsl, hfr, hlo⟩ := K
  intro H locs ls hP hS hl
  simp only [zOk, Bool.and_eq_true, decide_eq_true_eq] at hk
  simp only [zEx] at h
  obtain ⟨⟨hn, hdg⟩, hk⟩ := hk
  obtain ⟨rfl, hd2⟩ := zLen hn hdg hk.1
  obtain ⟨x, y, r, rfl, h⟩ := zII_inv h
  exact lv_icmp_gt hx hb hd2 hk.2 (fun q => hZ _ _ _ _ (h.2 (Int32.not_le.mpr q)) H locs ls hP hS hl) (fun q => hZ _ _ _ _ (h.1 (Int32.not_lt.mp q)) H locs ls hP hS hl)
theorem zo_goto {off : Int} (K : zCx p l R s m args meth c cells slots D cI cJ ad A d mi) (hZ : zZX p l e R s m args below meth c cells slots Q D cI cJ ad A mi Z) (hk : zOk mi pc (.goto off, n, a, b, k1, e1, g, v, w, tb) = true) (h : zEx sc C post Z (.goto off, n, a, b, k1, e1, g, v, w, tb) lv st σ) : zXs p l e R s m args below meth c cells slots Q D cI cJ ad A mi pc lv st σ := by
  obtain ⟨hx, hb, hml, hown, hts, hnw, hK, hinj, hAd, hA, hcl, hsl, hfr, hlo⟩ := K
  intro H locs ls hP hS hl
  simp only [zOk, Bool.and_eq_true, decide_eq_true_eq] at hk
  simp only [zEx] at h
  obtain ⟨⟨hn, hdg⟩, hk⟩ := hk
  obtain ⟨rfl, hd2⟩ := zLen hn hdg hk.1
  exact lv_goto hx hb hd2 hk.2 (hZ _ _ _ _ h H locs ls hP hS hl)
theorem zTbOk_get {pc : Nat} : ∀ (k : Int) (os : List Int) (tb : List (Int32 × Nat)), zTbOk pc k os tb = true → os.length = tb.length ∧ ∀ (j : Nat) (q : Int32 × Nat), tb[j]? = some q → q.1.toInt = k + (j : Int) ∧ ∃ o, os[j]? = some o ∧ (pc : Int) + o = (q.2 : Int)
  | k, [], [], _ => ⟨rfl, fun j q h => by simp at h⟩
  | k, [], q :: tb, h => by simp [zTbOk] at h
  | k, o :: os, [], h => by simp [zTbOk] at h
  | k, o :: os, q :: tb, h => by
    simp only [zTbOk, Bool.and_eq_true, decide_eq_true_eq] at h
    obtain ⟨⟨h1, h2⟩, h3⟩ := h
    obtain ⟨g1, g2⟩ := zTbOk_get (k + 1) os tb h3
    refine ⟨by simp [g1], fun j q2 hq => ?_⟩
    cases j with
    | zero =>
      simp only [List.getElem?_cons_zero, Option.some.injEq] at hq
      subst hq
      exact ⟨by omega, o, rfl, h2⟩
    | succ j =>
      obtain ⟨a1, o2, a2, a3⟩ := g2 j q2 hq
      exact ⟨by omega, o2, a2, a3⟩
theorem zLkOk_get {pc : Nat} {x : Int32} {d : Int} {X : Nat → Prop} {dt : Nat} (hd : (pc : Int) + d = (dt : Int)) : ∀ (os : List (Int × Int)) (tb : List (Int32 × Nat)), zLkOk pc os tb = true → zTb x X dt tb → ∃ t : Nat, (pc : Int) + Op.lookupswitch.offset os d x.toInt = (t : Int) ∧ X t
  | [], [], _, h => ⟨dt, by simpa [Op.lookupswitch.offset] using hd, h⟩
  | [], q :: tb, hk, _ => by simp [zLkOk] at hk
  | o :: os, [], hk, _ => by simp [zLkOk] at hk
  | o :: os, q :: tb, hk, h => by
    simp only [zLkOk, Bool.and_eq_true, decide_eq_true_eq] at hk
    obtain ⟨⟨h1, h2⟩, h3⟩ := hk
    obtain ⟨oa, ob⟩ := o
    by_cases e : x = q.1
    · refine ⟨q.2, ?_, h.1 e⟩
      rw [Op.lookupswitch.offset_cons, if_pos (by rw [e]; exact h1.symm)]
      exact h2
    · obtain ⟨t, a1, a2⟩ := zLkOk_get hd os tb h3 (h.2 e)
      exact ⟨t, by rw [lv_osw e h1]; exact a1, a2⟩
theorem zo_tableswitch {df lo hi : Int} {offs : Array Int} (K : zCx p l R s m args meth c cells slots D cI cJ ad A d mi) (hZ : zZX p l e R s m args below meth c cells slots Q D cI cJ ad A mi Z) (hk : zOk mi pc (.tableswitch df lo hi offs, n, a, b, k1, e1, g, v, w, tb) = true) (h : zEx sc C post Z (.tableswitch df lo hi offs, n, a, b, k1, e1, g, v, w, tb) lv st σ) : zXs p l e R s m args below meth c cells slots Q D cI cJ ad A mi pc lv st σ := by
  obtain ⟨hx, hb, hml, hown, hts, hnw, hK, hinj, hAd, hA, hcl, hsl, hfr, hlo⟩ := K
  intro H locs ls hP hS hl
  simp only [zOk, Bool.and_eq_true, decide_eq_true_eq] at hk
  simp only [zEx] at h
  obtain ⟨⟨hn, hdg⟩, ⟨h1, h2⟩, h3⟩ := hk
  obtain ⟨x, r, rfl, h⟩ := zI_inv h
  obtain ⟨g1, g2⟩ := zTbOk_get lo _ tb h3
  rcases zTb_inv h with ⟨k, q, e1, e2, e3, -⟩ | ⟨e1, e2⟩
  · obtain ⟨a1, o, a2, a3⟩ := g2 k q e1
    have hkl : k < tb.length := (List.getElem?_eq_some_iff.mp e1).1
    rw [← e2] at a1
    refine lv_tableIn hx hb hdg (by omega) (by omega) (off := o) ?_ a3 (hZ _ _ _ _ e3 H locs ls hP hS hl)
    rw [show (x.toInt - lo).toNat = k by omega, ← Array.getElem?_toList]
    exact a2
  · refine lv_tableOut hx hb hdg ?_ h1 (hZ _ _ _ _ e2 H locs ls hP hS hl)
    by_cases z1 : x.toInt < lo
    · exact Or.inl z1
    · by_cases z2 : hi < x.toInt
      · exact Or.inr z2
      · exfalso
        have hj : (x.toInt - lo).toNat < tb.length := by omega
        have e3 := List.getElem?_eq_getElem hj
        obtain ⟨a1, -⟩ := g2 _ _ e3
        refine e1 _ _ e3 ?_
        rw [← Int32.toInt_inj, a1]
        omega
theorem zo_lookupswitch {df : Int} {ps : Array (Int × Int)} (K : zCx p l R s m args meth c cells slots D cI cJ ad A d mi) (hZ : zZX p l e R s m args below meth c cells slots Q D cI cJ ad A mi Z) (hk : zOk mi pc (.lookupswitch df ps, n, a, b, k1, e1, g, v, w, tb) = true) (h : zEx sc C post Z (.lookupswitch df ps, n, a, b, k1, e1, g, v, w, tb) lv st σ) : zXs p l e R s m args below meth c cells slots Q D cI cJ ad A mi pc lv st σ := by
  obtain ⟨hx, hb, hml, hown, hts, hnw, hK, hinj, hAd, hA, hcl, hsl, hfr, hlo⟩ := K
  intro H locs ls hP hS hl
  simp only [zOk, Bool.and_eq_true, decide_eq_true_eq] at hk
  simp only [zEx] at h
  obtain ⟨⟨hn, hdg⟩, ⟨h1, h2⟩, h3⟩ := hk
  obtain ⟨x, r, rfl, h⟩ := zI_inv h
  obtain ⟨t, a1, a2⟩ := zLkOk_get h1 _ tb h3 h
  exact lv_lookup hx hb hdg h2 rfl a1 (hZ _ _ _ _ a2 H locs ls hP hS hl)
theorem zFl_spec {own : String} {idx a b g : Nat} (h : zFl own idx a b g = true) : Cond.fieldLink own idx ((zCl a).2.1 b).1 ((zCl a).2.1 b).2.1 ((zCl a).2.1 b).2.2.1 ∈ zTg := zin _ (of_decide_eq_true h) rfl
theorem zFn_spec {own : String} {idx a b g : Nat} (h : zFn own idx a b g = true) : Cond.fieldLinkNest own idx ((zCl a).2.1 b).1 ((zCl a).2.1 b).2.1 ((zCl a).2.1 b).2.2.1 "RatePlanner" ∈ zNw := zinN _ (of_decide_eq_true h) rfl
theorem zo_getfield {idx : Nat} (K : zCx p l R s m args meth c cells slots D cI cJ ad A d mi) (hZ : zZX p l e R s m args below meth c cells slots Q D cI cJ ad A mi Z) (hk : zOk mi pc (.getfield idx, n, a, b, k1, e1, g, v, w, tb) = true) (h : zEx sc C post Z (.getfield idx, n, a, b, k1, e1, g, v, w, tb) lv st σ) : zXs p l e R s m args below meth c cells slots Q D cI cJ ad A mi pc lv st σ := by
  obtain ⟨hx, hb, hml, hown, hts, hnw, hK, hinj, hAd, hA, hcl, hsl, hfr, hlo⟩ := K
  intro H locs ls hP hS hl
  simp only [zOk, Bool.and_eq_true, decide_eq_true_eq] at hk
  simp only [zEx] at h
  obtain ⟨⟨hn, hdg⟩, ⟨⟨h1, h2⟩, h3⟩, h4⟩ := hk
  obtain ⟨rfl, hd2⟩ := zLen hn hdg h1
  have h2 := Nat.le_of_ble_eq_true h2
  have h3 := Nat.le_of_ble_eq_true h3
  obtain ⟨q, r, rfl, h⟩ := zA_inv h
  obtain ⟨hg, h⟩ := zG_inv h
  simp only [Bool.and_eq_true] at hg
  obtain ⟨sl, hq, hs⟩ := zIsO_spec hg.1
  have hkd := Nat.eq_of_beq_eq_true hg.2
  obtain ⟨hcl2, hcv⟩ := zCl_get h2
  obtain ⟨hin, -, -⟩ := zCv_spec hcv
  have go : ∀ val : Value, (zFs ad σ q 0 sl)[b]? = some val → W p l e R s m args below meth c H locs cells slots Q (F0 m (pc + 3) ls (val :: r.map (zR ad))) → W p l e R s m args below meth c H locs cells slots Q (F0 m pc ls (.ref (ad q) :: r.map (zR ad))) := by
    intro val hv hw
    have he := zW_get ad cI cJ σ hq
    simp only [Bool.or_eq_true] at h4
    rcases h4 with h4 | h4
    · exact va_get (D := D) hx hb hts hin hown hK hP q he hcl2 b h3 (hts _ (zFl_spec h4)) (fun _ h9 => h9) hv hd2 hw
    · exact va_getN (D := D) hx hb hts hin hown hK hP q he hcl2 b h3 (va_Nw.use rfl (hnw _ (zFn_spec h4))) (fun _ h9 => h9) hv hd2 hw
  have hsl : (zSl q b).1 ≠ 9 → sl[b]? = some (zSl q b) := fun z => by rw [hs b] at z ⊢; exact zGetD_some z
  match k1, hkd, h with
  | 0, hkd, h =>
    have e2 := zFs_get ad σ q sl 0 b _ (hsl (by rw [hkd]; decide))
    rw [hkd] at e2
    exact go _ e2 (hZ _ _ _ _ h H locs ls hP hS hl)
  | 1, hkd, h =>
    have e2 := zFs_get ad σ q sl 0 b _ (hsl (by rw [hkd]; decide))
    rw [hkd, Nat.zero_add] at e2
    exact go _ e2 (hZ _ _ _ _ h H locs ls hP hS hl)
  | 2, hkd, h =>
    have e2 := zFs_get ad σ q sl 0 b _ (hsl (by rw [hkd]; decide))
    rw [hkd, Nat.zero_add] at e2
    exact go _ e2 (hZ _ _ _ _ h H locs ls hP hS hl)
  | 3, hkd, h =>
    have e2 := zFs_get ad σ q sl 0 b _ (hsl (by rw [hkd]; decide))
    rw [hkd, Nat.zero_add] at e2
    exact go _ e2 (hZ _ _ _ _ h H locs ls hP hS hl)
  | k + 4, _, h => exact False.elim h
theorem zo_putfield {idx : Nat} (K : zCx p l R s m args meth c cells slots D cI cJ ad A d mi) (hZ : zZX p l e R s m args below meth c cells slots Q D cI cJ ad A mi Z) (hk : zOk mi pc (.putfield idx, n, a, b, k1, e1, g, v, w, tb) = true) (h : zEx sc C post Z (.putfield idx, n, a, b, k1, e1, g, v, w, tb) lv st σ) : zXs p l e R s m args below meth c cells slots Q D cI cJ ad A mi pc lv st σ := by
  obtain ⟨hx, hb, hml, hown, hts, hnw, hK, hinj, hAd, hA, hcl, hsl, hfr, hlo⟩ := K
  intro H locs ls hP hS hl
  simp only [zOk, Bool.and_eq_true, decide_eq_true_eq] at hk
  simp only [zEx] at h
  obtain ⟨⟨hn, hdg⟩, ⟨⟨⟨⟨h1, h2⟩, h3⟩, h4⟩, h5⟩, h6⟩ := hk
  obtain ⟨rfl, hd2⟩ := zLen hn hdg h1
  have h2 := Nat.le_of_ble_eq_true h2
  have h3 := Nat.le_of_ble_eq_true h3
  obtain ⟨hcl2, hcv⟩ := zCl_get h2
  obtain ⟨hin, hty, hnm⟩ := zCv_spec hcv
  have hfin : ((zCl a).2.1 b).2.2.2 = false := by simpa using h5
  match k1, h, h6 with
  | 0, h, _ => exact False.elim h
  | 1, h, h6 =>
    obtain ⟨x, r, rfl, h7⟩ := zI_inv h
    obtain ⟨q, r2, rfl, h8⟩ := zA_inv h7
    obtain ⟨hg, h9⟩ := zG_inv h8
    simp only [Bool.and_eq_true] at hg
    obtain ⟨sl, hq, hs⟩ := zIsO_spec hg.1
    have hkd := Nat.eq_of_beq_eq_true hg.2
    have hsl : sl[b]? = some (zSl q b) := by rw [hs b]; exact zGetD_some (by rw [← hs b, hkd]; decide)
    have he : (zW ad cI cJ σ)[q]? = some (ad q, .inr (a, zFs ad σ q 0 sl)) := zW_get ad cI cJ σ hq
    have e1 : (zW ad cI cJ σ).set q (ad q, .inr (a, (zFs ad σ q 0 sl).set b (.int x))) = zW ad cI cJ (zSI σ q b x) := by
      rw [zFs_setI ad σ q x sl 0 b _ hsl (Or.inl hkd), Nat.zero_add]
      exact zW_set ad cI cJ hq (fun a h => zSI_1 h) (fun a h => rfl)
    exact va_put (D := D) (ty := .int) (v := .int x) hx hb hts hin _ hty hnm hown hK hP (zD_of hinj hAd σ) hS q he hcl2 b h3 (hts _ (zFl_spec h4)) (fun _ h9 => h9) hfin h6 rfl rfl (by rw [zFs_len]; exact (List.getElem?_eq_some_iff.mp hsl).1) hd2 (fun H1 locs1 hP1 hD1 hS1 => hZ _ _ _ _ h9 H1 locs1 ls (by rw [e1] at hP1; exact hP1) hS1 hl)
  | 2, h, h6 =>
    obtain ⟨x, r, rfl, h7⟩ := zI_inv h
    obtain ⟨q, r2, rfl, h8⟩ := zA_inv h7
    obtain ⟨hg, h9⟩ := zG_inv h8
    obtain ⟨hg2, h10⟩ := zG_inv h9
    simp only [Bool.and_eq_true] at hg
    obtain ⟨sl, hq, hs⟩ := zIsO_spec hg.1
    have hkd := Nat.eq_of_beq_eq_true hg.2
    have hsl : sl[b]? = some (zSl q b) := by rw [hs b]; exact zGetD_some (by rw [← hs b, hkd]; decide)
    have he : (zW ad cI cJ σ)[q]? = some (ad q, .inr (a, zFs ad σ q 0 sl)) := zW_get ad cI cJ σ hq
    have e1 : (zW ad cI cJ σ).set q (ad q, .inr (a, (zFs ad σ q 0 sl).set b (.int x))) = zW ad cI cJ (zSI σ q b x) := by
      rw [zFs_setI ad σ q x sl 0 b _ hsl (Or.inr hkd), Nat.zero_add]
      exact zW_set ad cI cJ hq (fun a h => zSI_1 h) (fun a h => rfl)
    exact va_put (D := D) (ty := .boolean) (v := .int x) hx hb hts hin _ hty hnm hown hK hP (zD_of hinj hAd σ) hS q he hcl2 b h3 (hts _ (zFl_spec h4)) (fun _ h9 => h9) hfin h6 (z01_nar hg2) hg2 (by rw [zFs_len]; exact (List.getElem?_eq_some_iff.mp hsl).1) hd2 (fun H1 locs1 hP1 hD1 hS1 => hZ _ _ _ _ h10 H1 locs1 ls (by rw [e1] at hP1; exact hP1) hS1 hl)
  | 3, h, h6 =>
    obtain ⟨x, r, rfl, h7⟩ := zJ_inv h
    obtain ⟨q, r2, rfl, h8⟩ := zA_inv h7
    obtain ⟨hg, h9⟩ := zG_inv h8
    simp only [Bool.and_eq_true] at hg
    obtain ⟨sl, hq, hs⟩ := zIsO_spec hg.1
    have hkd := Nat.eq_of_beq_eq_true hg.2
    have hsl : sl[b]? = some (zSl q b) := by rw [hs b]; exact zGetD_some (by rw [← hs b, hkd]; decide)
    have he : (zW ad cI cJ σ)[q]? = some (ad q, .inr (a, zFs ad σ q 0 sl)) := zW_get ad cI cJ σ hq
    have e1 : (zW ad cI cJ σ).set q (ad q, .inr (a, (zFs ad σ q 0 sl).set b (.long x))) = zW ad cI cJ (zSJ σ q b x) := by
      rw [zFs_setJ ad σ q x sl 0 b _ hsl hkd, Nat.zero_add]
      exact zW_set ad cI cJ hq (fun a h => rfl) (fun a h => zSJ_1 h)
    exact va_put (D := D) (ty := .long) (v := .long x) hx hb hts hin _ hty hnm hown hK hP (zD_of hinj hAd σ) hS q he hcl2 b h3 (hts _ (zFl_spec h4)) (fun _ h9 => h9) hfin h6 rfl rfl (by rw [zFs_len]; exact (List.getElem?_eq_some_iff.mp hsl).1) hd2 (fun H1 locs1 hP1 hD1 hS1 => hZ _ _ _ _ h9 H1 locs1 ls (by rw [e1] at hP1; exact hP1) hS1 hl)
  | k + 4, h, _ => exact False.elim h
theorem zo_iaload (hsc : ∀ t, sc = some t → va_X (ad 80) t.1 t.2 s s.heap ∧ ad 80 < s.heap.size ∧ ¬ A (ad 80)) (K : zCx p l R s m args meth c cells slots D cI cJ ad A d mi) (hZ : zZX p l e R s m args below meth c cells slots Q D cI cJ ad A mi Z) (hk : zOk mi pc (.iaload, n, a, b, k1, e1, g, v, w, tb) = true) (h : zEx sc C post Z (.iaload, n, a, b, k1, e1, g, v, w, tb) lv st σ) : zXs p l e R s m args below meth c cells slots Q D cI cJ ad A mi pc lv st σ := by
  obtain ⟨hx, hb, hml, hown, hts, hnw, hK, hinj, hAd, hA, hcl, hsl, hfr, hlo⟩ := K
  intro H locs ls hP hS hl
  simp only [zOk, Bool.and_eq_true, decide_eq_true_eq] at hk
  simp only [zEx] at h
  obtain ⟨⟨hn, hdg⟩, hk⟩ := hk
  obtain ⟨rfl, hd2⟩ := zLen hn hdg hk
  obtain ⟨q, i, r, rfl, h0⟩ := zAI_inv h
  unfold zIl at h0
  cases hz : zIsI q with
  | true =>
    rw [hz] at h0
    obtain ⟨sl, hq⟩ := zIsI_spec hz
    exact va_iald (D := D) hx hb hK hP q 0 (cA := cI) (n := zN q) (f := σ.1 q) (zW_get ad cI cJ σ hq) rfl h0.1 hd2 (hZ _ _ _ _ h0.2 H locs ls hP hS hl)
  | false =>
    rw [hz] at h0
    cases sc with
    | none => exact False.elim h0
    | some t =>
      obtain ⟨h1, h2⟩ := zG_inv h0
      have e := Nat.eq_of_beq_eq_true h1
      subst e
      obtain ⟨g1, g2, g3⟩ := hsc t rfl
      exact va_sld hx hb g1 g2 g3 hS h2.1 hd2 (hZ _ _ _ _ h2.2 H locs ls hP hS hl)
theorem zo_laload (K : zCx p l R s m args meth c cells slots D cI cJ ad A d mi) (hZ : zZX p l e R s m args below meth c cells slots Q D cI cJ ad A mi Z) (hk : zOk mi pc (.laload, n, a, b, k1, e1, g, v, w, tb) = true) (h : zEx sc C post Z (.laload, n, a, b, k1, e1, g, v, w, tb) lv st σ) : zXs p l e R s m args below meth c cells slots Q D cI cJ ad A mi pc lv st σ := by
  obtain ⟨hx, hb, hml, hown, hts, hnw, hK, hinj, hAd, hA, hcl, hsl, hfr, hlo⟩ := K
  intro H locs ls hP hS hl
  simp only [zOk, Bool.and_eq_true, decide_eq_true_eq] at hk
  simp only [zEx] at h
  obtain ⟨⟨hn, hdg⟩, hk⟩ := hk
  obtain ⟨rfl, hd2⟩ := zLen hn hdg hk
  obtain ⟨q, i, r, rfl, h⟩ := zAI_inv h
  obtain ⟨hz, h⟩ := zG_inv h
  obtain ⟨sl, hq⟩ := zIsJ_spec hz
  exact va_lald (D := D) hx hb hK hP q 1 (cA := cJ) (n := zN q) (f := σ.2 q) (zW_get ad cI cJ σ hq) rfl h.1 hd2 (hZ _ _ _ _ h.2 H locs ls hP hS hl)
theorem zo_iastore (K : zCx p l R s m args meth c cells slots D cI cJ ad A d mi) (hZ : zZX p l e R s m args below meth c cells slots Q D cI cJ ad A mi Z) (hk : zOk mi pc (.iastore, n, a, b, k1, e1, g, v, w, tb) = true) (h : zEx sc C post Z (.iastore, n, a, b, k1, e1, g, v, w, tb) lv st σ) : zXs p l e R s m args below meth c cells slots Q D cI cJ ad A mi pc lv st σ := by
  obtain ⟨hx, hb, hml, hown, hts, hnw, hK, hinj, hAd, hA, hcl, hsl, hfr, hlo⟩ := K
  intro H locs ls hP hS hl
  simp only [zOk, Bool.and_eq_true, decide_eq_true_eq] at hk
  simp only [zEx] at h
  obtain ⟨⟨hn, hdg⟩, hk⟩ := hk
  obtain ⟨rfl, hd2⟩ := zLen hn hdg hk
  obtain ⟨x, r0, rfl, h1⟩ := zI_inv h
  obtain ⟨q, i, r, rfl, h2⟩ := zAI_inv h1
  obtain ⟨hz, h3⟩ := zG_inv h2
  obtain ⟨sl, hq⟩ := zIsI_spec hz
  have e1 := zW_set ad cI cJ (σ := σ) (τ := zSI σ q i.toNatClampNeg x) hq (fun a h => zSI_1 h) (fun a h => rfl)
  rw [show zEn ad cI cJ (zSI σ q i.toNatClampNeg x) q (1, zN q, sl) = .inl (cI, zN q, .inl (upd (σ.1 q) i.toNatClampNeg x)) from by rw [← zSI_s]; rfl] at e1
  exact va_iast (D := D) hx hb hK hP (zD_of hinj hAd σ) hS q 0 (cA := cI) (n := zN q) (f := σ.1 q) (zW_get ad cI cJ σ hq) rfl h3.1 hd2 (fun H1 locs1 hP1 hD1 hS1 => hZ _ _ _ _ h3.2 H1 locs1 ls (by rw [e1] at hP1; exact hP1) hS1 hl)
theorem zo_lastore (K : zCx p l R s m args meth c cells slots D cI cJ ad A d mi) (hZ : zZX p l e R s m args below meth c cells slots Q D cI cJ ad A mi Z) (hk : zOk mi pc (.lastore, n, a, b, k1, e1, g, v, w, tb) = true) (h : zEx sc C post Z (.lastore, n, a, b, k1, e1, g, v, w, tb) lv st σ) : zXs p l e R s m args below meth c cells slots Q D cI cJ ad A mi pc lv st σ := by
  obtain ⟨hx, hb, hml, hown, hts, hnw, hK, hinj, hAd, hA, hcl, hsl, hfr, hlo⟩ := K
  intro H locs ls hP hS hl
  simp only [zOk, Bool.and_eq_true, decide_eq_true_eq] at hk
  simp only [zEx] at h
  obtain ⟨⟨hn, hdg⟩, hk⟩ := hk
  obtain ⟨rfl, hd2⟩ := zLen hn hdg hk
  obtain ⟨x, r0, rfl, h1⟩ := zJ_inv h
  obtain ⟨q, i, r, rfl, h2⟩ := zAI_inv h1
  obtain ⟨hz, h3⟩ := zG_inv h2
  obtain ⟨sl, hq⟩ := zIsJ_spec hz
  have e1 := zW_set ad cI cJ (σ := σ) (τ := zSJ σ q i.toNatClampNeg x) hq (fun a h => rfl) (fun a h => zSJ_1 h)
  rw [show zEn ad cI cJ (zSJ σ q i.toNatClampNeg x) q (2, zN q, sl) = .inl (cJ, zN q, .inr (.inl (vp_updL (σ.2 q) i.toNatClampNeg x))) from by rw [← zSJ_s]; rfl] at e1
  exact va_last (D := D) hx hb hK hP (zD_of hinj hAd σ) hS q 1 (cA := cJ) (n := zN q) (f := σ.2 q) (zW_get ad cI cJ σ hq) rfl h3.1 hd2 (fun H1 locs1 hP1 hD1 hS1 => hZ _ _ _ _ h3.2 H1 locs1 ls (by rw [e1] at hP1; exact hP1) hS1 hl)
theorem zo_arraylength (hsc : ∀ t, sc = some t → va_X (ad 80) t.1 t.2 s s.heap ∧ ad 80 < s.heap.size ∧ ¬ A (ad 80)) (K : zCx p l R s m args meth c cells slots D cI cJ ad A d mi) (hZ : zZX p l e R s m args below meth c cells slots Q D cI cJ ad A mi Z) (hk : zOk mi pc (.arraylength, n, a, b, k1, e1, g, v, w, tb) = true) (h : zEx sc C post Z (.arraylength, n, a, b, k1, e1, g, v, w, tb) lv st σ) : zXs p l e R s m args below meth c cells slots Q D cI cJ ad A mi pc lv st σ := by
  obtain ⟨hx, hb, hml, hown, hts, hnw, hK, hinj, hAd, hA, hcl, hsl, hfr, hlo⟩ := K
  intro H locs ls hP hS hl
  simp only [zOk, Bool.and_eq_true, decide_eq_true_eq] at hk
  simp only [zEx] at h
  obtain ⟨⟨hn, hdg⟩, hk⟩ := hk
  obtain ⟨rfl, hd2⟩ := zLen hn hdg hk
  obtain ⟨q, r, rfl, h1⟩ := zA_inv h
  unfold zLe at h1
  cases hz : zIsI q with
  | true =>
    rw [hz] at h1
    obtain ⟨sl, hq⟩ := zIsI_spec hz
    exact va_alen (D := D) hx hb hK hP q 0 (cA := cI) (zW_get ad cI cJ σ hq) rfl rfl hd2 (hZ _ _ _ _ h1 H locs ls hP hS hl)
  | false =>
    cases hz2 : zIsJ q with
    | true =>
      rw [hz, hz2] at h1
      obtain ⟨sl, hq⟩ := zIsJ_spec hz2
      exact va_alen (D := D) hx hb hK hP q 1 (cA := cJ) (zW_get ad cI cJ σ hq) rfl rfl hd2 (hZ _ _ _ _ h1 H locs ls hP hS hl)
    | false =>
      rw [hz, hz2] at h1
      cases sc with
      | none => exact False.elim h1
      | some t =>
        obtain ⟨h2, h3⟩ := zG_inv h1
        have e := Nat.eq_of_beq_eq_true h2
        subst e
        obtain ⟨g1, g2, g3⟩ := hsc t rfl
        exact va_slen hx hb g1 g2 g3 hS hd2 (hZ _ _ _ _ h3 H locs ls hP hS hl)
end ZX
end
section
/-! calls and ends of the small machine; then all of it -/
section ZC
variable {p : Program} {l : Launch} {e : Env} {R : Room} {s : State} {m : MethodId} {args : Array Value} {below : List Frame} {meth : Method} {c : Code} {cells slots : Nat} {Q : State → Prop} {D : va_G} {cI cJ : ClassId} {ad : Nat → Nat} {A : Nat → Prop} {d mi : Nat}
variable {sc : Option (Nat × (Nat → Int32))} {C : zCa} {post : zPo} {Z : zX} {pc n a b k1 e1 g : Nat} {v : Int32} {w : Int64} {tb : List (Int32 × Nat)} {lv : zLo} {st : List Value} {σ : zS}
/-- behind a call -/
theorem z_go {H : Heap} {locs : List Loc} {ls : Array Slot} {st0 r : List Value} {po : zPo} {av : Array Value} (K : zCx p l R s m args meth c cells slots D cI cJ ad A d mi) (hS : va_S A s.heap H locs) (hl : zHas ad ls (zMl mi) lv)
    (hrun : va_Run p l e R s m args below meth c H locs cells slots 0 0 (F0 m pc ls st0) (r.map (zR ad)) (zQ D cI cJ ad H.size po av) (zA0 ad H.size))
    (hk : ∀ (v : Option Value) (σ2 : zS), po v σ2 → v.toList.map (zR ad) = v.toList ∧ zXs p l e R s m args below meth c cells slots Q D cI cJ ad A mi (pc + 3) lv (v.toList ++ r) σ2) : W p l e R s m args below meth c H locs cells slots Q (F0 m pc ls st0) := by
  obtain ⟨hx, hb, hml, hown, hts, hnw, hK, hinj, hAd, hA, hcl, hsl, hfr, hlo⟩ := K
  refine z_callG hrun (fun v st₀ t H1 L h0 ht hQa hL => ?_)
  obtain ⟨⟨r2, σ2, hr, hp, hP1⟩, hF⟩ := hQa
  cases hr
  obtain ⟨g1, g2⟩ := hk v σ2 hp
  have e3 := g2 H1 (locs ++ L) ls (by rw [← ht]; exact hP1) (zS_call hS hAd hA h0 hF ht hL) hl
  rw [List.map_append, g1] at e3
  exact e3
/-- what a call's room and words ask -/
theorem z_room (K : zCx p l R s m args meth c cells slots D cI cJ ad A d mi) {a : Nat} (ha : zMl a ≤ 13) : (zRm d).frames + 1 ≤ R.frames ∧ 8 + (zMl a + 11) + (zRm d).locals ≤ R.locals := by
  obtain ⟨hx, hb, hml, hown, hts, hnw, hK, hinj, hAd, hA, hcl, hsl, hfr, hlo⟩ := K
  refine ⟨hfr, ?_⟩
  show 8 + (zMl a + 11) + 32 * d ≤ R.locals
  omega
theorem z_pre (K : zCx p l R s m args meth c cells slots D cI cJ ad A d mi) {H : Heap} (hP : va_P D vwCl (zW ad cI cJ σ) H) {U : State} (hU : U.heap = H) (hW : s.WarmedH U.vm) : zB D cI cJ ad H.size σ U := by
  obtain ⟨hx, hb, hml, hown, hts, hnw, hK, hinj, hAd, hA, hcl, hsl, hfr, hlo⟩ := K
  exact ⟨by rw [hU], by rw [hU]; exact hP, va_K.moved hW.alike hK, fun w hw => zNw_warm hw hW (hnw w hw)⟩
theorem z_res {av : List Value} {cc : Nat} {X : zX} {r : List Value} {pc : Nat} {lv : zLo} {hC : zCa} {a : Nat} (h : match cc with
    | 0 => hC a av σ (zPV fun σ => X pc lv r σ)
    | 1 => hC a av σ (zPI fun x σ => X pc lv (.int x :: r) σ)
    | _ => hC a av σ (zPJ fun x σ => X pc lv (.long x :: r) σ)) : ∃ po : zPo, hC a av σ po ∧ ∀ (v : Option Value) (σ2 : zS), po v σ2 → (∀ ad : Nat → Nat, v.toList.map (zR ad) = v.toList) ∧ X pc lv (v.toList ++ r) σ2 := by
  match cc, h with
  | 0, h => exact ⟨_, h, fun v σ2 hp => by obtain ⟨rfl, hp⟩ := hp; exact ⟨fun _ => rfl, hp⟩⟩
  | 1, h => exact ⟨_, h, fun v σ2 hp => by obtain ⟨x, rfl, hp⟩ := hp; exact ⟨fun _ => rfl, hp⟩⟩
  | k + 2, h => exact ⟨_, h, fun v σ2 hp => by obtain ⟨x, rfl, hp⟩ := hp; exact ⟨fun _ => rfl, hp⟩⟩
theorem zo_invokevirtual {idx : Nat} (hC : ∀ (a : Nat) (av : List Value) (σ : zS) (po : zPo), a < 213 → a ≠ nL_law → C a av σ po → zCon l D cI cJ ad d a av σ po) (K : zCx p l R s m args meth c cells slots D cI cJ ad A d mi) (hZ : zZX p l e R s m args below meth c cells slots Q D cI cJ ad A mi Z) (hk : zOk mi pc (.invokevirtual idx, n, a, b, k1, e1, g, v, w, tb) = true) (h : zEx sc C post Z (.invokevirtual idx, n, a, b, k1, e1, g, v, w, tb) lv st σ) : zXs p l e R s m args below meth c cells slots Q D cI cJ ad A mi pc lv st σ := by
  have K0 := K
  obtain ⟨hx, hb, hml, hown, hts, hnw, hK, hinj, hAd, hA, hcl, hsl, hfr, hlo⟩ := K
  intro H locs ls hP hS hl
  simp only [zOk, Bool.and_eq_true, decide_eq_true_eq] at hk
  simp only [zEx] at h
  obtain ⟨⟨hn, hdg⟩, ⟨⟨⟨⟨⟨⟨⟨⟨h1, h2⟩, h3⟩, h4⟩, h5⟩, h6⟩, h7⟩, h8⟩, h9⟩, h10⟩ := hk
  obtain ⟨rfl, hd2⟩ := zLen hn hdg h1
  have h2 := Nat.le_of_ble_eq_true h2
  have h3 : a ≠ nL_law := by
    intro q
    rw [q] at h3
    simp at h3
  have h4 : zMs a = false := by simpa using h4
  have h5 := Nat.eq_of_beq_eq_true h5
  have h6 : ¬ (zY a).name = "<init>" := by simpa using h6
  have h7 := Nat.le_of_ble_eq_true h7
  obtain ⟨av0, r, hlen, rfl, hq⟩ := zPn_inv b [] st _ h
  rw [List.append_nil] at hq
  obtain ⟨hg, hq2⟩ := zG_inv hq
  simp only [Bool.and_eq_true] at hg
  obtain ⟨hrc, hw8⟩ := hg
  have hw8 := Nat.le_of_ble_eq_true hw8
  obtain ⟨m1, m2, m3, m4, m5, m6, m7⟩ := zMv_spec h2 h3
  obtain ⟨n1, n2, n3, n4⟩ := m7 h4
  have n2 := n2.resolve_left h6
  obtain ⟨po, hca, hpo⟩ := z_res hq2
  have hM := hC a av0.reverse σ po h2 h3 hca H.size
  -- the receiver
  cases hav : av0.reverse with
  | nil => rw [hav] at hrc; exact absurd hrc (by simp [zRc])
  | cons rv as =>
    rw [hav] at hrc hM
    cases rv with
    | ref q =>
      obtain ⟨sl, hq3, -⟩ := zIsO_spec (show zIsO q e1 = true from hrc)
      have hav2 : av0 = as.reverse ++ [.ref q] := by
        have := congrArg List.reverse hav
        simpa using this
      subst h5
      have hn1 : (as.map (zR ad)).length = b - 1 := by
        have : av0.length = as.length + 1 := by rw [hav2]; simp
        rw [List.length_map]; omega
      have hst : (List.map (zR ad) (av0 ++ r)) = (as.map (zR ad)).reverse ++ .ref (ad q) :: r.map (zR ad) := by
        rw [hav2]; simp [zR]
      obtain ⟨hcl2, hcv⟩ := zCl_get n3
      have hrecv := va_recv hK hP hcl2 (zW_get ad cI cJ σ hq3)
      have hpre : PreV s H (zY a).cls (ad q) (va_Pc ((Value.ref q :: as).map (zR ad)) (zB D cI cJ ad H.size σ)) (as.map (zR ad)) :=
        ⟨zB_blind D cI cJ ad H.size σ _, by rw [← n4]; exact hrecv, fun U hU hW => ⟨rfl, z_pre K0 hP hU hW⟩⟩
      have hsum : ((r.map (zR ad)).map fun v => v.category).sum ≤ 8 := by rw [zW8_R]; exact hw8
      rw [hst]
      simp only [Bool.or_eq_true, decide_eq_true_eq] at h10
      rcases h10 with h10 | h10
      · refine z_go K0 hS hl (va_runV (Ts := zTg) (own := (zY mi).cls) (C := (zY a).cls) (index := idx) (n := b - 1) ⟨hx, hb, hml, hown, hts⟩ hM (cwV (b - 1) hts (zTg_GoodIn fun w hw => ?_) rfl rfl rfl ⟨rfl, m3.1, m3.2, h8⟩ (z_room K0 m5)) hpre rfl hn1 hl.1.1 rfl (lv_room hsum) hd2 ⟨hcl, hsl⟩) (fun v σ2 hp => ⟨(hpo v σ2 hp).1 ad, hZ _ _ _ _ (hpo v σ2 hp).2⟩)
        rcases List.mem_append.mp hw with hw | hw
        · simp only [List.mem_cons, List.not_mem_nil, or_false] at hw
          rcases hw with rfl | rfl | rfl | rfl
          · exact zin _ h10 rfl
          · exact n1
          · exact n2
          · exact m2
        · rcases List.mem_cons.mp hw with rfl | hw
          · exact m1
          · exact hw
      · refine z_go K0 hS hl (va_runVN (Ts := zTg) (own := (zY mi).cls) (C := (zY a).cls) (host := "RatePlanner") (index := idx) (n := b - 1) ⟨hx, hb, hml, hown, hts⟩ hM ⟨va_cnB (b - 1) hts (zTg_GoodIn fun w hw => ?_) rfl rfl rfl (hnw _ (zinN _ h10 rfl)) (hts _ m2) ⟨m3.1, m3.2, h8⟩ (z_room K0 m5), hts _ n1, hts _ n2⟩ hpre rfl hn1 hl.1.1 rfl (lv_room hsum) hd2 ⟨hcl, hsl⟩) (fun v σ2 hp => ⟨(hpo v σ2 hp).1 ad, hZ _ _ _ _ (hpo v σ2 hp).2⟩)
        rcases List.mem_cons.mp hw with rfl | hw
        · exact m1
        · exact hw
    | _ => exact absurd hrc (by simp [zRc])
theorem zo_invokestatic {idx : Nat} (hC : ∀ (a : Nat) (av : List Value) (σ : zS) (po : zPo), a < 213 → a ≠ nL_law → C a av σ po → zCon l D cI cJ ad d a av σ po) (K : zCx p l R s m args meth c cells slots D cI cJ ad A d mi) (hZ : zZX p l e R s m args below meth c cells slots Q D cI cJ ad A mi Z) (hk : zOk mi pc (.invokestatic idx, n, a, b, k1, e1, g, v, w, tb) = true) (h : zEx sc C post Z (.invokestatic idx, n, a, b, k1, e1, g, v, w, tb) lv st σ) : zXs p l e R s m args below meth c cells slots Q D cI cJ ad A mi pc lv st σ := by
  have K0 := K
  obtain ⟨hx, hb, hml, hown, hts, hnw, hK, hinj, hAd, hA, hcl, hsl, hfr, hlo⟩ := K
  intro H locs ls hP hS hl
  simp only [zOk, Bool.and_eq_true, decide_eq_true_eq] at hk
  simp only [zEx] at h
  obtain ⟨⟨hn, hdg⟩, h1, hk⟩ := hk
  obtain ⟨rfl, hd2⟩ := zLen hn hdg h1
  have zmem : ∀ w : Cond, lw_tbl.contains w = true → goodWord w = true → w ∈ zTg := fun w h1 h2 => List.mem_filter.mpr ⟨List.contains_iff_mem.mp h1, h2⟩
  have hmx := zIn_max
  simp only [Bool.and_eq_true] at hmx
  obtain ⟨⟨⟨⟨⟨⟨⟨⟨⟨x1, x2⟩, x3⟩, x4⟩, x5⟩, x6⟩, x7⟩, x8⟩, x9⟩, x10⟩ := hmx
  have hml2 : c.maxLocals = ls.size := by rw [hml]; exact hl.1.1.symm
  match e1, h, hk with
  | 0, h, hk =>
    simp only [Bool.and_eq_true, decide_eq_true_eq] at hk
    obtain ⟨⟨⟨⟨⟨h2, h3⟩, h4⟩, h8⟩, h9⟩, h10⟩ := hk
    have h2 := Nat.le_of_ble_eq_true h2
    have h3 : a ≠ nL_law := by
      intro q
      rw [q] at h3
      simp at h3
    obtain ⟨av0, r, hlen, rfl, hq⟩ := zPn_inv b [] st _ h
    rw [List.append_nil] at hq
    obtain ⟨hw8, hq2⟩ := zG_inv hq
    have hw8 := Nat.le_of_ble_eq_true hw8
    obtain ⟨m1, m2, m3, m4, m5, m6, m7⟩ := zMv_spec h2 h3
    have n1 := m6 h4
    obtain ⟨po, hca, hpo⟩ := z_res hq2
    have hM := hC a av0.reverse σ po h2 h3 hca H.size
    have hn1 : (av0.reverse.map (zR ad)).length = b := by rw [List.length_map, List.length_reverse]; exact hlen
    have hst : (List.map (zR ad) (av0 ++ r)) = (av0.reverse.map (zR ad)).reverse ++ r.map (zR ad) := by simp
    have hpre : PreS s H (va_Pc (av0.reverse.map (zR ad)) (zB D cI cJ ad H.size σ)) (av0.reverse.map (zR ad)) :=
      ⟨zB_blind D cI cJ ad H.size σ _, fun U hU hW => ⟨rfl, z_pre K0 hP hU hW⟩⟩
    have hsum : ((r.map (zR ad)).map fun v => v.category).sum ≤ 8 := by rw [zW8_R]; exact hw8
    rw [hst]
    simp only [Bool.or_eq_true, decide_eq_true_eq] at h10
    rcases h10 with h10 | h10
    · refine z_go K0 hS hl (va_runS (Ts := zTg) (own := (zY mi).cls) (index := idx) (n := b) ⟨hx, hb, hml, hown, hts⟩ hM ⟨callB_of b hts (zTg_GoodIn fun w hw => ?_) rfl rfl rfl (hts _ m2) (hts _ (zin _ h10 rfl)) ⟨m3.1, m3.2, h8⟩ (z_room K0 m5), hts _ n1⟩ hpre rfl hn1 hl.1.1 rfl (lv_room hsum) hd2 ⟨hcl, hsl⟩) (fun v σ2 hp => ⟨(hpo v σ2 hp).1 ad, hZ _ _ _ _ (hpo v σ2 hp).2⟩)
      rcases List.mem_cons.mp hw with rfl | hw
      · exact m1
      · exact hw
    · refine z_go K0 hS hl (va_runSN (Ts := zTg) (own := (zY mi).cls) (host := "RatePlanner") (index := idx) (n := b) ⟨hx, hb, hml, hown, hts⟩ hM ⟨va_cnB b hts (zTg_GoodIn fun w hw => ?_) rfl rfl rfl (hnw _ (zinN _ h10 rfl)) (hts _ m2) ⟨m3.1, m3.2, h8⟩ (z_room K0 m5), hts _ n1, trivial⟩ hpre rfl hn1 hl.1.1 rfl (lv_room hsum) hd2 ⟨hcl, hsl⟩) (fun v σ2 hp => ⟨(hpo v σ2 hp).1 ad, hZ _ _ _ _ (hpo v σ2 hp).2⟩)
      rcases List.mem_cons.mp hw with rfl | hw
      · exact m1
      · exact hw
  | 1, h, hk =>
    obtain ⟨x, y, r, rfl, h0⟩ := zII_inv h
    obtain ⟨hw8, h5⟩ := zG_inv h0
    have hw8 := Nat.le_of_ble_eq_true hw8
    exact va_mmax hx hb hml2 hown (hts _ (zin _ (of_decide_eq_true hk) rfl)) (hts _ (zmem _ x1 rfl)) (hts _ (zmem _ x7 rfl)) (hts _ (zmem _ x2 rfl)) (by omega) (by rw [zW8_R]; omega) hcl hsl hd2 (hZ _ _ _ _ h5 H locs ls hP hS hl)
  | 2, h, hk =>
    obtain ⟨x, y, r, rfl, h0⟩ := zII_inv h
    obtain ⟨hw8, h5⟩ := zG_inv h0
    have hw8 := Nat.le_of_ble_eq_true hw8
    exact va_mmin hx hb hml2 hown (hts _ (zin _ (of_decide_eq_true hk) rfl)) (hts _ (zmem _ x3 rfl)) (hts _ (zmem _ x7 rfl)) (hts _ (zmem _ x4 rfl)) (by omega) (by rw [zW8_R]; omega) hcl hsl hd2 (hZ _ _ _ _ h5 H locs ls hP hS hl)
  | 3, h, hk =>
    obtain ⟨x, r, rfl, h0⟩ := zI_inv h
    obtain ⟨hw8, h5⟩ := zG_inv h0
    have hw8 := Nat.le_of_ble_eq_true hw8
    exact va_mabs hx hb hml2 hown (hts _ (zin _ (of_decide_eq_true hk) rfl)) (hts _ (zmem _ x5 rfl)) (hts _ (zmem _ x7 rfl)) (hts _ (zmem _ x6 rfl)) (by omega) (by rw [zW8_R]; omega) hcl hsl hd2 (hZ _ _ _ _ h5 H locs ls hP hS hl)
  | j + 4, h, hk =>
    obtain ⟨k, r1, rfl, g1⟩ := zI_inv h
    obtain ⟨dp, r2, rfl, g2⟩ := zI_inv g1
    obtain ⟨dd, r3, rfl, g3⟩ := zA_inv g2
    obtain ⟨sp, r4, rfl, g4⟩ := zI_inv g3
    obtain ⟨q, r, rfl, g5⟩ := zA_inv g4
    obtain ⟨hg, ⟨a1, a2, a3, a4, a5⟩, h5⟩ := zG_inv g5
    simp only [Bool.and_eq_true] at hg
    obtain ⟨⟨hi1, hi2⟩, hw8⟩ := hg
    have hw8 := Nat.le_of_ble_eq_true hw8
    obtain ⟨sl1, hq1⟩ := zIsI_spec hi1
    obtain ⟨sl2, hq2⟩ := zIsI_spec hi2
    have e1 := zW_set ad cI cJ (σ := σ) (τ := zSR σ dd (va_cpy (σ.1 q) (σ.1 dd) sp.toNatClampNeg dp.toNatClampNeg k.toNatClampNeg)) hq2 (fun a h => zSR_1 h) (fun a h => rfl)
    rw [show zEn ad cI cJ (zSR σ dd (va_cpy (σ.1 q) (σ.1 dd) sp.toNatClampNeg dp.toNatClampNeg k.toNatClampNeg)) dd (1, zN dd, sl2) = .inl (cI, zN dd, .inl (va_cpy (σ.1 q) (σ.1 dd) sp.toNatClampNeg dp.toNatClampNeg k.toNatClampNeg)) from by show Sum.inl (cI, zN dd, Sum.inl ((zSR σ dd _).1 dd)) = _; rw [zSR_s]] at e1
    exact va_copyi (D := D) hx hb hml2 hown (hts _ (zin _ (of_decide_eq_true hk) rfl)) (hts _ (zmem _ x8 rfl)) (hts _ (zmem _ x9 rfl)) (hts _ (zmem _ x10 rfl)) hK hP (zD_of hinj hAd σ) hS q dd 0 0 (c0 := cI) (c1 := cI) (n0 := zN q) (n1 := zN dd) (f := σ.1 q) (g := σ.1 dd) (ty := .int) (zW_get ad cI cJ σ hq1) (zW_get ad cI cJ σ hq2) rfl rfl rfl a1 a2 a3 a4 a5 (fun _ _ => rfl) (by omega) (by rw [zW8_R, show nativeFrameWords "java/lang/System" "arraycopy" 5 = 7 from by decide +kernel]; omega) hd2 (fun H1 locs1 hP1 hD1 hS1 => hZ _ _ _ _ h5 H1 locs1 ls (by rw [e1] at hP1; exact hP1) hS1 hl)
end ZC
end
section
/-! one instruction, whichever; a method of any depth -/
theorem zRI_inv {st : List Value} {k : Int32 → Prop} (h : zRI st k) : ∃ x, st = [.int x] ∧ k x := by
  unfold zRI at h
  split at h
  · exact ⟨_, rfl, h⟩
  · exact False.elim h
theorem zRJ_inv {st : List Value} {k : Int64 → Prop} (h : zRJ st k) : ∃ x, st = [.long x] ∧ k x := by
  unfold zRJ at h
  split at h
  · exact ⟨_, rfl, h⟩
  · exact False.elim h
theorem zRV_inv {st : List Value} {k : Prop} (h : zRV st k) : st = [] ∧ k := by
  unfold zRV at h
  split at h
  · exact ⟨rfl, h⟩
  · exact False.elim h
section ZE
variable {p : Program} {l : Launch} {e : Env} {R : Room} {s : State} {m : MethodId} {args : Array Value} {below : List Frame} {meth : Method} {c : Code} {cells slots : Nat} {Q : State → Prop} {D : va_G} {cI cJ : ClassId} {ad : Nat → Nat} {A : Nat → Prop} {d mi : Nat}
variable {sc : Option (Nat × (Nat → Int32))} {C : zCa} {post : zPo} {Z : zX}
theorem zEx_ok (K : zCx p l R s m args meth c cells slots D cI cJ ad A d mi)
    (hsc : ∀ t, sc = some t → va_X (ad 80) t.1 t.2 s s.heap ∧ ad 80 < s.heap.size ∧ ¬ A (ad 80))
    (hC : ∀ (a : Nat) (av : List Value) (σ : zS) (po : zPo), a < 213 → a ≠ nL_law → C a av σ po → zCon l D cI cJ ad d a av σ po)
    (hRi : ∀ (x : Int32) (σ : zS) (H : Heap) (locs : List Loc) (ls : Array Slot) (pc : Nat), post (some (.int x)) σ → va_P D vwCl (zW ad cI cJ σ) H → va_S A s.heap H locs → decode (zBy mi) pc = .ok (.ireturn, 1) → (zRt mi = some .int ∨ (zRt mi = some .boolean ∧ (x == 0 || x == 1) = true)) → W p l e R s m args below meth c H locs cells slots Q (F0 m pc ls [.int x]))
    (hRl : ∀ (x : Int64) (σ : zS) (H : Heap) (locs : List Loc) (ls : Array Slot) (pc : Nat), post (some (.long x)) σ → va_P D vwCl (zW ad cI cJ σ) H → va_S A s.heap H locs → decode (zBy mi) pc = .ok (.lreturn, 1) → zRt mi = some .long → W p l e R s m args below meth c H locs cells slots Q (F0 m pc ls [.long x]))
    (hRv : ∀ (σ : zS) (H : Heap) (locs : List Loc) (ls : Array Slot) (pc : Nat), post none σ → va_P D vwCl (zW ad cI cJ σ) H → va_S A s.heap H locs → decode (zBy mi) pc = .ok (.return_, 1) → zRt mi = none → W p l e R s m args below meth c H locs cells slots Q (F0 m pc ls []))
    (hZ : zZX p l e R s m args below meth c cells slots Q D cI cJ ad A mi Z) {pc : Nat} {o : zOp} {lv : zLo} {st : List Value} {σ : zS} (hk : zOk mi pc o = true) (h : zEx sc C post Z o lv st σ) : zXs p l e R s m args below meth c cells slots Q D cI cJ ad A mi pc lv st σ := by
  obtain ⟨i, n, a, b, k1, e1, g, v, w, tb⟩ := o
  cases i with
  | iconst z => exact zo_iconst K hZ hk h
  | bipush z => exact zo_bipush K hZ hk h
  | sipush z => exact zo_sipush K hZ hk h
  | ldc z => exact zo_ldc K hZ hk h
  | lconst z => exact zo_lconst K hZ hk h
  | ldc2_w z => exact zo_ldc2 K hZ hk h
  | iload_n z => exact zo_iload_n K hZ hk h
  | iload z => exact zo_iload K hZ hk h
  | lload_n z => exact zo_lload_n K hZ hk h
  | lload z => exact zo_lload K hZ hk h
  | aload_n z => exact zo_aload_n K hZ hk h
  | aload z => exact zo_aload K hZ hk h
  | istore_n z => exact zo_istore_n K hZ hk h
  | istore z => exact zo_istore K hZ hk h
  | lstore_n z => exact zo_lstore_n K hZ hk h
  | lstore z => exact zo_lstore K hZ hk h
  | astore_n z => exact zo_astore_n K hZ hk h
  | iinc z y => exact zo_iinc K hZ hk h
  | iadd => exact zo_iadd K hZ hk h
  | isub => exact zo_isub K hZ hk h
  | imul => exact zo_imul K hZ hk h
  | iand => exact zo_iand K hZ hk h
  | idiv => exact zo_idiv K hZ hk h
  | irem => exact zo_irem K hZ hk h
  | ladd => exact zo_ladd K hZ hk h
  | lsub => exact zo_lsub K hZ hk h
  | lmul => exact zo_lmul K hZ hk h
  | ldiv => exact zo_ldiv K hZ hk h
  | lcmp => exact zo_lcmp K hZ hk h
  | ineg => exact zo_ineg K hZ hk h
  | i2l => exact zo_i2l K hZ hk h
  | l2i => exact zo_l2i K hZ hk h
  | dup => exact zo_dup K hZ hk h
  | pop => exact zo_pop K hZ hk h
  | dup2 => exact zo_dup2 K hZ hk h
  | laload => exact zo_laload K hZ hk h
  | iastore => exact zo_iastore K hZ hk h
  | lastore => exact zo_lastore K hZ hk h
  | iaload => exact zo_iaload hsc K hZ hk h
  | arraylength => exact zo_arraylength hsc K hZ hk h
  | goto z => exact zo_goto K hZ hk h
  | tableswitch x y z t => exact zo_tableswitch K hZ hk h
  | lookupswitch x y => exact zo_lookupswitch K hZ hk h
  | getfield z => exact zo_getfield K hZ hk h
  | putfield z => exact zo_putfield K hZ hk h
  | invokevirtual z => exact zo_invokevirtual hC K hZ hk h
  | invokestatic z => exact zo_invokestatic hC K hZ hk h
  | ifCond cd z => cases cd with
    | eq => exact zo_if_eq K hZ hk h
    | ne => exact zo_if_ne K hZ hk h
    | lt => exact zo_if_lt K hZ hk h
    | ge => exact zo_if_ge K hZ hk h
    | gt => exact zo_if_gt K hZ hk h
    | le => exact zo_if_le K hZ hk h
  | if_icmp cd z => cases cd with
    | eq => exact zo_icmp_eq K hZ hk h
    | ne => exact zo_icmp_ne K hZ hk h
    | lt => exact zo_icmp_lt K hZ hk h
    | ge => exact zo_icmp_ge K hZ hk h
    | gt => exact zo_icmp_gt K hZ hk h
    | le => exact zo_icmp_le K hZ hk h
  | ireturn =>
    intro H locs ls hP hS hl
    simp only [zOk, Bool.and_eq_true, decide_eq_true_eq] at hk
    simp only [zEx] at h
    obtain ⟨⟨hn, hdg⟩, h1, h2⟩ := hk
    obtain ⟨rfl, hd2⟩ := zLen hn hdg h1
    obtain ⟨x, rfl, h3⟩ := zRI_inv h
    refine hRi x σ H locs ls pc ?_ hP hS hd2 ?_
    · match k1, h3 with
      | 0, h3 => exact h3
      | 1, h3 => exact (zG_inv h3).2
      | k + 2, h3 => exact h3
    · match zRt mi, k1, h2, h3 with
      | some .int, _, _, _ => exact Or.inl rfl
      | some .boolean, 1, _, h3 => exact Or.inr ⟨rfl, (zG_inv h3).1⟩
      | some .boolean, 0, h2, _ => exact absurd h2 (by simp)
      | some .boolean, k + 2, h2, _ => exact absurd h2 (by simp)
  | lreturn =>
    intro H locs ls hP hS hl
    simp only [zOk, Bool.and_eq_true, decide_eq_true_eq] at hk
    simp only [zEx] at h
    obtain ⟨⟨hn, hdg⟩, h1, h2⟩ := hk
    obtain ⟨rfl, hd2⟩ := zLen hn hdg h1
    obtain ⟨x, rfl, h3⟩ := zRJ_inv h
    exact hRl x σ H locs ls pc h3 hP hS hd2 h2
  | return_ =>
    intro H locs ls hP hS hl
    simp only [zOk, Bool.and_eq_true, decide_eq_true_eq] at hk
    simp only [zEx] at h
    obtain ⟨⟨hn, hdg⟩, h1, h2⟩ := hk
    obtain ⟨rfl, hd2⟩ := zLen hn hdg h1
    obtain ⟨rfl, h3⟩ := zRV_inv h
    exact hRv σ H locs ls pc h3 hP hS hd2 h2
  | _ => exact False.elim h
theorem zClosed_of (K : zCx p l R s m args meth c cells slots D cI cJ ad A d mi)
    (hsc : ∀ t, sc = some t → va_X (ad 80) t.1 t.2 s s.heap ∧ ad 80 < s.heap.size ∧ ¬ A (ad 80))
    (hC : ∀ (a : Nat) (av : List Value) (σ : zS) (po : zPo), a < 213 → a ≠ nL_law → C a av σ po → zCon l D cI cJ ad d a av σ po)
    (hRi : ∀ (x : Int32) (σ : zS) (H : Heap) (locs : List Loc) (ls : Array Slot) (pc : Nat), post (some (.int x)) σ → va_P D vwCl (zW ad cI cJ σ) H → va_S A s.heap H locs → decode (zBy mi) pc = .ok (.ireturn, 1) → (zRt mi = some .int ∨ (zRt mi = some .boolean ∧ (x == 0 || x == 1) = true)) → W p l e R s m args below meth c H locs cells slots Q (F0 m pc ls [.int x]))
    (hRl : ∀ (x : Int64) (σ : zS) (H : Heap) (locs : List Loc) (ls : Array Slot) (pc : Nat), post (some (.long x)) σ → va_P D vwCl (zW ad cI cJ σ) H → va_S A s.heap H locs → decode (zBy mi) pc = .ok (.lreturn, 1) → zRt mi = some .long → W p l e R s m args below meth c H locs cells slots Q (F0 m pc ls [.long x]))
    (hRv : ∀ (σ : zS) (H : Heap) (locs : List Loc) (ls : Array Slot) (pc : Nat), post none σ → va_P D vwCl (zW ad cI cJ σ) H → va_S A s.heap H locs → decode (zBy mi) pc = .ok (.return_, 1) → zRt mi = none → W p l e R s m args below meth c H locs cells slots Q (F0 m pc ls [])) : zClosed sc C post mi (zXs p l e R s m args below meth c cells slots Q D cI cJ ad A mi) :=
  ⟨fun Z pc o ls st σ hZ hk h => zEx_ok K hsc hC hRi hRl hRv hZ hk h, fun ms pc ls st σ h H locs ls2 hP hS hl => h H locs ls2 hP hS (hl.mk ms pc)⟩
end ZE
theorem zSound (l : Launch) (D : va_G) (cI cJ : ClassId) (ad : Nat → Nat) (hinj : ∀ i j, i < zSh.length → j < zSh.length → ad i = ad j → i = j) : ∀ (d a : Nat) (av : List Value) (σ : zS) (post : zPo), a < 213 → a ≠ nL_law → zCall d a av σ post → zCon l D cI cJ ad d a av σ post
  | 0, a, av, σ, post, _, _, h => False.elim h
  | d + 1, a, av, σ, post, ha, hna, h => by
    intro sz
    obtain ⟨hb0, hrun⟩ := zG_inv h
    obtain ⟨m1, m2, m3, m4, m5, m6, m7⟩ := zMv_spec ha hna
    refine Met.ofW (cc := zBy a) (maxL := zMl a) (ret := zRt a) m4 rfl ?_
    intro p e s m args below meth c s₁ B hml hv
    obtain ⟨rfl, hsz, hP, hK, hN⟩ := hv
    subst hsz
    have hts0 := atoms_spec (ws := zWs a) B.pre
    have hts : ∀ w ∈ zTg, w.before _ s = true := fun w hw => hts0 w (List.mem_cons_of_mem _ hw)
    have hown : s.vm.findClass (zY a).cls = some m.cls := findClass_of_methodNamed B.named
    have hx := B.exec
    have hbb := B.bytes
    have hr := B.returns
    have hlocks := B.notSynchronized
    have K : zCx p l (headSpec (zWs a) (zRm (d + 1))).room s m _ meth c 0 0 D cI cJ ad (zA0 ad s.heap.size) d a := ⟨hx, hbb, hml, hown, hts, hN, hK, hinj, fun k hk => Or.inl ⟨k, hk, rfl⟩, fun q hq => Or.inr hq, Nat.zero_le _, Nat.zero_le _, Nat.le_refl _, Nat.le_refl _⟩
    rw [lg_entry_eq]
    exact hrun _ (zClosed_of (e := e) (below := below) (Q := MQ below (zQ D cI cJ ad s.heap.size post) (av.map (zR ad)).toArray s 0 0 (zA0 ad s.heap.size)) K (fun t ht => by cases ht) (fun a av σ po h1 h2 h3 => zSound l D cI cJ ad hinj d a av σ po h1 h2 h3)
      (fun x σ H locs ls pc hp hP hS hdg ht => by
        rcases ht with ht | ⟨ht, hb⟩
        · exact W.iret hx hbb (hr.trans ht) (fun t ht hW => ⟨⟨_, σ, rfl, hp, by rw [ht]; exact hP⟩, hS.F ht⟩) hS.2.2 hdg
        · exact W.zret (ty := .boolean) hx hbb (hr.trans ht) (z01_nar hb) (fun t ht hW => ⟨⟨_, σ, rfl, hp, by rw [ht]; exact hP⟩, hS.F ht⟩) hS.2.2 hdg)
      (fun x σ H locs ls pc hp hP hS hdg ht => W.lret hx hbb (hr.trans ht) (fun t ht hW => ⟨⟨_, σ, rfl, hp, by rw [ht]; exact hP⟩, hS.F ht⟩) hS.2.2 hdg)
      (fun σ H locs ls pc hp hP hS hdg ht => W.vret hx hbb (hr.trans ht) (fun t ht hW => ⟨⟨_, σ, rfl, hp, by rw [ht]; exact hP⟩, hS.F ht⟩) hS.2.2 hdg)) s.heap [] _ hP va_S.rf (zHas.entry ad av (zMl a) (Nat.le_of_ble_eq_true hb0))
end
section
/-! the code of the methods read ahead, and a theorem a region: printed by wip/whole/sym.py -/
-- X0_add(1,) depth 2
def zo_X0_add_1_0 : List zOp := [(.aload_n 0, 1, 0, 0, 0, 0, 0, 0, 0, []), (.getfield 9, 4, 0, 1, 0, 0, 103, 0, 0, []), (.aload_n 0, 5, 0, 0, 0, 0, 0, 0, 0, []), (.getfield 18, 8, 0, 0, 1, 0, 100, 0, 0, []), (.iload_n 1, 9, 1, 0, 0, 0, 0, 0, 0, []), (.invokestatic 22, 12, 128, 3, 0, 0, 520, 0, 0, []), (.aload_n 0, 13, 0, 0, 0, 0, 0, 0, 0, []), (.getfield 15, 16, 0, 2, 0, 0, 106, 0, 0, []), (.aload_n 0, 17, 0, 0, 0, 0, 0, 0, 0, []), (.getfield 18, 20, 0, 0, 1, 0, 100, 0, 0, []), (.iload_n 2, 21, 2, 0, 0, 0, 0, 0, 0, []), (.invokestatic 22, 24, 128, 3, 0, 0, 520, 0, 0, []), (.aload_n 0, 25, 0, 0, 0, 0, 0, 0, 0, []), (.dup, 26, 0, 0, 0, 0, 0, 0, 0, []), (.getfield 18, 29, 0, 0, 1, 0, 100, 0, 0, []), (.iconst 1, 30, 0, 0, 0, 0, 0, 1, 0, []), (.iadd, 31, 0, 0, 0, 0, 0, 0, 0, []), (.putfield 18, 34, 0, 0, 1, 0, 100, 0, 0, []), (.return_, 35, 0, 0, 0, 0, 0, 0, 0, [])]
set_option maxRecDepth 100000 in
theorem zk_X0_add_1_0 : zOks nX0_add zo_X0_add_1_0 0 = true := by decide +kernel
def zm_X0_add_1 : List (Nat × List Bool) := [(0, [true, true, true])]
set_option maxRecDepth 100000 in
set_option maxHeartbeats 4000000 in
theorem zr_X0_add_1_0 {C : zCa} {post : zPo} {X : zX} (hX : zClosed none C post nX0_add X) (p0 : Int32) (p1 : Int32) (σ : zS) (h : C nX11_put [.ref 2, .int (σ.1 1 0), .int p0] σ (zPV fun σ1 => C nX11_put [.ref 3, .int (σ1.1 1 0), .int p1] σ1 (zPV fun σ2 => post none (zSI σ2 1 0 ((σ2.1 1 0) + 1))))) : X 0 [some (.ref 1), some (.int p0), some (.int p1)] [] σ := zSeq_ok hX zm_X0_add_1 zo_X0_add_1_0 0 0 _ _ _ zk_X0_add_1_0 h
theorem ze_X0_add_1 {d : Nat} {post : zPo} (p0 : Int32) (p1 : Int32) (σ : zS) (h : ∀ X : zX, zClosed none (zCall d) post nX0_add X → X 0 [some (.ref 1), some (.int p0), some (.int p1)] [] σ) : zCall (d + 1) nX0_add [.ref 1, .int p0, .int p1] σ post := h
-- X0_add(12,) depth 2
def zo_X0_add_12_0 : List zOp := [(.aload_n 0, 1, 0, 0, 0, 0, 0, 0, 0, []), (.getfield 9, 4, 0, 1, 0, 0, 103, 0, 0, []), (.aload_n 0, 5, 0, 0, 0, 0, 0, 0, 0, []), (.getfield 18, 8, 0, 0, 1, 0, 100, 0, 0, []), (.iload_n 1, 9, 1, 0, 0, 0, 0, 0, 0, []), (.invokestatic 22, 12, 128, 3, 0, 0, 520, 0, 0, []), (.aload_n 0, 13, 0, 0, 0, 0, 0, 0, 0, []), (.getfield 15, 16, 0, 2, 0, 0, 106, 0, 0, []), (.aload_n 0, 17, 0, 0, 0, 0, 0, 0, 0, []), (.getfield 18, 20, 0, 0, 1, 0, 100, 0, 0, []), (.iload_n 2, 21, 2, 0, 0, 0, 0, 0, 0, []), (.invokestatic 22, 24, 128, 3, 0, 0, 520, 0, 0, []), (.aload_n 0, 25, 0, 0, 0, 0, 0, 0, 0, []), (.dup, 26, 0, 0, 0, 0, 0, 0, 0, []), (.getfield 18, 29, 0, 0, 1, 0, 100, 0, 0, []), (.iconst 1, 30, 0, 0, 0, 0, 0, 1, 0, []), (.iadd, 31, 0, 0, 0, 0, 0, 0, 0, []), (.putfield 18, 34, 0, 0, 1, 0, 100, 0, 0, []), (.return_, 35, 0, 0, 0, 0, 0, 0, 0, [])]
set_option maxRecDepth 100000 in
theorem zk_X0_add_12_0 : zOks nX0_add zo_X0_add_12_0 0 = true := by decide +kernel
def zm_X0_add_12 : List (Nat × List Bool) := [(0, [true, true, true])]
set_option maxRecDepth 100000 in
set_option maxHeartbeats 4000000 in
theorem zr_X0_add_12_0 {C : zCa} {post : zPo} {X : zX} (hX : zClosed none C post nX0_add X) (p0 : Int32) (p1 : Int32) (σ : zS) (h : C nX11_put [.ref 13, .int (σ.1 12 0), .int p0] σ (zPV fun σ1 => C nX11_put [.ref 14, .int (σ1.1 12 0), .int p1] σ1 (zPV fun σ2 => post none (zSI σ2 12 0 ((σ2.1 12 0) + 1))))) : X 0 [some (.ref 12), some (.int p0), some (.int p1)] [] σ := zSeq_ok hX zm_X0_add_12 zo_X0_add_12_0 0 0 _ _ _ zk_X0_add_12_0 h
theorem ze_X0_add_12 {d : Nat} {post : zPo} (p0 : Int32) (p1 : Int32) (σ : zS) (h : ∀ X : zX, zClosed none (zCall d) post nX0_add X → X 0 [some (.ref 12), some (.int p0), some (.int p1)] [] σ) : zCall (d + 1) nX0_add [.ref 12, .int p0, .int p1] σ post := h
-- X0_copyFrom(1, 12) depth 2
def zo_X0_copyFrom_1_12_0 : List zOp := [(.aload_n 0, 1, 0, 0, 0, 0, 0, 0, 0, []), (.aload_n 1, 2, 1, 0, 0, 0, 0, 0, 0, []), (.getfield 18, 5, 0, 0, 1, 0, 100, 0, 0, []), (.putfield 18, 8, 0, 0, 1, 0, 100, 0, 0, []), (.aload_n 1, 9, 1, 0, 0, 0, 0, 0, 0, []), (.getfield 9, 12, 0, 1, 0, 0, 103, 0, 0, []), (.aload_n 0, 13, 0, 0, 0, 0, 0, 0, 0, []), (.getfield 9, 16, 0, 1, 0, 0, 103, 0, 0, []), (.invokestatic 30, 19, 130, 2, 0, 0, 630, 0, 0, []), (.aload_n 1, 20, 1, 0, 0, 0, 0, 0, 0, []), (.getfield 15, 23, 0, 2, 0, 0, 106, 0, 0, []), (.aload_n 0, 24, 0, 0, 0, 0, 0, 0, 0, []), (.getfield 15, 27, 0, 2, 0, 0, 106, 0, 0, []), (.invokestatic 30, 30, 130, 2, 0, 0, 630, 0, 0, []), (.return_, 31, 0, 0, 0, 0, 0, 0, 0, [])]
set_option maxRecDepth 100000 in
theorem zk_X0_copyFrom_1_12_0 : zOks nX0_copyFrom zo_X0_copyFrom_1_12_0 0 = true := by decide +kernel
def zm_X0_copyFrom_1_12 : List (Nat × List Bool) := [(0, [true, true])]
set_option maxRecDepth 100000 in
set_option maxHeartbeats 4000000 in
theorem zr_X0_copyFrom_1_12_0 {C : zCa} {post : zPo} {X : zX} (hX : zClosed none C post nX0_copyFrom X) (σ : zS) (h : C nX11_copyRow [.ref 13, .ref 2] (zSI σ 1 0 (σ.1 12 0)) (zPV fun σ1 => C nX11_copyRow [.ref 14, .ref 3] σ1 (zPV fun σ2 => post none σ2))) : X 0 [some (.ref 1), some (.ref 12)] [] σ := zSeq_ok hX zm_X0_copyFrom_1_12 zo_X0_copyFrom_1_12_0 0 0 _ _ _ zk_X0_copyFrom_1_12_0 h
theorem ze_X0_copyFrom_1_12 {d : Nat} {post : zPo} (σ : zS) (h : ∀ X : zX, zClosed none (zCall d) post nX0_copyFrom X → X 0 [some (.ref 1), some (.ref 12)] [] σ) : zCall (d + 1) nX0_copyFrom [.ref 1, .ref 12] σ post := h
-- X0_copyFrom(1, 42) depth 2
def zo_X0_copyFrom_1_42_0 : List zOp := [(.aload_n 0, 1, 0, 0, 0, 0, 0, 0, 0, []), (.aload_n 1, 2, 1, 0, 0, 0, 0, 0, 0, []), (.getfield 18, 5, 0, 0, 1, 0, 100, 0, 0, []), (.putfield 18, 8, 0, 0, 1, 0, 100, 0, 0, []), (.aload_n 1, 9, 1, 0, 0, 0, 0, 0, 0, []), (.getfield 9, 12, 0, 1, 0, 0, 103, 0, 0, []), (.aload_n 0, 13, 0, 0, 0, 0, 0, 0, 0, []), (.getfield 9, 16, 0, 1, 0, 0, 103, 0, 0, []), (.invokestatic 30, 19, 130, 2, 0, 0, 630, 0, 0, []), (.aload_n 1, 20, 1, 0, 0, 0, 0, 0, 0, []), (.getfield 15, 23, 0, 2, 0, 0, 106, 0, 0, []), (.aload_n 0, 24, 0, 0, 0, 0, 0, 0, 0, []), (.getfield 15, 27, 0, 2, 0, 0, 106, 0, 0, []), (.invokestatic 30, 30, 130, 2, 0, 0, 630, 0, 0, []), (.return_, 31, 0, 0, 0, 0, 0, 0, 0, [])]
set_option maxRecDepth 100000 in
theorem zk_X0_copyFrom_1_42_0 : zOks nX0_copyFrom zo_X0_copyFrom_1_42_0 0 = true := by decide +kernel
def zm_X0_copyFrom_1_42 : List (Nat × List Bool) := [(0, [true, true])]
set_option maxRecDepth 100000 in
set_option maxHeartbeats 4000000 in
theorem zr_X0_copyFrom_1_42_0 {C : zCa} {post : zPo} {X : zX} (hX : zClosed none C post nX0_copyFrom X) (σ : zS) (h : C nX11_copyRow [.ref 43, .ref 2] (zSI σ 1 0 (σ.1 42 0)) (zPV fun σ1 => C nX11_copyRow [.ref 44, .ref 3] σ1 (zPV fun σ2 => post none σ2))) : X 0 [some (.ref 1), some (.ref 42)] [] σ := zSeq_ok hX zm_X0_copyFrom_1_42 zo_X0_copyFrom_1_42_0 0 0 _ _ _ zk_X0_copyFrom_1_42_0 h
theorem ze_X0_copyFrom_1_42 {d : Nat} {post : zPo} (σ : zS) (h : ∀ X : zX, zClosed none (zCall d) post nX0_copyFrom X → X 0 [some (.ref 1), some (.ref 42)] [] σ) : zCall (d + 1) nX0_copyFrom [.ref 1, .ref 42] σ post := h
-- X0_copyFrom(1, 53) depth 2
def zo_X0_copyFrom_1_53_0 : List zOp := [(.aload_n 0, 1, 0, 0, 0, 0, 0, 0, 0, []), (.aload_n 1, 2, 1, 0, 0, 0, 0, 0, 0, []), (.getfield 18, 5, 0, 0, 1, 0, 100, 0, 0, []), (.putfield 18, 8, 0, 0, 1, 0, 100, 0, 0, []), (.aload_n 1, 9, 1, 0, 0, 0, 0, 0, 0, []), (.getfield 9, 12, 0, 1, 0, 0, 103, 0, 0, []), (.aload_n 0, 13, 0, 0, 0, 0, 0, 0, 0, []), (.getfield 9, 16, 0, 1, 0, 0, 103, 0, 0, []), (.invokestatic 30, 19, 130, 2, 0, 0, 630, 0, 0, []), (.aload_n 1, 20, 1, 0, 0, 0, 0, 0, 0, []), (.getfield 15, 23, 0, 2, 0, 0, 106, 0, 0, []), (.aload_n 0, 24, 0, 0, 0, 0, 0, 0, 0, []), (.getfield 15, 27, 0, 2, 0, 0, 106, 0, 0, []), (.invokestatic 30, 30, 130, 2, 0, 0, 630, 0, 0, []), (.return_, 31, 0, 0, 0, 0, 0, 0, 0, [])]
set_option maxRecDepth 100000 in
theorem zk_X0_copyFrom_1_53_0 : zOks nX0_copyFrom zo_X0_copyFrom_1_53_0 0 = true := by decide +kernel
def zm_X0_copyFrom_1_53 : List (Nat × List Bool) := [(0, [true, true])]
set_option maxRecDepth 100000 in
set_option maxHeartbeats 4000000 in
theorem zr_X0_copyFrom_1_53_0 {C : zCa} {post : zPo} {X : zX} (hX : zClosed none C post nX0_copyFrom X) (σ : zS) (h : C nX11_copyRow [.ref 54, .ref 2] (zSI σ 1 0 (σ.1 53 0)) (zPV fun σ1 => C nX11_copyRow [.ref 55, .ref 3] σ1 (zPV fun σ2 => post none σ2))) : X 0 [some (.ref 1), some (.ref 53)] [] σ := zSeq_ok hX zm_X0_copyFrom_1_53 zo_X0_copyFrom_1_53_0 0 0 _ _ _ zk_X0_copyFrom_1_53_0 h
theorem ze_X0_copyFrom_1_53 {d : Nat} {post : zPo} (σ : zS) (h : ∀ X : zX, zClosed none (zCall d) post nX0_copyFrom X → X 0 [some (.ref 1), some (.ref 53)] [] σ) : zCall (d + 1) nX0_copyFrom [.ref 1, .ref 53] σ post := h
-- X0_copyFrom(42, 1) depth 2
def zo_X0_copyFrom_42_1_0 : List zOp := [(.aload_n 0, 1, 0, 0, 0, 0, 0, 0, 0, []), (.aload_n 1, 2, 1, 0, 0, 0, 0, 0, 0, []), (.getfield 18, 5, 0, 0, 1, 0, 100, 0, 0, []), (.putfield 18, 8, 0, 0, 1, 0, 100, 0, 0, []), (.aload_n 1, 9, 1, 0, 0, 0, 0, 0, 0, []), (.getfield 9, 12, 0, 1, 0, 0, 103, 0, 0, []), (.aload_n 0, 13, 0, 0, 0, 0, 0, 0, 0, []), (.getfield 9, 16, 0, 1, 0, 0, 103, 0, 0, []), (.invokestatic 30, 19, 130, 2, 0, 0, 630, 0, 0, []), (.aload_n 1, 20, 1, 0, 0, 0, 0, 0, 0, []), (.getfield 15, 23, 0, 2, 0, 0, 106, 0, 0, []), (.aload_n 0, 24, 0, 0, 0, 0, 0, 0, 0, []), (.getfield 15, 27, 0, 2, 0, 0, 106, 0, 0, []), (.invokestatic 30, 30, 130, 2, 0, 0, 630, 0, 0, []), (.return_, 31, 0, 0, 0, 0, 0, 0, 0, [])]
set_option maxRecDepth 100000 in
theorem zk_X0_copyFrom_42_1_0 : zOks nX0_copyFrom zo_X0_copyFrom_42_1_0 0 = true := by decide +kernel
def zm_X0_copyFrom_42_1 : List (Nat × List Bool) := [(0, [true, true])]
set_option maxRecDepth 100000 in
set_option maxHeartbeats 4000000 in
theorem zr_X0_copyFrom_42_1_0 {C : zCa} {post : zPo} {X : zX} (hX : zClosed none C post nX0_copyFrom X) (σ : zS) (h : C nX11_copyRow [.ref 2, .ref 43] (zSI σ 42 0 (σ.1 1 0)) (zPV fun σ1 => C nX11_copyRow [.ref 3, .ref 44] σ1 (zPV fun σ2 => post none σ2))) : X 0 [some (.ref 42), some (.ref 1)] [] σ := zSeq_ok hX zm_X0_copyFrom_42_1 zo_X0_copyFrom_42_1_0 0 0 _ _ _ zk_X0_copyFrom_42_1_0 h
theorem ze_X0_copyFrom_42_1 {d : Nat} {post : zPo} (σ : zS) (h : ∀ X : zX, zClosed none (zCall d) post nX0_copyFrom X → X 0 [some (.ref 42), some (.ref 1)] [] σ) : zCall (d + 1) nX0_copyFrom [.ref 42, .ref 1] σ post := h
-- X0_copyFrom(53, 1) depth 2
def zo_X0_copyFrom_53_1_0 : List zOp := [(.aload_n 0, 1, 0, 0, 0, 0, 0, 0, 0, []), (.aload_n 1, 2, 1, 0, 0, 0, 0, 0, 0, []), (.getfield 18, 5, 0, 0, 1, 0, 100, 0, 0, []), (.putfield 18, 8, 0, 0, 1, 0, 100, 0, 0, []), (.aload_n 1, 9, 1, 0, 0, 0, 0, 0, 0, []), (.getfield 9, 12, 0, 1, 0, 0, 103, 0, 0, []), (.aload_n 0, 13, 0, 0, 0, 0, 0, 0, 0, []), (.getfield 9, 16, 0, 1, 0, 0, 103, 0, 0, []), (.invokestatic 30, 19, 130, 2, 0, 0, 630, 0, 0, []), (.aload_n 1, 20, 1, 0, 0, 0, 0, 0, 0, []), (.getfield 15, 23, 0, 2, 0, 0, 106, 0, 0, []), (.aload_n 0, 24, 0, 0, 0, 0, 0, 0, 0, []), (.getfield 15, 27, 0, 2, 0, 0, 106, 0, 0, []), (.invokestatic 30, 30, 130, 2, 0, 0, 630, 0, 0, []), (.return_, 31, 0, 0, 0, 0, 0, 0, 0, [])]
set_option maxRecDepth 100000 in
theorem zk_X0_copyFrom_53_1_0 : zOks nX0_copyFrom zo_X0_copyFrom_53_1_0 0 = true := by decide +kernel
def zm_X0_copyFrom_53_1 : List (Nat × List Bool) := [(0, [true, true])]
set_option maxRecDepth 100000 in
set_option maxHeartbeats 4000000 in
theorem zr_X0_copyFrom_53_1_0 {C : zCa} {post : zPo} {X : zX} (hX : zClosed none C post nX0_copyFrom X) (σ : zS) (h : C nX11_copyRow [.ref 2, .ref 54] (zSI σ 53 0 (σ.1 1 0)) (zPV fun σ1 => C nX11_copyRow [.ref 3, .ref 55] σ1 (zPV fun σ2 => post none σ2))) : X 0 [some (.ref 53), some (.ref 1)] [] σ := zSeq_ok hX zm_X0_copyFrom_53_1 zo_X0_copyFrom_53_1_0 0 0 _ _ _ zk_X0_copyFrom_53_1_0 h
theorem ze_X0_copyFrom_53_1 {d : Nat} {post : zPo} (σ : zS) (h : ∀ X : zX, zClosed none (zCall d) post nX0_copyFrom X → X 0 [some (.ref 53), some (.ref 1)] [] σ) : zCall (d + 1) nX0_copyFrom [.ref 53, .ref 1] σ post := h
-- X0_isCut(1,) depth 2
def zo_X0_isCut_0 : List zOp := [(.iload_n 1, 1, 1, 0, 0, 0, 0, 0, 0, []), (.ifCond .le 30, 4, 31, 0, 0, 0, 0, 0, 0, []), (.iconst 2, 5, 0, 0, 0, 0, 0, 2, 0, []), (.aload_n 0, 6, 0, 0, 0, 0, 0, 0, 0, []), (.getfield 15, 9, 0, 2, 0, 0, 106, 0, 0, []), (.iload_n 1, 10, 1, 0, 0, 0, 0, 0, 0, []), (.invokestatic 26, 13, 126, 2, 1, 0, 539, 0, 0, []), (.imul, 14, 0, 0, 0, 0, 0, 0, 0, []), (.iconst 3, 15, 0, 0, 0, 0, 0, 3, 0, []), (.aload_n 0, 16, 0, 0, 0, 0, 0, 0, 0, []), (.getfield 9, 19, 0, 1, 0, 0, 103, 0, 0, []), (.iload_n 1, 20, 1, 0, 0, 0, 0, 0, 0, []), (.invokestatic 26, 23, 126, 2, 1, 0, 539, 0, 0, []), (.imul, 24, 0, 0, 0, 0, 0, 0, 0, []), (.if_icmp .le 7, 27, 31, 0, 0, 0, 0, 0, 0, []), (.iconst 1, 28, 0, 0, 0, 0, 0, 1, 0, []), (.goto 4, 31, 32, 0, 0, 0, 0, 0, 0, []), (.iconst 0, 32, 0, 0, 0, 0, 0, 0, 0, []), (.ireturn, 33, 0, 0, 1, 0, 0, 0, 0, [])]
set_option maxRecDepth 100000 in
theorem zk_X0_isCut_0 : zOks nX0_isCut zo_X0_isCut_0 0 = true := by decide +kernel
def zm_X0_isCut : List (Nat × List Bool) := [(0, [true, true])]
set_option maxRecDepth 100000 in
set_option maxHeartbeats 4000000 in
theorem zr_X0_isCut_0 {C : zCa} {post : zPo} {X : zX} (hX : zClosed none C post nX0_isCut X) (p0 : Int32) (σ : zS) (h : zIf ((p0 : Int32) ≤ 0) (post (some (.int 0)) σ) (C nX11_at [.ref 3, .int p0] σ (zPI fun x2 σ1 => C nX11_at [.ref 2, .int p0] σ1 (zPI fun x4 σ3 => zIf ((2 * x2 : Int32) ≤ (3 * x4)) (post (some (.int 0)) σ3) (post (some (.int 1)) σ3))))) : X 0 [some (.ref 1), some (.int p0)] [] σ := zSeq_ok hX zm_X0_isCut zo_X0_isCut_0 0 0 _ _ _ zk_X0_isCut_0 h
theorem ze_X0_isCut {d : Nat} {post : zPo} (p0 : Int32) (σ : zS) (h : ∀ X : zX, zClosed none (zCall d) post nX0_isCut X → X 0 [some (.ref 1), some (.int p0)] [] σ) : zCall (d + 1) nX0_isCut [.ref 1, .int p0] σ post := h
-- X10_add(11,) depth 2
def zo_X10_add_0 : List zOp := [(.aload_n 0, 1, 0, 0, 0, 0, 0, 0, 0, []), (.getfield 18, 4, 10, 2, 0, 0, 213, 0, 0, []), (.aload_n 0, 5, 0, 0, 0, 0, 0, 0, 0, []), (.getfield 22, 8, 10, 0, 1, 0, 209, 0, 0, []), (.iload_n 1, 9, 1, 0, 0, 0, 0, 0, 0, []), (.invokestatic 26, 12, 128, 3, 0, 0, 590, 0, 0, []), (.aload_n 0, 13, 0, 0, 0, 0, 0, 0, 0, []), (.dup, 14, 0, 0, 0, 0, 0, 0, 0, []), (.getfield 22, 17, 10, 0, 1, 0, 209, 0, 0, []), (.iconst 1, 18, 0, 0, 0, 0, 0, 1, 0, []), (.iadd, 19, 0, 0, 0, 0, 0, 0, 0, []), (.putfield 22, 22, 10, 0, 1, 0, 209, 0, 0, []), (.return_, 23, 0, 0, 0, 0, 0, 0, 0, [])]
set_option maxRecDepth 100000 in
theorem zk_X10_add_0 : zOks nX10_add zo_X10_add_0 0 = true := by decide +kernel
def zm_X10_add : List (Nat × List Bool) := [(0, [true, true])]
set_option maxRecDepth 100000 in
set_option maxHeartbeats 4000000 in
theorem zr_X10_add_0 {C : zCa} {post : zPo} {X : zX} (hX : zClosed none C post nX10_add X) (p0 : Int32) (σ : zS) (h : C nX11_put [.ref 15, .int (σ.1 11 0), .int p0] σ (zPV fun σ1 => post none (zSI σ1 11 0 ((σ1.1 11 0) + 1)))) : X 0 [some (.ref 11), some (.int p0)] [] σ := zSeq_ok hX zm_X10_add zo_X10_add_0 0 0 _ _ _ zk_X10_add_0 h
theorem ze_X10_add {d : Nat} {post : zPo} (p0 : Int32) (σ : zS) (h : ∀ X : zX, zClosed none (zCall d) post nX10_add X → X 0 [some (.ref 11), some (.int p0)] [] σ) : zCall (d + 1) nX10_add [.ref 11, .int p0] σ post := h
-- X10_letterAt(11,) depth 2
def zo_X10_letterAt_0 : List zOp := [(.iload_n 1, 1, 1, 0, 0, 0, 0, 0, 0, []), (.aload_n 0, 2, 0, 0, 0, 0, 0, 0, 0, []), (.getfield 22, 5, 10, 0, 1, 0, 209, 0, 0, []), (.if_icmp .ge 14, 8, 19, 0, 0, 0, 0, 0, 0, []), (.aload_n 0, 9, 0, 0, 0, 0, 0, 0, 0, []), (.getfield 18, 12, 10, 2, 0, 0, 213, 0, 0, []), (.iload_n 1, 13, 1, 0, 0, 0, 0, 0, 0, []), (.invokestatic 30, 16, 126, 2, 1, 0, 611, 0, 0, []), (.goto 4, 19, 20, 0, 0, 0, 0, 0, 0, []), (.iconst (-1), 20, 0, 0, 0, 0, 0, (-1), 0, []), (.ireturn, 21, 0, 0, 0, 0, 0, 0, 0, [])]
set_option maxRecDepth 100000 in
theorem zk_X10_letterAt_0 : zOks nX10_letterAt zo_X10_letterAt_0 0 = true := by decide +kernel
def zm_X10_letterAt : List (Nat × List Bool) := [(0, [true, true])]
set_option maxRecDepth 100000 in
set_option maxHeartbeats 4000000 in
theorem zr_X10_letterAt_0 {C : zCa} {post : zPo} {X : zX} (hX : zClosed none C post nX10_letterAt X) (p0 : Int32) (σ : zS) (h : zIf ((p0 : Int32) < (σ.1 11 0)) (C nX11_at [.ref 15, .int p0] σ (zPI fun x2 σ1 => post (some (.int x2)) σ1)) (post (some (.int (-1))) σ)) : X 0 [some (.ref 11), some (.int p0)] [] σ := zSeq_ok hX zm_X10_letterAt zo_X10_letterAt_0 0 0 _ _ _ zk_X10_letterAt_0 h
theorem ze_X10_letterAt {d : Nat} {post : zPo} (p0 : Int32) (σ : zS) (h : ∀ X : zX, zClosed none (zCall d) post nX10_letterAt X → X 0 [some (.ref 11), some (.int p0)] [] σ) : zCall (d + 1) nX10_letterAt [.ref 11, .int p0] σ post := h
-- X10_skipBlanks(11,) depth 3
def zo_X10_skipBlanks_0 : List zOp := [(.aload_n 0, 1, 0, 0, 0, 0, 0, 0, 0, []), (.getfield 35, 4, 10, 3, 1, 0, 214, 0, 0, []), (.aload_n 0, 5, 0, 0, 0, 0, 0, 0, 0, []), (.getfield 22, 8, 10, 0, 1, 0, 209, 0, 0, []), (.if_icmp .ge 29, 11, 37, 0, 0, 0, 0, 0, 0, []), (.aload_n 0, 12, 0, 0, 0, 0, 0, 0, 0, []), (.aload_n 0, 13, 0, 0, 0, 0, 0, 0, 0, []), (.getfield 35, 16, 10, 3, 1, 0, 214, 0, 0, []), (.invokevirtual 59, 19, 69, 2, 1, 10, 607, 0, 0, []), (.bipush 32, 21, 0, 0, 0, 0, 0, 32, 0, []), (.if_icmp .ne 16, 24, 37, 0, 0, 0, 0, 0, 0, []), (.aload_n 0, 25, 0, 0, 0, 0, 0, 0, 0, []), (.dup, 26, 0, 0, 0, 0, 0, 0, 0, []), (.getfield 35, 29, 10, 3, 1, 0, 214, 0, 0, []), (.iconst 1, 30, 0, 0, 0, 0, 0, 1, 0, []), (.iadd, 31, 0, 0, 0, 0, 0, 0, 0, []), (.putfield 35, 34, 10, 3, 1, 0, 214, 0, 0, []), (.goto (-34), 37, 0, 0, 0, 0, 0, 0, 0, []), (.return_, 38, 0, 0, 0, 0, 0, 0, 0, [])]
set_option maxRecDepth 100000 in
theorem zk_X10_skipBlanks_0 : zOks nX10_skipBlanks zo_X10_skipBlanks_0 0 = true := by decide +kernel
def zm_X10_skipBlanks : List (Nat × List Bool) := [(0, [true])]
set_option maxRecDepth 100000 in
set_option maxHeartbeats 4000000 in
theorem zr_X10_skipBlanks_0 {C : zCa} {post : zPo} {X : zX} (hX : zClosed none C post nX10_skipBlanks X) (σ : zS) (h : zIf ((σ.1 11 3 : Int32) < (σ.1 11 0)) (C nX10_letterAt [.ref 11, .int (σ.1 11 3)] σ (zPI fun x2 σ1 => zIf ((x2 : Int32) = 32) (X 0 [some (.ref 11)] [] (zSI σ1 11 3 ((σ1.1 11 3) + 1))) (post none σ1))) (post none σ)) : X 0 [some (.ref 11)] [] σ := zSeq_ok hX zm_X10_skipBlanks zo_X10_skipBlanks_0 0 0 _ _ _ zk_X10_skipBlanks_0 h
theorem ze_X10_skipBlanks {d : Nat} {post : zPo} (σ : zS) (h : ∀ X : zX, zClosed none (zCall d) post nX10_skipBlanks X → X 0 [some (.ref 11)] [] σ) : zCall (d + 1) nX10_skipBlanks [.ref 11] σ post := h
-- X10_readNumber(11,) depth 4
def zo_X10_readNumber_0 : List zOp := [(.aload_n 0, 1, 0, 0, 0, 0, 0, 0, 0, []), (.getfield 35, 4, 10, 3, 1, 0, 214, 0, 0, []), (.istore_n 3, 5, 3, 0, 0, 0, 0, 0, 0, []), (.aload_n 0, 6, 0, 0, 0, 0, 0, 0, 0, []), (.iconst 0, 7, 0, 0, 0, 0, 0, 0, 0, []), (.putfield 56, 10, 10, 4, 1, 0, 215, 0, 0, [])]
set_option maxRecDepth 100000 in
theorem zk_X10_readNumber_0 : zOks nX10_readNumber zo_X10_readNumber_0 0 = true := by decide +kernel
def zo_X10_readNumber_10 : List zOp := [(.aload_n 0, 11, 0, 0, 0, 0, 0, 0, 0, []), (.getfield 35, 14, 10, 3, 1, 0, 214, 0, 0, []), (.iload_n 3, 15, 3, 0, 0, 0, 0, 0, 0, []), (.iconst 4, 16, 0, 0, 0, 0, 0, 4, 0, []), (.iadd, 17, 0, 0, 0, 0, 0, 0, 0, []), (.if_icmp .ge 57, 20, 74, 0, 0, 0, 0, 0, 0, []), (.aload_n 0, 21, 0, 0, 0, 0, 0, 0, 0, []), (.aload_n 0, 22, 0, 0, 0, 0, 0, 0, 0, []), (.getfield 35, 25, 10, 3, 1, 0, 214, 0, 0, []), (.invokevirtual 59, 28, 69, 2, 1, 10, 607, 0, 0, []), (.bipush 48, 30, 0, 0, 0, 0, 0, 48, 0, []), (.bipush 57, 32, 0, 0, 0, 0, 0, 57, 0, []), (.invokestatic 67, 35, 124, 3, 1, 0, 620, 0, 0, []), (.ifCond .eq 39, 38, 74, 0, 0, 0, 0, 0, 0, []), (.aload_n 0, 39, 0, 0, 0, 0, 0, 0, 0, []), (.bipush 10, 41, 0, 0, 0, 0, 0, 10, 0, []), (.aload_n 0, 42, 0, 0, 0, 0, 0, 0, 0, []), (.getfield 56, 45, 10, 4, 1, 0, 215, 0, 0, []), (.imul, 46, 0, 0, 0, 0, 0, 0, 0, []), (.aload_n 0, 47, 0, 0, 0, 0, 0, 0, 0, []), (.aload_n 0, 48, 0, 0, 0, 0, 0, 0, 0, []), (.getfield 35, 51, 10, 3, 1, 0, 214, 0, 0, []), (.invokevirtual 59, 54, 69, 2, 1, 10, 607, 0, 0, []), (.iadd, 55, 0, 0, 0, 0, 0, 0, 0, []), (.bipush 48, 57, 0, 0, 0, 0, 0, 48, 0, []), (.isub, 58, 0, 0, 0, 0, 0, 0, 0, []), (.putfield 56, 61, 10, 4, 1, 0, 215, 0, 0, []), (.aload_n 0, 62, 0, 0, 0, 0, 0, 0, 0, []), (.dup, 63, 0, 0, 0, 0, 0, 0, 0, []), (.getfield 35, 66, 10, 3, 1, 0, 214, 0, 0, []), (.iconst 1, 67, 0, 0, 0, 0, 0, 1, 0, []), (.iadd, 68, 0, 0, 0, 0, 0, 0, 0, []), (.putfield 35, 71, 10, 3, 1, 0, 214, 0, 0, []), (.goto (-61), 74, 10, 0, 0, 0, 0, 0, 0, []), (.aload_n 0, 75, 0, 0, 0, 0, 0, 0, 0, []), (.getfield 35, 78, 10, 3, 1, 0, 214, 0, 0, []), (.iload_n 3, 79, 3, 0, 0, 0, 0, 0, 0, []), (.if_icmp .eq 15, 82, 94, 0, 0, 0, 0, 0, 0, []), (.aload_n 0, 83, 0, 0, 0, 0, 0, 0, 0, []), (.getfield 56, 86, 10, 4, 1, 0, 215, 0, 0, []), (.iload_n 1, 87, 1, 0, 0, 0, 0, 0, 0, []), (.iload_n 2, 88, 2, 0, 0, 0, 0, 0, 0, []), (.invokestatic 67, 91, 124, 3, 1, 0, 620, 0, 0, []), (.ifCond .ne 10, 94, 101, 0, 0, 0, 0, 0, 0, []), (.aload_n 0, 95, 0, 0, 0, 0, 0, 0, 0, []), (.iload_n 3, 96, 3, 0, 0, 0, 0, 0, 0, []), (.putfield 45, 99, 10, 5, 1, 0, 216, 0, 0, []), (.iconst 0, 100, 0, 0, 0, 0, 0, 0, 0, []), (.ireturn, 101, 0, 0, 1, 0, 0, 0, 0, []), (.aload_n 0, 102, 0, 0, 0, 0, 0, 0, 0, []), (.invokevirtual 38, 105, 74, 1, 0, 10, 603, 0, 0, []), (.iconst 1, 106, 0, 0, 0, 0, 0, 1, 0, []), (.ireturn, 107, 0, 0, 1, 0, 0, 0, 0, [])]
set_option maxRecDepth 100000 in
theorem zk_X10_readNumber_10 : zOks nX10_readNumber zo_X10_readNumber_10 10 = true := by decide +kernel
def zm_X10_readNumber : List (Nat × List Bool) := [(0, [true, true, true, false]), (10, [true, true, true, true])]
set_option maxRecDepth 100000 in
set_option maxHeartbeats 4000000 in
theorem zr_X10_readNumber_0 {C : zCa} {post : zPo} {X : zX} (hX : zClosed none C post nX10_readNumber X) (p0 : Int32) (p1 : Int32) (σ : zS) (h : X 10 [some (.ref 11), some (.int p0), some (.int p1), some (.int (σ.1 11 3))] [] (zSI σ 11 4 0)) : X 0 [some (.ref 11), some (.int p0), some (.int p1), none] [] σ := zSeq_ok hX zm_X10_readNumber zo_X10_readNumber_0 0 0 _ _ _ zk_X10_readNumber_0 h
set_option maxRecDepth 100000 in
set_option maxHeartbeats 4000000 in
theorem zr_X10_readNumber_10 {C : zCa} {post : zPo} {X : zX} (hX : zClosed none C post nX10_readNumber X) (v1 : Int32) (v2 : Int32) (v3 : Int32) (σ : zS) (h : zIf ((σ.1 11 3 : Int32) < (v3 + 4)) (C nX10_letterAt [.ref 11, .int (σ.1 11 3)] σ (zPI fun x2 σ1 => C nX11_within [.int x2, .int 48, .int 57] σ1 (zPI fun x4 σ3 => zIf ((x4 : Int32) = 0) (zIf ((σ3.1 11 3 : Int32) = v3) (post (some (.int 0)) (zSI σ3 11 5 v3)) (C nX11_within [.int (σ3.1 11 4), .int v1, .int v2] σ3 (zPI fun x6 σ5 => zIf ((x6 : Int32) = 0) (post (some (.int 0)) (zSI σ5 11 5 v3)) (C nX10_skipBlanks [.ref 11] σ5 (zPV fun σ7 => post (some (.int 1)) σ7))))) (C nX10_letterAt [.ref 11, .int (σ3.1 11 3)] σ3 (zPI fun x9 σ8 => X 10 [some (.ref 11), some (.int v1), some (.int v2), some (.int v3)] [] (zSI (zSI σ8 11 4 (((10 * (σ3.1 11 4)) + x9) - 48)) 11 3 (((zSI σ8 11 4 (((10 * (σ3.1 11 4)) + x9) - 48)).1 11 3) + 1))))))) (zIf ((σ.1 11 3 : Int32) = v3) (post (some (.int 0)) (zSI σ 11 5 v3)) (C nX11_within [.int (σ.1 11 4), .int v1, .int v2] σ (zPI fun x11 σ10 => zIf ((x11 : Int32) = 0) (post (some (.int 0)) (zSI σ10 11 5 v3)) (C nX10_skipBlanks [.ref 11] σ10 (zPV fun σ12 => post (some (.int 1)) σ12)))))) : X 10 [some (.ref 11), some (.int v1), some (.int v2), some (.int v3)] [] σ := zSeq_ok hX zm_X10_readNumber zo_X10_readNumber_10 10 10 _ _ _ zk_X10_readNumber_10 h
theorem ze_X10_readNumber {d : Nat} {post : zPo} (p0 : Int32) (p1 : Int32) (σ : zS) (h : ∀ X : zX, zClosed none (zCall d) post nX10_readNumber X → X 0 [some (.ref 11), some (.int p0), some (.int p1), none] [] σ) : zCall (d + 1) nX10_readNumber [.ref 11, .int p0, .int p1] σ post := h
-- X10_readSign(11,) depth 4
def zo_X10_readSign_0 : List zOp := [(.aload_n 0, 1, 0, 0, 0, 0, 0, 0, 0, []), (.aload_n 0, 2, 0, 0, 0, 0, 0, 0, 0, []), (.getfield 35, 5, 10, 3, 1, 0, 214, 0, 0, []), (.invokevirtual 59, 8, 69, 2, 1, 10, 607, 0, 0, []), (.iload_n 1, 9, 1, 0, 0, 0, 0, 0, 0, []), (.if_icmp .eq 13, 12, 22, 0, 0, 0, 0, 0, 0, []), (.aload_n 0, 13, 0, 0, 0, 0, 0, 0, 0, []), (.aload_n 0, 14, 0, 0, 0, 0, 0, 0, 0, []), (.getfield 35, 17, 10, 3, 1, 0, 214, 0, 0, []), (.putfield 45, 20, 10, 5, 1, 0, 216, 0, 0, []), (.iconst 0, 21, 0, 0, 0, 0, 0, 0, 0, []), (.ireturn, 22, 0, 0, 1, 0, 0, 0, 0, []), (.aload_n 0, 23, 0, 0, 0, 0, 0, 0, 0, []), (.dup, 24, 0, 0, 0, 0, 0, 0, 0, []), (.getfield 35, 27, 10, 3, 1, 0, 214, 0, 0, []), (.iconst 1, 28, 0, 0, 0, 0, 0, 1, 0, []), (.iadd, 29, 0, 0, 0, 0, 0, 0, 0, []), (.putfield 35, 32, 10, 3, 1, 0, 214, 0, 0, []), (.aload_n 0, 33, 0, 0, 0, 0, 0, 0, 0, []), (.invokevirtual 38, 36, 74, 1, 0, 10, 603, 0, 0, []), (.iconst 1, 37, 0, 0, 0, 0, 0, 1, 0, []), (.ireturn, 38, 0, 0, 1, 0, 0, 0, 0, [])]
set_option maxRecDepth 100000 in
theorem zk_X10_readSign_0 : zOks nX10_readSign zo_X10_readSign_0 0 = true := by decide +kernel
def zm_X10_readSign : List (Nat × List Bool) := [(0, [true, true])]
set_option maxRecDepth 100000 in
set_option maxHeartbeats 4000000 in
theorem zr_X10_readSign_0 {C : zCa} {post : zPo} {X : zX} (hX : zClosed none C post nX10_readSign X) (p0 : Int32) (σ : zS) (h : C nX10_letterAt [.ref 11, .int (σ.1 11 3)] σ (zPI fun x2 σ1 => zIf ((x2 : Int32) = p0) (C nX10_skipBlanks [.ref 11] (zSI σ1 11 3 ((σ1.1 11 3) + 1)) (zPV fun σ3 => post (some (.int 1)) σ3)) (post (some (.int 0)) (zSI σ1 11 5 (σ1.1 11 3))))) : X 0 [some (.ref 11), some (.int p0)] [] σ := zSeq_ok hX zm_X10_readSign zo_X10_readSign_0 0 0 _ _ _ zk_X10_readSign_0 h
theorem ze_X10_readSign {d : Nat} {post : zPo} (p0 : Int32) (σ : zS) (h : ∀ X : zX, zClosed none (zCall d) post nX10_readSign X → X 0 [some (.ref 11), some (.int p0)] [] σ) : zCall (d + 1) nX10_readSign [.ref 11, .int p0] σ post := h
-- X10_readRun(11,) depth 5
def zo_X10_readRun_0 : List zOp := [(.aload_n 0, 1, 0, 0, 0, 0, 0, 0, 0, []), (.iconst 1, 2, 0, 0, 0, 0, 0, 1, 0, []), (.sipush 4000, 5, 0, 0, 0, 0, 0, 4000, 0, []), (.invokevirtual 52, 8, 73, 3, 1, 10, 616, 0, 0, []), (.ifCond .ne 5, 11, 13, 0, 0, 0, 0, 0, 0, []), (.iconst 0, 12, 0, 0, 0, 0, 0, 0, 0, []), (.ireturn, 13, 0, 0, 1, 0, 0, 0, 0, []), (.aload_n 0, 14, 0, 0, 0, 0, 0, 0, 0, []), (.getfield 56, 17, 10, 4, 1, 0, 215, 0, 0, []), (.istore_n 1, 18, 1, 0, 0, 0, 0, 0, 0, []), (.aload_n 0, 19, 0, 0, 0, 0, 0, 0, 0, []), (.bipush 47, 21, 0, 0, 0, 0, 0, 47, 0, []), (.invokevirtual 48, 24, 72, 2, 1, 10, 621, 0, 0, []), (.ifCond .eq 14, 27, 38, 0, 0, 0, 0, 0, 0, []), (.aload_n 0, 28, 0, 0, 0, 0, 0, 0, 0, []), (.iconst 0, 29, 0, 0, 0, 0, 0, 0, 0, []), (.sipush 4000, 32, 0, 0, 0, 0, 0, 4000, 0, []), (.invokevirtual 52, 35, 73, 3, 1, 10, 616, 0, 0, []), (.ifCond .ne 5, 38, 40, 0, 0, 0, 0, 0, 0, []), (.iconst 0, 39, 0, 0, 0, 0, 0, 0, 0, []), (.ireturn, 40, 0, 0, 1, 0, 0, 0, 0, []), (.aload_n 0, 41, 0, 0, 0, 0, 0, 0, 0, []), (.getfield 56, 44, 10, 4, 1, 0, 215, 0, 0, []), (.istore_n 2, 45, 2, 0, 0, 0, 0, 0, 0, []), (.iconst 1, 46, 0, 0, 0, 0, 0, 1, 0, []), (.istore_n 3, 47, 3, 0, 0, 0, 0, 0, 0, []), (.aload_n 0, 48, 0, 0, 0, 0, 0, 0, 0, []), (.aload_n 0, 49, 0, 0, 0, 0, 0, 0, 0, []), (.getfield 35, 52, 10, 3, 1, 0, 214, 0, 0, []), (.invokevirtual 59, 55, 69, 2, 1, 10, 607, 0, 0, []), (.bipush 42, 57, 0, 0, 0, 0, 0, 42, 0, []), (.if_icmp .ne 37, 60, 94, 0, 0, 0, 0, 0, 0, []), (.aload_n 0, 61, 0, 0, 0, 0, 0, 0, 0, []), (.bipush 42, 63, 0, 0, 0, 0, 0, 42, 0, []), (.invokevirtual 48, 66, 72, 2, 1, 10, 621, 0, 0, []), (.ifCond .eq 21, 69, 87, 0, 0, 0, 0, 0, 0, []), (.aload_n 0, 70, 0, 0, 0, 0, 0, 0, 0, []), (.iconst 1, 71, 0, 0, 0, 0, 0, 1, 0, []), (.bipush 60, 73, 0, 0, 0, 0, 0, 60, 0, []), (.aload_n 0, 74, 0, 0, 0, 0, 0, 0, 0, []), (.getfield 12, 77, 10, 1, 0, 0, 211, 0, 0, []), (.getfield 34, 80, 0, 0, 1, 0, 102, 0, 0, []), (.isub, 81, 0, 0, 0, 0, 0, 0, 0, []), (.invokevirtual 52, 84, 73, 3, 1, 10, 616, 0, 0, []), (.ifCond .ne 5, 87, 89, 0, 0, 0, 0, 0, 0, []), (.iconst 0, 88, 0, 0, 0, 0, 0, 0, 0, []), (.ireturn, 89, 0, 0, 1, 0, 0, 0, 0, []), (.aload_n 0, 90, 0, 0, 0, 0, 0, 0, 0, []), (.getfield 56, 93, 10, 4, 1, 0, 215, 0, 0, []), (.istore_n 3, 94, 3, 0, 0, 0, 0, 0, 0, []), (.iconst 0, 95, 0, 0, 0, 0, 0, 0, 0, []), (.istore 4, 97, 4, 0, 0, 0, 0, 0, 0, [])]
set_option maxRecDepth 100000 in
theorem zk_X10_readRun_0 : zOks nX10_readRun zo_X10_readRun_0 0 = true := by decide +kernel
def zo_X10_readRun_97 : List zOp := [(.iload 4, 99, 4, 0, 0, 0, 0, 0, 0, []), (.iload_n 3, 100, 3, 0, 0, 0, 0, 0, 0, []), (.if_icmp .ge 18, 103, 118, 0, 0, 0, 0, 0, 0, []), (.aload_n 0, 104, 0, 0, 0, 0, 0, 0, 0, []), (.getfield 12, 107, 10, 1, 0, 0, 211, 0, 0, []), (.iload_n 1, 108, 1, 0, 0, 0, 0, 0, 0, []), (.iload_n 2, 109, 2, 0, 0, 0, 0, 0, 0, []), (.invokevirtual 63, 112, 1, 3, 0, 0, 625, 0, 0, []), (.iinc 4 1, 115, 4, 0, 0, 0, 0, 1, 0, []), (.goto (-18), 118, 97, 0, 0, 0, 0, 0, 0, []), (.iconst 1, 119, 0, 0, 0, 0, 0, 1, 0, []), (.ireturn, 120, 0, 0, 1, 0, 0, 0, 0, [])]
set_option maxRecDepth 100000 in
theorem zk_X10_readRun_97 : zOks nX10_readRun zo_X10_readRun_97 97 = true := by decide +kernel
def zm_X10_readRun : List (Nat × List Bool) := [(0, [true, false, false, false, false]), (97, [true, true, true, true, true])]
set_option maxRecDepth 100000 in
set_option maxHeartbeats 4000000 in
theorem zr_X10_readRun_0 {C : zCa} {post : zPo} {X : zX} (hX : zClosed none C post nX10_readRun X) (σ : zS) (h : C nX10_readNumber [.ref 11, .int 1, .int 4000] σ (zPI fun x2 σ1 => zIf ((x2 : Int32) = 0) (post (some (.int 0)) σ1) (C nX10_readSign [.ref 11, .int 47] σ1 (zPI fun x4 σ3 => zIf ((x4 : Int32) = 0) (post (some (.int 0)) σ3) (C nX10_readNumber [.ref 11, .int 0, .int 4000] σ3 (zPI fun x6 σ5 => zIf ((x6 : Int32) = 0) (post (some (.int 0)) σ5) (C nX10_letterAt [.ref 11, .int (σ5.1 11 3)] σ5 (zPI fun x8 σ7 => zIf ((x8 : Int32) = 42) (C nX10_readSign [.ref 11, .int 42] σ7 (zPI fun x10 σ9 => zIf ((x10 : Int32) = 0) (post (some (.int 0)) σ9) (C nX10_readNumber [.ref 11, .int 1, .int (60 - (σ9.1 12 0))] σ9 (zPI fun x12 σ11 => zIf ((x12 : Int32) = 0) (post (some (.int 0)) σ11) (X 97 [some (.ref 11), some (.int (σ1.1 11 4)), some (.int (σ5.1 11 4)), some (.int (σ11.1 11 4)), some (.int 0)] [] σ11))))) (X 97 [some (.ref 11), some (.int (σ1.1 11 4)), some (.int (σ5.1 11 4)), some (.int 1), some (.int 0)] [] σ7))))))))) : X 0 [some (.ref 11), none, none, none, none] [] σ := zSeq_ok hX zm_X10_readRun zo_X10_readRun_0 0 0 _ _ _ zk_X10_readRun_0 h
set_option maxRecDepth 100000 in
set_option maxHeartbeats 4000000 in
theorem zr_X10_readRun_97 {C : zCa} {post : zPo} {X : zX} (hX : zClosed none C post nX10_readRun X) (v1 : Int32) (v2 : Int32) (v3 : Int32) (v4 : Int32) (σ : zS) (h : zIf ((v4 : Int32) < v3) (C nX0_add [.ref 12, .int v1, .int v2] σ (zPV fun σ1 => X 97 [some (.ref 11), some (.int v1), some (.int v2), some (.int v3), some (.int (v4 + 1))] [] σ1)) (post (some (.int 1)) σ)) : X 97 [some (.ref 11), some (.int v1), some (.int v2), some (.int v3), some (.int v4)] [] σ := zSeq_ok hX zm_X10_readRun zo_X10_readRun_97 97 97 _ _ _ zk_X10_readRun_97 h
theorem ze_X10_readRun {d : Nat} {post : zPo} (σ : zS) (h : ∀ X : zX, zClosed none (zCall d) post nX10_readRun X → X 0 [some (.ref 11), none, none, none, none] [] σ) : zCall (d + 1) nX10_readRun [.ref 11] σ post := h
-- X10_readClip(11,) depth 6
def zo_X10_readClip_0 : List zOp := [(.aload_n 0, 1, 0, 0, 0, 0, 0, 0, 0, []), (.getfield 12, 4, 10, 1, 0, 0, 211, 0, 0, []), (.iconst 0, 5, 0, 0, 0, 0, 0, 0, 0, []), (.putfield 34, 8, 0, 0, 1, 0, 102, 0, 0, []), (.aload_n 0, 9, 0, 0, 0, 0, 0, 0, 0, []), (.iconst 0, 10, 0, 0, 0, 0, 0, 0, 0, []), (.putfield 35, 13, 10, 3, 1, 0, 214, 0, 0, []), (.aload_n 0, 14, 0, 0, 0, 0, 0, 0, 0, []), (.invokevirtual 38, 17, 74, 1, 0, 10, 603, 0, 0, []), (.aload_n 0, 18, 0, 0, 0, 0, 0, 0, 0, []), (.getfield 35, 21, 10, 3, 1, 0, 214, 0, 0, []), (.aload_n 0, 22, 0, 0, 0, 0, 0, 0, 0, []), (.getfield 22, 25, 10, 0, 1, 0, 209, 0, 0, []), (.if_icmp .lt 5, 28, 30, 0, 0, 0, 0, 0, 0, []), (.iconst (-1), 29, 0, 0, 0, 0, 0, (-1), 0, []), (.ireturn, 30, 0, 0, 0, 0, 0, 0, 0, []), (.iconst 0, 31, 0, 0, 0, 0, 0, 0, 0, []), (.istore_n 1, 32, 1, 0, 0, 0, 0, 0, 0, [])]
set_option maxRecDepth 100000 in
theorem zk_X10_readClip_0 : zOks nX10_readClip zo_X10_readClip_0 0 = true := by decide +kernel
def zo_X10_readClip_32 : List zOp := [(.iload_n 1, 33, 1, 0, 0, 0, 0, 0, 0, []), (.bipush 60, 35, 0, 0, 0, 0, 0, 60, 0, []), (.if_icmp .gt 65, 38, 100, 0, 0, 0, 0, 0, 0, []), (.aload_n 0, 39, 0, 0, 0, 0, 0, 0, 0, []), (.getfield 12, 42, 10, 1, 0, 0, 211, 0, 0, []), (.getfield 34, 45, 0, 0, 1, 0, 102, 0, 0, []), (.bipush 60, 47, 0, 0, 0, 0, 0, 60, 0, []), (.if_icmp .lt 8, 50, 55, 0, 0, 0, 0, 0, 0, []), (.aload_n 0, 51, 0, 0, 0, 0, 0, 0, 0, []), (.getfield 35, 54, 10, 3, 1, 0, 214, 0, 0, []), (.ireturn, 55, 0, 0, 0, 0, 0, 0, 0, []), (.aload_n 0, 56, 0, 0, 0, 0, 0, 0, 0, []), (.invokevirtual 41, 59, 71, 1, 1, 10, 612, 0, 0, []), (.ifCond .ne 8, 62, 67, 0, 0, 0, 0, 0, 0, []), (.aload_n 0, 63, 0, 0, 0, 0, 0, 0, 0, []), (.getfield 45, 66, 10, 5, 1, 0, 216, 0, 0, []), (.ireturn, 67, 0, 0, 0, 0, 0, 0, 0, []), (.aload_n 0, 68, 0, 0, 0, 0, 0, 0, 0, []), (.getfield 35, 71, 10, 3, 1, 0, 214, 0, 0, []), (.aload_n 0, 72, 0, 0, 0, 0, 0, 0, 0, []), (.getfield 22, 75, 10, 0, 1, 0, 209, 0, 0, []), (.if_icmp .lt 5, 78, 80, 0, 0, 0, 0, 0, 0, []), (.iconst (-1), 79, 0, 0, 0, 0, 0, (-1), 0, []), (.ireturn, 80, 0, 0, 0, 0, 0, 0, 0, []), (.aload_n 0, 81, 0, 0, 0, 0, 0, 0, 0, []), (.bipush 59, 83, 0, 0, 0, 0, 0, 59, 0, []), (.invokevirtual 48, 86, 72, 2, 1, 10, 621, 0, 0, []), (.ifCond .ne 8, 89, 94, 0, 0, 0, 0, 0, 0, []), (.aload_n 0, 90, 0, 0, 0, 0, 0, 0, 0, []), (.getfield 45, 93, 10, 5, 1, 0, 216, 0, 0, []), (.ireturn, 94, 0, 0, 0, 0, 0, 0, 0, []), (.iinc 1 1, 97, 1, 0, 0, 0, 0, 1, 0, []), (.goto (-65), 100, 32, 0, 0, 0, 0, 0, 0, []), (.aload_n 0, 101, 0, 0, 0, 0, 0, 0, 0, []), (.getfield 35, 104, 10, 3, 1, 0, 214, 0, 0, []), (.ireturn, 105, 0, 0, 0, 0, 0, 0, 0, [])]
set_option maxRecDepth 100000 in
theorem zk_X10_readClip_32 : zOks nX10_readClip zo_X10_readClip_32 32 = true := by decide +kernel
def zm_X10_readClip : List (Nat × List Bool) := [(0, [true, false]), (32, [true, true])]
set_option maxRecDepth 100000 in
set_option maxHeartbeats 4000000 in
theorem zr_X10_readClip_0 {C : zCa} {post : zPo} {X : zX} (hX : zClosed none C post nX10_readClip X) (σ : zS) (h : C nX10_skipBlanks [.ref 11] (zSI (zSI σ 12 0 0) 11 3 0) (zPV fun σ1 => zIf ((σ1.1 11 3 : Int32) < (σ1.1 11 0)) (X 32 [some (.ref 11), some (.int 0)] [] σ1) (post (some (.int (-1))) σ1))) : X 0 [some (.ref 11), none] [] σ := zSeq_ok hX zm_X10_readClip zo_X10_readClip_0 0 0 _ _ _ zk_X10_readClip_0 h
set_option maxRecDepth 100000 in
set_option maxHeartbeats 4000000 in
theorem zr_X10_readClip_32 {C : zCa} {post : zPo} {X : zX} (hX : zClosed none C post nX10_readClip X) (v1 : Int32) (σ : zS) (h : zIf ((v1 : Int32) ≤ 60) (zIf ((σ.1 12 0 : Int32) < 60) (C nX10_readRun [.ref 11] σ (zPI fun x2 σ1 => zIf ((x2 : Int32) = 0) (post (some (.int (σ1.1 11 5))) σ1) (zIf ((σ1.1 11 3 : Int32) < (σ1.1 11 0)) (C nX10_readSign [.ref 11, .int 59] σ1 (zPI fun x4 σ3 => zIf ((x4 : Int32) = 0) (post (some (.int (σ3.1 11 5))) σ3) (X 32 [some (.ref 11), some (.int (v1 + 1))] [] σ3))) (post (some (.int (-1))) σ1)))) (post (some (.int (σ.1 11 3))) σ)) (post (some (.int (σ.1 11 3))) σ)) : X 32 [some (.ref 11), some (.int v1)] [] σ := zSeq_ok hX zm_X10_readClip zo_X10_readClip_32 32 32 _ _ _ zk_X10_readClip_32 h
theorem ze_X10_readClip {d : Nat} {post : zPo} (σ : zS) (h : ∀ X : zX, zClosed none (zCall d) post nX10_readClip X → X 0 [some (.ref 11), none] [] σ) : zCall (d + 1) nX10_readClip [.ref 11] σ post := h
-- X8_putZone(4,) depth 2
def zo_X8_putZone_0 : List zOp := [(.aload_n 0, 1, 0, 0, 0, 0, 0, 0, 0, []), (.getfield 38, 4, 8, 9, 0, 0, 158, 0, 0, []), (.aload_n 0, 5, 0, 0, 0, 0, 0, 0, 0, []), (.getfield 47, 8, 8, 7, 1, 0, 153, 0, 0, []), (.iload_n 1, 9, 1, 0, 0, 0, 0, 0, 0, []), (.invokestatic 50, 12, 128, 3, 0, 0, 685, 0, 0, []), (.aload_n 0, 13, 0, 0, 0, 0, 0, 0, 0, []), (.getfield 41, 16, 8, 10, 0, 0, 159, 0, 0, []), (.aload_n 0, 17, 0, 0, 0, 0, 0, 0, 0, []), (.getfield 47, 20, 8, 7, 1, 0, 153, 0, 0, []), (.iload_n 2, 21, 2, 0, 0, 0, 0, 0, 0, []), (.invokestatic 50, 24, 128, 3, 0, 0, 685, 0, 0, []), (.aload_n 0, 25, 0, 0, 0, 0, 0, 0, 0, []), (.getfield 44, 28, 8, 11, 0, 0, 160, 0, 0, []), (.aload_n 0, 29, 0, 0, 0, 0, 0, 0, 0, []), (.getfield 47, 32, 8, 7, 1, 0, 153, 0, 0, []), (.iload_n 3, 33, 3, 0, 0, 0, 0, 0, 0, []), (.invokestatic 50, 36, 128, 3, 0, 0, 685, 0, 0, []), (.aload_n 0, 37, 0, 0, 0, 0, 0, 0, 0, []), (.dup, 38, 0, 0, 0, 0, 0, 0, 0, []), (.getfield 47, 41, 8, 7, 1, 0, 153, 0, 0, []), (.iconst 1, 42, 0, 0, 0, 0, 0, 1, 0, []), (.iadd, 43, 0, 0, 0, 0, 0, 0, 0, []), (.putfield 47, 46, 8, 7, 1, 0, 153, 0, 0, []), (.return_, 47, 0, 0, 0, 0, 0, 0, 0, [])]
set_option maxRecDepth 100000 in
theorem zk_X8_putZone_0 : zOks nX8_putZone zo_X8_putZone_0 0 = true := by decide +kernel
def zm_X8_putZone : List (Nat × List Bool) := [(0, [true, true, true, true])]
set_option maxRecDepth 100000 in
set_option maxHeartbeats 4000000 in
theorem zr_X8_putZone_0 {C : zCa} {post : zPo} {X : zX} (hX : zClosed none C post nX8_putZone X) (p0 : Int32) (p1 : Int32) (p2 : Int32) (σ : zS) (h : C nX11_put [.ref 6, .int (σ.1 4 7), .int p0] σ (zPV fun σ1 => C nX11_put [.ref 7, .int (σ1.1 4 7), .int p1] σ1 (zPV fun σ2 => C nX11_put [.ref 8, .int (σ2.1 4 7), .int p2] σ2 (zPV fun σ3 => post none (zSI σ3 4 7 ((σ3.1 4 7) + 1)))))) : X 0 [some (.ref 4), some (.int p0), some (.int p1), some (.int p2)] [] σ := zSeq_ok hX zm_X8_putZone zo_X8_putZone_0 0 0 _ _ _ zk_X8_putZone_0 h
theorem ze_X8_putZone {d : Nat} {post : zPo} (p0 : Int32) (p1 : Int32) (p2 : Int32) (σ : zS) (h : ∀ X : zX, zClosed none (zCall d) post nX8_putZone X → X 0 [some (.ref 4), some (.int p0), some (.int p1), some (.int p2)] [] σ) : zCall (d + 1) nX8_putZone [.ref 4, .int p0, .int p1, .int p2] σ post := h
-- X3_isMultiple() depth 1
def zo_X3_isMultiple_0 : List zOp := [(.iload_n 1, 1, 1, 0, 0, 0, 0, 0, 0, []), (.ifCond .eq 13, 4, 14, 0, 0, 0, 0, 0, 0, []), (.iload_n 0, 5, 0, 0, 0, 0, 0, 0, 0, []), (.iload_n 1, 6, 1, 0, 0, 0, 0, 0, 0, []), (.irem, 7, 0, 0, 0, 0, 0, 0, 0, []), (.ifCond .ne 7, 10, 14, 0, 0, 0, 0, 0, 0, []), (.iconst 1, 11, 0, 0, 0, 0, 0, 1, 0, []), (.goto 4, 14, 15, 0, 0, 0, 0, 0, 0, []), (.iconst 0, 15, 0, 0, 0, 0, 0, 0, 0, []), (.ireturn, 16, 0, 0, 1, 0, 0, 0, 0, [])]
set_option maxRecDepth 100000 in
theorem zk_X3_isMultiple_0 : zOks nX3_isMultiple zo_X3_isMultiple_0 0 = true := by decide +kernel
def zm_X3_isMultiple : List (Nat × List Bool) := [(0, [true, true])]
set_option maxRecDepth 100000 in
set_option maxHeartbeats 4000000 in
theorem zr_X3_isMultiple_0 {C : zCa} {post : zPo} {X : zX} (hX : zClosed none C post nX3_isMultiple X) (p0 : Int32) (p1 : Int32) (σ : zS) (h : zIf ((p1 : Int32) = 0) (post (some (.int 0)) σ) (¬ (p1 : Int32) = 0 ∧ (zIf ((p0 - p0 / p1 * p1 : Int32) = 0) (post (some (.int 1)) σ) (post (some (.int 0)) σ)))) : X 0 [some (.int p0), some (.int p1)] [] σ := zSeq_ok hX zm_X3_isMultiple zo_X3_isMultiple_0 0 0 _ _ _ zk_X3_isMultiple_0 h
theorem ze_X3_isMultiple {d : Nat} {post : zPo} (p0 : Int32) (p1 : Int32) (σ : zS) (h : ∀ X : zX, zClosed none (zCall d) post nX3_isMultiple X → X 0 [some (.int p0), some (.int p1)] [] σ) : zCall (d + 1) nX3_isMultiple [.int p0, .int p1] σ post := h
-- X3_chooseTypes(16,) depth 2
def zo_X3_chooseTypes_0 : List zOp := [(.iconst 0, 1, 0, 0, 0, 0, 0, 0, 0, []), (.istore_n 2, 2, 2, 0, 0, 0, 0, 0, 0, [])]
set_option maxRecDepth 100000 in
theorem zk_X3_chooseTypes_0 : zOks nX3_chooseTypes zo_X3_chooseTypes_0 0 = true := by decide +kernel
def zo_X3_chooseTypes_2 : List zOp := [(.iload_n 2, 3, 2, 0, 0, 0, 0, 0, 0, []), (.aload_n 0, 4, 0, 0, 0, 0, 0, 0, 0, []), (.getfield 39, 7, 3, 0, 1, 0, 236, 0, 0, []), (.if_icmp .ge 93, 10, 100, 0, 0, 0, 0, 0, 0, []), (.iload_n 2, 11, 2, 0, 0, 0, 0, 0, 0, []), (.aload_n 0, 12, 0, 0, 0, 0, 0, 0, 0, []), (.getfield 18, 15, 3, 5, 0, 0, 253, 0, 0, []), (.iload_n 2, 16, 2, 0, 0, 0, 0, 0, 0, []), (.invokestatic 80, 19, 126, 2, 1, 0, 545, 0, 0, []), (.isub, 20, 0, 0, 0, 0, 0, 0, 0, []), (.istore_n 3, 21, 3, 0, 0, 0, 0, 0, 0, []), (.iload_n 3, 22, 3, 0, 0, 0, 0, 0, 0, []), (.aload_n 0, 23, 0, 0, 0, 0, 0, 0, 0, []), (.getfield 21, 26, 3, 6, 0, 0, 255, 0, 0, []), (.iload_n 2, 27, 2, 0, 0, 0, 0, 0, 0, []), (.invokestatic 80, 30, 126, 2, 1, 0, 545, 0, 0, []), (.iconst 1, 31, 0, 0, 0, 0, 0, 1, 0, []), (.isub, 32, 0, 0, 0, 0, 0, 0, 0, []), (.if_icmp .ne 7, 35, 39, 0, 0, 0, 0, 0, 0, []), (.iconst 1, 36, 0, 0, 0, 0, 0, 1, 0, []), (.goto 4, 39, 40, 0, 0, 0, 0, 0, 0, []), (.iconst 0, 40, 0, 0, 0, 0, 0, 0, 0, []), (.istore 4, 42, 4, 0, 0, 0, 0, 0, 0, []), (.iload_n 3, 43, 3, 0, 0, 0, 0, 0, 0, []), (.ifCond .ne 15, 46, 58, 0, 0, 0, 0, 0, 0, []), (.aload_n 0, 47, 0, 0, 0, 0, 0, 0, 0, []), (.getfield 9, 50, 3, 3, 0, 0, 245, 0, 0, []), (.iload_n 2, 51, 2, 0, 0, 0, 0, 0, 0, []), (.iconst 0, 52, 0, 0, 0, 0, 0, 0, 0, []), (.invokestatic 76, 55, 128, 3, 0, 0, 540, 0, 0, []), (.goto 39, 58, 94, 0, 0, 0, 0, 0, 0, []), (.iload 4, 60, 4, 0, 0, 0, 0, 0, 0, []), (.ifCond .ne 13, 63, 73, 0, 0, 0, 0, 0, 0, []), (.iload_n 3, 64, 3, 0, 0, 0, 0, 0, 0, []), (.iload_n 1, 65, 1, 0, 0, 0, 0, 0, 0, []), (.iconst 1, 66, 0, 0, 0, 0, 0, 1, 0, []), (.iadd, 67, 0, 0, 0, 0, 0, 0, 0, []), (.invokestatic 84, 70, 28, 2, 1, 0, 550, 0, 0, []), (.ifCond .eq 15, 73, 85, 0, 0, 0, 0, 0, 0, []), (.aload_n 0, 74, 0, 0, 0, 0, 0, 0, 0, []), (.getfield 9, 77, 3, 3, 0, 0, 245, 0, 0, []), (.iload_n 2, 78, 2, 0, 0, 0, 0, 0, 0, []), (.iconst 1, 79, 0, 0, 0, 0, 0, 1, 0, []), (.invokestatic 76, 82, 128, 3, 0, 0, 540, 0, 0, []), (.goto 12, 85, 94, 0, 0, 0, 0, 0, 0, []), (.aload_n 0, 86, 0, 0, 0, 0, 0, 0, 0, []), (.getfield 9, 89, 3, 3, 0, 0, 245, 0, 0, []), (.iload_n 2, 90, 2, 0, 0, 0, 0, 0, 0, []), (.iconst 2, 91, 0, 0, 0, 0, 0, 2, 0, []), (.invokestatic 76, 94, 128, 3, 0, 0, 540, 0, 0, []), (.iinc 2 1, 97, 2, 0, 0, 0, 0, 1, 0, []), (.goto (-95), 100, 2, 0, 0, 0, 0, 0, 0, []), (.return_, 101, 0, 0, 0, 0, 0, 0, 0, [])]
set_option maxRecDepth 100000 in
theorem zk_X3_chooseTypes_2 : zOks nX3_chooseTypes zo_X3_chooseTypes_2 2 = true := by decide +kernel
def zm_X3_chooseTypes : List (Nat × List Bool) := [(0, [true, true, false, false, false]), (2, [true, true, true, false, false])]
set_option maxRecDepth 100000 in
set_option maxHeartbeats 4000000 in
theorem zr_X3_chooseTypes_0 {C : zCa} {post : zPo} {X : zX} (hX : zClosed none C post nX3_chooseTypes X) (p0 : Int32) (σ : zS) (h : X 2 [some (.ref 16), some (.int p0), some (.int 0), none, none] [] σ) : X 0 [some (.ref 16), some (.int p0), none, none, none] [] σ := zSeq_ok hX zm_X3_chooseTypes zo_X3_chooseTypes_0 0 0 _ _ _ zk_X3_chooseTypes_0 h
set_option maxRecDepth 100000 in
set_option maxHeartbeats 4000000 in
theorem zr_X3_chooseTypes_2 {C : zCa} {post : zPo} {X : zX} (hX : zClosed none C post nX3_chooseTypes X) (v1 : Int32) (v2 : Int32) (σ : zS) (h : zIf ((v2 : Int32) < (σ.1 16 0)) (C nX11_at [.ref 19, .int v2] σ (zPI fun x2 σ1 => C nX11_at [.ref 20, .int v2] σ1 (zPI fun x4 σ3 => zIf ((v2 - x2 : Int32) = (x4 - 1)) (zIf ((v2 - x2 : Int32) = 0) (C nX11_put [.ref 17, .int v2, .int 0] σ3 (zPV fun σ5 => X 2 [some (.ref 16), some (.int v1), some (.int (v2 + 1)), none, none] [] σ5)) (zIf ((1 : Int32) = 0) (C nX3_isMultiple [.int (v2 - x2), .int (v1 + 1)] σ3 (zPI fun x7 σ6 => zIf ((x7 : Int32) = 0) (C nX11_put [.ref 17, .int v2, .int 2] σ6 (zPV fun σ8 => X 2 [some (.ref 16), some (.int v1), some (.int (v2 + 1)), none, none] [] σ8)) (C nX11_put [.ref 17, .int v2, .int 1] σ6 (zPV fun σ9 => X 2 [some (.ref 16), some (.int v1), some (.int (v2 + 1)), none, none] [] σ9)))) (C nX11_put [.ref 17, .int v2, .int 1] σ3 (zPV fun σ10 => X 2 [some (.ref 16), some (.int v1), some (.int (v2 + 1)), none, none] [] σ10)))) (zIf ((v2 - x2 : Int32) = 0) (C nX11_put [.ref 17, .int v2, .int 0] σ3 (zPV fun σ11 => X 2 [some (.ref 16), some (.int v1), some (.int (v2 + 1)), none, none] [] σ11)) (zIf ((0 : Int32) = 0) (C nX3_isMultiple [.int (v2 - x2), .int (v1 + 1)] σ3 (zPI fun x13 σ12 => zIf ((x13 : Int32) = 0) (C nX11_put [.ref 17, .int v2, .int 2] σ12 (zPV fun σ14 => X 2 [some (.ref 16), some (.int v1), some (.int (v2 + 1)), none, none] [] σ14)) (C nX11_put [.ref 17, .int v2, .int 1] σ12 (zPV fun σ15 => X 2 [some (.ref 16), some (.int v1), some (.int (v2 + 1)), none, none] [] σ15)))) (C nX11_put [.ref 17, .int v2, .int 1] σ3 (zPV fun σ16 => X 2 [some (.ref 16), some (.int v1), some (.int (v2 + 1)), none, none] [] σ16))))))) (post none σ)) : X 2 [some (.ref 16), some (.int v1), some (.int v2), none, none] [] σ := zSeq_ok hX zm_X3_chooseTypes zo_X3_chooseTypes_2 2 2 _ _ _ zk_X3_chooseTypes_2 h
theorem ze_X3_chooseTypes {d : Nat} {post : zPo} (p0 : Int32) (σ : zS) (h : ∀ X : zX, zClosed none (zCall d) post nX3_chooseTypes X → X 0 [some (.ref 16), some (.int p0), none, none, none] [] σ) : zCall (d + 1) nX3_chooseTypes [.ref 16, .int p0] σ post := h
-- X3_findStarts(16, 1) depth 3
def zo_X3_findStarts_0 : List zOp := [(.aload_n 0, 1, 0, 0, 0, 0, 0, 0, 0, []), (.iconst 0, 2, 0, 0, 0, 0, 0, 0, 0, []), (.putfield 66, 5, 3, 1, 1, 0, 241, 0, 0, []), (.aload_n 0, 6, 0, 0, 0, 0, 0, 0, 0, []), (.iconst 0, 7, 0, 0, 0, 0, 0, 0, 0, []), (.putfield 69, 10, 3, 2, 1, 0, 243, 0, 0, []), (.iconst 0, 11, 0, 0, 0, 0, 0, 0, 0, []), (.istore_n 3, 12, 3, 0, 0, 0, 0, 0, 0, []), (.iconst 0, 13, 0, 0, 0, 0, 0, 0, 0, []), (.istore 4, 15, 4, 0, 0, 0, 0, 0, 0, [])]
set_option maxRecDepth 100000 in
theorem zk_X3_findStarts_0 : zOks nX3_findStarts zo_X3_findStarts_0 0 = true := by decide +kernel
def zo_X3_findStarts_15 : List zOp := [(.iload 4, 17, 4, 0, 0, 0, 0, 0, 0, []), (.aload_n 0, 18, 0, 0, 0, 0, 0, 0, 0, []), (.getfield 39, 21, 3, 0, 1, 0, 236, 0, 0, []), (.if_icmp .ge 96, 24, 117, 0, 0, 0, 0, 0, 0, []), (.iload 4, 26, 4, 0, 0, 0, 0, 0, 0, []), (.ifCond .eq 12, 29, 38, 0, 0, 0, 0, 0, 0, []), (.aload_n 1, 30, 1, 0, 0, 0, 0, 0, 0, []), (.iload 4, 32, 4, 0, 0, 0, 0, 0, 0, []), (.invokevirtual 72, 35, 2, 2, 1, 0, 535, 0, 0, []), (.ifCond .eq 7, 38, 42, 0, 0, 0, 0, 0, 0, []), (.iconst 1, 39, 0, 0, 0, 0, 0, 1, 0, []), (.goto 4, 42, 43, 0, 0, 0, 0, 0, 0, []), (.iconst 0, 43, 0, 0, 0, 0, 0, 0, 0, []), (.istore 5, 45, 5, 0, 0, 0, 0, 0, 0, []), (.iload 5, 47, 5, 0, 0, 0, 0, 0, 0, []), (.ifCond .eq 13, 50, 60, 0, 0, 0, 0, 0, 0, []), (.aload_n 0, 51, 0, 0, 0, 0, 0, 0, 0, []), (.dup, 52, 0, 0, 0, 0, 0, 0, 0, []), (.getfield 66, 55, 3, 1, 1, 0, 241, 0, 0, []), (.iconst 1, 56, 0, 0, 0, 0, 0, 1, 0, []), (.iadd, 57, 0, 0, 0, 0, 0, 0, 0, []), (.putfield 66, 60, 3, 1, 1, 0, 241, 0, 0, []), (.iload 5, 62, 5, 0, 0, 0, 0, 0, 0, []), (.ifCond .ne 11, 65, 73, 0, 0, 0, 0, 0, 0, []), (.iload 4, 67, 4, 0, 0, 0, 0, 0, 0, []), (.iload_n 3, 68, 3, 0, 0, 0, 0, 0, 0, []), (.isub, 69, 0, 0, 0, 0, 0, 0, 0, []), (.iload_n 2, 70, 2, 0, 0, 0, 0, 0, 0, []), (.if_icmp .lt 16, 73, 86, 0, 0, 0, 0, 0, 0, []), (.aload_n 0, 74, 0, 0, 0, 0, 0, 0, 0, []), (.dup, 75, 0, 0, 0, 0, 0, 0, 0, []), (.getfield 69, 78, 3, 2, 1, 0, 243, 0, 0, []), (.iconst 1, 79, 0, 0, 0, 0, 0, 1, 0, []), (.iadd, 80, 0, 0, 0, 0, 0, 0, 0, []), (.putfield 69, 83, 3, 2, 1, 0, 243, 0, 0, []), (.iload 4, 85, 4, 0, 0, 0, 0, 0, 0, []), (.istore_n 3, 86, 3, 0, 0, 0, 0, 0, 0, []), (.aload_n 0, 87, 0, 0, 0, 0, 0, 0, 0, []), (.getfield 15, 90, 3, 4, 0, 0, 249, 0, 0, []), (.iload 4, 92, 4, 0, 0, 0, 0, 0, 0, []), (.aload_n 0, 93, 0, 0, 0, 0, 0, 0, 0, []), (.getfield 66, 96, 3, 1, 1, 0, 241, 0, 0, []), (.iconst 1, 97, 0, 0, 0, 0, 0, 1, 0, []), (.isub, 98, 0, 0, 0, 0, 0, 0, 0, []), (.invokestatic 76, 101, 128, 3, 0, 0, 540, 0, 0, []), (.aload_n 0, 102, 0, 0, 0, 0, 0, 0, 0, []), (.getfield 18, 105, 3, 5, 0, 0, 253, 0, 0, []), (.iload 4, 107, 4, 0, 0, 0, 0, 0, 0, []), (.iload_n 3, 108, 3, 0, 0, 0, 0, 0, 0, []), (.invokestatic 76, 111, 128, 3, 0, 0, 540, 0, 0, []), (.iinc 4 1, 114, 4, 0, 0, 0, 0, 1, 0, []), (.goto (-99), 117, 15, 0, 0, 0, 0, 0, 0, []), (.return_, 118, 0, 0, 0, 0, 0, 0, 0, [])]
set_option maxRecDepth 100000 in
theorem zk_X3_findStarts_15 : zOks nX3_findStarts zo_X3_findStarts_15 15 = true := by decide +kernel
def zm_X3_findStarts : List (Nat × List Bool) := [(0, [true, true, true, false, false, false]), (15, [true, true, true, true, true, false])]
set_option maxRecDepth 100000 in
set_option maxHeartbeats 4000000 in
theorem zr_X3_findStarts_0 {C : zCa} {post : zPo} {X : zX} (hX : zClosed none C post nX3_findStarts X) (p1 : Int32) (σ : zS) (h : X 15 [some (.ref 16), some (.ref 1), some (.int p1), some (.int 0), some (.int 0), none] [] (zSI (zSI σ 16 1 0) 16 2 0)) : X 0 [some (.ref 16), some (.ref 1), some (.int p1), none, none, none] [] σ := zSeq_ok hX zm_X3_findStarts zo_X3_findStarts_0 0 0 _ _ _ zk_X3_findStarts_0 h
set_option maxRecDepth 100000 in
set_option maxHeartbeats 4000000 in
theorem zr_X3_findStarts_15 {C : zCa} {post : zPo} {X : zX} (hX : zClosed none C post nX3_findStarts X) (v2 : Int32) (v3 : Int32) (v4 : Int32) (σ : zS) (h : zIf ((v4 : Int32) < (σ.1 16 0)) (zIf ((v4 : Int32) = 0) (zIf ((1 : Int32) = 0) (zIf ((1 : Int32) = 0) (zIf ((v4 - v3 : Int32) < v2) (C nX11_put [.ref 18, .int v4, .int ((σ.1 16 1) - 1)] σ (zPV fun σ1 => C nX11_put [.ref 19, .int v4, .int v3] σ1 (zPV fun σ2 => X 15 [some (.ref 16), some (.ref 1), some (.int v2), some (.int v3), some (.int (v4 + 1)), none] [] σ2))) (C nX11_put [.ref 18, .int v4, .int (((zSI σ 16 2 ((σ.1 16 2) + 1)).1 16 1) - 1)] (zSI σ 16 2 ((σ.1 16 2) + 1)) (zPV fun σ3 => C nX11_put [.ref 19, .int v4, .int v4] σ3 (zPV fun σ4 => X 15 [some (.ref 16), some (.ref 1), some (.int v2), some (.int v4), some (.int (v4 + 1)), none] [] σ4)))) (C nX11_put [.ref 18, .int v4, .int (((zSI σ 16 2 ((σ.1 16 2) + 1)).1 16 1) - 1)] (zSI σ 16 2 ((σ.1 16 2) + 1)) (zPV fun σ5 => C nX11_put [.ref 19, .int v4, .int v4] σ5 (zPV fun σ6 => X 15 [some (.ref 16), some (.ref 1), some (.int v2), some (.int v4), some (.int (v4 + 1)), none] [] σ6)))) (zIf ((1 : Int32) = 0) (zIf ((v4 - v3 : Int32) < v2) (C nX11_put [.ref 18, .int v4, .int (((zSI σ 16 1 ((σ.1 16 1) + 1)).1 16 1) - 1)] (zSI σ 16 1 ((σ.1 16 1) + 1)) (zPV fun σ7 => C nX11_put [.ref 19, .int v4, .int v3] σ7 (zPV fun σ8 => X 15 [some (.ref 16), some (.ref 1), some (.int v2), some (.int v3), some (.int (v4 + 1)), none] [] σ8))) (C nX11_put [.ref 18, .int v4, .int (((zSI (zSI σ 16 1 ((σ.1 16 1) + 1)) 16 2 (((zSI σ 16 1 ((σ.1 16 1) + 1)).1 16 2) + 1)).1 16 1) - 1)] (zSI (zSI σ 16 1 ((σ.1 16 1) + 1)) 16 2 (((zSI σ 16 1 ((σ.1 16 1) + 1)).1 16 2) + 1)) (zPV fun σ9 => C nX11_put [.ref 19, .int v4, .int v4] σ9 (zPV fun σ10 => X 15 [some (.ref 16), some (.ref 1), some (.int v2), some (.int v4), some (.int (v4 + 1)), none] [] σ10)))) (C nX11_put [.ref 18, .int v4, .int (((zSI (zSI σ 16 1 ((σ.1 16 1) + 1)) 16 2 (((zSI σ 16 1 ((σ.1 16 1) + 1)).1 16 2) + 1)).1 16 1) - 1)] (zSI (zSI σ 16 1 ((σ.1 16 1) + 1)) 16 2 (((zSI σ 16 1 ((σ.1 16 1) + 1)).1 16 2) + 1)) (zPV fun σ11 => C nX11_put [.ref 19, .int v4, .int v4] σ11 (zPV fun σ12 => X 15 [some (.ref 16), some (.ref 1), some (.int v2), some (.int v4), some (.int (v4 + 1)), none] [] σ12))))) (C nX0_isCut [.ref 1, .int v4] σ (zPI fun x14 σ13 => zIf ((x14 : Int32) = 0) (zIf ((0 : Int32) = 0) (zIf ((0 : Int32) = 0) (zIf ((v4 - v3 : Int32) < v2) (C nX11_put [.ref 18, .int v4, .int ((σ13.1 16 1) - 1)] σ13 (zPV fun σ15 => C nX11_put [.ref 19, .int v4, .int v3] σ15 (zPV fun σ16 => X 15 [some (.ref 16), some (.ref 1), some (.int v2), some (.int v3), some (.int (v4 + 1)), none] [] σ16))) (C nX11_put [.ref 18, .int v4, .int (((zSI σ13 16 2 ((σ13.1 16 2) + 1)).1 16 1) - 1)] (zSI σ13 16 2 ((σ13.1 16 2) + 1)) (zPV fun σ17 => C nX11_put [.ref 19, .int v4, .int v4] σ17 (zPV fun σ18 => X 15 [some (.ref 16), some (.ref 1), some (.int v2), some (.int v4), some (.int (v4 + 1)), none] [] σ18)))) (C nX11_put [.ref 18, .int v4, .int (((zSI σ13 16 2 ((σ13.1 16 2) + 1)).1 16 1) - 1)] (zSI σ13 16 2 ((σ13.1 16 2) + 1)) (zPV fun σ19 => C nX11_put [.ref 19, .int v4, .int v4] σ19 (zPV fun σ20 => X 15 [some (.ref 16), some (.ref 1), some (.int v2), some (.int v4), some (.int (v4 + 1)), none] [] σ20)))) (zIf ((0 : Int32) = 0) (zIf ((v4 - v3 : Int32) < v2) (C nX11_put [.ref 18, .int v4, .int (((zSI σ13 16 1 ((σ13.1 16 1) + 1)).1 16 1) - 1)] (zSI σ13 16 1 ((σ13.1 16 1) + 1)) (zPV fun σ21 => C nX11_put [.ref 19, .int v4, .int v3] σ21 (zPV fun σ22 => X 15 [some (.ref 16), some (.ref 1), some (.int v2), some (.int v3), some (.int (v4 + 1)), none] [] σ22))) (C nX11_put [.ref 18, .int v4, .int (((zSI (zSI σ13 16 1 ((σ13.1 16 1) + 1)) 16 2 (((zSI σ13 16 1 ((σ13.1 16 1) + 1)).1 16 2) + 1)).1 16 1) - 1)] (zSI (zSI σ13 16 1 ((σ13.1 16 1) + 1)) 16 2 (((zSI σ13 16 1 ((σ13.1 16 1) + 1)).1 16 2) + 1)) (zPV fun σ23 => C nX11_put [.ref 19, .int v4, .int v4] σ23 (zPV fun σ24 => X 15 [some (.ref 16), some (.ref 1), some (.int v2), some (.int v4), some (.int (v4 + 1)), none] [] σ24)))) (C nX11_put [.ref 18, .int v4, .int (((zSI (zSI σ13 16 1 ((σ13.1 16 1) + 1)) 16 2 (((zSI σ13 16 1 ((σ13.1 16 1) + 1)).1 16 2) + 1)).1 16 1) - 1)] (zSI (zSI σ13 16 1 ((σ13.1 16 1) + 1)) 16 2 (((zSI σ13 16 1 ((σ13.1 16 1) + 1)).1 16 2) + 1)) (zPV fun σ25 => C nX11_put [.ref 19, .int v4, .int v4] σ25 (zPV fun σ26 => X 15 [some (.ref 16), some (.ref 1), some (.int v2), some (.int v4), some (.int (v4 + 1)), none] [] σ26))))) (zIf ((1 : Int32) = 0) (zIf ((1 : Int32) = 0) (zIf ((v4 - v3 : Int32) < v2) (C nX11_put [.ref 18, .int v4, .int ((σ13.1 16 1) - 1)] σ13 (zPV fun σ27 => C nX11_put [.ref 19, .int v4, .int v3] σ27 (zPV fun σ28 => X 15 [some (.ref 16), some (.ref 1), some (.int v2), some (.int v3), some (.int (v4 + 1)), none] [] σ28))) (C nX11_put [.ref 18, .int v4, .int (((zSI σ13 16 2 ((σ13.1 16 2) + 1)).1 16 1) - 1)] (zSI σ13 16 2 ((σ13.1 16 2) + 1)) (zPV fun σ29 => C nX11_put [.ref 19, .int v4, .int v4] σ29 (zPV fun σ30 => X 15 [some (.ref 16), some (.ref 1), some (.int v2), some (.int v4), some (.int (v4 + 1)), none] [] σ30)))) (C nX11_put [.ref 18, .int v4, .int (((zSI σ13 16 2 ((σ13.1 16 2) + 1)).1 16 1) - 1)] (zSI σ13 16 2 ((σ13.1 16 2) + 1)) (zPV fun σ31 => C nX11_put [.ref 19, .int v4, .int v4] σ31 (zPV fun σ32 => X 15 [some (.ref 16), some (.ref 1), some (.int v2), some (.int v4), some (.int (v4 + 1)), none] [] σ32)))) (zIf ((1 : Int32) = 0) (zIf ((v4 - v3 : Int32) < v2) (C nX11_put [.ref 18, .int v4, .int (((zSI σ13 16 1 ((σ13.1 16 1) + 1)).1 16 1) - 1)] (zSI σ13 16 1 ((σ13.1 16 1) + 1)) (zPV fun σ33 => C nX11_put [.ref 19, .int v4, .int v3] σ33 (zPV fun σ34 => X 15 [some (.ref 16), some (.ref 1), some (.int v2), some (.int v3), some (.int (v4 + 1)), none] [] σ34))) (C nX11_put [.ref 18, .int v4, .int (((zSI (zSI σ13 16 1 ((σ13.1 16 1) + 1)) 16 2 (((zSI σ13 16 1 ((σ13.1 16 1) + 1)).1 16 2) + 1)).1 16 1) - 1)] (zSI (zSI σ13 16 1 ((σ13.1 16 1) + 1)) 16 2 (((zSI σ13 16 1 ((σ13.1 16 1) + 1)).1 16 2) + 1)) (zPV fun σ35 => C nX11_put [.ref 19, .int v4, .int v4] σ35 (zPV fun σ36 => X 15 [some (.ref 16), some (.ref 1), some (.int v2), some (.int v4), some (.int (v4 + 1)), none] [] σ36)))) (C nX11_put [.ref 18, .int v4, .int (((zSI (zSI σ13 16 1 ((σ13.1 16 1) + 1)) 16 2 (((zSI σ13 16 1 ((σ13.1 16 1) + 1)).1 16 2) + 1)).1 16 1) - 1)] (zSI (zSI σ13 16 1 ((σ13.1 16 1) + 1)) 16 2 (((zSI σ13 16 1 ((σ13.1 16 1) + 1)).1 16 2) + 1)) (zPV fun σ37 => C nX11_put [.ref 19, .int v4, .int v4] σ37 (zPV fun σ38 => X 15 [some (.ref 16), some (.ref 1), some (.int v2), some (.int v4), some (.int (v4 + 1)), none] [] σ38)))))))) (post none σ)) : X 15 [some (.ref 16), some (.ref 1), some (.int v2), some (.int v3), some (.int v4), none] [] σ := zSeq_ok hX zm_X3_findStarts zo_X3_findStarts_15 15 15 _ _ _ zk_X3_findStarts_15 h
theorem ze_X3_findStarts {d : Nat} {post : zPo} (p1 : Int32) (σ : zS) (h : ∀ X : zX, zClosed none (zCall d) post nX3_findStarts X → X 0 [some (.ref 16), some (.ref 1), some (.int p1), none, none, none] [] σ) : zCall (d + 1) nX3_findStarts [.ref 16, .ref 1, .int p1] σ post := h
-- X3_measureGroups(16,) depth 2
def zo_X3_measureGroups_0 : List zOp := [(.aload_n 0, 1, 0, 0, 0, 0, 0, 0, 0, []), (.getfield 39, 4, 3, 0, 1, 0, 236, 0, 0, []), (.istore_n 1, 5, 1, 0, 0, 0, 0, 0, 0, []), (.aload_n 0, 6, 0, 0, 0, 0, 0, 0, 0, []), (.getfield 39, 9, 3, 0, 1, 0, 236, 0, 0, []), (.iconst 1, 10, 0, 0, 0, 0, 0, 1, 0, []), (.isub, 11, 0, 0, 0, 0, 0, 0, 0, []), (.istore_n 2, 12, 2, 0, 0, 0, 0, 0, 0, [])]
set_option maxRecDepth 100000 in
theorem zk_X3_measureGroups_0 : zOks nX3_measureGroups zo_X3_measureGroups_0 0 = true := by decide +kernel
def zo_X3_measureGroups_12 : List zOp := [(.iload_n 2, 13, 2, 0, 0, 0, 0, 0, 0, []), (.ifCond .lt 36, 16, 49, 0, 0, 0, 0, 0, 0, []), (.aload_n 0, 17, 0, 0, 0, 0, 0, 0, 0, []), (.getfield 18, 20, 3, 5, 0, 0, 253, 0, 0, []), (.iload_n 2, 21, 2, 0, 0, 0, 0, 0, 0, []), (.invokestatic 80, 24, 126, 2, 1, 0, 545, 0, 0, []), (.istore_n 3, 25, 3, 0, 0, 0, 0, 0, 0, []), (.aload_n 0, 26, 0, 0, 0, 0, 0, 0, 0, []), (.getfield 21, 29, 3, 6, 0, 0, 255, 0, 0, []), (.iload_n 2, 30, 2, 0, 0, 0, 0, 0, 0, []), (.iload_n 1, 31, 1, 0, 0, 0, 0, 0, 0, []), (.iload_n 3, 32, 3, 0, 0, 0, 0, 0, 0, []), (.isub, 33, 0, 0, 0, 0, 0, 0, 0, []), (.invokestatic 76, 36, 128, 3, 0, 0, 540, 0, 0, []), (.iload_n 2, 37, 2, 0, 0, 0, 0, 0, 0, []), (.iload_n 3, 38, 3, 0, 0, 0, 0, 0, 0, []), (.if_icmp .ne 5, 41, 43, 0, 0, 0, 0, 0, 0, []), (.iload_n 2, 42, 2, 0, 0, 0, 0, 0, 0, []), (.istore_n 1, 43, 1, 0, 0, 0, 0, 0, 0, []), (.iinc 2 (-1), 46, 2, 0, 0, 0, 0, (-1), 0, []), (.goto (-34), 49, 12, 0, 0, 0, 0, 0, 0, []), (.return_, 50, 0, 0, 0, 0, 0, 0, 0, [])]
set_option maxRecDepth 100000 in
theorem zk_X3_measureGroups_12 : zOks nX3_measureGroups zo_X3_measureGroups_12 12 = true := by decide +kernel
def zm_X3_measureGroups : List (Nat × List Bool) := [(0, [true, false, false, false]), (12, [true, true, true, false])]
set_option maxRecDepth 100000 in
set_option maxHeartbeats 4000000 in
theorem zr_X3_measureGroups_0 {C : zCa} {post : zPo} {X : zX} (hX : zClosed none C post nX3_measureGroups X) (σ : zS) (h : X 12 [some (.ref 16), some (.int (σ.1 16 0)), some (.int ((σ.1 16 0) - 1)), none] [] σ) : X 0 [some (.ref 16), none, none, none] [] σ := zSeq_ok hX zm_X3_measureGroups zo_X3_measureGroups_0 0 0 _ _ _ zk_X3_measureGroups_0 h
set_option maxRecDepth 100000 in
set_option maxHeartbeats 4000000 in
theorem zr_X3_measureGroups_12 {C : zCa} {post : zPo} {X : zX} (hX : zClosed none C post nX3_measureGroups X) (v1 : Int32) (v2 : Int32) (σ : zS) (h : zIf ((v2 : Int32) < 0) (post none σ) (C nX11_at [.ref 19, .int v2] σ (zPI fun x2 σ1 => C nX11_put [.ref 20, .int v2, .int (v1 - x2)] σ1 (zPV fun σ3 => zIf ((v2 : Int32) = x2) (X 12 [some (.ref 16), some (.int v2), some (.int (v2 + (-1))), none] [] σ3) (X 12 [some (.ref 16), some (.int v1), some (.int (v2 + (-1))), none] [] σ3))))) : X 12 [some (.ref 16), some (.int v1), some (.int v2), none] [] σ := zSeq_ok hX zm_X3_measureGroups zo_X3_measureGroups_12 12 12 _ _ _ zk_X3_measureGroups_12 h
theorem ze_X3_measureGroups {d : Nat} {post : zPo} (σ : zS) (h : ∀ X : zX, zClosed none (zCall d) post nX3_measureGroups X → X 0 [some (.ref 16), none, none, none] [] σ) : zCall (d + 1) nX3_measureGroups [.ref 16] σ post := h
-- X3_putAt(16,) depth 2
def zo_X3_putAt_0 : List zOp := [(.aload_n 0, 1, 0, 0, 0, 0, 0, 0, 0, []), (.getfield 30, 4, 3, 9, 0, 0, 263, 0, 0, []), (.iload_n 1, 5, 1, 0, 0, 0, 0, 0, 0, []), (.iload_n 2, 6, 2, 0, 0, 0, 0, 0, 0, []), (.invokestatic 76, 9, 128, 3, 0, 0, 540, 0, 0, []), (.aload_n 0, 10, 0, 0, 0, 0, 0, 0, 0, []), (.getfield 27, 13, 3, 8, 0, 0, 261, 0, 0, []), (.iload_n 2, 14, 2, 0, 0, 0, 0, 0, 0, []), (.iload_n 1, 15, 1, 0, 0, 0, 0, 0, 0, []), (.invokestatic 76, 18, 128, 3, 0, 0, 540, 0, 0, []), (.return_, 19, 0, 0, 0, 0, 0, 0, 0, [])]
set_option maxRecDepth 100000 in
theorem zk_X3_putAt_0 : zOks nX3_putAt zo_X3_putAt_0 0 = true := by decide +kernel
def zm_X3_putAt : List (Nat × List Bool) := [(0, [true, true, true])]
set_option maxRecDepth 100000 in
set_option maxHeartbeats 4000000 in
theorem zr_X3_putAt_0 {C : zCa} {post : zPo} {X : zX} (hX : zClosed none C post nX3_putAt X) (p0 : Int32) (p1 : Int32) (σ : zS) (h : C nX11_put [.ref 23, .int p0, .int p1] σ (zPV fun σ1 => C nX11_put [.ref 22, .int p1, .int p0] σ1 (zPV fun σ2 => post none σ2))) : X 0 [some (.ref 16), some (.int p0), some (.int p1)] [] σ := zSeq_ok hX zm_X3_putAt zo_X3_putAt_0 0 0 _ _ _ zk_X3_putAt_0 h
theorem ze_X3_putAt {d : Nat} {post : zPo} (p0 : Int32) (p1 : Int32) (σ : zS) (h : ∀ X : zX, zClosed none (zCall d) post nX3_putAt X → X 0 [some (.ref 16), some (.int p0), some (.int p1)] [] σ) : zCall (d + 1) nX3_putAt [.ref 16, .int p0, .int p1] σ post := h
-- X3_putInOrder(16,) depth 3
def zo_X3_putInOrder_0 : List zOp := [(.iconst 0, 1, 0, 0, 0, 0, 0, 0, 0, []), (.istore_n 1, 2, 1, 0, 0, 0, 0, 0, 0, []), (.iconst 0, 3, 0, 0, 0, 0, 0, 0, 0, []), (.istore_n 2, 4, 2, 0, 0, 0, 0, 0, 0, []), (.iconst 0, 5, 0, 0, 0, 0, 0, 0, 0, []), (.istore_n 3, 6, 3, 0, 0, 0, 0, 0, 0, [])]
set_option maxRecDepth 100000 in
theorem zk_X3_putInOrder_0 : zOks nX3_putInOrder zo_X3_putInOrder_0 0 = true := by decide +kernel
def zo_X3_putInOrder_6 : List zOp := [(.iload_n 3, 7, 3, 0, 0, 0, 0, 0, 0, []), (.aload_n 0, 8, 0, 0, 0, 0, 0, 0, 0, []), (.getfield 39, 11, 3, 0, 1, 0, 236, 0, 0, []), (.if_icmp .ge 59, 14, 70, 0, 0, 0, 0, 0, 0, []), (.aload_n 0, 15, 0, 0, 0, 0, 0, 0, 0, []), (.getfield 9, 18, 3, 3, 0, 0, 245, 0, 0, []), (.iload_n 3, 19, 3, 0, 0, 0, 0, 0, 0, []), (.invokestatic 80, 22, 126, 2, 1, 0, 545, 0, 0, []), (.iconst 2, 23, 0, 0, 0, 0, 0, 2, 0, []), (.if_icmp .eq 41, 26, 64, 0, 0, 0, 0, 0, 0, []), (.aload_n 0, 27, 0, 0, 0, 0, 0, 0, 0, []), (.iload_n 1, 28, 1, 0, 0, 0, 0, 0, 0, []), (.iload_n 3, 29, 3, 0, 0, 0, 0, 0, 0, []), (.invokevirtual 88, 32, 30, 3, 0, 3, 557, 0, 0, []), (.iinc 1 1, 35, 1, 0, 0, 0, 0, 1, 0, []), (.iload_n 2, 36, 2, 0, 0, 0, 0, 0, 0, []), (.istore 4, 38, 4, 0, 0, 0, 0, 0, 0, [])]
set_option maxRecDepth 100000 in
theorem zk_X3_putInOrder_6 : zOks nX3_putInOrder zo_X3_putInOrder_6 6 = true := by decide +kernel
def zo_X3_putInOrder_38 : List zOp := [(.iload 4, 40, 4, 0, 0, 0, 0, 0, 0, []), (.iload_n 3, 41, 3, 0, 0, 0, 0, 0, 0, []), (.if_icmp .ge 19, 44, 60, 0, 0, 0, 0, 0, 0, []), (.aload_n 0, 45, 0, 0, 0, 0, 0, 0, 0, []), (.iload_n 1, 46, 1, 0, 0, 0, 0, 0, 0, []), (.iload 4, 48, 4, 0, 0, 0, 0, 0, 0, []), (.invokevirtual 88, 51, 30, 3, 0, 3, 557, 0, 0, []), (.iinc 1 1, 54, 1, 0, 0, 0, 0, 1, 0, []), (.iinc 4 1, 57, 4, 0, 0, 0, 0, 1, 0, []), (.goto (-19), 60, 38, 0, 0, 0, 0, 0, 0, []), (.iload_n 3, 61, 3, 0, 0, 0, 0, 0, 0, []), (.iconst 1, 62, 0, 0, 0, 0, 0, 1, 0, []), (.iadd, 63, 0, 0, 0, 0, 0, 0, 0, []), (.istore_n 2, 64, 2, 0, 0, 0, 0, 0, 0, []), (.iinc 3 1, 67, 3, 0, 0, 0, 0, 1, 0, []), (.goto (-61), 70, 6, 0, 0, 0, 0, 0, 0, []), (.return_, 71, 0, 0, 0, 0, 0, 0, 0, [])]
set_option maxRecDepth 100000 in
theorem zk_X3_putInOrder_38 : zOks nX3_putInOrder zo_X3_putInOrder_38 38 = true := by decide +kernel
def zm_X3_putInOrder : List (Nat × List Bool) := [(0, [true, false, false, false, false]), (6, [true, true, true, true, false]), (38, [true, true, false, true, true]), (64, [true, true, true, true, false]), (70, [false, false, false, false, false])]
set_option maxRecDepth 100000 in
set_option maxHeartbeats 4000000 in
theorem zr_X3_putInOrder_0 {C : zCa} {post : zPo} {X : zX} (hX : zClosed none C post nX3_putInOrder X) (σ : zS) (h : X 6 [some (.ref 16), some (.int 0), some (.int 0), some (.int 0), none] [] σ) : X 0 [some (.ref 16), none, none, none, none] [] σ := zSeq_ok hX zm_X3_putInOrder zo_X3_putInOrder_0 0 0 _ _ _ zk_X3_putInOrder_0 h
set_option maxRecDepth 100000 in
set_option maxHeartbeats 4000000 in
theorem zr_X3_putInOrder_6 {C : zCa} {post : zPo} {X : zX} (hX : zClosed none C post nX3_putInOrder X) (v1 : Int32) (v2 : Int32) (v3 : Int32) (σ : zS) (h : zIf ((v3 : Int32) < (σ.1 16 0)) (C nX11_at [.ref 17, .int v3] σ (zPI fun x2 σ1 => zIf ((x2 : Int32) = 2) (X 64 [some (.ref 16), some (.int v1), some (.int v2), some (.int v3), none] [] σ1) (C nX3_putAt [.ref 16, .int v1, .int v3] σ1 (zPV fun σ3 => X 38 [some (.ref 16), some (.int (v1 + 1)), none, some (.int v3), some (.int v2)] [] σ3)))) (X 70 [none, none, none, none, none] [] σ)) : X 6 [some (.ref 16), some (.int v1), some (.int v2), some (.int v3), none] [] σ := zSeq_ok hX zm_X3_putInOrder zo_X3_putInOrder_6 6 6 _ _ _ zk_X3_putInOrder_6 h
set_option maxRecDepth 100000 in
set_option maxHeartbeats 4000000 in
theorem zr_X3_putInOrder_64 {C : zCa} {post : zPo} {X : zX} (hX : zClosed none C post nX3_putInOrder X) (v1 : Int32) (v2 : Int32) (v3 : Int32) (σ : zS) (h : X 6 [some (.ref 16), some (.int v1), some (.int v2), some (.int (v3 + 1)), none] [] σ) : X 64 [some (.ref 16), some (.int v1), some (.int v2), some (.int v3), none] [] σ := zSeq_ok hX zm_X3_putInOrder zo_X3_putInOrder_38 38 64 _ _ _ zk_X3_putInOrder_38 h
set_option maxRecDepth 100000 in
set_option maxHeartbeats 4000000 in
theorem zr_X3_putInOrder_38 {C : zCa} {post : zPo} {X : zX} (hX : zClosed none C post nX3_putInOrder X) (v1 : Int32) (v3 : Int32) (v4 : Int32) (σ : zS) (h : zIf ((v4 : Int32) < v3) (C nX3_putAt [.ref 16, .int v1, .int v4] σ (zPV fun σ1 => X 38 [some (.ref 16), some (.int (v1 + 1)), none, some (.int v3), some (.int (v4 + 1))] [] σ1)) (X 6 [some (.ref 16), some (.int v1), some (.int (v3 + 1)), some (.int (v3 + 1)), none] [] σ)) : X 38 [some (.ref 16), some (.int v1), none, some (.int v3), some (.int v4)] [] σ := zSeq_ok hX zm_X3_putInOrder zo_X3_putInOrder_38 38 38 _ _ _ zk_X3_putInOrder_38 h
set_option maxRecDepth 100000 in
set_option maxHeartbeats 4000000 in
theorem zr_X3_putInOrder_70 {C : zCa} {post : zPo} {X : zX} (hX : zClosed none C post nX3_putInOrder X) (σ : zS) (h : post none σ) : X 70 [none, none, none, none, none] [] σ := zSeq_ok hX zm_X3_putInOrder zo_X3_putInOrder_38 38 70 _ _ _ zk_X3_putInOrder_38 h
theorem ze_X3_putInOrder {d : Nat} {post : zPo} (σ : zS) (h : ∀ X : zX, zClosed none (zCall d) post nX3_putInOrder X → X 0 [some (.ref 16), none, none, none, none] [] σ) : zCall (d + 1) nX3_putInOrder [.ref 16] σ post := h
-- X3_workOf() depth 1
def zo_X3_workOf_0 : List zOp := [(.iload_n 0, 1, 0, 0, 0, 0, 0, 0, 0, []), (.lookupswitch 37 #[(0, 27), (1, 31)], 28, 38, 0, 0, 0, 0, 0, 0, [(0, 28), (1, 32)]), (.iconst 4, 29, 0, 0, 0, 0, 0, 4, 0, []), (.iload_n 1, 30, 1, 0, 0, 0, 0, 0, 0, []), (.imul, 31, 0, 0, 0, 0, 0, 0, 0, []), (.ireturn, 32, 0, 0, 0, 0, 0, 0, 0, []), (.iload_n 1, 33, 1, 0, 0, 0, 0, 0, 0, []), (.iconst 2, 34, 0, 0, 0, 0, 0, 2, 0, []), (.iload_n 2, 35, 2, 0, 0, 0, 0, 0, 0, []), (.imul, 36, 0, 0, 0, 0, 0, 0, 0, []), (.iadd, 37, 0, 0, 0, 0, 0, 0, 0, []), (.ireturn, 38, 0, 0, 0, 0, 0, 0, 0, []), (.iload_n 1, 39, 1, 0, 0, 0, 0, 0, 0, []), (.iconst 2, 40, 0, 0, 0, 0, 0, 2, 0, []), (.idiv, 41, 0, 0, 0, 0, 0, 0, 0, []), (.iload_n 2, 42, 2, 0, 0, 0, 0, 0, 0, []), (.iadd, 43, 0, 0, 0, 0, 0, 0, 0, []), (.ireturn, 44, 0, 0, 0, 0, 0, 0, 0, [])]
set_option maxRecDepth 100000 in
theorem zk_X3_workOf_0 : zOks nX3_workOf zo_X3_workOf_0 0 = true := by decide +kernel
def zm_X3_workOf : List (Nat × List Bool) := [(0, [true, true, true])]
set_option maxRecDepth 100000 in
set_option maxHeartbeats 4000000 in
theorem zr_X3_workOf_0 {C : zCa} {post : zPo} {X : zX} (hX : zClosed none C post nX3_workOf X) (p0 : Int32) (p1 : Int32) (p2 : Int32) (σ : zS) (h : ((p0 : Int32) = 0 → (post (some (.int (4 * p1))) σ)) ∧ (¬ (p0 : Int32) = 0 → ((p0 : Int32) = 1 → (post (some (.int (p1 + (2 * p2)))) σ)) ∧ (¬ (p0 : Int32) = 1 → ¬ (2 : Int32) = 0 ∧ (post (some (.int ((p1 / 2) + p2))) σ)))) : X 0 [some (.int p0), some (.int p1), some (.int p2)] [] σ := zSeq_ok hX zm_X3_workOf zo_X3_workOf_0 0 0 _ _ _ zk_X3_workOf_0 h
theorem ze_X3_workOf {d : Nat} {post : zPo} (p0 : Int32) (p1 : Int32) (p2 : Int32) (σ : zS) (h : ∀ X : zX, zClosed none (zCall d) post nX3_workOf X → X 0 [some (.int p0), some (.int p1), some (.int p2)] [] σ) : zCall (d + 1) nX3_workOf [.int p0, .int p1, .int p2] σ post := h
-- X3_weighWorks(16, 1) depth 2
def zo_X3_weighWorks_0 : List zOp := [(.iconst 0, 1, 0, 0, 0, 0, 0, 0, 0, []), (.istore_n 2, 2, 2, 0, 0, 0, 0, 0, 0, [])]
set_option maxRecDepth 100000 in
theorem zk_X3_weighWorks_0 : zOks nX3_weighWorks zo_X3_weighWorks_0 0 = true := by decide +kernel
def zo_X3_weighWorks_2 : List zOp := [(.iload_n 2, 3, 2, 0, 0, 0, 0, 0, 0, []), (.aload_n 0, 4, 0, 0, 0, 0, 0, 0, 0, []), (.getfield 39, 7, 3, 0, 1, 0, 236, 0, 0, []), (.if_icmp .ge 44, 10, 51, 0, 0, 0, 0, 0, 0, []), (.aload_n 0, 11, 0, 0, 0, 0, 0, 0, 0, []), (.getfield 24, 14, 3, 7, 0, 0, 257, 0, 0, []), (.iload_n 2, 15, 2, 0, 0, 0, 0, 0, 0, []), (.aload_n 0, 16, 0, 0, 0, 0, 0, 0, 0, []), (.getfield 9, 19, 3, 3, 0, 0, 245, 0, 0, []), (.iload_n 2, 20, 2, 0, 0, 0, 0, 0, 0, []), (.invokestatic 80, 23, 126, 2, 1, 0, 545, 0, 0, []), (.aload_n 1, 24, 1, 0, 0, 0, 0, 0, 0, []), (.getfield 92, 27, 0, 1, 0, 0, 105, 0, 0, []), (.iload_n 2, 28, 2, 0, 0, 0, 0, 0, 0, []), (.invokestatic 80, 31, 126, 2, 1, 0, 545, 0, 0, []), (.aload_n 1, 32, 1, 0, 0, 0, 0, 0, 0, []), (.getfield 95, 35, 0, 2, 0, 0, 108, 0, 0, []), (.iload_n 2, 36, 2, 0, 0, 0, 0, 0, 0, []), (.invokestatic 80, 39, 126, 2, 1, 0, 545, 0, 0, []), (.invokestatic 98, 42, 32, 3, 1, 0, 565, 0, 0, []), (.invokestatic 76, 45, 128, 3, 0, 0, 540, 0, 0, []), (.iinc 2 1, 48, 2, 0, 0, 0, 0, 1, 0, []), (.goto (-46), 51, 2, 0, 0, 0, 0, 0, 0, []), (.return_, 52, 0, 0, 0, 0, 0, 0, 0, [])]
set_option maxRecDepth 100000 in
theorem zk_X3_weighWorks_2 : zOks nX3_weighWorks zo_X3_weighWorks_2 2 = true := by decide +kernel
def zm_X3_weighWorks : List (Nat × List Bool) := [(0, [true, true, false]), (2, [true, true, true])]
set_option maxRecDepth 100000 in
set_option maxHeartbeats 4000000 in
theorem zr_X3_weighWorks_0 {C : zCa} {post : zPo} {X : zX} (hX : zClosed none C post nX3_weighWorks X) (σ : zS) (h : X 2 [some (.ref 16), some (.ref 1), some (.int 0)] [] σ) : X 0 [some (.ref 16), some (.ref 1), none] [] σ := zSeq_ok hX zm_X3_weighWorks zo_X3_weighWorks_0 0 0 _ _ _ zk_X3_weighWorks_0 h
set_option maxRecDepth 100000 in
set_option maxHeartbeats 4000000 in
theorem zr_X3_weighWorks_2 {C : zCa} {post : zPo} {X : zX} (hX : zClosed none C post nX3_weighWorks X) (v2 : Int32) (σ : zS) (h : zIf ((v2 : Int32) < (σ.1 16 0)) (C nX11_at [.ref 17, .int v2] σ (zPI fun x2 σ1 => C nX11_at [.ref 2, .int v2] σ1 (zPI fun x4 σ3 => C nX11_at [.ref 3, .int v2] σ3 (zPI fun x6 σ5 => C nX3_workOf [.int x2, .int x4, .int x6] σ5 (zPI fun x8 σ7 => C nX11_put [.ref 21, .int v2, .int x8] σ7 (zPV fun σ9 => X 2 [some (.ref 16), some (.ref 1), some (.int (v2 + 1))] [] σ9)))))) (post none σ)) : X 2 [some (.ref 16), some (.ref 1), some (.int v2)] [] σ := zSeq_ok hX zm_X3_weighWorks zo_X3_weighWorks_2 2 2 _ _ _ zk_X3_weighWorks_2 h
theorem ze_X3_weighWorks {d : Nat} {post : zPo} (σ : zS) (h : ∀ X : zX, zClosed none (zCall d) post nX3_weighWorks X → X 0 [some (.ref 16), some (.ref 1), none] [] σ) : zCall (d + 1) nX3_weighWorks [.ref 16, .ref 1] σ post := h
-- X3_arrange(16, 1, 4) depth 4
def zo_X3_arrange_0 : List zOp := [(.aload_n 0, 1, 0, 0, 0, 0, 0, 0, 0, []), (.aload_n 1, 2, 1, 0, 0, 0, 0, 0, 0, []), (.getfield 33, 5, 0, 0, 1, 0, 99, 0, 0, []), (.putfield 39, 8, 3, 0, 1, 0, 236, 0, 0, []), (.aload_n 0, 9, 0, 0, 0, 0, 0, 0, 0, []), (.aload_n 1, 10, 1, 0, 0, 0, 0, 0, 0, []), (.aload_n 2, 11, 2, 0, 0, 0, 0, 0, 0, []), (.getfield 40, 14, 8, 0, 1, 0, 125, 0, 0, []), (.invokevirtual 45, 17, 25, 3, 0, 3, 531, 0, 0, []), (.aload_n 0, 18, 0, 0, 0, 0, 0, 0, 0, []), (.invokevirtual 49, 21, 26, 1, 0, 3, 541, 0, 0, []), (.aload_n 0, 22, 0, 0, 0, 0, 0, 0, 0, []), (.aload_n 2, 23, 2, 0, 0, 0, 0, 0, 0, []), (.getfield 52, 26, 8, 1, 1, 0, 128, 0, 0, []), (.invokevirtual 55, 29, 27, 2, 0, 3, 546, 0, 0, []), (.aload_n 0, 30, 0, 0, 0, 0, 0, 0, 0, []), (.invokevirtual 59, 33, 29, 1, 0, 3, 553, 0, 0, []), (.aload_n 0, 34, 0, 0, 0, 0, 0, 0, 0, []), (.aload_n 1, 35, 1, 0, 0, 0, 0, 0, 0, []), (.invokevirtual 62, 38, 31, 2, 0, 3, 561, 0, 0, []), (.return_, 39, 0, 0, 0, 0, 0, 0, 0, [])]
set_option maxRecDepth 100000 in
theorem zk_X3_arrange_0 : zOks nX3_arrange zo_X3_arrange_0 0 = true := by decide +kernel
def zm_X3_arrange : List (Nat × List Bool) := [(0, [true, true, true])]
set_option maxRecDepth 100000 in
set_option maxHeartbeats 4000000 in
theorem zr_X3_arrange_0 {C : zCa} {post : zPo} {X : zX} (hX : zClosed none C post nX3_arrange X) (σ : zS) (h : C nX3_findStarts [.ref 16, .ref 1, .int ((zSI σ 16 0 (σ.1 1 0)).1 4 0)] (zSI σ 16 0 (σ.1 1 0)) (zPV fun σ1 => C nX3_measureGroups [.ref 16] σ1 (zPV fun σ2 => C nX3_chooseTypes [.ref 16, .int (σ2.1 4 1)] σ2 (zPV fun σ3 => C nX3_putInOrder [.ref 16] σ3 (zPV fun σ4 => C nX3_weighWorks [.ref 16, .ref 1] σ4 (zPV fun σ5 => post none σ5)))))) : X 0 [some (.ref 16), some (.ref 1), some (.ref 4)] [] σ := zSeq_ok hX zm_X3_arrange zo_X3_arrange_0 0 0 _ _ _ zk_X3_arrange_0 h
theorem ze_X3_arrange {d : Nat} {post : zPo} (σ : zS) (h : ∀ X : zX, zClosed none (zCall d) post nX3_arrange X → X 0 [some (.ref 16), some (.ref 1), some (.ref 4)] [] σ) : zCall (d + 1) nX3_arrange [.ref 16, .ref 1, .ref 4] σ post := h
-- X1_begin(26,) depth 1
def zo_X1_begin_0 : List zOp := [(.aload_n 0, 1, 0, 0, 0, 0, 0, 0, 0, []), (.iload_n 1, 2, 1, 0, 0, 0, 0, 0, 0, []), (.putfield 95, 5, 1, 7, 1, 0, 341, 0, 0, []), (.aload_n 0, 6, 0, 0, 0, 0, 0, 0, 0, []), (.iload_n 3, 7, 3, 0, 0, 0, 0, 0, 0, []), (.putfield 96, 10, 1, 8, 1, 0, 342, 0, 0, []), (.aload_n 0, 11, 0, 0, 0, 0, 0, 0, 0, []), (.iload_n 1, 12, 1, 0, 0, 0, 0, 0, 0, []), (.iload_n 2, 13, 2, 0, 0, 0, 0, 0, 0, []), (.imul, 14, 0, 0, 0, 0, 0, 0, 0, []), (.bipush 100, 16, 0, 0, 0, 0, 0, 100, 0, []), (.idiv, 17, 0, 0, 0, 0, 0, 0, 0, []), (.putfield 97, 20, 1, 9, 1, 0, 343, 0, 0, []), (.aload_n 0, 21, 0, 0, 0, 0, 0, 0, 0, []), (.iconst 0, 22, 0, 0, 0, 0, 0, 0, 0, []), (.putfield 100, 25, 1, 0, 1, 0, 324, 0, 0, []), (.return_, 26, 0, 0, 0, 0, 0, 0, 0, [])]
set_option maxRecDepth 100000 in
theorem zk_X1_begin_0 : zOks nX1_begin zo_X1_begin_0 0 = true := by decide +kernel
def zm_X1_begin : List (Nat × List Bool) := [(0, [true, true, true, true])]
set_option maxRecDepth 100000 in
set_option maxHeartbeats 4000000 in
theorem zr_X1_begin_0 {C : zCa} {post : zPo} {X : zX} (hX : zClosed none C post nX1_begin X) (p0 : Int32) (p1 : Int32) (p2 : Int32) (σ : zS) (h : ¬ (100 : Int32) = 0 ∧ (post none (zSI (zSI (zSI (zSI σ 26 7 p0) 26 8 p2) 26 9 ((p0 * p1) / 100)) 26 0 0))) : X 0 [some (.ref 26), some (.int p0), some (.int p1), some (.int p2)] [] σ := zSeq_ok hX zm_X1_begin zo_X1_begin_0 0 0 _ _ _ zk_X1_begin_0 h
theorem ze_X1_begin {d : Nat} {post : zPo} (p0 : Int32) (p1 : Int32) (p2 : Int32) (σ : zS) (h : ∀ X : zX, zClosed none (zCall d) post nX1_begin X → X 0 [some (.ref 26), some (.int p0), some (.int p1), some (.int p2)] [] σ) : zCall (d + 1) nX1_begin [.ref 26, .int p0, .int p1, .int p2] σ post := h
-- X1_fillBefore(26,) depth 2
def zo_X1_fillBefore_0 : List zOp := [(.iload_n 1, 1, 1, 0, 0, 0, 0, 0, 0, []), (.ifCond .ne 10, 4, 11, 0, 0, 0, 0, 0, 0, []), (.aload_n 0, 5, 0, 0, 0, 0, 0, 0, 0, []), (.getfield 97, 8, 1, 9, 1, 0, 343, 0, 0, []), (.goto 12, 11, 20, 0, 0, 0, 0, 0, 0, []), (.aload_n 0, 12, 0, 0, 0, 0, 0, 0, 0, []), (.getfield 97, 15, 1, 9, 1, 0, 343, 0, 0, []), (.aload_n 0, 16, 0, 0, 0, 0, 0, 0, 0, []), (.getfield 96, 19, 1, 8, 1, 0, 342, 0, 0, []), (.iadd, 20, 0, 0, 0, 0, 0, 0, 0, []), (.istore_n 2, 21, 2, 0, 0, 0, 0, 0, 0, []), (.aload_n 0, 22, 0, 0, 0, 0, 0, 0, 0, []), (.iload_n 2, 23, 2, 0, 0, 0, 0, 0, 0, []), (.aload_n 0, 24, 0, 0, 0, 0, 0, 0, 0, []), (.getfield 95, 27, 1, 7, 1, 0, 341, 0, 0, []), (.invokestatic 103, 30, 0, 0, 0, 2, 770, 0, 0, []), (.putfield 97, 33, 1, 9, 1, 0, 343, 0, 0, []), (.aload_n 0, 34, 0, 0, 0, 0, 0, 0, 0, []), (.getfield 15, 37, 1, 2, 0, 0, 332, 0, 0, []), (.iload_n 1, 38, 1, 0, 0, 0, 0, 0, 0, []), (.aload_n 0, 39, 0, 0, 0, 0, 0, 0, 0, []), (.getfield 97, 42, 1, 9, 1, 0, 343, 0, 0, []), (.invokestatic 61, 45, 128, 3, 0, 0, 753, 0, 0, []), (.aload_n 0, 46, 0, 0, 0, 0, 0, 0, 0, []), (.getfield 24, 49, 1, 5, 0, 0, 338, 0, 0, []), (.iload_n 1, 50, 1, 0, 0, 0, 0, 0, 0, []), (.iload_n 2, 51, 2, 0, 0, 0, 0, 0, 0, []), (.aload_n 0, 52, 0, 0, 0, 0, 0, 0, 0, []), (.getfield 97, 55, 1, 9, 1, 0, 343, 0, 0, []), (.isub, 56, 0, 0, 0, 0, 0, 0, 0, []), (.invokestatic 61, 59, 128, 3, 0, 0, 753, 0, 0, []), (.aload_n 0, 60, 0, 0, 0, 0, 0, 0, 0, []), (.getfield 97, 63, 1, 9, 1, 0, 343, 0, 0, []), (.ireturn, 64, 0, 0, 0, 0, 0, 0, 0, [])]
set_option maxRecDepth 100000 in
theorem zk_X1_fillBefore_0 : zOks nX1_fillBefore zo_X1_fillBefore_0 0 = true := by decide +kernel
def zm_X1_fillBefore : List (Nat × List Bool) := [(0, [true, true, false])]
set_option maxRecDepth 100000 in
set_option maxHeartbeats 4000000 in
theorem zr_X1_fillBefore_0 {C : zCa} {post : zPo} {X : zX} (hX : zClosed none C post nX1_fillBefore X) (p0 : Int32) (σ : zS) (h : zIf ((p0 : Int32) = 0) (C nX11_put [.ref 28, .int p0, .int ((zSI σ 26 9 (if ((σ.1 26 7 : Int32) < (σ.1 26 9)) then σ.1 26 7 else σ.1 26 9)).1 26 9)] (zSI σ 26 9 (if ((σ.1 26 7 : Int32) < (σ.1 26 9)) then σ.1 26 7 else σ.1 26 9)) (zPV fun σ1 => C nX11_put [.ref 31, .int p0, .int ((σ.1 26 9) - (σ1.1 26 9))] σ1 (zPV fun σ2 => post (some (.int (σ2.1 26 9))) σ2))) (C nX11_put [.ref 28, .int p0, .int ((zSI σ 26 9 (if ((σ.1 26 7 : Int32) < ((σ.1 26 9) + (σ.1 26 8))) then σ.1 26 7 else (σ.1 26 9) + (σ.1 26 8))).1 26 9)] (zSI σ 26 9 (if ((σ.1 26 7 : Int32) < ((σ.1 26 9) + (σ.1 26 8))) then σ.1 26 7 else (σ.1 26 9) + (σ.1 26 8))) (zPV fun σ3 => C nX11_put [.ref 31, .int p0, .int (((σ.1 26 9) + (σ.1 26 8)) - (σ3.1 26 9))] σ3 (zPV fun σ4 => post (some (.int (σ4.1 26 9))) σ4)))) : X 0 [some (.ref 26), some (.int p0), none] [] σ := zSeq_ok hX zm_X1_fillBefore zo_X1_fillBefore_0 0 0 _ _ _ zk_X1_fillBefore_0 h
theorem ze_X1_fillBefore {d : Nat} {post : zPo} (p0 : Int32) (σ : zS) (h : ∀ X : zX, zClosed none (zCall d) post nX1_fillBefore X → X 0 [some (.ref 26), some (.int p0), none] [] σ) : zCall (d + 1) nX1_fillBefore [.ref 26, .int p0] σ post := h
-- X1_takeOut(26,) depth 2
def zo_X1_takeOut_0 : List zOp := [(.iconst 0, 1, 0, 0, 0, 0, 0, 0, 0, []), (.iload_n 2, 2, 2, 0, 0, 0, 0, 0, 0, []), (.aload_n 0, 3, 0, 0, 0, 0, 0, 0, 0, []), (.getfield 97, 6, 1, 9, 1, 0, 343, 0, 0, []), (.isub, 7, 0, 0, 0, 0, 0, 0, 0, []), (.invokestatic 108, 10, 0, 0, 0, 1, 775, 0, 0, []), (.istore_n 3, 11, 3, 0, 0, 0, 0, 0, 0, []), (.iload_n 3, 12, 3, 0, 0, 0, 0, 0, 0, []), (.ifCond .le 13, 15, 25, 0, 0, 0, 0, 0, 0, []), (.aload_n 0, 16, 0, 0, 0, 0, 0, 0, 0, []), (.dup, 17, 0, 0, 0, 0, 0, 0, 0, []), (.getfield 100, 20, 1, 0, 1, 0, 324, 0, 0, []), (.iconst 1, 21, 0, 0, 0, 0, 0, 1, 0, []), (.iadd, 22, 0, 0, 0, 0, 0, 0, 0, []), (.putfield 100, 25, 1, 0, 1, 0, 324, 0, 0, []), (.aload_n 0, 26, 0, 0, 0, 0, 0, 0, 0, []), (.iconst 0, 27, 0, 0, 0, 0, 0, 0, 0, []), (.aload_n 0, 28, 0, 0, 0, 0, 0, 0, 0, []), (.getfield 97, 31, 1, 9, 1, 0, 343, 0, 0, []), (.iload_n 2, 32, 2, 0, 0, 0, 0, 0, 0, []), (.isub, 33, 0, 0, 0, 0, 0, 0, 0, []), (.invokestatic 108, 36, 0, 0, 0, 1, 775, 0, 0, []), (.putfield 97, 39, 1, 9, 1, 0, 343, 0, 0, []), (.aload_n 0, 40, 0, 0, 0, 0, 0, 0, 0, []), (.getfield 21, 43, 1, 4, 0, 0, 336, 0, 0, []), (.iload_n 1, 44, 1, 0, 0, 0, 0, 0, 0, []), (.iload_n 3, 45, 3, 0, 0, 0, 0, 0, 0, []), (.invokestatic 61, 48, 128, 3, 0, 0, 753, 0, 0, []), (.aload_n 0, 49, 0, 0, 0, 0, 0, 0, 0, []), (.getfield 18, 52, 1, 3, 0, 0, 334, 0, 0, []), (.iload_n 1, 53, 1, 0, 0, 0, 0, 0, 0, []), (.aload_n 0, 54, 0, 0, 0, 0, 0, 0, 0, []), (.getfield 97, 57, 1, 9, 1, 0, 343, 0, 0, []), (.invokestatic 61, 60, 128, 3, 0, 0, 753, 0, 0, []), (.return_, 61, 0, 0, 0, 0, 0, 0, 0, [])]
set_option maxRecDepth 100000 in
theorem zk_X1_takeOut_0 : zOks nX1_takeOut zo_X1_takeOut_0 0 = true := by decide +kernel
def zm_X1_takeOut : List (Nat × List Bool) := [(0, [true, true, true, false])]
set_option maxRecDepth 100000 in
set_option maxHeartbeats 4000000 in
theorem zr_X1_takeOut_0 {C : zCa} {post : zPo} {X : zX} (hX : zClosed none C post nX1_takeOut X) (p0 : Int32) (p1 : Int32) (σ : zS) (h : zIf ((if ((0 : Int32) < (p1 - (σ.1 26 9))) then p1 - (σ.1 26 9) else 0 : Int32) ≤ 0) (C nX11_put [.ref 30, .int p0, .int (if ((0 : Int32) < (p1 - (σ.1 26 9))) then p1 - (σ.1 26 9) else 0)] (zSI σ 26 9 (if ((0 : Int32) < ((σ.1 26 9) - p1)) then (σ.1 26 9) - p1 else 0)) (zPV fun σ1 => C nX11_put [.ref 29, .int p0, .int (σ1.1 26 9)] σ1 (zPV fun σ2 => post none σ2))) (C nX11_put [.ref 30, .int p0, .int (if ((0 : Int32) < (p1 - (σ.1 26 9))) then p1 - (σ.1 26 9) else 0)] (zSI (zSI σ 26 0 ((σ.1 26 0) + 1)) 26 9 (if ((0 : Int32) < (((zSI σ 26 0 ((σ.1 26 0) + 1)).1 26 9) - p1)) then ((zSI σ 26 0 ((σ.1 26 0) + 1)).1 26 9) - p1 else 0)) (zPV fun σ3 => C nX11_put [.ref 29, .int p0, .int (σ3.1 26 9)] σ3 (zPV fun σ4 => post none σ4)))) : X 0 [some (.ref 26), some (.int p0), some (.int p1), none] [] σ := zSeq_ok hX zm_X1_takeOut zo_X1_takeOut_0 0 0 _ _ _ zk_X1_takeOut_0 h
theorem ze_X1_takeOut {d : Nat} {post : zPo} (p0 : Int32) (p1 : Int32) (σ : zS) (h : ∀ X : zX, zClosed none (zCall d) post nX1_takeOut X → X 0 [some (.ref 26), some (.int p0), some (.int p1), none] [] σ) : zCall (d + 1) nX1_takeOut [.ref 26, .int p0, .int p1] σ post := h
-- X1_pass(26,) depth 3
def zo_X1_pass_0 : List zOp := [(.aload_n 0, 1, 0, 0, 0, 0, 0, 0, 0, []), (.iload_n 1, 2, 1, 0, 0, 0, 0, 0, 0, []), (.iload_n 2, 3, 2, 0, 0, 0, 0, 0, 0, []), (.iload_n 3, 4, 3, 0, 0, 0, 0, 0, 0, []), (.invokevirtual 84, 7, 9, 4, 0, 1, 762, 0, 0, []), (.iconst 0, 8, 0, 0, 0, 0, 0, 0, 0, []), (.istore 4, 10, 4, 0, 0, 0, 0, 0, 0, [])]
set_option maxRecDepth 100000 in
theorem zk_X1_pass_0 : zOks nX1_pass zo_X1_pass_0 0 = true := by decide +kernel
def zo_X1_pass_10 : List zOp := [(.iload 4, 12, 4, 0, 0, 0, 0, 0, 0, []), (.aload_n 0, 13, 0, 0, 0, 0, 0, 0, 0, []), (.getfield 27, 16, 1, 6, 0, 0, 340, 0, 0, []), (.getfield 38, 19, 6, 0, 0, 0, 304, 0, 0, []), (.getfield 44, 22, 3, 0, 1, 0, 239, 0, 0, []), (.if_icmp .ge 31, 25, 53, 0, 0, 0, 0, 0, 0, []), (.aload_n 0, 26, 0, 0, 0, 0, 0, 0, 0, []), (.iload 4, 28, 4, 0, 0, 0, 0, 0, 0, []), (.invokevirtual 87, 31, 10, 2, 1, 1, 766, 0, 0, []), (.pop, 32, 0, 0, 0, 0, 0, 0, 0, []), (.aload_n 0, 33, 0, 0, 0, 0, 0, 0, 0, []), (.iload 4, 35, 4, 0, 0, 0, 0, 0, 0, []), (.aload_n 0, 36, 0, 0, 0, 0, 0, 0, 0, []), (.getfield 9, 39, 1, 1, 0, 0, 328, 0, 0, []), (.iload 4, 41, 4, 0, 0, 0, 0, 0, 0, []), (.invokestatic 53, 44, 126, 2, 1, 0, 751, 0, 0, []), (.invokevirtual 91, 47, 11, 3, 0, 1, 771, 0, 0, []), (.iinc 4 1, 50, 4, 0, 0, 0, 0, 1, 0, []), (.goto (-40), 53, 10, 0, 0, 0, 0, 0, 0, []), (.return_, 54, 0, 0, 0, 0, 0, 0, 0, [])]
set_option maxRecDepth 100000 in
theorem zk_X1_pass_10 : zOks nX1_pass zo_X1_pass_10 10 = true := by decide +kernel
def zm_X1_pass : List (Nat × List Bool) := [(0, [true, true, true, true, false]), (10, [true, false, false, false, true])]
set_option maxRecDepth 100000 in
set_option maxHeartbeats 4000000 in
theorem zr_X1_pass_0 {C : zCa} {post : zPo} {X : zX} (hX : zClosed none C post nX1_pass X) (p0 : Int32) (p1 : Int32) (p2 : Int32) (σ : zS) (h : C nX1_begin [.ref 26, .int p0, .int p1, .int p2] σ (zPV fun σ1 => X 10 [some (.ref 26), none, none, none, some (.int 0)] [] σ1)) : X 0 [some (.ref 26), some (.int p0), some (.int p1), some (.int p2), none] [] σ := zSeq_ok hX zm_X1_pass zo_X1_pass_0 0 0 _ _ _ zk_X1_pass_0 h
set_option maxRecDepth 100000 in
set_option maxHeartbeats 4000000 in
theorem zr_X1_pass_10 {C : zCa} {post : zPo} {X : zX} (hX : zClosed none C post nX1_pass X) (v4 : Int32) (σ : zS) (h : zIf ((v4 : Int32) < (σ.1 16 0)) (C nX1_fillBefore [.ref 26, .int v4] σ (zPI fun x2 σ1 => C nX11_at [.ref 27, .int v4] σ1 (zPI fun x4 σ3 => C nX1_takeOut [.ref 26, .int v4, .int x4] σ3 (zPV fun σ5 => X 10 [some (.ref 26), none, none, none, some (.int (v4 + 1))] [] σ5)))) (post none σ)) : X 10 [some (.ref 26), none, none, none, some (.int v4)] [] σ := zSeq_ok hX zm_X1_pass zo_X1_pass_10 10 10 _ _ _ zk_X1_pass_10 h
theorem ze_X1_pass {d : Nat} {post : zPo} (p0 : Int32) (p1 : Int32) (p2 : Int32) (σ : zS) (h : ∀ X : zX, zClosed none (zCall d) post nX1_pass X → X 0 [some (.ref 26), some (.int p0), some (.int p1), some (.int p2), none] [] σ) : zCall (d + 1) nX1_pass [.ref 26, .int p0, .int p1, .int p2] σ post := h
-- X1_passAsSet(26,) depth 4
def zo_X1_passAsSet_0 : List zOp := [(.aload_n 0, 1, 0, 0, 0, 0, 0, 0, 0, []), (.aload_n 0, 2, 0, 0, 0, 0, 0, 0, 0, []), (.getfield 27, 5, 1, 6, 0, 0, 340, 0, 0, []), (.getfield 65, 8, 6, 1, 0, 0, 309, 0, 0, []), (.getfield 69, 11, 8, 4, 1, 0, 140, 0, 0, []), (.aload_n 0, 12, 0, 0, 0, 0, 0, 0, 0, []), (.getfield 27, 15, 1, 6, 0, 0, 340, 0, 0, []), (.getfield 65, 18, 6, 1, 0, 0, 309, 0, 0, []), (.getfield 74, 21, 8, 5, 1, 0, 145, 0, 0, []), (.aload_n 0, 22, 0, 0, 0, 0, 0, 0, 0, []), (.getfield 27, 25, 1, 6, 0, 0, 340, 0, 0, []), (.getfield 65, 28, 6, 1, 0, 0, 309, 0, 0, []), (.getfield 77, 31, 8, 6, 1, 0, 150, 0, 0, []), (.invokevirtual 80, 34, 8, 4, 0, 1, 758, 0, 0, []), (.return_, 35, 0, 0, 0, 0, 0, 0, 0, [])]
set_option maxRecDepth 100000 in
theorem zk_X1_passAsSet_0 : zOks nX1_passAsSet zo_X1_passAsSet_0 0 = true := by decide +kernel
def zm_X1_passAsSet : List (Nat × List Bool) := [(0, [true])]
set_option maxRecDepth 100000 in
set_option maxHeartbeats 4000000 in
theorem zr_X1_passAsSet_0 {C : zCa} {post : zPo} {X : zX} (hX : zClosed none C post nX1_passAsSet X) (σ : zS) (h : C nX1_pass [.ref 26, .int (σ.1 4 4), .int (σ.1 4 5), .int (σ.1 4 6)] σ (zPV fun σ1 => post none σ1)) : X 0 [some (.ref 26)] [] σ := zSeq_ok hX zm_X1_passAsSet zo_X1_passAsSet_0 0 0 _ _ _ zk_X1_passAsSet_0 h
theorem ze_X1_passAsSet {d : Nat} {post : zPo} (σ : zS) (h : ∀ X : zX, zClosed none (zCall d) post nX1_passAsSet X → X 0 [some (.ref 26)] [] σ) : zCall (d + 1) nX1_passAsSet [.ref 26] σ post := h
-- X6_bitsOf(24,) depth 2
def zo_X6_bitsOf_0 : List zOp := [(.bipush 40, 2, 0, 0, 0, 0, 0, 40, 0, []), (.aload_n 0, 3, 0, 0, 0, 0, 0, 0, 0, []), (.getfield 15, 6, 6, 0, 0, 0, 300, 0, 0, []), (.getfield 30, 9, 3, 7, 0, 0, 258, 0, 0, []), (.iload_n 1, 10, 1, 0, 0, 0, 0, 0, 0, []), (.invokestatic 26, 13, 126, 2, 1, 0, 297, 0, 0, []), (.sipush 200, 16, 0, 0, 0, 0, 0, 200, 0, []), (.imul, 17, 0, 0, 0, 0, 0, 0, 0, []), (.i2l, 18, 0, 0, 0, 0, 0, 0, 0, []), (.aload_n 0, 19, 0, 0, 0, 0, 0, 0, 0, []), (.getfield 9, 22, 6, 2, 0, 0, 310, 0, 0, []), (.iload_n 2, 23, 2, 0, 0, 0, 0, 0, 0, []), (.invokestatic 26, 26, 126, 2, 1, 0, 297, 0, 0, []), (.i2l, 27, 0, 0, 0, 0, 0, 0, 0, []), (.invokestatic 35, 30, 131, 2, 2, 0, 698, 0, 0, []), (.l2i, 31, 0, 0, 0, 0, 0, 0, 0, []), (.iadd, 32, 0, 0, 0, 0, 0, 0, 0, []), (.ireturn, 33, 0, 0, 0, 0, 0, 0, 0, [])]
set_option maxRecDepth 100000 in
theorem zk_X6_bitsOf_0 : zOks nX6_bitsOf zo_X6_bitsOf_0 0 = true := by decide +kernel
def zm_X6_bitsOf : List (Nat × List Bool) := [(0, [true, true, true])]
set_option maxRecDepth 100000 in
set_option maxHeartbeats 4000000 in
theorem zr_X6_bitsOf_0 {C : zCa} {post : zPo} {X : zX} (hX : zClosed none C post nX6_bitsOf X) (p0 : Int32) (p1 : Int32) (σ : zS) (h : C nX11_at [.ref 21, .int p0] σ (zPI fun x2 σ1 => C nX11_at [.ref 25, .int p1] σ1 (zPI fun x4 σ3 => C nX11_ratio [.long (Int32.toInt64 (x2 * 200)), .long (Int32.toInt64 x4)] σ3 (zPJ fun x6 σ5 => post (some (.int (40 + (Int64.toInt32 x6)))) σ5)))) : X 0 [some (.ref 24), some (.int p0), some (.int p1)] [] σ := zSeq_ok hX zm_X6_bitsOf zo_X6_bitsOf_0 0 0 _ _ _ zk_X6_bitsOf_0 h
theorem ze_X6_bitsOf {d : Nat} {post : zPo} (p0 : Int32) (p1 : Int32) (σ : zS) (h : ∀ X : zX, zClosed none (zCall d) post nX6_bitsOf X → X 0 [some (.ref 24), some (.int p0), some (.int p1)] [] σ) : zCall (d + 1) nX6_bitsOf [.ref 24, .int p0, .int p1] σ post := h
-- X1_takeBits(26, None) depth 3
def zo_X1_takeBits_0 : List zOp := [(.iconst 0, 1, 0, 0, 0, 0, 0, 0, 0, []), (.istore_n 2, 2, 2, 0, 0, 0, 0, 0, 0, [])]
set_option maxRecDepth 100000 in
theorem zk_X1_takeBits_0 : zOks nX1_takeBits zo_X1_takeBits_0 0 = true := by decide +kernel
def zo_X1_takeBits_2 : List zOp := [(.iload_n 2, 3, 2, 0, 0, 0, 0, 0, 0, []), (.aload_n 0, 4, 0, 0, 0, 0, 0, 0, 0, []), (.getfield 27, 7, 1, 6, 0, 0, 340, 0, 0, []), (.getfield 38, 10, 6, 0, 0, 0, 304, 0, 0, []), (.getfield 44, 13, 3, 0, 1, 0, 239, 0, 0, []), (.if_icmp .ge 45, 16, 58, 0, 0, 0, 0, 0, 0, []), (.aload_n 0, 17, 0, 0, 0, 0, 0, 0, 0, []), (.getfield 27, 20, 1, 6, 0, 0, 340, 0, 0, []), (.getfield 38, 23, 6, 0, 0, 0, 304, 0, 0, []), (.getfield 50, 26, 3, 9, 0, 0, 265, 0, 0, []), (.iload_n 2, 27, 2, 0, 0, 0, 0, 0, 0, []), (.invokestatic 53, 30, 126, 2, 1, 0, 751, 0, 0, []), (.istore_n 3, 31, 3, 0, 0, 0, 0, 0, 0, []), (.aload_n 0, 32, 0, 0, 0, 0, 0, 0, 0, []), (.getfield 9, 35, 1, 1, 0, 0, 328, 0, 0, []), (.iload_n 2, 36, 2, 0, 0, 0, 0, 0, 0, []), (.aload_n 0, 37, 0, 0, 0, 0, 0, 0, 0, []), (.getfield 27, 40, 1, 6, 0, 0, 340, 0, 0, []), (.iload_n 3, 41, 3, 0, 0, 0, 0, 0, 0, []), (.aload_n 1, 42, 1, 0, 0, 0, 0, 0, 0, []), (.iload_n 3, 43, 3, 0, 0, 0, 0, 0, 0, []), (.invokestatic 53, 46, 126, 2, 1, 0, 751, 0, 0, []), (.invokevirtual 57, 49, 57, 3, 1, 6, 752, 0, 0, []), (.invokestatic 61, 52, 128, 3, 0, 0, 753, 0, 0, []), (.iinc 2 1, 55, 2, 0, 0, 0, 0, 1, 0, []), (.goto (-53), 58, 2, 0, 0, 0, 0, 0, 0, []), (.return_, 59, 0, 0, 0, 0, 0, 0, 0, [])]
set_option maxRecDepth 100000 in
theorem zk_X1_takeBits_2 : zOks nX1_takeBits zo_X1_takeBits_2 2 = true := by decide +kernel
def zm_X1_takeBits : List (Nat × List Bool) := [(0, [true, true, false, false]), (2, [true, true, true, false])]
set_option maxRecDepth 100000 in
set_option maxHeartbeats 4000000 in
theorem zr_X1_takeBits_0 {C : zCa} {post : zPo} {X : zX} (hX : zClosed none C post nX1_takeBits X) (p0 : Nat) (σ : zS) (h : X 2 [some (.ref 26), some (.ref p0), some (.int 0), none] [] σ) : X 0 [some (.ref 26), some (.ref p0), none, none] [] σ := zSeq_ok hX zm_X1_takeBits zo_X1_takeBits_0 0 0 _ _ _ zk_X1_takeBits_0 h
set_option maxRecDepth 100000 in
set_option maxHeartbeats 4000000 in
theorem zr_X1_takeBits_2 {C : zCa} {post : zPo} {X : zX} (hX : zClosed none C post nX1_takeBits X) (p0 : Nat) (v2 : Int32) (σ : zS) (h : zIf ((v2 : Int32) < (σ.1 16 0)) (C nX11_at [.ref 23, .int v2] σ (zPI fun x2 σ1 => C nX11_at [.ref p0, .int x2] σ1 (zPI fun x4 σ3 => C nX6_bitsOf [.ref 24, .int x2, .int x4] σ3 (zPI fun x6 σ5 => C nX11_put [.ref 27, .int v2, .int x6] σ5 (zPV fun σ7 => X 2 [some (.ref 26), some (.ref p0), some (.int (v2 + 1)), none] [] σ7))))) (post none σ)) : X 2 [some (.ref 26), some (.ref p0), some (.int v2), none] [] σ := zSeq_ok hX zm_X1_takeBits zo_X1_takeBits_2 2 2 _ _ _ zk_X1_takeBits_2 h
theorem ze_X1_takeBits {d : Nat} {post : zPo} (p0 : Nat) (σ : zS) (h : ∀ X : zX, zClosed none (zCall d) post nX1_takeBits X → X 0 [some (.ref 26), some (.ref p0), none, none] [] σ) : zCall (d + 1) nX1_takeBits [.ref 26, .ref p0] σ post := h
-- X1_follow(26, None) depth 5
def zo_X1_follow_0 : List zOp := [(.aload_n 0, 1, 0, 0, 0, 0, 0, 0, 0, []), (.aload_n 1, 2, 1, 0, 0, 0, 0, 0, 0, []), (.invokevirtual 31, 5, 6, 2, 0, 1, 747, 0, 0, []), (.aload_n 0, 6, 0, 0, 0, 0, 0, 0, 0, []), (.invokevirtual 35, 9, 7, 1, 0, 1, 754, 0, 0, []), (.return_, 10, 0, 0, 0, 0, 0, 0, 0, [])]
set_option maxRecDepth 100000 in
theorem zk_X1_follow_0 : zOks nX1_follow zo_X1_follow_0 0 = true := by decide +kernel
def zm_X1_follow : List (Nat × List Bool) := [(0, [true, true])]
set_option maxRecDepth 100000 in
set_option maxHeartbeats 4000000 in
theorem zr_X1_follow_0 {C : zCa} {post : zPo} {X : zX} (hX : zClosed none C post nX1_follow X) (p0 : Nat) (σ : zS) (h : C nX1_takeBits [.ref 26, .ref p0] σ (zPV fun σ1 => C nX1_passAsSet [.ref 26] σ1 (zPV fun σ2 => post none σ2))) : X 0 [some (.ref 26), some (.ref p0)] [] σ := zSeq_ok hX zm_X1_follow zo_X1_follow_0 0 0 _ _ _ zk_X1_follow_0 h
theorem ze_X1_follow {d : Nat} {post : zPo} (p0 : Nat) (σ : zS) (h : ∀ X : zX, zClosed none (zCall d) post nX1_follow X → X 0 [some (.ref 26), some (.ref p0)] [] σ) : zCall (d + 1) nX1_follow [.ref 26, .ref p0] σ post := h
-- X4_offsetOf(32,) depth 2
def zo_X4_offsetOf_0 : List zOp := [(.aload_n 0, 1, 0, 0, 0, 0, 0, 0, 0, []), (.getfield 30, 4, 4, 2, 0, 0, 373, 0, 0, []), (.getfield 91, 7, 3, 3, 0, 0, 247, 0, 0, []), (.iload_n 1, 8, 1, 0, 0, 0, 0, 0, 0, []), (.invokestatic 73, 11, 126, 2, 1, 0, 725, 0, 0, []), (.lookupswitch 30 #[(0, 25), (1, 28)], 36, 41, 0, 0, 0, 0, 0, 0, [(0, 36), (1, 39)]), (.bipush (-3), 38, 0, 0, 0, 0, 0, (-3), 0, []), (.ireturn, 39, 0, 0, 0, 0, 0, 0, 0, []), (.iconst 0, 40, 0, 0, 0, 0, 0, 0, 0, []), (.ireturn, 41, 0, 0, 0, 0, 0, 0, 0, []), (.iconst 2, 42, 0, 0, 0, 0, 0, 2, 0, []), (.ireturn, 43, 0, 0, 0, 0, 0, 0, 0, [])]
set_option maxRecDepth 100000 in
theorem zk_X4_offsetOf_0 : zOks nX4_offsetOf zo_X4_offsetOf_0 0 = true := by decide +kernel
def zm_X4_offsetOf : List (Nat × List Bool) := [(0, [true, true])]
set_option maxRecDepth 100000 in
set_option maxHeartbeats 4000000 in
theorem zr_X4_offsetOf_0 {C : zCa} {post : zPo} {X : zX} (hX : zClosed none C post nX4_offsetOf X) (p0 : Int32) (σ : zS) (h : C nX11_at [.ref 17, .int p0] σ (zPI fun x2 σ1 => ((x2 : Int32) = 0 → (post (some (.int (-3))) σ1)) ∧ (¬ (x2 : Int32) = 0 → ((x2 : Int32) = 1 → (post (some (.int 0)) σ1)) ∧ (¬ (x2 : Int32) = 1 → post (some (.int 2)) σ1)))) : X 0 [some (.ref 32), some (.int p0)] [] σ := zSeq_ok hX zm_X4_offsetOf zo_X4_offsetOf_0 0 0 _ _ _ zk_X4_offsetOf_0 h
theorem ze_X4_offsetOf {d : Nat} {post : zPo} (p0 : Int32) (σ : zS) (h : ∀ X : zX, zClosed none (zCall d) post nX4_offsetOf X → X 0 [some (.ref 32), some (.int p0)] [] σ) : zCall (d + 1) nX4_offsetOf [.ref 32, .int p0] σ post := h
-- X8_settle(4,) depth 2
def zo_X8_settle_0 : List zOp := [(.iload_n 2, 1, 2, 0, 0, 0, 0, 0, 0, []), (.istore_n 3, 2, 3, 0, 0, 0, 0, 0, 0, []), (.iconst 0, 3, 0, 0, 0, 0, 0, 0, 0, []), (.istore 4, 5, 4, 0, 0, 0, 0, 0, 0, [])]
set_option maxRecDepth 100000 in
theorem zk_X8_settle_0 : zOks nX8_settle zo_X8_settle_0 0 = true := by decide +kernel
def zo_X8_settle_5 : List zOp := [(.iload 4, 7, 4, 0, 0, 0, 0, 0, 0, []), (.aload_n 0, 8, 0, 0, 0, 0, 0, 0, 0, []), (.getfield 47, 11, 8, 7, 1, 0, 153, 0, 0, []), (.if_icmp .ge 46, 14, 57, 0, 0, 0, 0, 0, 0, []), (.iload_n 1, 15, 1, 0, 0, 0, 0, 0, 0, []), (.aload_n 0, 16, 0, 0, 0, 0, 0, 0, 0, []), (.getfield 38, 19, 8, 9, 0, 0, 158, 0, 0, []), (.iload 4, 21, 4, 0, 0, 0, 0, 0, 0, []), (.invokestatic 54, 24, 126, 2, 1, 0, 730, 0, 0, []), (.aload_n 0, 25, 0, 0, 0, 0, 0, 0, 0, []), (.getfield 41, 28, 8, 10, 0, 0, 159, 0, 0, []), (.iload 4, 30, 4, 0, 0, 0, 0, 0, 0, []), (.invokestatic 54, 33, 126, 2, 1, 0, 730, 0, 0, []), (.invokestatic 58, 36, 124, 3, 1, 0, 731, 0, 0, []), (.ifCond .eq 15, 39, 51, 0, 0, 0, 0, 0, 0, []), (.iload_n 3, 40, 3, 0, 0, 0, 0, 0, 0, []), (.aload_n 0, 41, 0, 0, 0, 0, 0, 0, 0, []), (.getfield 44, 44, 8, 11, 0, 0, 160, 0, 0, []), (.iload 4, 46, 4, 0, 0, 0, 0, 0, 0, []), (.invokestatic 54, 49, 126, 2, 1, 0, 730, 0, 0, []), (.iadd, 50, 0, 0, 0, 0, 0, 0, 0, []), (.istore_n 3, 51, 3, 0, 0, 0, 0, 0, 0, []), (.iinc 4 1, 54, 4, 0, 0, 0, 0, 1, 0, []), (.goto (-49), 57, 5, 0, 0, 0, 0, 0, 0, []), (.iload_n 3, 58, 3, 0, 0, 0, 0, 0, 0, []), (.aload_n 0, 59, 0, 0, 0, 0, 0, 0, 0, []), (.getfield 18, 62, 8, 2, 1, 0, 130, 0, 0, []), (.aload_n 0, 63, 0, 0, 0, 0, 0, 0, 0, []), (.getfield 21, 66, 8, 3, 1, 0, 134, 0, 0, []), (.invokestatic 62, 69, 125, 3, 1, 0, 732, 0, 0, []), (.ireturn, 70, 0, 0, 0, 0, 0, 0, 0, [])]
set_option maxRecDepth 100000 in
theorem zk_X8_settle_5 : zOks nX8_settle zo_X8_settle_5 5 = true := by decide +kernel
def zm_X8_settle : List (Nat × List Bool) := [(0, [true, true, true, false, false]), (5, [true, true, false, true, true])]
set_option maxRecDepth 100000 in
set_option maxHeartbeats 4000000 in
theorem zr_X8_settle_0 {C : zCa} {post : zPo} {X : zX} (hX : zClosed none C post nX8_settle X) (p0 : Int32) (p1 : Int32) (σ : zS) (h : X 5 [some (.ref 4), some (.int p0), none, some (.int p1), some (.int 0)] [] σ) : X 0 [some (.ref 4), some (.int p0), some (.int p1), none, none] [] σ := zSeq_ok hX zm_X8_settle zo_X8_settle_0 0 0 _ _ _ zk_X8_settle_0 h
set_option maxRecDepth 100000 in
set_option maxHeartbeats 4000000 in
theorem zr_X8_settle_5 {C : zCa} {post : zPo} {X : zX} (hX : zClosed none C post nX8_settle X) (v1 : Int32) (v3 : Int32) (v4 : Int32) (σ : zS) (h : zIf ((v4 : Int32) < (σ.1 4 7)) (C nX11_at [.ref 6, .int v4] σ (zPI fun x2 σ1 => C nX11_at [.ref 7, .int v4] σ1 (zPI fun x4 σ3 => C nX11_within [.int v1, .int x2, .int x4] σ3 (zPI fun x6 σ5 => zIf ((x6 : Int32) = 0) (X 5 [some (.ref 4), some (.int v1), none, some (.int v3), some (.int (v4 + 1))] [] σ5) (C nX11_at [.ref 8, .int v4] σ5 (zPI fun x8 σ7 => X 5 [some (.ref 4), some (.int v1), none, some (.int (v3 + x8)), some (.int (v4 + 1))] [] σ7)))))) (C nX11_limit [.int v3, .int (σ.1 4 2), .int (σ.1 4 3)] σ (zPI fun x10 σ9 => post (some (.int x10)) σ9))) : X 5 [some (.ref 4), some (.int v1), none, some (.int v3), some (.int v4)] [] σ := zSeq_ok hX zm_X8_settle zo_X8_settle_5 5 5 _ _ _ zk_X8_settle_5 h
theorem ze_X8_settle {d : Nat} {post : zPo} (p0 : Int32) (p1 : Int32) (σ : zS) (h : ∀ X : zX, zClosed none (zCall d) post nX8_settle X → X 0 [some (.ref 4), some (.int p0), some (.int p1), none, none] [] σ) : zCall (d + 1) nX8_settle [.ref 4, .int p0, .int p1] σ post := h
-- X4_planConstant(32, None) depth 3
def zo_X4_planConstant_0 : List zOp := [(.iconst 0, 1, 0, 0, 0, 0, 0, 0, 0, []), (.istore_n 3, 2, 3, 0, 0, 0, 0, 0, 0, [])]
set_option maxRecDepth 100000 in
theorem zk_X4_planConstant_0 : zOks nX4_planConstant zo_X4_planConstant_0 0 = true := by decide +kernel
def zo_X4_planConstant_2 : List zOp := [(.iload_n 3, 3, 3, 0, 0, 0, 0, 0, 0, []), (.aload_n 0, 4, 0, 0, 0, 0, 0, 0, 0, []), (.getfield 30, 7, 4, 2, 0, 0, 373, 0, 0, []), (.getfield 35, 10, 3, 0, 1, 0, 237, 0, 0, []), (.if_icmp .ge 29, 13, 39, 0, 0, 0, 0, 0, 0, []), (.aload_n 1, 14, 1, 0, 0, 0, 0, 0, 0, []), (.iload_n 3, 15, 3, 0, 0, 0, 0, 0, 0, []), (.aload_n 0, 16, 0, 0, 0, 0, 0, 0, 0, []), (.getfield 25, 19, 4, 1, 0, 0, 372, 0, 0, []), (.iload_n 3, 20, 3, 0, 0, 0, 0, 0, 0, []), (.iload_n 2, 21, 2, 0, 0, 0, 0, 0, 0, []), (.aload_n 0, 22, 0, 0, 0, 0, 0, 0, 0, []), (.iload_n 3, 23, 3, 0, 0, 0, 0, 0, 0, []), (.invokevirtual 41, 26, 39, 2, 1, 4, 721, 0, 0, []), (.iadd, 27, 0, 0, 0, 0, 0, 0, 0, []), (.invokevirtual 45, 30, 64, 3, 1, 8, 726, 0, 0, []), (.invokestatic 51, 33, 128, 3, 0, 0, 738, 0, 0, []), (.iinc 3 1, 36, 3, 0, 0, 0, 0, 1, 0, []), (.goto (-34), 39, 2, 0, 0, 0, 0, 0, 0, []), (.return_, 40, 0, 0, 0, 0, 0, 0, 0, [])]
set_option maxRecDepth 100000 in
theorem zk_X4_planConstant_2 : zOks nX4_planConstant zo_X4_planConstant_2 2 = true := by decide +kernel
def zm_X4_planConstant : List (Nat × List Bool) := [(0, [true, true, true, false]), (2, [true, true, true, true])]
set_option maxRecDepth 100000 in
set_option maxHeartbeats 4000000 in
theorem zr_X4_planConstant_0 {C : zCa} {post : zPo} {X : zX} (hX : zClosed none C post nX4_planConstant X) (p0 : Nat) (p1 : Int32) (σ : zS) (h : X 2 [some (.ref 32), some (.ref p0), some (.int p1), some (.int 0)] [] σ) : X 0 [some (.ref 32), some (.ref p0), some (.int p1), none] [] σ := zSeq_ok hX zm_X4_planConstant zo_X4_planConstant_0 0 0 _ _ _ zk_X4_planConstant_0 h
set_option maxRecDepth 100000 in
set_option maxHeartbeats 4000000 in
theorem zr_X4_planConstant_2 {C : zCa} {post : zPo} {X : zX} (hX : zClosed none C post nX4_planConstant X) (p0 : Nat) (v2 : Int32) (v3 : Int32) (σ : zS) (h : zIf ((v3 : Int32) < (σ.1 16 0)) (C nX4_offsetOf [.ref 32, .int v3] σ (zPI fun x2 σ1 => C nX8_settle [.ref 4, .int v3, .int (v2 + x2)] σ1 (zPI fun x4 σ3 => C nX11_put [.ref p0, .int v3, .int x4] σ3 (zPV fun σ5 => X 2 [some (.ref 32), some (.ref p0), some (.int v2), some (.int (v3 + 1))] [] σ5)))) (post none σ)) : X 2 [some (.ref 32), some (.ref p0), some (.int v2), some (.int v3)] [] σ := zSeq_ok hX zm_X4_planConstant zo_X4_planConstant_2 2 2 _ _ _ zk_X4_planConstant_2 h
theorem ze_X4_planConstant {d : Nat} {post : zPo} (p0 : Nat) (p1 : Int32) (σ : zS) (h : ∀ X : zX, zClosed none (zCall d) post nX4_planConstant X → X 0 [some (.ref 32), some (.ref p0), some (.int p1), none] [] σ) : zCall (d + 1) nX4_planConstant [.ref 32, .ref p0, .int p1] σ post := h
-- X2_findConstant(39,) depth 6
def zo_X2_findConstant_0 : List zOp := [(.iconst 0, 1, 0, 0, 0, 0, 0, 0, 0, []), (.istore_n 1, 2, 1, 0, 0, 0, 0, 0, 0, [])]
set_option maxRecDepth 100000 in
theorem zk_X2_findConstant_0 : zOks nX2_findConstant zo_X2_findConstant_0 0 = true := by decide +kernel
def zo_X2_findConstant_2 : List zOp := [(.iload_n 1, 3, 1, 0, 0, 0, 0, 0, 0, []), (.bipush 51, 5, 0, 0, 0, 0, 0, 51, 0, []), (.if_icmp .gt 44, 8, 49, 0, 0, 0, 0, 0, 0, []), (.aload_n 0, 9, 0, 0, 0, 0, 0, 0, 0, []), (.getfield 31, 12, 2, 3, 0, 0, 428, 0, 0, []), (.aload_n 0, 13, 0, 0, 0, 0, 0, 0, 0, []), (.getfield 9, 16, 2, 4, 0, 0, 429, 0, 0, []), (.iload_n 1, 17, 1, 0, 0, 0, 0, 0, 0, []), (.invokevirtual 70, 20, 37, 3, 0, 4, 996, 0, 0, []), (.aload_n 0, 21, 0, 0, 0, 0, 0, 0, 0, []), (.getfield 27, 24, 2, 2, 0, 0, 427, 0, 0, []), (.aload_n 0, 25, 0, 0, 0, 0, 0, 0, 0, []), (.getfield 9, 28, 2, 4, 0, 0, 429, 0, 0, []), (.invokevirtual 76, 31, 5, 2, 0, 1, 997, 0, 0, []), (.aload_n 0, 32, 0, 0, 0, 0, 0, 0, 0, []), (.getfield 27, 35, 2, 2, 0, 0, 427, 0, 0, []), (.getfield 67, 38, 1, 0, 1, 0, 325, 0, 0, []), (.ifCond .ne 5, 41, 43, 0, 0, 0, 0, 0, 0, []), (.iload_n 1, 42, 1, 0, 0, 0, 0, 0, 0, []), (.ireturn, 43, 0, 0, 0, 0, 0, 0, 0, []), (.iinc 1 1, 46, 1, 0, 0, 0, 0, 1, 0, []), (.goto (-44), 49, 2, 0, 0, 0, 0, 0, 0, []), (.iconst (-1), 50, 0, 0, 0, 0, 0, (-1), 0, []), (.ireturn, 51, 0, 0, 0, 0, 0, 0, 0, [])]
set_option maxRecDepth 100000 in
theorem zk_X2_findConstant_2 : zOks nX2_findConstant zo_X2_findConstant_2 2 = true := by decide +kernel
def zm_X2_findConstant : List (Nat × List Bool) := [(0, [true, false]), (2, [true, true])]
set_option maxRecDepth 100000 in
set_option maxHeartbeats 4000000 in
theorem zr_X2_findConstant_0 {C : zCa} {post : zPo} {X : zX} (hX : zClosed none C post nX2_findConstant X) (σ : zS) (h : X 2 [some (.ref 39), some (.int 0)] [] σ) : X 0 [some (.ref 39), none] [] σ := zSeq_ok hX zm_X2_findConstant zo_X2_findConstant_0 0 0 _ _ _ zk_X2_findConstant_0 h
set_option maxRecDepth 100000 in
set_option maxHeartbeats 4000000 in
theorem zr_X2_findConstant_2 {C : zCa} {post : zPo} {X : zX} (hX : zClosed none C post nX2_findConstant X) (v1 : Int32) (σ : zS) (h : zIf ((v1 : Int32) ≤ 51) (C nX4_planConstant [.ref 32, .ref 40, .int v1] σ (zPV fun σ1 => C nX1_follow [.ref 26, .ref 40] σ1 (zPV fun σ2 => zIf ((σ2.1 26 0 : Int32) = 0) (post (some (.int v1)) σ2) (X 2 [some (.ref 39), some (.int (v1 + 1))] [] σ2)))) (post (some (.int (-1))) σ)) : X 2 [some (.ref 39), some (.int v1)] [] σ := zSeq_ok hX zm_X2_findConstant zo_X2_findConstant_2 2 2 _ _ _ zk_X2_findConstant_2 h
theorem ze_X2_findConstant {d : Nat} {post : zPo} (σ : zS) (h : ∀ X : zX, zClosed none (zCall d) post nX2_findConstant X → X 0 [some (.ref 39), none] [] σ) : zCall (d + 1) nX2_findConstant [.ref 39] σ post := h
-- X4_planControlled(32, None) depth 3
def zo_X4_planControlled_0 : List zOp := [(.aload_n 0, 1, 0, 0, 0, 0, 0, 0, 0, []), (.getfield 25, 4, 4, 1, 0, 0, 372, 0, 0, []), (.getfield 55, 7, 8, 4, 1, 0, 139, 0, 0, []), (.istore 4, 9, 4, 0, 0, 0, 0, 0, 0, []), (.aload_n 0, 10, 0, 0, 0, 0, 0, 0, 0, []), (.getfield 31, 13, 4, 3, 0, 0, 374, 0, 0, []), (.iload 4, 15, 4, 0, 0, 0, 0, 0, 0, []), (.aload_n 0, 16, 0, 0, 0, 0, 0, 0, 0, []), (.getfield 25, 19, 4, 1, 0, 0, 372, 0, 0, []), (.getfield 58, 22, 8, 5, 1, 0, 144, 0, 0, []), (.aload_n 0, 23, 0, 0, 0, 0, 0, 0, 0, []), (.getfield 25, 26, 4, 1, 0, 0, 372, 0, 0, []), (.getfield 61, 29, 8, 6, 1, 0, 149, 0, 0, []), (.invokevirtual 64, 32, 9, 4, 0, 1, 784, 0, 0, []), (.iconst 0, 33, 0, 0, 0, 0, 0, 0, 0, []), (.istore 5, 35, 5, 0, 0, 0, 0, 0, 0, [])]
set_option maxRecDepth 100000 in
theorem zk_X4_planControlled_0 : zOks nX4_planControlled zo_X4_planControlled_0 0 = true := by decide +kernel
def zo_X4_planControlled_35 : List zOp := [(.iload 5, 37, 5, 0, 0, 0, 0, 0, 0, []), (.aload_n 0, 38, 0, 0, 0, 0, 0, 0, 0, []), (.getfield 30, 41, 4, 2, 0, 0, 373, 0, 0, []), (.getfield 35, 44, 3, 0, 1, 0, 237, 0, 0, []), (.if_icmp .ge 103, 47, 147, 0, 0, 0, 0, 0, 0, []), (.aload_n 0, 48, 0, 0, 0, 0, 0, 0, 0, []), (.getfield 30, 51, 4, 2, 0, 0, 373, 0, 0, []), (.getfield 70, 54, 3, 9, 0, 0, 266, 0, 0, []), (.iload 5, 56, 5, 0, 0, 0, 0, 0, 0, []), (.invokestatic 73, 59, 126, 2, 1, 0, 725, 0, 0, []), (.istore 6, 61, 6, 0, 0, 0, 0, 0, 0, []), (.aload_n 0, 62, 0, 0, 0, 0, 0, 0, 0, []), (.getfield 31, 65, 4, 3, 0, 0, 374, 0, 0, []), (.iload 5, 67, 5, 0, 0, 0, 0, 0, 0, []), (.invokevirtual 77, 70, 10, 2, 1, 1, 785, 0, 0, []), (.istore 7, 72, 7, 0, 0, 0, 0, 0, 0, []), (.iload 4, 74, 4, 0, 0, 0, 0, 0, 0, []), (.iconst 2, 75, 0, 0, 0, 0, 0, 2, 0, []), (.idiv, 76, 0, 0, 0, 0, 0, 0, 0, []), (.iload 7, 78, 7, 0, 0, 0, 0, 0, 0, []), (.isub, 79, 0, 0, 0, 0, 0, 0, 0, []), (.iload_n 3, 80, 3, 0, 0, 0, 0, 0, 0, []), (.imul, 81, 0, 0, 0, 0, 0, 0, 0, []), (.i2l, 82, 0, 0, 0, 0, 0, 0, 0, []), (.iload 4, 84, 4, 0, 0, 0, 0, 0, 0, []), (.i2l, 85, 0, 0, 0, 0, 0, 0, 0, []), (.invokestatic 80, 88, 131, 2, 2, 0, 786, 0, 0, []), (.l2i, 89, 0, 0, 0, 0, 0, 0, 0, []), (.istore 8, 91, 8, 0, 0, 0, 0, 0, 0, []), (.aload_n 0, 92, 0, 0, 0, 0, 0, 0, 0, []), (.getfield 25, 95, 4, 1, 0, 0, 372, 0, 0, []), (.iload 6, 97, 6, 0, 0, 0, 0, 0, 0, []), (.iload_n 2, 98, 2, 0, 0, 0, 0, 0, 0, []), (.iload 8, 100, 8, 0, 0, 0, 0, 0, 0, []), (.iadd, 101, 0, 0, 0, 0, 0, 0, 0, []), (.aload_n 0, 102, 0, 0, 0, 0, 0, 0, 0, []), (.iload 6, 104, 6, 0, 0, 0, 0, 0, 0, []), (.invokevirtual 41, 107, 39, 2, 1, 4, 721, 0, 0, []), (.iadd, 108, 0, 0, 0, 0, 0, 0, 0, []), (.invokevirtual 45, 111, 64, 3, 1, 8, 726, 0, 0, []), (.istore 9, 113, 9, 0, 0, 0, 0, 0, 0, []), (.aload_n 1, 114, 1, 0, 0, 0, 0, 0, 0, []), (.iload 6, 116, 6, 0, 0, 0, 0, 0, 0, []), (.iload 9, 118, 9, 0, 0, 0, 0, 0, 0, []), (.invokestatic 51, 121, 128, 3, 0, 0, 738, 0, 0, []), (.aload_n 0, 122, 0, 0, 0, 0, 0, 0, 0, []), (.getfield 31, 125, 4, 3, 0, 0, 374, 0, 0, []), (.iload 5, 127, 5, 0, 0, 0, 0, 0, 0, []), (.aload_n 0, 128, 0, 0, 0, 0, 0, 0, 0, []), (.getfield 15, 131, 4, 0, 0, 0, 371, 0, 0, []), (.iload 6, 133, 6, 0, 0, 0, 0, 0, 0, []), (.iload 9, 135, 9, 0, 0, 0, 0, 0, 0, []), (.invokevirtual 84, 138, 57, 3, 1, 6, 787, 0, 0, []), (.invokevirtual 87, 141, 11, 3, 0, 1, 788, 0, 0, []), (.iinc 5 1, 144, 5, 0, 0, 0, 0, 1, 0, []), (.goto (-109), 147, 35, 0, 0, 0, 0, 0, 0, []), (.return_, 148, 0, 0, 0, 0, 0, 0, 0, [])]
set_option maxRecDepth 100000 in
theorem zk_X4_planControlled_35 : zOks nX4_planControlled zo_X4_planControlled_35 35 = true := by decide +kernel
def zm_X4_planControlled : List (Nat × List Bool) := [(0, [true, true, true, true, false, false, false, false, false, false]), (35, [true, true, true, true, true, true, false, false, false, false])]
set_option maxRecDepth 100000 in
set_option maxHeartbeats 4000000 in
theorem zr_X4_planControlled_0 {C : zCa} {post : zPo} {X : zX} (hX : zClosed none C post nX4_planControlled X) (p0 : Nat) (p1 : Int32) (p2 : Int32) (σ : zS) (h : C nX1_begin [.ref 26, .int (σ.1 4 4), .int (σ.1 4 5), .int (σ.1 4 6)] σ (zPV fun σ1 => X 35 [some (.ref 32), some (.ref p0), some (.int p1), some (.int p2), some (.int (σ.1 4 4)), some (.int 0), none, none, none, none] [] σ1)) : X 0 [some (.ref 32), some (.ref p0), some (.int p1), some (.int p2), none, none, none, none, none, none] [] σ := zSeq_ok hX zm_X4_planControlled zo_X4_planControlled_0 0 0 _ _ _ zk_X4_planControlled_0 h
set_option maxRecDepth 100000 in
set_option maxHeartbeats 4000000 in
theorem zr_X4_planControlled_35 {C : zCa} {post : zPo} {X : zX} (hX : zClosed none C post nX4_planControlled X) (p0 : Nat) (v2 : Int32) (v3 : Int32) (v4 : Int32) (v5 : Int32) (σ : zS) (h : zIf ((v5 : Int32) < (σ.1 16 0)) (C nX11_at [.ref 23, .int v5] σ (zPI fun x2 σ1 => C nX1_fillBefore [.ref 26, .int v5] σ1 (zPI fun x4 σ3 => ¬ (2 : Int32) = 0 ∧ (C nX11_ratio [.long (Int32.toInt64 (((v4 / 2) - x4) * v3)), .long (Int32.toInt64 v4)] σ3 (zPJ fun x6 σ5 => C nX4_offsetOf [.ref 32, .int x2] σ5 (zPI fun x8 σ7 => C nX8_settle [.ref 4, .int x2, .int ((v2 + (Int64.toInt32 x6)) + x8)] σ7 (zPI fun x10 σ9 => C nX11_put [.ref p0, .int x2, .int x10] σ9 (zPV fun σ11 => C nX6_bitsOf [.ref 24, .int x2, .int x10] σ11 (zPI fun x13 σ12 => C nX1_takeOut [.ref 26, .int v5, .int x13] σ12 (zPV fun σ14 => X 35 [some (.ref 32), some (.ref p0), some (.int v2), some (.int v3), some (.int v4), some (.int (v5 + 1)), none, none, none, none] [] σ14)))))))))) (post none σ)) : X 35 [some (.ref 32), some (.ref p0), some (.int v2), some (.int v3), some (.int v4), some (.int v5), none, none, none, none] [] σ := zSeq_ok hX zm_X4_planControlled zo_X4_planControlled_35 35 35 _ _ _ zk_X4_planControlled_35 h
theorem ze_X4_planControlled {d : Nat} {post : zPo} (p0 : Nat) (p1 : Int32) (p2 : Int32) (σ : zS) (h : ∀ X : zX, zClosed none (zCall d) post nX4_planControlled X → X 0 [some (.ref 32), some (.ref p0), some (.int p1), some (.int p2), none, none, none, none, none, none] [] σ) : zCall (d + 1) nX4_planControlled [.ref 32, .ref p0, .int p1, .int p2] σ post := h
-- X2_findDemand(39, None) depth 4
def zo_X2_findDemand_0 : List zOp := [(.aload_n 0, 1, 0, 0, 0, 0, 0, 0, 0, []), (.getfield 27, 4, 2, 2, 0, 0, 427, 0, 0, []), (.aload_n 1, 5, 1, 0, 0, 0, 0, 0, 0, []), (.invokevirtual 41, 8, 6, 2, 0, 1, 965, 0, 0, []), (.aload_n 0, 9, 0, 0, 0, 0, 0, 0, 0, []), (.getfield 27, 12, 2, 2, 0, 0, 427, 0, 0, []), (.getfield 79, 15, 1, 1, 0, 0, 330, 0, 0, []), (.iload_n 2, 16, 2, 0, 0, 0, 0, 0, 0, []), (.invokestatic 82, 19, 126, 2, 1, 0, 1006, 0, 0, []), (.istore 4, 21, 4, 0, 0, 0, 0, 0, 0, []), (.iload 4, 23, 4, 0, 0, 0, 0, 0, 0, []), (.istore 5, 25, 5, 0, 0, 0, 0, 0, 0, []), (.iload_n 2, 26, 2, 0, 0, 0, 0, 0, 0, []), (.iconst 1, 27, 0, 0, 0, 0, 0, 1, 0, []), (.iadd, 28, 0, 0, 0, 0, 0, 0, 0, []), (.istore 6, 30, 6, 0, 0, 0, 0, 0, 0, [])]
set_option maxRecDepth 100000 in
theorem zk_X2_findDemand_0 : zOks nX2_findDemand zo_X2_findDemand_0 0 = true := by decide +kernel
def zo_X2_findDemand_30 : List zOp := [(.iload 6, 32, 6, 0, 0, 0, 0, 0, 0, []), (.iload_n 3, 33, 3, 0, 0, 0, 0, 0, 0, []), (.if_icmp .gt 55, 36, 88, 0, 0, 0, 0, 0, 0, []), (.iload 6, 38, 6, 0, 0, 0, 0, 0, 0, []), (.aload_n 0, 39, 0, 0, 0, 0, 0, 0, 0, []), (.getfield 26, 42, 2, 1, 0, 0, 426, 0, 0, []), (.getfield 86, 45, 3, 0, 1, 0, 240, 0, 0, []), (.if_icmp .ge 43, 48, 88, 0, 0, 0, 0, 0, 0, []), (.iload 4, 50, 4, 0, 0, 0, 0, 0, 0, []), (.aload_n 0, 51, 0, 0, 0, 0, 0, 0, 0, []), (.getfield 27, 54, 2, 2, 0, 0, 427, 0, 0, []), (.getfield 79, 57, 1, 1, 0, 0, 330, 0, 0, []), (.iload 6, 59, 6, 0, 0, 0, 0, 0, 0, []), (.invokestatic 82, 62, 126, 2, 1, 0, 1006, 0, 0, []), (.aload_n 0, 63, 0, 0, 0, 0, 0, 0, 0, []), (.getfield 21, 66, 2, 0, 0, 0, 425, 0, 0, []), (.getfield 60, 69, 8, 6, 1, 0, 151, 0, 0, []), (.isub, 70, 0, 0, 0, 0, 0, 0, 0, []), (.iadd, 71, 0, 0, 0, 0, 0, 0, 0, []), (.istore 4, 73, 4, 0, 0, 0, 0, 0, 0, []), (.iload 5, 75, 5, 0, 0, 0, 0, 0, 0, []), (.iload 4, 77, 4, 0, 0, 0, 0, 0, 0, []), (.invokestatic 91, 80, 0, 0, 0, 1, 1007, 0, 0, []), (.istore 5, 82, 5, 0, 0, 0, 0, 0, 0, []), (.iinc 6 1, 85, 6, 0, 0, 0, 0, 1, 0, []), (.goto (-55), 88, 30, 0, 0, 0, 0, 0, 0, []), (.iload 5, 90, 5, 0, 0, 0, 0, 0, 0, []), (.ireturn, 91, 0, 0, 0, 0, 0, 0, 0, [])]
set_option maxRecDepth 100000 in
theorem zk_X2_findDemand_30 : zOks nX2_findDemand zo_X2_findDemand_30 30 = true := by decide +kernel
def zm_X2_findDemand : List (Nat × List Bool) := [(0, [true, true, true, true, false, false, false]), (30, [true, false, false, true, true, true, true])]
set_option maxRecDepth 100000 in
set_option maxHeartbeats 4000000 in
theorem zr_X2_findDemand_0 {C : zCa} {post : zPo} {X : zX} (hX : zClosed none C post nX2_findDemand X) (p0 : Nat) (p1 : Int32) (p2 : Int32) (σ : zS) (h : C nX1_takeBits [.ref 26, .ref p0] σ (zPV fun σ1 => C nX11_at [.ref 27, .int p1] σ1 (zPI fun x3 σ2 => X 30 [some (.ref 39), none, none, some (.int p2), some (.int x3), some (.int x3), some (.int (p1 + 1))] [] σ2))) : X 0 [some (.ref 39), some (.ref p0), some (.int p1), some (.int p2), none, none, none] [] σ := zSeq_ok hX zm_X2_findDemand zo_X2_findDemand_0 0 0 _ _ _ zk_X2_findDemand_0 h
set_option maxRecDepth 100000 in
set_option maxHeartbeats 4000000 in
theorem zr_X2_findDemand_30 {C : zCa} {post : zPo} {X : zX} (hX : zClosed none C post nX2_findDemand X) (v3 : Int32) (v4 : Int32) (v5 : Int32) (v6 : Int32) (σ : zS) (h : zIf ((v6 : Int32) ≤ v3) (zIf ((v6 : Int32) < (σ.1 16 0)) (C nX11_at [.ref 27, .int v6] σ (zPI fun x2 σ1 => X 30 [some (.ref 39), none, none, some (.int v3), some (.int (v4 + (x2 - (σ1.1 4 6)))), some (.int (if ((v5 : Int32) < (v4 + (x2 - (σ1.1 4 6)))) then v4 + (x2 - (σ1.1 4 6)) else v5)), some (.int (v6 + 1))] [] σ1)) (post (some (.int v5)) σ)) (post (some (.int v5)) σ)) : X 30 [some (.ref 39), none, none, some (.int v3), some (.int v4), some (.int v5), some (.int v6)] [] σ := zSeq_ok hX zm_X2_findDemand zo_X2_findDemand_30 30 30 _ _ _ zk_X2_findDemand_30 h
theorem ze_X2_findDemand {d : Nat} {post : zPo} (p0 : Nat) (p1 : Int32) (p2 : Int32) (σ : zS) (h : ∀ X : zX, zClosed none (zCall d) post nX2_findDemand X → X 0 [some (.ref 39), some (.ref p0), some (.int p1), some (.int p2), none, none, none] [] σ) : zCall (d + 1) nX2_findDemand [.ref 39, .ref p0, .int p1, .int p2] σ post := h
-- X6_weightOf(24,) depth 2
def zo_X6_weightOf_0 : List zOp := [(.aload_n 0, 1, 0, 0, 0, 0, 0, 0, 0, []), (.getfield 19, 4, 6, 1, 0, 0, 306, 0, 0, []), (.getfield 46, 7, 8, 8, 0, 0, 156, 0, 0, []), (.aload_n 0, 8, 0, 0, 0, 0, 0, 0, 0, []), (.getfield 15, 11, 6, 0, 0, 0, 300, 0, 0, []), (.getfield 51, 14, 3, 4, 0, 0, 251, 0, 0, []), (.iload_n 1, 15, 1, 0, 0, 0, 0, 0, 0, []), (.invokestatic 26, 18, 126, 2, 1, 0, 297, 0, 0, []), (.invokestatic 26, 21, 126, 2, 1, 0, 297, 0, 0, []), (.ireturn, 22, 0, 0, 0, 0, 0, 0, 0, [])]
set_option maxRecDepth 100000 in
theorem zk_X6_weightOf_0 : zOks nX6_weightOf zo_X6_weightOf_0 0 = true := by decide +kernel
def zm_X6_weightOf : List (Nat × List Bool) := [(0, [true, true])]
set_option maxRecDepth 100000 in
set_option maxHeartbeats 4000000 in
theorem zr_X6_weightOf_0 {C : zCa} {post : zPo} {X : zX} (hX : zClosed none C post nX6_weightOf X) (p0 : Int32) (σ : zS) (h : C nX11_at [.ref 18, .int p0] σ (zPI fun x2 σ1 => C nX11_at [.ref 5, .int x2] σ1 (zPI fun x4 σ3 => post (some (.int x4)) σ3))) : X 0 [some (.ref 24), some (.int p0)] [] σ := zSeq_ok hX zm_X6_weightOf zo_X6_weightOf_0 0 0 _ _ _ zk_X6_weightOf_0 h
theorem ze_X6_weightOf {d : Nat} {post : zPo} (p0 : Int32) (σ : zS) (h : ∀ X : zX, zClosed none (zCall d) post nX6_weightOf X → X 0 [some (.ref 24), some (.int p0)] [] σ) : zCall (d + 1) nX6_weightOf [.ref 24, .int p0] σ post := h
-- X6_lossOf(24,) depth 3
def zo_X6_lossOf_0 : List zOp := [(.aload_n 0, 1, 0, 0, 0, 0, 0, 0, 0, []), (.getfield 9, 4, 6, 2, 0, 0, 310, 0, 0, []), (.iload_n 2, 5, 2, 0, 0, 0, 0, 0, 0, []), (.invokestatic 26, 8, 126, 2, 1, 0, 297, 0, 0, []), (.istore_n 3, 9, 3, 0, 0, 0, 0, 0, 0, []), (.iconst 3, 10, 0, 0, 0, 0, 0, 3, 0, []), (.aload_n 0, 11, 0, 0, 0, 0, 0, 0, 0, []), (.getfield 15, 14, 6, 0, 0, 0, 300, 0, 0, []), (.getfield 39, 17, 3, 3, 0, 0, 246, 0, 0, []), (.iload_n 1, 18, 1, 0, 0, 0, 0, 0, 0, []), (.invokestatic 26, 21, 126, 2, 1, 0, 297, 0, 0, []), (.isub, 22, 0, 0, 0, 0, 0, 0, 0, []), (.istore 4, 24, 4, 0, 0, 0, 0, 0, 0, []), (.aload_n 0, 25, 0, 0, 0, 0, 0, 0, 0, []), (.iload_n 1, 26, 1, 0, 0, 0, 0, 0, 0, []), (.invokevirtual 42, 29, 59, 2, 1, 6, 709, 0, 0, []), (.iload 4, 31, 4, 0, 0, 0, 0, 0, 0, []), (.imul, 32, 0, 0, 0, 0, 0, 0, 0, []), (.iload_n 3, 33, 3, 0, 0, 0, 0, 0, 0, []), (.imul, 34, 0, 0, 0, 0, 0, 0, 0, []), (.iload_n 3, 35, 3, 0, 0, 0, 0, 0, 0, []), (.imul, 36, 0, 0, 0, 0, 0, 0, 0, []), (.bipush 16, 38, 0, 0, 0, 0, 0, 16, 0, []), (.idiv, 39, 0, 0, 0, 0, 0, 0, 0, []), (.ireturn, 40, 0, 0, 0, 0, 0, 0, 0, [])]
set_option maxRecDepth 100000 in
theorem zk_X6_lossOf_0 : zOks nX6_lossOf zo_X6_lossOf_0 0 = true := by decide +kernel
def zm_X6_lossOf : List (Nat × List Bool) := [(0, [true, true, true, false, false])]
set_option maxRecDepth 100000 in
set_option maxHeartbeats 4000000 in
theorem zr_X6_lossOf_0 {C : zCa} {post : zPo} {X : zX} (hX : zClosed none C post nX6_lossOf X) (p0 : Int32) (p1 : Int32) (σ : zS) (h : C nX11_at [.ref 25, .int p1] σ (zPI fun x2 σ1 => C nX11_at [.ref 17, .int p0] σ1 (zPI fun x4 σ3 => C nX6_weightOf [.ref 24, .int p0] σ3 (zPI fun x6 σ5 => ¬ (16 : Int32) = 0 ∧ (post (some (.int ((((x6 * (3 - x4)) * x2) * x2) / 16))) σ5))))) : X 0 [some (.ref 24), some (.int p0), some (.int p1), none, none] [] σ := zSeq_ok hX zm_X6_lossOf zo_X6_lossOf_0 0 0 _ _ _ zk_X6_lossOf_0 h
theorem ze_X6_lossOf {d : Nat} {post : zPo} (p0 : Int32) (p1 : Int32) (σ : zS) (h : ∀ X : zX, zClosed none (zCall d) post nX6_lossOf X → X 0 [some (.ref 24), some (.int p0), some (.int p1), none, none] [] σ) : zCall (d + 1) nX6_lossOf [.ref 24, .int p0, .int p1] σ post := h
-- X3_framesOfScene(16,) depth 2
def zo_X3_framesOfScene_0 : List zOp := [(.iconst 0, 1, 0, 0, 0, 0, 0, 0, 0, []), (.istore_n 2, 2, 2, 0, 0, 0, 0, 0, 0, []), (.iconst 0, 3, 0, 0, 0, 0, 0, 0, 0, []), (.istore_n 3, 4, 3, 0, 0, 0, 0, 0, 0, [])]
set_option maxRecDepth 100000 in
theorem zk_X3_framesOfScene_0 : zOks nX3_framesOfScene zo_X3_framesOfScene_0 0 = true := by decide +kernel
def zo_X3_framesOfScene_4 : List zOp := [(.iload_n 3, 5, 3, 0, 0, 0, 0, 0, 0, []), (.aload_n 0, 6, 0, 0, 0, 0, 0, 0, 0, []), (.getfield 39, 9, 3, 0, 1, 0, 236, 0, 0, []), (.if_icmp .ge 24, 12, 33, 0, 0, 0, 0, 0, 0, []), (.aload_n 0, 13, 0, 0, 0, 0, 0, 0, 0, []), (.getfield 15, 16, 3, 4, 0, 0, 249, 0, 0, []), (.iload_n 3, 17, 3, 0, 0, 0, 0, 0, 0, []), (.invokestatic 80, 20, 126, 2, 1, 0, 545, 0, 0, []), (.iload_n 1, 21, 1, 0, 0, 0, 0, 0, 0, []), (.if_icmp .ne 6, 24, 27, 0, 0, 0, 0, 0, 0, []), (.iinc 2 1, 27, 2, 0, 0, 0, 0, 1, 0, []), (.iinc 3 1, 30, 3, 0, 0, 0, 0, 1, 0, []), (.goto (-26), 33, 4, 0, 0, 0, 0, 0, 0, []), (.iload_n 2, 34, 2, 0, 0, 0, 0, 0, 0, []), (.ireturn, 35, 0, 0, 0, 0, 0, 0, 0, [])]
set_option maxRecDepth 100000 in
theorem zk_X3_framesOfScene_4 : zOks nX3_framesOfScene zo_X3_framesOfScene_4 4 = true := by decide +kernel
def zm_X3_framesOfScene : List (Nat × List Bool) := [(0, [true, true, false, false]), (4, [true, true, true, true])]
set_option maxRecDepth 100000 in
set_option maxHeartbeats 4000000 in
theorem zr_X3_framesOfScene_0 {C : zCa} {post : zPo} {X : zX} (hX : zClosed none C post nX3_framesOfScene X) (p0 : Int32) (σ : zS) (h : X 4 [some (.ref 16), some (.int p0), some (.int 0), some (.int 0)] [] σ) : X 0 [some (.ref 16), some (.int p0), none, none] [] σ := zSeq_ok hX zm_X3_framesOfScene zo_X3_framesOfScene_0 0 0 _ _ _ zk_X3_framesOfScene_0 h
set_option maxRecDepth 100000 in
set_option maxHeartbeats 4000000 in
theorem zr_X3_framesOfScene_4 {C : zCa} {post : zPo} {X : zX} (hX : zClosed none C post nX3_framesOfScene X) (v1 : Int32) (v2 : Int32) (v3 : Int32) (σ : zS) (h : zIf ((v3 : Int32) < (σ.1 16 0)) (C nX11_at [.ref 18, .int v3] σ (zPI fun x2 σ1 => zIf ((x2 : Int32) = v1) (X 4 [some (.ref 16), some (.int v1), some (.int (v2 + 1)), some (.int (v3 + 1))] [] σ1) (X 4 [some (.ref 16), some (.int v1), some (.int v2), some (.int (v3 + 1))] [] σ1))) (post (some (.int v2)) σ)) : X 4 [some (.ref 16), some (.int v1), some (.int v2), some (.int v3)] [] σ := zSeq_ok hX zm_X3_framesOfScene zo_X3_framesOfScene_4 4 4 _ _ _ zk_X3_framesOfScene_4 h
theorem ze_X3_framesOfScene {d : Nat} {post : zPo} (p0 : Int32) (σ : zS) (h : ∀ X : zX, zClosed none (zCall d) post nX3_framesOfScene X → X 0 [some (.ref 16), some (.int p0), none, none] [] σ) : zCall (d + 1) nX3_framesOfScene [.ref 16, .int p0] σ post := h
-- X3_firstOfScene(16,) depth 2
def zo_X3_firstOfScene_0 : List zOp := [(.iconst 0, 1, 0, 0, 0, 0, 0, 0, 0, []), (.istore_n 2, 2, 2, 0, 0, 0, 0, 0, 0, [])]
set_option maxRecDepth 100000 in
theorem zk_X3_firstOfScene_0 : zOks nX3_firstOfScene zo_X3_firstOfScene_0 0 = true := by decide +kernel
def zo_X3_firstOfScene_2 : List zOp := [(.iload_n 2, 3, 2, 0, 0, 0, 0, 0, 0, []), (.aload_n 0, 4, 0, 0, 0, 0, 0, 0, 0, []), (.getfield 39, 7, 3, 0, 1, 0, 236, 0, 0, []), (.if_icmp .ge 23, 10, 30, 0, 0, 0, 0, 0, 0, []), (.aload_n 0, 11, 0, 0, 0, 0, 0, 0, 0, []), (.getfield 15, 14, 3, 4, 0, 0, 249, 0, 0, []), (.iload_n 2, 15, 2, 0, 0, 0, 0, 0, 0, []), (.invokestatic 80, 18, 126, 2, 1, 0, 545, 0, 0, []), (.iload_n 1, 19, 1, 0, 0, 0, 0, 0, 0, []), (.if_icmp .ne 5, 22, 24, 0, 0, 0, 0, 0, 0, []), (.iload_n 2, 23, 2, 0, 0, 0, 0, 0, 0, []), (.ireturn, 24, 0, 0, 0, 0, 0, 0, 0, []), (.iinc 2 1, 27, 2, 0, 0, 0, 0, 1, 0, []), (.goto (-25), 30, 2, 0, 0, 0, 0, 0, 0, []), (.iconst (-1), 31, 0, 0, 0, 0, 0, (-1), 0, []), (.ireturn, 32, 0, 0, 0, 0, 0, 0, 0, [])]
set_option maxRecDepth 100000 in
theorem zk_X3_firstOfScene_2 : zOks nX3_firstOfScene zo_X3_firstOfScene_2 2 = true := by decide +kernel
def zm_X3_firstOfScene : List (Nat × List Bool) := [(0, [true, true, false]), (2, [true, true, true])]
set_option maxRecDepth 100000 in
set_option maxHeartbeats 4000000 in
theorem zr_X3_firstOfScene_0 {C : zCa} {post : zPo} {X : zX} (hX : zClosed none C post nX3_firstOfScene X) (p0 : Int32) (σ : zS) (h : X 2 [some (.ref 16), some (.int p0), some (.int 0)] [] σ) : X 0 [some (.ref 16), some (.int p0), none] [] σ := zSeq_ok hX zm_X3_firstOfScene zo_X3_firstOfScene_0 0 0 _ _ _ zk_X3_firstOfScene_0 h
set_option maxRecDepth 100000 in
set_option maxHeartbeats 4000000 in
theorem zr_X3_firstOfScene_2 {C : zCa} {post : zPo} {X : zX} (hX : zClosed none C post nX3_firstOfScene X) (v1 : Int32) (v2 : Int32) (σ : zS) (h : zIf ((v2 : Int32) < (σ.1 16 0)) (C nX11_at [.ref 18, .int v2] σ (zPI fun x2 σ1 => zIf ((x2 : Int32) = v1) (post (some (.int v2)) σ1) (X 2 [some (.ref 16), some (.int v1), some (.int (v2 + 1))] [] σ1))) (post (some (.int (-1))) σ)) : X 2 [some (.ref 16), some (.int v1), some (.int v2)] [] σ := zSeq_ok hX zm_X3_firstOfScene zo_X3_firstOfScene_2 2 2 _ _ _ zk_X3_firstOfScene_2 h
theorem ze_X3_firstOfScene {d : Nat} {post : zPo} (p0 : Int32) (σ : zS) (h : ∀ X : zX, zClosed none (zCall d) post nX3_firstOfScene X → X 0 [some (.ref 16), some (.int p0), none] [] σ) : zCall (d + 1) nX3_firstOfScene [.ref 16, .int p0] σ post := h
-- X3_groupsOfScene(16,) depth 2
def zo_X3_groupsOfScene_0 : List zOp := [(.iconst 0, 1, 0, 0, 0, 0, 0, 0, 0, []), (.istore_n 2, 2, 2, 0, 0, 0, 0, 0, 0, []), (.iconst 0, 3, 0, 0, 0, 0, 0, 0, 0, []), (.istore_n 3, 4, 3, 0, 0, 0, 0, 0, 0, [])]
set_option maxRecDepth 100000 in
theorem zk_X3_groupsOfScene_0 : zOks nX3_groupsOfScene zo_X3_groupsOfScene_0 0 = true := by decide +kernel
def zo_X3_groupsOfScene_4 : List zOp := [(.iload_n 3, 5, 3, 0, 0, 0, 0, 0, 0, []), (.aload_n 0, 6, 0, 0, 0, 0, 0, 0, 0, []), (.getfield 39, 9, 3, 0, 1, 0, 236, 0, 0, []), (.if_icmp .ge 35, 12, 44, 0, 0, 0, 0, 0, 0, []), (.aload_n 0, 13, 0, 0, 0, 0, 0, 0, 0, []), (.getfield 15, 16, 3, 4, 0, 0, 249, 0, 0, []), (.iload_n 3, 17, 3, 0, 0, 0, 0, 0, 0, []), (.invokestatic 80, 20, 126, 2, 1, 0, 545, 0, 0, []), (.iload_n 1, 21, 1, 0, 0, 0, 0, 0, 0, []), (.if_icmp .ne 17, 24, 38, 0, 0, 0, 0, 0, 0, []), (.aload_n 0, 25, 0, 0, 0, 0, 0, 0, 0, []), (.getfield 9, 28, 3, 3, 0, 0, 245, 0, 0, []), (.iload_n 3, 29, 3, 0, 0, 0, 0, 0, 0, []), (.invokestatic 80, 32, 126, 2, 1, 0, 545, 0, 0, []), (.ifCond .ne 6, 35, 38, 0, 0, 0, 0, 0, 0, []), (.iinc 2 1, 38, 2, 0, 0, 0, 0, 1, 0, []), (.iinc 3 1, 41, 3, 0, 0, 0, 0, 1, 0, []), (.goto (-37), 44, 4, 0, 0, 0, 0, 0, 0, []), (.iload_n 2, 45, 2, 0, 0, 0, 0, 0, 0, []), (.ireturn, 46, 0, 0, 0, 0, 0, 0, 0, [])]
set_option maxRecDepth 100000 in
theorem zk_X3_groupsOfScene_4 : zOks nX3_groupsOfScene zo_X3_groupsOfScene_4 4 = true := by decide +kernel
def zm_X3_groupsOfScene : List (Nat × List Bool) := [(0, [true, true, false, false]), (4, [true, true, true, true])]
set_option maxRecDepth 100000 in
set_option maxHeartbeats 4000000 in
theorem zr_X3_groupsOfScene_0 {C : zCa} {post : zPo} {X : zX} (hX : zClosed none C post nX3_groupsOfScene X) (p0 : Int32) (σ : zS) (h : X 4 [some (.ref 16), some (.int p0), some (.int 0), some (.int 0)] [] σ) : X 0 [some (.ref 16), some (.int p0), none, none] [] σ := zSeq_ok hX zm_X3_groupsOfScene zo_X3_groupsOfScene_0 0 0 _ _ _ zk_X3_groupsOfScene_0 h
set_option maxRecDepth 100000 in
set_option maxHeartbeats 4000000 in
theorem zr_X3_groupsOfScene_4 {C : zCa} {post : zPo} {X : zX} (hX : zClosed none C post nX3_groupsOfScene X) (v1 : Int32) (v2 : Int32) (v3 : Int32) (σ : zS) (h : zIf ((v3 : Int32) < (σ.1 16 0)) (C nX11_at [.ref 18, .int v3] σ (zPI fun x2 σ1 => zIf ((x2 : Int32) = v1) (C nX11_at [.ref 17, .int v3] σ1 (zPI fun x4 σ3 => zIf ((x4 : Int32) = 0) (X 4 [some (.ref 16), some (.int v1), some (.int (v2 + 1)), some (.int (v3 + 1))] [] σ3) (X 4 [some (.ref 16), some (.int v1), some (.int v2), some (.int (v3 + 1))] [] σ3))) (X 4 [some (.ref 16), some (.int v1), some (.int v2), some (.int (v3 + 1))] [] σ1))) (post (some (.int v2)) σ)) : X 4 [some (.ref 16), some (.int v1), some (.int v2), some (.int v3)] [] σ := zSeq_ok hX zm_X3_groupsOfScene zo_X3_groupsOfScene_4 4 4 _ _ _ zk_X3_groupsOfScene_4 h
theorem ze_X3_groupsOfScene {d : Nat} {post : zPo} (p0 : Int32) (σ : zS) (h : ∀ X : zX, zClosed none (zCall d) post nX3_groupsOfScene X → X 0 [some (.ref 16), some (.int p0), none, none] [] σ) : zCall (d + 1) nX3_groupsOfScene [.ref 16, .int p0] σ post := h
-- X4_leastWithin(32,) depth 3
def zo_X4_leastWithin_0 : List zOp := [(.aload_n 0, 1, 0, 0, 0, 0, 0, 0, 0, []), (.getfield 25, 4, 4, 1, 0, 0, 372, 0, 0, []), (.getfield 113, 7, 8, 2, 1, 0, 131, 0, 0, []), (.istore 4, 9, 4, 0, 0, 0, 0, 0, 0, [])]
set_option maxRecDepth 100000 in
theorem zk_X4_leastWithin_0 : zOks nX4_leastWithin zo_X4_leastWithin_0 0 = true := by decide +kernel
def zo_X4_leastWithin_9 : List zOp := [(.iload 4, 11, 4, 0, 0, 0, 0, 0, 0, []), (.aload_n 0, 12, 0, 0, 0, 0, 0, 0, 0, []), (.getfield 25, 15, 4, 1, 0, 0, 372, 0, 0, []), (.getfield 116, 18, 8, 3, 1, 0, 135, 0, 0, []), (.if_icmp .ge 28, 21, 46, 0, 0, 0, 0, 0, 0, []), (.aload_n 0, 22, 0, 0, 0, 0, 0, 0, 0, []), (.getfield 15, 25, 4, 0, 0, 0, 371, 0, 0, []), (.iload_n 1, 26, 1, 0, 0, 0, 0, 0, 0, []), (.iload 4, 28, 4, 0, 0, 0, 0, 0, 0, []), (.invokevirtual 84, 31, 57, 3, 1, 6, 787, 0, 0, []), (.i2l, 32, 0, 0, 0, 0, 0, 0, 0, []), (.lload_n 2, 33, 2, 0, 0, 0, 0, 0, 0, []), (.lcmp, 34, 0, 0, 0, 0, 0, 0, 0, []), (.ifCond .gt 6, 37, 40, 0, 0, 0, 0, 0, 0, []), (.iload 4, 39, 4, 0, 0, 0, 0, 0, 0, []), (.ireturn, 40, 0, 0, 0, 0, 0, 0, 0, []), (.iinc 4 1, 43, 4, 0, 0, 0, 0, 1, 0, []), (.goto (-34), 46, 9, 0, 0, 0, 0, 0, 0, []), (.aload_n 0, 47, 0, 0, 0, 0, 0, 0, 0, []), (.getfield 25, 50, 4, 1, 0, 0, 372, 0, 0, []), (.getfield 116, 53, 8, 3, 1, 0, 135, 0, 0, []), (.ireturn, 54, 0, 0, 0, 0, 0, 0, 0, [])]
set_option maxRecDepth 100000 in
theorem zk_X4_leastWithin_9 : zOks nX4_leastWithin zo_X4_leastWithin_9 9 = true := by decide +kernel
def zm_X4_leastWithin : List (Nat × List Bool) := [(0, [true, true, true, false, false]), (9, [true, true, true, false, true])]
set_option maxRecDepth 100000 in
set_option maxHeartbeats 4000000 in
theorem zr_X4_leastWithin_0 {C : zCa} {post : zPo} {X : zX} (hX : zClosed none C post nX4_leastWithin X) (p0 : Int32) (p1 : Int64) (σ : zS) (h : X 9 [some (.ref 32), some (.int p0), some (.long p1), none, some (.int (σ.1 4 2))] [] σ) : X 0 [some (.ref 32), some (.int p0), some (.long p1), none, none] [] σ := zSeq_ok hX zm_X4_leastWithin zo_X4_leastWithin_0 0 0 _ _ _ zk_X4_leastWithin_0 h
set_option maxRecDepth 100000 in
set_option maxHeartbeats 4000000 in
theorem zr_X4_leastWithin_9 {C : zCa} {post : zPo} {X : zX} (hX : zClosed none C post nX4_leastWithin X) (v1 : Int32) (v2 : Int64) (v4 : Int32) (σ : zS) (h : zIf ((v4 : Int32) < (σ.1 4 3)) (C nX6_bitsOf [.ref 24, .int v1, .int v4] σ (zPI fun x2 σ1 => zIf ((lg_cmp (Int32.toInt64 x2) v2 : Int32) ≤ 0) (post (some (.int v4)) σ1) (X 9 [some (.ref 32), some (.int v1), some (.long v2), none, some (.int (v4 + 1))] [] σ1))) (post (some (.int (σ.1 4 3))) σ)) : X 9 [some (.ref 32), some (.int v1), some (.long v2), none, some (.int v4)] [] σ := zSeq_ok hX zm_X4_leastWithin zo_X4_leastWithin_9 9 9 _ _ _ zk_X4_leastWithin_9 h
theorem ze_X4_leastWithin {d : Nat} {post : zPo} (p0 : Int32) (p1 : Int64) (σ : zS) (h : ∀ X : zX, zClosed none (zCall d) post nX4_leastWithin X → X 0 [some (.ref 32), some (.int p0), some (.long p1), none, none] [] σ) : zCall (d + 1) nX4_leastWithin [.ref 32, .int p0, .long p1] σ post := h
-- X4_rootOf() depth 1
def zo_X4_rootOf_0 : List zOp := [(.iconst 0, 1, 0, 0, 0, 0, 0, 0, 0, []), (.istore_n 1, 2, 1, 0, 0, 0, 0, 0, 0, []), (.sipush 2048, 5, 0, 0, 0, 0, 0, 2048, 0, []), (.istore_n 2, 6, 2, 0, 0, 0, 0, 0, 0, [])]
set_option maxRecDepth 100000 in
theorem zk_X4_rootOf_0 : zOks nX4_rootOf zo_X4_rootOf_0 0 = true := by decide +kernel
def zo_X4_rootOf_6 : List zOp := [(.iload_n 2, 7, 2, 0, 0, 0, 0, 0, 0, []), (.ifCond .le 25, 10, 32, 0, 0, 0, 0, 0, 0, []), (.iload_n 1, 11, 1, 0, 0, 0, 0, 0, 0, []), (.iload_n 2, 12, 2, 0, 0, 0, 0, 0, 0, []), (.iadd, 13, 0, 0, 0, 0, 0, 0, 0, []), (.iload_n 1, 14, 1, 0, 0, 0, 0, 0, 0, []), (.iload_n 2, 15, 2, 0, 0, 0, 0, 0, 0, []), (.iadd, 16, 0, 0, 0, 0, 0, 0, 0, []), (.imul, 17, 0, 0, 0, 0, 0, 0, 0, []), (.iload_n 0, 18, 0, 0, 0, 0, 0, 0, 0, []), (.if_icmp .gt 7, 21, 25, 0, 0, 0, 0, 0, 0, []), (.iload_n 1, 22, 1, 0, 0, 0, 0, 0, 0, []), (.iload_n 2, 23, 2, 0, 0, 0, 0, 0, 0, []), (.iadd, 24, 0, 0, 0, 0, 0, 0, 0, []), (.istore_n 1, 25, 1, 0, 0, 0, 0, 0, 0, []), (.iload_n 2, 26, 2, 0, 0, 0, 0, 0, 0, []), (.iconst 2, 27, 0, 0, 0, 0, 0, 2, 0, []), (.idiv, 28, 0, 0, 0, 0, 0, 0, 0, []), (.istore_n 2, 29, 2, 0, 0, 0, 0, 0, 0, []), (.goto (-23), 32, 6, 0, 0, 0, 0, 0, 0, []), (.iload_n 1, 33, 1, 0, 0, 0, 0, 0, 0, []), (.ireturn, 34, 0, 0, 0, 0, 0, 0, 0, [])]
set_option maxRecDepth 100000 in
theorem zk_X4_rootOf_6 : zOks nX4_rootOf zo_X4_rootOf_6 6 = true := by decide +kernel
def zm_X4_rootOf : List (Nat × List Bool) := [(0, [true, false, false]), (6, [true, true, true])]
set_option maxRecDepth 100000 in
set_option maxHeartbeats 4000000 in
theorem zr_X4_rootOf_0 {C : zCa} {post : zPo} {X : zX} (hX : zClosed none C post nX4_rootOf X) (p0 : Int32) (σ : zS) (h : X 6 [some (.int p0), some (.int 0), some (.int 2048)] [] σ) : X 0 [some (.int p0), none, none] [] σ := zSeq_ok hX zm_X4_rootOf zo_X4_rootOf_0 0 0 _ _ _ zk_X4_rootOf_0 h
set_option maxRecDepth 100000 in
set_option maxHeartbeats 4000000 in
theorem zr_X4_rootOf_6 {C : zCa} {post : zPo} {X : zX} (hX : zClosed none C post nX4_rootOf X) (v0 : Int32) (v1 : Int32) (v2 : Int32) (σ : zS) (h : zIf ((v2 : Int32) ≤ 0) (post (some (.int v1)) σ) (zIf (((v1 + v2) * (v1 + v2) : Int32) ≤ v0) (¬ (2 : Int32) = 0 ∧ (X 6 [some (.int v0), some (.int (v1 + v2)), some (.int (v2 / 2))] [] σ)) (¬ (2 : Int32) = 0 ∧ (X 6 [some (.int v0), some (.int v1), some (.int (v2 / 2))] [] σ)))) : X 6 [some (.int v0), some (.int v1), some (.int v2)] [] σ := zSeq_ok hX zm_X4_rootOf zo_X4_rootOf_6 6 6 _ _ _ zk_X4_rootOf_6 h
theorem ze_X4_rootOf {d : Nat} {post : zPo} (p0 : Int32) (σ : zS) (h : ∀ X : zX, zClosed none (zCall d) post nX4_rootOf X → X 0 [some (.int p0), none, none] [] σ) : zCall (d + 1) nX4_rootOf [.int p0] σ post := h
-- X4_weighShares(32,) depth 3
def zo_X4_weighShares_0 : List zOp := [(.lconst 0, 1, 0, 0, 0, 0, 0, 0, 0, []), (.lstore_n 1, 2, 1, 0, 0, 0, 0, 0, 0, []), (.iconst 0, 3, 0, 0, 0, 0, 0, 0, 0, []), (.istore_n 3, 4, 3, 0, 0, 0, 0, 0, 0, [])]
set_option maxRecDepth 100000 in
theorem zk_X4_weighShares_0 : zOks nX4_weighShares zo_X4_weighShares_0 0 = true := by decide +kernel
def zo_X4_weighShares_4 : List zOp := [(.iload_n 3, 5, 3, 0, 0, 0, 0, 0, 0, []), (.aload_n 0, 6, 0, 0, 0, 0, 0, 0, 0, []), (.getfield 30, 9, 4, 2, 0, 0, 373, 0, 0, []), (.getfield 35, 12, 3, 0, 1, 0, 237, 0, 0, []), (.if_icmp .ge 53, 15, 65, 0, 0, 0, 0, 0, 0, []), (.aload_n 0, 16, 0, 0, 0, 0, 0, 0, 0, []), (.getfield 30, 19, 4, 2, 0, 0, 373, 0, 0, []), (.getfield 104, 22, 3, 7, 0, 0, 259, 0, 0, []), (.iload_n 3, 23, 3, 0, 0, 0, 0, 0, 0, []), (.invokestatic 73, 26, 126, 2, 1, 0, 725, 0, 0, []), (.aload_n 0, 27, 0, 0, 0, 0, 0, 0, 0, []), (.getfield 15, 30, 4, 0, 0, 0, 371, 0, 0, []), (.iload_n 3, 31, 3, 0, 0, 0, 0, 0, 0, []), (.invokevirtual 107, 34, 59, 2, 1, 6, 802, 0, 0, []), (.imul, 35, 0, 0, 0, 0, 0, 0, 0, []), (.bipush 64, 37, 0, 0, 0, 0, 0, 64, 0, []), (.imul, 38, 0, 0, 0, 0, 0, 0, 0, []), (.invokestatic 110, 41, 43, 1, 1, 0, 803, 0, 0, []), (.istore 4, 43, 4, 0, 0, 0, 0, 0, 0, []), (.aload_n 0, 44, 0, 0, 0, 0, 0, 0, 0, []), (.getfield 9, 47, 4, 4, 0, 0, 375, 0, 0, []), (.iload_n 3, 48, 3, 0, 0, 0, 0, 0, 0, []), (.iload 4, 50, 4, 0, 0, 0, 0, 0, 0, []), (.invokestatic 51, 53, 128, 3, 0, 0, 738, 0, 0, []), (.lload_n 1, 54, 1, 0, 0, 0, 0, 0, 0, []), (.iload 4, 56, 4, 0, 0, 0, 0, 0, 0, []), (.i2l, 57, 0, 0, 0, 0, 0, 0, 0, []), (.ladd, 58, 0, 0, 0, 0, 0, 0, 0, []), (.lstore_n 1, 59, 1, 0, 0, 0, 0, 0, 0, []), (.iinc 3 1, 62, 3, 0, 0, 0, 0, 1, 0, []), (.goto (-58), 65, 4, 0, 0, 0, 0, 0, 0, []), (.lload_n 1, 66, 1, 0, 0, 0, 0, 0, 0, []), (.lreturn, 67, 0, 0, 0, 0, 0, 0, 0, [])]
set_option maxRecDepth 100000 in
theorem zk_X4_weighShares_4 : zOks nX4_weighShares zo_X4_weighShares_4 4 = true := by decide +kernel
def zm_X4_weighShares : List (Nat × List Bool) := [(0, [true, false, false, false, false]), (4, [true, true, false, true, false])]
set_option maxRecDepth 100000 in
set_option maxHeartbeats 4000000 in
theorem zr_X4_weighShares_0 {C : zCa} {post : zPo} {X : zX} (hX : zClosed none C post nX4_weighShares X) (σ : zS) (h : X 4 [some (.ref 32), some (.long 0), none, some (.int 0), none] [] σ) : X 0 [some (.ref 32), none, none, none, none] [] σ := zSeq_ok hX zm_X4_weighShares zo_X4_weighShares_0 0 0 _ _ _ zk_X4_weighShares_0 h
set_option maxRecDepth 100000 in
set_option maxHeartbeats 4000000 in
theorem zr_X4_weighShares_4 {C : zCa} {post : zPo} {X : zX} (hX : zClosed none C post nX4_weighShares X) (v1 : Int64) (v3 : Int32) (σ : zS) (h : zIf ((v3 : Int32) < (σ.1 16 0)) (C nX11_at [.ref 21, .int v3] σ (zPI fun x2 σ1 => C nX6_weightOf [.ref 24, .int v3] σ1 (zPI fun x4 σ3 => C nX4_rootOf [.int ((x2 * x4) * 64)] σ3 (zPI fun x6 σ5 => C nX11_put [.ref 33, .int v3, .int x6] σ5 (zPV fun σ7 => X 4 [some (.ref 32), some (.long (v1 + (Int32.toInt64 x6))), none, some (.int (v3 + 1)), none] [] σ7))))) (post (some (.long v1)) σ)) : X 4 [some (.ref 32), some (.long v1), none, some (.int v3), none] [] σ := zSeq_ok hX zm_X4_weighShares zo_X4_weighShares_4 4 4 _ _ _ zk_X4_weighShares_4 h
theorem ze_X4_weighShares {d : Nat} {post : zPo} (σ : zS) (h : ∀ X : zX, zClosed none (zCall d) post nX4_weighShares X → X 0 [some (.ref 32), none, none, none, none] [] σ) : zCall (d + 1) nX4_weighShares [.ref 32] σ post := h
-- X4_planDistributed(32, None) depth 4
def zo_X4_planDistributed_0 : List zOp := [(.aload_n 0, 1, 0, 0, 0, 0, 0, 0, 0, []), (.invokevirtual 94, 4, 41, 1, 2, 4, 798, 0, 0, []), (.lstore_n 3, 5, 3, 0, 0, 0, 0, 0, 0, []), (.iload_n 2, 6, 2, 0, 0, 0, 0, 0, 0, []), (.bipush 40, 8, 0, 0, 0, 0, 0, 40, 0, []), (.aload_n 0, 9, 0, 0, 0, 0, 0, 0, 0, []), (.getfield 30, 12, 4, 2, 0, 0, 373, 0, 0, []), (.getfield 35, 15, 3, 0, 1, 0, 237, 0, 0, []), (.imul, 16, 0, 0, 0, 0, 0, 0, 0, []), (.isub, 17, 0, 0, 0, 0, 0, 0, 0, []), (.i2l, 18, 0, 0, 0, 0, 0, 0, 0, []), (.lstore 5, 20, 5, 0, 0, 0, 0, 0, 0, []), (.iconst 0, 21, 0, 0, 0, 0, 0, 0, 0, []), (.istore 7, 23, 7, 0, 0, 0, 0, 0, 0, [])]
set_option maxRecDepth 100000 in
theorem zk_X4_planDistributed_0 : zOks nX4_planDistributed zo_X4_planDistributed_0 0 = true := by decide +kernel
def zo_X4_planDistributed_23 : List zOp := [(.iload 7, 25, 7, 0, 0, 0, 0, 0, 0, []), (.aload_n 0, 26, 0, 0, 0, 0, 0, 0, 0, []), (.getfield 30, 29, 4, 2, 0, 0, 373, 0, 0, []), (.getfield 35, 32, 3, 0, 1, 0, 237, 0, 0, []), (.if_icmp .ge 55, 35, 87, 0, 0, 0, 0, 0, 0, []), (.ldc2_w 98, 38, 0, 0, 0, 0, 806, 0, 40, []), (.lload 5, 40, 5, 0, 0, 0, 0, 0, 0, []), (.aload_n 0, 41, 0, 0, 0, 0, 0, 0, 0, []), (.getfield 9, 44, 4, 4, 0, 0, 375, 0, 0, []), (.iload 7, 46, 7, 0, 0, 0, 0, 0, 0, []), (.invokestatic 73, 49, 126, 2, 1, 0, 725, 0, 0, []), (.i2l, 50, 0, 0, 0, 0, 0, 0, 0, []), (.lmul, 51, 0, 0, 0, 0, 0, 0, 0, []), (.lload_n 3, 52, 3, 0, 0, 0, 0, 0, 0, []), (.invokestatic 80, 55, 131, 2, 2, 0, 786, 0, 0, []), (.ladd, 56, 0, 0, 0, 0, 0, 0, 0, []), (.lstore 8, 58, 8, 0, 0, 0, 0, 0, 0, []), (.aload_n 1, 59, 1, 0, 0, 0, 0, 0, 0, []), (.iload 7, 61, 7, 0, 0, 0, 0, 0, 0, []), (.aload_n 0, 62, 0, 0, 0, 0, 0, 0, 0, []), (.getfield 25, 65, 4, 1, 0, 0, 372, 0, 0, []), (.iload 7, 67, 7, 0, 0, 0, 0, 0, 0, []), (.aload_n 0, 68, 0, 0, 0, 0, 0, 0, 0, []), (.iload 7, 70, 7, 0, 0, 0, 0, 0, 0, []), (.lload 8, 72, 8, 0, 0, 0, 0, 0, 0, []), (.invokevirtual 100, 75, 42, 3, 1, 4, 807, 0, 0, []), (.invokevirtual 45, 78, 64, 3, 1, 8, 726, 0, 0, []), (.invokestatic 51, 81, 128, 3, 0, 0, 738, 0, 0, []), (.iinc 7 1, 84, 7, 0, 0, 0, 0, 1, 0, []), (.goto (-61), 87, 23, 0, 0, 0, 0, 0, 0, []), (.return_, 88, 0, 0, 0, 0, 0, 0, 0, [])]
set_option maxRecDepth 100000 in
theorem zk_X4_planDistributed_23 : zOks nX4_planDistributed zo_X4_planDistributed_23 23 = true := by decide +kernel
def zm_X4_planDistributed : List (Nat × List Bool) := [(0, [true, true, true, false, false, false, false, false, false, false]), (23, [true, true, false, true, false, true, false, true, false, false])]
set_option maxRecDepth 100000 in
set_option maxHeartbeats 4000000 in
theorem zr_X4_planDistributed_0 {C : zCa} {post : zPo} {X : zX} (hX : zClosed none C post nX4_planDistributed X) (p0 : Nat) (p1 : Int32) (σ : zS) (h : C nX4_weighShares [.ref 32] σ (zPJ fun x2 σ1 => X 23 [some (.ref 32), some (.ref p0), none, some (.long x2), none, some (.long (Int32.toInt64 (p1 - (40 * (σ1.1 16 0))))), none, some (.int 0), none, none] [] σ1)) : X 0 [some (.ref 32), some (.ref p0), some (.int p1), none, none, none, none, none, none, none] [] σ := zSeq_ok hX zm_X4_planDistributed zo_X4_planDistributed_0 0 0 _ _ _ zk_X4_planDistributed_0 h
set_option maxRecDepth 100000 in
set_option maxHeartbeats 4000000 in
theorem zr_X4_planDistributed_23 {C : zCa} {post : zPo} {X : zX} (hX : zClosed none C post nX4_planDistributed X) (p0 : Nat) (v3 : Int64) (v5 : Int64) (v7 : Int32) (σ : zS) (h : zIf ((v7 : Int32) < (σ.1 16 0)) (C nX11_at [.ref 33, .int v7] σ (zPI fun x2 σ1 => C nX11_ratio [.long (v5 * (Int32.toInt64 x2)), .long v3] σ1 (zPJ fun x4 σ3 => C nX4_leastWithin [.ref 32, .int v7, .long (40 + x4)] σ3 (zPI fun x6 σ5 => C nX8_settle [.ref 4, .int v7, .int x6] σ5 (zPI fun x8 σ7 => C nX11_put [.ref p0, .int v7, .int x8] σ7 (zPV fun σ9 => X 23 [some (.ref 32), some (.ref p0), none, some (.long v3), none, some (.long v5), none, some (.int (v7 + 1)), none, none] [] σ9)))))) (post none σ)) : X 23 [some (.ref 32), some (.ref p0), none, some (.long v3), none, some (.long v5), none, some (.int v7), none, none] [] σ := zSeq_ok hX zm_X4_planDistributed zo_X4_planDistributed_23 23 23 _ _ _ zk_X4_planDistributed_23 h
theorem ze_X4_planDistributed {d : Nat} {post : zPo} (p0 : Nat) (p1 : Int32) (σ : zS) (h : ∀ X : zX, zClosed none (zCall d) post nX4_planDistributed X → X 0 [some (.ref 32), some (.ref p0), some (.int p1), none, none, none, none, none, none, none] [] σ) : zCall (d + 1) nX4_planDistributed [.ref 32, .ref p0, .int p1] σ post := h
-- X2_suffices(39,) depth 4
def zo_X2_suffices_0 : List zOp := [(.iload_n 1, 1, 1, 0, 0, 0, 0, 0, 0, []), (.ifCond .ne 7, 4, 8, 0, 0, 0, 0, 0, 0, []), (.iload_n 2, 5, 2, 0, 0, 0, 0, 0, 0, []), (.goto 10, 8, 15, 0, 0, 0, 0, 0, 0, []), (.aload_n 0, 9, 0, 0, 0, 0, 0, 0, 0, []), (.getfield 21, 12, 2, 0, 0, 0, 425, 0, 0, []), (.getfield 51, 15, 8, 4, 1, 0, 141, 0, 0, []), (.istore_n 3, 16, 3, 0, 0, 0, 0, 0, 0, []), (.iload_n 1, 17, 1, 0, 0, 0, 0, 0, 0, []), (.iconst 1, 18, 0, 0, 0, 0, 0, 1, 0, []), (.if_icmp .ne 7, 21, 25, 0, 0, 0, 0, 0, 0, []), (.iload_n 2, 22, 2, 0, 0, 0, 0, 0, 0, []), (.goto 10, 25, 32, 0, 0, 0, 0, 0, 0, []), (.aload_n 0, 26, 0, 0, 0, 0, 0, 0, 0, []), (.getfield 21, 29, 2, 0, 0, 0, 425, 0, 0, []), (.getfield 57, 32, 8, 5, 1, 0, 146, 0, 0, []), (.istore 4, 34, 4, 0, 0, 0, 0, 0, 0, []), (.iload_n 1, 35, 1, 0, 0, 0, 0, 0, 0, []), (.iconst 2, 36, 0, 0, 0, 0, 0, 2, 0, []), (.if_icmp .ne 7, 39, 43, 0, 0, 0, 0, 0, 0, []), (.iload_n 2, 40, 2, 0, 0, 0, 0, 0, 0, []), (.goto 10, 43, 50, 0, 0, 0, 0, 0, 0, []), (.aload_n 0, 44, 0, 0, 0, 0, 0, 0, 0, []), (.getfield 21, 47, 2, 0, 0, 0, 425, 0, 0, []), (.getfield 60, 50, 8, 6, 1, 0, 151, 0, 0, []), (.istore 5, 52, 5, 0, 0, 0, 0, 0, 0, []), (.aload_n 0, 53, 0, 0, 0, 0, 0, 0, 0, []), (.getfield 27, 56, 2, 2, 0, 0, 427, 0, 0, []), (.iload_n 3, 57, 3, 0, 0, 0, 0, 0, 0, []), (.iload 4, 59, 4, 0, 0, 0, 0, 0, 0, []), (.iload 5, 61, 5, 0, 0, 0, 0, 0, 0, []), (.invokevirtual 63, 64, 8, 4, 0, 1, 970, 0, 0, []), (.aload_n 0, 65, 0, 0, 0, 0, 0, 0, 0, []), (.getfield 27, 68, 2, 2, 0, 0, 427, 0, 0, []), (.getfield 67, 71, 1, 0, 1, 0, 325, 0, 0, []), (.ifCond .ne 7, 74, 78, 0, 0, 0, 0, 0, 0, []), (.iconst 1, 75, 0, 0, 0, 0, 0, 1, 0, []), (.goto 4, 78, 79, 0, 0, 0, 0, 0, 0, []), (.iconst 0, 79, 0, 0, 0, 0, 0, 0, 0, []), (.ireturn, 80, 0, 0, 1, 0, 0, 0, 0, [])]
set_option maxRecDepth 100000 in
theorem zk_X2_suffices_0 : zOks nX2_suffices zo_X2_suffices_0 0 = true := by decide +kernel
def zm_X2_suffices : List (Nat × List Bool) := [(0, [true, true, true, false, false, false])]
set_option maxRecDepth 100000 in
set_option maxHeartbeats 4000000 in
theorem zr_X2_suffices_0 {C : zCa} {post : zPo} {X : zX} (hX : zClosed none C post nX2_suffices X) (p0 : Int32) (p1 : Int32) (σ : zS) (h : zIf ((p0 : Int32) = 0) (zIf ((p0 : Int32) = 1) (zIf ((p0 : Int32) = 2) (C nX1_pass [.ref 26, .int p1, .int p1, .int p1] σ (zPV fun σ1 => zIf ((σ1.1 26 0 : Int32) = 0) (post (some (.int 1)) σ1) (post (some (.int 0)) σ1))) (C nX1_pass [.ref 26, .int p1, .int p1, .int (σ.1 4 6)] σ (zPV fun σ2 => zIf ((σ2.1 26 0 : Int32) = 0) (post (some (.int 1)) σ2) (post (some (.int 0)) σ2)))) (zIf ((p0 : Int32) = 2) (C nX1_pass [.ref 26, .int p1, .int (σ.1 4 5), .int p1] σ (zPV fun σ3 => zIf ((σ3.1 26 0 : Int32) = 0) (post (some (.int 1)) σ3) (post (some (.int 0)) σ3))) (C nX1_pass [.ref 26, .int p1, .int (σ.1 4 5), .int (σ.1 4 6)] σ (zPV fun σ4 => zIf ((σ4.1 26 0 : Int32) = 0) (post (some (.int 1)) σ4) (post (some (.int 0)) σ4))))) (zIf ((p0 : Int32) = 1) (zIf ((p0 : Int32) = 2) (C nX1_pass [.ref 26, .int (σ.1 4 4), .int p1, .int p1] σ (zPV fun σ5 => zIf ((σ5.1 26 0 : Int32) = 0) (post (some (.int 1)) σ5) (post (some (.int 0)) σ5))) (C nX1_pass [.ref 26, .int (σ.1 4 4), .int p1, .int (σ.1 4 6)] σ (zPV fun σ6 => zIf ((σ6.1 26 0 : Int32) = 0) (post (some (.int 1)) σ6) (post (some (.int 0)) σ6)))) (zIf ((p0 : Int32) = 2) (C nX1_pass [.ref 26, .int (σ.1 4 4), .int (σ.1 4 5), .int p1] σ (zPV fun σ7 => zIf ((σ7.1 26 0 : Int32) = 0) (post (some (.int 1)) σ7) (post (some (.int 0)) σ7))) (C nX1_pass [.ref 26, .int (σ.1 4 4), .int (σ.1 4 5), .int (σ.1 4 6)] σ (zPV fun σ8 => zIf ((σ8.1 26 0 : Int32) = 0) (post (some (.int 1)) σ8) (post (some (.int 0)) σ8)))))) : X 0 [some (.ref 39), some (.int p0), some (.int p1), none, none, none] [] σ := zSeq_ok hX zm_X2_suffices zo_X2_suffices_0 0 0 _ _ _ zk_X2_suffices_0 h
theorem ze_X2_suffices {d : Nat} {post : zPo} (p0 : Int32) (p1 : Int32) (σ : zS) (h : ∀ X : zX, zClosed none (zCall d) post nX2_suffices X → X 0 [some (.ref 39), some (.int p0), some (.int p1), none, none, none] [] σ) : zCall (d + 1) nX2_suffices [.ref 39, .int p0, .int p1] σ post := h
-- X2_findLeast(39, None) depth 5
def zo_X2_findLeast_0 : List zOp := [(.aload_n 0, 1, 0, 0, 0, 0, 0, 0, 0, []), (.getfield 27, 4, 2, 2, 0, 0, 427, 0, 0, []), (.aload_n 1, 5, 1, 0, 0, 0, 0, 0, 0, []), (.invokevirtual 41, 8, 6, 2, 0, 1, 965, 0, 0, []), (.aload_n 0, 9, 0, 0, 0, 0, 0, 0, 0, []), (.iload_n 2, 10, 2, 0, 0, 0, 0, 0, 0, []), (.iload 4, 12, 4, 0, 0, 0, 0, 0, 0, []), (.invokevirtual 47, 15, 20, 3, 1, 2, 966, 0, 0, []), (.ifCond .ne 5, 18, 20, 0, 0, 0, 0, 0, 0, []), (.iconst (-1), 19, 0, 0, 0, 0, 0, (-1), 0, []), (.ireturn, 20, 0, 0, 0, 0, 0, 0, 0, []), (.iload_n 3, 21, 3, 0, 0, 0, 0, 0, 0, []), (.istore 5, 23, 5, 0, 0, 0, 0, 0, 0, []), (.iload 4, 25, 4, 0, 0, 0, 0, 0, 0, []), (.istore 6, 27, 6, 0, 0, 0, 0, 0, 0, []), (.iconst 0, 28, 0, 0, 0, 0, 0, 0, 0, []), (.istore 7, 30, 7, 0, 0, 0, 0, 0, 0, [])]
set_option maxRecDepth 100000 in
theorem zk_X2_findLeast_0 : zOks nX2_findLeast zo_X2_findLeast_0 0 = true := by decide +kernel
def zo_X2_findLeast_30 : List zOp := [(.iload 7, 32, 7, 0, 0, 0, 0, 0, 0, []), (.bipush 32, 34, 0, 0, 0, 0, 0, 32, 0, []), (.if_icmp .ge 48, 37, 82, 0, 0, 0, 0, 0, 0, []), (.iload 5, 39, 5, 0, 0, 0, 0, 0, 0, []), (.iload 6, 41, 6, 0, 0, 0, 0, 0, 0, []), (.if_icmp .ge 41, 44, 82, 0, 0, 0, 0, 0, 0, []), (.iload 5, 46, 5, 0, 0, 0, 0, 0, 0, []), (.iload 6, 48, 6, 0, 0, 0, 0, 0, 0, []), (.iadd, 49, 0, 0, 0, 0, 0, 0, 0, []), (.iconst 2, 50, 0, 0, 0, 0, 0, 2, 0, []), (.idiv, 51, 0, 0, 0, 0, 0, 0, 0, []), (.istore 8, 53, 8, 0, 0, 0, 0, 0, 0, []), (.aload_n 0, 54, 0, 0, 0, 0, 0, 0, 0, []), (.iload_n 2, 55, 2, 0, 0, 0, 0, 0, 0, []), (.iload 8, 57, 8, 0, 0, 0, 0, 0, 0, []), (.invokevirtual 47, 60, 20, 3, 1, 2, 966, 0, 0, []), (.ifCond .eq 10, 63, 70, 0, 0, 0, 0, 0, 0, []), (.iload 8, 65, 8, 0, 0, 0, 0, 0, 0, []), (.istore 6, 67, 6, 0, 0, 0, 0, 0, 0, []), (.goto 9, 70, 76, 0, 0, 0, 0, 0, 0, []), (.iload 8, 72, 8, 0, 0, 0, 0, 0, 0, []), (.iconst 1, 73, 0, 0, 0, 0, 0, 1, 0, []), (.iadd, 74, 0, 0, 0, 0, 0, 0, 0, []), (.istore 5, 76, 5, 0, 0, 0, 0, 0, 0, []), (.iinc 7 1, 79, 7, 0, 0, 0, 0, 1, 0, []), (.goto (-49), 82, 30, 0, 0, 0, 0, 0, 0, []), (.iload 5, 84, 5, 0, 0, 0, 0, 0, 0, []), (.ireturn, 85, 0, 0, 0, 0, 0, 0, 0, [])]
set_option maxRecDepth 100000 in
theorem zk_X2_findLeast_30 : zOks nX2_findLeast zo_X2_findLeast_30 30 = true := by decide +kernel
def zm_X2_findLeast : List (Nat × List Bool) := [(0, [true, true, true, true, true, false, false, false, false]), (30, [true, false, true, false, false, true, true, true, false])]
set_option maxRecDepth 100000 in
set_option maxHeartbeats 4000000 in
theorem zr_X2_findLeast_0 {C : zCa} {post : zPo} {X : zX} (hX : zClosed none C post nX2_findLeast X) (p0 : Nat) (p1 : Int32) (p2 : Int32) (p3 : Int32) (σ : zS) (h : C nX1_takeBits [.ref 26, .ref p0] σ (zPV fun σ1 => C nX2_suffices [.ref 39, .int p1, .int p3] σ1 (zPI fun x3 σ2 => zIf ((x3 : Int32) = 0) (post (some (.int (-1))) σ2) (X 30 [some (.ref 39), none, some (.int p1), none, none, some (.int p2), some (.int p3), some (.int 0), none] [] σ2)))) : X 0 [some (.ref 39), some (.ref p0), some (.int p1), some (.int p2), some (.int p3), none, none, none, none] [] σ := zSeq_ok hX zm_X2_findLeast zo_X2_findLeast_0 0 0 _ _ _ zk_X2_findLeast_0 h
set_option maxRecDepth 100000 in
set_option maxHeartbeats 4000000 in
theorem zr_X2_findLeast_30 {C : zCa} {post : zPo} {X : zX} (hX : zClosed none C post nX2_findLeast X) (v2 : Int32) (v5 : Int32) (v6 : Int32) (v7 : Int32) (σ : zS) (h : zIf ((v7 : Int32) < 32) (zIf ((v5 : Int32) < v6) (¬ (2 : Int32) = 0 ∧ (C nX2_suffices [.ref 39, .int v2, .int ((v5 + v6) / 2)] σ (zPI fun x2 σ1 => zIf ((x2 : Int32) = 0) (X 30 [some (.ref 39), none, some (.int v2), none, none, some (.int (((v5 + v6) / 2) + 1)), some (.int v6), some (.int (v7 + 1)), none] [] σ1) (X 30 [some (.ref 39), none, some (.int v2), none, none, some (.int v5), some (.int ((v5 + v6) / 2)), some (.int (v7 + 1)), none] [] σ1)))) (post (some (.int v5)) σ)) (post (some (.int v5)) σ)) : X 30 [some (.ref 39), none, some (.int v2), none, none, some (.int v5), some (.int v6), some (.int v7), none] [] σ := zSeq_ok hX zm_X2_findLeast zo_X2_findLeast_30 30 30 _ _ _ zk_X2_findLeast_30 h
theorem ze_X2_findLeast {d : Nat} {post : zPo} (p0 : Nat) (p1 : Int32) (p2 : Int32) (p3 : Int32) (σ : zS) (h : ∀ X : zX, zClosed none (zCall d) post nX2_findLeast X → X 0 [some (.ref 39), some (.ref p0), some (.int p1), some (.int p2), some (.int p3), none, none, none, none] [] σ) : zCall (d + 1) nX2_findLeast [.ref 39, .ref p0, .int p1, .int p2, .int p3] σ post := h
-- X2_findRate(39, None) depth 6
def zo_X2_findRate_0 : List zOp := [(.aload_n 0, 1, 0, 0, 0, 0, 0, 0, 0, []), (.aload_n 1, 2, 1, 0, 0, 0, 0, 0, 0, []), (.iconst 2, 3, 0, 0, 0, 0, 0, 2, 0, []), (.iconst 0, 4, 0, 0, 0, 0, 0, 0, 0, []), (.ldc 40, 6, 0, 0, 0, 0, 987, 100000, 0, []), (.invokevirtual 36, 9, 19, 5, 1, 2, 961, 0, 0, []), (.ireturn, 10, 0, 0, 0, 0, 0, 0, 0, [])]
set_option maxRecDepth 100000 in
theorem zk_X2_findRate_0 : zOks nX2_findRate zo_X2_findRate_0 0 = true := by decide +kernel
def zm_X2_findRate : List (Nat × List Bool) := [(0, [true, true])]
set_option maxRecDepth 100000 in
set_option maxHeartbeats 4000000 in
theorem zr_X2_findRate_0 {C : zCa} {post : zPo} {X : zX} (hX : zClosed none C post nX2_findRate X) (p0 : Nat) (σ : zS) (h : C nX2_findLeast [.ref 39, .ref p0, .int 2, .int 0, .int 100000] σ (zPI fun x2 σ1 => post (some (.int x2)) σ1)) : X 0 [some (.ref 39), some (.ref p0)] [] σ := zSeq_ok hX zm_X2_findRate zo_X2_findRate_0 0 0 _ _ _ zk_X2_findRate_0 h
theorem ze_X2_findRate {d : Nat} {post : zPo} (p0 : Nat) (σ : zS) (h : ∀ X : zX, zClosed none (zCall d) post nX2_findRate X → X 0 [some (.ref 39), some (.ref p0)] [] σ) : zCall (d + 1) nX2_findRate [.ref 39, .ref p0] σ post := h
-- X2_findSize(39, None) depth 6
def zo_X2_findSize_0 : List zOp := [(.aload_n 0, 1, 0, 0, 0, 0, 0, 0, 0, []), (.aload_n 1, 2, 1, 0, 0, 0, 0, 0, 0, []), (.iconst 0, 3, 0, 0, 0, 0, 0, 0, 0, []), (.bipush 100, 5, 0, 0, 0, 0, 0, 100, 0, []), (.ldc 35, 7, 0, 0, 0, 0, 960, 1000000, 0, []), (.invokevirtual 36, 10, 19, 5, 1, 2, 961, 0, 0, []), (.ireturn, 11, 0, 0, 0, 0, 0, 0, 0, [])]
set_option maxRecDepth 100000 in
theorem zk_X2_findSize_0 : zOks nX2_findSize zo_X2_findSize_0 0 = true := by decide +kernel
def zm_X2_findSize : List (Nat × List Bool) := [(0, [true, true])]
set_option maxRecDepth 100000 in
set_option maxHeartbeats 4000000 in
theorem zr_X2_findSize_0 {C : zCa} {post : zPo} {X : zX} (hX : zClosed none C post nX2_findSize X) (p0 : Nat) (σ : zS) (h : C nX2_findLeast [.ref 39, .ref p0, .int 0, .int 100, .int 1000000] σ (zPI fun x2 σ1 => post (some (.int x2)) σ1)) : X 0 [some (.ref 39), some (.ref p0)] [] σ := zSeq_ok hX zm_X2_findSize zo_X2_findSize_0 0 0 _ _ _ zk_X2_findSize_0 h
theorem ze_X2_findSize {d : Nat} {post : zPo} (p0 : Nat) (σ : zS) (h : ∀ X : zX, zClosed none (zCall d) post nX2_findSize X → X 0 [some (.ref 39), some (.ref p0)] [] σ) : zCall (d + 1) nX2_findSize [.ref 39, .ref p0] σ post := h
-- X2_findStart(39, None) depth 6
def zo_X2_findStart_0 : List zOp := [(.aload_n 0, 1, 0, 0, 0, 0, 0, 0, 0, []), (.aload_n 1, 2, 1, 0, 0, 0, 0, 0, 0, []), (.iconst 1, 3, 0, 0, 0, 0, 0, 1, 0, []), (.iconst 0, 4, 0, 0, 0, 0, 0, 0, 0, []), (.bipush 100, 6, 0, 0, 0, 0, 0, 100, 0, []), (.invokevirtual 36, 9, 19, 5, 1, 2, 961, 0, 0, []), (.ireturn, 10, 0, 0, 0, 0, 0, 0, 0, [])]
set_option maxRecDepth 100000 in
theorem zk_X2_findStart_0 : zOks nX2_findStart zo_X2_findStart_0 0 = true := by decide +kernel
def zm_X2_findStart : List (Nat × List Bool) := [(0, [true, true])]
set_option maxRecDepth 100000 in
set_option maxHeartbeats 4000000 in
theorem zr_X2_findStart_0 {C : zCa} {post : zPo} {X : zX} (hX : zClosed none C post nX2_findStart X) (p0 : Nat) (σ : zS) (h : C nX2_findLeast [.ref 39, .ref p0, .int 1, .int 0, .int 100] σ (zPI fun x2 σ1 => post (some (.int x2)) σ1)) : X 0 [some (.ref 39), some (.ref p0)] [] σ := zSeq_ok hX zm_X2_findStart zo_X2_findStart_0 0 0 _ _ _ zk_X2_findStart_0 h
theorem ze_X2_findStart {d : Nat} {post : zPo} (p0 : Nat) (σ : zS) (h : ∀ X : zX, zClosed none (zCall d) post nX2_findStart X → X 0 [some (.ref 39), some (.ref p0)] [] σ) : zCall (d + 1) nX2_findStart [.ref 39, .ref p0] σ post := h
-- X1_sumOfBits(26,) depth 2
def zo_X1_sumOfBits_0 : List zOp := [(.iconst 0, 1, 0, 0, 0, 0, 0, 0, 0, []), (.istore_n 1, 2, 1, 0, 0, 0, 0, 0, 0, []), (.iconst 0, 3, 0, 0, 0, 0, 0, 0, 0, []), (.istore_n 2, 4, 2, 0, 0, 0, 0, 0, 0, [])]
set_option maxRecDepth 100000 in
theorem zk_X1_sumOfBits_0 : zOks nX1_sumOfBits zo_X1_sumOfBits_0 0 = true := by decide +kernel
def zo_X1_sumOfBits_4 : List zOp := [(.iload_n 2, 5, 2, 0, 0, 0, 0, 0, 0, []), (.aload_n 0, 6, 0, 0, 0, 0, 0, 0, 0, []), (.getfield 27, 9, 1, 6, 0, 0, 340, 0, 0, []), (.getfield 38, 12, 6, 0, 0, 0, 304, 0, 0, []), (.getfield 44, 15, 3, 0, 1, 0, 239, 0, 0, []), (.if_icmp .ge 20, 18, 35, 0, 0, 0, 0, 0, 0, []), (.iload_n 1, 19, 1, 0, 0, 0, 0, 0, 0, []), (.aload_n 0, 20, 0, 0, 0, 0, 0, 0, 0, []), (.getfield 9, 23, 1, 1, 0, 0, 328, 0, 0, []), (.iload_n 2, 24, 2, 0, 0, 0, 0, 0, 0, []), (.invokestatic 53, 27, 126, 2, 1, 0, 751, 0, 0, []), (.iadd, 28, 0, 0, 0, 0, 0, 0, 0, []), (.istore_n 1, 29, 1, 0, 0, 0, 0, 0, 0, []), (.iinc 2 1, 32, 2, 0, 0, 0, 0, 1, 0, []), (.goto (-28), 35, 4, 0, 0, 0, 0, 0, 0, []), (.iload_n 1, 36, 1, 0, 0, 0, 0, 0, 0, []), (.ireturn, 37, 0, 0, 0, 0, 0, 0, 0, [])]
set_option maxRecDepth 100000 in
theorem zk_X1_sumOfBits_4 : zOks nX1_sumOfBits zo_X1_sumOfBits_4 4 = true := by decide +kernel
def zm_X1_sumOfBits : List (Nat × List Bool) := [(0, [true, false, false]), (4, [true, true, true])]
set_option maxRecDepth 100000 in
set_option maxHeartbeats 4000000 in
theorem zr_X1_sumOfBits_0 {C : zCa} {post : zPo} {X : zX} (hX : zClosed none C post nX1_sumOfBits X) (σ : zS) (h : X 4 [some (.ref 26), some (.int 0), some (.int 0)] [] σ) : X 0 [some (.ref 26), none, none] [] σ := zSeq_ok hX zm_X1_sumOfBits zo_X1_sumOfBits_0 0 0 _ _ _ zk_X1_sumOfBits_0 h
set_option maxRecDepth 100000 in
set_option maxHeartbeats 4000000 in
theorem zr_X1_sumOfBits_4 {C : zCa} {post : zPo} {X : zX} (hX : zClosed none C post nX1_sumOfBits X) (v1 : Int32) (v2 : Int32) (σ : zS) (h : zIf ((v2 : Int32) < (σ.1 16 0)) (C nX11_at [.ref 27, .int v2] σ (zPI fun x2 σ1 => X 4 [some (.ref 26), some (.int (v1 + x2)), some (.int (v2 + 1))] [] σ1)) (post (some (.int v1)) σ)) : X 4 [some (.ref 26), some (.int v1), some (.int v2)] [] σ := zSeq_ok hX zm_X1_sumOfBits zo_X1_sumOfBits_4 4 4 _ _ _ zk_X1_sumOfBits_4 h
theorem ze_X1_sumOfBits {d : Nat} {post : zPo} (σ : zS) (h : ∀ X : zX, zClosed none (zCall d) post nX1_sumOfBits X → X 0 [some (.ref 26), none, none] [] σ) : zCall (d + 1) nX1_sumOfBits [.ref 26] σ post := h
-- X5_canLower(34, None) depth 5
def zo_X5_canLower_0 : List zOp := [(.aload_n 0, 1, 0, 0, 0, 0, 0, 0, 0, []), (.getfield 40, 4, 5, 2, 0, 0, 395, 0, 0, []), (.getfield 51, 7, 3, 9, 0, 0, 264, 0, 0, []), (.iload_n 2, 8, 2, 0, 0, 0, 0, 0, 0, []), (.invokestatic 54, 11, 126, 2, 1, 0, 819, 0, 0, []), (.istore 5, 13, 5, 0, 0, 0, 0, 0, 0, []), (.aload_n 0, 14, 0, 0, 0, 0, 0, 0, 0, []), (.getfield 41, 17, 5, 3, 0, 0, 396, 0, 0, []), (.getfield 104, 20, 1, 1, 0, 0, 329, 0, 0, []), (.iload_n 2, 21, 2, 0, 0, 0, 0, 0, 0, []), (.invokestatic 54, 24, 126, 2, 1, 0, 819, 0, 0, []), (.istore 6, 26, 6, 0, 0, 0, 0, 0, 0, []), (.aload_n 0, 27, 0, 0, 0, 0, 0, 0, 0, []), (.getfield 25, 30, 5, 0, 0, 0, 393, 0, 0, []), (.iload 5, 32, 5, 0, 0, 0, 0, 0, 0, []), (.aload_n 1, 33, 1, 0, 0, 0, 0, 0, 0, []), (.iload 5, 35, 5, 0, 0, 0, 0, 0, 0, []), (.invokestatic 54, 38, 126, 2, 1, 0, 819, 0, 0, []), (.iconst 1, 39, 0, 0, 0, 0, 0, 1, 0, []), (.isub, 40, 0, 0, 0, 0, 0, 0, 0, []), (.invokevirtual 107, 43, 57, 3, 1, 6, 840, 0, 0, []), (.istore 7, 45, 7, 0, 0, 0, 0, 0, 0, []), (.aload_n 0, 46, 0, 0, 0, 0, 0, 0, 0, []), (.getfield 41, 49, 5, 3, 0, 0, 396, 0, 0, []), (.invokevirtual 152, 52, 14, 1, 1, 1, 890, 0, 0, []), (.iload 6, 54, 6, 0, 0, 0, 0, 0, 0, []), (.isub, 55, 0, 0, 0, 0, 0, 0, 0, []), (.iload 7, 57, 7, 0, 0, 0, 0, 0, 0, []), (.iadd, 58, 0, 0, 0, 0, 0, 0, 0, []), (.iload_n 3, 59, 3, 0, 0, 0, 0, 0, 0, []), (.if_icmp .le 5, 62, 64, 0, 0, 0, 0, 0, 0, []), (.iconst 0, 63, 0, 0, 0, 0, 0, 0, 0, []), (.ireturn, 64, 0, 0, 1, 0, 0, 0, 0, []), (.aload_n 0, 65, 0, 0, 0, 0, 0, 0, 0, []), (.getfield 41, 68, 5, 3, 0, 0, 396, 0, 0, []), (.getfield 104, 71, 1, 1, 0, 0, 329, 0, 0, []), (.iload_n 2, 72, 2, 0, 0, 0, 0, 0, 0, []), (.iload 7, 74, 7, 0, 0, 0, 0, 0, 0, []), (.invokestatic 65, 77, 128, 3, 0, 0, 821, 0, 0, []), (.aload_n 0, 78, 0, 0, 0, 0, 0, 0, 0, []), (.getfield 41, 81, 5, 3, 0, 0, 396, 0, 0, []), (.invokevirtual 83, 84, 7, 1, 0, 1, 847, 0, 0, []), (.aload_n 0, 85, 0, 0, 0, 0, 0, 0, 0, []), (.getfield 41, 88, 5, 3, 0, 0, 396, 0, 0, []), (.getfield 104, 91, 1, 1, 0, 0, 329, 0, 0, []), (.iload_n 2, 92, 2, 0, 0, 0, 0, 0, 0, []), (.iload 6, 94, 6, 0, 0, 0, 0, 0, 0, []), (.invokestatic 65, 97, 128, 3, 0, 0, 821, 0, 0, []), (.aload_n 0, 98, 0, 0, 0, 0, 0, 0, 0, []), (.getfield 41, 101, 5, 3, 0, 0, 396, 0, 0, []), (.getfield 133, 104, 1, 0, 1, 0, 326, 0, 0, []), (.iload 4, 106, 4, 0, 0, 0, 0, 0, 0, []), (.if_icmp .gt 7, 109, 113, 0, 0, 0, 0, 0, 0, []), (.iconst 1, 110, 0, 0, 0, 0, 0, 1, 0, []), (.goto 4, 113, 114, 0, 0, 0, 0, 0, 0, []), (.iconst 0, 114, 0, 0, 0, 0, 0, 0, 0, []), (.ireturn, 115, 0, 0, 1, 0, 0, 0, 0, [])]
set_option maxRecDepth 100000 in
theorem zk_X5_canLower_0 : zOks nX5_canLower zo_X5_canLower_0 0 = true := by decide +kernel
def zm_X5_canLower : List (Nat × List Bool) := [(0, [true, true, true, true, true, false, false, false])]
set_option maxRecDepth 100000 in
set_option maxHeartbeats 4000000 in
theorem zr_X5_canLower_0 {C : zCa} {post : zPo} {X : zX} (hX : zClosed none C post nX5_canLower X) (p0 : Nat) (p1 : Int32) (p2 : Int32) (p3 : Int32) (σ : zS) (h : C nX11_at [.ref 23, .int p1] σ (zPI fun x2 σ1 => C nX11_at [.ref 27, .int p1] σ1 (zPI fun x4 σ3 => C nX11_at [.ref p0, .int x2] σ3 (zPI fun x6 σ5 => C nX6_bitsOf [.ref 24, .int x2, .int (x6 - 1)] σ5 (zPI fun x8 σ7 => C nX1_sumOfBits [.ref 26] σ7 (zPI fun x10 σ9 => zIf (((x10 - x4) + x8 : Int32) ≤ p2) (C nX11_put [.ref 27, .int p1, .int x8] σ9 (zPV fun σ11 => C nX1_passAsSet [.ref 26] σ11 (zPV fun σ12 => C nX11_put [.ref 27, .int p1, .int x4] σ12 (zPV fun σ13 => zIf ((σ13.1 26 0 : Int32) ≤ p3) (post (some (.int 1)) σ13) (post (some (.int 0)) σ13))))) (post (some (.int 0)) σ9))))))) : X 0 [some (.ref 34), some (.ref p0), some (.int p1), some (.int p2), some (.int p3), none, none, none] [] σ := zSeq_ok hX zm_X5_canLower zo_X5_canLower_0 0 0 _ _ _ zk_X5_canLower_0 h
theorem ze_X5_canLower {d : Nat} {post : zPo} (p0 : Nat) (p1 : Int32) (p2 : Int32) (p3 : Int32) (σ : zS) (h : ∀ X : zX, zClosed none (zCall d) post nX5_canLower X → X 0 [some (.ref 34), some (.ref p0), some (.int p1), some (.int p2), some (.int p3), none, none, none] [] σ) : zCall (d + 1) nX5_canLower [.ref 34, .ref p0, .int p1, .int p2, .int p3] σ post := h
-- X5_greatestGain(34,) depth 2
def zo_X5_greatestGain_0 : List zOp := [(.iconst (-1), 1, 0, 0, 0, 0, 0, (-1), 0, []), (.istore_n 1, 2, 1, 0, 0, 0, 0, 0, 0, []), (.iconst 0, 3, 0, 0, 0, 0, 0, 0, 0, []), (.istore_n 2, 4, 2, 0, 0, 0, 0, 0, 0, [])]
set_option maxRecDepth 100000 in
theorem zk_X5_greatestGain_0 : zOks nX5_greatestGain zo_X5_greatestGain_0 0 = true := by decide +kernel
def zo_X5_greatestGain_4 : List zOp := [(.iload_n 2, 5, 2, 0, 0, 0, 0, 0, 0, []), (.aload_n 0, 6, 0, 0, 0, 0, 0, 0, 0, []), (.getfield 40, 9, 5, 2, 0, 0, 395, 0, 0, []), (.getfield 45, 12, 3, 0, 1, 0, 238, 0, 0, []), (.if_icmp .ge 60, 15, 72, 0, 0, 0, 0, 0, 0, []), (.aload_n 0, 16, 0, 0, 0, 0, 0, 0, 0, []), (.getfield 22, 19, 5, 7, 0, 0, 400, 0, 0, []), (.iload_n 2, 20, 2, 0, 0, 0, 0, 0, 0, []), (.invokestatic 101, 23, 127, 2, 2, 0, 860, 0, 0, []), (.ldc2_w 150, 26, 0, 0, 0, 0, 880, 0, (-1), []), (.lcmp, 27, 0, 0, 0, 0, 0, 0, 0, []), (.ifCond .eq 7, 30, 34, 0, 0, 0, 0, 0, 0, []), (.iconst 1, 31, 0, 0, 0, 0, 0, 1, 0, []), (.goto 4, 34, 35, 0, 0, 0, 0, 0, 0, []), (.iconst 0, 35, 0, 0, 0, 0, 0, 0, 0, []), (.istore_n 3, 36, 3, 0, 0, 0, 0, 0, 0, []), (.iload_n 3, 37, 3, 0, 0, 0, 0, 0, 0, []), (.ifCond .eq 29, 40, 66, 0, 0, 0, 0, 0, 0, []), (.iload_n 1, 41, 1, 0, 0, 0, 0, 0, 0, []), (.ifCond .lt 23, 44, 64, 0, 0, 0, 0, 0, 0, []), (.aload_n 0, 45, 0, 0, 0, 0, 0, 0, 0, []), (.getfield 22, 48, 5, 7, 0, 0, 400, 0, 0, []), (.iload_n 2, 49, 2, 0, 0, 0, 0, 0, 0, []), (.invokestatic 101, 52, 127, 2, 2, 0, 860, 0, 0, []), (.aload_n 0, 53, 0, 0, 0, 0, 0, 0, 0, []), (.getfield 22, 56, 5, 7, 0, 0, 400, 0, 0, []), (.iload_n 1, 57, 1, 0, 0, 0, 0, 0, 0, []), (.invokestatic 101, 60, 127, 2, 2, 0, 860, 0, 0, []), (.lcmp, 61, 0, 0, 0, 0, 0, 0, 0, []), (.ifCond .le 5, 64, 66, 0, 0, 0, 0, 0, 0, []), (.iload_n 2, 65, 2, 0, 0, 0, 0, 0, 0, []), (.istore_n 1, 66, 1, 0, 0, 0, 0, 0, 0, []), (.iinc 2 1, 69, 2, 0, 0, 0, 0, 1, 0, []), (.goto (-65), 72, 4, 0, 0, 0, 0, 0, 0, []), (.iload_n 1, 73, 1, 0, 0, 0, 0, 0, 0, []), (.ireturn, 74, 0, 0, 0, 0, 0, 0, 0, [])]
set_option maxRecDepth 100000 in
theorem zk_X5_greatestGain_4 : zOks nX5_greatestGain zo_X5_greatestGain_4 4 = true := by decide +kernel
def zm_X5_greatestGain : List (Nat × List Bool) := [(0, [true, false, false, false]), (4, [true, true, true, false])]
set_option maxRecDepth 100000 in
set_option maxHeartbeats 4000000 in
theorem zr_X5_greatestGain_0 {C : zCa} {post : zPo} {X : zX} (hX : zClosed none C post nX5_greatestGain X) (σ : zS) (h : X 4 [some (.ref 34), some (.int (-1)), some (.int 0), none] [] σ) : X 0 [some (.ref 34), none, none, none] [] σ := zSeq_ok hX zm_X5_greatestGain zo_X5_greatestGain_0 0 0 _ _ _ zk_X5_greatestGain_0 h
set_option maxRecDepth 100000 in
set_option maxHeartbeats 4000000 in
theorem zr_X5_greatestGain_4 {C : zCa} {post : zPo} {X : zX} (hX : zClosed none C post nX5_greatestGain X) (v1 : Int32) (v2 : Int32) (σ : zS) (h : zIf ((v2 : Int32) < (σ.1 16 0)) (C nX11_at_ [.ref 38, .int v2] σ (zPJ fun x2 σ1 => zIf ((lg_cmp x2 (-1) : Int32) = 0) (zIf ((0 : Int32) = 0) (X 4 [some (.ref 34), some (.int v1), some (.int (v2 + 1)), none] [] σ1) (zIf ((v1 : Int32) < 0) (X 4 [some (.ref 34), some (.int v2), some (.int (v2 + 1)), none] [] σ1) (C nX11_at_ [.ref 38, .int v2] σ1 (zPJ fun x4 σ3 => C nX11_at_ [.ref 38, .int v1] σ3 (zPJ fun x6 σ5 => zIf ((lg_cmp x4 x6 : Int32) ≤ 0) (X 4 [some (.ref 34), some (.int v1), some (.int (v2 + 1)), none] [] σ5) (X 4 [some (.ref 34), some (.int v2), some (.int (v2 + 1)), none] [] σ5)))))) (zIf ((1 : Int32) = 0) (X 4 [some (.ref 34), some (.int v1), some (.int (v2 + 1)), none] [] σ1) (zIf ((v1 : Int32) < 0) (X 4 [some (.ref 34), some (.int v2), some (.int (v2 + 1)), none] [] σ1) (C nX11_at_ [.ref 38, .int v2] σ1 (zPJ fun x8 σ7 => C nX11_at_ [.ref 38, .int v1] σ7 (zPJ fun x10 σ9 => zIf ((lg_cmp x8 x10 : Int32) ≤ 0) (X 4 [some (.ref 34), some (.int v1), some (.int (v2 + 1)), none] [] σ9) (X 4 [some (.ref 34), some (.int v2), some (.int (v2 + 1)), none] [] σ9)))))))) (post (some (.int v1)) σ)) : X 4 [some (.ref 34), some (.int v1), some (.int v2), none] [] σ := zSeq_ok hX zm_X5_greatestGain zo_X5_greatestGain_4 4 4 _ _ _ zk_X5_greatestGain_4 h
theorem ze_X5_greatestGain {d : Nat} {post : zPo} (σ : zS) (h : ∀ X : zX, zClosed none (zCall d) post nX5_greatestGain X → X 0 [some (.ref 34), none, none, none] [] σ) : zCall (d + 1) nX5_greatestGain [.ref 34] σ post := h
-- X5_weighLowering(34, None) depth 4
def zo_X5_weighLowering_0 : List zOp := [(.aload_n 0, 1, 0, 0, 0, 0, 0, 0, 0, []), (.getfield 40, 4, 5, 2, 0, 0, 395, 0, 0, []), (.getfield 51, 7, 3, 9, 0, 0, 264, 0, 0, []), (.iload_n 2, 8, 2, 0, 0, 0, 0, 0, 0, []), (.invokestatic 54, 11, 126, 2, 1, 0, 819, 0, 0, []), (.istore_n 3, 12, 3, 0, 0, 0, 0, 0, 0, []), (.aload_n 1, 13, 1, 0, 0, 0, 0, 0, 0, []), (.iload_n 3, 14, 3, 0, 0, 0, 0, 0, 0, []), (.invokestatic 54, 17, 126, 2, 1, 0, 819, 0, 0, []), (.istore 4, 19, 4, 0, 0, 0, 0, 0, 0, []), (.iload 4, 21, 4, 0, 0, 0, 0, 0, 0, []), (.aload_n 0, 22, 0, 0, 0, 0, 0, 0, 0, []), (.getfield 35, 25, 5, 1, 0, 0, 394, 0, 0, []), (.getfield 155, 28, 8, 2, 1, 0, 132, 0, 0, []), (.if_icmp .gt 15, 31, 43, 0, 0, 0, 0, 0, 0, []), (.aload_n 0, 32, 0, 0, 0, 0, 0, 0, 0, []), (.getfield 22, 35, 5, 7, 0, 0, 400, 0, 0, []), (.iload_n 2, 36, 2, 0, 0, 0, 0, 0, 0, []), (.ldc2_w 150, 39, 0, 0, 0, 0, 880, 0, (-1), []), (.invokestatic 122, 42, 129, 3, 0, 0, 844, 0, 0, []), (.return_, 43, 0, 0, 0, 0, 0, 0, 0, []), (.aload_n 0, 44, 0, 0, 0, 0, 0, 0, 0, []), (.getfield 25, 47, 5, 0, 0, 0, 393, 0, 0, []), (.iload_n 3, 48, 3, 0, 0, 0, 0, 0, 0, []), (.iload 4, 50, 4, 0, 0, 0, 0, 0, 0, []), (.invokevirtual 113, 53, 58, 3, 1, 6, 841, 0, 0, []), (.aload_n 0, 54, 0, 0, 0, 0, 0, 0, 0, []), (.getfield 25, 57, 5, 0, 0, 0, 393, 0, 0, []), (.iload_n 3, 58, 3, 0, 0, 0, 0, 0, 0, []), (.iload 4, 60, 4, 0, 0, 0, 0, 0, 0, []), (.iconst 1, 61, 0, 0, 0, 0, 0, 1, 0, []), (.isub, 62, 0, 0, 0, 0, 0, 0, 0, []), (.invokevirtual 113, 65, 58, 3, 1, 6, 841, 0, 0, []), (.isub, 66, 0, 0, 0, 0, 0, 0, 0, []), (.i2l, 67, 0, 0, 0, 0, 0, 0, 0, []), (.lstore 5, 69, 5, 0, 0, 0, 0, 0, 0, []), (.aload_n 0, 70, 0, 0, 0, 0, 0, 0, 0, []), (.getfield 25, 73, 5, 0, 0, 0, 393, 0, 0, []), (.iload_n 3, 74, 3, 0, 0, 0, 0, 0, 0, []), (.iload 4, 76, 4, 0, 0, 0, 0, 0, 0, []), (.iconst 1, 77, 0, 0, 0, 0, 0, 1, 0, []), (.isub, 78, 0, 0, 0, 0, 0, 0, 0, []), (.invokevirtual 107, 81, 57, 3, 1, 6, 840, 0, 0, []), (.aload_n 0, 82, 0, 0, 0, 0, 0, 0, 0, []), (.getfield 25, 85, 5, 0, 0, 0, 393, 0, 0, []), (.iload_n 3, 86, 3, 0, 0, 0, 0, 0, 0, []), (.iload 4, 88, 4, 0, 0, 0, 0, 0, 0, []), (.invokevirtual 107, 91, 57, 3, 1, 6, 840, 0, 0, []), (.isub, 92, 0, 0, 0, 0, 0, 0, 0, []), (.i2l, 93, 0, 0, 0, 0, 0, 0, 0, []), (.lstore 7, 95, 7, 0, 0, 0, 0, 0, 0, []), (.aload_n 0, 96, 0, 0, 0, 0, 0, 0, 0, []), (.getfield 22, 99, 5, 7, 0, 0, 400, 0, 0, []), (.iload_n 2, 100, 2, 0, 0, 0, 0, 0, 0, []), (.lload 7, 102, 7, 0, 0, 0, 0, 0, 0, []), (.lconst 0, 103, 0, 0, 0, 0, 0, 0, 0, []), (.lcmp, 104, 0, 0, 0, 0, 0, 0, 0, []), (.ifCond .le 17, 107, 121, 0, 0, 0, 0, 0, 0, []), (.ldc2_w 116, 110, 0, 0, 0, 0, 842, 0, 1000, []), (.lload 5, 112, 5, 0, 0, 0, 0, 0, 0, []), (.lmul, 113, 0, 0, 0, 0, 0, 0, 0, []), (.lload 7, 115, 7, 0, 0, 0, 0, 0, 0, []), (.invokestatic 118, 118, 131, 2, 2, 0, 843, 0, 0, []), (.goto 6, 121, 124, 0, 0, 0, 0, 0, 0, []), (.ldc2_w 158, 124, 0, 0, 0, 0, 881, 0, 2000000000, []), (.invokestatic 122, 127, 129, 3, 0, 0, 844, 0, 0, []), (.return_, 128, 0, 0, 0, 0, 0, 0, 0, [])]
set_option maxRecDepth 100000 in
theorem zk_X5_weighLowering_0 : zOks nX5_weighLowering zo_X5_weighLowering_0 0 = true := by decide +kernel
def zm_X5_weighLowering : List (Nat × List Bool) := [(0, [true, true, true, false, false, false, false, false, false])]
set_option maxRecDepth 100000 in
set_option maxHeartbeats 4000000 in
theorem zr_X5_weighLowering_0 {C : zCa} {post : zPo} {X : zX} (hX : zClosed none C post nX5_weighLowering X) (p0 : Nat) (p1 : Int32) (σ : zS) (h : C nX11_at [.ref 23, .int p1] σ (zPI fun x2 σ1 => C nX11_at [.ref p0, .int x2] σ1 (zPI fun x4 σ3 => zIf ((x4 : Int32) ≤ (σ3.1 4 2)) (C nX11_put_ [.ref 38, .int p1, .long (-1)] σ3 (zPV fun σ5 => post none σ5)) (C nX6_lossOf [.ref 24, .int x2, .int x4] σ3 (zPI fun x7 σ6 => C nX6_lossOf [.ref 24, .int x2, .int (x4 - 1)] σ6 (zPI fun x9 σ8 => C nX6_bitsOf [.ref 24, .int x2, .int (x4 - 1)] σ8 (zPI fun x11 σ10 => C nX6_bitsOf [.ref 24, .int x2, .int x4] σ10 (zPI fun x13 σ12 => zIf ((lg_cmp (Int32.toInt64 (x11 - x13)) 0 : Int32) ≤ 0) (C nX11_put_ [.ref 38, .int p1, .long 2000000000] σ12 (zPV fun σ14 => post none σ14)) (C nX11_ratio [.long (1000 * (Int32.toInt64 (x7 - x9))), .long (Int32.toInt64 (x11 - x13))] σ12 (zPJ fun x16 σ15 => C nX11_put_ [.ref 38, .int p1, .long x16] σ15 (zPV fun σ17 => post none σ17))))))))))) : X 0 [some (.ref 34), some (.ref p0), some (.int p1), none, none, none, none, none, none] [] σ := zSeq_ok hX zm_X5_weighLowering zo_X5_weighLowering_0 0 0 _ _ _ zk_X5_weighLowering_0 h
theorem ze_X5_weighLowering {d : Nat} {post : zPo} (p0 : Nat) (p1 : Int32) (σ : zS) (h : ∀ X : zX, zClosed none (zCall d) post nX5_weighLowering X → X 0 [some (.ref 34), some (.ref p0), some (.int p1), none, none, none, none, none, none] [] σ) : zCall (d + 1) nX5_weighLowering [.ref 34, .ref p0, .int p1] σ post := h
-- X5_lower(34, None) depth 5
def zo_X5_lower_0 : List zOp := [(.aload_n 0, 1, 0, 0, 0, 0, 0, 0, 0, []), (.getfield 40, 4, 5, 2, 0, 0, 395, 0, 0, []), (.getfield 51, 7, 3, 9, 0, 0, 264, 0, 0, []), (.iload_n 2, 8, 2, 0, 0, 0, 0, 0, 0, []), (.invokestatic 54, 11, 126, 2, 1, 0, 819, 0, 0, []), (.istore_n 3, 12, 3, 0, 0, 0, 0, 0, 0, []), (.aload_n 1, 13, 1, 0, 0, 0, 0, 0, 0, []), (.iload_n 3, 14, 3, 0, 0, 0, 0, 0, 0, []), (.invokestatic 54, 17, 126, 2, 1, 0, 819, 0, 0, []), (.iconst 1, 18, 0, 0, 0, 0, 0, 1, 0, []), (.isub, 19, 0, 0, 0, 0, 0, 0, 0, []), (.istore 4, 21, 4, 0, 0, 0, 0, 0, 0, []), (.aload_n 1, 22, 1, 0, 0, 0, 0, 0, 0, []), (.iload_n 3, 23, 3, 0, 0, 0, 0, 0, 0, []), (.iload 4, 25, 4, 0, 0, 0, 0, 0, 0, []), (.invokestatic 65, 28, 128, 3, 0, 0, 821, 0, 0, []), (.aload_n 0, 29, 0, 0, 0, 0, 0, 0, 0, []), (.getfield 41, 32, 5, 3, 0, 0, 396, 0, 0, []), (.getfield 104, 35, 1, 1, 0, 0, 329, 0, 0, []), (.iload_n 2, 36, 2, 0, 0, 0, 0, 0, 0, []), (.aload_n 0, 37, 0, 0, 0, 0, 0, 0, 0, []), (.getfield 25, 40, 5, 0, 0, 0, 393, 0, 0, []), (.iload_n 3, 41, 3, 0, 0, 0, 0, 0, 0, []), (.iload 4, 43, 4, 0, 0, 0, 0, 0, 0, []), (.invokevirtual 107, 46, 57, 3, 1, 6, 840, 0, 0, []), (.invokestatic 65, 49, 128, 3, 0, 0, 821, 0, 0, []), (.aload_n 0, 50, 0, 0, 0, 0, 0, 0, 0, []), (.aload_n 1, 51, 1, 0, 0, 0, 0, 0, 0, []), (.iload_n 2, 52, 2, 0, 0, 0, 0, 0, 0, []), (.invokevirtual 136, 55, 55, 3, 0, 5, 876, 0, 0, []), (.return_, 56, 0, 0, 0, 0, 0, 0, 0, [])]
set_option maxRecDepth 100000 in
theorem zk_X5_lower_0 : zOks nX5_lower zo_X5_lower_0 0 = true := by decide +kernel
def zm_X5_lower : List (Nat × List Bool) := [(0, [true, true, true, false, false])]
set_option maxRecDepth 100000 in
set_option maxHeartbeats 4000000 in
theorem zr_X5_lower_0 {C : zCa} {post : zPo} {X : zX} (hX : zClosed none C post nX5_lower X) (p0 : Nat) (p1 : Int32) (σ : zS) (h : C nX11_at [.ref 23, .int p1] σ (zPI fun x2 σ1 => C nX11_at [.ref p0, .int x2] σ1 (zPI fun x4 σ3 => C nX11_put [.ref p0, .int x2, .int (x4 - 1)] σ3 (zPV fun σ5 => C nX6_bitsOf [.ref 24, .int x2, .int (x4 - 1)] σ5 (zPI fun x7 σ6 => C nX11_put [.ref 27, .int p1, .int x7] σ6 (zPV fun σ8 => C nX5_weighLowering [.ref 34, .ref p0, .int p1] σ8 (zPV fun σ9 => post none σ9))))))) : X 0 [some (.ref 34), some (.ref p0), some (.int p1), none, none] [] σ := zSeq_ok hX zm_X5_lower zo_X5_lower_0 0 0 _ _ _ zk_X5_lower_0 h
theorem ze_X5_lower {d : Nat} {post : zPo} (p0 : Nat) (p1 : Int32) (σ : zS) (h : ∀ X : zX, zClosed none (zCall d) post nX5_lower X → X 0 [some (.ref 34), some (.ref p0), some (.int p1), none, none] [] σ) : zCall (d + 1) nX5_lower [.ref 34, .ref p0, .int p1] σ post := h
-- X5_loosen(34, None) depth 6
def zo_X5_loosen_0 : List zOp := [(.aload_n 0, 1, 0, 0, 0, 0, 0, 0, 0, []), (.getfield 41, 4, 5, 3, 0, 0, 396, 0, 0, []), (.aload_n 1, 5, 1, 0, 0, 0, 0, 0, 0, []), (.invokevirtual 130, 8, 5, 2, 0, 1, 875, 0, 0, []), (.aload_n 0, 9, 0, 0, 0, 0, 0, 0, 0, []), (.getfield 41, 12, 5, 3, 0, 0, 396, 0, 0, []), (.getfield 133, 15, 1, 0, 1, 0, 326, 0, 0, []), (.istore_n 3, 16, 3, 0, 0, 0, 0, 0, 0, []), (.iconst 0, 17, 0, 0, 0, 0, 0, 0, 0, []), (.istore 4, 19, 4, 0, 0, 0, 0, 0, 0, [])]
set_option maxRecDepth 100000 in
theorem zk_X5_loosen_0 : zOks nX5_loosen zo_X5_loosen_0 0 = true := by decide +kernel
def zo_X5_loosen_19 : List zOp := [(.iload 4, 21, 4, 0, 0, 0, 0, 0, 0, []), (.aload_n 0, 22, 0, 0, 0, 0, 0, 0, 0, []), (.getfield 40, 25, 5, 2, 0, 0, 395, 0, 0, []), (.getfield 45, 28, 3, 0, 1, 0, 238, 0, 0, []), (.if_icmp .ge 16, 31, 44, 0, 0, 0, 0, 0, 0, []), (.aload_n 0, 32, 0, 0, 0, 0, 0, 0, 0, []), (.aload_n 1, 33, 1, 0, 0, 0, 0, 0, 0, []), (.iload 4, 35, 4, 0, 0, 0, 0, 0, 0, []), (.invokevirtual 136, 38, 55, 3, 0, 5, 876, 0, 0, []), (.iinc 4 1, 41, 4, 0, 0, 0, 0, 1, 0, []), (.goto (-22), 44, 19, 0, 0, 0, 0, 0, 0, []), (.iconst 0, 45, 0, 0, 0, 0, 0, 0, 0, []), (.istore 4, 47, 4, 0, 0, 0, 0, 0, 0, []), (.iconst 0, 48, 0, 0, 0, 0, 0, 0, 0, []), (.istore 5, 50, 5, 0, 0, 0, 0, 0, 0, [])]
set_option maxRecDepth 100000 in
theorem zk_X5_loosen_19 : zOks nX5_loosen zo_X5_loosen_19 19 = true := by decide +kernel
def zo_X5_loosen_50 : List zOp := [(.iload 5, 52, 5, 0, 0, 0, 0, 0, 0, []), (.sipush 560, 55, 0, 0, 0, 0, 0, 560, 0, []), (.if_icmp .ge 68, 58, 123, 0, 0, 0, 0, 0, 0, []), (.iload 4, 60, 4, 0, 0, 0, 0, 0, 0, []), (.sipush 500, 63, 0, 0, 0, 0, 0, 500, 0, []), (.if_icmp .ge 60, 66, 123, 0, 0, 0, 0, 0, 0, []), (.aload_n 0, 67, 0, 0, 0, 0, 0, 0, 0, []), (.invokevirtual 140, 70, 52, 1, 1, 5, 882, 0, 0, []), (.istore 6, 72, 6, 0, 0, 0, 0, 0, 0, []), (.iload 6, 74, 6, 0, 0, 0, 0, 0, 0, []), (.ifCond .ge 6, 77, 80, 0, 0, 0, 0, 0, 0, []), (.goto 46, 80, 123, 0, 0, 0, 0, 0, 0, []), (.aload_n 0, 81, 0, 0, 0, 0, 0, 0, 0, []), (.aload_n 1, 82, 1, 0, 0, 0, 0, 0, 0, []), (.iload 6, 84, 6, 0, 0, 0, 0, 0, 0, []), (.iload_n 2, 85, 2, 0, 0, 0, 0, 0, 0, []), (.iload_n 3, 86, 3, 0, 0, 0, 0, 0, 0, []), (.invokevirtual 143, 89, 53, 5, 1, 5, 886, 0, 0, []), (.ifCond .eq 16, 92, 105, 0, 0, 0, 0, 0, 0, []), (.aload_n 0, 93, 0, 0, 0, 0, 0, 0, 0, []), (.aload_n 1, 94, 1, 0, 0, 0, 0, 0, 0, []), (.iload 6, 96, 6, 0, 0, 0, 0, 0, 0, []), (.invokevirtual 147, 99, 54, 3, 0, 5, 894, 0, 0, []), (.iinc 4 1, 102, 4, 0, 0, 0, 0, 1, 0, []), (.goto 15, 105, 117, 0, 0, 0, 0, 0, 0, []), (.aload_n 0, 106, 0, 0, 0, 0, 0, 0, 0, []), (.getfield 22, 109, 5, 7, 0, 0, 400, 0, 0, []), (.iload 6, 111, 6, 0, 0, 0, 0, 0, 0, []), (.ldc2_w 150, 114, 0, 0, 0, 0, 880, 0, (-1), []), (.invokestatic 122, 117, 129, 3, 0, 0, 844, 0, 0, []), (.iinc 5 1, 120, 5, 0, 0, 0, 0, 1, 0, []), (.goto (-70), 123, 50, 0, 0, 0, 0, 0, 0, []), (.iload 4, 125, 4, 0, 0, 0, 0, 0, 0, []), (.ireturn, 126, 0, 0, 0, 0, 0, 0, 0, [])]
set_option maxRecDepth 100000 in
theorem zk_X5_loosen_50 : zOks nX5_loosen zo_X5_loosen_50 50 = true := by decide +kernel
def zm_X5_loosen : List (Nat × List Bool) := [(0, [true, true, true, false, false, false, false]), (19, [true, true, true, true, true, false, false]), (50, [true, true, true, true, true, true, false])]
set_option maxRecDepth 100000 in
set_option maxHeartbeats 4000000 in
theorem zr_X5_loosen_0 {C : zCa} {post : zPo} {X : zX} (hX : zClosed none C post nX5_loosen X) (p0 : Nat) (p1 : Int32) (σ : zS) (h : C nX1_follow [.ref 26, .ref p0] σ (zPV fun σ1 => X 19 [some (.ref 34), some (.ref p0), some (.int p1), some (.int (σ1.1 26 0)), some (.int 0), none, none] [] σ1)) : X 0 [some (.ref 34), some (.ref p0), some (.int p1), none, none, none, none] [] σ := zSeq_ok hX zm_X5_loosen zo_X5_loosen_0 0 0 _ _ _ zk_X5_loosen_0 h
set_option maxRecDepth 100000 in
set_option maxHeartbeats 4000000 in
theorem zr_X5_loosen_19 {C : zCa} {post : zPo} {X : zX} (hX : zClosed none C post nX5_loosen X) (p0 : Nat) (v2 : Int32) (v3 : Int32) (v4 : Int32) (σ : zS) (h : zIf ((v4 : Int32) < (σ.1 16 0)) (C nX5_weighLowering [.ref 34, .ref p0, .int v4] σ (zPV fun σ1 => X 19 [some (.ref 34), some (.ref p0), some (.int v2), some (.int v3), some (.int (v4 + 1)), none, none] [] σ1)) (X 50 [some (.ref 34), some (.ref p0), some (.int v2), some (.int v3), some (.int 0), some (.int 0), none] [] σ)) : X 19 [some (.ref 34), some (.ref p0), some (.int v2), some (.int v3), some (.int v4), none, none] [] σ := zSeq_ok hX zm_X5_loosen zo_X5_loosen_19 19 19 _ _ _ zk_X5_loosen_19 h
set_option maxRecDepth 100000 in
set_option maxHeartbeats 4000000 in
theorem zr_X5_loosen_50 {C : zCa} {post : zPo} {X : zX} (hX : zClosed none C post nX5_loosen X) (p0 : Nat) (v2 : Int32) (v3 : Int32) (v4 : Int32) (v5 : Int32) (σ : zS) (h : zIf ((v5 : Int32) < 560) (zIf ((v4 : Int32) < 500) (C nX5_greatestGain [.ref 34] σ (zPI fun x2 σ1 => zIf ((x2 : Int32) < 0) (post (some (.int v4)) σ1) (C nX5_canLower [.ref 34, .ref p0, .int x2, .int v2, .int v3] σ1 (zPI fun x4 σ3 => zIf ((x4 : Int32) = 0) (C nX11_put_ [.ref 38, .int x2, .long (-1)] σ3 (zPV fun σ5 => X 50 [some (.ref 34), some (.ref p0), some (.int v2), some (.int v3), some (.int v4), some (.int (v5 + 1)), none] [] σ5)) (C nX5_lower [.ref 34, .ref p0, .int x2] σ3 (zPV fun σ6 => X 50 [some (.ref 34), some (.ref p0), some (.int v2), some (.int v3), some (.int (v4 + 1)), some (.int (v5 + 1)), none] [] σ6)))))) (post (some (.int v4)) σ)) (post (some (.int v4)) σ)) : X 50 [some (.ref 34), some (.ref p0), some (.int v2), some (.int v3), some (.int v4), some (.int v5), none] [] σ := zSeq_ok hX zm_X5_loosen zo_X5_loosen_50 50 50 _ _ _ zk_X5_loosen_50 h
theorem ze_X5_loosen {d : Nat} {post : zPo} (p0 : Nat) (p1 : Int32) (σ : zS) (h : ∀ X : zX, zClosed none (zCall d) post nX5_loosen X → X 0 [some (.ref 34), some (.ref p0), some (.int p1), none, none, none, none] [] σ) : zCall (d + 1) nX5_loosen [.ref 34, .ref p0, .int p1] σ post := h
-- X1_firstUnderflow(26,) depth 2
def zo_X1_firstUnderflow_0 : List zOp := [(.iconst 0, 1, 0, 0, 0, 0, 0, 0, 0, []), (.istore_n 1, 2, 1, 0, 0, 0, 0, 0, 0, [])]
set_option maxRecDepth 100000 in
theorem zk_X1_firstUnderflow_0 : zOks nX1_firstUnderflow zo_X1_firstUnderflow_0 0 = true := by decide +kernel
def zo_X1_firstUnderflow_2 : List zOp := [(.iload_n 1, 3, 1, 0, 0, 0, 0, 0, 0, []), (.aload_n 0, 4, 0, 0, 0, 0, 0, 0, 0, []), (.getfield 27, 7, 1, 6, 0, 0, 340, 0, 0, []), (.getfield 38, 10, 6, 0, 0, 0, 304, 0, 0, []), (.getfield 44, 13, 3, 0, 1, 0, 239, 0, 0, []), (.if_icmp .ge 22, 16, 35, 0, 0, 0, 0, 0, 0, []), (.aload_n 0, 17, 0, 0, 0, 0, 0, 0, 0, []), (.getfield 21, 20, 1, 4, 0, 0, 336, 0, 0, []), (.iload_n 1, 21, 1, 0, 0, 0, 0, 0, 0, []), (.invokestatic 53, 24, 126, 2, 1, 0, 751, 0, 0, []), (.ifCond .le 5, 27, 29, 0, 0, 0, 0, 0, 0, []), (.iload_n 1, 28, 1, 0, 0, 0, 0, 0, 0, []), (.ireturn, 29, 0, 0, 0, 0, 0, 0, 0, []), (.iinc 1 1, 32, 1, 0, 0, 0, 0, 1, 0, []), (.goto (-30), 35, 2, 0, 0, 0, 0, 0, 0, []), (.iconst (-1), 36, 0, 0, 0, 0, 0, (-1), 0, []), (.ireturn, 37, 0, 0, 0, 0, 0, 0, 0, [])]
set_option maxRecDepth 100000 in
theorem zk_X1_firstUnderflow_2 : zOks nX1_firstUnderflow zo_X1_firstUnderflow_2 2 = true := by decide +kernel
def zm_X1_firstUnderflow : List (Nat × List Bool) := [(0, [true, false]), (2, [true, true])]
set_option maxRecDepth 100000 in
set_option maxHeartbeats 4000000 in
theorem zr_X1_firstUnderflow_0 {C : zCa} {post : zPo} {X : zX} (hX : zClosed none C post nX1_firstUnderflow X) (σ : zS) (h : X 2 [some (.ref 26), some (.int 0)] [] σ) : X 0 [some (.ref 26), none] [] σ := zSeq_ok hX zm_X1_firstUnderflow zo_X1_firstUnderflow_0 0 0 _ _ _ zk_X1_firstUnderflow_0 h
set_option maxRecDepth 100000 in
set_option maxHeartbeats 4000000 in
theorem zr_X1_firstUnderflow_2 {C : zCa} {post : zPo} {X : zX} (hX : zClosed none C post nX1_firstUnderflow X) (v1 : Int32) (σ : zS) (h : zIf ((v1 : Int32) < (σ.1 16 0)) (C nX11_at [.ref 30, .int v1] σ (zPI fun x2 σ1 => zIf ((x2 : Int32) ≤ 0) (X 2 [some (.ref 26), some (.int (v1 + 1))] [] σ1) (post (some (.int v1)) σ1))) (post (some (.int (-1))) σ)) : X 2 [some (.ref 26), some (.int v1)] [] σ := zSeq_ok hX zm_X1_firstUnderflow zo_X1_firstUnderflow_2 2 2 _ _ _ zk_X1_firstUnderflow_2 h
theorem ze_X1_firstUnderflow {d : Nat} {post : zPo} (σ : zS) (h : ∀ X : zX, zClosed none (zCall d) post nX1_firstUnderflow X → X 0 [some (.ref 26), none] [] σ) : zCall (d + 1) nX1_firstUnderflow [.ref 26] σ post := h
-- X1_lastFullNotBehind(26,) depth 2
def zo_X1_lastFullNotBehind_0 : List zOp := [(.iload_n 1, 1, 1, 0, 0, 0, 0, 0, 0, []), (.istore_n 2, 2, 2, 0, 0, 0, 0, 0, 0, [])]
set_option maxRecDepth 100000 in
theorem zk_X1_lastFullNotBehind_0 : zOks nX1_lastFullNotBehind zo_X1_lastFullNotBehind_0 0 = true := by decide +kernel
def zo_X1_lastFullNotBehind_2 : List zOp := [(.iload_n 2, 3, 2, 0, 0, 0, 0, 0, 0, []), (.ifCond .le 26, 6, 29, 0, 0, 0, 0, 0, 0, []), (.aload_n 0, 7, 0, 0, 0, 0, 0, 0, 0, []), (.getfield 15, 10, 1, 2, 0, 0, 332, 0, 0, []), (.iload_n 2, 11, 2, 0, 0, 0, 0, 0, 0, []), (.invokestatic 53, 14, 126, 2, 1, 0, 751, 0, 0, []), (.aload_n 0, 15, 0, 0, 0, 0, 0, 0, 0, []), (.getfield 95, 18, 1, 7, 1, 0, 341, 0, 0, []), (.if_icmp .ne 5, 21, 23, 0, 0, 0, 0, 0, 0, []), (.iload_n 2, 22, 2, 0, 0, 0, 0, 0, 0, []), (.ireturn, 23, 0, 0, 0, 0, 0, 0, 0, []), (.iinc 2 (-1), 26, 2, 0, 0, 0, 0, (-1), 0, []), (.goto (-24), 29, 2, 0, 0, 0, 0, 0, 0, []), (.iconst 0, 30, 0, 0, 0, 0, 0, 0, 0, []), (.ireturn, 31, 0, 0, 0, 0, 0, 0, 0, [])]
set_option maxRecDepth 100000 in
theorem zk_X1_lastFullNotBehind_2 : zOks nX1_lastFullNotBehind zo_X1_lastFullNotBehind_2 2 = true := by decide +kernel
def zm_X1_lastFullNotBehind : List (Nat × List Bool) := [(0, [true, true, false]), (2, [true, false, true])]
set_option maxRecDepth 100000 in
set_option maxHeartbeats 4000000 in
theorem zr_X1_lastFullNotBehind_0 {C : zCa} {post : zPo} {X : zX} (hX : zClosed none C post nX1_lastFullNotBehind X) (p0 : Int32) (σ : zS) (h : X 2 [some (.ref 26), none, some (.int p0)] [] σ) : X 0 [some (.ref 26), some (.int p0), none] [] σ := zSeq_ok hX zm_X1_lastFullNotBehind zo_X1_lastFullNotBehind_0 0 0 _ _ _ zk_X1_lastFullNotBehind_0 h
set_option maxRecDepth 100000 in
set_option maxHeartbeats 4000000 in
theorem zr_X1_lastFullNotBehind_2 {C : zCa} {post : zPo} {X : zX} (hX : zClosed none C post nX1_lastFullNotBehind X) (v2 : Int32) (σ : zS) (h : zIf ((v2 : Int32) ≤ 0) (post (some (.int 0)) σ) (C nX11_at [.ref 28, .int v2] σ (zPI fun x2 σ1 => zIf ((x2 : Int32) = (σ1.1 26 7)) (post (some (.int v2)) σ1) (X 2 [some (.ref 26), none, some (.int (v2 + (-1)))] [] σ1)))) : X 2 [some (.ref 26), none, some (.int v2)] [] σ := zSeq_ok hX zm_X1_lastFullNotBehind zo_X1_lastFullNotBehind_2 2 2 _ _ _ zk_X1_lastFullNotBehind_2 h
theorem ze_X1_lastFullNotBehind {d : Nat} {post : zPo} (p0 : Int32) (σ : zS) (h : ∀ X : zX, zClosed none (zCall d) post nX1_lastFullNotBehind X → X 0 [some (.ref 26), some (.int p0), none] [] σ) : zCall (d + 1) nX1_lastFullNotBehind [.ref 26, .int p0] σ post := h
-- X5_cheapestRaise(34,) depth 2
def zo_X5_cheapestRaise_0 : List zOp := [(.iconst (-1), 1, 0, 0, 0, 0, 0, (-1), 0, []), (.istore_n 3, 2, 3, 0, 0, 0, 0, 0, 0, []), (.iload_n 1, 3, 1, 0, 0, 0, 0, 0, 0, []), (.istore 4, 5, 4, 0, 0, 0, 0, 0, 0, [])]
set_option maxRecDepth 100000 in
theorem zk_X5_cheapestRaise_0 : zOks nX5_cheapestRaise zo_X5_cheapestRaise_0 0 = true := by decide +kernel
def zo_X5_cheapestRaise_5 : List zOp := [(.iload 4, 7, 4, 0, 0, 0, 0, 0, 0, []), (.iload_n 2, 8, 2, 0, 0, 0, 0, 0, 0, []), (.if_icmp .gt 62, 11, 70, 0, 0, 0, 0, 0, 0, []), (.aload_n 0, 12, 0, 0, 0, 0, 0, 0, 0, []), (.getfield 15, 15, 5, 5, 0, 0, 398, 0, 0, []), (.iload 4, 17, 4, 0, 0, 0, 0, 0, 0, []), (.invokestatic 54, 20, 126, 2, 1, 0, 819, 0, 0, []), (.iconst (-1), 21, 0, 0, 0, 0, 0, (-1), 0, []), (.if_icmp .eq 7, 24, 28, 0, 0, 0, 0, 0, 0, []), (.iconst 1, 25, 0, 0, 0, 0, 0, 1, 0, []), (.goto 4, 28, 29, 0, 0, 0, 0, 0, 0, []), (.iconst 0, 29, 0, 0, 0, 0, 0, 0, 0, []), (.istore 5, 31, 5, 0, 0, 0, 0, 0, 0, []), (.iload 5, 33, 5, 0, 0, 0, 0, 0, 0, []), (.ifCond .eq 31, 36, 64, 0, 0, 0, 0, 0, 0, []), (.iload_n 3, 37, 3, 0, 0, 0, 0, 0, 0, []), (.ifCond .lt 24, 40, 61, 0, 0, 0, 0, 0, 0, []), (.aload_n 0, 41, 0, 0, 0, 0, 0, 0, 0, []), (.getfield 18, 44, 5, 6, 0, 0, 399, 0, 0, []), (.iload 4, 46, 4, 0, 0, 0, 0, 0, 0, []), (.invokestatic 101, 49, 127, 2, 2, 0, 860, 0, 0, []), (.aload_n 0, 50, 0, 0, 0, 0, 0, 0, 0, []), (.getfield 18, 53, 5, 6, 0, 0, 399, 0, 0, []), (.iload_n 3, 54, 3, 0, 0, 0, 0, 0, 0, []), (.invokestatic 101, 57, 127, 2, 2, 0, 860, 0, 0, []), (.lcmp, 58, 0, 0, 0, 0, 0, 0, 0, []), (.ifCond .ge 6, 61, 64, 0, 0, 0, 0, 0, 0, []), (.iload 4, 63, 4, 0, 0, 0, 0, 0, 0, []), (.istore_n 3, 64, 3, 0, 0, 0, 0, 0, 0, []), (.iinc 4 1, 67, 4, 0, 0, 0, 0, 1, 0, []), (.goto (-62), 70, 5, 0, 0, 0, 0, 0, 0, []), (.iload_n 3, 71, 3, 0, 0, 0, 0, 0, 0, []), (.ireturn, 72, 0, 0, 0, 0, 0, 0, 0, [])]
set_option maxRecDepth 100000 in
theorem zk_X5_cheapestRaise_5 : zOks nX5_cheapestRaise zo_X5_cheapestRaise_5 5 = true := by decide +kernel
def zm_X5_cheapestRaise : List (Nat × List Bool) := [(0, [true, true, true, false, false, false]), (5, [true, false, true, true, true, false])]
set_option maxRecDepth 100000 in
set_option maxHeartbeats 4000000 in
theorem zr_X5_cheapestRaise_0 {C : zCa} {post : zPo} {X : zX} (hX : zClosed none C post nX5_cheapestRaise X) (p0 : Int32) (p1 : Int32) (σ : zS) (h : X 5 [some (.ref 34), none, some (.int p1), some (.int (-1)), some (.int p0), none] [] σ) : X 0 [some (.ref 34), some (.int p0), some (.int p1), none, none, none] [] σ := zSeq_ok hX zm_X5_cheapestRaise zo_X5_cheapestRaise_0 0 0 _ _ _ zk_X5_cheapestRaise_0 h
set_option maxRecDepth 100000 in
set_option maxHeartbeats 4000000 in
theorem zr_X5_cheapestRaise_5 {C : zCa} {post : zPo} {X : zX} (hX : zClosed none C post nX5_cheapestRaise X) (v2 : Int32) (v3 : Int32) (v4 : Int32) (σ : zS) (h : zIf ((v4 : Int32) ≤ v2) (C nX11_at [.ref 36, .int v4] σ (zPI fun x2 σ1 => zIf ((x2 : Int32) = (-1)) (zIf ((0 : Int32) = 0) (X 5 [some (.ref 34), none, some (.int v2), some (.int v3), some (.int (v4 + 1)), none] [] σ1) (zIf ((v3 : Int32) < 0) (X 5 [some (.ref 34), none, some (.int v2), some (.int v4), some (.int (v4 + 1)), none] [] σ1) (C nX11_at_ [.ref 37, .int v4] σ1 (zPJ fun x4 σ3 => C nX11_at_ [.ref 37, .int v3] σ3 (zPJ fun x6 σ5 => zIf ((lg_cmp x4 x6 : Int32) < 0) (X 5 [some (.ref 34), none, some (.int v2), some (.int v4), some (.int (v4 + 1)), none] [] σ5) (X 5 [some (.ref 34), none, some (.int v2), some (.int v3), some (.int (v4 + 1)), none] [] σ5)))))) (zIf ((1 : Int32) = 0) (X 5 [some (.ref 34), none, some (.int v2), some (.int v3), some (.int (v4 + 1)), none] [] σ1) (zIf ((v3 : Int32) < 0) (X 5 [some (.ref 34), none, some (.int v2), some (.int v4), some (.int (v4 + 1)), none] [] σ1) (C nX11_at_ [.ref 37, .int v4] σ1 (zPJ fun x8 σ7 => C nX11_at_ [.ref 37, .int v3] σ7 (zPJ fun x10 σ9 => zIf ((lg_cmp x8 x10 : Int32) < 0) (X 5 [some (.ref 34), none, some (.int v2), some (.int v4), some (.int (v4 + 1)), none] [] σ9) (X 5 [some (.ref 34), none, some (.int v2), some (.int v3), some (.int (v4 + 1)), none] [] σ9)))))))) (post (some (.int v3)) σ)) : X 5 [some (.ref 34), none, some (.int v2), some (.int v3), some (.int v4), none] [] σ := zSeq_ok hX zm_X5_cheapestRaise zo_X5_cheapestRaise_5 5 5 _ _ _ zk_X5_cheapestRaise_5 h
theorem ze_X5_cheapestRaise {d : Nat} {post : zPo} (p0 : Int32) (p1 : Int32) (σ : zS) (h : ∀ X : zX, zClosed none (zCall d) post nX5_cheapestRaise X → X 0 [some (.ref 34), some (.int p0), some (.int p1), none, none, none] [] σ) : zCall (d + 1) nX5_cheapestRaise [.ref 34, .int p0, .int p1] σ post := h
-- X5_nextOf(34,) depth 3
def zo_X5_nextOf_0 : List zOp := [(.aload_n 0, 1, 0, 0, 0, 0, 0, 0, 0, []), (.getfield 25, 4, 5, 0, 0, 0, 393, 0, 0, []), (.iload_n 1, 5, 1, 0, 0, 0, 0, 0, 0, []), (.iload_n 2, 6, 2, 0, 0, 0, 0, 0, 0, []), (.invokevirtual 107, 9, 57, 3, 1, 6, 840, 0, 0, []), (.istore_n 3, 10, 3, 0, 0, 0, 0, 0, 0, []), (.iload_n 2, 11, 2, 0, 0, 0, 0, 0, 0, []), (.iconst 1, 12, 0, 0, 0, 0, 0, 1, 0, []), (.iadd, 13, 0, 0, 0, 0, 0, 0, 0, []), (.istore 4, 15, 4, 0, 0, 0, 0, 0, 0, [])]
set_option maxRecDepth 100000 in
theorem zk_X5_nextOf_0 : zOks nX5_nextOf zo_X5_nextOf_0 0 = true := by decide +kernel
def zo_X5_nextOf_15 : List zOp := [(.iload 4, 17, 4, 0, 0, 0, 0, 0, 0, []), (.aload_n 0, 18, 0, 0, 0, 0, 0, 0, 0, []), (.getfield 35, 21, 5, 1, 0, 0, 394, 0, 0, []), (.getfield 125, 24, 8, 3, 1, 0, 136, 0, 0, []), (.if_icmp .gt 26, 27, 50, 0, 0, 0, 0, 0, 0, []), (.aload_n 0, 28, 0, 0, 0, 0, 0, 0, 0, []), (.getfield 25, 31, 5, 0, 0, 0, 393, 0, 0, []), (.iload_n 1, 32, 1, 0, 0, 0, 0, 0, 0, []), (.iload 4, 34, 4, 0, 0, 0, 0, 0, 0, []), (.invokevirtual 107, 37, 57, 3, 1, 6, 840, 0, 0, []), (.iload_n 3, 38, 3, 0, 0, 0, 0, 0, 0, []), (.if_icmp .ge 6, 41, 44, 0, 0, 0, 0, 0, 0, []), (.iload 4, 43, 4, 0, 0, 0, 0, 0, 0, []), (.ireturn, 44, 0, 0, 0, 0, 0, 0, 0, []), (.iinc 4 1, 47, 4, 0, 0, 0, 0, 1, 0, []), (.goto (-32), 50, 15, 0, 0, 0, 0, 0, 0, []), (.iconst (-1), 51, 0, 0, 0, 0, 0, (-1), 0, []), (.ireturn, 52, 0, 0, 0, 0, 0, 0, 0, [])]
set_option maxRecDepth 100000 in
theorem zk_X5_nextOf_15 : zOks nX5_nextOf zo_X5_nextOf_15 15 = true := by decide +kernel
def zm_X5_nextOf : List (Nat × List Bool) := [(0, [true, true, true, false, false]), (15, [true, true, false, true, true])]
set_option maxRecDepth 100000 in
set_option maxHeartbeats 4000000 in
theorem zr_X5_nextOf_0 {C : zCa} {post : zPo} {X : zX} (hX : zClosed none C post nX5_nextOf X) (p0 : Int32) (p1 : Int32) (σ : zS) (h : C nX6_bitsOf [.ref 24, .int p0, .int p1] σ (zPI fun x2 σ1 => X 15 [some (.ref 34), some (.int p0), none, some (.int x2), some (.int (p1 + 1))] [] σ1)) : X 0 [some (.ref 34), some (.int p0), some (.int p1), none, none] [] σ := zSeq_ok hX zm_X5_nextOf zo_X5_nextOf_0 0 0 _ _ _ zk_X5_nextOf_0 h
set_option maxRecDepth 100000 in
set_option maxHeartbeats 4000000 in
theorem zr_X5_nextOf_15 {C : zCa} {post : zPo} {X : zX} (hX : zClosed none C post nX5_nextOf X) (v1 : Int32) (v3 : Int32) (v4 : Int32) (σ : zS) (h : zIf ((v4 : Int32) ≤ (σ.1 4 3)) (C nX6_bitsOf [.ref 24, .int v1, .int v4] σ (zPI fun x2 σ1 => zIf ((x2 : Int32) < v3) (post (some (.int v4)) σ1) (X 15 [some (.ref 34), some (.int v1), none, some (.int v3), some (.int (v4 + 1))] [] σ1))) (post (some (.int (-1))) σ)) : X 15 [some (.ref 34), some (.int v1), none, some (.int v3), some (.int v4)] [] σ := zSeq_ok hX zm_X5_nextOf zo_X5_nextOf_15 15 15 _ _ _ zk_X5_nextOf_15 h
theorem ze_X5_nextOf {d : Nat} {post : zPo} (p0 : Int32) (p1 : Int32) (σ : zS) (h : ∀ X : zX, zClosed none (zCall d) post nX5_nextOf X → X 0 [some (.ref 34), some (.int p0), some (.int p1), none, none] [] σ) : zCall (d + 1) nX5_nextOf [.ref 34, .int p0, .int p1] σ post := h
-- X5_weighRaise(34,) depth 4
def zo_X5_weighRaise_0 : List zOp := [(.aload_n 0, 1, 0, 0, 0, 0, 0, 0, 0, []), (.getfield 40, 4, 5, 2, 0, 0, 395, 0, 0, []), (.getfield 51, 7, 3, 9, 0, 0, 264, 0, 0, []), (.iload_n 1, 8, 1, 0, 0, 0, 0, 0, 0, []), (.invokestatic 54, 11, 126, 2, 1, 0, 819, 0, 0, []), (.istore_n 2, 12, 2, 0, 0, 0, 0, 0, 0, []), (.aload_n 0, 13, 0, 0, 0, 0, 0, 0, 0, []), (.getfield 9, 16, 5, 4, 0, 0, 397, 0, 0, []), (.iload_n 2, 17, 2, 0, 0, 0, 0, 0, 0, []), (.invokestatic 54, 20, 126, 2, 1, 0, 819, 0, 0, []), (.istore_n 3, 21, 3, 0, 0, 0, 0, 0, 0, []), (.aload_n 0, 22, 0, 0, 0, 0, 0, 0, 0, []), (.iload_n 2, 23, 2, 0, 0, 0, 0, 0, 0, []), (.iload_n 3, 24, 3, 0, 0, 0, 0, 0, 0, []), (.invokevirtual 110, 27, 50, 3, 1, 5, 836, 0, 0, []), (.istore 4, 29, 4, 0, 0, 0, 0, 0, 0, []), (.aload_n 0, 30, 0, 0, 0, 0, 0, 0, 0, []), (.getfield 15, 33, 5, 5, 0, 0, 398, 0, 0, []), (.iload_n 1, 34, 1, 0, 0, 0, 0, 0, 0, []), (.iload 4, 36, 4, 0, 0, 0, 0, 0, 0, []), (.invokestatic 65, 39, 128, 3, 0, 0, 821, 0, 0, []), (.iload 4, 41, 4, 0, 0, 0, 0, 0, 0, []), (.iconst (-1), 42, 0, 0, 0, 0, 0, (-1), 0, []), (.if_icmp .eq 68, 45, 110, 0, 0, 0, 0, 0, 0, []), (.aload_n 0, 46, 0, 0, 0, 0, 0, 0, 0, []), (.getfield 25, 49, 5, 0, 0, 0, 393, 0, 0, []), (.iload_n 2, 50, 2, 0, 0, 0, 0, 0, 0, []), (.iload 4, 52, 4, 0, 0, 0, 0, 0, 0, []), (.invokevirtual 113, 55, 58, 3, 1, 6, 841, 0, 0, []), (.aload_n 0, 56, 0, 0, 0, 0, 0, 0, 0, []), (.getfield 25, 59, 5, 0, 0, 0, 393, 0, 0, []), (.iload_n 2, 60, 2, 0, 0, 0, 0, 0, 0, []), (.iload_n 3, 61, 3, 0, 0, 0, 0, 0, 0, []), (.invokevirtual 113, 64, 58, 3, 1, 6, 841, 0, 0, []), (.isub, 65, 0, 0, 0, 0, 0, 0, 0, []), (.i2l, 66, 0, 0, 0, 0, 0, 0, 0, []), (.lstore 5, 68, 5, 0, 0, 0, 0, 0, 0, []), (.aload_n 0, 69, 0, 0, 0, 0, 0, 0, 0, []), (.getfield 25, 72, 5, 0, 0, 0, 393, 0, 0, []), (.iload_n 2, 73, 2, 0, 0, 0, 0, 0, 0, []), (.iload_n 3, 74, 3, 0, 0, 0, 0, 0, 0, []), (.invokevirtual 107, 77, 57, 3, 1, 6, 840, 0, 0, []), (.aload_n 0, 78, 0, 0, 0, 0, 0, 0, 0, []), (.getfield 25, 81, 5, 0, 0, 0, 393, 0, 0, []), (.iload_n 2, 82, 2, 0, 0, 0, 0, 0, 0, []), (.iload 4, 84, 4, 0, 0, 0, 0, 0, 0, []), (.invokevirtual 107, 87, 57, 3, 1, 6, 840, 0, 0, []), (.isub, 88, 0, 0, 0, 0, 0, 0, 0, []), (.i2l, 89, 0, 0, 0, 0, 0, 0, 0, []), (.lstore 7, 91, 7, 0, 0, 0, 0, 0, 0, []), (.aload_n 0, 92, 0, 0, 0, 0, 0, 0, 0, []), (.getfield 18, 95, 5, 6, 0, 0, 399, 0, 0, []), (.iload_n 1, 96, 1, 0, 0, 0, 0, 0, 0, []), (.ldc2_w 116, 99, 0, 0, 0, 0, 842, 0, 1000, []), (.lload 5, 101, 5, 0, 0, 0, 0, 0, 0, []), (.lmul, 102, 0, 0, 0, 0, 0, 0, 0, []), (.lload 7, 104, 7, 0, 0, 0, 0, 0, 0, []), (.invokestatic 118, 107, 131, 2, 2, 0, 843, 0, 0, []), (.invokestatic 122, 110, 129, 3, 0, 0, 844, 0, 0, []), (.return_, 111, 0, 0, 0, 0, 0, 0, 0, [])]
set_option maxRecDepth 100000 in
theorem zk_X5_weighRaise_0 : zOks nX5_weighRaise zo_X5_weighRaise_0 0 = true := by decide +kernel
def zm_X5_weighRaise : List (Nat × List Bool) := [(0, [true, true, false, false, false, false, false, false, false])]
set_option maxRecDepth 100000 in
set_option maxHeartbeats 4000000 in
theorem zr_X5_weighRaise_0 {C : zCa} {post : zPo} {X : zX} (hX : zClosed none C post nX5_weighRaise X) (p0 : Int32) (σ : zS) (h : C nX11_at [.ref 23, .int p0] σ (zPI fun x2 σ1 => C nX11_at [.ref 35, .int x2] σ1 (zPI fun x4 σ3 => C nX5_nextOf [.ref 34, .int x2, .int x4] σ3 (zPI fun x6 σ5 => C nX11_put [.ref 36, .int p0, .int x6] σ5 (zPV fun σ7 => zIf ((x6 : Int32) = (-1)) (post none σ7) (C nX6_lossOf [.ref 24, .int x2, .int x6] σ7 (zPI fun x9 σ8 => C nX6_lossOf [.ref 24, .int x2, .int x4] σ8 (zPI fun x11 σ10 => C nX6_bitsOf [.ref 24, .int x2, .int x4] σ10 (zPI fun x13 σ12 => C nX6_bitsOf [.ref 24, .int x2, .int x6] σ12 (zPI fun x15 σ14 => C nX11_ratio [.long (1000 * (Int32.toInt64 (x9 - x11))), .long (Int32.toInt64 (x13 - x15))] σ14 (zPJ fun x17 σ16 => C nX11_put_ [.ref 37, .int p0, .long x17] σ16 (zPV fun σ18 => post none σ18)))))))))))) : X 0 [some (.ref 34), some (.int p0), none, none, none, none, none, none, none] [] σ := zSeq_ok hX zm_X5_weighRaise zo_X5_weighRaise_0 0 0 _ _ _ zk_X5_weighRaise_0 h
theorem ze_X5_weighRaise {d : Nat} {post : zPo} (p0 : Int32) (σ : zS) (h : ∀ X : zX, zClosed none (zCall d) post nX5_weighRaise X → X 0 [some (.ref 34), some (.int p0), none, none, none, none, none, none, none] [] σ) : zCall (d + 1) nX5_weighRaise [.ref 34, .int p0] σ post := h
-- X5_raise(34,) depth 5
def zo_X5_raise_0 : List zOp := [(.aload_n 0, 1, 0, 0, 0, 0, 0, 0, 0, []), (.getfield 40, 4, 5, 2, 0, 0, 395, 0, 0, []), (.getfield 51, 7, 3, 9, 0, 0, 264, 0, 0, []), (.iload_n 1, 8, 1, 0, 0, 0, 0, 0, 0, []), (.invokestatic 54, 11, 126, 2, 1, 0, 819, 0, 0, []), (.istore_n 2, 12, 2, 0, 0, 0, 0, 0, 0, []), (.aload_n 0, 13, 0, 0, 0, 0, 0, 0, 0, []), (.getfield 15, 16, 5, 5, 0, 0, 398, 0, 0, []), (.iload_n 1, 17, 1, 0, 0, 0, 0, 0, 0, []), (.invokestatic 54, 20, 126, 2, 1, 0, 819, 0, 0, []), (.istore_n 3, 21, 3, 0, 0, 0, 0, 0, 0, []), (.aload_n 0, 22, 0, 0, 0, 0, 0, 0, 0, []), (.getfield 9, 25, 5, 4, 0, 0, 397, 0, 0, []), (.iload_n 2, 26, 2, 0, 0, 0, 0, 0, 0, []), (.iload_n 3, 27, 3, 0, 0, 0, 0, 0, 0, []), (.invokestatic 65, 30, 128, 3, 0, 0, 821, 0, 0, []), (.aload_n 0, 31, 0, 0, 0, 0, 0, 0, 0, []), (.getfield 41, 34, 5, 3, 0, 0, 396, 0, 0, []), (.getfield 104, 37, 1, 1, 0, 0, 329, 0, 0, []), (.iload_n 1, 38, 1, 0, 0, 0, 0, 0, 0, []), (.aload_n 0, 39, 0, 0, 0, 0, 0, 0, 0, []), (.getfield 25, 42, 5, 0, 0, 0, 393, 0, 0, []), (.iload_n 2, 43, 2, 0, 0, 0, 0, 0, 0, []), (.iload_n 3, 44, 3, 0, 0, 0, 0, 0, 0, []), (.invokevirtual 107, 47, 57, 3, 1, 6, 840, 0, 0, []), (.invokestatic 65, 50, 128, 3, 0, 0, 821, 0, 0, []), (.aload_n 0, 51, 0, 0, 0, 0, 0, 0, 0, []), (.iload_n 1, 52, 1, 0, 0, 0, 0, 0, 0, []), (.invokevirtual 79, 55, 49, 2, 0, 5, 832, 0, 0, []), (.return_, 56, 0, 0, 0, 0, 0, 0, 0, [])]
set_option maxRecDepth 100000 in
theorem zk_X5_raise_0 : zOks nX5_raise zo_X5_raise_0 0 = true := by decide +kernel
def zm_X5_raise : List (Nat × List Bool) := [(0, [true, true, false, false])]
set_option maxRecDepth 100000 in
set_option maxHeartbeats 4000000 in
theorem zr_X5_raise_0 {C : zCa} {post : zPo} {X : zX} (hX : zClosed none C post nX5_raise X) (p0 : Int32) (σ : zS) (h : C nX11_at [.ref 23, .int p0] σ (zPI fun x2 σ1 => C nX11_at [.ref 36, .int p0] σ1 (zPI fun x4 σ3 => C nX11_put [.ref 35, .int x2, .int x4] σ3 (zPV fun σ5 => C nX6_bitsOf [.ref 24, .int x2, .int x4] σ5 (zPI fun x7 σ6 => C nX11_put [.ref 27, .int p0, .int x7] σ6 (zPV fun σ8 => C nX5_weighRaise [.ref 34, .int p0] σ8 (zPV fun σ9 => post none σ9))))))) : X 0 [some (.ref 34), some (.int p0), none, none] [] σ := zSeq_ok hX zm_X5_raise zo_X5_raise_0 0 0 _ _ _ zk_X5_raise_0 h
theorem ze_X5_raise {d : Nat} {post : zPo} (p0 : Int32) (σ : zS) (h : ∀ X : zX, zClosed none (zCall d) post nX5_raise X → X 0 [some (.ref 34), some (.int p0), none, none] [] σ) : zCall (d + 1) nX5_raise [.ref 34, .int p0] σ post := h
-- X5_mend(34, None) depth 6
def zo_X5_mend_0 : List zOp := [(.aload_n 1, 1, 1, 0, 0, 0, 0, 0, 0, []), (.aload_n 0, 2, 0, 0, 0, 0, 0, 0, 0, []), (.getfield 9, 5, 5, 4, 0, 0, 397, 0, 0, []), (.invokestatic 69, 8, 130, 2, 0, 0, 830, 0, 0, []), (.aload_n 0, 9, 0, 0, 0, 0, 0, 0, 0, []), (.getfield 41, 12, 5, 3, 0, 0, 396, 0, 0, []), (.aload_n 0, 13, 0, 0, 0, 0, 0, 0, 0, []), (.getfield 9, 16, 5, 4, 0, 0, 397, 0, 0, []), (.invokevirtual 73, 19, 6, 2, 0, 1, 831, 0, 0, []), (.iconst 0, 20, 0, 0, 0, 0, 0, 0, 0, []), (.istore_n 2, 21, 2, 0, 0, 0, 0, 0, 0, [])]
set_option maxRecDepth 100000 in
theorem zk_X5_mend_0 : zOks nX5_mend zo_X5_mend_0 0 = true := by decide +kernel
def zo_X5_mend_21 : List zOp := [(.iload_n 2, 22, 2, 0, 0, 0, 0, 0, 0, []), (.aload_n 0, 23, 0, 0, 0, 0, 0, 0, 0, []), (.getfield 40, 26, 5, 2, 0, 0, 395, 0, 0, []), (.getfield 45, 29, 3, 0, 1, 0, 238, 0, 0, []), (.if_icmp .ge 14, 32, 43, 0, 0, 0, 0, 0, 0, []), (.aload_n 0, 33, 0, 0, 0, 0, 0, 0, 0, []), (.iload_n 2, 34, 2, 0, 0, 0, 0, 0, 0, []), (.invokevirtual 79, 37, 49, 2, 0, 5, 832, 0, 0, []), (.iinc 2 1, 40, 2, 0, 0, 0, 0, 1, 0, []), (.goto (-19), 43, 21, 0, 0, 0, 0, 0, 0, []), (.iconst 0, 44, 0, 0, 0, 0, 0, 0, 0, []), (.istore_n 2, 45, 2, 0, 0, 0, 0, 0, 0, [])]
set_option maxRecDepth 100000 in
theorem zk_X5_mend_21 : zOks nX5_mend zo_X5_mend_21 21 = true := by decide +kernel
def zo_X5_mend_45 : List zOp := [(.iload_n 2, 46, 2, 0, 0, 0, 0, 0, 0, []), (.sipush 3060, 49, 0, 0, 0, 0, 0, 3060, 0, []), (.if_icmp .gt 67, 52, 116, 0, 0, 0, 0, 0, 0, []), (.aload_n 0, 53, 0, 0, 0, 0, 0, 0, 0, []), (.getfield 41, 56, 5, 3, 0, 0, 396, 0, 0, []), (.invokevirtual 83, 59, 7, 1, 0, 1, 847, 0, 0, []), (.aload_n 0, 60, 0, 0, 0, 0, 0, 0, 0, []), (.getfield 41, 63, 5, 3, 0, 0, 396, 0, 0, []), (.invokevirtual 86, 66, 12, 1, 1, 1, 848, 0, 0, []), (.istore_n 3, 67, 3, 0, 0, 0, 0, 0, 0, []), (.iload_n 3, 68, 3, 0, 0, 0, 0, 0, 0, []), (.ifCond .ge 13, 71, 81, 0, 0, 0, 0, 0, 0, []), (.aload_n 0, 72, 0, 0, 0, 0, 0, 0, 0, []), (.getfield 9, 75, 5, 4, 0, 0, 397, 0, 0, []), (.aload_n 1, 76, 1, 0, 0, 0, 0, 0, 0, []), (.invokestatic 69, 79, 130, 2, 0, 0, 830, 0, 0, []), (.iload_n 2, 80, 2, 0, 0, 0, 0, 0, 0, []), (.ireturn, 81, 0, 0, 0, 0, 0, 0, 0, []), (.aload_n 0, 82, 0, 0, 0, 0, 0, 0, 0, []), (.aload_n 0, 83, 0, 0, 0, 0, 0, 0, 0, []), (.getfield 41, 86, 5, 3, 0, 0, 396, 0, 0, []), (.iload_n 3, 87, 3, 0, 0, 0, 0, 0, 0, []), (.invokevirtual 90, 90, 13, 2, 1, 1, 852, 0, 0, []), (.iload_n 3, 91, 3, 0, 0, 0, 0, 0, 0, []), (.invokevirtual 94, 94, 47, 3, 1, 5, 856, 0, 0, []), (.istore 4, 96, 4, 0, 0, 0, 0, 0, 0, []), (.iload 4, 98, 4, 0, 0, 0, 0, 0, 0, []), (.ifCond .ge 6, 101, 104, 0, 0, 0, 0, 0, 0, []), (.bipush (-3), 103, 0, 0, 0, 0, 0, (-3), 0, []), (.ireturn, 104, 0, 0, 0, 0, 0, 0, 0, []), (.aload_n 0, 105, 0, 0, 0, 0, 0, 0, 0, []), (.iload 4, 107, 4, 0, 0, 0, 0, 0, 0, []), (.invokevirtual 98, 110, 48, 2, 0, 5, 863, 0, 0, []), (.iinc 2 1, 113, 2, 0, 0, 0, 0, 1, 0, []), (.goto (-68), 116, 45, 0, 0, 0, 0, 0, 0, []), (.bipush (-3), 118, 0, 0, 0, 0, 0, (-3), 0, []), (.ireturn, 119, 0, 0, 0, 0, 0, 0, 0, [])]
set_option maxRecDepth 100000 in
theorem zk_X5_mend_45 : zOks nX5_mend zo_X5_mend_45 45 = true := by decide +kernel
def zm_X5_mend : List (Nat × List Bool) := [(0, [true, true, false, false, false]), (21, [true, true, true, false, false]), (45, [true, true, true, false, false])]
set_option maxRecDepth 100000 in
set_option maxHeartbeats 4000000 in
theorem zr_X5_mend_0 {C : zCa} {post : zPo} {X : zX} (hX : zClosed none C post nX5_mend X) (p0 : Nat) (σ : zS) (h : C nX11_copyRow [.ref p0, .ref 35] σ (zPV fun σ1 => C nX1_takeBits [.ref 26, .ref 35] σ1 (zPV fun σ2 => X 21 [some (.ref 34), some (.ref p0), some (.int 0), none, none] [] σ2))) : X 0 [some (.ref 34), some (.ref p0), none, none, none] [] σ := zSeq_ok hX zm_X5_mend zo_X5_mend_0 0 0 _ _ _ zk_X5_mend_0 h
set_option maxRecDepth 100000 in
set_option maxHeartbeats 4000000 in
theorem zr_X5_mend_21 {C : zCa} {post : zPo} {X : zX} (hX : zClosed none C post nX5_mend X) (p0 : Nat) (v2 : Int32) (σ : zS) (h : zIf ((v2 : Int32) < (σ.1 16 0)) (C nX5_weighRaise [.ref 34, .int v2] σ (zPV fun σ1 => X 21 [some (.ref 34), some (.ref p0), some (.int (v2 + 1)), none, none] [] σ1)) (X 45 [some (.ref 34), some (.ref p0), some (.int 0), none, none] [] σ)) : X 21 [some (.ref 34), some (.ref p0), some (.int v2), none, none] [] σ := zSeq_ok hX zm_X5_mend zo_X5_mend_21 21 21 _ _ _ zk_X5_mend_21 h
set_option maxRecDepth 100000 in
set_option maxHeartbeats 4000000 in
theorem zr_X5_mend_45 {C : zCa} {post : zPo} {X : zX} (hX : zClosed none C post nX5_mend X) (p0 : Nat) (v2 : Int32) (σ : zS) (h : zIf ((v2 : Int32) ≤ 3060) (C nX1_passAsSet [.ref 26] σ (zPV fun σ1 => C nX1_firstUnderflow [.ref 26] σ1 (zPI fun x3 σ2 => zIf ((x3 : Int32) < 0) (C nX11_copyRow [.ref 35, .ref p0] σ2 (zPV fun σ4 => post (some (.int v2)) σ4)) (C nX1_lastFullNotBehind [.ref 26, .int x3] σ2 (zPI fun x6 σ5 => C nX5_cheapestRaise [.ref 34, .int x6, .int x3] σ5 (zPI fun x8 σ7 => zIf ((x8 : Int32) < 0) (post (some (.int (-3))) σ7) (C nX5_raise [.ref 34, .int x8] σ7 (zPV fun σ9 => X 45 [some (.ref 34), some (.ref p0), some (.int (v2 + 1)), none, none] [] σ9)))))))) (post (some (.int (-3))) σ)) : X 45 [some (.ref 34), some (.ref p0), some (.int v2), none, none] [] σ := zSeq_ok hX zm_X5_mend zo_X5_mend_45 45 45 _ _ _ zk_X5_mend_45 h
theorem ze_X5_mend {d : Nat} {post : zPo} (p0 : Nat) (σ : zS) (h : ∀ X : zX, zClosed none (zCall d) post nX5_mend X → X 0 [some (.ref 34), some (.ref p0), none, none, none] [] σ) : zCall (d + 1) nX5_mend [.ref 34, .ref p0] σ post := h
-- X7_copyFrom(9, 50) depth 2
def zo_X7_copyFrom_9_50_0 : List zOp := [(.aload_n 0, 1, 0, 0, 0, 0, 0, 0, 0, []), (.aload_n 1, 2, 1, 0, 0, 0, 0, 0, 0, []), (.getfield 15, 5, 7, 0, 2, 0, 192, 0, 0, []), (.putfield 15, 8, 7, 0, 2, 0, 192, 0, 0, []), (.aload_n 1, 9, 1, 0, 0, 0, 0, 0, 0, []), (.getfield 9, 12, 7, 1, 0, 0, 194, 0, 0, []), (.aload_n 0, 13, 0, 0, 0, 0, 0, 0, 0, []), (.getfield 9, 16, 7, 1, 0, 0, 194, 0, 0, []), (.invokestatic 19, 19, 130, 2, 0, 0, 1021, 0, 0, []), (.return_, 20, 0, 0, 0, 0, 0, 0, 0, [])]
set_option maxRecDepth 100000 in
theorem zk_X7_copyFrom_9_50_0 : zOks nX7_copyFrom zo_X7_copyFrom_9_50_0 0 = true := by decide +kernel
def zm_X7_copyFrom_9_50 : List (Nat × List Bool) := [(0, [true, true])]
set_option maxRecDepth 100000 in
set_option maxHeartbeats 4000000 in
theorem zr_X7_copyFrom_9_50_0 {C : zCa} {post : zPo} {X : zX} (hX : zClosed none C post nX7_copyFrom X) (σ : zS) (h : zG ((σ.1 50 0 : Int32) == 0 || (σ.1 50 0 : Int32) == 1) (C nX11_copyRow [.ref 51, .ref 10] (zSI σ 9 0 (σ.1 50 0)) (zPV fun σ1 => post none σ1))) : X 0 [some (.ref 9), some (.ref 50)] [] σ := zSeq_ok hX zm_X7_copyFrom_9_50 zo_X7_copyFrom_9_50_0 0 0 _ _ _ zk_X7_copyFrom_9_50_0 h
theorem ze_X7_copyFrom_9_50 {d : Nat} {post : zPo} (σ : zS) (h : ∀ X : zX, zClosed none (zCall d) post nX7_copyFrom X → X 0 [some (.ref 9), some (.ref 50)] [] σ) : zCall (d + 1) nX7_copyFrom [.ref 9, .ref 50] σ post := h
-- X7_copyFrom(9, 61) depth 2
def zo_X7_copyFrom_9_61_0 : List zOp := [(.aload_n 0, 1, 0, 0, 0, 0, 0, 0, 0, []), (.aload_n 1, 2, 1, 0, 0, 0, 0, 0, 0, []), (.getfield 15, 5, 7, 0, 2, 0, 192, 0, 0, []), (.putfield 15, 8, 7, 0, 2, 0, 192, 0, 0, []), (.aload_n 1, 9, 1, 0, 0, 0, 0, 0, 0, []), (.getfield 9, 12, 7, 1, 0, 0, 194, 0, 0, []), (.aload_n 0, 13, 0, 0, 0, 0, 0, 0, 0, []), (.getfield 9, 16, 7, 1, 0, 0, 194, 0, 0, []), (.invokestatic 19, 19, 130, 2, 0, 0, 1021, 0, 0, []), (.return_, 20, 0, 0, 0, 0, 0, 0, 0, [])]
set_option maxRecDepth 100000 in
theorem zk_X7_copyFrom_9_61_0 : zOks nX7_copyFrom zo_X7_copyFrom_9_61_0 0 = true := by decide +kernel
def zm_X7_copyFrom_9_61 : List (Nat × List Bool) := [(0, [true, true])]
set_option maxRecDepth 100000 in
set_option maxHeartbeats 4000000 in
theorem zr_X7_copyFrom_9_61_0 {C : zCa} {post : zPo} {X : zX} (hX : zClosed none C post nX7_copyFrom X) (σ : zS) (h : zG ((σ.1 61 0 : Int32) == 0 || (σ.1 61 0 : Int32) == 1) (C nX11_copyRow [.ref 62, .ref 10] (zSI σ 9 0 (σ.1 61 0)) (zPV fun σ1 => post none σ1))) : X 0 [some (.ref 9), some (.ref 61)] [] σ := zSeq_ok hX zm_X7_copyFrom_9_61 zo_X7_copyFrom_9_61_0 0 0 _ _ _ zk_X7_copyFrom_9_61_0 h
theorem ze_X7_copyFrom_9_61 {d : Nat} {post : zPo} (σ : zS) (h : ∀ X : zX, zClosed none (zCall d) post nX7_copyFrom X → X 0 [some (.ref 9), some (.ref 61)] [] σ) : zCall (d + 1) nX7_copyFrom [.ref 9, .ref 61] σ post := h
-- X8_copyFrom(4, 45) depth 2
def zo_X8_copyFrom_4_45_0 : List zOp := [(.aload_n 0, 1, 0, 0, 0, 0, 0, 0, 0, []), (.aload_n 1, 2, 1, 0, 0, 0, 0, 0, 0, []), (.getfield 9, 5, 8, 0, 1, 0, 124, 0, 0, []), (.putfield 9, 8, 8, 0, 1, 0, 124, 0, 0, []), (.aload_n 0, 9, 0, 0, 0, 0, 0, 0, 0, []), (.aload_n 1, 10, 1, 0, 0, 0, 0, 0, 0, []), (.getfield 15, 13, 8, 1, 1, 0, 127, 0, 0, []), (.putfield 15, 16, 8, 1, 1, 0, 127, 0, 0, []), (.aload_n 0, 17, 0, 0, 0, 0, 0, 0, 0, []), (.aload_n 1, 18, 1, 0, 0, 0, 0, 0, 0, []), (.getfield 18, 21, 8, 2, 1, 0, 130, 0, 0, []), (.putfield 18, 24, 8, 2, 1, 0, 130, 0, 0, []), (.aload_n 0, 25, 0, 0, 0, 0, 0, 0, 0, []), (.aload_n 1, 26, 1, 0, 0, 0, 0, 0, 0, []), (.getfield 21, 29, 8, 3, 1, 0, 134, 0, 0, []), (.putfield 21, 32, 8, 3, 1, 0, 134, 0, 0, []), (.aload_n 0, 33, 0, 0, 0, 0, 0, 0, 0, []), (.aload_n 1, 34, 1, 0, 0, 0, 0, 0, 0, []), (.getfield 25, 37, 8, 4, 1, 0, 138, 0, 0, []), (.putfield 25, 40, 8, 4, 1, 0, 138, 0, 0, []), (.aload_n 0, 41, 0, 0, 0, 0, 0, 0, 0, []), (.aload_n 1, 42, 1, 0, 0, 0, 0, 0, 0, []), (.getfield 28, 45, 8, 5, 1, 0, 143, 0, 0, []), (.putfield 28, 48, 8, 5, 1, 0, 143, 0, 0, []), (.aload_n 0, 49, 0, 0, 0, 0, 0, 0, 0, []), (.aload_n 1, 50, 1, 0, 0, 0, 0, 0, 0, []), (.getfield 31, 53, 8, 6, 1, 0, 148, 0, 0, []), (.putfield 31, 56, 8, 6, 1, 0, 148, 0, 0, []), (.aload_n 0, 57, 0, 0, 0, 0, 0, 0, 0, []), (.aload_n 1, 58, 1, 0, 0, 0, 0, 0, 0, []), (.getfield 47, 61, 8, 7, 1, 0, 153, 0, 0, []), (.putfield 47, 64, 8, 7, 1, 0, 153, 0, 0, []), (.aload_n 1, 65, 1, 0, 0, 0, 0, 0, 0, []), (.getfield 34, 68, 8, 8, 0, 0, 155, 0, 0, []), (.aload_n 0, 69, 0, 0, 0, 0, 0, 0, 0, []), (.getfield 34, 72, 8, 8, 0, 0, 155, 0, 0, []), (.invokestatic 66, 75, 130, 2, 0, 0, 1016, 0, 0, []), (.aload_n 1, 76, 1, 0, 0, 0, 0, 0, 0, []), (.getfield 38, 79, 8, 9, 0, 0, 158, 0, 0, []), (.aload_n 0, 80, 0, 0, 0, 0, 0, 0, 0, []), (.getfield 38, 83, 8, 9, 0, 0, 158, 0, 0, []), (.invokestatic 66, 86, 130, 2, 0, 0, 1016, 0, 0, []), (.aload_n 1, 87, 1, 0, 0, 0, 0, 0, 0, []), (.getfield 41, 90, 8, 10, 0, 0, 159, 0, 0, []), (.aload_n 0, 91, 0, 0, 0, 0, 0, 0, 0, []), (.getfield 41, 94, 8, 10, 0, 0, 159, 0, 0, []), (.invokestatic 66, 97, 130, 2, 0, 0, 1016, 0, 0, []), (.aload_n 1, 98, 1, 0, 0, 0, 0, 0, 0, []), (.getfield 44, 101, 8, 11, 0, 0, 160, 0, 0, []), (.aload_n 0, 102, 0, 0, 0, 0, 0, 0, 0, []), (.getfield 44, 105, 8, 11, 0, 0, 160, 0, 0, []), (.invokestatic 66, 108, 130, 2, 0, 0, 1016, 0, 0, []), (.return_, 109, 0, 0, 0, 0, 0, 0, 0, [])]
set_option maxRecDepth 100000 in
theorem zk_X8_copyFrom_4_45_0 : zOks nX8_copyFrom zo_X8_copyFrom_4_45_0 0 = true := by decide +kernel
def zm_X8_copyFrom_4_45 : List (Nat × List Bool) := [(0, [true, true])]
set_option maxRecDepth 100000 in
set_option maxHeartbeats 4000000 in
theorem zr_X8_copyFrom_4_45_0 {C : zCa} {post : zPo} {X : zX} (hX : zClosed none C post nX8_copyFrom X) (σ : zS) (h : C nX11_copyRow [.ref 46, .ref 5] (zSI (zSI (zSI (zSI (zSI (zSI (zSI (zSI σ 4 0 (σ.1 45 0)) 4 1 ((zSI σ 4 0 (σ.1 45 0)).1 45 1)) 4 2 ((zSI (zSI σ 4 0 (σ.1 45 0)) 4 1 ((zSI σ 4 0 (σ.1 45 0)).1 45 1)).1 45 2)) 4 3 ((zSI (zSI (zSI σ 4 0 (σ.1 45 0)) 4 1 ((zSI σ 4 0 (σ.1 45 0)).1 45 1)) 4 2 ((zSI (zSI σ 4 0 (σ.1 45 0)) 4 1 ((zSI σ 4 0 (σ.1 45 0)).1 45 1)).1 45 2)).1 45 3)) 4 4 ((zSI (zSI (zSI (zSI σ 4 0 (σ.1 45 0)) 4 1 ((zSI σ 4 0 (σ.1 45 0)).1 45 1)) 4 2 ((zSI (zSI σ 4 0 (σ.1 45 0)) 4 1 ((zSI σ 4 0 (σ.1 45 0)).1 45 1)).1 45 2)) 4 3 ((zSI (zSI (zSI σ 4 0 (σ.1 45 0)) 4 1 ((zSI σ 4 0 (σ.1 45 0)).1 45 1)) 4 2 ((zSI (zSI σ 4 0 (σ.1 45 0)) 4 1 ((zSI σ 4 0 (σ.1 45 0)).1 45 1)).1 45 2)).1 45 3)).1 45 4)) 4 5 ((zSI (zSI (zSI (zSI (zSI σ 4 0 (σ.1 45 0)) 4 1 ((zSI σ 4 0 (σ.1 45 0)).1 45 1)) 4 2 ((zSI (zSI σ 4 0 (σ.1 45 0)) 4 1 ((zSI σ 4 0 (σ.1 45 0)).1 45 1)).1 45 2)) 4 3 ((zSI (zSI (zSI σ 4 0 (σ.1 45 0)) 4 1 ((zSI σ 4 0 (σ.1 45 0)).1 45 1)) 4 2 ((zSI (zSI σ 4 0 (σ.1 45 0)) 4 1 ((zSI σ 4 0 (σ.1 45 0)).1 45 1)).1 45 2)).1 45 3)) 4 4 ((zSI (zSI (zSI (zSI σ 4 0 (σ.1 45 0)) 4 1 ((zSI σ 4 0 (σ.1 45 0)).1 45 1)) 4 2 ((zSI (zSI σ 4 0 (σ.1 45 0)) 4 1 ((zSI σ 4 0 (σ.1 45 0)).1 45 1)).1 45 2)) 4 3 ((zSI (zSI (zSI σ 4 0 (σ.1 45 0)) 4 1 ((zSI σ 4 0 (σ.1 45 0)).1 45 1)) 4 2 ((zSI (zSI σ 4 0 (σ.1 45 0)) 4 1 ((zSI σ 4 0 (σ.1 45 0)).1 45 1)).1 45 2)).1 45 3)).1 45 4)).1 45 5)) 4 6 ((zSI (zSI (zSI (zSI (zSI (zSI σ 4 0 (σ.1 45 0)) 4 1 ((zSI σ 4 0 (σ.1 45 0)).1 45 1)) 4 2 ((zSI (zSI σ 4 0 (σ.1 45 0)) 4 1 ((zSI σ 4 0 (σ.1 45 0)).1 45 1)).1 45 2)) 4 3 ((zSI (zSI (zSI σ 4 0 (σ.1 45 0)) 4 1 ((zSI σ 4 0 (σ.1 45 0)).1 45 1)) 4 2 ((zSI (zSI σ 4 0 (σ.1 45 0)) 4 1 ((zSI σ 4 0 (σ.1 45 0)).1 45 1)).1 45 2)).1 45 3)) 4 4 ((zSI (zSI (zSI (zSI σ 4 0 (σ.1 45 0)) 4 1 ((zSI σ 4 0 (σ.1 45 0)).1 45 1)) 4 2 ((zSI (zSI σ 4 0 (σ.1 45 0)) 4 1 ((zSI σ 4 0 (σ.1 45 0)).1 45 1)).1 45 2)) 4 3 ((zSI (zSI (zSI σ 4 0 (σ.1 45 0)) 4 1 ((zSI σ 4 0 (σ.1 45 0)).1 45 1)) 4 2 ((zSI (zSI σ 4 0 (σ.1 45 0)) 4 1 ((zSI σ 4 0 (σ.1 45 0)).1 45 1)).1 45 2)).1 45 3)).1 45 4)) 4 5 ((zSI (zSI (zSI (zSI (zSI σ 4 0 (σ.1 45 0)) 4 1 ((zSI σ 4 0 (σ.1 45 0)).1 45 1)) 4 2 ((zSI (zSI σ 4 0 (σ.1 45 0)) 4 1 ((zSI σ 4 0 (σ.1 45 0)).1 45 1)).1 45 2)) 4 3 ((zSI (zSI (zSI σ 4 0 (σ.1 45 0)) 4 1 ((zSI σ 4 0 (σ.1 45 0)).1 45 1)) 4 2 ((zSI (zSI σ 4 0 (σ.1 45 0)) 4 1 ((zSI σ 4 0 (σ.1 45 0)).1 45 1)).1 45 2)).1 45 3)) 4 4 ((zSI (zSI (zSI (zSI σ 4 0 (σ.1 45 0)) 4 1 ((zSI σ 4 0 (σ.1 45 0)).1 45 1)) 4 2 ((zSI (zSI σ 4 0 (σ.1 45 0)) 4 1 ((zSI σ 4 0 (σ.1 45 0)).1 45 1)).1 45 2)) 4 3 ((zSI (zSI (zSI σ 4 0 (σ.1 45 0)) 4 1 ((zSI σ 4 0 (σ.1 45 0)).1 45 1)) 4 2 ((zSI (zSI σ 4 0 (σ.1 45 0)) 4 1 ((zSI σ 4 0 (σ.1 45 0)).1 45 1)).1 45 2)).1 45 3)).1 45 4)).1 45 5)).1 45 6)) 4 7 ((zSI (zSI (zSI (zSI (zSI (zSI (zSI σ 4 0 (σ.1 45 0)) 4 1 ((zSI σ 4 0 (σ.1 45 0)).1 45 1)) 4 2 ((zSI (zSI σ 4 0 (σ.1 45 0)) 4 1 ((zSI σ 4 0 (σ.1 45 0)).1 45 1)).1 45 2)) 4 3 ((zSI (zSI (zSI σ 4 0 (σ.1 45 0)) 4 1 ((zSI σ 4 0 (σ.1 45 0)).1 45 1)) 4 2 ((zSI (zSI σ 4 0 (σ.1 45 0)) 4 1 ((zSI σ 4 0 (σ.1 45 0)).1 45 1)).1 45 2)).1 45 3)) 4 4 ((zSI (zSI (zSI (zSI σ 4 0 (σ.1 45 0)) 4 1 ((zSI σ 4 0 (σ.1 45 0)).1 45 1)) 4 2 ((zSI (zSI σ 4 0 (σ.1 45 0)) 4 1 ((zSI σ 4 0 (σ.1 45 0)).1 45 1)).1 45 2)) 4 3 ((zSI (zSI (zSI σ 4 0 (σ.1 45 0)) 4 1 ((zSI σ 4 0 (σ.1 45 0)).1 45 1)) 4 2 ((zSI (zSI σ 4 0 (σ.1 45 0)) 4 1 ((zSI σ 4 0 (σ.1 45 0)).1 45 1)).1 45 2)).1 45 3)).1 45 4)) 4 5 ((zSI (zSI (zSI (zSI (zSI σ 4 0 (σ.1 45 0)) 4 1 ((zSI σ 4 0 (σ.1 45 0)).1 45 1)) 4 2 ((zSI (zSI σ 4 0 (σ.1 45 0)) 4 1 ((zSI σ 4 0 (σ.1 45 0)).1 45 1)).1 45 2)) 4 3 ((zSI (zSI (zSI σ 4 0 (σ.1 45 0)) 4 1 ((zSI σ 4 0 (σ.1 45 0)).1 45 1)) 4 2 ((zSI (zSI σ 4 0 (σ.1 45 0)) 4 1 ((zSI σ 4 0 (σ.1 45 0)).1 45 1)).1 45 2)).1 45 3)) 4 4 ((zSI (zSI (zSI (zSI σ 4 0 (σ.1 45 0)) 4 1 ((zSI σ 4 0 (σ.1 45 0)).1 45 1)) 4 2 ((zSI (zSI σ 4 0 (σ.1 45 0)) 4 1 ((zSI σ 4 0 (σ.1 45 0)).1 45 1)).1 45 2)) 4 3 ((zSI (zSI (zSI σ 4 0 (σ.1 45 0)) 4 1 ((zSI σ 4 0 (σ.1 45 0)).1 45 1)) 4 2 ((zSI (zSI σ 4 0 (σ.1 45 0)) 4 1 ((zSI σ 4 0 (σ.1 45 0)).1 45 1)).1 45 2)).1 45 3)).1 45 4)).1 45 5)) 4 6 ((zSI (zSI (zSI (zSI (zSI (zSI σ 4 0 (σ.1 45 0)) 4 1 ((zSI σ 4 0 (σ.1 45 0)).1 45 1)) 4 2 ((zSI (zSI σ 4 0 (σ.1 45 0)) 4 1 ((zSI σ 4 0 (σ.1 45 0)).1 45 1)).1 45 2)) 4 3 ((zSI (zSI (zSI σ 4 0 (σ.1 45 0)) 4 1 ((zSI σ 4 0 (σ.1 45 0)).1 45 1)) 4 2 ((zSI (zSI σ 4 0 (σ.1 45 0)) 4 1 ((zSI σ 4 0 (σ.1 45 0)).1 45 1)).1 45 2)).1 45 3)) 4 4 ((zSI (zSI (zSI (zSI σ 4 0 (σ.1 45 0)) 4 1 ((zSI σ 4 0 (σ.1 45 0)).1 45 1)) 4 2 ((zSI (zSI σ 4 0 (σ.1 45 0)) 4 1 ((zSI σ 4 0 (σ.1 45 0)).1 45 1)).1 45 2)) 4 3 ((zSI (zSI (zSI σ 4 0 (σ.1 45 0)) 4 1 ((zSI σ 4 0 (σ.1 45 0)).1 45 1)) 4 2 ((zSI (zSI σ 4 0 (σ.1 45 0)) 4 1 ((zSI σ 4 0 (σ.1 45 0)).1 45 1)).1 45 2)).1 45 3)).1 45 4)) 4 5 ((zSI (zSI (zSI (zSI (zSI σ 4 0 (σ.1 45 0)) 4 1 ((zSI σ 4 0 (σ.1 45 0)).1 45 1)) 4 2 ((zSI (zSI σ 4 0 (σ.1 45 0)) 4 1 ((zSI σ 4 0 (σ.1 45 0)).1 45 1)).1 45 2)) 4 3 ((zSI (zSI (zSI σ 4 0 (σ.1 45 0)) 4 1 ((zSI σ 4 0 (σ.1 45 0)).1 45 1)) 4 2 ((zSI (zSI σ 4 0 (σ.1 45 0)) 4 1 ((zSI σ 4 0 (σ.1 45 0)).1 45 1)).1 45 2)).1 45 3)) 4 4 ((zSI (zSI (zSI (zSI σ 4 0 (σ.1 45 0)) 4 1 ((zSI σ 4 0 (σ.1 45 0)).1 45 1)) 4 2 ((zSI (zSI σ 4 0 (σ.1 45 0)) 4 1 ((zSI σ 4 0 (σ.1 45 0)).1 45 1)).1 45 2)) 4 3 ((zSI (zSI (zSI σ 4 0 (σ.1 45 0)) 4 1 ((zSI σ 4 0 (σ.1 45 0)).1 45 1)) 4 2 ((zSI (zSI σ 4 0 (σ.1 45 0)) 4 1 ((zSI σ 4 0 (σ.1 45 0)).1 45 1)).1 45 2)).1 45 3)).1 45 4)).1 45 5)).1 45 6)).1 45 7)) (zPV fun σ1 => C nX11_copyRow [.ref 47, .ref 6] σ1 (zPV fun σ2 => C nX11_copyRow [.ref 48, .ref 7] σ2 (zPV fun σ3 => C nX11_copyRow [.ref 49, .ref 8] σ3 (zPV fun σ4 => post none σ4))))) : X 0 [some (.ref 4), some (.ref 45)] [] σ := zSeq_ok hX zm_X8_copyFrom_4_45 zo_X8_copyFrom_4_45_0 0 0 _ _ _ zk_X8_copyFrom_4_45_0 h
theorem ze_X8_copyFrom_4_45 {d : Nat} {post : zPo} (σ : zS) (h : ∀ X : zX, zClosed none (zCall d) post nX8_copyFrom X → X 0 [some (.ref 4), some (.ref 45)] [] σ) : zCall (d + 1) nX8_copyFrom [.ref 4, .ref 45] σ post := h
-- X8_copyFrom(4, 56) depth 2
def zo_X8_copyFrom_4_56_0 : List zOp := [(.aload_n 0, 1, 0, 0, 0, 0, 0, 0, 0, []), (.aload_n 1, 2, 1, 0, 0, 0, 0, 0, 0, []), (.getfield 9, 5, 8, 0, 1, 0, 124, 0, 0, []), (.putfield 9, 8, 8, 0, 1, 0, 124, 0, 0, []), (.aload_n 0, 9, 0, 0, 0, 0, 0, 0, 0, []), (.aload_n 1, 10, 1, 0, 0, 0, 0, 0, 0, []), (.getfield 15, 13, 8, 1, 1, 0, 127, 0, 0, []), (.putfield 15, 16, 8, 1, 1, 0, 127, 0, 0, []), (.aload_n 0, 17, 0, 0, 0, 0, 0, 0, 0, []), (.aload_n 1, 18, 1, 0, 0, 0, 0, 0, 0, []), (.getfield 18, 21, 8, 2, 1, 0, 130, 0, 0, []), (.putfield 18, 24, 8, 2, 1, 0, 130, 0, 0, []), (.aload_n 0, 25, 0, 0, 0, 0, 0, 0, 0, []), (.aload_n 1, 26, 1, 0, 0, 0, 0, 0, 0, []), (.getfield 21, 29, 8, 3, 1, 0, 134, 0, 0, []), (.putfield 21, 32, 8, 3, 1, 0, 134, 0, 0, []), (.aload_n 0, 33, 0, 0, 0, 0, 0, 0, 0, []), (.aload_n 1, 34, 1, 0, 0, 0, 0, 0, 0, []), (.getfield 25, 37, 8, 4, 1, 0, 138, 0, 0, []), (.putfield 25, 40, 8, 4, 1, 0, 138, 0, 0, []), (.aload_n 0, 41, 0, 0, 0, 0, 0, 0, 0, []), (.aload_n 1, 42, 1, 0, 0, 0, 0, 0, 0, []), (.getfield 28, 45, 8, 5, 1, 0, 143, 0, 0, []), (.putfield 28, 48, 8, 5, 1, 0, 143, 0, 0, []), (.aload_n 0, 49, 0, 0, 0, 0, 0, 0, 0, []), (.aload_n 1, 50, 1, 0, 0, 0, 0, 0, 0, []), (.getfield 31, 53, 8, 6, 1, 0, 148, 0, 0, []), (.putfield 31, 56, 8, 6, 1, 0, 148, 0, 0, []), (.aload_n 0, 57, 0, 0, 0, 0, 0, 0, 0, []), (.aload_n 1, 58, 1, 0, 0, 0, 0, 0, 0, []), (.getfield 47, 61, 8, 7, 1, 0, 153, 0, 0, []), (.putfield 47, 64, 8, 7, 1, 0, 153, 0, 0, []), (.aload_n 1, 65, 1, 0, 0, 0, 0, 0, 0, []), (.getfield 34, 68, 8, 8, 0, 0, 155, 0, 0, []), (.aload_n 0, 69, 0, 0, 0, 0, 0, 0, 0, []), (.getfield 34, 72, 8, 8, 0, 0, 155, 0, 0, []), (.invokestatic 66, 75, 130, 2, 0, 0, 1016, 0, 0, []), (.aload_n 1, 76, 1, 0, 0, 0, 0, 0, 0, []), (.getfield 38, 79, 8, 9, 0, 0, 158, 0, 0, []), (.aload_n 0, 80, 0, 0, 0, 0, 0, 0, 0, []), (.getfield 38, 83, 8, 9, 0, 0, 158, 0, 0, []), (.invokestatic 66, 86, 130, 2, 0, 0, 1016, 0, 0, []), (.aload_n 1, 87, 1, 0, 0, 0, 0, 0, 0, []), (.getfield 41, 90, 8, 10, 0, 0, 159, 0, 0, []), (.aload_n 0, 91, 0, 0, 0, 0, 0, 0, 0, []), (.getfield 41, 94, 8, 10, 0, 0, 159, 0, 0, []), (.invokestatic 66, 97, 130, 2, 0, 0, 1016, 0, 0, []), (.aload_n 1, 98, 1, 0, 0, 0, 0, 0, 0, []), (.getfield 44, 101, 8, 11, 0, 0, 160, 0, 0, []), (.aload_n 0, 102, 0, 0, 0, 0, 0, 0, 0, []), (.getfield 44, 105, 8, 11, 0, 0, 160, 0, 0, []), (.invokestatic 66, 108, 130, 2, 0, 0, 1016, 0, 0, []), (.return_, 109, 0, 0, 0, 0, 0, 0, 0, [])]
set_option maxRecDepth 100000 in
theorem zk_X8_copyFrom_4_56_0 : zOks nX8_copyFrom zo_X8_copyFrom_4_56_0 0 = true := by decide +kernel
def zm_X8_copyFrom_4_56 : List (Nat × List Bool) := [(0, [true, true])]
set_option maxRecDepth 100000 in
set_option maxHeartbeats 4000000 in
theorem zr_X8_copyFrom_4_56_0 {C : zCa} {post : zPo} {X : zX} (hX : zClosed none C post nX8_copyFrom X) (σ : zS) (h : C nX11_copyRow [.ref 57, .ref 5] (zSI (zSI (zSI (zSI (zSI (zSI (zSI (zSI σ 4 0 (σ.1 56 0)) 4 1 ((zSI σ 4 0 (σ.1 56 0)).1 56 1)) 4 2 ((zSI (zSI σ 4 0 (σ.1 56 0)) 4 1 ((zSI σ 4 0 (σ.1 56 0)).1 56 1)).1 56 2)) 4 3 ((zSI (zSI (zSI σ 4 0 (σ.1 56 0)) 4 1 ((zSI σ 4 0 (σ.1 56 0)).1 56 1)) 4 2 ((zSI (zSI σ 4 0 (σ.1 56 0)) 4 1 ((zSI σ 4 0 (σ.1 56 0)).1 56 1)).1 56 2)).1 56 3)) 4 4 ((zSI (zSI (zSI (zSI σ 4 0 (σ.1 56 0)) 4 1 ((zSI σ 4 0 (σ.1 56 0)).1 56 1)) 4 2 ((zSI (zSI σ 4 0 (σ.1 56 0)) 4 1 ((zSI σ 4 0 (σ.1 56 0)).1 56 1)).1 56 2)) 4 3 ((zSI (zSI (zSI σ 4 0 (σ.1 56 0)) 4 1 ((zSI σ 4 0 (σ.1 56 0)).1 56 1)) 4 2 ((zSI (zSI σ 4 0 (σ.1 56 0)) 4 1 ((zSI σ 4 0 (σ.1 56 0)).1 56 1)).1 56 2)).1 56 3)).1 56 4)) 4 5 ((zSI (zSI (zSI (zSI (zSI σ 4 0 (σ.1 56 0)) 4 1 ((zSI σ 4 0 (σ.1 56 0)).1 56 1)) 4 2 ((zSI (zSI σ 4 0 (σ.1 56 0)) 4 1 ((zSI σ 4 0 (σ.1 56 0)).1 56 1)).1 56 2)) 4 3 ((zSI (zSI (zSI σ 4 0 (σ.1 56 0)) 4 1 ((zSI σ 4 0 (σ.1 56 0)).1 56 1)) 4 2 ((zSI (zSI σ 4 0 (σ.1 56 0)) 4 1 ((zSI σ 4 0 (σ.1 56 0)).1 56 1)).1 56 2)).1 56 3)) 4 4 ((zSI (zSI (zSI (zSI σ 4 0 (σ.1 56 0)) 4 1 ((zSI σ 4 0 (σ.1 56 0)).1 56 1)) 4 2 ((zSI (zSI σ 4 0 (σ.1 56 0)) 4 1 ((zSI σ 4 0 (σ.1 56 0)).1 56 1)).1 56 2)) 4 3 ((zSI (zSI (zSI σ 4 0 (σ.1 56 0)) 4 1 ((zSI σ 4 0 (σ.1 56 0)).1 56 1)) 4 2 ((zSI (zSI σ 4 0 (σ.1 56 0)) 4 1 ((zSI σ 4 0 (σ.1 56 0)).1 56 1)).1 56 2)).1 56 3)).1 56 4)).1 56 5)) 4 6 ((zSI (zSI (zSI (zSI (zSI (zSI σ 4 0 (σ.1 56 0)) 4 1 ((zSI σ 4 0 (σ.1 56 0)).1 56 1)) 4 2 ((zSI (zSI σ 4 0 (σ.1 56 0)) 4 1 ((zSI σ 4 0 (σ.1 56 0)).1 56 1)).1 56 2)) 4 3 ((zSI (zSI (zSI σ 4 0 (σ.1 56 0)) 4 1 ((zSI σ 4 0 (σ.1 56 0)).1 56 1)) 4 2 ((zSI (zSI σ 4 0 (σ.1 56 0)) 4 1 ((zSI σ 4 0 (σ.1 56 0)).1 56 1)).1 56 2)).1 56 3)) 4 4 ((zSI (zSI (zSI (zSI σ 4 0 (σ.1 56 0)) 4 1 ((zSI σ 4 0 (σ.1 56 0)).1 56 1)) 4 2 ((zSI (zSI σ 4 0 (σ.1 56 0)) 4 1 ((zSI σ 4 0 (σ.1 56 0)).1 56 1)).1 56 2)) 4 3 ((zSI (zSI (zSI σ 4 0 (σ.1 56 0)) 4 1 ((zSI σ 4 0 (σ.1 56 0)).1 56 1)) 4 2 ((zSI (zSI σ 4 0 (σ.1 56 0)) 4 1 ((zSI σ 4 0 (σ.1 56 0)).1 56 1)).1 56 2)).1 56 3)).1 56 4)) 4 5 ((zSI (zSI (zSI (zSI (zSI σ 4 0 (σ.1 56 0)) 4 1 ((zSI σ 4 0 (σ.1 56 0)).1 56 1)) 4 2 ((zSI (zSI σ 4 0 (σ.1 56 0)) 4 1 ((zSI σ 4 0 (σ.1 56 0)).1 56 1)).1 56 2)) 4 3 ((zSI (zSI (zSI σ 4 0 (σ.1 56 0)) 4 1 ((zSI σ 4 0 (σ.1 56 0)).1 56 1)) 4 2 ((zSI (zSI σ 4 0 (σ.1 56 0)) 4 1 ((zSI σ 4 0 (σ.1 56 0)).1 56 1)).1 56 2)).1 56 3)) 4 4 ((zSI (zSI (zSI (zSI σ 4 0 (σ.1 56 0)) 4 1 ((zSI σ 4 0 (σ.1 56 0)).1 56 1)) 4 2 ((zSI (zSI σ 4 0 (σ.1 56 0)) 4 1 ((zSI σ 4 0 (σ.1 56 0)).1 56 1)).1 56 2)) 4 3 ((zSI (zSI (zSI σ 4 0 (σ.1 56 0)) 4 1 ((zSI σ 4 0 (σ.1 56 0)).1 56 1)) 4 2 ((zSI (zSI σ 4 0 (σ.1 56 0)) 4 1 ((zSI σ 4 0 (σ.1 56 0)).1 56 1)).1 56 2)).1 56 3)).1 56 4)).1 56 5)).1 56 6)) 4 7 ((zSI (zSI (zSI (zSI (zSI (zSI (zSI σ 4 0 (σ.1 56 0)) 4 1 ((zSI σ 4 0 (σ.1 56 0)).1 56 1)) 4 2 ((zSI (zSI σ 4 0 (σ.1 56 0)) 4 1 ((zSI σ 4 0 (σ.1 56 0)).1 56 1)).1 56 2)) 4 3 ((zSI (zSI (zSI σ 4 0 (σ.1 56 0)) 4 1 ((zSI σ 4 0 (σ.1 56 0)).1 56 1)) 4 2 ((zSI (zSI σ 4 0 (σ.1 56 0)) 4 1 ((zSI σ 4 0 (σ.1 56 0)).1 56 1)).1 56 2)).1 56 3)) 4 4 ((zSI (zSI (zSI (zSI σ 4 0 (σ.1 56 0)) 4 1 ((zSI σ 4 0 (σ.1 56 0)).1 56 1)) 4 2 ((zSI (zSI σ 4 0 (σ.1 56 0)) 4 1 ((zSI σ 4 0 (σ.1 56 0)).1 56 1)).1 56 2)) 4 3 ((zSI (zSI (zSI σ 4 0 (σ.1 56 0)) 4 1 ((zSI σ 4 0 (σ.1 56 0)).1 56 1)) 4 2 ((zSI (zSI σ 4 0 (σ.1 56 0)) 4 1 ((zSI σ 4 0 (σ.1 56 0)).1 56 1)).1 56 2)).1 56 3)).1 56 4)) 4 5 ((zSI (zSI (zSI (zSI (zSI σ 4 0 (σ.1 56 0)) 4 1 ((zSI σ 4 0 (σ.1 56 0)).1 56 1)) 4 2 ((zSI (zSI σ 4 0 (σ.1 56 0)) 4 1 ((zSI σ 4 0 (σ.1 56 0)).1 56 1)).1 56 2)) 4 3 ((zSI (zSI (zSI σ 4 0 (σ.1 56 0)) 4 1 ((zSI σ 4 0 (σ.1 56 0)).1 56 1)) 4 2 ((zSI (zSI σ 4 0 (σ.1 56 0)) 4 1 ((zSI σ 4 0 (σ.1 56 0)).1 56 1)).1 56 2)).1 56 3)) 4 4 ((zSI (zSI (zSI (zSI σ 4 0 (σ.1 56 0)) 4 1 ((zSI σ 4 0 (σ.1 56 0)).1 56 1)) 4 2 ((zSI (zSI σ 4 0 (σ.1 56 0)) 4 1 ((zSI σ 4 0 (σ.1 56 0)).1 56 1)).1 56 2)) 4 3 ((zSI (zSI (zSI σ 4 0 (σ.1 56 0)) 4 1 ((zSI σ 4 0 (σ.1 56 0)).1 56 1)) 4 2 ((zSI (zSI σ 4 0 (σ.1 56 0)) 4 1 ((zSI σ 4 0 (σ.1 56 0)).1 56 1)).1 56 2)).1 56 3)).1 56 4)).1 56 5)) 4 6 ((zSI (zSI (zSI (zSI (zSI (zSI σ 4 0 (σ.1 56 0)) 4 1 ((zSI σ 4 0 (σ.1 56 0)).1 56 1)) 4 2 ((zSI (zSI σ 4 0 (σ.1 56 0)) 4 1 ((zSI σ 4 0 (σ.1 56 0)).1 56 1)).1 56 2)) 4 3 ((zSI (zSI (zSI σ 4 0 (σ.1 56 0)) 4 1 ((zSI σ 4 0 (σ.1 56 0)).1 56 1)) 4 2 ((zSI (zSI σ 4 0 (σ.1 56 0)) 4 1 ((zSI σ 4 0 (σ.1 56 0)).1 56 1)).1 56 2)).1 56 3)) 4 4 ((zSI (zSI (zSI (zSI σ 4 0 (σ.1 56 0)) 4 1 ((zSI σ 4 0 (σ.1 56 0)).1 56 1)) 4 2 ((zSI (zSI σ 4 0 (σ.1 56 0)) 4 1 ((zSI σ 4 0 (σ.1 56 0)).1 56 1)).1 56 2)) 4 3 ((zSI (zSI (zSI σ 4 0 (σ.1 56 0)) 4 1 ((zSI σ 4 0 (σ.1 56 0)).1 56 1)) 4 2 ((zSI (zSI σ 4 0 (σ.1 56 0)) 4 1 ((zSI σ 4 0 (σ.1 56 0)).1 56 1)).1 56 2)).1 56 3)).1 56 4)) 4 5 ((zSI (zSI (zSI (zSI (zSI σ 4 0 (σ.1 56 0)) 4 1 ((zSI σ 4 0 (σ.1 56 0)).1 56 1)) 4 2 ((zSI (zSI σ 4 0 (σ.1 56 0)) 4 1 ((zSI σ 4 0 (σ.1 56 0)).1 56 1)).1 56 2)) 4 3 ((zSI (zSI (zSI σ 4 0 (σ.1 56 0)) 4 1 ((zSI σ 4 0 (σ.1 56 0)).1 56 1)) 4 2 ((zSI (zSI σ 4 0 (σ.1 56 0)) 4 1 ((zSI σ 4 0 (σ.1 56 0)).1 56 1)).1 56 2)).1 56 3)) 4 4 ((zSI (zSI (zSI (zSI σ 4 0 (σ.1 56 0)) 4 1 ((zSI σ 4 0 (σ.1 56 0)).1 56 1)) 4 2 ((zSI (zSI σ 4 0 (σ.1 56 0)) 4 1 ((zSI σ 4 0 (σ.1 56 0)).1 56 1)).1 56 2)) 4 3 ((zSI (zSI (zSI σ 4 0 (σ.1 56 0)) 4 1 ((zSI σ 4 0 (σ.1 56 0)).1 56 1)) 4 2 ((zSI (zSI σ 4 0 (σ.1 56 0)) 4 1 ((zSI σ 4 0 (σ.1 56 0)).1 56 1)).1 56 2)).1 56 3)).1 56 4)).1 56 5)).1 56 6)).1 56 7)) (zPV fun σ1 => C nX11_copyRow [.ref 58, .ref 6] σ1 (zPV fun σ2 => C nX11_copyRow [.ref 59, .ref 7] σ2 (zPV fun σ3 => C nX11_copyRow [.ref 60, .ref 8] σ3 (zPV fun σ4 => post none σ4))))) : X 0 [some (.ref 4), some (.ref 56)] [] σ := zSeq_ok hX zm_X8_copyFrom_4_56 zo_X8_copyFrom_4_56_0 0 0 _ _ _ zk_X8_copyFrom_4_56_0 h
theorem ze_X8_copyFrom_4_56 {d : Nat} {post : zPo} (σ : zS) (h : ∀ X : zX, zClosed none (zCall d) post nX8_copyFrom X → X 0 [some (.ref 4), some (.ref 56)] [] σ) : zCall (d + 1) nX8_copyFrom [.ref 4, .ref 56] σ post := h
-- X7_copyFrom(50, 9) depth 2
def zo_X7_copyFrom_50_9_0 : List zOp := [(.aload_n 0, 1, 0, 0, 0, 0, 0, 0, 0, []), (.aload_n 1, 2, 1, 0, 0, 0, 0, 0, 0, []), (.getfield 15, 5, 7, 0, 2, 0, 192, 0, 0, []), (.putfield 15, 8, 7, 0, 2, 0, 192, 0, 0, []), (.aload_n 1, 9, 1, 0, 0, 0, 0, 0, 0, []), (.getfield 9, 12, 7, 1, 0, 0, 194, 0, 0, []), (.aload_n 0, 13, 0, 0, 0, 0, 0, 0, 0, []), (.getfield 9, 16, 7, 1, 0, 0, 194, 0, 0, []), (.invokestatic 19, 19, 130, 2, 0, 0, 1021, 0, 0, []), (.return_, 20, 0, 0, 0, 0, 0, 0, 0, [])]
set_option maxRecDepth 100000 in
theorem zk_X7_copyFrom_50_9_0 : zOks nX7_copyFrom zo_X7_copyFrom_50_9_0 0 = true := by decide +kernel
def zm_X7_copyFrom_50_9 : List (Nat × List Bool) := [(0, [true, true])]
set_option maxRecDepth 100000 in
set_option maxHeartbeats 4000000 in
theorem zr_X7_copyFrom_50_9_0 {C : zCa} {post : zPo} {X : zX} (hX : zClosed none C post nX7_copyFrom X) (σ : zS) (h : zG ((σ.1 9 0 : Int32) == 0 || (σ.1 9 0 : Int32) == 1) (C nX11_copyRow [.ref 10, .ref 51] (zSI σ 50 0 (σ.1 9 0)) (zPV fun σ1 => post none σ1))) : X 0 [some (.ref 50), some (.ref 9)] [] σ := zSeq_ok hX zm_X7_copyFrom_50_9 zo_X7_copyFrom_50_9_0 0 0 _ _ _ zk_X7_copyFrom_50_9_0 h
theorem ze_X7_copyFrom_50_9 {d : Nat} {post : zPo} (σ : zS) (h : ∀ X : zX, zClosed none (zCall d) post nX7_copyFrom X → X 0 [some (.ref 50), some (.ref 9)] [] σ) : zCall (d + 1) nX7_copyFrom [.ref 50, .ref 9] σ post := h
-- X7_copyFrom(61, 9) depth 2
def zo_X7_copyFrom_61_9_0 : List zOp := [(.aload_n 0, 1, 0, 0, 0, 0, 0, 0, 0, []), (.aload_n 1, 2, 1, 0, 0, 0, 0, 0, 0, []), (.getfield 15, 5, 7, 0, 2, 0, 192, 0, 0, []), (.putfield 15, 8, 7, 0, 2, 0, 192, 0, 0, []), (.aload_n 1, 9, 1, 0, 0, 0, 0, 0, 0, []), (.getfield 9, 12, 7, 1, 0, 0, 194, 0, 0, []), (.aload_n 0, 13, 0, 0, 0, 0, 0, 0, 0, []), (.getfield 9, 16, 7, 1, 0, 0, 194, 0, 0, []), (.invokestatic 19, 19, 130, 2, 0, 0, 1021, 0, 0, []), (.return_, 20, 0, 0, 0, 0, 0, 0, 0, [])]
set_option maxRecDepth 100000 in
theorem zk_X7_copyFrom_61_9_0 : zOks nX7_copyFrom zo_X7_copyFrom_61_9_0 0 = true := by decide +kernel
def zm_X7_copyFrom_61_9 : List (Nat × List Bool) := [(0, [true, true])]
set_option maxRecDepth 100000 in
set_option maxHeartbeats 4000000 in
theorem zr_X7_copyFrom_61_9_0 {C : zCa} {post : zPo} {X : zX} (hX : zClosed none C post nX7_copyFrom X) (σ : zS) (h : zG ((σ.1 9 0 : Int32) == 0 || (σ.1 9 0 : Int32) == 1) (C nX11_copyRow [.ref 10, .ref 62] (zSI σ 61 0 (σ.1 9 0)) (zPV fun σ1 => post none σ1))) : X 0 [some (.ref 61), some (.ref 9)] [] σ := zSeq_ok hX zm_X7_copyFrom_61_9 zo_X7_copyFrom_61_9_0 0 0 _ _ _ zk_X7_copyFrom_61_9_0 h
theorem ze_X7_copyFrom_61_9 {d : Nat} {post : zPo} (σ : zS) (h : ∀ X : zX, zClosed none (zCall d) post nX7_copyFrom X → X 0 [some (.ref 61), some (.ref 9)] [] σ) : zCall (d + 1) nX7_copyFrom [.ref 61, .ref 9] σ post := h
-- X8_copyFrom(45, 4) depth 2
def zo_X8_copyFrom_45_4_0 : List zOp := [(.aload_n 0, 1, 0, 0, 0, 0, 0, 0, 0, []), (.aload_n 1, 2, 1, 0, 0, 0, 0, 0, 0, []), (.getfield 9, 5, 8, 0, 1, 0, 124, 0, 0, []), (.putfield 9, 8, 8, 0, 1, 0, 124, 0, 0, []), (.aload_n 0, 9, 0, 0, 0, 0, 0, 0, 0, []), (.aload_n 1, 10, 1, 0, 0, 0, 0, 0, 0, []), (.getfield 15, 13, 8, 1, 1, 0, 127, 0, 0, []), (.putfield 15, 16, 8, 1, 1, 0, 127, 0, 0, []), (.aload_n 0, 17, 0, 0, 0, 0, 0, 0, 0, []), (.aload_n 1, 18, 1, 0, 0, 0, 0, 0, 0, []), (.getfield 18, 21, 8, 2, 1, 0, 130, 0, 0, []), (.putfield 18, 24, 8, 2, 1, 0, 130, 0, 0, []), (.aload_n 0, 25, 0, 0, 0, 0, 0, 0, 0, []), (.aload_n 1, 26, 1, 0, 0, 0, 0, 0, 0, []), (.getfield 21, 29, 8, 3, 1, 0, 134, 0, 0, []), (.putfield 21, 32, 8, 3, 1, 0, 134, 0, 0, []), (.aload_n 0, 33, 0, 0, 0, 0, 0, 0, 0, []), (.aload_n 1, 34, 1, 0, 0, 0, 0, 0, 0, []), (.getfield 25, 37, 8, 4, 1, 0, 138, 0, 0, []), (.putfield 25, 40, 8, 4, 1, 0, 138, 0, 0, []), (.aload_n 0, 41, 0, 0, 0, 0, 0, 0, 0, []), (.aload_n 1, 42, 1, 0, 0, 0, 0, 0, 0, []), (.getfield 28, 45, 8, 5, 1, 0, 143, 0, 0, []), (.putfield 28, 48, 8, 5, 1, 0, 143, 0, 0, []), (.aload_n 0, 49, 0, 0, 0, 0, 0, 0, 0, []), (.aload_n 1, 50, 1, 0, 0, 0, 0, 0, 0, []), (.getfield 31, 53, 8, 6, 1, 0, 148, 0, 0, []), (.putfield 31, 56, 8, 6, 1, 0, 148, 0, 0, []), (.aload_n 0, 57, 0, 0, 0, 0, 0, 0, 0, []), (.aload_n 1, 58, 1, 0, 0, 0, 0, 0, 0, []), (.getfield 47, 61, 8, 7, 1, 0, 153, 0, 0, []), (.putfield 47, 64, 8, 7, 1, 0, 153, 0, 0, []), (.aload_n 1, 65, 1, 0, 0, 0, 0, 0, 0, []), (.getfield 34, 68, 8, 8, 0, 0, 155, 0, 0, []), (.aload_n 0, 69, 0, 0, 0, 0, 0, 0, 0, []), (.getfield 34, 72, 8, 8, 0, 0, 155, 0, 0, []), (.invokestatic 66, 75, 130, 2, 0, 0, 1016, 0, 0, []), (.aload_n 1, 76, 1, 0, 0, 0, 0, 0, 0, []), (.getfield 38, 79, 8, 9, 0, 0, 158, 0, 0, []), (.aload_n 0, 80, 0, 0, 0, 0, 0, 0, 0, []), (.getfield 38, 83, 8, 9, 0, 0, 158, 0, 0, []), (.invokestatic 66, 86, 130, 2, 0, 0, 1016, 0, 0, []), (.aload_n 1, 87, 1, 0, 0, 0, 0, 0, 0, []), (.getfield 41, 90, 8, 10, 0, 0, 159, 0, 0, []), (.aload_n 0, 91, 0, 0, 0, 0, 0, 0, 0, []), (.getfield 41, 94, 8, 10, 0, 0, 159, 0, 0, []), (.invokestatic 66, 97, 130, 2, 0, 0, 1016, 0, 0, []), (.aload_n 1, 98, 1, 0, 0, 0, 0, 0, 0, []), (.getfield 44, 101, 8, 11, 0, 0, 160, 0, 0, []), (.aload_n 0, 102, 0, 0, 0, 0, 0, 0, 0, []), (.getfield 44, 105, 8, 11, 0, 0, 160, 0, 0, []), (.invokestatic 66, 108, 130, 2, 0, 0, 1016, 0, 0, []), (.return_, 109, 0, 0, 0, 0, 0, 0, 0, [])]
set_option maxRecDepth 100000 in
theorem zk_X8_copyFrom_45_4_0 : zOks nX8_copyFrom zo_X8_copyFrom_45_4_0 0 = true := by decide +kernel
def zm_X8_copyFrom_45_4 : List (Nat × List Bool) := [(0, [true, true])]
set_option maxRecDepth 100000 in
set_option maxHeartbeats 4000000 in
theorem zr_X8_copyFrom_45_4_0 {C : zCa} {post : zPo} {X : zX} (hX : zClosed none C post nX8_copyFrom X) (σ : zS) (h : C nX11_copyRow [.ref 5, .ref 46] (zSI (zSI (zSI (zSI (zSI (zSI (zSI (zSI σ 45 0 (σ.1 4 0)) 45 1 ((zSI σ 45 0 (σ.1 4 0)).1 4 1)) 45 2 ((zSI (zSI σ 45 0 (σ.1 4 0)) 45 1 ((zSI σ 45 0 (σ.1 4 0)).1 4 1)).1 4 2)) 45 3 ((zSI (zSI (zSI σ 45 0 (σ.1 4 0)) 45 1 ((zSI σ 45 0 (σ.1 4 0)).1 4 1)) 45 2 ((zSI (zSI σ 45 0 (σ.1 4 0)) 45 1 ((zSI σ 45 0 (σ.1 4 0)).1 4 1)).1 4 2)).1 4 3)) 45 4 ((zSI (zSI (zSI (zSI σ 45 0 (σ.1 4 0)) 45 1 ((zSI σ 45 0 (σ.1 4 0)).1 4 1)) 45 2 ((zSI (zSI σ 45 0 (σ.1 4 0)) 45 1 ((zSI σ 45 0 (σ.1 4 0)).1 4 1)).1 4 2)) 45 3 ((zSI (zSI (zSI σ 45 0 (σ.1 4 0)) 45 1 ((zSI σ 45 0 (σ.1 4 0)).1 4 1)) 45 2 ((zSI (zSI σ 45 0 (σ.1 4 0)) 45 1 ((zSI σ 45 0 (σ.1 4 0)).1 4 1)).1 4 2)).1 4 3)).1 4 4)) 45 5 ((zSI (zSI (zSI (zSI (zSI σ 45 0 (σ.1 4 0)) 45 1 ((zSI σ 45 0 (σ.1 4 0)).1 4 1)) 45 2 ((zSI (zSI σ 45 0 (σ.1 4 0)) 45 1 ((zSI σ 45 0 (σ.1 4 0)).1 4 1)).1 4 2)) 45 3 ((zSI (zSI (zSI σ 45 0 (σ.1 4 0)) 45 1 ((zSI σ 45 0 (σ.1 4 0)).1 4 1)) 45 2 ((zSI (zSI σ 45 0 (σ.1 4 0)) 45 1 ((zSI σ 45 0 (σ.1 4 0)).1 4 1)).1 4 2)).1 4 3)) 45 4 ((zSI (zSI (zSI (zSI σ 45 0 (σ.1 4 0)) 45 1 ((zSI σ 45 0 (σ.1 4 0)).1 4 1)) 45 2 ((zSI (zSI σ 45 0 (σ.1 4 0)) 45 1 ((zSI σ 45 0 (σ.1 4 0)).1 4 1)).1 4 2)) 45 3 ((zSI (zSI (zSI σ 45 0 (σ.1 4 0)) 45 1 ((zSI σ 45 0 (σ.1 4 0)).1 4 1)) 45 2 ((zSI (zSI σ 45 0 (σ.1 4 0)) 45 1 ((zSI σ 45 0 (σ.1 4 0)).1 4 1)).1 4 2)).1 4 3)).1 4 4)).1 4 5)) 45 6 ((zSI (zSI (zSI (zSI (zSI (zSI σ 45 0 (σ.1 4 0)) 45 1 ((zSI σ 45 0 (σ.1 4 0)).1 4 1)) 45 2 ((zSI (zSI σ 45 0 (σ.1 4 0)) 45 1 ((zSI σ 45 0 (σ.1 4 0)).1 4 1)).1 4 2)) 45 3 ((zSI (zSI (zSI σ 45 0 (σ.1 4 0)) 45 1 ((zSI σ 45 0 (σ.1 4 0)).1 4 1)) 45 2 ((zSI (zSI σ 45 0 (σ.1 4 0)) 45 1 ((zSI σ 45 0 (σ.1 4 0)).1 4 1)).1 4 2)).1 4 3)) 45 4 ((zSI (zSI (zSI (zSI σ 45 0 (σ.1 4 0)) 45 1 ((zSI σ 45 0 (σ.1 4 0)).1 4 1)) 45 2 ((zSI (zSI σ 45 0 (σ.1 4 0)) 45 1 ((zSI σ 45 0 (σ.1 4 0)).1 4 1)).1 4 2)) 45 3 ((zSI (zSI (zSI σ 45 0 (σ.1 4 0)) 45 1 ((zSI σ 45 0 (σ.1 4 0)).1 4 1)) 45 2 ((zSI (zSI σ 45 0 (σ.1 4 0)) 45 1 ((zSI σ 45 0 (σ.1 4 0)).1 4 1)).1 4 2)).1 4 3)).1 4 4)) 45 5 ((zSI (zSI (zSI (zSI (zSI σ 45 0 (σ.1 4 0)) 45 1 ((zSI σ 45 0 (σ.1 4 0)).1 4 1)) 45 2 ((zSI (zSI σ 45 0 (σ.1 4 0)) 45 1 ((zSI σ 45 0 (σ.1 4 0)).1 4 1)).1 4 2)) 45 3 ((zSI (zSI (zSI σ 45 0 (σ.1 4 0)) 45 1 ((zSI σ 45 0 (σ.1 4 0)).1 4 1)) 45 2 ((zSI (zSI σ 45 0 (σ.1 4 0)) 45 1 ((zSI σ 45 0 (σ.1 4 0)).1 4 1)).1 4 2)).1 4 3)) 45 4 ((zSI (zSI (zSI (zSI σ 45 0 (σ.1 4 0)) 45 1 ((zSI σ 45 0 (σ.1 4 0)).1 4 1)) 45 2 ((zSI (zSI σ 45 0 (σ.1 4 0)) 45 1 ((zSI σ 45 0 (σ.1 4 0)).1 4 1)).1 4 2)) 45 3 ((zSI (zSI (zSI σ 45 0 (σ.1 4 0)) 45 1 ((zSI σ 45 0 (σ.1 4 0)).1 4 1)) 45 2 ((zSI (zSI σ 45 0 (σ.1 4 0)) 45 1 ((zSI σ 45 0 (σ.1 4 0)).1 4 1)).1 4 2)).1 4 3)).1 4 4)).1 4 5)).1 4 6)) 45 7 ((zSI (zSI (zSI (zSI (zSI (zSI (zSI σ 45 0 (σ.1 4 0)) 45 1 ((zSI σ 45 0 (σ.1 4 0)).1 4 1)) 45 2 ((zSI (zSI σ 45 0 (σ.1 4 0)) 45 1 ((zSI σ 45 0 (σ.1 4 0)).1 4 1)).1 4 2)) 45 3 ((zSI (zSI (zSI σ 45 0 (σ.1 4 0)) 45 1 ((zSI σ 45 0 (σ.1 4 0)).1 4 1)) 45 2 ((zSI (zSI σ 45 0 (σ.1 4 0)) 45 1 ((zSI σ 45 0 (σ.1 4 0)).1 4 1)).1 4 2)).1 4 3)) 45 4 ((zSI (zSI (zSI (zSI σ 45 0 (σ.1 4 0)) 45 1 ((zSI σ 45 0 (σ.1 4 0)).1 4 1)) 45 2 ((zSI (zSI σ 45 0 (σ.1 4 0)) 45 1 ((zSI σ 45 0 (σ.1 4 0)).1 4 1)).1 4 2)) 45 3 ((zSI (zSI (zSI σ 45 0 (σ.1 4 0)) 45 1 ((zSI σ 45 0 (σ.1 4 0)).1 4 1)) 45 2 ((zSI (zSI σ 45 0 (σ.1 4 0)) 45 1 ((zSI σ 45 0 (σ.1 4 0)).1 4 1)).1 4 2)).1 4 3)).1 4 4)) 45 5 ((zSI (zSI (zSI (zSI (zSI σ 45 0 (σ.1 4 0)) 45 1 ((zSI σ 45 0 (σ.1 4 0)).1 4 1)) 45 2 ((zSI (zSI σ 45 0 (σ.1 4 0)) 45 1 ((zSI σ 45 0 (σ.1 4 0)).1 4 1)).1 4 2)) 45 3 ((zSI (zSI (zSI σ 45 0 (σ.1 4 0)) 45 1 ((zSI σ 45 0 (σ.1 4 0)).1 4 1)) 45 2 ((zSI (zSI σ 45 0 (σ.1 4 0)) 45 1 ((zSI σ 45 0 (σ.1 4 0)).1 4 1)).1 4 2)).1 4 3)) 45 4 ((zSI (zSI (zSI (zSI σ 45 0 (σ.1 4 0)) 45 1 ((zSI σ 45 0 (σ.1 4 0)).1 4 1)) 45 2 ((zSI (zSI σ 45 0 (σ.1 4 0)) 45 1 ((zSI σ 45 0 (σ.1 4 0)).1 4 1)).1 4 2)) 45 3 ((zSI (zSI (zSI σ 45 0 (σ.1 4 0)) 45 1 ((zSI σ 45 0 (σ.1 4 0)).1 4 1)) 45 2 ((zSI (zSI σ 45 0 (σ.1 4 0)) 45 1 ((zSI σ 45 0 (σ.1 4 0)).1 4 1)).1 4 2)).1 4 3)).1 4 4)).1 4 5)) 45 6 ((zSI (zSI (zSI (zSI (zSI (zSI σ 45 0 (σ.1 4 0)) 45 1 ((zSI σ 45 0 (σ.1 4 0)).1 4 1)) 45 2 ((zSI (zSI σ 45 0 (σ.1 4 0)) 45 1 ((zSI σ 45 0 (σ.1 4 0)).1 4 1)).1 4 2)) 45 3 ((zSI (zSI (zSI σ 45 0 (σ.1 4 0)) 45 1 ((zSI σ 45 0 (σ.1 4 0)).1 4 1)) 45 2 ((zSI (zSI σ 45 0 (σ.1 4 0)) 45 1 ((zSI σ 45 0 (σ.1 4 0)).1 4 1)).1 4 2)).1 4 3)) 45 4 ((zSI (zSI (zSI (zSI σ 45 0 (σ.1 4 0)) 45 1 ((zSI σ 45 0 (σ.1 4 0)).1 4 1)) 45 2 ((zSI (zSI σ 45 0 (σ.1 4 0)) 45 1 ((zSI σ 45 0 (σ.1 4 0)).1 4 1)).1 4 2)) 45 3 ((zSI (zSI (zSI σ 45 0 (σ.1 4 0)) 45 1 ((zSI σ 45 0 (σ.1 4 0)).1 4 1)) 45 2 ((zSI (zSI σ 45 0 (σ.1 4 0)) 45 1 ((zSI σ 45 0 (σ.1 4 0)).1 4 1)).1 4 2)).1 4 3)).1 4 4)) 45 5 ((zSI (zSI (zSI (zSI (zSI σ 45 0 (σ.1 4 0)) 45 1 ((zSI σ 45 0 (σ.1 4 0)).1 4 1)) 45 2 ((zSI (zSI σ 45 0 (σ.1 4 0)) 45 1 ((zSI σ 45 0 (σ.1 4 0)).1 4 1)).1 4 2)) 45 3 ((zSI (zSI (zSI σ 45 0 (σ.1 4 0)) 45 1 ((zSI σ 45 0 (σ.1 4 0)).1 4 1)) 45 2 ((zSI (zSI σ 45 0 (σ.1 4 0)) 45 1 ((zSI σ 45 0 (σ.1 4 0)).1 4 1)).1 4 2)).1 4 3)) 45 4 ((zSI (zSI (zSI (zSI σ 45 0 (σ.1 4 0)) 45 1 ((zSI σ 45 0 (σ.1 4 0)).1 4 1)) 45 2 ((zSI (zSI σ 45 0 (σ.1 4 0)) 45 1 ((zSI σ 45 0 (σ.1 4 0)).1 4 1)).1 4 2)) 45 3 ((zSI (zSI (zSI σ 45 0 (σ.1 4 0)) 45 1 ((zSI σ 45 0 (σ.1 4 0)).1 4 1)) 45 2 ((zSI (zSI σ 45 0 (σ.1 4 0)) 45 1 ((zSI σ 45 0 (σ.1 4 0)).1 4 1)).1 4 2)).1 4 3)).1 4 4)).1 4 5)).1 4 6)).1 4 7)) (zPV fun σ1 => C nX11_copyRow [.ref 6, .ref 47] σ1 (zPV fun σ2 => C nX11_copyRow [.ref 7, .ref 48] σ2 (zPV fun σ3 => C nX11_copyRow [.ref 8, .ref 49] σ3 (zPV fun σ4 => post none σ4))))) : X 0 [some (.ref 45), some (.ref 4)] [] σ := zSeq_ok hX zm_X8_copyFrom_45_4 zo_X8_copyFrom_45_4_0 0 0 _ _ _ zk_X8_copyFrom_45_4_0 h
theorem ze_X8_copyFrom_45_4 {d : Nat} {post : zPo} (σ : zS) (h : ∀ X : zX, zClosed none (zCall d) post nX8_copyFrom X → X 0 [some (.ref 45), some (.ref 4)] [] σ) : zCall (d + 1) nX8_copyFrom [.ref 45, .ref 4] σ post := h
-- X8_copyFrom(56, 4) depth 2
def zo_X8_copyFrom_56_4_0 : List zOp := [(.aload_n 0, 1, 0, 0, 0, 0, 0, 0, 0, []), (.aload_n 1, 2, 1, 0, 0, 0, 0, 0, 0, []), (.getfield 9, 5, 8, 0, 1, 0, 124, 0, 0, []), (.putfield 9, 8, 8, 0, 1, 0, 124, 0, 0, []), (.aload_n 0, 9, 0, 0, 0, 0, 0, 0, 0, []), (.aload_n 1, 10, 1, 0, 0, 0, 0, 0, 0, []), (.getfield 15, 13, 8, 1, 1, 0, 127, 0, 0, []), (.putfield 15, 16, 8, 1, 1, 0, 127, 0, 0, []), (.aload_n 0, 17, 0, 0, 0, 0, 0, 0, 0, []), (.aload_n 1, 18, 1, 0, 0, 0, 0, 0, 0, []), (.getfield 18, 21, 8, 2, 1, 0, 130, 0, 0, []), (.putfield 18, 24, 8, 2, 1, 0, 130, 0, 0, []), (.aload_n 0, 25, 0, 0, 0, 0, 0, 0, 0, []), (.aload_n 1, 26, 1, 0, 0, 0, 0, 0, 0, []), (.getfield 21, 29, 8, 3, 1, 0, 134, 0, 0, []), (.putfield 21, 32, 8, 3, 1, 0, 134, 0, 0, []), (.aload_n 0, 33, 0, 0, 0, 0, 0, 0, 0, []), (.aload_n 1, 34, 1, 0, 0, 0, 0, 0, 0, []), (.getfield 25, 37, 8, 4, 1, 0, 138, 0, 0, []), (.putfield 25, 40, 8, 4, 1, 0, 138, 0, 0, []), (.aload_n 0, 41, 0, 0, 0, 0, 0, 0, 0, []), (.aload_n 1, 42, 1, 0, 0, 0, 0, 0, 0, []), (.getfield 28, 45, 8, 5, 1, 0, 143, 0, 0, []), (.putfield 28, 48, 8, 5, 1, 0, 143, 0, 0, []), (.aload_n 0, 49, 0, 0, 0, 0, 0, 0, 0, []), (.aload_n 1, 50, 1, 0, 0, 0, 0, 0, 0, []), (.getfield 31, 53, 8, 6, 1, 0, 148, 0, 0, []), (.putfield 31, 56, 8, 6, 1, 0, 148, 0, 0, []), (.aload_n 0, 57, 0, 0, 0, 0, 0, 0, 0, []), (.aload_n 1, 58, 1, 0, 0, 0, 0, 0, 0, []), (.getfield 47, 61, 8, 7, 1, 0, 153, 0, 0, []), (.putfield 47, 64, 8, 7, 1, 0, 153, 0, 0, []), (.aload_n 1, 65, 1, 0, 0, 0, 0, 0, 0, []), (.getfield 34, 68, 8, 8, 0, 0, 155, 0, 0, []), (.aload_n 0, 69, 0, 0, 0, 0, 0, 0, 0, []), (.getfield 34, 72, 8, 8, 0, 0, 155, 0, 0, []), (.invokestatic 66, 75, 130, 2, 0, 0, 1016, 0, 0, []), (.aload_n 1, 76, 1, 0, 0, 0, 0, 0, 0, []), (.getfield 38, 79, 8, 9, 0, 0, 158, 0, 0, []), (.aload_n 0, 80, 0, 0, 0, 0, 0, 0, 0, []), (.getfield 38, 83, 8, 9, 0, 0, 158, 0, 0, []), (.invokestatic 66, 86, 130, 2, 0, 0, 1016, 0, 0, []), (.aload_n 1, 87, 1, 0, 0, 0, 0, 0, 0, []), (.getfield 41, 90, 8, 10, 0, 0, 159, 0, 0, []), (.aload_n 0, 91, 0, 0, 0, 0, 0, 0, 0, []), (.getfield 41, 94, 8, 10, 0, 0, 159, 0, 0, []), (.invokestatic 66, 97, 130, 2, 0, 0, 1016, 0, 0, []), (.aload_n 1, 98, 1, 0, 0, 0, 0, 0, 0, []), (.getfield 44, 101, 8, 11, 0, 0, 160, 0, 0, []), (.aload_n 0, 102, 0, 0, 0, 0, 0, 0, 0, []), (.getfield 44, 105, 8, 11, 0, 0, 160, 0, 0, []), (.invokestatic 66, 108, 130, 2, 0, 0, 1016, 0, 0, []), (.return_, 109, 0, 0, 0, 0, 0, 0, 0, [])]
set_option maxRecDepth 100000 in
theorem zk_X8_copyFrom_56_4_0 : zOks nX8_copyFrom zo_X8_copyFrom_56_4_0 0 = true := by decide +kernel
def zm_X8_copyFrom_56_4 : List (Nat × List Bool) := [(0, [true, true])]
set_option maxRecDepth 100000 in
set_option maxHeartbeats 4000000 in
theorem zr_X8_copyFrom_56_4_0 {C : zCa} {post : zPo} {X : zX} (hX : zClosed none C post nX8_copyFrom X) (σ : zS) (h : C nX11_copyRow [.ref 5, .ref 57] (zSI (zSI (zSI (zSI (zSI (zSI (zSI (zSI σ 56 0 (σ.1 4 0)) 56 1 ((zSI σ 56 0 (σ.1 4 0)).1 4 1)) 56 2 ((zSI (zSI σ 56 0 (σ.1 4 0)) 56 1 ((zSI σ 56 0 (σ.1 4 0)).1 4 1)).1 4 2)) 56 3 ((zSI (zSI (zSI σ 56 0 (σ.1 4 0)) 56 1 ((zSI σ 56 0 (σ.1 4 0)).1 4 1)) 56 2 ((zSI (zSI σ 56 0 (σ.1 4 0)) 56 1 ((zSI σ 56 0 (σ.1 4 0)).1 4 1)).1 4 2)).1 4 3)) 56 4 ((zSI (zSI (zSI (zSI σ 56 0 (σ.1 4 0)) 56 1 ((zSI σ 56 0 (σ.1 4 0)).1 4 1)) 56 2 ((zSI (zSI σ 56 0 (σ.1 4 0)) 56 1 ((zSI σ 56 0 (σ.1 4 0)).1 4 1)).1 4 2)) 56 3 ((zSI (zSI (zSI σ 56 0 (σ.1 4 0)) 56 1 ((zSI σ 56 0 (σ.1 4 0)).1 4 1)) 56 2 ((zSI (zSI σ 56 0 (σ.1 4 0)) 56 1 ((zSI σ 56 0 (σ.1 4 0)).1 4 1)).1 4 2)).1 4 3)).1 4 4)) 56 5 ((zSI (zSI (zSI (zSI (zSI σ 56 0 (σ.1 4 0)) 56 1 ((zSI σ 56 0 (σ.1 4 0)).1 4 1)) 56 2 ((zSI (zSI σ 56 0 (σ.1 4 0)) 56 1 ((zSI σ 56 0 (σ.1 4 0)).1 4 1)).1 4 2)) 56 3 ((zSI (zSI (zSI σ 56 0 (σ.1 4 0)) 56 1 ((zSI σ 56 0 (σ.1 4 0)).1 4 1)) 56 2 ((zSI (zSI σ 56 0 (σ.1 4 0)) 56 1 ((zSI σ 56 0 (σ.1 4 0)).1 4 1)).1 4 2)).1 4 3)) 56 4 ((zSI (zSI (zSI (zSI σ 56 0 (σ.1 4 0)) 56 1 ((zSI σ 56 0 (σ.1 4 0)).1 4 1)) 56 2 ((zSI (zSI σ 56 0 (σ.1 4 0)) 56 1 ((zSI σ 56 0 (σ.1 4 0)).1 4 1)).1 4 2)) 56 3 ((zSI (zSI (zSI σ 56 0 (σ.1 4 0)) 56 1 ((zSI σ 56 0 (σ.1 4 0)).1 4 1)) 56 2 ((zSI (zSI σ 56 0 (σ.1 4 0)) 56 1 ((zSI σ 56 0 (σ.1 4 0)).1 4 1)).1 4 2)).1 4 3)).1 4 4)).1 4 5)) 56 6 ((zSI (zSI (zSI (zSI (zSI (zSI σ 56 0 (σ.1 4 0)) 56 1 ((zSI σ 56 0 (σ.1 4 0)).1 4 1)) 56 2 ((zSI (zSI σ 56 0 (σ.1 4 0)) 56 1 ((zSI σ 56 0 (σ.1 4 0)).1 4 1)).1 4 2)) 56 3 ((zSI (zSI (zSI σ 56 0 (σ.1 4 0)) 56 1 ((zSI σ 56 0 (σ.1 4 0)).1 4 1)) 56 2 ((zSI (zSI σ 56 0 (σ.1 4 0)) 56 1 ((zSI σ 56 0 (σ.1 4 0)).1 4 1)).1 4 2)).1 4 3)) 56 4 ((zSI (zSI (zSI (zSI σ 56 0 (σ.1 4 0)) 56 1 ((zSI σ 56 0 (σ.1 4 0)).1 4 1)) 56 2 ((zSI (zSI σ 56 0 (σ.1 4 0)) 56 1 ((zSI σ 56 0 (σ.1 4 0)).1 4 1)).1 4 2)) 56 3 ((zSI (zSI (zSI σ 56 0 (σ.1 4 0)) 56 1 ((zSI σ 56 0 (σ.1 4 0)).1 4 1)) 56 2 ((zSI (zSI σ 56 0 (σ.1 4 0)) 56 1 ((zSI σ 56 0 (σ.1 4 0)).1 4 1)).1 4 2)).1 4 3)).1 4 4)) 56 5 ((zSI (zSI (zSI (zSI (zSI σ 56 0 (σ.1 4 0)) 56 1 ((zSI σ 56 0 (σ.1 4 0)).1 4 1)) 56 2 ((zSI (zSI σ 56 0 (σ.1 4 0)) 56 1 ((zSI σ 56 0 (σ.1 4 0)).1 4 1)).1 4 2)) 56 3 ((zSI (zSI (zSI σ 56 0 (σ.1 4 0)) 56 1 ((zSI σ 56 0 (σ.1 4 0)).1 4 1)) 56 2 ((zSI (zSI σ 56 0 (σ.1 4 0)) 56 1 ((zSI σ 56 0 (σ.1 4 0)).1 4 1)).1 4 2)).1 4 3)) 56 4 ((zSI (zSI (zSI (zSI σ 56 0 (σ.1 4 0)) 56 1 ((zSI σ 56 0 (σ.1 4 0)).1 4 1)) 56 2 ((zSI (zSI σ 56 0 (σ.1 4 0)) 56 1 ((zSI σ 56 0 (σ.1 4 0)).1 4 1)).1 4 2)) 56 3 ((zSI (zSI (zSI σ 56 0 (σ.1 4 0)) 56 1 ((zSI σ 56 0 (σ.1 4 0)).1 4 1)) 56 2 ((zSI (zSI σ 56 0 (σ.1 4 0)) 56 1 ((zSI σ 56 0 (σ.1 4 0)).1 4 1)).1 4 2)).1 4 3)).1 4 4)).1 4 5)).1 4 6)) 56 7 ((zSI (zSI (zSI (zSI (zSI (zSI (zSI σ 56 0 (σ.1 4 0)) 56 1 ((zSI σ 56 0 (σ.1 4 0)).1 4 1)) 56 2 ((zSI (zSI σ 56 0 (σ.1 4 0)) 56 1 ((zSI σ 56 0 (σ.1 4 0)).1 4 1)).1 4 2)) 56 3 ((zSI (zSI (zSI σ 56 0 (σ.1 4 0)) 56 1 ((zSI σ 56 0 (σ.1 4 0)).1 4 1)) 56 2 ((zSI (zSI σ 56 0 (σ.1 4 0)) 56 1 ((zSI σ 56 0 (σ.1 4 0)).1 4 1)).1 4 2)).1 4 3)) 56 4 ((zSI (zSI (zSI (zSI σ 56 0 (σ.1 4 0)) 56 1 ((zSI σ 56 0 (σ.1 4 0)).1 4 1)) 56 2 ((zSI (zSI σ 56 0 (σ.1 4 0)) 56 1 ((zSI σ 56 0 (σ.1 4 0)).1 4 1)).1 4 2)) 56 3 ((zSI (zSI (zSI σ 56 0 (σ.1 4 0)) 56 1 ((zSI σ 56 0 (σ.1 4 0)).1 4 1)) 56 2 ((zSI (zSI σ 56 0 (σ.1 4 0)) 56 1 ((zSI σ 56 0 (σ.1 4 0)).1 4 1)).1 4 2)).1 4 3)).1 4 4)) 56 5 ((zSI (zSI (zSI (zSI (zSI σ 56 0 (σ.1 4 0)) 56 1 ((zSI σ 56 0 (σ.1 4 0)).1 4 1)) 56 2 ((zSI (zSI σ 56 0 (σ.1 4 0)) 56 1 ((zSI σ 56 0 (σ.1 4 0)).1 4 1)).1 4 2)) 56 3 ((zSI (zSI (zSI σ 56 0 (σ.1 4 0)) 56 1 ((zSI σ 56 0 (σ.1 4 0)).1 4 1)) 56 2 ((zSI (zSI σ 56 0 (σ.1 4 0)) 56 1 ((zSI σ 56 0 (σ.1 4 0)).1 4 1)).1 4 2)).1 4 3)) 56 4 ((zSI (zSI (zSI (zSI σ 56 0 (σ.1 4 0)) 56 1 ((zSI σ 56 0 (σ.1 4 0)).1 4 1)) 56 2 ((zSI (zSI σ 56 0 (σ.1 4 0)) 56 1 ((zSI σ 56 0 (σ.1 4 0)).1 4 1)).1 4 2)) 56 3 ((zSI (zSI (zSI σ 56 0 (σ.1 4 0)) 56 1 ((zSI σ 56 0 (σ.1 4 0)).1 4 1)) 56 2 ((zSI (zSI σ 56 0 (σ.1 4 0)) 56 1 ((zSI σ 56 0 (σ.1 4 0)).1 4 1)).1 4 2)).1 4 3)).1 4 4)).1 4 5)) 56 6 ((zSI (zSI (zSI (zSI (zSI (zSI σ 56 0 (σ.1 4 0)) 56 1 ((zSI σ 56 0 (σ.1 4 0)).1 4 1)) 56 2 ((zSI (zSI σ 56 0 (σ.1 4 0)) 56 1 ((zSI σ 56 0 (σ.1 4 0)).1 4 1)).1 4 2)) 56 3 ((zSI (zSI (zSI σ 56 0 (σ.1 4 0)) 56 1 ((zSI σ 56 0 (σ.1 4 0)).1 4 1)) 56 2 ((zSI (zSI σ 56 0 (σ.1 4 0)) 56 1 ((zSI σ 56 0 (σ.1 4 0)).1 4 1)).1 4 2)).1 4 3)) 56 4 ((zSI (zSI (zSI (zSI σ 56 0 (σ.1 4 0)) 56 1 ((zSI σ 56 0 (σ.1 4 0)).1 4 1)) 56 2 ((zSI (zSI σ 56 0 (σ.1 4 0)) 56 1 ((zSI σ 56 0 (σ.1 4 0)).1 4 1)).1 4 2)) 56 3 ((zSI (zSI (zSI σ 56 0 (σ.1 4 0)) 56 1 ((zSI σ 56 0 (σ.1 4 0)).1 4 1)) 56 2 ((zSI (zSI σ 56 0 (σ.1 4 0)) 56 1 ((zSI σ 56 0 (σ.1 4 0)).1 4 1)).1 4 2)).1 4 3)).1 4 4)) 56 5 ((zSI (zSI (zSI (zSI (zSI σ 56 0 (σ.1 4 0)) 56 1 ((zSI σ 56 0 (σ.1 4 0)).1 4 1)) 56 2 ((zSI (zSI σ 56 0 (σ.1 4 0)) 56 1 ((zSI σ 56 0 (σ.1 4 0)).1 4 1)).1 4 2)) 56 3 ((zSI (zSI (zSI σ 56 0 (σ.1 4 0)) 56 1 ((zSI σ 56 0 (σ.1 4 0)).1 4 1)) 56 2 ((zSI (zSI σ 56 0 (σ.1 4 0)) 56 1 ((zSI σ 56 0 (σ.1 4 0)).1 4 1)).1 4 2)).1 4 3)) 56 4 ((zSI (zSI (zSI (zSI σ 56 0 (σ.1 4 0)) 56 1 ((zSI σ 56 0 (σ.1 4 0)).1 4 1)) 56 2 ((zSI (zSI σ 56 0 (σ.1 4 0)) 56 1 ((zSI σ 56 0 (σ.1 4 0)).1 4 1)).1 4 2)) 56 3 ((zSI (zSI (zSI σ 56 0 (σ.1 4 0)) 56 1 ((zSI σ 56 0 (σ.1 4 0)).1 4 1)) 56 2 ((zSI (zSI σ 56 0 (σ.1 4 0)) 56 1 ((zSI σ 56 0 (σ.1 4 0)).1 4 1)).1 4 2)).1 4 3)).1 4 4)).1 4 5)).1 4 6)).1 4 7)) (zPV fun σ1 => C nX11_copyRow [.ref 6, .ref 58] σ1 (zPV fun σ2 => C nX11_copyRow [.ref 7, .ref 59] σ2 (zPV fun σ3 => C nX11_copyRow [.ref 8, .ref 60] σ3 (zPV fun σ4 => post none σ4))))) : X 0 [some (.ref 56), some (.ref 4)] [] σ := zSeq_ok hX zm_X8_copyFrom_56_4 zo_X8_copyFrom_56_4_0 0 0 _ _ _ zk_X8_copyFrom_56_4_0 h
theorem ze_X8_copyFrom_56_4 {d : Nat} {post : zPo} (σ : zS) (h : ∀ X : zX, zClosed none (zCall d) post nX8_copyFrom X → X 0 [some (.ref 56), some (.ref 4)] [] σ) : zCall (d + 1) nX8_copyFrom [.ref 56, .ref 4] σ post := h
-- X5_smoothen(34, None) depth 2
def zo_X5_smoothen_0 : List zOp := [(.iconst 0, 1, 0, 0, 0, 0, 0, 0, 0, []), (.istore_n 3, 2, 3, 0, 0, 0, 0, 0, 0, []), (.iconst 1, 3, 0, 0, 0, 0, 0, 1, 0, []), (.istore 4, 5, 4, 0, 0, 0, 0, 0, 0, [])]
set_option maxRecDepth 100000 in
theorem zk_X5_smoothen_0 : zOks nX5_smoothen zo_X5_smoothen_0 0 = true := by decide +kernel
def zo_X5_smoothen_5 : List zOp := [(.iload 4, 7, 4, 0, 0, 0, 0, 0, 0, []), (.aload_n 0, 8, 0, 0, 0, 0, 0, 0, 0, []), (.getfield 40, 11, 5, 2, 0, 0, 395, 0, 0, []), (.getfield 45, 14, 3, 0, 1, 0, 238, 0, 0, []), (.if_icmp .ge 115, 17, 129, 0, 0, 0, 0, 0, 0, []), (.aload_n 0, 18, 0, 0, 0, 0, 0, 0, 0, []), (.getfield 40, 21, 5, 2, 0, 0, 395, 0, 0, []), (.getfield 51, 24, 3, 9, 0, 0, 264, 0, 0, []), (.iload 4, 26, 4, 0, 0, 0, 0, 0, 0, []), (.invokestatic 54, 29, 126, 2, 1, 0, 819, 0, 0, []), (.istore 5, 31, 5, 0, 0, 0, 0, 0, 0, []), (.aload_n 0, 32, 0, 0, 0, 0, 0, 0, 0, []), (.getfield 40, 35, 5, 2, 0, 0, 395, 0, 0, []), (.getfield 51, 38, 3, 9, 0, 0, 264, 0, 0, []), (.iload 4, 40, 4, 0, 0, 0, 0, 0, 0, []), (.iconst 1, 41, 0, 0, 0, 0, 0, 1, 0, []), (.isub, 42, 0, 0, 0, 0, 0, 0, 0, []), (.invokestatic 54, 45, 126, 2, 1, 0, 819, 0, 0, []), (.istore 6, 47, 6, 0, 0, 0, 0, 0, 0, []), (.aload_n 0, 48, 0, 0, 0, 0, 0, 0, 0, []), (.getfield 40, 51, 5, 2, 0, 0, 395, 0, 0, []), (.getfield 58, 54, 3, 4, 0, 0, 250, 0, 0, []), (.iload 5, 56, 5, 0, 0, 0, 0, 0, 0, []), (.invokestatic 54, 59, 126, 2, 1, 0, 819, 0, 0, []), (.aload_n 0, 60, 0, 0, 0, 0, 0, 0, 0, []), (.getfield 40, 63, 5, 2, 0, 0, 395, 0, 0, []), (.getfield 58, 66, 3, 4, 0, 0, 250, 0, 0, []), (.iload 6, 68, 6, 0, 0, 0, 0, 0, 0, []), (.invokestatic 54, 71, 126, 2, 1, 0, 819, 0, 0, []), (.if_icmp .ne 52, 74, 123, 0, 0, 0, 0, 0, 0, []), (.aload_n 1, 75, 1, 0, 0, 0, 0, 0, 0, []), (.iload 6, 77, 6, 0, 0, 0, 0, 0, 0, []), (.invokestatic 54, 80, 126, 2, 1, 0, 819, 0, 0, []), (.istore 7, 82, 7, 0, 0, 0, 0, 0, 0, []), (.aload_n 1, 83, 1, 0, 0, 0, 0, 0, 0, []), (.iload 5, 85, 5, 0, 0, 0, 0, 0, 0, []), (.invokestatic 54, 88, 126, 2, 1, 0, 819, 0, 0, []), (.iload 7, 90, 7, 0, 0, 0, 0, 0, 0, []), (.iload_n 2, 91, 2, 0, 0, 0, 0, 0, 0, []), (.isub, 92, 0, 0, 0, 0, 0, 0, 0, []), (.iload 7, 94, 7, 0, 0, 0, 0, 0, 0, []), (.iload_n 2, 95, 2, 0, 0, 0, 0, 0, 0, []), (.iadd, 96, 0, 0, 0, 0, 0, 0, 0, []), (.invokestatic 61, 99, 125, 3, 1, 0, 820, 0, 0, []), (.istore 8, 101, 8, 0, 0, 0, 0, 0, 0, []), (.iload 8, 103, 8, 0, 0, 0, 0, 0, 0, []), (.aload_n 1, 104, 1, 0, 0, 0, 0, 0, 0, []), (.iload 5, 106, 5, 0, 0, 0, 0, 0, 0, []), (.invokestatic 54, 109, 126, 2, 1, 0, 819, 0, 0, []), (.if_icmp .eq 14, 112, 123, 0, 0, 0, 0, 0, 0, []), (.aload_n 1, 113, 1, 0, 0, 0, 0, 0, 0, []), (.iload 5, 115, 5, 0, 0, 0, 0, 0, 0, []), (.iload 8, 117, 8, 0, 0, 0, 0, 0, 0, []), (.invokestatic 65, 120, 128, 3, 0, 0, 821, 0, 0, []), (.iinc 3 1, 123, 3, 0, 0, 0, 0, 1, 0, []), (.iinc 4 1, 126, 4, 0, 0, 0, 0, 1, 0, []), (.goto (-121), 129, 5, 0, 0, 0, 0, 0, 0, []), (.iload_n 3, 130, 3, 0, 0, 0, 0, 0, 0, []), (.ireturn, 131, 0, 0, 0, 0, 0, 0, 0, [])]
set_option maxRecDepth 100000 in
theorem zk_X5_smoothen_5 : zOks nX5_smoothen zo_X5_smoothen_5 5 = true := by decide +kernel
def zm_X5_smoothen : List (Nat × List Bool) := [(0, [true, true, true, false, false, false, false, false, false]), (5, [true, true, true, true, true, false, false, false, false])]
set_option maxRecDepth 100000 in
set_option maxHeartbeats 4000000 in
theorem zr_X5_smoothen_0 {C : zCa} {post : zPo} {X : zX} (hX : zClosed none C post nX5_smoothen X) (p0 : Nat) (p1 : Int32) (σ : zS) (h : X 5 [some (.ref 34), some (.ref p0), some (.int p1), some (.int 0), some (.int 1), none, none, none, none] [] σ) : X 0 [some (.ref 34), some (.ref p0), some (.int p1), none, none, none, none, none, none] [] σ := zSeq_ok hX zm_X5_smoothen zo_X5_smoothen_0 0 0 _ _ _ zk_X5_smoothen_0 h
set_option maxRecDepth 100000 in
set_option maxHeartbeats 4000000 in
theorem zr_X5_smoothen_5 {C : zCa} {post : zPo} {X : zX} (hX : zClosed none C post nX5_smoothen X) (p0 : Nat) (v2 : Int32) (v3 : Int32) (v4 : Int32) (σ : zS) (h : zIf ((v4 : Int32) < (σ.1 16 0)) (C nX11_at [.ref 23, .int v4] σ (zPI fun x2 σ1 => C nX11_at [.ref 23, .int (v4 - 1)] σ1 (zPI fun x4 σ3 => C nX11_at [.ref 18, .int x2] σ3 (zPI fun x6 σ5 => C nX11_at [.ref 18, .int x4] σ5 (zPI fun x8 σ7 => zIf ((x6 : Int32) = x8) (C nX11_at [.ref p0, .int x4] σ7 (zPI fun x10 σ9 => C nX11_at [.ref p0, .int x2] σ9 (zPI fun x12 σ11 => C nX11_limit [.int x12, .int (x10 - v2), .int (x10 + v2)] σ11 (zPI fun x14 σ13 => C nX11_at [.ref p0, .int x2] σ13 (zPI fun x16 σ15 => zIf ((x14 : Int32) = x16) (X 5 [some (.ref 34), some (.ref p0), some (.int v2), some (.int v3), some (.int (v4 + 1)), none, none, none, none] [] σ15) (C nX11_put [.ref p0, .int x2, .int x14] σ15 (zPV fun σ17 => X 5 [some (.ref 34), some (.ref p0), some (.int v2), some (.int (v3 + 1)), some (.int (v4 + 1)), none, none, none, none] [] σ17))))))) (X 5 [some (.ref 34), some (.ref p0), some (.int v2), some (.int v3), some (.int (v4 + 1)), none, none, none, none] [] σ7)))))) (post (some (.int v3)) σ)) : X 5 [some (.ref 34), some (.ref p0), some (.int v2), some (.int v3), some (.int v4), none, none, none, none] [] σ := zSeq_ok hX zm_X5_smoothen zo_X5_smoothen_5 5 5 _ _ _ zk_X5_smoothen_5 h
theorem ze_X5_smoothen {d : Nat} {post : zPo} (p0 : Nat) (p1 : Int32) (σ : zS) (h : ∀ X : zX, zClosed none (zCall d) post nX5_smoothen X → X 0 [some (.ref 34), some (.ref p0), some (.int p1), none, none, none, none, none, none] [] σ) : zCall (d + 1) nX5_smoothen [.ref 34, .ref p0, .int p1] σ post := h
end
section
/-! the code of the methods read ahead, and a theorem a region: printed by wip/whole/sym.py -/
-- X11_put(None,) depth 1
def zo_X11_put_0 : List zOp := [(.iload_n 1, 1, 1, 0, 0, 0, 0, 0, 0, []), (.ifCond .lt 13, 4, 14, 0, 0, 0, 0, 0, 0, []), (.iload_n 1, 5, 1, 0, 0, 0, 0, 0, 0, []), (.aload_n 0, 6, 0, 0, 0, 0, 0, 0, 0, []), (.arraylength, 7, 0, 0, 0, 0, 0, 0, 0, []), (.if_icmp .ge 7, 10, 14, 0, 0, 0, 0, 0, 0, []), (.aload_n 0, 11, 0, 0, 0, 0, 0, 0, 0, []), (.iload_n 1, 12, 1, 0, 0, 0, 0, 0, 0, []), (.iload_n 2, 13, 2, 0, 0, 0, 0, 0, 0, []), (.iastore, 14, 0, 0, 0, 0, 0, 0, 0, []), (.return_, 15, 0, 0, 0, 0, 0, 0, 0, [])]
set_option maxRecDepth 100000 in
theorem zk_X11_put_0 : zOks nX11_put zo_X11_put_0 0 = true := by decide +kernel
def zm_X11_put : List (Nat × List Bool) := [(0, [true, true, true])]
set_option maxRecDepth 100000 in
set_option maxHeartbeats 4000000 in
theorem zr_X11_put_0 {C : zCa} {post : zPo} {X : zX} (hX : zClosed none C post nX11_put X) (p0 : Nat) (p1 : Int32) (p2 : Int32) (σ : zS) (h : zIf ((p1 : Int32) < 0) (post none σ) (zLe none p0 (fun x1 => zIf ((p1 : Int32) < x1) (zG (zIsI p0) (vp_in p1 (zN p0) ∧ (post none (zSI σ p0 (Int32.toNatClampNeg p1) p2)))) (post none σ)))) : X 0 [some (.ref p0), some (.int p1), some (.int p2)] [] σ := zSeq_ok hX zm_X11_put zo_X11_put_0 0 0 _ _ _ zk_X11_put_0 h
theorem ze_X11_put {d : Nat} {post : zPo} (p0 : Nat) (p1 : Int32) (p2 : Int32) (σ : zS) (h : ∀ X : zX, zClosed none (zCall d) post nX11_put X → X 0 [some (.ref p0), some (.int p1), some (.int p2)] [] σ) : zCall (d + 1) nX11_put [.ref p0, .int p1, .int p2] σ post := h
-- X11_copyRow(None, None) depth 1
def zo_X11_copyRow_0 : List zOp := [(.aload_n 0, 1, 0, 0, 0, 0, 0, 0, 0, []), (.iconst 0, 2, 0, 0, 0, 0, 0, 0, 0, []), (.aload_n 1, 3, 1, 0, 0, 0, 0, 0, 0, []), (.iconst 0, 4, 0, 0, 0, 0, 0, 0, 0, []), (.aload_n 0, 5, 0, 0, 0, 0, 0, 0, 0, []), (.arraylength, 6, 0, 0, 0, 0, 0, 0, 0, []), (.aload_n 1, 7, 1, 0, 0, 0, 0, 0, 0, []), (.arraylength, 8, 0, 0, 0, 0, 0, 0, 0, []), (.invokestatic 368, 11, 0, 0, 0, 2, 633, 0, 0, []), (.invokestatic 374, 14, 0, 0, 0, 4, 636, 0, 0, []), (.return_, 15, 0, 0, 0, 0, 0, 0, 0, [])]
set_option maxRecDepth 100000 in
theorem zk_X11_copyRow_0 : zOks nX11_copyRow zo_X11_copyRow_0 0 = true := by decide +kernel
def zm_X11_copyRow : List (Nat × List Bool) := [(0, [true, true])]
set_option maxRecDepth 100000 in
set_option maxHeartbeats 4000000 in
theorem zr_X11_copyRow_0 {C : zCa} {post : zPo} {X : zX} (hX : zClosed none C post nX11_copyRow X) (p0 : Nat) (p1 : Nat) (σ : zS) (h : zLe none p0 (fun x1 => zLe none p1 (fun x2 => zG (zIsI p0 && zIsI p1 && true) ((¬ (0 : Int32) < 0 ∧ ¬ (0 : Int32) < 0 ∧ ¬ (if ((x2 : Int32) < x1) then x2 else x1 : Int32) < 0 ∧ Int32.toNatClampNeg 0 + Int32.toNatClampNeg (if ((x2 : Int32) < x1) then x2 else x1) ≤ zN p0 ∧ Int32.toNatClampNeg 0 + Int32.toNatClampNeg (if ((x2 : Int32) < x1) then x2 else x1) ≤ zN p1) ∧ (post none (zSR σ p1 (va_cpy (σ.1 p0) (σ.1 p1) (Int32.toNatClampNeg 0) (Int32.toNatClampNeg 0) (Int32.toNatClampNeg (if ((x2 : Int32) < x1) then x2 else x1))))))))) : X 0 [some (.ref p0), some (.ref p1)] [] σ := zSeq_ok hX zm_X11_copyRow zo_X11_copyRow_0 0 0 _ _ _ zk_X11_copyRow_0 h
theorem ze_X11_copyRow {d : Nat} {post : zPo} (p0 : Nat) (p1 : Nat) (σ : zS) (h : ∀ X : zX, zClosed none (zCall d) post nX11_copyRow X → X 0 [some (.ref p0), some (.ref p1)] [] σ) : zCall (d + 1) nX11_copyRow [.ref p0, .ref p1] σ post := h
-- X11_at(None,) depth 1
def zo_X11_at_0 : List zOp := [(.iload_n 1, 1, 1, 0, 0, 0, 0, 0, 0, []), (.ifCond .lt 15, 4, 16, 0, 0, 0, 0, 0, 0, []), (.iload_n 1, 5, 1, 0, 0, 0, 0, 0, 0, []), (.aload_n 0, 6, 0, 0, 0, 0, 0, 0, 0, []), (.arraylength, 7, 0, 0, 0, 0, 0, 0, 0, []), (.if_icmp .ge 9, 10, 16, 0, 0, 0, 0, 0, 0, []), (.aload_n 0, 11, 0, 0, 0, 0, 0, 0, 0, []), (.iload_n 1, 12, 1, 0, 0, 0, 0, 0, 0, []), (.iaload, 13, 0, 0, 0, 0, 0, 0, 0, []), (.goto 4, 16, 17, 0, 0, 0, 0, 0, 0, []), (.iconst 0, 17, 0, 0, 0, 0, 0, 0, 0, []), (.ireturn, 18, 0, 0, 0, 0, 0, 0, 0, [])]
set_option maxRecDepth 100000 in
theorem zk_X11_at_0 : zOks nX11_at zo_X11_at_0 0 = true := by decide +kernel
def zm_X11_at : List (Nat × List Bool) := [(0, [true, true])]
set_option maxRecDepth 100000 in
set_option maxHeartbeats 4000000 in
theorem zr_X11_at_0 {C : zCa} {post : zPo} {X : zX} (hX : zClosed none C post nX11_at X) (p0 : Nat) (p1 : Int32) (σ : zS) (h : zIf ((p1 : Int32) < 0) (post (some (.int 0)) σ) (zLe none p0 (fun x1 => zIf ((p1 : Int32) < x1) (zIl none σ p0 p1 (fun x2 => post (some (.int x2)) σ)) (post (some (.int 0)) σ)))) : X 0 [some (.ref p0), some (.int p1)] [] σ := zSeq_ok hX zm_X11_at zo_X11_at_0 0 0 _ _ _ zk_X11_at_0 h
theorem ze_X11_at {d : Nat} {post : zPo} (p0 : Nat) (p1 : Int32) (σ : zS) (h : ∀ X : zX, zClosed none (zCall d) post nX11_at X → X 0 [some (.ref p0), some (.int p1)] [] σ) : zCall (d + 1) nX11_at [.ref p0, .int p1] σ post := h
-- X11_within() depth 1
def zo_X11_within_0 : List zOp := [(.iload_n 0, 1, 0, 0, 0, 0, 0, 0, 0, []), (.iload_n 1, 2, 1, 0, 0, 0, 0, 0, 0, []), (.if_icmp .lt 12, 5, 14, 0, 0, 0, 0, 0, 0, []), (.iload_n 0, 6, 0, 0, 0, 0, 0, 0, 0, []), (.iload_n 2, 7, 2, 0, 0, 0, 0, 0, 0, []), (.if_icmp .gt 7, 10, 14, 0, 0, 0, 0, 0, 0, []), (.iconst 1, 11, 0, 0, 0, 0, 0, 1, 0, []), (.goto 4, 14, 15, 0, 0, 0, 0, 0, 0, []), (.iconst 0, 15, 0, 0, 0, 0, 0, 0, 0, []), (.ireturn, 16, 0, 0, 1, 0, 0, 0, 0, [])]
set_option maxRecDepth 100000 in
theorem zk_X11_within_0 : zOks nX11_within zo_X11_within_0 0 = true := by decide +kernel
def zm_X11_within : List (Nat × List Bool) := [(0, [true, true, true])]
set_option maxRecDepth 100000 in
set_option maxHeartbeats 4000000 in
theorem zr_X11_within_0 {C : zCa} {post : zPo} {X : zX} (hX : zClosed none C post nX11_within X) (p0 : Int32) (p1 : Int32) (p2 : Int32) (σ : zS) (h : zIf ((p0 : Int32) < p1) (post (some (.int 0)) σ) (zIf ((p0 : Int32) ≤ p2) (post (some (.int 1)) σ) (post (some (.int 0)) σ))) : X 0 [some (.int p0), some (.int p1), some (.int p2)] [] σ := zSeq_ok hX zm_X11_within zo_X11_within_0 0 0 _ _ _ zk_X11_within_0 h
theorem ze_X11_within {d : Nat} {post : zPo} (p0 : Int32) (p1 : Int32) (p2 : Int32) (σ : zS) (h : ∀ X : zX, zClosed none (zCall d) post nX11_within X → X 0 [some (.int p0), some (.int p1), some (.int p2)] [] σ) : zCall (d + 1) nX11_within [.int p0, .int p1, .int p2] σ post := h
-- X11_addZone(0,) depth 3
def zo_X11_addZone_0 : List zOp := [(.iload_n 1, 1, 1, 0, 0, 0, 0, 0, 0, []), (.iconst 0, 2, 0, 0, 0, 0, 0, 0, 0, []), (.bipush 59, 4, 0, 0, 0, 0, 0, 59, 0, []), (.invokestatic 130, 7, 124, 3, 1, 0, 513, 0, 0, []), (.ifCond .eq 24, 10, 31, 0, 0, 0, 0, 0, 0, []), (.iload_n 2, 11, 2, 0, 0, 0, 0, 0, 0, []), (.iload_n 1, 12, 1, 0, 0, 0, 0, 0, 0, []), (.bipush 59, 14, 0, 0, 0, 0, 0, 59, 0, []), (.invokestatic 130, 17, 124, 3, 1, 0, 513, 0, 0, []), (.ifCond .eq 14, 20, 31, 0, 0, 0, 0, 0, 0, []), (.iload_n 3, 21, 3, 0, 0, 0, 0, 0, 0, []), (.bipush (-10), 23, 0, 0, 0, 0, 0, (-10), 0, []), (.bipush 10, 25, 0, 0, 0, 0, 0, 10, 0, []), (.invokestatic 130, 28, 124, 3, 1, 0, 513, 0, 0, []), (.ifCond .ne 6, 31, 34, 0, 0, 0, 0, 0, 0, []), (.bipush (-2), 33, 0, 0, 0, 0, 0, (-2), 0, []), (.ireturn, 34, 0, 0, 0, 0, 0, 0, 0, []), (.aload_n 0, 35, 0, 0, 0, 0, 0, 0, 0, []), (.getfield 19, 38, 11, 1, 0, 0, 470, 0, 0, []), (.getfield 203, 41, 8, 7, 1, 0, 154, 0, 0, []), (.bipush 6, 43, 0, 0, 0, 0, 0, 6, 0, []), (.if_icmp .lt 6, 46, 49, 0, 0, 0, 0, 0, 0, []), (.bipush (-4), 48, 0, 0, 0, 0, 0, (-4), 0, []), (.ireturn, 49, 0, 0, 0, 0, 0, 0, 0, []), (.aload_n 0, 50, 0, 0, 0, 0, 0, 0, 0, []), (.getfield 19, 53, 11, 1, 0, 0, 470, 0, 0, []), (.iload_n 1, 54, 1, 0, 0, 0, 0, 0, 0, []), (.iload_n 2, 55, 2, 0, 0, 0, 0, 0, 0, []), (.iload_n 3, 56, 3, 0, 0, 0, 0, 0, 0, []), (.invokevirtual 206, 59, 63, 4, 0, 8, 681, 0, 0, []), (.aload_n 0, 60, 0, 0, 0, 0, 0, 0, 0, []), (.getfield 19, 63, 11, 1, 0, 0, 470, 0, 0, []), (.getfield 203, 66, 8, 7, 1, 0, 154, 0, 0, []), (.ireturn, 67, 0, 0, 0, 0, 0, 0, 0, [])]
set_option maxRecDepth 100000 in
theorem zk_X11_addZone_0 : zOks nX11_addZone zo_X11_addZone_0 0 = true := by decide +kernel
def zm_X11_addZone : List (Nat × List Bool) := [(0, [true, true, true, true])]
set_option maxRecDepth 100000 in
set_option maxHeartbeats 4000000 in
theorem zr_X11_addZone_0 {C : zCa} {post : zPo} {X : zX} (hX : zClosed none C post nX11_addZone X) (p0 : Int32) (p1 : Int32) (p2 : Int32) (σ : zS) (h : C nX11_within [.int p0, .int 0, .int 59] σ (zPI fun x2 σ1 => zIf ((x2 : Int32) = 0) (post (some (.int (-2))) σ1) (C nX11_within [.int p1, .int p0, .int 59] σ1 (zPI fun x4 σ3 => zIf ((x4 : Int32) = 0) (post (some (.int (-2))) σ3) (C nX11_within [.int p2, .int (-10), .int 10] σ3 (zPI fun x6 σ5 => zIf ((x6 : Int32) = 0) (post (some (.int (-2))) σ5) (zIf ((σ5.1 4 7 : Int32) < 6) (C nX8_putZone [.ref 4, .int p0, .int p1, .int p2] σ5 (zPV fun σ7 => post (some (.int (σ7.1 4 7))) σ7)) (post (some (.int (-4))) σ5)))))))) : X 0 [some (.ref 0), some (.int p0), some (.int p1), some (.int p2)] [] σ := zSeq_ok hX zm_X11_addZone zo_X11_addZone_0 0 0 _ _ _ zk_X11_addZone_0 h
theorem ze_X11_addZone {d : Nat} {post : zPo} (p0 : Int32) (p1 : Int32) (p2 : Int32) (σ : zS) (h : ∀ X : zX, zClosed none (zCall d) post nX11_addZone X → X 0 [some (.ref 0), some (.int p0), some (.int p1), some (.int p2)] [] σ) : zCall (d + 1) nX11_addZone [.ref 0, .int p0, .int p1, .int p2] σ post := h
-- X11_isFrame(0,) depth 2
def zo_X11_isFrame_0 : List zOp := [(.iload_n 1, 1, 1, 0, 0, 0, 0, 0, 0, []), (.iconst 0, 2, 0, 0, 0, 0, 0, 0, 0, []), (.aload_n 0, 3, 0, 0, 0, 0, 0, 0, 0, []), (.getfield 10, 6, 11, 0, 0, 0, 469, 0, 0, []), (.getfield 101, 9, 0, 0, 1, 0, 101, 0, 0, []), (.iconst 1, 10, 0, 0, 0, 0, 0, 1, 0, []), (.isub, 11, 0, 0, 0, 0, 0, 0, 0, []), (.invokestatic 130, 14, 124, 3, 1, 0, 513, 0, 0, []), (.ireturn, 15, 0, 0, 1, 0, 0, 0, 0, [])]
set_option maxRecDepth 100000 in
theorem zk_X11_isFrame_0 : zOks nX11_isFrame zo_X11_isFrame_0 0 = true := by decide +kernel
def zm_X11_isFrame : List (Nat × List Bool) := [(0, [true, true])]
set_option maxRecDepth 100000 in
set_option maxHeartbeats 4000000 in
theorem zr_X11_isFrame_0 {C : zCa} {post : zPo} {X : zX} (hX : zClosed none C post nX11_isFrame X) (p0 : Int32) (σ : zS) (h : C nX11_within [.int p0, .int 0, .int ((σ.1 1 0) - 1)] σ (zPI fun x2 σ1 => zG ((x2 : Int32) == 0 || (x2 : Int32) == 1) (post (some (.int x2)) σ1))) : X 0 [some (.ref 0), some (.int p0)] [] σ := zSeq_ok hX zm_X11_isFrame zo_X11_isFrame_0 0 0 _ _ _ zk_X11_isFrame_0 h
theorem ze_X11_isFrame {d : Nat} {post : zPo} (p0 : Int32) (σ : zS) (h : ∀ X : zX, zClosed none (zCall d) post nX11_isFrame X → X 0 [some (.ref 0), some (.int p0)] [] σ) : zCall (d + 1) nX11_isFrame [.ref 0, .int p0] σ post := h
-- X11_isQuantizer() depth 2
def zo_X11_isQuantizer_0 : List zOp := [(.iload_n 0, 1, 0, 0, 0, 0, 0, 0, 0, []), (.iconst 0, 2, 0, 0, 0, 0, 0, 0, 0, []), (.bipush 51, 4, 0, 0, 0, 0, 0, 51, 0, []), (.invokestatic 130, 7, 124, 3, 1, 0, 513, 0, 0, []), (.ireturn, 8, 0, 0, 1, 0, 0, 0, 0, [])]
set_option maxRecDepth 100000 in
theorem zk_X11_isQuantizer_0 : zOks nX11_isQuantizer zo_X11_isQuantizer_0 0 = true := by decide +kernel
def zm_X11_isQuantizer : List (Nat × List Bool) := [(0, [true])]
set_option maxRecDepth 100000 in
set_option maxHeartbeats 4000000 in
theorem zr_X11_isQuantizer_0 {C : zCa} {post : zPo} {X : zX} (hX : zClosed none C post nX11_isQuantizer X) (p0 : Int32) (σ : zS) (h : C nX11_within [.int p0, .int 0, .int 51] σ (zPI fun x2 σ1 => zG ((x2 : Int32) == 0 || (x2 : Int32) == 1) (post (some (.int x2)) σ1))) : X 0 [some (.int p0)] [] σ := zSeq_ok hX zm_X11_isQuantizer zo_X11_isQuantizer_0 0 0 _ _ _ zk_X11_isQuantizer_0 h
theorem ze_X11_isQuantizer {d : Nat} {post : zPo} (p0 : Int32) (σ : zS) (h : ∀ X : zX, zClosed none (zCall d) post nX11_isQuantizer X → X 0 [some (.int p0)] [] σ) : zCall (d + 1) nX11_isQuantizer [.int p0] σ post := h
-- X11_adjust(0,) depth 3
def zo_X11_adjust_0 : List zOp := [(.aload_n 0, 1, 0, 0, 0, 0, 0, 0, 0, []), (.iload_n 1, 2, 1, 0, 0, 0, 0, 0, 0, []), (.invokevirtual 112, 5, 121, 2, 1, 11, 572, 0, 0, []), (.ifCond .eq 10, 8, 15, 0, 0, 0, 0, 0, 0, []), (.iload_n 2, 9, 2, 0, 0, 0, 0, 0, 0, []), (.invokestatic 183, 12, 123, 1, 1, 0, 664, 0, 0, []), (.ifCond .ne 6, 15, 18, 0, 0, 0, 0, 0, 0, []), (.bipush (-2), 17, 0, 0, 0, 0, 0, (-2), 0, []), (.ireturn, 18, 0, 0, 0, 0, 0, 0, 0, []), (.aload_n 0, 19, 0, 0, 0, 0, 0, 0, 0, []), (.getfield 26, 22, 11, 2, 0, 0, 471, 0, 0, []), (.getfield 234, 25, 7, 0, 2, 0, 193, 0, 0, []), (.ifCond .ne 6, 28, 31, 0, 0, 0, 0, 0, 0, []), (.bipush (-3), 30, 0, 0, 0, 0, 0, (-3), 0, []), (.ireturn, 31, 0, 0, 0, 0, 0, 0, 0, []), (.aload_n 0, 32, 0, 0, 0, 0, 0, 0, 0, []), (.getfield 26, 35, 11, 2, 0, 0, 471, 0, 0, []), (.getfield 217, 38, 7, 1, 0, 0, 195, 0, 0, []), (.iload_n 1, 39, 1, 0, 0, 0, 0, 0, 0, []), (.invokestatic 149, 42, 126, 2, 1, 0, 643, 0, 0, []), (.istore_n 3, 43, 3, 0, 0, 0, 0, 0, 0, []), (.aload_n 0, 44, 0, 0, 0, 0, 0, 0, 0, []), (.getfield 26, 47, 11, 2, 0, 0, 471, 0, 0, []), (.getfield 217, 50, 7, 1, 0, 0, 195, 0, 0, []), (.iload_n 1, 51, 1, 0, 0, 0, 0, 0, 0, []), (.iload_n 2, 52, 2, 0, 0, 0, 0, 0, 0, []), (.invokestatic 120, 55, 128, 3, 0, 0, 576, 0, 0, []), (.iload_n 3, 56, 3, 0, 0, 0, 0, 0, 0, []), (.ireturn, 57, 0, 0, 0, 0, 0, 0, 0, [])]
set_option maxRecDepth 100000 in
theorem zk_X11_adjust_0 : zOks nX11_adjust zo_X11_adjust_0 0 = true := by decide +kernel
def zm_X11_adjust : List (Nat × List Bool) := [(0, [true, true, true, false])]
set_option maxRecDepth 100000 in
set_option maxHeartbeats 4000000 in
theorem zr_X11_adjust_0 {C : zCa} {post : zPo} {X : zX} (hX : zClosed none C post nX11_adjust X) (p0 : Int32) (p1 : Int32) (σ : zS) (h : C nX11_isFrame [.ref 0, .int p0] σ (zPI fun x2 σ1 => zIf ((x2 : Int32) = 0) (post (some (.int (-2))) σ1) (C nX11_isQuantizer [.int p1] σ1 (zPI fun x4 σ3 => zIf ((x4 : Int32) = 0) (post (some (.int (-2))) σ3) (zIf ((σ3.1 9 0 : Int32) = 0) (post (some (.int (-3))) σ3) (C nX11_at [.ref 10, .int p0] σ3 (zPI fun x6 σ5 => C nX11_put [.ref 10, .int p0, .int p1] σ5 (zPV fun σ7 => post (some (.int x6)) σ7)))))))) : X 0 [some (.ref 0), some (.int p0), some (.int p1), none] [] σ := zSeq_ok hX zm_X11_adjust zo_X11_adjust_0 0 0 _ _ _ zk_X11_adjust_0 h
theorem ze_X11_adjust {d : Nat} {post : zPo} (p0 : Int32) (p1 : Int32) (σ : zS) (h : ∀ X : zX, zClosed none (zCall d) post nX11_adjust X → X 0 [some (.ref 0), some (.int p0), some (.int p1), none] [] σ) : zCall (d + 1) nX11_adjust [.ref 0, .int p0, .int p1] σ post := h
-- X11_arrangeAnew(0,) depth 5
def zo_X11_arrangeAnew_0 : List zOp := [(.aload_n 0, 1, 0, 0, 0, 0, 0, 0, 0, []), (.getfield 26, 4, 11, 2, 0, 0, 471, 0, 0, []), (.iconst 0, 5, 0, 0, 0, 0, 0, 0, 0, []), (.putfield 234, 8, 7, 0, 2, 0, 193, 0, 0, []), (.aload_n 0, 9, 0, 0, 0, 0, 0, 0, 0, []), (.getfield 40, 12, 11, 4, 0, 0, 473, 0, 0, []), (.aload_n 0, 13, 0, 0, 0, 0, 0, 0, 0, []), (.getfield 10, 16, 11, 0, 0, 0, 469, 0, 0, []), (.aload_n 0, 17, 0, 0, 0, 0, 0, 0, 0, []), (.getfield 19, 20, 11, 1, 0, 0, 470, 0, 0, []), (.invokevirtual 333, 23, 24, 3, 0, 3, 527, 0, 0, []), (.return_, 24, 0, 0, 0, 0, 0, 0, 0, [])]
set_option maxRecDepth 100000 in
theorem zk_X11_arrangeAnew_0 : zOks nX11_arrangeAnew zo_X11_arrangeAnew_0 0 = true := by decide +kernel
def zm_X11_arrangeAnew : List (Nat × List Bool) := [(0, [true])]
set_option maxRecDepth 100000 in
set_option maxHeartbeats 4000000 in
theorem zr_X11_arrangeAnew_0 {C : zCa} {post : zPo} {X : zX} (hX : zClosed none C post nX11_arrangeAnew X) (σ : zS) (h : C nX3_arrange [.ref 16, .ref 1, .ref 4] (zSI σ 9 0 0) (zPV fun σ1 => post none σ1)) : X 0 [some (.ref 0)] [] σ := zSeq_ok hX zm_X11_arrangeAnew zo_X11_arrangeAnew_0 0 0 _ _ _ zk_X11_arrangeAnew_0 h
theorem ze_X11_arrangeAnew {d : Nat} {post : zPo} (σ : zS) (h : ∀ X : zX, zClosed none (zCall d) post nX11_arrangeAnew X → X 0 [some (.ref 0)] [] σ) : zCall (d + 1) nX11_arrangeAnew [.ref 0] σ post := h
-- X11_isPicture() depth 2
def zo_X11_isPicture_0 : List zOp := [(.iload_n 0, 1, 0, 0, 0, 0, 0, 0, 0, []), (.iconst 1, 2, 0, 0, 0, 0, 0, 1, 0, []), (.sipush 4000, 5, 0, 0, 0, 0, 0, 4000, 0, []), (.invokestatic 130, 8, 124, 3, 1, 0, 513, 0, 0, []), (.ifCond .eq 18, 11, 26, 0, 0, 0, 0, 0, 0, []), (.iload_n 1, 12, 1, 0, 0, 0, 0, 0, 0, []), (.iconst 0, 13, 0, 0, 0, 0, 0, 0, 0, []), (.sipush 4000, 16, 0, 0, 0, 0, 0, 4000, 0, []), (.invokestatic 130, 19, 124, 3, 1, 0, 513, 0, 0, []), (.ifCond .eq 7, 22, 26, 0, 0, 0, 0, 0, 0, []), (.iconst 1, 23, 0, 0, 0, 0, 0, 1, 0, []), (.goto 4, 26, 27, 0, 0, 0, 0, 0, 0, []), (.iconst 0, 27, 0, 0, 0, 0, 0, 0, 0, []), (.ireturn, 28, 0, 0, 1, 0, 0, 0, 0, [])]
set_option maxRecDepth 100000 in
theorem zk_X11_isPicture_0 : zOks nX11_isPicture zo_X11_isPicture_0 0 = true := by decide +kernel
def zm_X11_isPicture : List (Nat × List Bool) := [(0, [true, true])]
set_option maxRecDepth 100000 in
set_option maxHeartbeats 4000000 in
theorem zr_X11_isPicture_0 {C : zCa} {post : zPo} {X : zX} (hX : zClosed none C post nX11_isPicture X) (p0 : Int32) (p1 : Int32) (σ : zS) (h : C nX11_within [.int p0, .int 1, .int 4000] σ (zPI fun x2 σ1 => zIf ((x2 : Int32) = 0) (post (some (.int 0)) σ1) (C nX11_within [.int p1, .int 0, .int 4000] σ1 (zPI fun x4 σ3 => zIf ((x4 : Int32) = 0) (post (some (.int 0)) σ3) (post (some (.int 1)) σ3))))) : X 0 [some (.int p0), some (.int p1)] [] σ := zSeq_ok hX zm_X11_isPicture zo_X11_isPicture_0 0 0 _ _ _ zk_X11_isPicture_0 h
theorem ze_X11_isPicture {d : Nat} {post : zPo} (p0 : Int32) (p1 : Int32) (σ : zS) (h : ∀ X : zX, zClosed none (zCall d) post nX11_isPicture X → X 0 [some (.int p0), some (.int p1)] [] σ) : zCall (d + 1) nX11_isPicture [.int p0, .int p1] σ post := h
-- X11_append(0,) depth 6
def zo_X11_append_0 : List zOp := [(.iload_n 1, 1, 1, 0, 0, 0, 0, 0, 0, []), (.iload_n 2, 2, 2, 0, 0, 0, 0, 0, 0, []), (.invokestatic 97, 5, 122, 2, 1, 0, 510, 0, 0, []), (.ifCond .ne 6, 8, 11, 0, 0, 0, 0, 0, 0, []), (.bipush (-2), 10, 0, 0, 0, 0, 0, (-2), 0, []), (.ireturn, 11, 0, 0, 0, 0, 0, 0, 0, []), (.aload_n 0, 12, 0, 0, 0, 0, 0, 0, 0, []), (.getfield 10, 15, 11, 0, 0, 0, 469, 0, 0, []), (.getfield 101, 18, 0, 0, 1, 0, 101, 0, 0, []), (.bipush 60, 20, 0, 0, 0, 0, 0, 60, 0, []), (.if_icmp .lt 6, 23, 26, 0, 0, 0, 0, 0, 0, []), (.bipush (-4), 25, 0, 0, 0, 0, 0, (-4), 0, []), (.ireturn, 26, 0, 0, 0, 0, 0, 0, 0, []), (.aload_n 0, 27, 0, 0, 0, 0, 0, 0, 0, []), (.getfield 10, 30, 11, 0, 0, 0, 469, 0, 0, []), (.iload_n 1, 31, 1, 0, 0, 0, 0, 0, 0, []), (.iload_n 2, 32, 2, 0, 0, 0, 0, 0, 0, []), (.invokevirtual 105, 35, 1, 3, 0, 0, 516, 0, 0, []), (.aload_n 0, 36, 0, 0, 0, 0, 0, 0, 0, []), (.invokevirtual 109, 39, 114, 1, 0, 11, 523, 0, 0, []), (.aload_n 0, 40, 0, 0, 0, 0, 0, 0, 0, []), (.getfield 10, 43, 11, 0, 0, 0, 469, 0, 0, []), (.getfield 101, 46, 0, 0, 1, 0, 101, 0, 0, []), (.iconst 1, 47, 0, 0, 0, 0, 0, 1, 0, []), (.isub, 48, 0, 0, 0, 0, 0, 0, 0, []), (.ireturn, 49, 0, 0, 0, 0, 0, 0, 0, [])]
set_option maxRecDepth 100000 in
theorem zk_X11_append_0 : zOks nX11_append zo_X11_append_0 0 = true := by decide +kernel
def zm_X11_append : List (Nat × List Bool) := [(0, [true, true, true])]
set_option maxRecDepth 100000 in
set_option maxHeartbeats 4000000 in
theorem zr_X11_append_0 {C : zCa} {post : zPo} {X : zX} (hX : zClosed none C post nX11_append X) (p0 : Int32) (p1 : Int32) (σ : zS) (h : C nX11_isPicture [.int p0, .int p1] σ (zPI fun x2 σ1 => zIf ((x2 : Int32) = 0) (post (some (.int (-2))) σ1) (zIf ((σ1.1 1 0 : Int32) < 60) (C nX0_add [.ref 1, .int p0, .int p1] σ1 (zPV fun σ3 => C nX11_arrangeAnew [.ref 0] σ3 (zPV fun σ4 => post (some (.int ((σ4.1 1 0) - 1))) σ4))) (post (some (.int (-4))) σ1)))) : X 0 [some (.ref 0), some (.int p0), some (.int p1)] [] σ := zSeq_ok hX zm_X11_append zo_X11_append_0 0 0 _ _ _ zk_X11_append_0 h
theorem ze_X11_append {d : Nat} {post : zPo} (p0 : Int32) (p1 : Int32) (σ : zS) (h : ∀ X : zX, zClosed none (zCall d) post nX11_append X → X 0 [some (.ref 0), some (.int p0), some (.int p1)] [] σ) : zCall (d + 1) nX11_append [.ref 0, .int p0, .int p1] σ post := h
-- X11_at_(None,) depth 1
def zo_X11_at__0 : List zOp := [(.iload_n 1, 1, 1, 0, 0, 0, 0, 0, 0, []), (.ifCond .lt 15, 4, 16, 0, 0, 0, 0, 0, 0, []), (.iload_n 1, 5, 1, 0, 0, 0, 0, 0, 0, []), (.aload_n 0, 6, 0, 0, 0, 0, 0, 0, 0, []), (.arraylength, 7, 0, 0, 0, 0, 0, 0, 0, []), (.if_icmp .ge 9, 10, 16, 0, 0, 0, 0, 0, 0, []), (.aload_n 0, 11, 0, 0, 0, 0, 0, 0, 0, []), (.iload_n 1, 12, 1, 0, 0, 0, 0, 0, 0, []), (.laload, 13, 0, 0, 0, 0, 0, 0, 0, []), (.goto 4, 16, 17, 0, 0, 0, 0, 0, 0, []), (.lconst 0, 17, 0, 0, 0, 0, 0, 0, 0, []), (.lreturn, 18, 0, 0, 0, 0, 0, 0, 0, [])]
set_option maxRecDepth 100000 in
theorem zk_X11_at__0 : zOks nX11_at_ zo_X11_at__0 0 = true := by decide +kernel
def zm_X11_at_ : List (Nat × List Bool) := [(0, [true, true])]
set_option maxRecDepth 100000 in
set_option maxHeartbeats 4000000 in
theorem zr_X11_at__0 {C : zCa} {post : zPo} {X : zX} (hX : zClosed none C post nX11_at_ X) (p0 : Nat) (p1 : Int32) (σ : zS) (h : zIf ((p1 : Int32) < 0) (post (some (.long 0)) σ) (zLe none p0 (fun x1 => zIf ((p1 : Int32) < x1) (zG (zIsJ p0) (vp_in p1 (zN p0) ∧ (post (some (.long (σ.2 p0 (Int32.toNatClampNeg p1)))) σ))) (post (some (.long 0)) σ)))) : X 0 [some (.ref p0), some (.int p1)] [] σ := zSeq_ok hX zm_X11_at_ zo_X11_at__0 0 0 _ _ _ zk_X11_at__0 h
theorem ze_X11_at_ {d : Nat} {post : zPo} (p0 : Nat) (p1 : Int32) (σ : zS) (h : ∀ X : zX, zClosed none (zCall d) post nX11_at_ X → X 0 [some (.ref p0), some (.int p1)] [] σ) : zCall (d + 1) nX11_at_ [.ref p0, .int p1] σ post := h
-- X11_ratio() depth 1
def zo_X11_ratio_0 : List zOp := [(.lload_n 2, 1, 2, 0, 0, 0, 0, 0, 0, []), (.lconst 0, 2, 0, 0, 0, 0, 0, 0, 0, []), (.lcmp, 3, 0, 0, 0, 0, 0, 0, 0, []), (.ifCond .ne 7, 6, 10, 0, 0, 0, 0, 0, 0, []), (.lconst 0, 7, 0, 0, 0, 0, 0, 0, 0, []), (.goto 6, 10, 13, 0, 0, 0, 0, 0, 0, []), (.lload_n 0, 11, 0, 0, 0, 0, 0, 0, 0, []), (.lload_n 2, 12, 2, 0, 0, 0, 0, 0, 0, []), (.ldiv, 13, 0, 0, 0, 0, 0, 0, 0, []), (.lreturn, 14, 0, 0, 0, 0, 0, 0, 0, [])]
set_option maxRecDepth 100000 in
theorem zk_X11_ratio_0 : zOks nX11_ratio zo_X11_ratio_0 0 = true := by decide +kernel
def zm_X11_ratio : List (Nat × List Bool) := [(0, [true, false, true, false])]
set_option maxRecDepth 100000 in
set_option maxHeartbeats 4000000 in
theorem zr_X11_ratio_0 {C : zCa} {post : zPo} {X : zX} (hX : zClosed none C post nX11_ratio X) (p0 : Int64) (p1 : Int64) (σ : zS) (h : zIf ((lg_cmp p1 0 : Int32) = 0) (post (some (.long 0)) σ) (¬ (p1 : Int64) = 0 ∧ (post (some (.long (p0 / p1))) σ))) : X 0 [some (.long p0), none, some (.long p1), none] [] σ := zSeq_ok hX zm_X11_ratio zo_X11_ratio_0 0 0 _ _ _ zk_X11_ratio_0 h
theorem ze_X11_ratio {d : Nat} {post : zPo} (p0 : Int64) (p1 : Int64) (σ : zS) (h : ∀ X : zX, zClosed none (zCall d) post nX11_ratio X → X 0 [some (.long p0), none, some (.long p1), none] [] σ) : zCall (d + 1) nX11_ratio [.long p0, .long p1] σ post := h
-- X11_limit() depth 1
def zo_X11_limit_0 : List zOp := [(.iload_n 1, 1, 1, 0, 0, 0, 0, 0, 0, []), (.iload_n 2, 2, 2, 0, 0, 0, 0, 0, 0, []), (.iload_n 0, 3, 0, 0, 0, 0, 0, 0, 0, []), (.invokestatic 368, 6, 0, 0, 0, 2, 633, 0, 0, []), (.invokestatic 371, 9, 0, 0, 0, 1, 735, 0, 0, []), (.ireturn, 10, 0, 0, 0, 0, 0, 0, 0, [])]
set_option maxRecDepth 100000 in
theorem zk_X11_limit_0 : zOks nX11_limit zo_X11_limit_0 0 = true := by decide +kernel
def zm_X11_limit : List (Nat × List Bool) := [(0, [true, true, true])]
set_option maxRecDepth 100000 in
set_option maxHeartbeats 4000000 in
theorem zr_X11_limit_0 {C : zCa} {post : zPo} {X : zX} (hX : zClosed none C post nX11_limit X) (p0 : Int32) (p1 : Int32) (p2 : Int32) (σ : zS) (h : post (some (.int (if ((p1 : Int32) < (if ((p0 : Int32) < p2) then p0 else p2)) then if ((p0 : Int32) < p2) then p0 else p2 else p1))) σ) : X 0 [some (.int p0), some (.int p1), some (.int p2)] [] σ := zSeq_ok hX zm_X11_limit zo_X11_limit_0 0 0 _ _ _ zk_X11_limit_0 h
theorem ze_X11_limit {d : Nat} {post : zPo} (p0 : Int32) (p1 : Int32) (p2 : Int32) (σ : zS) (h : ∀ X : zX, zClosed none (zCall d) post nX11_limit X → X 0 [some (.int p0), some (.int p1), some (.int p2)] [] σ) : zCall (d + 1) nX11_limit [.int p0, .int p1, .int p2] σ post := h
-- X11_bestConstant(0,) depth 7
def zo_X11_bestConstant_0 : List zOp := [(.aload_n 0, 1, 0, 0, 0, 0, 0, 0, 0, []), (.getfield 10, 4, 11, 0, 0, 0, 469, 0, 0, []), (.getfield 101, 7, 0, 0, 1, 0, 101, 0, 0, []), (.ifCond .ne 8, 10, 15, 0, 0, 0, 0, 0, 0, []), (.bipush (-3), 12, 0, 0, 0, 0, 0, (-3), 0, []), (.goto 10, 15, 22, 0, 0, 0, 0, 0, 0, []), (.aload_n 0, 16, 0, 0, 0, 0, 0, 0, 0, []), (.getfield 83, 19, 11, 9, 0, 0, 478, 0, 0, []), (.invokevirtual 291, 22, 21, 1, 1, 2, 992, 0, 0, []), (.ireturn, 23, 0, 0, 0, 0, 0, 0, 0, [])]
set_option maxRecDepth 100000 in
theorem zk_X11_bestConstant_0 : zOks nX11_bestConstant zo_X11_bestConstant_0 0 = true := by decide +kernel
def zm_X11_bestConstant : List (Nat × List Bool) := [(0, [true])]
set_option maxRecDepth 100000 in
set_option maxHeartbeats 4000000 in
theorem zr_X11_bestConstant_0 {C : zCa} {post : zPo} {X : zX} (hX : zClosed none C post nX11_bestConstant X) (σ : zS) (h : zIf ((σ.1 1 0 : Int32) = 0) (post (some (.int (-3))) σ) (C nX2_findConstant [.ref 39] σ (zPI fun x2 σ1 => post (some (.int x2)) σ1))) : X 0 [some (.ref 0)] [] σ := zSeq_ok hX zm_X11_bestConstant zo_X11_bestConstant_0 0 0 _ _ _ zk_X11_bestConstant_0 h
theorem ze_X11_bestConstant {d : Nat} {post : zPo} (σ : zS) (h : ∀ X : zX, zClosed none (zCall d) post nX11_bestConstant X → X 0 [some (.ref 0)] [] σ) : zCall (d + 1) nX11_bestConstant [.ref 0] σ post := h
-- X11_bitsAt(0,) depth 3
def zo_X11_bitsAt_0 : List zOp := [(.aload_n 0, 1, 0, 0, 0, 0, 0, 0, 0, []), (.iload_n 1, 2, 1, 0, 0, 0, 0, 0, 0, []), (.invokevirtual 112, 5, 121, 2, 1, 11, 572, 0, 0, []), (.ifCond .eq 22, 8, 27, 0, 0, 0, 0, 0, 0, []), (.iload_n 2, 9, 2, 0, 0, 0, 0, 0, 0, []), (.invokestatic 183, 12, 123, 1, 1, 0, 664, 0, 0, []), (.ifCond .eq 15, 15, 27, 0, 0, 0, 0, 0, 0, []), (.aload_n 0, 16, 0, 0, 0, 0, 0, 0, 0, []), (.getfield 49, 19, 11, 5, 0, 0, 474, 0, 0, []), (.iload_n 1, 20, 1, 0, 0, 0, 0, 0, 0, []), (.iload_n 2, 21, 2, 0, 0, 0, 0, 0, 0, []), (.invokevirtual 210, 24, 57, 3, 1, 6, 694, 0, 0, []), (.goto 5, 27, 29, 0, 0, 0, 0, 0, 0, []), (.bipush (-2), 29, 0, 0, 0, 0, 0, (-2), 0, []), (.ireturn, 30, 0, 0, 0, 0, 0, 0, 0, [])]
set_option maxRecDepth 100000 in
theorem zk_X11_bitsAt_0 : zOks nX11_bitsAt zo_X11_bitsAt_0 0 = true := by decide +kernel
def zm_X11_bitsAt : List (Nat × List Bool) := [(0, [true, true, true])]
set_option maxRecDepth 100000 in
set_option maxHeartbeats 4000000 in
theorem zr_X11_bitsAt_0 {C : zCa} {post : zPo} {X : zX} (hX : zClosed none C post nX11_bitsAt X) (p0 : Int32) (p1 : Int32) (σ : zS) (h : C nX11_isFrame [.ref 0, .int p0] σ (zPI fun x2 σ1 => zIf ((x2 : Int32) = 0) (post (some (.int (-2))) σ1) (C nX11_isQuantizer [.int p1] σ1 (zPI fun x4 σ3 => zIf ((x4 : Int32) = 0) (post (some (.int (-2))) σ3) (C nX6_bitsOf [.ref 24, .int p0, .int p1] σ3 (zPI fun x6 σ5 => post (some (.int x6)) σ5)))))) : X 0 [some (.ref 0), some (.int p0), some (.int p1)] [] σ := zSeq_ok hX zm_X11_bitsAt zo_X11_bitsAt_0 0 0 _ _ _ zk_X11_bitsAt_0 h
theorem ze_X11_bitsAt {d : Nat} {post : zPo} (p0 : Int32) (p1 : Int32) (σ : zS) (h : ∀ X : zX, zClosed none (zCall d) post nX11_bitsAt X → X 0 [some (.ref 0), some (.int p0), some (.int p1)] [] σ) : zCall (d + 1) nX11_bitsAt [.ref 0, .int p0, .int p1] σ post := h
-- X11_bitsOfScene(0,) depth 3
def zo_X11_bitsOfScene_0 : List zOp := [(.iconst 0, 1, 0, 0, 0, 0, 0, 0, 0, []), (.istore_n 2, 2, 2, 0, 0, 0, 0, 0, 0, []), (.iconst 0, 3, 0, 0, 0, 0, 0, 0, 0, []), (.istore_n 3, 4, 3, 0, 0, 0, 0, 0, 0, [])]
set_option maxRecDepth 100000 in
theorem zk_X11_bitsOfScene_0 : zOks nX11_bitsOfScene zo_X11_bitsOfScene_0 0 = true := by decide +kernel
def zo_X11_bitsOfScene_4 : List zOp := [(.iload_n 3, 5, 3, 0, 0, 0, 0, 0, 0, []), (.aload_n 0, 6, 0, 0, 0, 0, 0, 0, 0, []), (.getfield 10, 9, 11, 0, 0, 0, 469, 0, 0, []), (.getfield 101, 12, 0, 0, 1, 0, 101, 0, 0, []), (.if_icmp .ge 46, 15, 58, 0, 0, 0, 0, 0, 0, []), (.aload_n 0, 16, 0, 0, 0, 0, 0, 0, 0, []), (.getfield 40, 19, 11, 4, 0, 0, 473, 0, 0, []), (.getfield 156, 22, 3, 4, 0, 0, 252, 0, 0, []), (.iload_n 3, 23, 3, 0, 0, 0, 0, 0, 0, []), (.invokestatic 149, 26, 126, 2, 1, 0, 643, 0, 0, []), (.iload_n 1, 27, 1, 0, 0, 0, 0, 0, 0, []), (.if_icmp .ne 25, 30, 52, 0, 0, 0, 0, 0, 0, []), (.iload_n 2, 31, 2, 0, 0, 0, 0, 0, 0, []), (.aload_n 0, 32, 0, 0, 0, 0, 0, 0, 0, []), (.getfield 49, 35, 11, 5, 0, 0, 474, 0, 0, []), (.iload_n 3, 36, 3, 0, 0, 0, 0, 0, 0, []), (.aload_n 0, 37, 0, 0, 0, 0, 0, 0, 0, []), (.getfield 26, 40, 11, 2, 0, 0, 471, 0, 0, []), (.getfield 217, 43, 7, 1, 0, 0, 195, 0, 0, []), (.iload_n 3, 44, 3, 0, 0, 0, 0, 0, 0, []), (.invokestatic 149, 47, 126, 2, 1, 0, 643, 0, 0, []), (.invokevirtual 210, 50, 57, 3, 1, 6, 694, 0, 0, []), (.iadd, 51, 0, 0, 0, 0, 0, 0, 0, []), (.istore_n 2, 52, 2, 0, 0, 0, 0, 0, 0, []), (.iinc 3 1, 55, 3, 0, 0, 0, 0, 1, 0, []), (.goto (-51), 58, 4, 0, 0, 0, 0, 0, 0, []), (.iload_n 2, 59, 2, 0, 0, 0, 0, 0, 0, []), (.ireturn, 60, 0, 0, 0, 0, 0, 0, 0, [])]
set_option maxRecDepth 100000 in
theorem zk_X11_bitsOfScene_4 : zOks nX11_bitsOfScene zo_X11_bitsOfScene_4 4 = true := by decide +kernel
def zm_X11_bitsOfScene : List (Nat × List Bool) := [(0, [true, true, false, false]), (4, [true, true, true, true])]
set_option maxRecDepth 100000 in
set_option maxHeartbeats 4000000 in
theorem zr_X11_bitsOfScene_0 {C : zCa} {post : zPo} {X : zX} (hX : zClosed none C post nX11_bitsOfScene X) (p0 : Int32) (σ : zS) (h : X 4 [some (.ref 0), some (.int p0), some (.int 0), some (.int 0)] [] σ) : X 0 [some (.ref 0), some (.int p0), none, none] [] σ := zSeq_ok hX zm_X11_bitsOfScene zo_X11_bitsOfScene_0 0 0 _ _ _ zk_X11_bitsOfScene_0 h
set_option maxRecDepth 100000 in
set_option maxHeartbeats 4000000 in
theorem zr_X11_bitsOfScene_4 {C : zCa} {post : zPo} {X : zX} (hX : zClosed none C post nX11_bitsOfScene X) (v1 : Int32) (v2 : Int32) (v3 : Int32) (σ : zS) (h : zIf ((v3 : Int32) < (σ.1 1 0)) (C nX11_at [.ref 18, .int v3] σ (zPI fun x2 σ1 => zIf ((x2 : Int32) = v1) (C nX11_at [.ref 10, .int v3] σ1 (zPI fun x4 σ3 => C nX6_bitsOf [.ref 24, .int v3, .int x4] σ3 (zPI fun x6 σ5 => X 4 [some (.ref 0), some (.int v1), some (.int (v2 + x6)), some (.int (v3 + 1))] [] σ5))) (X 4 [some (.ref 0), some (.int v1), some (.int v2), some (.int (v3 + 1))] [] σ1))) (post (some (.int v2)) σ)) : X 4 [some (.ref 0), some (.int v1), some (.int v2), some (.int v3)] [] σ := zSeq_ok hX zm_X11_bitsOfScene zo_X11_bitsOfScene_4 4 4 _ _ _ zk_X11_bitsOfScene_4 h
theorem ze_X11_bitsOfScene {d : Nat} {post : zPo} (p0 : Int32) (σ : zS) (h : ∀ X : zX, zClosed none (zCall d) post nX11_bitsOfScene X → X 0 [some (.ref 0), some (.int p0), none, none] [] σ) : zCall (d + 1) nX11_bitsOfScene [.ref 0, .int p0] σ post := h
-- X11_changesOfPlan(0,) depth 2
def zo_X11_changesOfPlan_0 : List zOp := [(.lconst 0, 1, 0, 0, 0, 0, 0, 0, 0, []), (.lstore_n 1, 2, 1, 0, 0, 0, 0, 0, 0, []), (.iconst 1, 3, 0, 0, 0, 0, 0, 1, 0, []), (.istore_n 3, 4, 3, 0, 0, 0, 0, 0, 0, [])]
set_option maxRecDepth 100000 in
theorem zk_X11_changesOfPlan_0 : zOks nX11_changesOfPlan zo_X11_changesOfPlan_0 0 = true := by decide +kernel
def zo_X11_changesOfPlan_4 : List zOp := [(.iload_n 3, 5, 3, 0, 0, 0, 0, 0, 0, []), (.aload_n 0, 6, 0, 0, 0, 0, 0, 0, 0, []), (.getfield 10, 9, 11, 0, 0, 0, 469, 0, 0, []), (.getfield 101, 12, 0, 0, 1, 0, 101, 0, 0, []), (.if_icmp .ge 65, 15, 77, 0, 0, 0, 0, 0, 0, []), (.aload_n 0, 16, 0, 0, 0, 0, 0, 0, 0, []), (.getfield 26, 19, 11, 2, 0, 0, 471, 0, 0, []), (.getfield 217, 22, 7, 1, 0, 0, 195, 0, 0, []), (.aload_n 0, 23, 0, 0, 0, 0, 0, 0, 0, []), (.getfield 40, 26, 11, 4, 0, 0, 473, 0, 0, []), (.getfield 171, 29, 3, 9, 0, 0, 267, 0, 0, []), (.iload_n 3, 30, 3, 0, 0, 0, 0, 0, 0, []), (.iconst 1, 31, 0, 0, 0, 0, 0, 1, 0, []), (.isub, 32, 0, 0, 0, 0, 0, 0, 0, []), (.invokestatic 149, 35, 126, 2, 1, 0, 643, 0, 0, []), (.invokestatic 149, 38, 126, 2, 1, 0, 643, 0, 0, []), (.istore 4, 40, 4, 0, 0, 0, 0, 0, 0, []), (.lload_n 1, 41, 1, 0, 0, 0, 0, 0, 0, []), (.aload_n 0, 42, 0, 0, 0, 0, 0, 0, 0, []), (.getfield 26, 45, 11, 2, 0, 0, 471, 0, 0, []), (.getfield 217, 48, 7, 1, 0, 0, 195, 0, 0, []), (.aload_n 0, 49, 0, 0, 0, 0, 0, 0, 0, []), (.getfield 40, 52, 11, 4, 0, 0, 473, 0, 0, []), (.getfield 171, 55, 3, 9, 0, 0, 267, 0, 0, []), (.iload_n 3, 56, 3, 0, 0, 0, 0, 0, 0, []), (.invokestatic 149, 59, 126, 2, 1, 0, 643, 0, 0, []), (.invokestatic 149, 62, 126, 2, 1, 0, 643, 0, 0, []), (.iload 4, 64, 4, 0, 0, 0, 0, 0, 0, []), (.isub, 65, 0, 0, 0, 0, 0, 0, 0, []), (.invokestatic 359, 68, 0, 0, 0, 3, 924, 0, 0, []), (.i2l, 69, 0, 0, 0, 0, 0, 0, 0, []), (.ladd, 70, 0, 0, 0, 0, 0, 0, 0, []), (.lstore_n 1, 71, 1, 0, 0, 0, 0, 0, 0, []), (.iinc 3 1, 74, 3, 0, 0, 0, 0, 1, 0, []), (.goto (-70), 77, 4, 0, 0, 0, 0, 0, 0, []), (.lload_n 1, 78, 1, 0, 0, 0, 0, 0, 0, []), (.lreturn, 79, 0, 0, 0, 0, 0, 0, 0, [])]
set_option maxRecDepth 100000 in
theorem zk_X11_changesOfPlan_4 : zOks nX11_changesOfPlan zo_X11_changesOfPlan_4 4 = true := by decide +kernel
def zm_X11_changesOfPlan : List (Nat × List Bool) := [(0, [true, false, false, false, false]), (4, [true, true, false, true, false])]
set_option maxRecDepth 100000 in
set_option maxHeartbeats 4000000 in
theorem zr_X11_changesOfPlan_0 {C : zCa} {post : zPo} {X : zX} (hX : zClosed none C post nX11_changesOfPlan X) (σ : zS) (h : X 4 [some (.ref 0), some (.long 0), none, some (.int 1), none] [] σ) : X 0 [some (.ref 0), none, none, none, none] [] σ := zSeq_ok hX zm_X11_changesOfPlan zo_X11_changesOfPlan_0 0 0 _ _ _ zk_X11_changesOfPlan_0 h
set_option maxRecDepth 100000 in
set_option maxHeartbeats 4000000 in
theorem zr_X11_changesOfPlan_4 {C : zCa} {post : zPo} {X : zX} (hX : zClosed none C post nX11_changesOfPlan X) (v1 : Int64) (v3 : Int32) (σ : zS) (h : zIf ((v3 : Int32) < (σ.1 1 0)) (C nX11_at [.ref 23, .int (v3 - 1)] σ (zPI fun x2 σ1 => C nX11_at [.ref 10, .int x2] σ1 (zPI fun x4 σ3 => C nX11_at [.ref 23, .int v3] σ3 (zPI fun x6 σ5 => C nX11_at [.ref 10, .int x6] σ5 (zPI fun x8 σ7 => X 4 [some (.ref 0), some (.long (v1 + (Int32.toInt64 (if (0 : Int32) ≤ (x8 - x4) then x8 - x4 else 0 - (x8 - x4))))), none, some (.int (v3 + 1)), none] [] σ7))))) (post (some (.long v1)) σ)) : X 4 [some (.ref 0), some (.long v1), none, some (.int v3), none] [] σ := zSeq_ok hX zm_X11_changesOfPlan zo_X11_changesOfPlan_4 4 4 _ _ _ zk_X11_changesOfPlan_4 h
theorem ze_X11_changesOfPlan {d : Nat} {post : zPo} (σ : zS) (h : ∀ X : zX, zClosed none (zCall d) post nX11_changesOfPlan X → X 0 [some (.ref 0), none, none, none, none] [] σ) : zCall (d + 1) nX11_changesOfPlan [.ref 0] σ post := h
-- X11_clear(0,) depth 1
def zo_X11_clear_0 : List zOp := [(.aload_n 0, 1, 0, 0, 0, 0, 0, 0, 0, []), (.getfield 33, 4, 11, 3, 0, 0, 472, 0, 0, []), (.getfield 134, 7, 10, 0, 1, 0, 210, 0, 0, []), (.istore_n 1, 8, 1, 0, 0, 0, 0, 0, 0, []), (.aload_n 0, 9, 0, 0, 0, 0, 0, 0, 0, []), (.getfield 33, 12, 11, 3, 0, 0, 472, 0, 0, []), (.iconst 0, 13, 0, 0, 0, 0, 0, 0, 0, []), (.putfield 134, 16, 10, 0, 1, 0, 210, 0, 0, []), (.iload_n 1, 17, 1, 0, 0, 0, 0, 0, 0, []), (.ireturn, 18, 0, 0, 0, 0, 0, 0, 0, [])]
set_option maxRecDepth 100000 in
theorem zk_X11_clear_0 : zOks nX11_clear zo_X11_clear_0 0 = true := by decide +kernel
def zm_X11_clear : List (Nat × List Bool) := [(0, [true, false])]
set_option maxRecDepth 100000 in
set_option maxHeartbeats 4000000 in
theorem zr_X11_clear_0 {C : zCa} {post : zPo} {X : zX} (hX : zClosed none C post nX11_clear X) (σ : zS) (h : post (some (.int (σ.1 11 0))) (zSI σ 11 0 0)) : X 0 [some (.ref 0), none] [] σ := zSeq_ok hX zm_X11_clear zo_X11_clear_0 0 0 _ _ _ zk_X11_clear_0 h
theorem ze_X11_clear {d : Nat} {post : zPo} (σ : zS) (h : ∀ X : zX, zClosed none (zCall d) post nX11_clear X → X 0 [some (.ref 0), none] [] σ) : zCall (d + 1) nX11_clear [.ref 0] σ post := h
-- X11_clearZones(0,) depth 1
def zo_X11_clearZones_0 : List zOp := [(.aload_n 0, 1, 0, 0, 0, 0, 0, 0, 0, []), (.getfield 19, 4, 11, 1, 0, 0, 470, 0, 0, []), (.getfield 203, 7, 8, 7, 1, 0, 154, 0, 0, []), (.istore_n 1, 8, 1, 0, 0, 0, 0, 0, 0, []), (.aload_n 0, 9, 0, 0, 0, 0, 0, 0, 0, []), (.getfield 19, 12, 11, 1, 0, 0, 470, 0, 0, []), (.iconst 0, 13, 0, 0, 0, 0, 0, 0, 0, []), (.putfield 203, 16, 8, 7, 1, 0, 154, 0, 0, []), (.iload_n 1, 17, 1, 0, 0, 0, 0, 0, 0, []), (.ireturn, 18, 0, 0, 0, 0, 0, 0, 0, [])]
set_option maxRecDepth 100000 in
theorem zk_X11_clearZones_0 : zOks nX11_clearZones zo_X11_clearZones_0 0 = true := by decide +kernel
def zm_X11_clearZones : List (Nat × List Bool) := [(0, [true, false])]
set_option maxRecDepth 100000 in
set_option maxHeartbeats 4000000 in
theorem zr_X11_clearZones_0 {C : zCa} {post : zPo} {X : zX} (hX : zClosed none C post nX11_clearZones X) (σ : zS) (h : post (some (.int (σ.1 4 7))) (zSI σ 4 7 0)) : X 0 [some (.ref 0), none] [] σ := zSeq_ok hX zm_X11_clearZones zo_X11_clearZones_0 0 0 _ _ _ zk_X11_clearZones_0 h
theorem ze_X11_clearZones {d : Nat} {post : zPo} (σ : zS) (h : ∀ X : zX, zClosed none (zCall d) post nX11_clearZones X → X 0 [some (.ref 0), none] [] σ) : zCall (d + 1) nX11_clearZones [.ref 0] σ post := h
-- X11_coded(0,) depth 3
def zo_X11_coded_0 : List zOp := [(.aload_n 0, 1, 0, 0, 0, 0, 0, 0, 0, []), (.iload_n 1, 2, 1, 0, 0, 0, 0, 0, 0, []), (.invokevirtual 112, 5, 121, 2, 1, 11, 572, 0, 0, []), (.ifCond .eq 17, 8, 22, 0, 0, 0, 0, 0, 0, []), (.aload_n 0, 9, 0, 0, 0, 0, 0, 0, 0, []), (.getfield 40, 12, 11, 4, 0, 0, 473, 0, 0, []), (.getfield 171, 15, 3, 9, 0, 0, 267, 0, 0, []), (.iload_n 1, 16, 1, 0, 0, 0, 0, 0, 0, []), (.invokestatic 149, 19, 126, 2, 1, 0, 643, 0, 0, []), (.goto 5, 22, 24, 0, 0, 0, 0, 0, 0, []), (.bipush (-2), 24, 0, 0, 0, 0, 0, (-2), 0, []), (.ireturn, 25, 0, 0, 0, 0, 0, 0, 0, [])]
set_option maxRecDepth 100000 in
theorem zk_X11_coded_0 : zOks nX11_coded zo_X11_coded_0 0 = true := by decide +kernel
def zm_X11_coded : List (Nat × List Bool) := [(0, [true, true])]
set_option maxRecDepth 100000 in
set_option maxHeartbeats 4000000 in
theorem zr_X11_coded_0 {C : zCa} {post : zPo} {X : zX} (hX : zClosed none C post nX11_coded X) (p0 : Int32) (σ : zS) (h : C nX11_isFrame [.ref 0, .int p0] σ (zPI fun x2 σ1 => zIf ((x2 : Int32) = 0) (post (some (.int (-2))) σ1) (C nX11_at [.ref 23, .int p0] σ1 (zPI fun x4 σ3 => post (some (.int x4)) σ3)))) : X 0 [some (.ref 0), some (.int p0)] [] σ := zSeq_ok hX zm_X11_coded zo_X11_coded_0 0 0 _ _ _ zk_X11_coded_0 h
theorem ze_X11_coded {d : Nat} {post : zPo} (p0 : Int32) (σ : zS) (h : ∀ X : zX, zClosed none (zCall d) post nX11_coded X → X 0 [some (.ref 0), some (.int p0)] [] σ) : zCall (d + 1) nX11_coded [.ref 0, .int p0] σ post := h
-- X11_underflowsOfNewPlan(0,) depth 6
def zo_X11_underflowsOfNewPlan_0 : List zOp := [(.aload_n 0, 1, 0, 0, 0, 0, 0, 0, 0, []), (.getfield 26, 4, 11, 2, 0, 0, 471, 0, 0, []), (.iconst 1, 5, 0, 0, 0, 0, 0, 1, 0, []), (.putfield 234, 8, 7, 0, 2, 0, 193, 0, 0, []), (.aload_n 0, 9, 0, 0, 0, 0, 0, 0, 0, []), (.getfield 58, 12, 11, 6, 0, 0, 475, 0, 0, []), (.aload_n 0, 13, 0, 0, 0, 0, 0, 0, 0, []), (.getfield 26, 16, 11, 2, 0, 0, 471, 0, 0, []), (.getfield 217, 19, 7, 1, 0, 0, 195, 0, 0, []), (.invokevirtual 248, 22, 5, 2, 0, 1, 743, 0, 0, []), (.aload_n 0, 23, 0, 0, 0, 0, 0, 0, 0, []), (.getfield 58, 26, 11, 6, 0, 0, 475, 0, 0, []), (.getfield 337, 29, 1, 0, 1, 0, 327, 0, 0, []), (.ireturn, 30, 0, 0, 0, 0, 0, 0, 0, [])]
set_option maxRecDepth 100000 in
theorem zk_X11_underflowsOfNewPlan_0 : zOks nX11_underflowsOfNewPlan zo_X11_underflowsOfNewPlan_0 0 = true := by decide +kernel
def zm_X11_underflowsOfNewPlan : List (Nat × List Bool) := [(0, [true])]
set_option maxRecDepth 100000 in
set_option maxHeartbeats 4000000 in
theorem zr_X11_underflowsOfNewPlan_0 {C : zCa} {post : zPo} {X : zX} (hX : zClosed none C post nX11_underflowsOfNewPlan X) (σ : zS) (h : C nX1_follow [.ref 26, .ref 10] (zSI σ 9 0 1) (zPV fun σ1 => post (some (.int (σ1.1 26 0))) σ1)) : X 0 [some (.ref 0)] [] σ := zSeq_ok hX zm_X11_underflowsOfNewPlan zo_X11_underflowsOfNewPlan_0 0 0 _ _ _ zk_X11_underflowsOfNewPlan_0 h
theorem ze_X11_underflowsOfNewPlan {d : Nat} {post : zPo} (σ : zS) (h : ∀ X : zX, zClosed none (zCall d) post nX11_underflowsOfNewPlan X → X 0 [some (.ref 0)] [] σ) : zCall (d + 1) nX11_underflowsOfNewPlan [.ref 0] σ post := h
-- X11_constant(0,) depth 7
def zo_X11_constant_0 : List zOp := [(.iload_n 1, 1, 1, 0, 0, 0, 0, 0, 0, []), (.invokestatic 183, 4, 123, 1, 1, 0, 664, 0, 0, []), (.ifCond .ne 6, 7, 10, 0, 0, 0, 0, 0, 0, []), (.bipush (-2), 9, 0, 0, 0, 0, 0, (-2), 0, []), (.ireturn, 10, 0, 0, 0, 0, 0, 0, 0, []), (.aload_n 0, 11, 0, 0, 0, 0, 0, 0, 0, []), (.getfield 10, 14, 11, 0, 0, 0, 469, 0, 0, []), (.getfield 101, 17, 0, 0, 1, 0, 101, 0, 0, []), (.ifCond .ne 6, 20, 23, 0, 0, 0, 0, 0, 0, []), (.bipush (-3), 22, 0, 0, 0, 0, 0, (-3), 0, []), (.ireturn, 23, 0, 0, 0, 0, 0, 0, 0, []), (.aload_n 0, 24, 0, 0, 0, 0, 0, 0, 0, []), (.getfield 67, 27, 11, 7, 0, 0, 476, 0, 0, []), (.aload_n 0, 28, 0, 0, 0, 0, 0, 0, 0, []), (.getfield 26, 31, 11, 2, 0, 0, 471, 0, 0, []), (.getfield 217, 34, 7, 1, 0, 0, 195, 0, 0, []), (.iload_n 1, 35, 1, 0, 0, 0, 0, 0, 0, []), (.invokevirtual 220, 38, 37, 3, 0, 4, 717, 0, 0, []), (.aload_n 0, 39, 0, 0, 0, 0, 0, 0, 0, []), (.invokevirtual 224, 42, 115, 1, 1, 11, 739, 0, 0, []), (.ireturn, 43, 0, 0, 0, 0, 0, 0, 0, [])]
set_option maxRecDepth 100000 in
theorem zk_X11_constant_0 : zOks nX11_constant zo_X11_constant_0 0 = true := by decide +kernel
def zm_X11_constant : List (Nat × List Bool) := [(0, [true, true])]
set_option maxRecDepth 100000 in
set_option maxHeartbeats 4000000 in
theorem zr_X11_constant_0 {C : zCa} {post : zPo} {X : zX} (hX : zClosed none C post nX11_constant X) (p0 : Int32) (σ : zS) (h : C nX11_isQuantizer [.int p0] σ (zPI fun x2 σ1 => zIf ((x2 : Int32) = 0) (post (some (.int (-2))) σ1) (zIf ((σ1.1 1 0 : Int32) = 0) (post (some (.int (-3))) σ1) (C nX4_planConstant [.ref 32, .ref 10, .int p0] σ1 (zPV fun σ3 => C nX11_underflowsOfNewPlan [.ref 0] σ3 (zPI fun x5 σ4 => post (some (.int x5)) σ4)))))) : X 0 [some (.ref 0), some (.int p0)] [] σ := zSeq_ok hX zm_X11_constant zo_X11_constant_0 0 0 _ _ _ zk_X11_constant_0 h
theorem ze_X11_constant {d : Nat} {post : zPo} (p0 : Int32) (σ : zS) (h : ∀ X : zX, zClosed none (zCall d) post nX11_constant X → X 0 [some (.ref 0), some (.int p0)] [] σ) : zCall (d + 1) nX11_constant [.ref 0, .int p0] σ post := h
-- X11_control(0,) depth 7
def zo_X11_control_0 : List zOp := [(.iload_n 1, 1, 1, 0, 0, 0, 0, 0, 0, []), (.invokestatic 183, 4, 123, 1, 1, 0, 664, 0, 0, []), (.ifCond .eq 14, 7, 18, 0, 0, 0, 0, 0, 0, []), (.iload_n 2, 8, 2, 0, 0, 0, 0, 0, 0, []), (.iconst 0, 9, 0, 0, 0, 0, 0, 0, 0, []), (.sipush 200, 12, 0, 0, 0, 0, 0, 200, 0, []), (.invokestatic 130, 15, 124, 3, 1, 0, 513, 0, 0, []), (.ifCond .ne 6, 18, 21, 0, 0, 0, 0, 0, 0, []), (.bipush (-2), 20, 0, 0, 0, 0, 0, (-2), 0, []), (.ireturn, 21, 0, 0, 0, 0, 0, 0, 0, []), (.aload_n 0, 22, 0, 0, 0, 0, 0, 0, 0, []), (.getfield 10, 25, 11, 0, 0, 0, 469, 0, 0, []), (.getfield 101, 28, 0, 0, 1, 0, 101, 0, 0, []), (.ifCond .ne 6, 31, 34, 0, 0, 0, 0, 0, 0, []), (.bipush (-3), 33, 0, 0, 0, 0, 0, (-3), 0, []), (.ireturn, 34, 0, 0, 0, 0, 0, 0, 0, []), (.aload_n 0, 35, 0, 0, 0, 0, 0, 0, 0, []), (.getfield 67, 38, 11, 7, 0, 0, 476, 0, 0, []), (.aload_n 0, 39, 0, 0, 0, 0, 0, 0, 0, []), (.getfield 26, 42, 11, 2, 0, 0, 471, 0, 0, []), (.getfield 217, 45, 7, 1, 0, 0, 195, 0, 0, []), (.iload_n 1, 46, 1, 0, 0, 0, 0, 0, 0, []), (.iload_n 2, 47, 2, 0, 0, 0, 0, 0, 0, []), (.invokevirtual 227, 50, 38, 4, 0, 4, 780, 0, 0, []), (.aload_n 0, 51, 0, 0, 0, 0, 0, 0, 0, []), (.invokevirtual 224, 54, 115, 1, 1, 11, 739, 0, 0, []), (.ireturn, 55, 0, 0, 0, 0, 0, 0, 0, [])]
set_option maxRecDepth 100000 in
theorem zk_X11_control_0 : zOks nX11_control zo_X11_control_0 0 = true := by decide +kernel
def zm_X11_control : List (Nat × List Bool) := [(0, [true, true, true])]
set_option maxRecDepth 100000 in
set_option maxHeartbeats 4000000 in
theorem zr_X11_control_0 {C : zCa} {post : zPo} {X : zX} (hX : zClosed none C post nX11_control X) (p0 : Int32) (p1 : Int32) (σ : zS) (h : C nX11_isQuantizer [.int p0] σ (zPI fun x2 σ1 => zIf ((x2 : Int32) = 0) (post (some (.int (-2))) σ1) (C nX11_within [.int p1, .int 0, .int 200] σ1 (zPI fun x4 σ3 => zIf ((x4 : Int32) = 0) (post (some (.int (-2))) σ3) (zIf ((σ3.1 1 0 : Int32) = 0) (post (some (.int (-3))) σ3) (C nX4_planControlled [.ref 32, .ref 10, .int p0, .int p1] σ3 (zPV fun σ5 => C nX11_underflowsOfNewPlan [.ref 0] σ5 (zPI fun x7 σ6 => post (some (.int x7)) σ6)))))))) : X 0 [some (.ref 0), some (.int p0), some (.int p1)] [] σ := zSeq_ok hX zm_X11_control zo_X11_control_0 0 0 _ _ _ zk_X11_control_0 h
theorem ze_X11_control {d : Nat} {post : zPo} (p0 : Int32) (p1 : Int32) (σ : zS) (h : ∀ X : zX, zClosed none (zCall d) post nX11_control X → X 0 [some (.ref 0), some (.int p0), some (.int p1)] [] σ) : zCall (d + 1) nX11_control [.ref 0, .int p0, .int p1] σ post := h
-- X11_count(0,) depth 1
def zo_X11_count_0 : List zOp := [(.iload_n 1, 1, 1, 0, 0, 0, 0, 0, 0, []), (.tableswitch 155 0 10 #[59, 67, 75, 83, 99, 107, 115, 123, 131, 139, 147], 60, 156, 0, 0, 0, 0, 0, 0, [(0, 60), (1, 68), (2, 76), (3, 84), (4, 100), (5, 108), (6, 116), (7, 124), (8, 132), (9, 140), (10, 148)]), (.aload_n 0, 61, 0, 0, 0, 0, 0, 0, 0, []), (.getfield 10, 64, 11, 0, 0, 0, 469, 0, 0, []), (.getfield 101, 67, 0, 0, 1, 0, 101, 0, 0, []), (.ireturn, 68, 0, 0, 0, 0, 0, 0, 0, []), (.aload_n 0, 69, 0, 0, 0, 0, 0, 0, 0, []), (.getfield 40, 72, 11, 4, 0, 0, 473, 0, 0, []), (.getfield 263, 75, 3, 1, 1, 0, 242, 0, 0, []), (.ireturn, 76, 0, 0, 0, 0, 0, 0, 0, []), (.aload_n 0, 77, 0, 0, 0, 0, 0, 0, 0, []), (.getfield 40, 80, 11, 4, 0, 0, 473, 0, 0, []), (.getfield 310, 83, 3, 2, 1, 0, 244, 0, 0, []), (.ireturn, 84, 0, 0, 0, 0, 0, 0, 0, []), (.aload_n 0, 85, 0, 0, 0, 0, 0, 0, 0, []), (.getfield 26, 88, 11, 2, 0, 0, 471, 0, 0, []), (.getfield 234, 91, 7, 0, 2, 0, 193, 0, 0, []), (.ifCond .eq 7, 94, 98, 0, 0, 0, 0, 0, 0, []), (.iconst 1, 95, 0, 0, 0, 0, 0, 1, 0, []), (.goto 4, 98, 99, 0, 0, 0, 0, 0, 0, []), (.iconst 0, 99, 0, 0, 0, 0, 0, 0, 0, []), (.ireturn, 100, 0, 0, 0, 0, 0, 0, 0, []), (.aload_n 0, 101, 0, 0, 0, 0, 0, 0, 0, []), (.getfield 19, 104, 11, 1, 0, 0, 470, 0, 0, []), (.getfield 203, 107, 8, 7, 1, 0, 154, 0, 0, []), (.ireturn, 108, 0, 0, 0, 0, 0, 0, 0, []), (.aload_n 0, 109, 0, 0, 0, 0, 0, 0, 0, []), (.getfield 19, 112, 11, 1, 0, 0, 470, 0, 0, []), (.getfield 174, 115, 8, 0, 1, 0, 126, 0, 0, []), (.ireturn, 116, 0, 0, 0, 0, 0, 0, 0, []), (.aload_n 0, 117, 0, 0, 0, 0, 0, 0, 0, []), (.getfield 19, 120, 11, 1, 0, 0, 470, 0, 0, []), (.getfield 177, 123, 8, 1, 1, 0, 129, 0, 0, []), (.ireturn, 124, 0, 0, 0, 0, 0, 0, 0, []), (.aload_n 0, 125, 0, 0, 0, 0, 0, 0, 0, []), (.getfield 19, 128, 11, 1, 0, 0, 470, 0, 0, []), (.getfield 193, 131, 8, 4, 1, 0, 142, 0, 0, []), (.ireturn, 132, 0, 0, 0, 0, 0, 0, 0, []), (.aload_n 0, 133, 0, 0, 0, 0, 0, 0, 0, []), (.getfield 19, 136, 11, 1, 0, 0, 470, 0, 0, []), (.getfield 196, 139, 8, 5, 1, 0, 147, 0, 0, []), (.ireturn, 140, 0, 0, 0, 0, 0, 0, 0, []), (.aload_n 0, 141, 0, 0, 0, 0, 0, 0, 0, []), (.getfield 19, 144, 11, 1, 0, 0, 470, 0, 0, []), (.getfield 200, 147, 8, 6, 1, 0, 152, 0, 0, []), (.ireturn, 148, 0, 0, 0, 0, 0, 0, 0, []), (.aload_n 0, 149, 0, 0, 0, 0, 0, 0, 0, []), (.getfield 33, 152, 11, 3, 0, 0, 472, 0, 0, []), (.getfield 134, 155, 10, 0, 1, 0, 210, 0, 0, []), (.ireturn, 156, 0, 0, 0, 0, 0, 0, 0, []), (.bipush (-2), 158, 0, 0, 0, 0, 0, (-2), 0, []), (.ireturn, 159, 0, 0, 0, 0, 0, 0, 0, [])]
set_option maxRecDepth 100000 in
theorem zk_X11_count_0 : zOks nX11_count zo_X11_count_0 0 = true := by decide +kernel
def zm_X11_count : List (Nat × List Bool) := [(0, [true, true])]
set_option maxRecDepth 100000 in
set_option maxHeartbeats 4000000 in
theorem zr_X11_count_0 {C : zCa} {post : zPo} {X : zX} (hX : zClosed none C post nX11_count X) (p0 : Int32) (σ : zS) (h : ((p0 : Int32) = 0 → (post (some (.int (σ.1 1 0))) σ)) ∧ (¬ (p0 : Int32) = 0 → ((p0 : Int32) = 1 → (post (some (.int (σ.1 16 1))) σ)) ∧ (¬ (p0 : Int32) = 1 → ((p0 : Int32) = 2 → (post (some (.int (σ.1 16 2))) σ)) ∧ (¬ (p0 : Int32) = 2 → ((p0 : Int32) = 3 → (zIf ((σ.1 9 0 : Int32) = 0) (post (some (.int 0)) σ) (post (some (.int 1)) σ))) ∧ (¬ (p0 : Int32) = 3 → ((p0 : Int32) = 4 → (post (some (.int (σ.1 4 7))) σ)) ∧ (¬ (p0 : Int32) = 4 → ((p0 : Int32) = 5 → (post (some (.int (σ.1 4 0))) σ)) ∧ (¬ (p0 : Int32) = 5 → ((p0 : Int32) = 6 → (post (some (.int (σ.1 4 1))) σ)) ∧ (¬ (p0 : Int32) = 6 → ((p0 : Int32) = 7 → (post (some (.int (σ.1 4 4))) σ)) ∧ (¬ (p0 : Int32) = 7 → ((p0 : Int32) = 8 → (post (some (.int (σ.1 4 5))) σ)) ∧ (¬ (p0 : Int32) = 8 → ((p0 : Int32) = 9 → (post (some (.int (σ.1 4 6))) σ)) ∧ (¬ (p0 : Int32) = 9 → ((p0 : Int32) = 10 → (post (some (.int (σ.1 11 0))) σ)) ∧ (¬ (p0 : Int32) = 10 → post (some (.int (-2))) σ)))))))))))) : X 0 [some (.ref 0), some (.int p0)] [] σ := zSeq_ok hX zm_X11_count zo_X11_count_0 0 0 _ _ _ zk_X11_count_0 h
theorem ze_X11_count {d : Nat} {post : zPo} (p0 : Int32) (σ : zS) (h : ∀ X : zX, zClosed none (zCall d) post nX11_count X → X 0 [some (.ref 0), some (.int p0)] [] σ) : zCall (d + 1) nX11_count [.ref 0, .int p0] σ post := h
-- X11_demand(0,) depth 5
def zo_X11_demand_0 : List zOp := [(.aload_n 0, 1, 0, 0, 0, 0, 0, 0, 0, []), (.iload_n 1, 2, 1, 0, 0, 0, 0, 0, 0, []), (.invokevirtual 112, 5, 121, 2, 1, 11, 572, 0, 0, []), (.ifCond .eq 20, 8, 25, 0, 0, 0, 0, 0, 0, []), (.iload_n 2, 9, 2, 0, 0, 0, 0, 0, 0, []), (.iload_n 1, 10, 1, 0, 0, 0, 0, 0, 0, []), (.aload_n 0, 11, 0, 0, 0, 0, 0, 0, 0, []), (.getfield 10, 14, 11, 0, 0, 0, 469, 0, 0, []), (.getfield 101, 17, 0, 0, 1, 0, 101, 0, 0, []), (.iconst 1, 18, 0, 0, 0, 0, 0, 1, 0, []), (.isub, 19, 0, 0, 0, 0, 0, 0, 0, []), (.invokestatic 130, 22, 124, 3, 1, 0, 513, 0, 0, []), (.ifCond .ne 6, 25, 28, 0, 0, 0, 0, 0, 0, []), (.bipush (-2), 27, 0, 0, 0, 0, 0, (-2), 0, []), (.ireturn, 28, 0, 0, 0, 0, 0, 0, 0, []), (.aload_n 0, 29, 0, 0, 0, 0, 0, 0, 0, []), (.getfield 26, 32, 11, 2, 0, 0, 471, 0, 0, []), (.getfield 234, 35, 7, 0, 2, 0, 193, 0, 0, []), (.ifCond .eq 22, 38, 57, 0, 0, 0, 0, 0, 0, []), (.aload_n 0, 39, 0, 0, 0, 0, 0, 0, 0, []), (.getfield 83, 42, 11, 9, 0, 0, 478, 0, 0, []), (.aload_n 0, 43, 0, 0, 0, 0, 0, 0, 0, []), (.getfield 26, 46, 11, 2, 0, 0, 471, 0, 0, []), (.getfield 217, 49, 7, 1, 0, 0, 195, 0, 0, []), (.iload_n 1, 50, 1, 0, 0, 0, 0, 0, 0, []), (.iload_n 2, 51, 2, 0, 0, 0, 0, 0, 0, []), (.invokevirtual 294, 54, 22, 4, 1, 2, 1002, 0, 0, []), (.goto 5, 57, 59, 0, 0, 0, 0, 0, 0, []), (.bipush (-3), 59, 0, 0, 0, 0, 0, (-3), 0, []), (.ireturn, 60, 0, 0, 0, 0, 0, 0, 0, [])]
set_option maxRecDepth 100000 in
theorem zk_X11_demand_0 : zOks nX11_demand zo_X11_demand_0 0 = true := by decide +kernel
def zm_X11_demand : List (Nat × List Bool) := [(0, [true, true, true])]
set_option maxRecDepth 100000 in
set_option maxHeartbeats 4000000 in
theorem zr_X11_demand_0 {C : zCa} {post : zPo} {X : zX} (hX : zClosed none C post nX11_demand X) (p0 : Int32) (p1 : Int32) (σ : zS) (h : C nX11_isFrame [.ref 0, .int p0] σ (zPI fun x2 σ1 => zIf ((x2 : Int32) = 0) (post (some (.int (-2))) σ1) (C nX11_within [.int p1, .int p0, .int ((σ1.1 1 0) - 1)] σ1 (zPI fun x4 σ3 => zIf ((x4 : Int32) = 0) (post (some (.int (-2))) σ3) (zIf ((σ3.1 9 0 : Int32) = 0) (post (some (.int (-3))) σ3) (C nX2_findDemand [.ref 39, .ref 10, .int p0, .int p1] σ3 (zPI fun x6 σ5 => post (some (.int x6)) σ5))))))) : X 0 [some (.ref 0), some (.int p0), some (.int p1)] [] σ := zSeq_ok hX zm_X11_demand zo_X11_demand_0 0 0 _ _ _ zk_X11_demand_0 h
theorem ze_X11_demand {d : Nat} {post : zPo} (p0 : Int32) (p1 : Int32) (σ : zS) (h : ∀ X : zX, zClosed none (zCall d) post nX11_demand X → X 0 [some (.ref 0), some (.int p0), some (.int p1)] [] σ) : zCall (d + 1) nX11_demand [.ref 0, .int p0, .int p1] σ post := h
-- X11_followedFrame(0,) depth 4
def zo_X11_followedFrame_0 : List zOp := [(.aload_n 0, 1, 0, 0, 0, 0, 0, 0, 0, []), (.getfield 26, 4, 11, 2, 0, 0, 471, 0, 0, []), (.getfield 217, 7, 7, 1, 0, 0, 195, 0, 0, []), (.iload_n 1, 8, 1, 0, 0, 0, 0, 0, 0, []), (.invokestatic 149, 11, 126, 2, 1, 0, 643, 0, 0, []), (.istore_n 3, 12, 3, 0, 0, 0, 0, 0, 0, []), (.aload_n 0, 13, 0, 0, 0, 0, 0, 0, 0, []), (.getfield 40, 16, 11, 4, 0, 0, 473, 0, 0, []), (.getfield 159, 19, 3, 8, 0, 0, 262, 0, 0, []), (.iload_n 1, 20, 1, 0, 0, 0, 0, 0, 0, []), (.invokestatic 149, 23, 126, 2, 1, 0, 643, 0, 0, []), (.istore 4, 25, 4, 0, 0, 0, 0, 0, 0, []), (.iload_n 2, 26, 2, 0, 0, 0, 0, 0, 0, []), (.tableswitch 102 0 5 #[38, 40, 53, 63, 76, 89], 64, 128, 0, 0, 0, 0, 0, 0, [(0, 64), (1, 66), (2, 79), (3, 89), (4, 102), (5, 115)]), (.iload_n 3, 65, 3, 0, 0, 0, 0, 0, 0, []), (.ireturn, 66, 0, 0, 0, 0, 0, 0, 0, []), (.aload_n 0, 67, 0, 0, 0, 0, 0, 0, 0, []), (.getfield 58, 70, 11, 6, 0, 0, 475, 0, 0, []), (.getfield 340, 73, 1, 1, 0, 0, 331, 0, 0, []), (.iload 4, 75, 4, 0, 0, 0, 0, 0, 0, []), (.invokestatic 149, 78, 126, 2, 1, 0, 643, 0, 0, []), (.ireturn, 79, 0, 0, 0, 0, 0, 0, 0, []), (.aload_n 0, 80, 0, 0, 0, 0, 0, 0, 0, []), (.getfield 49, 83, 11, 5, 0, 0, 474, 0, 0, []), (.iload_n 1, 84, 1, 0, 0, 0, 0, 0, 0, []), (.iload_n 3, 85, 3, 0, 0, 0, 0, 0, 0, []), (.invokevirtual 214, 88, 58, 3, 1, 6, 705, 0, 0, []), (.ireturn, 89, 0, 0, 0, 0, 0, 0, 0, []), (.aload_n 0, 90, 0, 0, 0, 0, 0, 0, 0, []), (.getfield 58, 93, 11, 6, 0, 0, 475, 0, 0, []), (.getfield 343, 96, 1, 2, 0, 0, 333, 0, 0, []), (.iload 4, 98, 4, 0, 0, 0, 0, 0, 0, []), (.invokestatic 149, 101, 126, 2, 1, 0, 643, 0, 0, []), (.ireturn, 102, 0, 0, 0, 0, 0, 0, 0, []), (.aload_n 0, 103, 0, 0, 0, 0, 0, 0, 0, []), (.getfield 58, 106, 11, 6, 0, 0, 475, 0, 0, []), (.getfield 346, 109, 1, 3, 0, 0, 335, 0, 0, []), (.iload 4, 111, 4, 0, 0, 0, 0, 0, 0, []), (.invokestatic 149, 114, 126, 2, 1, 0, 643, 0, 0, []), (.ireturn, 115, 0, 0, 0, 0, 0, 0, 0, []), (.aload_n 0, 116, 0, 0, 0, 0, 0, 0, 0, []), (.getfield 58, 119, 11, 6, 0, 0, 475, 0, 0, []), (.getfield 349, 122, 1, 4, 0, 0, 337, 0, 0, []), (.iload 4, 124, 4, 0, 0, 0, 0, 0, 0, []), (.invokestatic 149, 127, 126, 2, 1, 0, 643, 0, 0, []), (.ireturn, 128, 0, 0, 0, 0, 0, 0, 0, []), (.aload_n 0, 129, 0, 0, 0, 0, 0, 0, 0, []), (.getfield 58, 132, 11, 6, 0, 0, 475, 0, 0, []), (.getfield 352, 135, 1, 5, 0, 0, 339, 0, 0, []), (.iload 4, 137, 4, 0, 0, 0, 0, 0, 0, []), (.invokestatic 149, 140, 126, 2, 1, 0, 643, 0, 0, []), (.ireturn, 141, 0, 0, 0, 0, 0, 0, 0, [])]
set_option maxRecDepth 100000 in
theorem zk_X11_followedFrame_0 : zOks nX11_followedFrame zo_X11_followedFrame_0 0 = true := by decide +kernel
def zm_X11_followedFrame : List (Nat × List Bool) := [(0, [true, true, true, false, false])]
set_option maxRecDepth 100000 in
set_option maxHeartbeats 4000000 in
theorem zr_X11_followedFrame_0 {C : zCa} {post : zPo} {X : zX} (hX : zClosed none C post nX11_followedFrame X) (p0 : Int32) (p1 : Int32) (σ : zS) (h : C nX11_at [.ref 10, .int p0] σ (zPI fun x2 σ1 => C nX11_at [.ref 22, .int p0] σ1 (zPI fun x4 σ3 => ((p1 : Int32) = 0 → (post (some (.int x2)) σ3)) ∧ (¬ (p1 : Int32) = 0 → ((p1 : Int32) = 1 → (C nX11_at [.ref 27, .int x4] σ3 (zPI fun x6 σ5 => post (some (.int x6)) σ5))) ∧ (¬ (p1 : Int32) = 1 → ((p1 : Int32) = 2 → (C nX6_lossOf [.ref 24, .int p0, .int x2] σ3 (zPI fun x8 σ7 => post (some (.int x8)) σ7))) ∧ (¬ (p1 : Int32) = 2 → ((p1 : Int32) = 3 → (C nX11_at [.ref 28, .int x4] σ3 (zPI fun x10 σ9 => post (some (.int x10)) σ9))) ∧ (¬ (p1 : Int32) = 3 → ((p1 : Int32) = 4 → (C nX11_at [.ref 29, .int x4] σ3 (zPI fun x12 σ11 => post (some (.int x12)) σ11))) ∧ (¬ (p1 : Int32) = 4 → ((p1 : Int32) = 5 → (C nX11_at [.ref 30, .int x4] σ3 (zPI fun x14 σ13 => post (some (.int x14)) σ13))) ∧ (¬ (p1 : Int32) = 5 → C nX11_at [.ref 31, .int x4] σ3 (zPI fun x16 σ15 => post (some (.int x16)) σ15)))))))))) : X 0 [some (.ref 0), some (.int p0), some (.int p1), none, none] [] σ := zSeq_ok hX zm_X11_followedFrame zo_X11_followedFrame_0 0 0 _ _ _ zk_X11_followedFrame_0 h
theorem ze_X11_followedFrame {d : Nat} {post : zPo} (p0 : Int32) (p1 : Int32) (σ : zS) (h : ∀ X : zX, zClosed none (zCall d) post nX11_followedFrame X → X 0 [some (.ref 0), some (.int p0), some (.int p1), none, none] [] σ) : zCall (d + 1) nX11_followedFrame [.ref 0, .int p0, .int p1] σ post := h
-- X11_followedTotal(0,) depth 5
def zo_X11_followedTotal_0 : List zOp := [(.iload_n 1, 1, 1, 0, 0, 0, 0, 0, 0, []), (.iconst 4, 2, 0, 0, 0, 0, 0, 4, 0, []), (.if_icmp .ne 12, 5, 14, 0, 0, 0, 0, 0, 0, []), (.aload_n 0, 6, 0, 0, 0, 0, 0, 0, 0, []), (.getfield 58, 9, 11, 6, 0, 0, 475, 0, 0, []), (.getfield 337, 12, 1, 0, 1, 0, 327, 0, 0, []), (.i2l, 13, 0, 0, 0, 0, 0, 0, 0, []), (.lreturn, 14, 0, 0, 0, 0, 0, 0, 0, []), (.iload_n 1, 15, 1, 0, 0, 0, 0, 0, 0, []), (.bipush 6, 17, 0, 0, 0, 0, 0, 6, 0, []), (.if_icmp .ne 8, 20, 25, 0, 0, 0, 0, 0, 0, []), (.aload_n 0, 21, 0, 0, 0, 0, 0, 0, 0, []), (.invokevirtual 355, 24, 118, 1, 2, 11, 920, 0, 0, []), (.lreturn, 25, 0, 0, 0, 0, 0, 0, 0, []), (.lconst 0, 26, 0, 0, 0, 0, 0, 0, 0, []), (.lstore_n 2, 27, 2, 0, 0, 0, 0, 0, 0, []), (.iconst 0, 28, 0, 0, 0, 0, 0, 0, 0, []), (.istore 4, 30, 4, 0, 0, 0, 0, 0, 0, [])]
set_option maxRecDepth 100000 in
theorem zk_X11_followedTotal_0 : zOks nX11_followedTotal zo_X11_followedTotal_0 0 = true := by decide +kernel
def zo_X11_followedTotal_30 : List zOp := [(.iload 4, 32, 4, 0, 0, 0, 0, 0, 0, []), (.aload_n 0, 33, 0, 0, 0, 0, 0, 0, 0, []), (.getfield 10, 36, 11, 0, 0, 0, 469, 0, 0, []), (.getfield 101, 39, 0, 0, 1, 0, 101, 0, 0, []), (.if_icmp .ge 107, 42, 146, 0, 0, 0, 0, 0, 0, []), (.iload_n 1, 43, 1, 0, 0, 0, 0, 0, 0, []), (.tableswitch 86 0 3 #[29, 43, 57, 71], 72, 129, 0, 0, 0, 0, 0, 0, [(0, 72), (1, 86), (2, 100), (3, 114)]), (.lload_n 2, 73, 2, 0, 0, 0, 0, 0, 0, []), (.aload_n 0, 74, 0, 0, 0, 0, 0, 0, 0, []), (.iload 4, 76, 4, 0, 0, 0, 0, 0, 0, []), (.iconst 1, 77, 0, 0, 0, 0, 0, 1, 0, []), (.invokevirtual 252, 80, 116, 3, 1, 11, 906, 0, 0, []), (.i2l, 81, 0, 0, 0, 0, 0, 0, 0, []), (.ladd, 82, 0, 0, 0, 0, 0, 0, 0, []), (.lstore_n 2, 83, 2, 0, 0, 0, 0, 0, 0, []), (.goto 57, 86, 140, 0, 0, 0, 0, 0, 0, []), (.lload_n 2, 87, 2, 0, 0, 0, 0, 0, 0, []), (.aload_n 0, 88, 0, 0, 0, 0, 0, 0, 0, []), (.iload 4, 90, 4, 0, 0, 0, 0, 0, 0, []), (.iconst 2, 91, 0, 0, 0, 0, 0, 2, 0, []), (.invokevirtual 252, 94, 116, 3, 1, 11, 906, 0, 0, []), (.i2l, 95, 0, 0, 0, 0, 0, 0, 0, []), (.ladd, 96, 0, 0, 0, 0, 0, 0, 0, []), (.lstore_n 2, 97, 2, 0, 0, 0, 0, 0, 0, []), (.goto 43, 100, 140, 0, 0, 0, 0, 0, 0, []), (.lload_n 2, 101, 2, 0, 0, 0, 0, 0, 0, []), (.aload_n 0, 102, 0, 0, 0, 0, 0, 0, 0, []), (.iload 4, 104, 4, 0, 0, 0, 0, 0, 0, []), (.iconst 5, 105, 0, 0, 0, 0, 0, 5, 0, []), (.invokevirtual 252, 108, 116, 3, 1, 11, 906, 0, 0, []), (.i2l, 109, 0, 0, 0, 0, 0, 0, 0, []), (.ladd, 110, 0, 0, 0, 0, 0, 0, 0, []), (.lstore_n 2, 111, 2, 0, 0, 0, 0, 0, 0, []), (.goto 29, 114, 140, 0, 0, 0, 0, 0, 0, []), (.lload_n 2, 115, 2, 0, 0, 0, 0, 0, 0, []), (.aload_n 0, 116, 0, 0, 0, 0, 0, 0, 0, []), (.iload 4, 118, 4, 0, 0, 0, 0, 0, 0, []), (.bipush 6, 120, 0, 0, 0, 0, 0, 6, 0, []), (.invokevirtual 252, 123, 116, 3, 1, 11, 906, 0, 0, []), (.i2l, 124, 0, 0, 0, 0, 0, 0, 0, []), (.ladd, 125, 0, 0, 0, 0, 0, 0, 0, []), (.lstore_n 2, 126, 2, 0, 0, 0, 0, 0, 0, []), (.goto 14, 129, 140, 0, 0, 0, 0, 0, 0, []), (.lload_n 2, 130, 2, 0, 0, 0, 0, 0, 0, []), (.aload_n 0, 131, 0, 0, 0, 0, 0, 0, 0, []), (.iload 4, 133, 4, 0, 0, 0, 0, 0, 0, []), (.iconst 0, 134, 0, 0, 0, 0, 0, 0, 0, []), (.invokevirtual 252, 137, 116, 3, 1, 11, 906, 0, 0, []), (.i2l, 138, 0, 0, 0, 0, 0, 0, 0, []), (.ladd, 139, 0, 0, 0, 0, 0, 0, 0, []), (.lstore_n 2, 140, 2, 0, 0, 0, 0, 0, 0, []), (.iinc 4 1, 143, 4, 0, 0, 0, 0, 1, 0, []), (.goto (-113), 146, 30, 0, 0, 0, 0, 0, 0, []), (.lload_n 2, 147, 2, 0, 0, 0, 0, 0, 0, []), (.lreturn, 148, 0, 0, 0, 0, 0, 0, 0, [])]
set_option maxRecDepth 100000 in
theorem zk_X11_followedTotal_30 : zOks nX11_followedTotal zo_X11_followedTotal_30 30 = true := by decide +kernel
def zm_X11_followedTotal : List (Nat × List Bool) := [(0, [true, true, false, false, false]), (30, [true, true, true, false, true])]
set_option maxRecDepth 100000 in
set_option maxHeartbeats 4000000 in
theorem zr_X11_followedTotal_0 {C : zCa} {post : zPo} {X : zX} (hX : zClosed none C post nX11_followedTotal X) (p0 : Int32) (σ : zS) (h : zIf ((p0 : Int32) = 4) (post (some (.long (Int32.toInt64 (σ.1 26 0)))) σ) (zIf ((p0 : Int32) = 6) (C nX11_changesOfPlan [.ref 0] σ (zPJ fun x2 σ1 => post (some (.long x2)) σ1)) (X 30 [some (.ref 0), some (.int p0), some (.long 0), none, some (.int 0)] [] σ))) : X 0 [some (.ref 0), some (.int p0), none, none, none] [] σ := zSeq_ok hX zm_X11_followedTotal zo_X11_followedTotal_0 0 0 _ _ _ zk_X11_followedTotal_0 h
set_option maxRecDepth 100000 in
set_option maxHeartbeats 4000000 in
theorem zr_X11_followedTotal_30 {C : zCa} {post : zPo} {X : zX} (hX : zClosed none C post nX11_followedTotal X) (v1 : Int32) (v2 : Int64) (v4 : Int32) (σ : zS) (h : zIf ((v4 : Int32) < (σ.1 1 0)) (((v1 : Int32) = 0 → (C nX11_followedFrame [.ref 0, .int v4, .int 1] σ (zPI fun x2 σ1 => X 30 [some (.ref 0), some (.int v1), some (.long (v2 + (Int32.toInt64 x2))), none, some (.int (v4 + 1))] [] σ1))) ∧ (¬ (v1 : Int32) = 0 → ((v1 : Int32) = 1 → (C nX11_followedFrame [.ref 0, .int v4, .int 2] σ (zPI fun x4 σ3 => X 30 [some (.ref 0), some (.int v1), some (.long (v2 + (Int32.toInt64 x4))), none, some (.int (v4 + 1))] [] σ3))) ∧ (¬ (v1 : Int32) = 1 → ((v1 : Int32) = 2 → (C nX11_followedFrame [.ref 0, .int v4, .int 5] σ (zPI fun x6 σ5 => X 30 [some (.ref 0), some (.int v1), some (.long (v2 + (Int32.toInt64 x6))), none, some (.int (v4 + 1))] [] σ5))) ∧ (¬ (v1 : Int32) = 2 → ((v1 : Int32) = 3 → (C nX11_followedFrame [.ref 0, .int v4, .int 6] σ (zPI fun x8 σ7 => X 30 [some (.ref 0), some (.int v1), some (.long (v2 + (Int32.toInt64 x8))), none, some (.int (v4 + 1))] [] σ7))) ∧ (¬ (v1 : Int32) = 3 → C nX11_followedFrame [.ref 0, .int v4, .int 0] σ (zPI fun x10 σ9 => X 30 [some (.ref 0), some (.int v1), some (.long (v2 + (Int32.toInt64 x10))), none, some (.int (v4 + 1))] [] σ9)))))) (post (some (.long v2)) σ)) : X 30 [some (.ref 0), some (.int v1), some (.long v2), none, some (.int v4)] [] σ := zSeq_ok hX zm_X11_followedTotal zo_X11_followedTotal_30 30 30 _ _ _ zk_X11_followedTotal_30 h
theorem ze_X11_followedTotal {d : Nat} {post : zPo} (p0 : Int32) (σ : zS) (h : ∀ X : zX, zClosed none (zCall d) post nX11_followedTotal X → X 0 [some (.ref 0), some (.int p0), none, none, none] [] σ) : zCall (d + 1) nX11_followedTotal [.ref 0, .int p0] σ post := h
-- X11_frame(0,) depth 3
def zo_X11_frame_0 : List zOp := [(.aload_n 0, 1, 0, 0, 0, 0, 0, 0, 0, []), (.iload_n 1, 2, 1, 0, 0, 0, 0, 0, 0, []), (.invokevirtual 112, 5, 121, 2, 1, 11, 572, 0, 0, []), (.ifCond .eq 13, 8, 18, 0, 0, 0, 0, 0, 0, []), (.iload_n 2, 9, 2, 0, 0, 0, 0, 0, 0, []), (.iconst 0, 10, 0, 0, 0, 0, 0, 0, 0, []), (.bipush 7, 12, 0, 0, 0, 0, 0, 7, 0, []), (.invokestatic 130, 15, 124, 3, 1, 0, 513, 0, 0, []), (.ifCond .ne 6, 18, 21, 0, 0, 0, 0, 0, 0, []), (.bipush (-2), 20, 0, 0, 0, 0, 0, (-2), 0, []), (.ireturn, 21, 0, 0, 0, 0, 0, 0, 0, []), (.iload_n 2, 22, 2, 0, 0, 0, 0, 0, 0, []), (.tableswitch 126 0 6 #[42, 54, 66, 78, 90, 102, 114], 64, 148, 0, 0, 0, 0, 0, 0, [(0, 64), (1, 76), (2, 88), (3, 100), (4, 112), (5, 124), (6, 136)]), (.aload_n 0, 65, 0, 0, 0, 0, 0, 0, 0, []), (.getfield 10, 68, 11, 0, 0, 0, 469, 0, 0, []), (.getfield 116, 71, 0, 1, 0, 0, 104, 0, 0, []), (.iload_n 1, 72, 1, 0, 0, 0, 0, 0, 0, []), (.invokestatic 149, 75, 126, 2, 1, 0, 643, 0, 0, []), (.ireturn, 76, 0, 0, 0, 0, 0, 0, 0, []), (.aload_n 0, 77, 0, 0, 0, 0, 0, 0, 0, []), (.getfield 10, 80, 11, 0, 0, 0, 469, 0, 0, []), (.getfield 124, 83, 0, 2, 0, 0, 107, 0, 0, []), (.iload_n 1, 84, 1, 0, 0, 0, 0, 0, 0, []), (.invokestatic 149, 87, 126, 2, 1, 0, 643, 0, 0, []), (.ireturn, 88, 0, 0, 0, 0, 0, 0, 0, []), (.aload_n 0, 89, 0, 0, 0, 0, 0, 0, 0, []), (.getfield 40, 92, 11, 4, 0, 0, 473, 0, 0, []), (.getfield 153, 95, 3, 3, 0, 0, 248, 0, 0, []), (.iload_n 1, 96, 1, 0, 0, 0, 0, 0, 0, []), (.invokestatic 149, 99, 126, 2, 1, 0, 643, 0, 0, []), (.ireturn, 100, 0, 0, 0, 0, 0, 0, 0, []), (.aload_n 0, 101, 0, 0, 0, 0, 0, 0, 0, []), (.getfield 40, 104, 11, 4, 0, 0, 473, 0, 0, []), (.getfield 156, 107, 3, 4, 0, 0, 252, 0, 0, []), (.iload_n 1, 108, 1, 0, 0, 0, 0, 0, 0, []), (.invokestatic 149, 111, 126, 2, 1, 0, 643, 0, 0, []), (.ireturn, 112, 0, 0, 0, 0, 0, 0, 0, []), (.aload_n 0, 113, 0, 0, 0, 0, 0, 0, 0, []), (.getfield 40, 116, 11, 4, 0, 0, 473, 0, 0, []), (.getfield 159, 119, 3, 8, 0, 0, 262, 0, 0, []), (.iload_n 1, 120, 1, 0, 0, 0, 0, 0, 0, []), (.invokestatic 149, 123, 126, 2, 1, 0, 643, 0, 0, []), (.ireturn, 124, 0, 0, 0, 0, 0, 0, 0, []), (.aload_n 0, 125, 0, 0, 0, 0, 0, 0, 0, []), (.getfield 40, 128, 11, 4, 0, 0, 473, 0, 0, []), (.getfield 162, 131, 3, 7, 0, 0, 260, 0, 0, []), (.iload_n 1, 132, 1, 0, 0, 0, 0, 0, 0, []), (.invokestatic 149, 135, 126, 2, 1, 0, 643, 0, 0, []), (.ireturn, 136, 0, 0, 0, 0, 0, 0, 0, []), (.aload_n 0, 137, 0, 0, 0, 0, 0, 0, 0, []), (.getfield 40, 140, 11, 4, 0, 0, 473, 0, 0, []), (.getfield 165, 143, 3, 5, 0, 0, 254, 0, 0, []), (.iload_n 1, 144, 1, 0, 0, 0, 0, 0, 0, []), (.invokestatic 149, 147, 126, 2, 1, 0, 643, 0, 0, []), (.ireturn, 148, 0, 0, 0, 0, 0, 0, 0, []), (.aload_n 0, 149, 0, 0, 0, 0, 0, 0, 0, []), (.getfield 40, 152, 11, 4, 0, 0, 473, 0, 0, []), (.getfield 168, 155, 3, 6, 0, 0, 256, 0, 0, []), (.iload_n 1, 156, 1, 0, 0, 0, 0, 0, 0, []), (.invokestatic 149, 159, 126, 2, 1, 0, 643, 0, 0, []), (.ireturn, 160, 0, 0, 0, 0, 0, 0, 0, [])]
set_option maxRecDepth 100000 in
theorem zk_X11_frame_0 : zOks nX11_frame zo_X11_frame_0 0 = true := by decide +kernel
def zm_X11_frame : List (Nat × List Bool) := [(0, [true, true, true])]
set_option maxRecDepth 100000 in
set_option maxHeartbeats 4000000 in
theorem zr_X11_frame_0 {C : zCa} {post : zPo} {X : zX} (hX : zClosed none C post nX11_frame X) (p0 : Int32) (p1 : Int32) (σ : zS) (h : C nX11_isFrame [.ref 0, .int p0] σ (zPI fun x2 σ1 => zIf ((x2 : Int32) = 0) (post (some (.int (-2))) σ1) (C nX11_within [.int p1, .int 0, .int 7] σ1 (zPI fun x4 σ3 => zIf ((x4 : Int32) = 0) (post (some (.int (-2))) σ3) (((p1 : Int32) = 0 → (C nX11_at [.ref 2, .int p0] σ3 (zPI fun x6 σ5 => post (some (.int x6)) σ5))) ∧ (¬ (p1 : Int32) = 0 → ((p1 : Int32) = 1 → (C nX11_at [.ref 3, .int p0] σ3 (zPI fun x8 σ7 => post (some (.int x8)) σ7))) ∧ (¬ (p1 : Int32) = 1 → ((p1 : Int32) = 2 → (C nX11_at [.ref 17, .int p0] σ3 (zPI fun x10 σ9 => post (some (.int x10)) σ9))) ∧ (¬ (p1 : Int32) = 2 → ((p1 : Int32) = 3 → (C nX11_at [.ref 18, .int p0] σ3 (zPI fun x12 σ11 => post (some (.int x12)) σ11))) ∧ (¬ (p1 : Int32) = 3 → ((p1 : Int32) = 4 → (C nX11_at [.ref 22, .int p0] σ3 (zPI fun x14 σ13 => post (some (.int x14)) σ13))) ∧ (¬ (p1 : Int32) = 4 → ((p1 : Int32) = 5 → (C nX11_at [.ref 21, .int p0] σ3 (zPI fun x16 σ15 => post (some (.int x16)) σ15))) ∧ (¬ (p1 : Int32) = 5 → ((p1 : Int32) = 6 → (C nX11_at [.ref 19, .int p0] σ3 (zPI fun x18 σ17 => post (some (.int x18)) σ17))) ∧ (¬ (p1 : Int32) = 6 → C nX11_at [.ref 20, .int p0] σ3 (zPI fun x20 σ19 => post (some (.int x20)) σ19))))))))))))) : X 0 [some (.ref 0), some (.int p0), some (.int p1)] [] σ := zSeq_ok hX zm_X11_frame zo_X11_frame_0 0 0 _ _ _ zk_X11_frame_0 h
theorem ze_X11_frame {d : Nat} {post : zPo} (p0 : Int32) (p1 : Int32) (σ : zS) (h : ∀ X : zX, zClosed none (zCall d) post nX11_frame X → X 0 [some (.ref 0), some (.int p0), some (.int p1)] [] σ) : zCall (d + 1) nX11_frame [.ref 0, .int p0, .int p1] σ post := h
-- X11_hashFrame(0,) depth 5
def zo_X11_hashFrame_0 : List zOp := [(.lload_n 1, 1, 1, 0, 0, 0, 0, 0, 0, []), (.lstore 4, 3, 4, 0, 0, 0, 0, 0, 0, []), (.iconst 0, 4, 0, 0, 0, 0, 0, 0, 0, []), (.istore 6, 6, 6, 0, 0, 0, 0, 0, 0, [])]
set_option maxRecDepth 100000 in
theorem zk_X11_hashFrame_0 : zOks nX11_hashFrame zo_X11_hashFrame_0 0 = true := by decide +kernel
def zo_X11_hashFrame_6 : List zOp := [(.iload 6, 8, 6, 0, 0, 0, 0, 0, 0, []), (.bipush 8, 10, 0, 0, 0, 0, 0, 8, 0, []), (.if_icmp .ge 26, 13, 36, 0, 0, 0, 0, 0, 0, []), (.ldc2_w 315, 16, 0, 0, 0, 0, 1035, 0, 31, []), (.lload 4, 18, 4, 0, 0, 0, 0, 0, 0, []), (.lmul, 19, 0, 0, 0, 0, 0, 0, 0, []), (.aload_n 0, 20, 0, 0, 0, 0, 0, 0, 0, []), (.iload_n 3, 21, 3, 0, 0, 0, 0, 0, 0, []), (.iload 6, 23, 6, 0, 0, 0, 0, 0, 0, []), (.invokevirtual 330, 26, 82, 3, 1, 11, 1041, 0, 0, []), (.i2l, 27, 0, 0, 0, 0, 0, 0, 0, []), (.ladd, 28, 0, 0, 0, 0, 0, 0, 0, []), (.lstore 4, 30, 4, 0, 0, 0, 0, 0, 0, []), (.iinc 6 1, 33, 6, 0, 0, 0, 0, 1, 0, []), (.goto (-27), 36, 6, 0, 0, 0, 0, 0, 0, []), (.aload_n 0, 37, 0, 0, 0, 0, 0, 0, 0, []), (.getfield 26, 40, 11, 2, 0, 0, 471, 0, 0, []), (.getfield 234, 43, 7, 0, 2, 0, 193, 0, 0, []), (.ifCond .eq 36, 46, 79, 0, 0, 0, 0, 0, 0, []), (.iconst 0, 47, 0, 0, 0, 0, 0, 0, 0, []), (.istore 6, 49, 6, 0, 0, 0, 0, 0, 0, [])]
set_option maxRecDepth 100000 in
theorem zk_X11_hashFrame_6 : zOks nX11_hashFrame zo_X11_hashFrame_6 6 = true := by decide +kernel
def zo_X11_hashFrame_49 : List zOp := [(.iload 6, 51, 6, 0, 0, 0, 0, 0, 0, []), (.bipush 7, 53, 0, 0, 0, 0, 0, 7, 0, []), (.if_icmp .ge 26, 56, 79, 0, 0, 0, 0, 0, 0, []), (.ldc2_w 315, 59, 0, 0, 0, 0, 1035, 0, 31, []), (.lload 4, 61, 4, 0, 0, 0, 0, 0, 0, []), (.lmul, 62, 0, 0, 0, 0, 0, 0, 0, []), (.aload_n 0, 63, 0, 0, 0, 0, 0, 0, 0, []), (.iload_n 3, 64, 3, 0, 0, 0, 0, 0, 0, []), (.iload 6, 66, 6, 0, 0, 0, 0, 0, 0, []), (.invokevirtual 252, 69, 116, 3, 1, 11, 906, 0, 0, []), (.i2l, 70, 0, 0, 0, 0, 0, 0, 0, []), (.ladd, 71, 0, 0, 0, 0, 0, 0, 0, []), (.lstore 4, 73, 4, 0, 0, 0, 0, 0, 0, []), (.iinc 6 1, 76, 6, 0, 0, 0, 0, 1, 0, []), (.goto (-27), 79, 49, 0, 0, 0, 0, 0, 0, []), (.lload 4, 81, 4, 0, 0, 0, 0, 0, 0, []), (.lreturn, 82, 0, 0, 0, 0, 0, 0, 0, [])]
set_option maxRecDepth 100000 in
theorem zk_X11_hashFrame_49 : zOks nX11_hashFrame zo_X11_hashFrame_49 49 = true := by decide +kernel
def zm_X11_hashFrame : List (Nat × List Bool) := [(0, [true, true, false, true, false, false, false]), (6, [true, false, false, true, true, false, true]), (49, [true, false, false, true, true, false, true]), (79, [false, false, false, false, true, false, false])]
set_option maxRecDepth 100000 in
set_option maxHeartbeats 4000000 in
theorem zr_X11_hashFrame_0 {C : zCa} {post : zPo} {X : zX} (hX : zClosed none C post nX11_hashFrame X) (p0 : Int64) (p1 : Int32) (σ : zS) (h : X 6 [some (.ref 0), none, none, some (.int p1), some (.long p0), none, some (.int 0)] [] σ) : X 0 [some (.ref 0), some (.long p0), none, some (.int p1), none, none, none] [] σ := zSeq_ok hX zm_X11_hashFrame zo_X11_hashFrame_0 0 0 _ _ _ zk_X11_hashFrame_0 h
set_option maxRecDepth 100000 in
set_option maxHeartbeats 4000000 in
theorem zr_X11_hashFrame_6 {C : zCa} {post : zPo} {X : zX} (hX : zClosed none C post nX11_hashFrame X) (v3 : Int32) (v4 : Int64) (v6 : Int32) (σ : zS) (h : zIf ((v6 : Int32) < 8) (C nX11_frame [.ref 0, .int v3, .int v6] σ (zPI fun x2 σ1 => X 6 [some (.ref 0), none, none, some (.int v3), some (.long ((31 * v4) + (Int32.toInt64 x2))), none, some (.int (v6 + 1))] [] σ1)) (zIf ((σ.1 9 0 : Int32) = 0) (X 79 [none, none, none, none, some (.long v4), none, none] [] σ) (X 49 [some (.ref 0), none, none, some (.int v3), some (.long v4), none, some (.int 0)] [] σ))) : X 6 [some (.ref 0), none, none, some (.int v3), some (.long v4), none, some (.int v6)] [] σ := zSeq_ok hX zm_X11_hashFrame zo_X11_hashFrame_6 6 6 _ _ _ zk_X11_hashFrame_6 h
set_option maxRecDepth 100000 in
set_option maxHeartbeats 4000000 in
theorem zr_X11_hashFrame_79 {C : zCa} {post : zPo} {X : zX} (hX : zClosed none C post nX11_hashFrame X) (v4 : Int64) (σ : zS) (h : post (some (.long v4)) σ) : X 79 [none, none, none, none, some (.long v4), none, none] [] σ := zSeq_ok hX zm_X11_hashFrame zo_X11_hashFrame_49 49 79 _ _ _ zk_X11_hashFrame_49 h
set_option maxRecDepth 100000 in
set_option maxHeartbeats 4000000 in
theorem zr_X11_hashFrame_49 {C : zCa} {post : zPo} {X : zX} (hX : zClosed none C post nX11_hashFrame X) (v3 : Int32) (v4 : Int64) (v6 : Int32) (σ : zS) (h : zIf ((v6 : Int32) < 7) (C nX11_followedFrame [.ref 0, .int v3, .int v6] σ (zPI fun x2 σ1 => X 49 [some (.ref 0), none, none, some (.int v3), some (.long ((31 * v4) + (Int32.toInt64 x2))), none, some (.int (v6 + 1))] [] σ1)) (post (some (.long v4)) σ)) : X 49 [some (.ref 0), none, none, some (.int v3), some (.long v4), none, some (.int v6)] [] σ := zSeq_ok hX zm_X11_hashFrame zo_X11_hashFrame_49 49 49 _ _ _ zk_X11_hashFrame_49 h
theorem ze_X11_hashFrame {d : Nat} {post : zPo} (p0 : Int64) (p1 : Int32) (σ : zS) (h : ∀ X : zX, zClosed none (zCall d) post nX11_hashFrame X → X 0 [some (.ref 0), some (.long p0), none, some (.int p1), none, none, none] [] σ) : zCall (d + 1) nX11_hashFrame [.ref 0, .long p0, .int p1] σ post := h
-- X11_meanOfScene(0,) depth 3
def zo_X11_meanOfScene_0 : List zOp := [(.iconst 0, 1, 0, 0, 0, 0, 0, 0, 0, []), (.istore_n 2, 2, 2, 0, 0, 0, 0, 0, 0, []), (.iconst 0, 3, 0, 0, 0, 0, 0, 0, 0, []), (.istore_n 3, 4, 3, 0, 0, 0, 0, 0, 0, [])]
set_option maxRecDepth 100000 in
theorem zk_X11_meanOfScene_0 : zOks nX11_meanOfScene zo_X11_meanOfScene_0 0 = true := by decide +kernel
def zo_X11_meanOfScene_4 : List zOp := [(.iload_n 3, 5, 3, 0, 0, 0, 0, 0, 0, []), (.aload_n 0, 6, 0, 0, 0, 0, 0, 0, 0, []), (.getfield 10, 9, 11, 0, 0, 0, 469, 0, 0, []), (.getfield 101, 12, 0, 0, 1, 0, 101, 0, 0, []), (.if_icmp .ge 38, 15, 50, 0, 0, 0, 0, 0, 0, []), (.aload_n 0, 16, 0, 0, 0, 0, 0, 0, 0, []), (.getfield 40, 19, 11, 4, 0, 0, 473, 0, 0, []), (.getfield 156, 22, 3, 4, 0, 0, 252, 0, 0, []), (.iload_n 3, 23, 3, 0, 0, 0, 0, 0, 0, []), (.invokestatic 149, 26, 126, 2, 1, 0, 643, 0, 0, []), (.iload_n 1, 27, 1, 0, 0, 0, 0, 0, 0, []), (.if_icmp .ne 17, 30, 44, 0, 0, 0, 0, 0, 0, []), (.iload_n 2, 31, 2, 0, 0, 0, 0, 0, 0, []), (.aload_n 0, 32, 0, 0, 0, 0, 0, 0, 0, []), (.getfield 26, 35, 11, 2, 0, 0, 471, 0, 0, []), (.getfield 217, 38, 7, 1, 0, 0, 195, 0, 0, []), (.iload_n 3, 39, 3, 0, 0, 0, 0, 0, 0, []), (.invokestatic 149, 42, 126, 2, 1, 0, 643, 0, 0, []), (.iadd, 43, 0, 0, 0, 0, 0, 0, 0, []), (.istore_n 2, 44, 2, 0, 0, 0, 0, 0, 0, []), (.iinc 3 1, 47, 3, 0, 0, 0, 0, 1, 0, []), (.goto (-43), 50, 4, 0, 0, 0, 0, 0, 0, []), (.bipush 10, 52, 0, 0, 0, 0, 0, 10, 0, []), (.iload_n 2, 53, 2, 0, 0, 0, 0, 0, 0, []), (.imul, 54, 0, 0, 0, 0, 0, 0, 0, []), (.i2l, 55, 0, 0, 0, 0, 0, 0, 0, []), (.aload_n 0, 56, 0, 0, 0, 0, 0, 0, 0, []), (.getfield 40, 59, 11, 4, 0, 0, 473, 0, 0, []), (.iload_n 1, 60, 1, 0, 0, 0, 0, 0, 0, []), (.invokevirtual 270, 63, 34, 2, 1, 3, 935, 0, 0, []), (.i2l, 64, 0, 0, 0, 0, 0, 0, 0, []), (.invokestatic 364, 67, 131, 2, 2, 0, 947, 0, 0, []), (.l2i, 68, 0, 0, 0, 0, 0, 0, 0, []), (.ireturn, 69, 0, 0, 0, 0, 0, 0, 0, [])]
set_option maxRecDepth 100000 in
theorem zk_X11_meanOfScene_4 : zOks nX11_meanOfScene zo_X11_meanOfScene_4 4 = true := by decide +kernel
def zm_X11_meanOfScene : List (Nat × List Bool) := [(0, [true, true, false, false]), (4, [true, true, true, true])]
set_option maxRecDepth 100000 in
set_option maxHeartbeats 4000000 in
theorem zr_X11_meanOfScene_0 {C : zCa} {post : zPo} {X : zX} (hX : zClosed none C post nX11_meanOfScene X) (p0 : Int32) (σ : zS) (h : X 4 [some (.ref 0), some (.int p0), some (.int 0), some (.int 0)] [] σ) : X 0 [some (.ref 0), some (.int p0), none, none] [] σ := zSeq_ok hX zm_X11_meanOfScene zo_X11_meanOfScene_0 0 0 _ _ _ zk_X11_meanOfScene_0 h
set_option maxRecDepth 100000 in
set_option maxHeartbeats 4000000 in
theorem zr_X11_meanOfScene_4 {C : zCa} {post : zPo} {X : zX} (hX : zClosed none C post nX11_meanOfScene X) (v1 : Int32) (v2 : Int32) (v3 : Int32) (σ : zS) (h : zIf ((v3 : Int32) < (σ.1 1 0)) (C nX11_at [.ref 18, .int v3] σ (zPI fun x2 σ1 => zIf ((x2 : Int32) = v1) (C nX11_at [.ref 10, .int v3] σ1 (zPI fun x4 σ3 => X 4 [some (.ref 0), some (.int v1), some (.int (v2 + x4)), some (.int (v3 + 1))] [] σ3)) (X 4 [some (.ref 0), some (.int v1), some (.int v2), some (.int (v3 + 1))] [] σ1))) (C nX3_framesOfScene [.ref 16, .int v1] σ (zPI fun x6 σ5 => C nX11_ratio [.long (Int32.toInt64 (10 * v2)), .long (Int32.toInt64 x6)] σ5 (zPJ fun x8 σ7 => post (some (.int (Int64.toInt32 x8))) σ7)))) : X 4 [some (.ref 0), some (.int v1), some (.int v2), some (.int v3)] [] σ := zSeq_ok hX zm_X11_meanOfScene zo_X11_meanOfScene_4 4 4 _ _ _ zk_X11_meanOfScene_4 h
theorem ze_X11_meanOfScene {d : Nat} {post : zPo} (p0 : Int32) (σ : zS) (h : ∀ X : zX, zClosed none (zCall d) post nX11_meanOfScene X → X 0 [some (.ref 0), some (.int p0), none, none] [] σ) : zCall (d + 1) nX11_meanOfScene [.ref 0, .int p0] σ post := h
-- X11_scene(0,) depth 4
def zo_X11_scene_0 : List zOp := [(.iload_n 1, 1, 1, 0, 0, 0, 0, 0, 0, []), (.iconst 0, 2, 0, 0, 0, 0, 0, 0, 0, []), (.aload_n 0, 3, 0, 0, 0, 0, 0, 0, 0, []), (.getfield 40, 6, 11, 4, 0, 0, 473, 0, 0, []), (.getfield 263, 9, 3, 1, 1, 0, 242, 0, 0, []), (.iconst 1, 10, 0, 0, 0, 0, 0, 1, 0, []), (.isub, 11, 0, 0, 0, 0, 0, 0, 0, []), (.invokestatic 130, 14, 124, 3, 1, 0, 513, 0, 0, []), (.ifCond .eq 12, 17, 26, 0, 0, 0, 0, 0, 0, []), (.iload_n 2, 18, 2, 0, 0, 0, 0, 0, 0, []), (.iconst 0, 19, 0, 0, 0, 0, 0, 0, 0, []), (.iconst 5, 20, 0, 0, 0, 0, 0, 5, 0, []), (.invokestatic 130, 23, 124, 3, 1, 0, 513, 0, 0, []), (.ifCond .ne 6, 26, 29, 0, 0, 0, 0, 0, 0, []), (.bipush (-2), 28, 0, 0, 0, 0, 0, (-2), 0, []), (.ireturn, 29, 0, 0, 0, 0, 0, 0, 0, []), (.aload_n 0, 30, 0, 0, 0, 0, 0, 0, 0, []), (.getfield 26, 33, 11, 2, 0, 0, 471, 0, 0, []), (.getfield 234, 36, 7, 0, 2, 0, 193, 0, 0, []), (.ifCond .ne 16, 39, 52, 0, 0, 0, 0, 0, 0, []), (.iload_n 2, 40, 2, 0, 0, 0, 0, 0, 0, []), (.iconst 3, 41, 0, 0, 0, 0, 0, 3, 0, []), (.if_icmp .eq 8, 44, 49, 0, 0, 0, 0, 0, 0, []), (.iload_n 2, 45, 2, 0, 0, 0, 0, 0, 0, []), (.iconst 4, 46, 0, 0, 0, 0, 0, 4, 0, []), (.if_icmp .ne 6, 49, 52, 0, 0, 0, 0, 0, 0, []), (.bipush (-3), 51, 0, 0, 0, 0, 0, (-3), 0, []), (.ireturn, 52, 0, 0, 0, 0, 0, 0, 0, []), (.iload_n 2, 53, 2, 0, 0, 0, 0, 0, 0, []), (.tableswitch 77 0 4 #[35, 44, 53, 65, 71], 88, 130, 0, 0, 0, 0, 0, 0, [(0, 88), (1, 97), (2, 106), (3, 118), (4, 124)]), (.aload_n 0, 89, 0, 0, 0, 0, 0, 0, 0, []), (.getfield 40, 92, 11, 4, 0, 0, 473, 0, 0, []), (.iload_n 1, 93, 1, 0, 0, 0, 0, 0, 0, []), (.invokevirtual 266, 96, 33, 2, 1, 3, 931, 0, 0, []), (.ireturn, 97, 0, 0, 0, 0, 0, 0, 0, []), (.aload_n 0, 98, 0, 0, 0, 0, 0, 0, 0, []), (.getfield 40, 101, 11, 4, 0, 0, 473, 0, 0, []), (.iload_n 1, 102, 1, 0, 0, 0, 0, 0, 0, []), (.invokevirtual 270, 105, 34, 2, 1, 3, 935, 0, 0, []), (.ireturn, 106, 0, 0, 0, 0, 0, 0, 0, []), (.aload_n 0, 107, 0, 0, 0, 0, 0, 0, 0, []), (.getfield 19, 110, 11, 1, 0, 0, 470, 0, 0, []), (.getfield 180, 113, 8, 8, 0, 0, 157, 0, 0, []), (.iload_n 1, 114, 1, 0, 0, 0, 0, 0, 0, []), (.invokestatic 149, 117, 126, 2, 1, 0, 643, 0, 0, []), (.ireturn, 118, 0, 0, 0, 0, 0, 0, 0, []), (.aload_n 0, 119, 0, 0, 0, 0, 0, 0, 0, []), (.iload_n 1, 120, 1, 0, 0, 0, 0, 0, 0, []), (.invokevirtual 273, 123, 119, 2, 1, 11, 939, 0, 0, []), (.ireturn, 124, 0, 0, 0, 0, 0, 0, 0, []), (.aload_n 0, 125, 0, 0, 0, 0, 0, 0, 0, []), (.iload_n 1, 126, 1, 0, 0, 0, 0, 0, 0, []), (.invokevirtual 276, 129, 120, 2, 1, 11, 943, 0, 0, []), (.ireturn, 130, 0, 0, 0, 0, 0, 0, 0, []), (.aload_n 0, 131, 0, 0, 0, 0, 0, 0, 0, []), (.getfield 40, 134, 11, 4, 0, 0, 473, 0, 0, []), (.iload_n 1, 135, 1, 0, 0, 0, 0, 0, 0, []), (.invokevirtual 279, 138, 35, 2, 1, 3, 948, 0, 0, []), (.ireturn, 139, 0, 0, 0, 0, 0, 0, 0, [])]
set_option maxRecDepth 100000 in
theorem zk_X11_scene_0 : zOks nX11_scene zo_X11_scene_0 0 = true := by decide +kernel
def zm_X11_scene : List (Nat × List Bool) := [(0, [true, true, true])]
set_option maxRecDepth 100000 in
set_option maxHeartbeats 4000000 in
theorem zr_X11_scene_0 {C : zCa} {post : zPo} {X : zX} (hX : zClosed none C post nX11_scene X) (p0 : Int32) (p1 : Int32) (σ : zS) (h : C nX11_within [.int p0, .int 0, .int ((σ.1 16 1) - 1)] σ (zPI fun x2 σ1 => zIf ((x2 : Int32) = 0) (post (some (.int (-2))) σ1) (C nX11_within [.int p1, .int 0, .int 5] σ1 (zPI fun x4 σ3 => zIf ((x4 : Int32) = 0) (post (some (.int (-2))) σ3) (zIf ((σ3.1 9 0 : Int32) = 0) (zIf ((p1 : Int32) = 3) (post (some (.int (-3))) σ3) (zIf ((p1 : Int32) = 4) (post (some (.int (-3))) σ3) (((p1 : Int32) = 0 → (C nX3_firstOfScene [.ref 16, .int p0] σ3 (zPI fun x6 σ5 => post (some (.int x6)) σ5))) ∧ (¬ (p1 : Int32) = 0 → ((p1 : Int32) = 1 → (C nX3_framesOfScene [.ref 16, .int p0] σ3 (zPI fun x8 σ7 => post (some (.int x8)) σ7))) ∧ (¬ (p1 : Int32) = 1 → ((p1 : Int32) = 2 → (C nX11_at [.ref 5, .int p0] σ3 (zPI fun x10 σ9 => post (some (.int x10)) σ9))) ∧ (¬ (p1 : Int32) = 2 → ((p1 : Int32) = 3 → (C nX11_bitsOfScene [.ref 0, .int p0] σ3 (zPI fun x12 σ11 => post (some (.int x12)) σ11))) ∧ (¬ (p1 : Int32) = 3 → ((p1 : Int32) = 4 → (C nX11_meanOfScene [.ref 0, .int p0] σ3 (zPI fun x14 σ13 => post (some (.int x14)) σ13))) ∧ (¬ (p1 : Int32) = 4 → C nX3_groupsOfScene [.ref 16, .int p0] σ3 (zPI fun x16 σ15 => post (some (.int x16)) σ15))))))))) (((p1 : Int32) = 0 → (C nX3_firstOfScene [.ref 16, .int p0] σ3 (zPI fun x18 σ17 => post (some (.int x18)) σ17))) ∧ (¬ (p1 : Int32) = 0 → ((p1 : Int32) = 1 → (C nX3_framesOfScene [.ref 16, .int p0] σ3 (zPI fun x20 σ19 => post (some (.int x20)) σ19))) ∧ (¬ (p1 : Int32) = 1 → ((p1 : Int32) = 2 → (C nX11_at [.ref 5, .int p0] σ3 (zPI fun x22 σ21 => post (some (.int x22)) σ21))) ∧ (¬ (p1 : Int32) = 2 → ((p1 : Int32) = 3 → (C nX11_bitsOfScene [.ref 0, .int p0] σ3 (zPI fun x24 σ23 => post (some (.int x24)) σ23))) ∧ (¬ (p1 : Int32) = 3 → ((p1 : Int32) = 4 → (C nX11_meanOfScene [.ref 0, .int p0] σ3 (zPI fun x26 σ25 => post (some (.int x26)) σ25))) ∧ (¬ (p1 : Int32) = 4 → C nX3_groupsOfScene [.ref 16, .int p0] σ3 (zPI fun x28 σ27 => post (some (.int x28)) σ27)))))))))))) : X 0 [some (.ref 0), some (.int p0), some (.int p1)] [] σ := zSeq_ok hX zm_X11_scene zo_X11_scene_0 0 0 _ _ _ zk_X11_scene_0 h
theorem ze_X11_scene {d : Nat} {post : zPo} (p0 : Int32) (p1 : Int32) (σ : zS) (h : ∀ X : zX, zClosed none (zCall d) post nX11_scene X → X 0 [some (.ref 0), some (.int p0), some (.int p1)] [] σ) : zCall (d + 1) nX11_scene [.ref 0, .int p0, .int p1] σ post := h
-- X11_digest(0,) depth 6
def zo_X11_digest_0 : List zOp := [(.ldc2_w 313, 3, 0, 0, 0, 0, 1034, 0, 367, []), (.lstore_n 1, 4, 1, 0, 0, 0, 0, 0, 0, []), (.iconst 0, 5, 0, 0, 0, 0, 0, 0, 0, []), (.istore_n 3, 6, 3, 0, 0, 0, 0, 0, 0, [])]
set_option maxRecDepth 100000 in
theorem zk_X11_digest_0 : zOks nX11_digest zo_X11_digest_0 0 = true := by decide +kernel
def zo_X11_digest_6 : List zOp := [(.iload_n 3, 7, 3, 0, 0, 0, 0, 0, 0, []), (.bipush 11, 9, 0, 0, 0, 0, 0, 11, 0, []), (.if_icmp .ge 22, 12, 31, 0, 0, 0, 0, 0, 0, []), (.ldc2_w 315, 15, 0, 0, 0, 0, 1035, 0, 31, []), (.lload_n 1, 16, 1, 0, 0, 0, 0, 0, 0, []), (.lmul, 17, 0, 0, 0, 0, 0, 0, 0, []), (.aload_n 0, 18, 0, 0, 0, 0, 0, 0, 0, []), (.iload_n 3, 19, 3, 0, 0, 0, 0, 0, 0, []), (.invokevirtual 317, 22, 111, 2, 1, 11, 1036, 0, 0, []), (.i2l, 23, 0, 0, 0, 0, 0, 0, 0, []), (.ladd, 24, 0, 0, 0, 0, 0, 0, 0, []), (.lstore_n 1, 25, 1, 0, 0, 0, 0, 0, 0, []), (.iinc 3 1, 28, 3, 0, 0, 0, 0, 1, 0, []), (.goto (-22), 31, 6, 0, 0, 0, 0, 0, 0, []), (.aload_n 0, 32, 0, 0, 0, 0, 0, 0, 0, []), (.getfield 26, 35, 11, 2, 0, 0, 471, 0, 0, []), (.getfield 234, 38, 7, 0, 2, 0, 193, 0, 0, []), (.ifCond .eq 17, 41, 55, 0, 0, 0, 0, 0, 0, []), (.aload_n 0, 42, 0, 0, 0, 0, 0, 0, 0, []), (.getfield 58, 45, 11, 6, 0, 0, 475, 0, 0, []), (.aload_n 0, 46, 0, 0, 0, 0, 0, 0, 0, []), (.getfield 26, 49, 11, 2, 0, 0, 471, 0, 0, []), (.getfield 217, 52, 7, 1, 0, 0, 195, 0, 0, []), (.invokevirtual 248, 55, 5, 2, 0, 1, 743, 0, 0, []), (.iconst 0, 56, 0, 0, 0, 0, 0, 0, 0, []), (.istore_n 3, 57, 3, 0, 0, 0, 0, 0, 0, [])]
set_option maxRecDepth 100000 in
theorem zk_X11_digest_6 : zOks nX11_digest zo_X11_digest_6 6 = true := by decide +kernel
def zo_X11_digest_57 : List zOp := [(.iload_n 3, 58, 3, 0, 0, 0, 0, 0, 0, []), (.aload_n 0, 59, 0, 0, 0, 0, 0, 0, 0, []), (.getfield 10, 62, 11, 0, 0, 0, 469, 0, 0, []), (.getfield 101, 65, 0, 0, 1, 0, 101, 0, 0, []), (.if_icmp .ge 16, 68, 81, 0, 0, 0, 0, 0, 0, []), (.aload_n 0, 69, 0, 0, 0, 0, 0, 0, 0, []), (.lload_n 1, 70, 1, 0, 0, 0, 0, 0, 0, []), (.iload_n 3, 71, 3, 0, 0, 0, 0, 0, 0, []), (.invokevirtual 320, 74, 113, 3, 2, 11, 1037, 0, 0, []), (.lstore_n 1, 75, 1, 0, 0, 0, 0, 0, 0, []), (.iinc 3 1, 78, 3, 0, 0, 0, 0, 1, 0, []), (.goto (-21), 81, 57, 0, 0, 0, 0, 0, 0, []), (.iconst 0, 82, 0, 0, 0, 0, 0, 0, 0, []), (.istore_n 3, 83, 3, 0, 0, 0, 0, 0, 0, [])]
set_option maxRecDepth 100000 in
theorem zk_X11_digest_57 : zOks nX11_digest zo_X11_digest_57 57 = true := by decide +kernel
def zo_X11_digest_83 : List zOp := [(.iload_n 3, 84, 3, 0, 0, 0, 0, 0, 0, []), (.aload_n 0, 85, 0, 0, 0, 0, 0, 0, 0, []), (.getfield 40, 88, 11, 4, 0, 0, 473, 0, 0, []), (.getfield 263, 91, 3, 1, 1, 0, 242, 0, 0, []), (.if_icmp .ge 39, 94, 130, 0, 0, 0, 0, 0, 0, []), (.iconst 0, 95, 0, 0, 0, 0, 0, 0, 0, []), (.istore 4, 97, 4, 0, 0, 0, 0, 0, 0, [])]
set_option maxRecDepth 100000 in
theorem zk_X11_digest_83 : zOks nX11_digest zo_X11_digest_83 83 = true := by decide +kernel
def zo_X11_digest_97 : List zOp := [(.iload 4, 99, 4, 0, 0, 0, 0, 0, 0, []), (.iconst 3, 100, 0, 0, 0, 0, 0, 3, 0, []), (.if_icmp .ge 24, 103, 124, 0, 0, 0, 0, 0, 0, []), (.ldc2_w 315, 106, 0, 0, 0, 0, 1035, 0, 31, []), (.lload_n 1, 107, 1, 0, 0, 0, 0, 0, 0, []), (.lmul, 108, 0, 0, 0, 0, 0, 0, 0, []), (.aload_n 0, 109, 0, 0, 0, 0, 0, 0, 0, []), (.iload_n 3, 110, 3, 0, 0, 0, 0, 0, 0, []), (.iload 4, 112, 4, 0, 0, 0, 0, 0, 0, []), (.invokevirtual 324, 115, 103, 3, 1, 11, 1042, 0, 0, []), (.i2l, 116, 0, 0, 0, 0, 0, 0, 0, []), (.ladd, 117, 0, 0, 0, 0, 0, 0, 0, []), (.lstore_n 1, 118, 1, 0, 0, 0, 0, 0, 0, []), (.iinc 4 1, 121, 4, 0, 0, 0, 0, 1, 0, []), (.goto (-24), 124, 97, 0, 0, 0, 0, 0, 0, []), (.iinc 3 1, 127, 3, 0, 0, 0, 0, 1, 0, []), (.goto (-44), 130, 83, 0, 0, 0, 0, 0, 0, []), (.aload_n 0, 131, 0, 0, 0, 0, 0, 0, 0, []), (.getfield 26, 134, 11, 2, 0, 0, 471, 0, 0, []), (.getfield 234, 137, 7, 0, 2, 0, 193, 0, 0, []), (.ifCond .eq 29, 140, 166, 0, 0, 0, 0, 0, 0, []), (.iconst 0, 141, 0, 0, 0, 0, 0, 0, 0, []), (.istore_n 3, 142, 3, 0, 0, 0, 0, 0, 0, [])]
set_option maxRecDepth 100000 in
theorem zk_X11_digest_97 : zOks nX11_digest zo_X11_digest_97 97 = true := by decide +kernel
def zo_X11_digest_142 : List zOp := [(.iload_n 3, 143, 3, 0, 0, 0, 0, 0, 0, []), (.bipush 7, 145, 0, 0, 0, 0, 0, 7, 0, []), (.if_icmp .ge 21, 148, 166, 0, 0, 0, 0, 0, 0, []), (.ldc2_w 315, 151, 0, 0, 0, 0, 1035, 0, 31, []), (.lload_n 1, 152, 1, 0, 0, 0, 0, 0, 0, []), (.lmul, 153, 0, 0, 0, 0, 0, 0, 0, []), (.aload_n 0, 154, 0, 0, 0, 0, 0, 0, 0, []), (.iload_n 3, 155, 3, 0, 0, 0, 0, 0, 0, []), (.invokevirtual 259, 158, 117, 2, 2, 11, 916, 0, 0, []), (.ladd, 159, 0, 0, 0, 0, 0, 0, 0, []), (.lstore_n 1, 160, 1, 0, 0, 0, 0, 0, 0, []), (.iinc 3 1, 163, 3, 0, 0, 0, 0, 1, 0, []), (.goto (-21), 166, 142, 0, 0, 0, 0, 0, 0, []), (.iconst 0, 167, 0, 0, 0, 0, 0, 0, 0, []), (.istore_n 3, 168, 3, 0, 0, 0, 0, 0, 0, [])]
set_option maxRecDepth 100000 in
theorem zk_X11_digest_142 : zOks nX11_digest zo_X11_digest_142 142 = true := by decide +kernel
def zo_X11_digest_168 : List zOp := [(.iload_n 3, 169, 3, 0, 0, 0, 0, 0, 0, []), (.aload_n 0, 170, 0, 0, 0, 0, 0, 0, 0, []), (.getfield 33, 173, 11, 3, 0, 0, 472, 0, 0, []), (.getfield 134, 176, 10, 0, 1, 0, 210, 0, 0, []), (.if_icmp .ge 25, 179, 201, 0, 0, 0, 0, 0, 0, []), (.ldc2_w 315, 182, 0, 0, 0, 0, 1035, 0, 31, []), (.lload_n 1, 183, 1, 0, 0, 0, 0, 0, 0, []), (.lmul, 184, 0, 0, 0, 0, 0, 0, 0, []), (.aload_n 0, 185, 0, 0, 0, 0, 0, 0, 0, []), (.getfield 33, 188, 11, 3, 0, 0, 472, 0, 0, []), (.iload_n 3, 189, 3, 0, 0, 0, 0, 0, 0, []), (.invokevirtual 327, 192, 69, 2, 1, 10, 1043, 0, 0, []), (.i2l, 193, 0, 0, 0, 0, 0, 0, 0, []), (.ladd, 194, 0, 0, 0, 0, 0, 0, 0, []), (.lstore_n 1, 195, 1, 0, 0, 0, 0, 0, 0, []), (.iinc 3 1, 198, 3, 0, 0, 0, 0, 1, 0, []), (.goto (-30), 201, 168, 0, 0, 0, 0, 0, 0, []), (.lload_n 1, 202, 1, 0, 0, 0, 0, 0, 0, []), (.lreturn, 203, 0, 0, 0, 0, 0, 0, 0, [])]
set_option maxRecDepth 100000 in
theorem zk_X11_digest_168 : zOks nX11_digest zo_X11_digest_168 168 = true := by decide +kernel
def zm_X11_digest : List (Nat × List Bool) := [(0, [true, false, false, false, false]), (6, [true, true, false, true, false]), (57, [true, true, false, true, false]), (83, [true, true, false, true, false]), (97, [true, true, false, true, true]), (130, [true, true, false, false, false]), (142, [true, true, false, true, false]), (166, [true, true, false, false, false]), (168, [true, true, false, true, false])]
set_option maxRecDepth 100000 in
set_option maxHeartbeats 4000000 in
theorem zr_X11_digest_0 {C : zCa} {post : zPo} {X : zX} (hX : zClosed none C post nX11_digest X) (σ : zS) (h : X 6 [some (.ref 0), some (.long 367), none, some (.int 0), none] [] σ) : X 0 [some (.ref 0), none, none, none, none] [] σ := zSeq_ok hX zm_X11_digest zo_X11_digest_0 0 0 _ _ _ zk_X11_digest_0 h
set_option maxRecDepth 100000 in
set_option maxHeartbeats 4000000 in
theorem zr_X11_digest_6 {C : zCa} {post : zPo} {X : zX} (hX : zClosed none C post nX11_digest X) (v1 : Int64) (v3 : Int32) (σ : zS) (h : zIf ((v3 : Int32) < 11) (C nX11_count [.ref 0, .int v3] σ (zPI fun x2 σ1 => X 6 [some (.ref 0), some (.long ((31 * v1) + (Int32.toInt64 x2))), none, some (.int (v3 + 1)), none] [] σ1)) (zIf ((σ.1 9 0 : Int32) = 0) (X 57 [some (.ref 0), some (.long v1), none, some (.int 0), none] [] σ) (C nX1_follow [.ref 26, .ref 10] σ (zPV fun σ3 => X 57 [some (.ref 0), some (.long v1), none, some (.int 0), none] [] σ3)))) : X 6 [some (.ref 0), some (.long v1), none, some (.int v3), none] [] σ := zSeq_ok hX zm_X11_digest zo_X11_digest_6 6 6 _ _ _ zk_X11_digest_6 h
set_option maxRecDepth 100000 in
set_option maxHeartbeats 4000000 in
theorem zr_X11_digest_57 {C : zCa} {post : zPo} {X : zX} (hX : zClosed none C post nX11_digest X) (v1 : Int64) (v3 : Int32) (σ : zS) (h : zIf ((v3 : Int32) < (σ.1 1 0)) (C nX11_hashFrame [.ref 0, .long v1, .int v3] σ (zPJ fun x2 σ1 => X 57 [some (.ref 0), some (.long x2), none, some (.int (v3 + 1)), none] [] σ1)) (X 83 [some (.ref 0), some (.long v1), none, some (.int 0), none] [] σ)) : X 57 [some (.ref 0), some (.long v1), none, some (.int v3), none] [] σ := zSeq_ok hX zm_X11_digest zo_X11_digest_57 57 57 _ _ _ zk_X11_digest_57 h
set_option maxRecDepth 100000 in
set_option maxHeartbeats 4000000 in
theorem zr_X11_digest_83 {C : zCa} {post : zPo} {X : zX} (hX : zClosed none C post nX11_digest X) (v1 : Int64) (v3 : Int32) (σ : zS) (h : zIf ((v3 : Int32) < (σ.1 16 1)) (X 97 [some (.ref 0), some (.long v1), none, some (.int v3), some (.int 0)] [] σ) (X 130 [some (.ref 0), some (.long v1), none, none, none] [] σ)) : X 83 [some (.ref 0), some (.long v1), none, some (.int v3), none] [] σ := zSeq_ok hX zm_X11_digest zo_X11_digest_83 83 83 _ _ _ zk_X11_digest_83 h
set_option maxRecDepth 100000 in
set_option maxHeartbeats 4000000 in
theorem zr_X11_digest_97 {C : zCa} {post : zPo} {X : zX} (hX : zClosed none C post nX11_digest X) (v1 : Int64) (v3 : Int32) (v4 : Int32) (σ : zS) (h : zIf ((v4 : Int32) < 3) (C nX11_scene [.ref 0, .int v3, .int v4] σ (zPI fun x2 σ1 => X 97 [some (.ref 0), some (.long ((31 * v1) + (Int32.toInt64 x2))), none, some (.int v3), some (.int (v4 + 1))] [] σ1)) (X 83 [some (.ref 0), some (.long v1), none, some (.int (v3 + 1)), none] [] σ)) : X 97 [some (.ref 0), some (.long v1), none, some (.int v3), some (.int v4)] [] σ := zSeq_ok hX zm_X11_digest zo_X11_digest_97 97 97 _ _ _ zk_X11_digest_97 h
set_option maxRecDepth 100000 in
set_option maxHeartbeats 4000000 in
theorem zr_X11_digest_130 {C : zCa} {post : zPo} {X : zX} (hX : zClosed none C post nX11_digest X) (v1 : Int64) (σ : zS) (h : zIf ((σ.1 9 0 : Int32) = 0) (X 166 [some (.ref 0), some (.long v1), none, none, none] [] σ) (X 142 [some (.ref 0), some (.long v1), none, some (.int 0), none] [] σ)) : X 130 [some (.ref 0), some (.long v1), none, none, none] [] σ := zSeq_ok hX zm_X11_digest zo_X11_digest_97 97 130 _ _ _ zk_X11_digest_97 h
set_option maxRecDepth 100000 in
set_option maxHeartbeats 4000000 in
theorem zr_X11_digest_166 {C : zCa} {post : zPo} {X : zX} (hX : zClosed none C post nX11_digest X) (v1 : Int64) (σ : zS) (h : X 168 [some (.ref 0), some (.long v1), none, some (.int 0), none] [] σ) : X 166 [some (.ref 0), some (.long v1), none, none, none] [] σ := zSeq_ok hX zm_X11_digest zo_X11_digest_142 142 166 _ _ _ zk_X11_digest_142 h
set_option maxRecDepth 100000 in
set_option maxHeartbeats 4000000 in
theorem zr_X11_digest_142 {C : zCa} {post : zPo} {X : zX} (hX : zClosed none C post nX11_digest X) (v1 : Int64) (v3 : Int32) (σ : zS) (h : zIf ((v3 : Int32) < 7) (C nX11_followedTotal [.ref 0, .int v3] σ (zPJ fun x2 σ1 => X 142 [some (.ref 0), some (.long ((31 * v1) + x2)), none, some (.int (v3 + 1)), none] [] σ1)) (X 168 [some (.ref 0), some (.long v1), none, some (.int 0), none] [] σ)) : X 142 [some (.ref 0), some (.long v1), none, some (.int v3), none] [] σ := zSeq_ok hX zm_X11_digest zo_X11_digest_142 142 142 _ _ _ zk_X11_digest_142 h
set_option maxRecDepth 100000 in
set_option maxHeartbeats 4000000 in
theorem zr_X11_digest_168 {C : zCa} {post : zPo} {X : zX} (hX : zClosed none C post nX11_digest X) (v1 : Int64) (v3 : Int32) (σ : zS) (h : zIf ((v3 : Int32) < (σ.1 11 0)) (C nX10_letterAt [.ref 11, .int v3] σ (zPI fun x2 σ1 => X 168 [some (.ref 0), some (.long ((31 * v1) + (Int32.toInt64 x2))), none, some (.int (v3 + 1)), none] [] σ1)) (post (some (.long v1)) σ)) : X 168 [some (.ref 0), some (.long v1), none, some (.int v3), none] [] σ := zSeq_ok hX zm_X11_digest zo_X11_digest_168 168 168 _ _ _ zk_X11_digest_168 h
theorem ze_X11_digest {d : Nat} {post : zPo} (σ : zS) (h : ∀ X : zX, zClosed none (zCall d) post nX11_digest X → X 0 [some (.ref 0), none, none, none, none] [] σ) : zCall (d + 1) nX11_digest [.ref 0] σ post := h
-- X11_distribute(0,) depth 7
def zo_X11_distribute_0 : List zOp := [(.iload_n 1, 1, 1, 0, 0, 0, 0, 0, 0, []), (.iconst 0, 2, 0, 0, 0, 0, 0, 0, 0, []), (.ldc 230, 4, 0, 0, 0, 0, 793, 10000000, 0, []), (.invokestatic 130, 7, 124, 3, 1, 0, 513, 0, 0, []), (.ifCond .ne 6, 10, 13, 0, 0, 0, 0, 0, 0, []), (.bipush (-2), 12, 0, 0, 0, 0, 0, (-2), 0, []), (.ireturn, 13, 0, 0, 0, 0, 0, 0, 0, []), (.aload_n 0, 14, 0, 0, 0, 0, 0, 0, 0, []), (.getfield 10, 17, 11, 0, 0, 0, 469, 0, 0, []), (.getfield 101, 20, 0, 0, 1, 0, 101, 0, 0, []), (.ifCond .eq 17, 23, 37, 0, 0, 0, 0, 0, 0, []), (.iload_n 1, 24, 1, 0, 0, 0, 0, 0, 0, []), (.bipush 40, 26, 0, 0, 0, 0, 0, 40, 0, []), (.aload_n 0, 27, 0, 0, 0, 0, 0, 0, 0, []), (.getfield 10, 30, 11, 0, 0, 0, 469, 0, 0, []), (.getfield 101, 33, 0, 0, 1, 0, 101, 0, 0, []), (.imul, 34, 0, 0, 0, 0, 0, 0, 0, []), (.if_icmp .ge 6, 37, 40, 0, 0, 0, 0, 0, 0, []), (.bipush (-3), 39, 0, 0, 0, 0, 0, (-3), 0, []), (.ireturn, 40, 0, 0, 0, 0, 0, 0, 0, []), (.aload_n 0, 41, 0, 0, 0, 0, 0, 0, 0, []), (.getfield 67, 44, 11, 7, 0, 0, 476, 0, 0, []), (.aload_n 0, 45, 0, 0, 0, 0, 0, 0, 0, []), (.getfield 26, 48, 11, 2, 0, 0, 471, 0, 0, []), (.getfield 217, 51, 7, 1, 0, 0, 195, 0, 0, []), (.iload_n 1, 52, 1, 0, 0, 0, 0, 0, 0, []), (.invokevirtual 231, 55, 40, 3, 0, 4, 794, 0, 0, []), (.aload_n 0, 56, 0, 0, 0, 0, 0, 0, 0, []), (.invokevirtual 224, 59, 115, 1, 1, 11, 739, 0, 0, []), (.ireturn, 60, 0, 0, 0, 0, 0, 0, 0, [])]
set_option maxRecDepth 100000 in
theorem zk_X11_distribute_0 : zOks nX11_distribute zo_X11_distribute_0 0 = true := by decide +kernel
def zm_X11_distribute : List (Nat × List Bool) := [(0, [true, true])]
set_option maxRecDepth 100000 in
set_option maxHeartbeats 4000000 in
theorem zr_X11_distribute_0 {C : zCa} {post : zPo} {X : zX} (hX : zClosed none C post nX11_distribute X) (p0 : Int32) (σ : zS) (h : C nX11_within [.int p0, .int 0, .int 10000000] σ (zPI fun x2 σ1 => zIf ((x2 : Int32) = 0) (post (some (.int (-2))) σ1) (zIf ((σ1.1 1 0 : Int32) = 0) (post (some (.int (-3))) σ1) (zIf ((p0 : Int32) < (40 * (σ1.1 1 0))) (post (some (.int (-3))) σ1) (C nX4_planDistributed [.ref 32, .ref 10, .int p0] σ1 (zPV fun σ3 => C nX11_underflowsOfNewPlan [.ref 0] σ3 (zPI fun x5 σ4 => post (some (.int x5)) σ4))))))) : X 0 [some (.ref 0), some (.int p0)] [] σ := zSeq_ok hX zm_X11_distribute zo_X11_distribute_0 0 0 _ _ _ zk_X11_distribute_0 h
theorem ze_X11_distribute {d : Nat} {post : zPo} (p0 : Int32) (σ : zS) (h : ∀ X : zX, zClosed none (zCall d) post nX11_distribute X → X 0 [some (.ref 0), some (.int p0)] [] σ) : zCall (d + 1) nX11_distribute [.ref 0, .int p0] σ post := h
-- X11_drop(0,) depth 6
def zo_X11_drop_0 : List zOp := [(.aload_n 0, 1, 0, 0, 0, 0, 0, 0, 0, []), (.getfield 10, 4, 11, 0, 0, 0, 469, 0, 0, []), (.getfield 101, 7, 0, 0, 1, 0, 101, 0, 0, []), (.ifCond .ne 6, 10, 13, 0, 0, 0, 0, 0, 0, []), (.bipush (-3), 12, 0, 0, 0, 0, 0, (-3), 0, []), (.ireturn, 13, 0, 0, 0, 0, 0, 0, 0, []), (.aload_n 0, 14, 0, 0, 0, 0, 0, 0, 0, []), (.getfield 10, 17, 11, 0, 0, 0, 469, 0, 0, []), (.dup, 18, 0, 0, 0, 0, 0, 0, 0, []), (.getfield 101, 21, 0, 0, 1, 0, 101, 0, 0, []), (.iconst 1, 22, 0, 0, 0, 0, 0, 1, 0, []), (.isub, 23, 0, 0, 0, 0, 0, 0, 0, []), (.putfield 101, 26, 0, 0, 1, 0, 101, 0, 0, []), (.aload_n 0, 27, 0, 0, 0, 0, 0, 0, 0, []), (.invokevirtual 109, 30, 114, 1, 0, 11, 523, 0, 0, []), (.aload_n 0, 31, 0, 0, 0, 0, 0, 0, 0, []), (.getfield 10, 34, 11, 0, 0, 0, 469, 0, 0, []), (.getfield 101, 37, 0, 0, 1, 0, 101, 0, 0, []), (.ireturn, 38, 0, 0, 0, 0, 0, 0, 0, [])]
set_option maxRecDepth 100000 in
theorem zk_X11_drop_0 : zOks nX11_drop zo_X11_drop_0 0 = true := by decide +kernel
def zm_X11_drop : List (Nat × List Bool) := [(0, [true])]
set_option maxRecDepth 100000 in
set_option maxHeartbeats 4000000 in
theorem zr_X11_drop_0 {C : zCa} {post : zPo} {X : zX} (hX : zClosed none C post nX11_drop X) (σ : zS) (h : zIf ((σ.1 1 0 : Int32) = 0) (post (some (.int (-3))) σ) (C nX11_arrangeAnew [.ref 0] (zSI σ 1 0 ((σ.1 1 0) - 1)) (zPV fun σ1 => post (some (.int (σ1.1 1 0))) σ1))) : X 0 [some (.ref 0)] [] σ := zSeq_ok hX zm_X11_drop zo_X11_drop_0 0 0 _ _ _ zk_X11_drop_0 h
theorem ze_X11_drop {d : Nat} {post : zPo} (σ : zS) (h : ∀ X : zX, zClosed none (zCall d) post nX11_drop X → X 0 [some (.ref 0)] [] σ) : zCall (d + 1) nX11_drop [.ref 0] σ post := h
-- X11_leastRate(0,) depth 7
def zo_X11_leastRate_0 : List zOp := [(.aload_n 0, 1, 0, 0, 0, 0, 0, 0, 0, []), (.getfield 26, 4, 11, 2, 0, 0, 471, 0, 0, []), (.getfield 234, 7, 7, 0, 2, 0, 193, 0, 0, []), (.ifCond .eq 20, 10, 27, 0, 0, 0, 0, 0, 0, []), (.aload_n 0, 11, 0, 0, 0, 0, 0, 0, 0, []), (.getfield 83, 14, 11, 9, 0, 0, 478, 0, 0, []), (.aload_n 0, 15, 0, 0, 0, 0, 0, 0, 0, []), (.getfield 26, 18, 11, 2, 0, 0, 471, 0, 0, []), (.getfield 217, 21, 7, 1, 0, 0, 195, 0, 0, []), (.invokevirtual 288, 24, 18, 2, 1, 2, 983, 0, 0, []), (.goto 5, 27, 29, 0, 0, 0, 0, 0, 0, []), (.bipush (-3), 29, 0, 0, 0, 0, 0, (-3), 0, []), (.ireturn, 30, 0, 0, 0, 0, 0, 0, 0, [])]
set_option maxRecDepth 100000 in
theorem zk_X11_leastRate_0 : zOks nX11_leastRate zo_X11_leastRate_0 0 = true := by decide +kernel
def zm_X11_leastRate : List (Nat × List Bool) := [(0, [true])]
set_option maxRecDepth 100000 in
set_option maxHeartbeats 4000000 in
theorem zr_X11_leastRate_0 {C : zCa} {post : zPo} {X : zX} (hX : zClosed none C post nX11_leastRate X) (σ : zS) (h : zIf ((σ.1 9 0 : Int32) = 0) (post (some (.int (-3))) σ) (C nX2_findRate [.ref 39, .ref 10] σ (zPI fun x2 σ1 => post (some (.int x2)) σ1))) : X 0 [some (.ref 0)] [] σ := zSeq_ok hX zm_X11_leastRate zo_X11_leastRate_0 0 0 _ _ _ zk_X11_leastRate_0 h
theorem ze_X11_leastRate {d : Nat} {post : zPo} (σ : zS) (h : ∀ X : zX, zClosed none (zCall d) post nX11_leastRate X → X 0 [some (.ref 0)] [] σ) : zCall (d + 1) nX11_leastRate [.ref 0] σ post := h
-- X11_leastSize(0,) depth 7
def zo_X11_leastSize_0 : List zOp := [(.aload_n 0, 1, 0, 0, 0, 0, 0, 0, 0, []), (.getfield 26, 4, 11, 2, 0, 0, 471, 0, 0, []), (.getfield 234, 7, 7, 0, 2, 0, 193, 0, 0, []), (.ifCond .eq 20, 10, 27, 0, 0, 0, 0, 0, 0, []), (.aload_n 0, 11, 0, 0, 0, 0, 0, 0, 0, []), (.getfield 83, 14, 11, 9, 0, 0, 478, 0, 0, []), (.aload_n 0, 15, 0, 0, 0, 0, 0, 0, 0, []), (.getfield 26, 18, 11, 2, 0, 0, 471, 0, 0, []), (.getfield 217, 21, 7, 1, 0, 0, 195, 0, 0, []), (.invokevirtual 282, 24, 16, 2, 1, 2, 956, 0, 0, []), (.goto 5, 27, 29, 0, 0, 0, 0, 0, 0, []), (.bipush (-3), 29, 0, 0, 0, 0, 0, (-3), 0, []), (.ireturn, 30, 0, 0, 0, 0, 0, 0, 0, [])]
set_option maxRecDepth 100000 in
theorem zk_X11_leastSize_0 : zOks nX11_leastSize zo_X11_leastSize_0 0 = true := by decide +kernel
def zm_X11_leastSize : List (Nat × List Bool) := [(0, [true])]
set_option maxRecDepth 100000 in
set_option maxHeartbeats 4000000 in
theorem zr_X11_leastSize_0 {C : zCa} {post : zPo} {X : zX} (hX : zClosed none C post nX11_leastSize X) (σ : zS) (h : zIf ((σ.1 9 0 : Int32) = 0) (post (some (.int (-3))) σ) (C nX2_findSize [.ref 39, .ref 10] σ (zPI fun x2 σ1 => post (some (.int x2)) σ1))) : X 0 [some (.ref 0)] [] σ := zSeq_ok hX zm_X11_leastSize zo_X11_leastSize_0 0 0 _ _ _ zk_X11_leastSize_0 h
theorem ze_X11_leastSize {d : Nat} {post : zPo} (σ : zS) (h : ∀ X : zX, zClosed none (zCall d) post nX11_leastSize X → X 0 [some (.ref 0)] [] σ) : zCall (d + 1) nX11_leastSize [.ref 0] σ post := h
-- X11_leastStart(0,) depth 7
def zo_X11_leastStart_0 : List zOp := [(.aload_n 0, 1, 0, 0, 0, 0, 0, 0, 0, []), (.getfield 26, 4, 11, 2, 0, 0, 471, 0, 0, []), (.getfield 234, 7, 7, 0, 2, 0, 193, 0, 0, []), (.ifCond .eq 20, 10, 27, 0, 0, 0, 0, 0, 0, []), (.aload_n 0, 11, 0, 0, 0, 0, 0, 0, 0, []), (.getfield 83, 14, 11, 9, 0, 0, 478, 0, 0, []), (.aload_n 0, 15, 0, 0, 0, 0, 0, 0, 0, []), (.getfield 26, 18, 11, 2, 0, 0, 471, 0, 0, []), (.getfield 217, 21, 7, 1, 0, 0, 195, 0, 0, []), (.invokevirtual 285, 24, 17, 2, 1, 2, 975, 0, 0, []), (.goto 5, 27, 29, 0, 0, 0, 0, 0, 0, []), (.bipush (-3), 29, 0, 0, 0, 0, 0, (-3), 0, []), (.ireturn, 30, 0, 0, 0, 0, 0, 0, 0, [])]
set_option maxRecDepth 100000 in
theorem zk_X11_leastStart_0 : zOks nX11_leastStart zo_X11_leastStart_0 0 = true := by decide +kernel
def zm_X11_leastStart : List (Nat × List Bool) := [(0, [true])]
set_option maxRecDepth 100000 in
set_option maxHeartbeats 4000000 in
theorem zr_X11_leastStart_0 {C : zCa} {post : zPo} {X : zX} (hX : zClosed none C post nX11_leastStart X) (σ : zS) (h : zIf ((σ.1 9 0 : Int32) = 0) (post (some (.int (-3))) σ) (C nX2_findStart [.ref 39, .ref 10] σ (zPI fun x2 σ1 => post (some (.int x2)) σ1))) : X 0 [some (.ref 0)] [] σ := zSeq_ok hX zm_X11_leastStart zo_X11_leastStart_0 0 0 _ _ _ zk_X11_leastStart_0 h
theorem ze_X11_leastStart {d : Nat} {post : zPo} (σ : zS) (h : ∀ X : zX, zClosed none (zCall d) post nX11_leastStart X → X 0 [some (.ref 0)] [] σ) : zCall (d + 1) nX11_leastStart [.ref 0] σ post := h
-- X11_load(0,) depth 7
def zo_X11_load_0 : List zOp := [(.aload_n 0, 1, 0, 0, 0, 0, 0, 0, 0, []), (.getfield 33, 4, 11, 3, 0, 0, 472, 0, 0, []), (.invokevirtual 138, 7, 70, 1, 1, 10, 599, 0, 0, []), (.istore_n 1, 8, 1, 0, 0, 0, 0, 0, 0, []), (.iload_n 1, 9, 1, 0, 0, 0, 0, 0, 0, []), (.ifCond .lt 9, 12, 18, 0, 0, 0, 0, 0, 0, []), (.sipush (-2000), 15, 0, 0, 0, 0, 0, (-2000), 0, []), (.iload_n 1, 16, 1, 0, 0, 0, 0, 0, 0, []), (.isub, 17, 0, 0, 0, 0, 0, 0, 0, []), (.ireturn, 18, 0, 0, 0, 0, 0, 0, 0, []), (.aload_n 0, 19, 0, 0, 0, 0, 0, 0, 0, []), (.getfield 10, 22, 11, 0, 0, 0, 469, 0, 0, []), (.aload_n 0, 23, 0, 0, 0, 0, 0, 0, 0, []), (.getfield 33, 26, 11, 3, 0, 0, 472, 0, 0, []), (.getfield 142, 29, 10, 1, 0, 0, 212, 0, 0, []), (.invokevirtual 145, 32, 3, 2, 0, 0, 626, 0, 0, []), (.aload_n 0, 33, 0, 0, 0, 0, 0, 0, 0, []), (.getfield 33, 36, 11, 3, 0, 0, 472, 0, 0, []), (.iconst 0, 37, 0, 0, 0, 0, 0, 0, 0, []), (.putfield 134, 40, 10, 0, 1, 0, 210, 0, 0, []), (.aload_n 0, 41, 0, 0, 0, 0, 0, 0, 0, []), (.invokevirtual 109, 44, 114, 1, 0, 11, 523, 0, 0, []), (.aload_n 0, 45, 0, 0, 0, 0, 0, 0, 0, []), (.getfield 10, 48, 11, 0, 0, 0, 469, 0, 0, []), (.getfield 101, 51, 0, 0, 1, 0, 101, 0, 0, []), (.ireturn, 52, 0, 0, 0, 0, 0, 0, 0, [])]
set_option maxRecDepth 100000 in
theorem zk_X11_load_0 : zOks nX11_load zo_X11_load_0 0 = true := by decide +kernel
def zm_X11_load : List (Nat × List Bool) := [(0, [true, false])]
set_option maxRecDepth 100000 in
set_option maxHeartbeats 4000000 in
theorem zr_X11_load_0 {C : zCa} {post : zPo} {X : zX} (hX : zClosed none C post nX11_load X) (σ : zS) (h : C nX10_readClip [.ref 11] σ (zPI fun x2 σ1 => zIf ((x2 : Int32) < 0) (C nX0_copyFrom [.ref 1, .ref 12] σ1 (zPV fun σ3 => C nX11_arrangeAnew [.ref 0] (zSI σ3 11 0 0) (zPV fun σ4 => post (some (.int (σ4.1 1 0))) σ4))) (post (some (.int ((-2000) - x2))) σ1))) : X 0 [some (.ref 0), none] [] σ := zSeq_ok hX zm_X11_load zo_X11_load_0 0 0 _ _ _ zk_X11_load_0 h
theorem ze_X11_load {d : Nat} {post : zPo} (σ : zS) (h : ∀ X : zX, zClosed none (zCall d) post nX11_load X → X 0 [some (.ref 0), none] [] σ) : zCall (d + 1) nX11_load [.ref 0] σ post := h
-- X11_lossAt(0,) depth 4
def zo_X11_lossAt_0 : List zOp := [(.aload_n 0, 1, 0, 0, 0, 0, 0, 0, 0, []), (.iload_n 1, 2, 1, 0, 0, 0, 0, 0, 0, []), (.invokevirtual 112, 5, 121, 2, 1, 11, 572, 0, 0, []), (.ifCond .eq 22, 8, 27, 0, 0, 0, 0, 0, 0, []), (.iload_n 2, 9, 2, 0, 0, 0, 0, 0, 0, []), (.invokestatic 183, 12, 123, 1, 1, 0, 664, 0, 0, []), (.ifCond .eq 15, 15, 27, 0, 0, 0, 0, 0, 0, []), (.aload_n 0, 16, 0, 0, 0, 0, 0, 0, 0, []), (.getfield 49, 19, 11, 5, 0, 0, 474, 0, 0, []), (.iload_n 1, 20, 1, 0, 0, 0, 0, 0, 0, []), (.iload_n 2, 21, 2, 0, 0, 0, 0, 0, 0, []), (.invokevirtual 214, 24, 58, 3, 1, 6, 705, 0, 0, []), (.goto 5, 27, 29, 0, 0, 0, 0, 0, 0, []), (.bipush (-2), 29, 0, 0, 0, 0, 0, (-2), 0, []), (.ireturn, 30, 0, 0, 0, 0, 0, 0, 0, [])]
set_option maxRecDepth 100000 in
theorem zk_X11_lossAt_0 : zOks nX11_lossAt zo_X11_lossAt_0 0 = true := by decide +kernel
def zm_X11_lossAt : List (Nat × List Bool) := [(0, [true, true, true])]
set_option maxRecDepth 100000 in
set_option maxHeartbeats 4000000 in
theorem zr_X11_lossAt_0 {C : zCa} {post : zPo} {X : zX} (hX : zClosed none C post nX11_lossAt X) (p0 : Int32) (p1 : Int32) (σ : zS) (h : C nX11_isFrame [.ref 0, .int p0] σ (zPI fun x2 σ1 => zIf ((x2 : Int32) = 0) (post (some (.int (-2))) σ1) (C nX11_isQuantizer [.int p1] σ1 (zPI fun x4 σ3 => zIf ((x4 : Int32) = 0) (post (some (.int (-2))) σ3) (C nX6_lossOf [.ref 24, .int p0, .int p1] σ3 (zPI fun x6 σ5 => post (some (.int x6)) σ5)))))) : X 0 [some (.ref 0), some (.int p0), some (.int p1)] [] σ := zSeq_ok hX zm_X11_lossAt zo_X11_lossAt_0 0 0 _ _ _ zk_X11_lossAt_0 h
theorem ze_X11_lossAt {d : Nat} {post : zPo} (p0 : Int32) (p1 : Int32) (σ : zS) (h : ∀ X : zX, zClosed none (zCall d) post nX11_lossAt X → X 0 [some (.ref 0), some (.int p0), some (.int p1)] [] σ) : zCall (d + 1) nX11_lossAt [.ref 0, .int p0, .int p1] σ post := h
-- X11_planned(0,) depth 6
def zo_X11_planned_0 : List zOp := [(.aload_n 0, 1, 0, 0, 0, 0, 0, 0, 0, []), (.iload_n 1, 2, 1, 0, 0, 0, 0, 0, 0, []), (.invokevirtual 112, 5, 121, 2, 1, 11, 572, 0, 0, []), (.ifCond .eq 13, 8, 18, 0, 0, 0, 0, 0, 0, []), (.iload_n 2, 9, 2, 0, 0, 0, 0, 0, 0, []), (.iconst 0, 10, 0, 0, 0, 0, 0, 0, 0, []), (.bipush 6, 12, 0, 0, 0, 0, 0, 6, 0, []), (.invokestatic 130, 15, 124, 3, 1, 0, 513, 0, 0, []), (.ifCond .ne 6, 18, 21, 0, 0, 0, 0, 0, 0, []), (.bipush (-2), 20, 0, 0, 0, 0, 0, (-2), 0, []), (.ireturn, 21, 0, 0, 0, 0, 0, 0, 0, []), (.aload_n 0, 22, 0, 0, 0, 0, 0, 0, 0, []), (.getfield 26, 25, 11, 2, 0, 0, 471, 0, 0, []), (.getfield 234, 28, 7, 0, 2, 0, 193, 0, 0, []), (.ifCond .ne 6, 31, 34, 0, 0, 0, 0, 0, 0, []), (.bipush (-3), 33, 0, 0, 0, 0, 0, (-3), 0, []), (.ireturn, 34, 0, 0, 0, 0, 0, 0, 0, []), (.aload_n 0, 35, 0, 0, 0, 0, 0, 0, 0, []), (.getfield 58, 38, 11, 6, 0, 0, 475, 0, 0, []), (.aload_n 0, 39, 0, 0, 0, 0, 0, 0, 0, []), (.getfield 26, 42, 11, 2, 0, 0, 471, 0, 0, []), (.getfield 217, 45, 7, 1, 0, 0, 195, 0, 0, []), (.invokevirtual 248, 48, 5, 2, 0, 1, 743, 0, 0, []), (.aload_n 0, 49, 0, 0, 0, 0, 0, 0, 0, []), (.iload_n 1, 50, 1, 0, 0, 0, 0, 0, 0, []), (.iload_n 2, 51, 2, 0, 0, 0, 0, 0, 0, []), (.invokevirtual 252, 54, 116, 3, 1, 11, 906, 0, 0, []), (.ireturn, 55, 0, 0, 0, 0, 0, 0, 0, [])]
set_option maxRecDepth 100000 in
theorem zk_X11_planned_0 : zOks nX11_planned zo_X11_planned_0 0 = true := by decide +kernel
def zm_X11_planned : List (Nat × List Bool) := [(0, [true, true, true])]
set_option maxRecDepth 100000 in
set_option maxHeartbeats 4000000 in
theorem zr_X11_planned_0 {C : zCa} {post : zPo} {X : zX} (hX : zClosed none C post nX11_planned X) (p0 : Int32) (p1 : Int32) (σ : zS) (h : C nX11_isFrame [.ref 0, .int p0] σ (zPI fun x2 σ1 => zIf ((x2 : Int32) = 0) (post (some (.int (-2))) σ1) (C nX11_within [.int p1, .int 0, .int 6] σ1 (zPI fun x4 σ3 => zIf ((x4 : Int32) = 0) (post (some (.int (-2))) σ3) (zIf ((σ3.1 9 0 : Int32) = 0) (post (some (.int (-3))) σ3) (C nX1_follow [.ref 26, .ref 10] σ3 (zPV fun σ5 => C nX11_followedFrame [.ref 0, .int p0, .int p1] σ5 (zPI fun x7 σ6 => post (some (.int x7)) σ6)))))))) : X 0 [some (.ref 0), some (.int p0), some (.int p1)] [] σ := zSeq_ok hX zm_X11_planned zo_X11_planned_0 0 0 _ _ _ zk_X11_planned_0 h
theorem ze_X11_planned {d : Nat} {post : zPo} (p0 : Int32) (p1 : Int32) (σ : zS) (h : ∀ X : zX, zClosed none (zCall d) post nX11_planned X → X 0 [some (.ref 0), some (.int p0), some (.int p1)] [] σ) : zCall (d + 1) nX11_planned [.ref 0, .int p0, .int p1] σ post := h
-- X11_put_(None,) depth 1
def zo_X11_put__0 : List zOp := [(.iload_n 1, 1, 1, 0, 0, 0, 0, 0, 0, []), (.ifCond .lt 13, 4, 14, 0, 0, 0, 0, 0, 0, []), (.iload_n 1, 5, 1, 0, 0, 0, 0, 0, 0, []), (.aload_n 0, 6, 0, 0, 0, 0, 0, 0, 0, []), (.arraylength, 7, 0, 0, 0, 0, 0, 0, 0, []), (.if_icmp .ge 7, 10, 14, 0, 0, 0, 0, 0, 0, []), (.aload_n 0, 11, 0, 0, 0, 0, 0, 0, 0, []), (.iload_n 1, 12, 1, 0, 0, 0, 0, 0, 0, []), (.lload_n 2, 13, 2, 0, 0, 0, 0, 0, 0, []), (.lastore, 14, 0, 0, 0, 0, 0, 0, 0, []), (.return_, 15, 0, 0, 0, 0, 0, 0, 0, [])]
set_option maxRecDepth 100000 in
theorem zk_X11_put__0 : zOks nX11_put_ zo_X11_put__0 0 = true := by decide +kernel
def zm_X11_put_ : List (Nat × List Bool) := [(0, [true, true, true, false])]
set_option maxRecDepth 100000 in
set_option maxHeartbeats 4000000 in
theorem zr_X11_put__0 {C : zCa} {post : zPo} {X : zX} (hX : zClosed none C post nX11_put_ X) (p0 : Nat) (p1 : Int32) (p2 : Int64) (σ : zS) (h : zIf ((p1 : Int32) < 0) (post none σ) (zLe none p0 (fun x1 => zIf ((p1 : Int32) < x1) (zG (zIsJ p0) (vp_in p1 (zN p0) ∧ (post none (zSJ σ p0 (Int32.toNatClampNeg p1) p2)))) (post none σ)))) : X 0 [some (.ref p0), some (.int p1), some (.long p2), none] [] σ := zSeq_ok hX zm_X11_put_ zo_X11_put__0 0 0 _ _ _ zk_X11_put__0 h
theorem ze_X11_put_ {d : Nat} {post : zPo} (p0 : Nat) (p1 : Int32) (p2 : Int64) (σ : zS) (h : ∀ X : zX, zClosed none (zCall d) post nX11_put_ X → X 0 [some (.ref p0), some (.int p1), some (.long p2), none] [] σ) : zCall (d + 1) nX11_put_ [.ref p0, .int p1, .long p2] σ post := h
-- X11_relax(0,) depth 7
def zo_X11_relax_0 : List zOp := [(.iload_n 1, 1, 1, 0, 0, 0, 0, 0, 0, []), (.iconst 0, 2, 0, 0, 0, 0, 0, 0, 0, []), (.ldc 230, 4, 0, 0, 0, 0, 793, 10000000, 0, []), (.invokestatic 130, 7, 124, 3, 1, 0, 513, 0, 0, []), (.ifCond .ne 6, 10, 13, 0, 0, 0, 0, 0, 0, []), (.bipush (-2), 12, 0, 0, 0, 0, 0, (-2), 0, []), (.ireturn, 13, 0, 0, 0, 0, 0, 0, 0, []), (.aload_n 0, 14, 0, 0, 0, 0, 0, 0, 0, []), (.getfield 26, 17, 11, 2, 0, 0, 471, 0, 0, []), (.getfield 234, 20, 7, 0, 2, 0, 193, 0, 0, []), (.ifCond .eq 21, 23, 41, 0, 0, 0, 0, 0, 0, []), (.aload_n 0, 24, 0, 0, 0, 0, 0, 0, 0, []), (.getfield 74, 27, 11, 8, 0, 0, 477, 0, 0, []), (.aload_n 0, 28, 0, 0, 0, 0, 0, 0, 0, []), (.getfield 26, 31, 11, 2, 0, 0, 471, 0, 0, []), (.getfield 217, 34, 7, 1, 0, 0, 195, 0, 0, []), (.iload_n 1, 35, 1, 0, 0, 0, 0, 0, 0, []), (.invokevirtual 245, 38, 51, 3, 1, 5, 871, 0, 0, []), (.goto 5, 41, 43, 0, 0, 0, 0, 0, 0, []), (.bipush (-3), 43, 0, 0, 0, 0, 0, (-3), 0, []), (.ireturn, 44, 0, 0, 0, 0, 0, 0, 0, [])]
set_option maxRecDepth 100000 in
theorem zk_X11_relax_0 : zOks nX11_relax zo_X11_relax_0 0 = true := by decide +kernel
def zm_X11_relax : List (Nat × List Bool) := [(0, [true, true])]
set_option maxRecDepth 100000 in
set_option maxHeartbeats 4000000 in
theorem zr_X11_relax_0 {C : zCa} {post : zPo} {X : zX} (hX : zClosed none C post nX11_relax X) (p0 : Int32) (σ : zS) (h : C nX11_within [.int p0, .int 0, .int 10000000] σ (zPI fun x2 σ1 => zIf ((x2 : Int32) = 0) (post (some (.int (-2))) σ1) (zIf ((σ1.1 9 0 : Int32) = 0) (post (some (.int (-3))) σ1) (C nX5_loosen [.ref 34, .ref 10, .int p0] σ1 (zPI fun x4 σ3 => post (some (.int x4)) σ3))))) : X 0 [some (.ref 0), some (.int p0)] [] σ := zSeq_ok hX zm_X11_relax zo_X11_relax_0 0 0 _ _ _ zk_X11_relax_0 h
theorem ze_X11_relax {d : Nat} {post : zPo} (p0 : Int32) (σ : zS) (h : ∀ X : zX, zClosed none (zCall d) post nX11_relax X → X 0 [some (.ref 0), some (.int p0)] [] σ) : zCall (d + 1) nX11_relax [.ref 0, .int p0] σ post := h
-- X11_repair(0,) depth 7
def zo_X11_repair_0 : List zOp := [(.aload_n 0, 1, 0, 0, 0, 0, 0, 0, 0, []), (.getfield 26, 4, 11, 2, 0, 0, 471, 0, 0, []), (.getfield 234, 7, 7, 0, 2, 0, 193, 0, 0, []), (.ifCond .eq 20, 10, 27, 0, 0, 0, 0, 0, 0, []), (.aload_n 0, 11, 0, 0, 0, 0, 0, 0, 0, []), (.getfield 74, 14, 11, 8, 0, 0, 477, 0, 0, []), (.aload_n 0, 15, 0, 0, 0, 0, 0, 0, 0, []), (.getfield 26, 18, 11, 2, 0, 0, 471, 0, 0, []), (.getfield 217, 21, 7, 1, 0, 0, 195, 0, 0, []), (.invokevirtual 241, 24, 46, 2, 1, 5, 826, 0, 0, []), (.goto 5, 27, 29, 0, 0, 0, 0, 0, 0, []), (.bipush (-3), 29, 0, 0, 0, 0, 0, (-3), 0, []), (.ireturn, 30, 0, 0, 0, 0, 0, 0, 0, [])]
set_option maxRecDepth 100000 in
theorem zk_X11_repair_0 : zOks nX11_repair zo_X11_repair_0 0 = true := by decide +kernel
def zm_X11_repair : List (Nat × List Bool) := [(0, [true])]
set_option maxRecDepth 100000 in
set_option maxHeartbeats 4000000 in
theorem zr_X11_repair_0 {C : zCa} {post : zPo} {X : zX} (hX : zClosed none C post nX11_repair X) (σ : zS) (h : zIf ((σ.1 9 0 : Int32) = 0) (post (some (.int (-3))) σ) (C nX5_mend [.ref 34, .ref 10] σ (zPI fun x2 σ1 => post (some (.int x2)) σ1))) : X 0 [some (.ref 0)] [] σ := zSeq_ok hX zm_X11_repair zo_X11_repair_0 0 0 _ _ _ zk_X11_repair_0 h
theorem ze_X11_repair {d : Nat} {post : zPo} (σ : zS) (h : ∀ X : zX, zClosed none (zCall d) post nX11_repair X → X 0 [some (.ref 0)] [] σ) : zCall (d + 1) nX11_repair [.ref 0] σ post := h
-- X11_restore(0,) depth 6
def zo_X11_restore_0 : List zOp := [(.iload_n 1, 1, 1, 0, 0, 0, 0, 0, 0, []), (.iconst 0, 2, 0, 0, 0, 0, 0, 0, 0, []), (.iconst 1, 3, 0, 0, 0, 0, 0, 1, 0, []), (.invokestatic 130, 6, 124, 3, 1, 0, 513, 0, 0, []), (.ifCond .ne 6, 9, 12, 0, 0, 0, 0, 0, 0, []), (.bipush (-2), 11, 0, 0, 0, 0, 0, (-2), 0, []), (.ireturn, 12, 0, 0, 0, 0, 0, 0, 0, []), (.iload_n 1, 13, 1, 0, 0, 0, 0, 0, 0, []), (.ifCond .ne 10, 16, 23, 0, 0, 0, 0, 0, 0, []), (.aload_n 0, 17, 0, 0, 0, 0, 0, 0, 0, []), (.getfield 90, 20, 11, 10, 0, 0, 479, 0, 0, []), (.goto 7, 23, 27, 0, 0, 0, 0, 0, 0, []), (.aload_n 0, 24, 0, 0, 0, 0, 0, 0, 0, []), (.getfield 94, 27, 11, 11, 0, 0, 480, 0, 0, []), (.astore_n 2, 28, 2, 0, 0, 0, 0, 0, 0, []), (.aload_n 2, 29, 2, 0, 0, 0, 0, 0, 0, []), (.getfield 307, 32, 9, 0, 2, 0, 453, 0, 0, []), (.ifCond .ne 6, 35, 38, 0, 0, 0, 0, 0, 0, []), (.bipush (-3), 37, 0, 0, 0, 0, 0, (-3), 0, []), (.ireturn, 38, 0, 0, 0, 0, 0, 0, 0, []), (.aload_n 0, 39, 0, 0, 0, 0, 0, 0, 0, []), (.getfield 10, 42, 11, 0, 0, 0, 469, 0, 0, []), (.aload_n 2, 43, 2, 0, 0, 0, 0, 0, 0, []), (.getfield 298, 46, 9, 1, 0, 0, 455, 0, 0, []), (.invokevirtual 145, 49, 3, 2, 0, 0, 626, 0, 0, []), (.aload_n 0, 50, 0, 0, 0, 0, 0, 0, 0, []), (.getfield 19, 53, 11, 1, 0, 0, 470, 0, 0, []), (.aload_n 2, 54, 2, 0, 0, 0, 0, 0, 0, []), (.getfield 299, 57, 9, 2, 0, 0, 457, 0, 0, []), (.invokevirtual 300, 60, 65, 2, 0, 8, 1012, 0, 0, []), (.aload_n 0, 61, 0, 0, 0, 0, 0, 0, 0, []), (.invokevirtual 109, 64, 114, 1, 0, 11, 523, 0, 0, []), (.aload_n 0, 65, 0, 0, 0, 0, 0, 0, 0, []), (.getfield 26, 68, 11, 2, 0, 0, 471, 0, 0, []), (.aload_n 2, 69, 2, 0, 0, 0, 0, 0, 0, []), (.getfield 303, 72, 9, 3, 0, 0, 459, 0, 0, []), (.invokevirtual 304, 75, 61, 2, 0, 7, 1017, 0, 0, []), (.aload_n 0, 76, 0, 0, 0, 0, 0, 0, 0, []), (.getfield 10, 79, 11, 0, 0, 0, 469, 0, 0, []), (.getfield 101, 82, 0, 0, 1, 0, 101, 0, 0, []), (.ireturn, 83, 0, 0, 0, 0, 0, 0, 0, [])]
set_option maxRecDepth 100000 in
theorem zk_X11_restore_0 : zOks nX11_restore zo_X11_restore_0 0 = true := by decide +kernel
def zm_X11_restore : List (Nat × List Bool) := [(0, [true, true, false])]
set_option maxRecDepth 100000 in
set_option maxHeartbeats 4000000 in
theorem zr_X11_restore_0 {C : zCa} {post : zPo} {X : zX} (hX : zClosed none C post nX11_restore X) (p0 : Int32) (σ : zS) (h : C nX11_within [.int p0, .int 0, .int 1] σ (zPI fun x2 σ1 => zIf ((x2 : Int32) = 0) (post (some (.int (-2))) σ1) (zIf ((p0 : Int32) = 0) (zIf ((σ1.1 41 0 : Int32) = 0) (post (some (.int (-3))) σ1) (C nX0_copyFrom [.ref 1, .ref 42] σ1 (zPV fun σ3 => C nX8_copyFrom [.ref 4, .ref 45] σ3 (zPV fun σ4 => C nX11_arrangeAnew [.ref 0] σ4 (zPV fun σ5 => C nX7_copyFrom [.ref 9, .ref 50] σ5 (zPV fun σ6 => post (some (.int (σ6.1 1 0))) σ6)))))) (zIf ((σ1.1 52 0 : Int32) = 0) (post (some (.int (-3))) σ1) (C nX0_copyFrom [.ref 1, .ref 53] σ1 (zPV fun σ7 => C nX8_copyFrom [.ref 4, .ref 56] σ7 (zPV fun σ8 => C nX11_arrangeAnew [.ref 0] σ8 (zPV fun σ9 => C nX7_copyFrom [.ref 9, .ref 61] σ9 (zPV fun σ10 => post (some (.int (σ10.1 1 0))) σ10))))))))) : X 0 [some (.ref 0), some (.int p0), none] [] σ := zSeq_ok hX zm_X11_restore zo_X11_restore_0 0 0 _ _ _ zk_X11_restore_0 h
theorem ze_X11_restore {d : Nat} {post : zPo} (p0 : Int32) (σ : zS) (h : ∀ X : zX, zClosed none (zCall d) post nX11_restore X → X 0 [some (.ref 0), some (.int p0), none] [] σ) : zCall (d + 1) nX11_restore [.ref 0, .int p0] σ post := h
-- X11_save(0,) depth 3
def zo_X11_save_0 : List zOp := [(.iload_n 1, 1, 1, 0, 0, 0, 0, 0, 0, []), (.iconst 0, 2, 0, 0, 0, 0, 0, 0, 0, []), (.iconst 1, 3, 0, 0, 0, 0, 0, 1, 0, []), (.invokestatic 130, 6, 124, 3, 1, 0, 513, 0, 0, []), (.ifCond .ne 6, 9, 12, 0, 0, 0, 0, 0, 0, []), (.bipush (-2), 11, 0, 0, 0, 0, 0, (-2), 0, []), (.ireturn, 12, 0, 0, 0, 0, 0, 0, 0, []), (.iload_n 1, 13, 1, 0, 0, 0, 0, 0, 0, []), (.ifCond .ne 10, 16, 23, 0, 0, 0, 0, 0, 0, []), (.aload_n 0, 17, 0, 0, 0, 0, 0, 0, 0, []), (.getfield 90, 20, 11, 10, 0, 0, 479, 0, 0, []), (.goto 7, 23, 27, 0, 0, 0, 0, 0, 0, []), (.aload_n 0, 24, 0, 0, 0, 0, 0, 0, 0, []), (.getfield 94, 27, 11, 11, 0, 0, 480, 0, 0, []), (.astore_n 2, 28, 2, 0, 0, 0, 0, 0, 0, []), (.aload_n 2, 29, 2, 0, 0, 0, 0, 0, 0, []), (.getfield 298, 32, 9, 1, 0, 0, 455, 0, 0, []), (.aload_n 0, 33, 0, 0, 0, 0, 0, 0, 0, []), (.getfield 10, 36, 11, 0, 0, 0, 469, 0, 0, []), (.invokevirtual 145, 39, 3, 2, 0, 0, 626, 0, 0, []), (.aload_n 2, 40, 2, 0, 0, 0, 0, 0, 0, []), (.getfield 299, 43, 9, 2, 0, 0, 457, 0, 0, []), (.aload_n 0, 44, 0, 0, 0, 0, 0, 0, 0, []), (.getfield 19, 47, 11, 1, 0, 0, 470, 0, 0, []), (.invokevirtual 300, 50, 65, 2, 0, 8, 1012, 0, 0, []), (.aload_n 2, 51, 2, 0, 0, 0, 0, 0, 0, []), (.getfield 303, 54, 9, 3, 0, 0, 459, 0, 0, []), (.aload_n 0, 55, 0, 0, 0, 0, 0, 0, 0, []), (.getfield 26, 58, 11, 2, 0, 0, 471, 0, 0, []), (.invokevirtual 304, 61, 61, 2, 0, 7, 1017, 0, 0, []), (.aload_n 2, 62, 2, 0, 0, 0, 0, 0, 0, []), (.iconst 1, 63, 0, 0, 0, 0, 0, 1, 0, []), (.putfield 307, 66, 9, 0, 2, 0, 453, 0, 0, []), (.aload_n 0, 67, 0, 0, 0, 0, 0, 0, 0, []), (.getfield 10, 70, 11, 0, 0, 0, 469, 0, 0, []), (.getfield 101, 73, 0, 0, 1, 0, 101, 0, 0, []), (.ireturn, 74, 0, 0, 0, 0, 0, 0, 0, [])]
set_option maxRecDepth 100000 in
theorem zk_X11_save_0 : zOks nX11_save zo_X11_save_0 0 = true := by decide +kernel
def zm_X11_save : List (Nat × List Bool) := [(0, [true, true, false])]
set_option maxRecDepth 100000 in
set_option maxHeartbeats 4000000 in
theorem zr_X11_save_0 {C : zCa} {post : zPo} {X : zX} (hX : zClosed none C post nX11_save X) (p0 : Int32) (σ : zS) (h : C nX11_within [.int p0, .int 0, .int 1] σ (zPI fun x2 σ1 => zIf ((x2 : Int32) = 0) (post (some (.int (-2))) σ1) (zIf ((p0 : Int32) = 0) (C nX0_copyFrom [.ref 42, .ref 1] σ1 (zPV fun σ3 => C nX8_copyFrom [.ref 45, .ref 4] σ3 (zPV fun σ4 => C nX7_copyFrom [.ref 50, .ref 9] σ4 (zPV fun σ5 => post (some (.int ((zSI σ5 41 0 1).1 1 0))) (zSI σ5 41 0 1))))) (C nX0_copyFrom [.ref 53, .ref 1] σ1 (zPV fun σ6 => C nX8_copyFrom [.ref 56, .ref 4] σ6 (zPV fun σ7 => C nX7_copyFrom [.ref 61, .ref 9] σ7 (zPV fun σ8 => post (some (.int ((zSI σ8 52 0 1).1 1 0))) (zSI σ8 52 0 1)))))))) : X 0 [some (.ref 0), some (.int p0), none] [] σ := zSeq_ok hX zm_X11_save zo_X11_save_0 0 0 _ _ _ zk_X11_save_0 h
theorem ze_X11_save {d : Nat} {post : zPo} (p0 : Int32) (σ : zS) (h : ∀ X : zX, zClosed none (zCall d) post nX11_save X → X 0 [some (.ref 0), some (.int p0), none] [] σ) : zCall (d + 1) nX11_save [.ref 0, .int p0] σ post := h
-- X11_set(0,) depth 6
def zo_X11_set_0 : List zOp := [(.aload_n 0, 1, 0, 0, 0, 0, 0, 0, 0, []), (.iload_n 1, 2, 1, 0, 0, 0, 0, 0, 0, []), (.invokevirtual 112, 5, 121, 2, 1, 11, 572, 0, 0, []), (.ifCond .eq 11, 8, 16, 0, 0, 0, 0, 0, 0, []), (.iload_n 2, 9, 2, 0, 0, 0, 0, 0, 0, []), (.iload_n 3, 10, 3, 0, 0, 0, 0, 0, 0, []), (.invokestatic 97, 13, 122, 2, 1, 0, 510, 0, 0, []), (.ifCond .ne 6, 16, 19, 0, 0, 0, 0, 0, 0, []), (.bipush (-2), 18, 0, 0, 0, 0, 0, (-2), 0, []), (.ireturn, 19, 0, 0, 0, 0, 0, 0, 0, []), (.aload_n 0, 20, 0, 0, 0, 0, 0, 0, 0, []), (.getfield 10, 23, 11, 0, 0, 0, 469, 0, 0, []), (.getfield 116, 26, 0, 1, 0, 0, 104, 0, 0, []), (.iload_n 1, 27, 1, 0, 0, 0, 0, 0, 0, []), (.iload_n 2, 28, 2, 0, 0, 0, 0, 0, 0, []), (.invokestatic 120, 31, 128, 3, 0, 0, 576, 0, 0, []), (.aload_n 0, 32, 0, 0, 0, 0, 0, 0, 0, []), (.getfield 10, 35, 11, 0, 0, 0, 469, 0, 0, []), (.getfield 124, 38, 0, 2, 0, 0, 107, 0, 0, []), (.iload_n 1, 39, 1, 0, 0, 0, 0, 0, 0, []), (.iload_n 3, 40, 3, 0, 0, 0, 0, 0, 0, []), (.invokestatic 120, 43, 128, 3, 0, 0, 576, 0, 0, []), (.aload_n 0, 44, 0, 0, 0, 0, 0, 0, 0, []), (.invokevirtual 109, 47, 114, 1, 0, 11, 523, 0, 0, []), (.aload_n 0, 48, 0, 0, 0, 0, 0, 0, 0, []), (.getfield 10, 51, 11, 0, 0, 0, 469, 0, 0, []), (.iload_n 1, 52, 1, 0, 0, 0, 0, 0, 0, []), (.invokevirtual 127, 55, 2, 2, 1, 0, 577, 0, 0, []), (.ifCond .eq 7, 58, 62, 0, 0, 0, 0, 0, 0, []), (.iconst 1, 59, 0, 0, 0, 0, 0, 1, 0, []), (.goto 4, 62, 63, 0, 0, 0, 0, 0, 0, []), (.iconst 0, 63, 0, 0, 0, 0, 0, 0, 0, []), (.ireturn, 64, 0, 0, 0, 0, 0, 0, 0, [])]
set_option maxRecDepth 100000 in
theorem zk_X11_set_0 : zOks nX11_set zo_X11_set_0 0 = true := by decide +kernel
def zm_X11_set : List (Nat × List Bool) := [(0, [true, true, true, true])]
set_option maxRecDepth 100000 in
set_option maxHeartbeats 4000000 in
theorem zr_X11_set_0 {C : zCa} {post : zPo} {X : zX} (hX : zClosed none C post nX11_set X) (p0 : Int32) (p1 : Int32) (p2 : Int32) (σ : zS) (h : C nX11_isFrame [.ref 0, .int p0] σ (zPI fun x2 σ1 => zIf ((x2 : Int32) = 0) (post (some (.int (-2))) σ1) (C nX11_isPicture [.int p1, .int p2] σ1 (zPI fun x4 σ3 => zIf ((x4 : Int32) = 0) (post (some (.int (-2))) σ3) (C nX11_put [.ref 2, .int p0, .int p1] σ3 (zPV fun σ5 => C nX11_put [.ref 3, .int p0, .int p2] σ5 (zPV fun σ6 => C nX11_arrangeAnew [.ref 0] σ6 (zPV fun σ7 => C nX0_isCut [.ref 1, .int p0] σ7 (zPI fun x9 σ8 => zIf ((x9 : Int32) = 0) (post (some (.int 0)) σ8) (post (some (.int 1)) σ8)))))))))) : X 0 [some (.ref 0), some (.int p0), some (.int p1), some (.int p2)] [] σ := zSeq_ok hX zm_X11_set zo_X11_set_0 0 0 _ _ _ zk_X11_set_0 h
theorem ze_X11_set {d : Nat} {post : zPo} (p0 : Int32) (p1 : Int32) (p2 : Int32) (σ : zS) (h : ∀ X : zX, zClosed none (zCall d) post nX11_set X → X 0 [some (.ref 0), some (.int p0), some (.int p1), some (.int p2)] [] σ) : zCall (d + 1) nX11_set [.ref 0, .int p0, .int p1, .int p2] σ post := h
-- X11_setBridges(0,) depth 6
def zo_X11_setBridges_0 : List zOp := [(.iload_n 1, 1, 1, 0, 0, 0, 0, 0, 0, []), (.iconst 0, 2, 0, 0, 0, 0, 0, 0, 0, []), (.iconst 3, 3, 0, 0, 0, 0, 0, 3, 0, []), (.invokestatic 130, 6, 124, 3, 1, 0, 513, 0, 0, []), (.ifCond .ne 6, 9, 12, 0, 0, 0, 0, 0, 0, []), (.bipush (-2), 11, 0, 0, 0, 0, 0, (-2), 0, []), (.ireturn, 12, 0, 0, 0, 0, 0, 0, 0, []), (.aload_n 0, 13, 0, 0, 0, 0, 0, 0, 0, []), (.getfield 19, 16, 11, 1, 0, 0, 470, 0, 0, []), (.getfield 177, 19, 8, 1, 1, 0, 129, 0, 0, []), (.istore_n 2, 20, 2, 0, 0, 0, 0, 0, 0, []), (.aload_n 0, 21, 0, 0, 0, 0, 0, 0, 0, []), (.getfield 19, 24, 11, 1, 0, 0, 470, 0, 0, []), (.iload_n 1, 25, 1, 0, 0, 0, 0, 0, 0, []), (.putfield 177, 28, 8, 1, 1, 0, 129, 0, 0, []), (.aload_n 0, 29, 0, 0, 0, 0, 0, 0, 0, []), (.invokevirtual 109, 32, 114, 1, 0, 11, 523, 0, 0, []), (.iload_n 2, 33, 2, 0, 0, 0, 0, 0, 0, []), (.ireturn, 34, 0, 0, 0, 0, 0, 0, 0, [])]
set_option maxRecDepth 100000 in
theorem zk_X11_setBridges_0 : zOks nX11_setBridges zo_X11_setBridges_0 0 = true := by decide +kernel
def zm_X11_setBridges : List (Nat × List Bool) := [(0, [true, true, false])]
set_option maxRecDepth 100000 in
set_option maxHeartbeats 4000000 in
theorem zr_X11_setBridges_0 {C : zCa} {post : zPo} {X : zX} (hX : zClosed none C post nX11_setBridges X) (p0 : Int32) (σ : zS) (h : C nX11_within [.int p0, .int 0, .int 3] σ (zPI fun x2 σ1 => zIf ((x2 : Int32) = 0) (post (some (.int (-2))) σ1) (C nX11_arrangeAnew [.ref 0] (zSI σ1 4 1 p0) (zPV fun σ3 => post (some (.int (σ1.1 4 1))) σ3)))) : X 0 [some (.ref 0), some (.int p0), none] [] σ := zSeq_ok hX zm_X11_setBridges zo_X11_setBridges_0 0 0 _ _ _ zk_X11_setBridges_0 h
theorem ze_X11_setBridges {d : Nat} {post : zPo} (p0 : Int32) (σ : zS) (h : ∀ X : zX, zClosed none (zCall d) post nX11_setBridges X → X 0 [some (.ref 0), some (.int p0), none] [] σ) : zCall (d + 1) nX11_setBridges [.ref 0, .int p0] σ post := h
-- X11_setBuffer(0,) depth 2
def zo_X11_setBuffer_0 : List zOp := [(.iload_n 1, 1, 1, 0, 0, 0, 0, 0, 0, []), (.bipush 100, 3, 0, 0, 0, 0, 0, 100, 0, []), (.ldc 192, 5, 0, 0, 0, 0, 671, 1000000, 0, []), (.invokestatic 130, 8, 124, 3, 1, 0, 513, 0, 0, []), (.ifCond .eq 13, 11, 21, 0, 0, 0, 0, 0, 0, []), (.iload_n 2, 12, 2, 0, 0, 0, 0, 0, 0, []), (.iconst 0, 13, 0, 0, 0, 0, 0, 0, 0, []), (.bipush 100, 15, 0, 0, 0, 0, 0, 100, 0, []), (.invokestatic 130, 18, 124, 3, 1, 0, 513, 0, 0, []), (.ifCond .ne 6, 21, 24, 0, 0, 0, 0, 0, 0, []), (.bipush (-2), 23, 0, 0, 0, 0, 0, (-2), 0, []), (.ireturn, 24, 0, 0, 0, 0, 0, 0, 0, []), (.aload_n 0, 25, 0, 0, 0, 0, 0, 0, 0, []), (.getfield 19, 28, 11, 1, 0, 0, 470, 0, 0, []), (.getfield 193, 31, 8, 4, 1, 0, 142, 0, 0, []), (.istore_n 3, 32, 3, 0, 0, 0, 0, 0, 0, []), (.aload_n 0, 33, 0, 0, 0, 0, 0, 0, 0, []), (.getfield 19, 36, 11, 1, 0, 0, 470, 0, 0, []), (.iload_n 1, 37, 1, 0, 0, 0, 0, 0, 0, []), (.putfield 193, 40, 8, 4, 1, 0, 142, 0, 0, []), (.aload_n 0, 41, 0, 0, 0, 0, 0, 0, 0, []), (.getfield 19, 44, 11, 1, 0, 0, 470, 0, 0, []), (.iload_n 2, 45, 2, 0, 0, 0, 0, 0, 0, []), (.putfield 196, 48, 8, 5, 1, 0, 147, 0, 0, []), (.iload_n 3, 49, 3, 0, 0, 0, 0, 0, 0, []), (.ireturn, 50, 0, 0, 0, 0, 0, 0, 0, [])]
set_option maxRecDepth 100000 in
theorem zk_X11_setBuffer_0 : zOks nX11_setBuffer zo_X11_setBuffer_0 0 = true := by decide +kernel
def zm_X11_setBuffer : List (Nat × List Bool) := [(0, [true, true, true, false])]
set_option maxRecDepth 100000 in
set_option maxHeartbeats 4000000 in
theorem zr_X11_setBuffer_0 {C : zCa} {post : zPo} {X : zX} (hX : zClosed none C post nX11_setBuffer X) (p0 : Int32) (p1 : Int32) (σ : zS) (h : C nX11_within [.int p0, .int 100, .int 1000000] σ (zPI fun x2 σ1 => zIf ((x2 : Int32) = 0) (post (some (.int (-2))) σ1) (C nX11_within [.int p1, .int 0, .int 100] σ1 (zPI fun x4 σ3 => zIf ((x4 : Int32) = 0) (post (some (.int (-2))) σ3) (post (some (.int (σ3.1 4 4))) (zSI (zSI σ3 4 4 p0) 4 5 p1)))))) : X 0 [some (.ref 0), some (.int p0), some (.int p1), none] [] σ := zSeq_ok hX zm_X11_setBuffer zo_X11_setBuffer_0 0 0 _ _ _ zk_X11_setBuffer_0 h
theorem ze_X11_setBuffer {d : Nat} {post : zPo} (p0 : Int32) (p1 : Int32) (σ : zS) (h : ∀ X : zX, zClosed none (zCall d) post nX11_setBuffer X → X 0 [some (.ref 0), some (.int p0), some (.int p1), none] [] σ) : zCall (d + 1) nX11_setBuffer [.ref 0, .int p0, .int p1] σ post := h
-- X11_setInterval(0,) depth 6
def zo_X11_setInterval_0 : List zOp := [(.iload_n 1, 1, 1, 0, 0, 0, 0, 0, 0, []), (.iconst 1, 2, 0, 0, 0, 0, 0, 1, 0, []), (.bipush 60, 4, 0, 0, 0, 0, 0, 60, 0, []), (.invokestatic 130, 7, 124, 3, 1, 0, 513, 0, 0, []), (.ifCond .ne 6, 10, 13, 0, 0, 0, 0, 0, 0, []), (.bipush (-2), 12, 0, 0, 0, 0, 0, (-2), 0, []), (.ireturn, 13, 0, 0, 0, 0, 0, 0, 0, []), (.aload_n 0, 14, 0, 0, 0, 0, 0, 0, 0, []), (.getfield 19, 17, 11, 1, 0, 0, 470, 0, 0, []), (.getfield 174, 20, 8, 0, 1, 0, 126, 0, 0, []), (.istore_n 2, 21, 2, 0, 0, 0, 0, 0, 0, []), (.aload_n 0, 22, 0, 0, 0, 0, 0, 0, 0, []), (.getfield 19, 25, 11, 1, 0, 0, 470, 0, 0, []), (.iload_n 1, 26, 1, 0, 0, 0, 0, 0, 0, []), (.putfield 174, 29, 8, 0, 1, 0, 126, 0, 0, []), (.aload_n 0, 30, 0, 0, 0, 0, 0, 0, 0, []), (.invokevirtual 109, 33, 114, 1, 0, 11, 523, 0, 0, []), (.iload_n 2, 34, 2, 0, 0, 0, 0, 0, 0, []), (.ireturn, 35, 0, 0, 0, 0, 0, 0, 0, [])]
set_option maxRecDepth 100000 in
theorem zk_X11_setInterval_0 : zOks nX11_setInterval zo_X11_setInterval_0 0 = true := by decide +kernel
def zm_X11_setInterval : List (Nat × List Bool) := [(0, [true, true, false])]
set_option maxRecDepth 100000 in
set_option maxHeartbeats 4000000 in
theorem zr_X11_setInterval_0 {C : zCa} {post : zPo} {X : zX} (hX : zClosed none C post nX11_setInterval X) (p0 : Int32) (σ : zS) (h : C nX11_within [.int p0, .int 1, .int 60] σ (zPI fun x2 σ1 => zIf ((x2 : Int32) = 0) (post (some (.int (-2))) σ1) (C nX11_arrangeAnew [.ref 0] (zSI σ1 4 0 p0) (zPV fun σ3 => post (some (.int (σ1.1 4 0))) σ3)))) : X 0 [some (.ref 0), some (.int p0), none] [] σ := zSeq_ok hX zm_X11_setInterval zo_X11_setInterval_0 0 0 _ _ _ zk_X11_setInterval_0 h
theorem ze_X11_setInterval {d : Nat} {post : zPo} (p0 : Int32) (σ : zS) (h : ∀ X : zX, zClosed none (zCall d) post nX11_setInterval X → X 0 [some (.ref 0), some (.int p0), none] [] σ) : zCall (d + 1) nX11_setInterval [.ref 0, .int p0] σ post := h
-- X11_setRange(0,) depth 3
def zo_X11_setRange_0 : List zOp := [(.iload_n 1, 1, 1, 0, 0, 0, 0, 0, 0, []), (.invokestatic 183, 4, 123, 1, 1, 0, 664, 0, 0, []), (.ifCond .eq 13, 7, 17, 0, 0, 0, 0, 0, 0, []), (.iload_n 2, 8, 2, 0, 0, 0, 0, 0, 0, []), (.iload_n 1, 9, 1, 0, 0, 0, 0, 0, 0, []), (.bipush 51, 11, 0, 0, 0, 0, 0, 51, 0, []), (.invokestatic 130, 14, 124, 3, 1, 0, 513, 0, 0, []), (.ifCond .ne 6, 17, 20, 0, 0, 0, 0, 0, 0, []), (.bipush (-2), 19, 0, 0, 0, 0, 0, (-2), 0, []), (.ireturn, 20, 0, 0, 0, 0, 0, 0, 0, []), (.bipush 100, 22, 0, 0, 0, 0, 0, 100, 0, []), (.aload_n 0, 23, 0, 0, 0, 0, 0, 0, 0, []), (.getfield 19, 26, 11, 1, 0, 0, 470, 0, 0, []), (.getfield 186, 29, 8, 2, 1, 0, 133, 0, 0, []), (.imul, 30, 0, 0, 0, 0, 0, 0, 0, []), (.aload_n 0, 31, 0, 0, 0, 0, 0, 0, 0, []), (.getfield 19, 34, 11, 1, 0, 0, 470, 0, 0, []), (.getfield 189, 37, 8, 3, 1, 0, 137, 0, 0, []), (.iadd, 38, 0, 0, 0, 0, 0, 0, 0, []), (.istore_n 3, 39, 3, 0, 0, 0, 0, 0, 0, []), (.aload_n 0, 40, 0, 0, 0, 0, 0, 0, 0, []), (.getfield 19, 43, 11, 1, 0, 0, 470, 0, 0, []), (.iload_n 1, 44, 1, 0, 0, 0, 0, 0, 0, []), (.putfield 186, 47, 8, 2, 1, 0, 133, 0, 0, []), (.aload_n 0, 48, 0, 0, 0, 0, 0, 0, 0, []), (.getfield 19, 51, 11, 1, 0, 0, 470, 0, 0, []), (.iload_n 2, 52, 2, 0, 0, 0, 0, 0, 0, []), (.putfield 189, 55, 8, 3, 1, 0, 137, 0, 0, []), (.iload_n 3, 56, 3, 0, 0, 0, 0, 0, 0, []), (.ireturn, 57, 0, 0, 0, 0, 0, 0, 0, [])]
set_option maxRecDepth 100000 in
theorem zk_X11_setRange_0 : zOks nX11_setRange zo_X11_setRange_0 0 = true := by decide +kernel
def zm_X11_setRange : List (Nat × List Bool) := [(0, [true, true, true, false])]
set_option maxRecDepth 100000 in
set_option maxHeartbeats 4000000 in
theorem zr_X11_setRange_0 {C : zCa} {post : zPo} {X : zX} (hX : zClosed none C post nX11_setRange X) (p0 : Int32) (p1 : Int32) (σ : zS) (h : C nX11_isQuantizer [.int p0] σ (zPI fun x2 σ1 => zIf ((x2 : Int32) = 0) (post (some (.int (-2))) σ1) (C nX11_within [.int p1, .int p0, .int 51] σ1 (zPI fun x4 σ3 => zIf ((x4 : Int32) = 0) (post (some (.int (-2))) σ3) (post (some (.int ((100 * (σ3.1 4 2)) + (σ3.1 4 3)))) (zSI (zSI σ3 4 2 p0) 4 3 p1)))))) : X 0 [some (.ref 0), some (.int p0), some (.int p1), none] [] σ := zSeq_ok hX zm_X11_setRange zo_X11_setRange_0 0 0 _ _ _ zk_X11_setRange_0 h
theorem ze_X11_setRange {d : Nat} {post : zPo} (p0 : Int32) (p1 : Int32) (σ : zS) (h : ∀ X : zX, zClosed none (zCall d) post nX11_setRange X → X 0 [some (.ref 0), some (.int p0), some (.int p1), none] [] σ) : zCall (d + 1) nX11_setRange [.ref 0, .int p0, .int p1] σ post := h
-- X11_setRate(0,) depth 2
def zo_X11_setRate_0 : List zOp := [(.iload_n 1, 1, 1, 0, 0, 0, 0, 0, 0, []), (.iconst 0, 2, 0, 0, 0, 0, 0, 0, 0, []), (.ldc 199, 4, 0, 0, 0, 0, 676, 100000, 0, []), (.invokestatic 130, 7, 124, 3, 1, 0, 513, 0, 0, []), (.ifCond .ne 6, 10, 13, 0, 0, 0, 0, 0, 0, []), (.bipush (-2), 12, 0, 0, 0, 0, 0, (-2), 0, []), (.ireturn, 13, 0, 0, 0, 0, 0, 0, 0, []), (.aload_n 0, 14, 0, 0, 0, 0, 0, 0, 0, []), (.getfield 19, 17, 11, 1, 0, 0, 470, 0, 0, []), (.getfield 200, 20, 8, 6, 1, 0, 152, 0, 0, []), (.istore_n 2, 21, 2, 0, 0, 0, 0, 0, 0, []), (.aload_n 0, 22, 0, 0, 0, 0, 0, 0, 0, []), (.getfield 19, 25, 11, 1, 0, 0, 470, 0, 0, []), (.iload_n 1, 26, 1, 0, 0, 0, 0, 0, 0, []), (.putfield 200, 29, 8, 6, 1, 0, 152, 0, 0, []), (.iload_n 2, 30, 2, 0, 0, 0, 0, 0, 0, []), (.ireturn, 31, 0, 0, 0, 0, 0, 0, 0, [])]
set_option maxRecDepth 100000 in
theorem zk_X11_setRate_0 : zOks nX11_setRate zo_X11_setRate_0 0 = true := by decide +kernel
def zm_X11_setRate : List (Nat × List Bool) := [(0, [true, true, false])]
set_option maxRecDepth 100000 in
set_option maxHeartbeats 4000000 in
theorem zr_X11_setRate_0 {C : zCa} {post : zPo} {X : zX} (hX : zClosed none C post nX11_setRate X) (p0 : Int32) (σ : zS) (h : C nX11_within [.int p0, .int 0, .int 100000] σ (zPI fun x2 σ1 => zIf ((x2 : Int32) = 0) (post (some (.int (-2))) σ1) (post (some (.int (σ1.1 4 6))) (zSI σ1 4 6 p0)))) : X 0 [some (.ref 0), some (.int p0), none] [] σ := zSeq_ok hX zm_X11_setRate zo_X11_setRate_0 0 0 _ _ _ zk_X11_setRate_0 h
theorem ze_X11_setRate {d : Nat} {post : zPo} (p0 : Int32) (σ : zS) (h : ∀ X : zX, zClosed none (zCall d) post nX11_setRate X → X 0 [some (.ref 0), some (.int p0), none] [] σ) : zCall (d + 1) nX11_setRate [.ref 0, .int p0] σ post := h
-- X11_setWeight(0,) depth 2
def zo_X11_setWeight_0 : List zOp := [(.iload_n 1, 1, 1, 0, 0, 0, 0, 0, 0, []), (.iconst 0, 2, 0, 0, 0, 0, 0, 0, 0, []), (.bipush 59, 4, 0, 0, 0, 0, 0, 59, 0, []), (.invokestatic 130, 7, 124, 3, 1, 0, 513, 0, 0, []), (.ifCond .eq 13, 10, 20, 0, 0, 0, 0, 0, 0, []), (.iload_n 2, 11, 2, 0, 0, 0, 0, 0, 0, []), (.iconst 1, 12, 0, 0, 0, 0, 0, 1, 0, []), (.bipush 8, 14, 0, 0, 0, 0, 0, 8, 0, []), (.invokestatic 130, 17, 124, 3, 1, 0, 513, 0, 0, []), (.ifCond .ne 6, 20, 23, 0, 0, 0, 0, 0, 0, []), (.bipush (-2), 22, 0, 0, 0, 0, 0, (-2), 0, []), (.ireturn, 23, 0, 0, 0, 0, 0, 0, 0, []), (.aload_n 0, 24, 0, 0, 0, 0, 0, 0, 0, []), (.getfield 19, 27, 11, 1, 0, 0, 470, 0, 0, []), (.getfield 180, 30, 8, 8, 0, 0, 157, 0, 0, []), (.iload_n 1, 31, 1, 0, 0, 0, 0, 0, 0, []), (.invokestatic 149, 34, 126, 2, 1, 0, 643, 0, 0, []), (.istore_n 3, 35, 3, 0, 0, 0, 0, 0, 0, []), (.aload_n 0, 36, 0, 0, 0, 0, 0, 0, 0, []), (.getfield 19, 39, 11, 1, 0, 0, 470, 0, 0, []), (.getfield 180, 42, 8, 8, 0, 0, 157, 0, 0, []), (.iload_n 1, 43, 1, 0, 0, 0, 0, 0, 0, []), (.iload_n 2, 44, 2, 0, 0, 0, 0, 0, 0, []), (.invokestatic 120, 47, 128, 3, 0, 0, 576, 0, 0, []), (.iload_n 3, 48, 3, 0, 0, 0, 0, 0, 0, []), (.ireturn, 49, 0, 0, 0, 0, 0, 0, 0, [])]
set_option maxRecDepth 100000 in
theorem zk_X11_setWeight_0 : zOks nX11_setWeight zo_X11_setWeight_0 0 = true := by decide +kernel
def zm_X11_setWeight : List (Nat × List Bool) := [(0, [true, true, true, false])]
set_option maxRecDepth 100000 in
set_option maxHeartbeats 4000000 in
theorem zr_X11_setWeight_0 {C : zCa} {post : zPo} {X : zX} (hX : zClosed none C post nX11_setWeight X) (p0 : Int32) (p1 : Int32) (σ : zS) (h : C nX11_within [.int p0, .int 0, .int 59] σ (zPI fun x2 σ1 => zIf ((x2 : Int32) = 0) (post (some (.int (-2))) σ1) (C nX11_within [.int p1, .int 1, .int 8] σ1 (zPI fun x4 σ3 => zIf ((x4 : Int32) = 0) (post (some (.int (-2))) σ3) (C nX11_at [.ref 5, .int p0] σ3 (zPI fun x6 σ5 => C nX11_put [.ref 5, .int p0, .int p1] σ5 (zPV fun σ7 => post (some (.int x6)) σ7))))))) : X 0 [some (.ref 0), some (.int p0), some (.int p1), none] [] σ := zSeq_ok hX zm_X11_setWeight zo_X11_setWeight_0 0 0 _ _ _ zk_X11_setWeight_0 h
theorem ze_X11_setWeight {d : Nat} {post : zPo} (p0 : Int32) (p1 : Int32) (σ : zS) (h : ∀ X : zX, zClosed none (zCall d) post nX11_setWeight X → X 0 [some (.ref 0), some (.int p0), some (.int p1), none] [] σ) : zCall (d + 1) nX11_setWeight [.ref 0, .int p0, .int p1] σ post := h
-- X11_smooth(0,) depth 3
def zo_X11_smooth_0 : List zOp := [(.iload_n 1, 1, 1, 0, 0, 0, 0, 0, 0, []), (.invokestatic 183, 4, 123, 1, 1, 0, 664, 0, 0, []), (.ifCond .ne 6, 7, 10, 0, 0, 0, 0, 0, 0, []), (.bipush (-2), 9, 0, 0, 0, 0, 0, (-2), 0, []), (.ireturn, 10, 0, 0, 0, 0, 0, 0, 0, []), (.aload_n 0, 11, 0, 0, 0, 0, 0, 0, 0, []), (.getfield 26, 14, 11, 2, 0, 0, 471, 0, 0, []), (.getfield 234, 17, 7, 0, 2, 0, 193, 0, 0, []), (.ifCond .eq 21, 20, 38, 0, 0, 0, 0, 0, 0, []), (.aload_n 0, 21, 0, 0, 0, 0, 0, 0, 0, []), (.getfield 74, 24, 11, 8, 0, 0, 477, 0, 0, []), (.aload_n 0, 25, 0, 0, 0, 0, 0, 0, 0, []), (.getfield 26, 28, 11, 2, 0, 0, 471, 0, 0, []), (.getfield 217, 31, 7, 1, 0, 0, 195, 0, 0, []), (.iload_n 1, 32, 1, 0, 0, 0, 0, 0, 0, []), (.invokevirtual 238, 35, 45, 3, 1, 5, 815, 0, 0, []), (.goto 5, 38, 40, 0, 0, 0, 0, 0, 0, []), (.bipush (-3), 40, 0, 0, 0, 0, 0, (-3), 0, []), (.ireturn, 41, 0, 0, 0, 0, 0, 0, 0, [])]
set_option maxRecDepth 100000 in
theorem zk_X11_smooth_0 : zOks nX11_smooth zo_X11_smooth_0 0 = true := by decide +kernel
def zm_X11_smooth : List (Nat × List Bool) := [(0, [true, true])]
set_option maxRecDepth 100000 in
set_option maxHeartbeats 4000000 in
theorem zr_X11_smooth_0 {C : zCa} {post : zPo} {X : zX} (hX : zClosed none C post nX11_smooth X) (p0 : Int32) (σ : zS) (h : C nX11_isQuantizer [.int p0] σ (zPI fun x2 σ1 => zIf ((x2 : Int32) = 0) (post (some (.int (-2))) σ1) (zIf ((σ1.1 9 0 : Int32) = 0) (post (some (.int (-3))) σ1) (C nX5_smoothen [.ref 34, .ref 10, .int p0] σ1 (zPI fun x4 σ3 => post (some (.int x4)) σ3))))) : X 0 [some (.ref 0), some (.int p0)] [] σ := zSeq_ok hX zm_X11_smooth zo_X11_smooth_0 0 0 _ _ _ zk_X11_smooth_0 h
theorem ze_X11_smooth {d : Nat} {post : zPo} (p0 : Int32) (σ : zS) (h : ∀ X : zX, zClosed none (zCall d) post nX11_smooth X → X 0 [some (.ref 0), some (.int p0)] [] σ) : zCall (d + 1) nX11_smooth [.ref 0, .int p0] σ post := h
-- X11_total(0,) depth 6
def zo_X11_total_0 : List zOp := [(.iload_n 1, 1, 1, 0, 0, 0, 0, 0, 0, []), (.iconst 0, 2, 0, 0, 0, 0, 0, 0, 0, []), (.bipush 6, 4, 0, 0, 0, 0, 0, 6, 0, []), (.invokestatic 130, 7, 124, 3, 1, 0, 513, 0, 0, []), (.ifCond .ne 7, 10, 14, 0, 0, 0, 0, 0, 0, []), (.ldc2_w 255, 13, 0, 0, 0, 0, 914, 0, (-2), []), (.lreturn, 14, 0, 0, 0, 0, 0, 0, 0, []), (.aload_n 0, 15, 0, 0, 0, 0, 0, 0, 0, []), (.getfield 26, 18, 11, 2, 0, 0, 471, 0, 0, []), (.getfield 234, 21, 7, 0, 2, 0, 193, 0, 0, []), (.ifCond .ne 7, 24, 28, 0, 0, 0, 0, 0, 0, []), (.ldc2_w 257, 27, 0, 0, 0, 0, 915, 0, (-3), []), (.lreturn, 28, 0, 0, 0, 0, 0, 0, 0, []), (.aload_n 0, 29, 0, 0, 0, 0, 0, 0, 0, []), (.getfield 58, 32, 11, 6, 0, 0, 475, 0, 0, []), (.aload_n 0, 33, 0, 0, 0, 0, 0, 0, 0, []), (.getfield 26, 36, 11, 2, 0, 0, 471, 0, 0, []), (.getfield 217, 39, 7, 1, 0, 0, 195, 0, 0, []), (.invokevirtual 248, 42, 5, 2, 0, 1, 743, 0, 0, []), (.aload_n 0, 43, 0, 0, 0, 0, 0, 0, 0, []), (.iload_n 1, 44, 1, 0, 0, 0, 0, 0, 0, []), (.invokevirtual 259, 47, 117, 2, 2, 11, 916, 0, 0, []), (.lreturn, 48, 0, 0, 0, 0, 0, 0, 0, [])]
set_option maxRecDepth 100000 in
theorem zk_X11_total_0 : zOks nX11_total zo_X11_total_0 0 = true := by decide +kernel
def zm_X11_total : List (Nat × List Bool) := [(0, [true, true])]
set_option maxRecDepth 100000 in
set_option maxHeartbeats 4000000 in
theorem zr_X11_total_0 {C : zCa} {post : zPo} {X : zX} (hX : zClosed none C post nX11_total X) (p0 : Int32) (σ : zS) (h : C nX11_within [.int p0, .int 0, .int 6] σ (zPI fun x2 σ1 => zIf ((x2 : Int32) = 0) (post (some (.long (-2))) σ1) (zIf ((σ1.1 9 0 : Int32) = 0) (post (some (.long (-3))) σ1) (C nX1_follow [.ref 26, .ref 10] σ1 (zPV fun σ3 => C nX11_followedTotal [.ref 0, .int p0] σ3 (zPJ fun x5 σ4 => post (some (.long x5)) σ4)))))) : X 0 [some (.ref 0), some (.int p0)] [] σ := zSeq_ok hX zm_X11_total zo_X11_total_0 0 0 _ _ _ zk_X11_total_0 h
theorem ze_X11_total {d : Nat} {post : zPo} (p0 : Int32) (σ : zS) (h : ∀ X : zX, zClosed none (zCall d) post nX11_total X → X 0 [some (.ref 0), some (.int p0)] [] σ) : zCall (d + 1) nX11_total [.ref 0, .int p0] σ post := h
-- X11_type(0,) depth 3
def zo_X11_type_0 : List zOp := [(.iload_n 1, 1, 1, 0, 0, 0, 0, 0, 0, []), (.iconst 0, 2, 0, 0, 0, 0, 0, 0, 0, []), (.bipush 127, 4, 0, 0, 0, 0, 0, 127, 0, []), (.invokestatic 130, 7, 124, 3, 1, 0, 513, 0, 0, []), (.ifCond .ne 6, 10, 13, 0, 0, 0, 0, 0, 0, []), (.bipush (-2), 12, 0, 0, 0, 0, 0, (-2), 0, []), (.ireturn, 13, 0, 0, 0, 0, 0, 0, 0, []), (.aload_n 0, 14, 0, 0, 0, 0, 0, 0, 0, []), (.getfield 33, 17, 11, 3, 0, 0, 472, 0, 0, []), (.getfield 134, 20, 10, 0, 1, 0, 210, 0, 0, []), (.bipush 100, 22, 0, 0, 0, 0, 0, 100, 0, []), (.if_icmp .lt 6, 25, 28, 0, 0, 0, 0, 0, 0, []), (.bipush (-4), 27, 0, 0, 0, 0, 0, (-4), 0, []), (.ireturn, 28, 0, 0, 0, 0, 0, 0, 0, []), (.aload_n 0, 29, 0, 0, 0, 0, 0, 0, 0, []), (.getfield 33, 32, 11, 3, 0, 0, 472, 0, 0, []), (.iload_n 1, 33, 1, 0, 0, 0, 0, 0, 0, []), (.invokevirtual 135, 36, 68, 2, 0, 10, 586, 0, 0, []), (.aload_n 0, 37, 0, 0, 0, 0, 0, 0, 0, []), (.getfield 33, 40, 11, 3, 0, 0, 472, 0, 0, []), (.getfield 134, 43, 10, 0, 1, 0, 210, 0, 0, []), (.ireturn, 44, 0, 0, 0, 0, 0, 0, 0, [])]
set_option maxRecDepth 100000 in
theorem zk_X11_type_0 : zOks nX11_type zo_X11_type_0 0 = true := by decide +kernel
def zm_X11_type : List (Nat × List Bool) := [(0, [true, true])]
set_option maxRecDepth 100000 in
set_option maxHeartbeats 4000000 in
theorem zr_X11_type_0 {C : zCa} {post : zPo} {X : zX} (hX : zClosed none C post nX11_type X) (p0 : Int32) (σ : zS) (h : C nX11_within [.int p0, .int 0, .int 127] σ (zPI fun x2 σ1 => zIf ((x2 : Int32) = 0) (post (some (.int (-2))) σ1) (zIf ((σ1.1 11 0 : Int32) < 100) (C nX10_add [.ref 11, .int p0] σ1 (zPV fun σ3 => post (some (.int (σ3.1 11 0))) σ3)) (post (some (.int (-4))) σ1)))) : X 0 [some (.ref 0), some (.int p0)] [] σ := zSeq_ok hX zm_X11_type zo_X11_type_0 0 0 _ _ _ zk_X11_type_0 h
theorem ze_X11_type {d : Nat} {post : zPo} (p0 : Int32) (σ : zS) (h : ∀ X : zX, zClosed none (zCall d) post nX11_type X → X 0 [some (.ref 0), some (.int p0)] [] σ) : zCall (d + 1) nX11_type [.ref 0, .int p0] σ post := h
end
section
/-! the code of the methods read ahead, and a theorem a region: printed by wip/whole/sym.py -/
-- X12_in() depth 1
def zo_X12_in_0 : List zOp := [(.iload_n 0, 1, 0, 0, 0, 0, 0, 0, 0, []), (.iload_n 1, 2, 1, 0, 0, 0, 0, 0, 0, []), (.if_icmp .lt 12, 5, 14, 0, 0, 0, 0, 0, 0, []), (.iload_n 0, 6, 0, 0, 0, 0, 0, 0, 0, []), (.iload_n 2, 7, 2, 0, 0, 0, 0, 0, 0, []), (.if_icmp .gt 7, 10, 14, 0, 0, 0, 0, 0, 0, []), (.iconst 1, 11, 0, 0, 0, 0, 0, 1, 0, []), (.goto 4, 14, 15, 0, 0, 0, 0, 0, 0, []), (.iconst 0, 15, 0, 0, 0, 0, 0, 0, 0, []), (.ireturn, 16, 0, 0, 1, 0, 0, 0, 0, [])]
set_option maxRecDepth 100000 in
theorem zk_X12_in_0 : zOks nX12_in zo_X12_in_0 0 = true := by decide +kernel
def zm_X12_in : List (Nat × List Bool) := [(0, [true, true, true])]
set_option maxRecDepth 100000 in
set_option maxHeartbeats 4000000 in
theorem zr_X12_in_0 {C : zCa} {post : zPo} {X : zX} (hX : zClosed none C post nX12_in X) (p0 : Int32) (p1 : Int32) (p2 : Int32) (σ : zS) (h : zIf ((p0 : Int32) < p1) (post (some (.int 0)) σ) (zIf ((p0 : Int32) ≤ p2) (post (some (.int 1)) σ) (post (some (.int 0)) σ))) : X 0 [some (.int p0), some (.int p1), some (.int p2)] [] σ := zSeq_ok hX zm_X12_in zo_X12_in_0 0 0 _ _ _ zk_X12_in_0 h
theorem ze_X12_in {d : Nat} {post : zPo} (p0 : Int32) (p1 : Int32) (p2 : Int32) (σ : zS) (h : ∀ X : zX, zClosed none (zCall d) post nX12_in X → X 0 [some (.int p0), some (.int p1), some (.int p2)] [] σ) : zCall (d + 1) nX12_in [.int p0, .int p1, .int p2] σ post := h
-- X12_addZone(63,) depth 2
def zo_X12_addZone_0 : List zOp := [(.iload_n 1, 1, 1, 0, 0, 0, 0, 0, 0, []), (.iconst 0, 2, 0, 0, 0, 0, 0, 0, 0, []), (.bipush 59, 4, 0, 0, 0, 0, 0, 59, 0, []), (.invokestatic 59, 7, 133, 3, 1, 0, 1128, 0, 0, []), (.ifCond .eq 24, 10, 31, 0, 0, 0, 0, 0, 0, []), (.iload_n 2, 11, 2, 0, 0, 0, 0, 0, 0, []), (.iload_n 1, 12, 1, 0, 0, 0, 0, 0, 0, []), (.bipush 59, 14, 0, 0, 0, 0, 0, 59, 0, []), (.invokestatic 59, 17, 133, 3, 1, 0, 1128, 0, 0, []), (.ifCond .eq 14, 20, 31, 0, 0, 0, 0, 0, 0, []), (.iload_n 3, 21, 3, 0, 0, 0, 0, 0, 0, []), (.bipush (-10), 23, 0, 0, 0, 0, 0, (-10), 0, []), (.bipush 10, 25, 0, 0, 0, 0, 0, 10, 0, []), (.invokestatic 59, 28, 133, 3, 1, 0, 1128, 0, 0, []), (.ifCond .ne 6, 31, 34, 0, 0, 0, 0, 0, 0, []), (.bipush (-2), 33, 0, 0, 0, 0, 0, (-2), 0, []), (.ireturn, 34, 0, 0, 0, 0, 0, 0, 0, []), (.aload_n 0, 35, 0, 0, 0, 0, 0, 0, 0, []), (.getfield 7, 38, 12, 0, 0, 0, 1051, 0, 0, []), (.sipush 188, 41, 0, 0, 0, 0, 0, 188, 0, []), (.iaload, 42, 0, 0, 0, 0, 0, 0, 0, []), (.bipush 6, 44, 0, 0, 0, 0, 0, 6, 0, []), (.if_icmp .ne 6, 47, 50, 0, 0, 0, 0, 0, 0, []), (.bipush (-4), 49, 0, 0, 0, 0, 0, (-4), 0, []), (.ireturn, 50, 0, 0, 0, 0, 0, 0, 0, []), (.sipush 189, 53, 0, 0, 0, 0, 0, 189, 0, []), (.iconst 3, 54, 0, 0, 0, 0, 0, 3, 0, []), (.aload_n 0, 55, 0, 0, 0, 0, 0, 0, 0, []), (.getfield 7, 58, 12, 0, 0, 0, 1051, 0, 0, []), (.sipush 188, 61, 0, 0, 0, 0, 0, 188, 0, []), (.iaload, 62, 0, 0, 0, 0, 0, 0, 0, []), (.imul, 63, 0, 0, 0, 0, 0, 0, 0, []), (.iadd, 64, 0, 0, 0, 0, 0, 0, 0, []), (.istore 4, 66, 4, 0, 0, 0, 0, 0, 0, []), (.aload_n 0, 67, 0, 0, 0, 0, 0, 0, 0, []), (.getfield 7, 70, 12, 0, 0, 0, 1051, 0, 0, []), (.iload 4, 72, 4, 0, 0, 0, 0, 0, 0, []), (.iload_n 1, 73, 1, 0, 0, 0, 0, 0, 0, []), (.iastore, 74, 0, 0, 0, 0, 0, 0, 0, []), (.aload_n 0, 75, 0, 0, 0, 0, 0, 0, 0, []), (.getfield 7, 78, 12, 0, 0, 0, 1051, 0, 0, []), (.iload 4, 80, 4, 0, 0, 0, 0, 0, 0, []), (.iconst 1, 81, 0, 0, 0, 0, 0, 1, 0, []), (.iadd, 82, 0, 0, 0, 0, 0, 0, 0, []), (.iload_n 2, 83, 2, 0, 0, 0, 0, 0, 0, []), (.iastore, 84, 0, 0, 0, 0, 0, 0, 0, []), (.aload_n 0, 85, 0, 0, 0, 0, 0, 0, 0, []), (.getfield 7, 88, 12, 0, 0, 0, 1051, 0, 0, []), (.iload 4, 90, 4, 0, 0, 0, 0, 0, 0, []), (.iconst 2, 91, 0, 0, 0, 0, 0, 2, 0, []), (.iadd, 92, 0, 0, 0, 0, 0, 0, 0, []), (.iload_n 3, 93, 3, 0, 0, 0, 0, 0, 0, []), (.iastore, 94, 0, 0, 0, 0, 0, 0, 0, []), (.aload_n 0, 95, 0, 0, 0, 0, 0, 0, 0, []), (.getfield 7, 98, 12, 0, 0, 0, 1051, 0, 0, []), (.sipush 188, 101, 0, 0, 0, 0, 0, 188, 0, []), (.dup2, 102, 0, 0, 0, 0, 0, 0, 0, []), (.iaload, 103, 0, 0, 0, 0, 0, 0, 0, []), (.iconst 1, 104, 0, 0, 0, 0, 0, 1, 0, []), (.iadd, 105, 0, 0, 0, 0, 0, 0, 0, []), (.iastore, 106, 0, 0, 0, 0, 0, 0, 0, []), (.aload_n 0, 107, 0, 0, 0, 0, 0, 0, 0, []), (.getfield 7, 110, 12, 0, 0, 0, 1051, 0, 0, []), (.sipush 188, 113, 0, 0, 0, 0, 0, 188, 0, []), (.iaload, 114, 0, 0, 0, 0, 0, 0, 0, []), (.ireturn, 115, 0, 0, 0, 0, 0, 0, 0, [])]
set_option maxRecDepth 100000 in
theorem zk_X12_addZone_0 : zOks nX12_addZone zo_X12_addZone_0 0 = true := by decide +kernel
def zm_X12_addZone : List (Nat × List Bool) := [(0, [true, true, true, true, false])]
set_option maxRecDepth 100000 in
set_option maxHeartbeats 4000000 in
theorem zr_X12_addZone_0 {C : zCa} {post : zPo} {X : zX} (hX : zClosed none C post nX12_addZone X) (p0 : Int32) (p1 : Int32) (p2 : Int32) (σ : zS) (h : C nX12_in [.int p0, .int 0, .int 59] σ (zPI fun x2 σ1 => zIf ((x2 : Int32) = 0) (post (some (.int (-2))) σ1) (C nX12_in [.int p1, .int p0, .int 59] σ1 (zPI fun x4 σ3 => zIf ((x4 : Int32) = 0) (post (some (.int (-2))) σ3) (C nX12_in [.int p2, .int (-10), .int 10] σ3 (zPI fun x6 σ5 => zIf ((x6 : Int32) = 0) (post (some (.int (-2))) σ5) (vp_in 188 (zN 64) ∧ (zIf ((σ5.1 64 (Int32.toNatClampNeg 188) : Int32) = 6) (post (some (.int (-4))) σ5) (vp_in 188 (zN 64) ∧ (vp_in (189 + (3 * (σ5.1 64 (Int32.toNatClampNeg 188)))) (zN 64) ∧ (vp_in ((189 + (3 * (σ5.1 64 (Int32.toNatClampNeg 188)))) + 1) (zN 64) ∧ (vp_in ((189 + (3 * (σ5.1 64 (Int32.toNatClampNeg 188)))) + 2) (zN 64) ∧ (vp_in 188 (zN 64) ∧ (vp_in 188 (zN 64) ∧ (vp_in 188 (zN 64) ∧ (post (some (.int ((zSI (zSI (zSI (zSI σ5 64 (Int32.toNatClampNeg (189 + (3 * (σ5.1 64 (Int32.toNatClampNeg 188))))) p0) 64 (Int32.toNatClampNeg ((189 + (3 * (σ5.1 64 (Int32.toNatClampNeg 188)))) + 1)) p1) 64 (Int32.toNatClampNeg ((189 + (3 * (σ5.1 64 (Int32.toNatClampNeg 188)))) + 2)) p2) 64 (Int32.toNatClampNeg 188) (((zSI (zSI (zSI σ5 64 (Int32.toNatClampNeg (189 + (3 * (σ5.1 64 (Int32.toNatClampNeg 188))))) p0) 64 (Int32.toNatClampNeg ((189 + (3 * (σ5.1 64 (Int32.toNatClampNeg 188)))) + 1)) p1) 64 (Int32.toNatClampNeg ((189 + (3 * (σ5.1 64 (Int32.toNatClampNeg 188)))) + 2)) p2).1 64 (Int32.toNatClampNeg 188)) + 1)).1 64 (Int32.toNatClampNeg 188)))) (zSI (zSI (zSI (zSI σ5 64 (Int32.toNatClampNeg (189 + (3 * (σ5.1 64 (Int32.toNatClampNeg 188))))) p0) 64 (Int32.toNatClampNeg ((189 + (3 * (σ5.1 64 (Int32.toNatClampNeg 188)))) + 1)) p1) 64 (Int32.toNatClampNeg ((189 + (3 * (σ5.1 64 (Int32.toNatClampNeg 188)))) + 2)) p2) 64 (Int32.toNatClampNeg 188) (((zSI (zSI (zSI σ5 64 (Int32.toNatClampNeg (189 + (3 * (σ5.1 64 (Int32.toNatClampNeg 188))))) p0) 64 (Int32.toNatClampNeg ((189 + (3 * (σ5.1 64 (Int32.toNatClampNeg 188)))) + 1)) p1) 64 (Int32.toNatClampNeg ((189 + (3 * (σ5.1 64 (Int32.toNatClampNeg 188)))) + 2)) p2).1 64 (Int32.toNatClampNeg 188)) + 1)))))))))))))))))) : X 0 [some (.ref 63), some (.int p0), some (.int p1), some (.int p2), none] [] σ := zSeq_ok hX zm_X12_addZone zo_X12_addZone_0 0 0 _ _ _ zk_X12_addZone_0 h
theorem ze_X12_addZone {d : Nat} {post : zPo} (p0 : Int32) (p1 : Int32) (p2 : Int32) (σ : zS) (h : ∀ X : zX, zClosed none (zCall d) post nX12_addZone X → X 0 [some (.ref 63), some (.int p0), some (.int p1), some (.int p2), none] [] σ) : zCall (d + 1) nX12_addZone [.ref 63, .int p0, .int p1, .int p2] σ post := h
-- X12_isFrame(63,) depth 2
def zo_X12_isFrame_0 : List zOp := [(.iload_n 1, 1, 1, 0, 0, 0, 0, 0, 0, []), (.iconst 0, 2, 0, 0, 0, 0, 0, 0, 0, []), (.aload_n 0, 3, 0, 0, 0, 0, 0, 0, 0, []), (.getfield 7, 6, 12, 0, 0, 0, 1051, 0, 0, []), (.iconst 0, 7, 0, 0, 0, 0, 0, 0, 0, []), (.iaload, 8, 0, 0, 0, 0, 0, 0, 0, []), (.iconst 1, 9, 0, 0, 0, 0, 0, 1, 0, []), (.isub, 10, 0, 0, 0, 0, 0, 0, 0, []), (.invokestatic 59, 13, 133, 3, 1, 0, 1128, 0, 0, []), (.ireturn, 14, 0, 0, 1, 0, 0, 0, 0, [])]
set_option maxRecDepth 100000 in
theorem zk_X12_isFrame_0 : zOks nX12_isFrame zo_X12_isFrame_0 0 = true := by decide +kernel
def zm_X12_isFrame : List (Nat × List Bool) := [(0, [true, true])]
set_option maxRecDepth 100000 in
set_option maxHeartbeats 4000000 in
theorem zr_X12_isFrame_0 {C : zCa} {post : zPo} {X : zX} (hX : zClosed none C post nX12_isFrame X) (p0 : Int32) (σ : zS) (h : vp_in 0 (zN 64) ∧ (C nX12_in [.int p0, .int 0, .int ((σ.1 64 (Int32.toNatClampNeg 0)) - 1)] σ (zPI fun x2 σ1 => zG ((x2 : Int32) == 0 || (x2 : Int32) == 1) (post (some (.int x2)) σ1)))) : X 0 [some (.ref 63), some (.int p0)] [] σ := zSeq_ok hX zm_X12_isFrame zo_X12_isFrame_0 0 0 _ _ _ zk_X12_isFrame_0 h
theorem ze_X12_isFrame {d : Nat} {post : zPo} (p0 : Int32) (σ : zS) (h : ∀ X : zX, zClosed none (zCall d) post nX12_isFrame X → X 0 [some (.ref 63), some (.int p0)] [] σ) : zCall (d + 1) nX12_isFrame [.ref 63, .int p0] σ post := h
-- X12_sets(63,) depth 1
def zo_X12_sets_0 : List zOp := [(.aload_n 0, 1, 0, 0, 0, 0, 0, 0, 0, []), (.getfield 7, 4, 12, 0, 0, 0, 1051, 0, 0, []), (.iload_n 1, 5, 1, 0, 0, 0, 0, 0, 0, []), (.iaload, 6, 0, 0, 0, 0, 0, 0, 0, []), (.istore_n 3, 7, 3, 0, 0, 0, 0, 0, 0, []), (.aload_n 0, 8, 0, 0, 0, 0, 0, 0, 0, []), (.getfield 7, 11, 12, 0, 0, 0, 1051, 0, 0, []), (.iload_n 1, 12, 1, 0, 0, 0, 0, 0, 0, []), (.iload_n 2, 13, 2, 0, 0, 0, 0, 0, 0, []), (.iastore, 14, 0, 0, 0, 0, 0, 0, 0, []), (.iload_n 3, 15, 3, 0, 0, 0, 0, 0, 0, []), (.ireturn, 16, 0, 0, 0, 0, 0, 0, 0, [])]
set_option maxRecDepth 100000 in
theorem zk_X12_sets_0 : zOks nX12_sets zo_X12_sets_0 0 = true := by decide +kernel
def zm_X12_sets : List (Nat × List Bool) := [(0, [true, true, true, false])]
set_option maxRecDepth 100000 in
set_option maxHeartbeats 4000000 in
theorem zr_X12_sets_0 {C : zCa} {post : zPo} {X : zX} (hX : zClosed none C post nX12_sets X) (p0 : Int32) (p1 : Int32) (σ : zS) (h : vp_in p0 (zN 64) ∧ (vp_in p0 (zN 64) ∧ (post (some (.int (σ.1 64 (Int32.toNatClampNeg p0)))) (zSI σ 64 (Int32.toNatClampNeg p0) p1)))) : X 0 [some (.ref 63), some (.int p0), some (.int p1), none] [] σ := zSeq_ok hX zm_X12_sets zo_X12_sets_0 0 0 _ _ _ zk_X12_sets_0 h
theorem ze_X12_sets {d : Nat} {post : zPo} (p0 : Int32) (p1 : Int32) (σ : zS) (h : ∀ X : zX, zClosed none (zCall d) post nX12_sets X → X 0 [some (.ref 63), some (.int p0), some (.int p1), none] [] σ) : zCall (d + 1) nX12_sets [.ref 63, .int p0, .int p1] σ post := h
-- X12_adjust(63,) depth 3
def zo_X12_adjust_0 : List zOp := [(.aload_n 0, 1, 0, 0, 0, 0, 0, 0, 0, []), (.iload_n 1, 2, 1, 0, 0, 0, 0, 0, 0, []), (.invokevirtual 115, 5, 135, 2, 1, 12, 1139, 0, 0, []), (.ifCond .eq 13, 8, 18, 0, 0, 0, 0, 0, 0, []), (.iload_n 2, 9, 2, 0, 0, 0, 0, 0, 0, []), (.iconst 0, 10, 0, 0, 0, 0, 0, 0, 0, []), (.bipush 51, 12, 0, 0, 0, 0, 0, 51, 0, []), (.invokestatic 59, 15, 133, 3, 1, 0, 1128, 0, 0, []), (.ifCond .ne 6, 18, 21, 0, 0, 0, 0, 0, 0, []), (.bipush (-2), 20, 0, 0, 0, 0, 0, (-2), 0, []), (.ireturn, 21, 0, 0, 0, 0, 0, 0, 0, []), (.aload_n 0, 22, 0, 0, 0, 0, 0, 0, 0, []), (.getfield 7, 25, 12, 0, 0, 0, 1051, 0, 0, []), (.sipush 207, 28, 0, 0, 0, 0, 0, 207, 0, []), (.iaload, 29, 0, 0, 0, 0, 0, 0, 0, []), (.ifCond .ne 8, 32, 37, 0, 0, 0, 0, 0, 0, []), (.bipush (-3), 34, 0, 0, 0, 0, 0, (-3), 0, []), (.goto 13, 37, 47, 0, 0, 0, 0, 0, 0, []), (.aload_n 0, 38, 0, 0, 0, 0, 0, 0, 0, []), (.sipush 208, 41, 0, 0, 0, 0, 0, 208, 0, []), (.iload_n 1, 42, 1, 0, 0, 0, 0, 0, 0, []), (.iadd, 43, 0, 0, 0, 0, 0, 0, 0, []), (.iload_n 2, 44, 2, 0, 0, 0, 0, 0, 0, []), (.invokevirtual 152, 47, 165, 3, 1, 12, 1215, 0, 0, []), (.ireturn, 48, 0, 0, 0, 0, 0, 0, 0, [])]
set_option maxRecDepth 100000 in
theorem zk_X12_adjust_0 : zOks nX12_adjust zo_X12_adjust_0 0 = true := by decide +kernel
def zm_X12_adjust : List (Nat × List Bool) := [(0, [true, true, true])]
set_option maxRecDepth 100000 in
set_option maxHeartbeats 4000000 in
theorem zr_X12_adjust_0 {C : zCa} {post : zPo} {X : zX} (hX : zClosed none C post nX12_adjust X) (p0 : Int32) (p1 : Int32) (σ : zS) (h : C nX12_isFrame [.ref 63, .int p0] σ (zPI fun x2 σ1 => zIf ((x2 : Int32) = 0) (post (some (.int (-2))) σ1) (C nX12_in [.int p1, .int 0, .int 51] σ1 (zPI fun x4 σ3 => zIf ((x4 : Int32) = 0) (post (some (.int (-2))) σ3) (vp_in 207 (zN 64) ∧ (zIf ((σ3.1 64 (Int32.toNatClampNeg 207) : Int32) = 0) (post (some (.int (-3))) σ3) (C nX12_sets [.ref 63, .int (208 + p0), .int p1] σ3 (zPI fun x6 σ5 => post (some (.int x6)) σ5)))))))) : X 0 [some (.ref 63), some (.int p0), some (.int p1)] [] σ := zSeq_ok hX zm_X12_adjust zo_X12_adjust_0 0 0 _ _ _ zk_X12_adjust_0 h
theorem ze_X12_adjust {d : Nat} {post : zPo} (p0 : Int32) (p1 : Int32) (σ : zS) (h : ∀ X : zX, zClosed none (zCall d) post nX12_adjust X → X 0 [some (.ref 63), some (.int p0), some (.int p1)] [] σ) : zCall (d + 1) nX12_adjust [.ref 63, .int p0, .int p1] σ post := h
-- X12_step() depth 1
def zo_X12_step_0 : List zOp := [(.bipush 10, 2, 0, 0, 0, 0, 0, 10, 0, []), (.istore_n 1, 3, 1, 0, 0, 0, 0, 0, 0, []), (.iload_n 0, 4, 0, 0, 0, 0, 0, 0, 0, []), (.bipush 6, 6, 0, 0, 0, 0, 0, 6, 0, []), (.irem, 7, 0, 0, 0, 0, 0, 0, 0, []), (.tableswitch 63 1 5 #[33, 39, 45, 51, 57], 40, 70, 0, 0, 0, 0, 0, 0, [(1, 40), (2, 46), (3, 52), (4, 58), (5, 64)]), (.bipush 11, 42, 0, 0, 0, 0, 0, 11, 0, []), (.istore_n 1, 43, 1, 0, 0, 0, 0, 0, 0, []), (.goto 27, 46, 70, 0, 0, 0, 0, 0, 0, []), (.bipush 13, 48, 0, 0, 0, 0, 0, 13, 0, []), (.istore_n 1, 49, 1, 0, 0, 0, 0, 0, 0, []), (.goto 21, 52, 70, 0, 0, 0, 0, 0, 0, []), (.bipush 14, 54, 0, 0, 0, 0, 0, 14, 0, []), (.istore_n 1, 55, 1, 0, 0, 0, 0, 0, 0, []), (.goto 15, 58, 70, 0, 0, 0, 0, 0, 0, []), (.bipush 16, 60, 0, 0, 0, 0, 0, 16, 0, []), (.istore_n 1, 61, 1, 0, 0, 0, 0, 0, 0, []), (.goto 9, 64, 70, 0, 0, 0, 0, 0, 0, []), (.bipush 18, 66, 0, 0, 0, 0, 0, 18, 0, []), (.istore_n 1, 67, 1, 0, 0, 0, 0, 0, 0, []), (.goto 3, 70, 70, 0, 0, 0, 0, 0, 0, []), (.iconst 0, 71, 0, 0, 0, 0, 0, 0, 0, []), (.istore_n 2, 72, 2, 0, 0, 0, 0, 0, 0, [])]
set_option maxRecDepth 100000 in
theorem zk_X12_step_0 : zOks nX12_step zo_X12_step_0 0 = true := by decide +kernel
def zo_X12_step_72 : List zOp := [(.iload_n 2, 73, 2, 0, 0, 0, 0, 0, 0, []), (.iload_n 0, 74, 0, 0, 0, 0, 0, 0, 0, []), (.bipush 6, 76, 0, 0, 0, 0, 0, 6, 0, []), (.idiv, 77, 0, 0, 0, 0, 0, 0, 0, []), (.if_icmp .ge 13, 80, 90, 0, 0, 0, 0, 0, 0, []), (.iconst 2, 81, 0, 0, 0, 0, 0, 2, 0, []), (.iload_n 1, 82, 1, 0, 0, 0, 0, 0, 0, []), (.imul, 83, 0, 0, 0, 0, 0, 0, 0, []), (.istore_n 1, 84, 1, 0, 0, 0, 0, 0, 0, []), (.iinc 2 1, 87, 2, 0, 0, 0, 0, 1, 0, []), (.goto (-15), 90, 72, 0, 0, 0, 0, 0, 0, []), (.iload_n 1, 91, 1, 0, 0, 0, 0, 0, 0, []), (.ireturn, 92, 0, 0, 0, 0, 0, 0, 0, [])]
set_option maxRecDepth 100000 in
theorem zk_X12_step_72 : zOks nX12_step zo_X12_step_72 72 = true := by decide +kernel
def zm_X12_step : List (Nat × List Bool) := [(0, [true, false, false]), (72, [true, true, true])]
set_option maxRecDepth 100000 in
set_option maxHeartbeats 4000000 in
theorem zr_X12_step_0 {C : zCa} {post : zPo} {X : zX} (hX : zClosed none C post nX12_step X) (p0 : Int32) (σ : zS) (h : ¬ (6 : Int32) = 0 ∧ (((p0 - p0 / 6 * 6 : Int32) = 1 → (X 72 [some (.int p0), some (.int 11), some (.int 0)] [] σ)) ∧ (¬ (p0 - p0 / 6 * 6 : Int32) = 1 → ((p0 - p0 / 6 * 6 : Int32) = 2 → (X 72 [some (.int p0), some (.int 13), some (.int 0)] [] σ)) ∧ (¬ (p0 - p0 / 6 * 6 : Int32) = 2 → ((p0 - p0 / 6 * 6 : Int32) = 3 → (X 72 [some (.int p0), some (.int 14), some (.int 0)] [] σ)) ∧ (¬ (p0 - p0 / 6 * 6 : Int32) = 3 → ((p0 - p0 / 6 * 6 : Int32) = 4 → (X 72 [some (.int p0), some (.int 16), some (.int 0)] [] σ)) ∧ (¬ (p0 - p0 / 6 * 6 : Int32) = 4 → ((p0 - p0 / 6 * 6 : Int32) = 5 → (X 72 [some (.int p0), some (.int 18), some (.int 0)] [] σ)) ∧ (¬ (p0 - p0 / 6 * 6 : Int32) = 5 → X 72 [some (.int p0), some (.int 10), some (.int 0)] [] σ))))))) : X 0 [some (.int p0), none, none] [] σ := zSeq_ok hX zm_X12_step zo_X12_step_0 0 0 _ _ _ zk_X12_step_0 h
set_option maxRecDepth 100000 in
set_option maxHeartbeats 4000000 in
theorem zr_X12_step_72 {C : zCa} {post : zPo} {X : zX} (hX : zClosed none C post nX12_step X) (v0 : Int32) (v1 : Int32) (v2 : Int32) (σ : zS) (h : ¬ (6 : Int32) = 0 ∧ (zIf ((v2 : Int32) < (v0 / 6)) (X 72 [some (.int v0), some (.int (2 * v1)), some (.int (v2 + 1))] [] σ) (post (some (.int v1)) σ))) : X 72 [some (.int v0), some (.int v1), some (.int v2)] [] σ := zSeq_ok hX zm_X12_step zo_X12_step_72 72 72 _ _ _ zk_X12_step_72 h
theorem ze_X12_step {d : Nat} {post : zPo} (p0 : Int32) (σ : zS) (h : ∀ X : zX, zClosed none (zCall d) post nX12_step X → X 0 [some (.int p0), none, none] [] σ) : zCall (d + 1) nX12_step [.int p0] σ post := h
-- X12_work(63,) depth 1
def zo_X12_work_0 : List zOp := [(.aload_n 0, 1, 0, 0, 0, 0, 0, 0, 0, []), (.getfield 7, 4, 12, 0, 0, 0, 1051, 0, 0, []), (.iconst 1, 5, 0, 0, 0, 0, 0, 1, 0, []), (.iload_n 1, 6, 1, 0, 0, 0, 0, 0, 0, []), (.iadd, 7, 0, 0, 0, 0, 0, 0, 0, []), (.iaload, 8, 0, 0, 0, 0, 0, 0, 0, []), (.istore_n 2, 9, 2, 0, 0, 0, 0, 0, 0, []), (.aload_n 0, 10, 0, 0, 0, 0, 0, 0, 0, []), (.getfield 7, 13, 12, 0, 0, 0, 1051, 0, 0, []), (.bipush 61, 15, 0, 0, 0, 0, 0, 61, 0, []), (.iload_n 1, 16, 1, 0, 0, 0, 0, 0, 0, []), (.iadd, 17, 0, 0, 0, 0, 0, 0, 0, []), (.iaload, 18, 0, 0, 0, 0, 0, 0, 0, []), (.istore_n 3, 19, 3, 0, 0, 0, 0, 0, 0, []), (.aload_n 0, 20, 0, 0, 0, 0, 0, 0, 0, []), (.getfield 19, 23, 12, 3, 0, 0, 1054, 0, 0, []), (.iload_n 1, 24, 1, 0, 0, 0, 0, 0, 0, []), (.iaload, 25, 0, 0, 0, 0, 0, 0, 0, []), (.ifCond .ne 9, 28, 34, 0, 0, 0, 0, 0, 0, []), (.iconst 4, 29, 0, 0, 0, 0, 0, 4, 0, []), (.iload_n 2, 30, 2, 0, 0, 0, 0, 0, 0, []), (.imul, 31, 0, 0, 0, 0, 0, 0, 0, []), (.goto 26, 34, 57, 0, 0, 0, 0, 0, 0, []), (.aload_n 0, 35, 0, 0, 0, 0, 0, 0, 0, []), (.getfield 19, 38, 12, 3, 0, 0, 1054, 0, 0, []), (.iload_n 1, 39, 1, 0, 0, 0, 0, 0, 0, []), (.iaload, 40, 0, 0, 0, 0, 0, 0, 0, []), (.iconst 1, 41, 0, 0, 0, 0, 0, 1, 0, []), (.if_icmp .ne 11, 44, 52, 0, 0, 0, 0, 0, 0, []), (.iload_n 2, 45, 2, 0, 0, 0, 0, 0, 0, []), (.iconst 2, 46, 0, 0, 0, 0, 0, 2, 0, []), (.iload_n 3, 47, 3, 0, 0, 0, 0, 0, 0, []), (.imul, 48, 0, 0, 0, 0, 0, 0, 0, []), (.iadd, 49, 0, 0, 0, 0, 0, 0, 0, []), (.goto 8, 52, 57, 0, 0, 0, 0, 0, 0, []), (.iload_n 2, 53, 2, 0, 0, 0, 0, 0, 0, []), (.iconst 2, 54, 0, 0, 0, 0, 0, 2, 0, []), (.idiv, 55, 0, 0, 0, 0, 0, 0, 0, []), (.iload_n 3, 56, 3, 0, 0, 0, 0, 0, 0, []), (.iadd, 57, 0, 0, 0, 0, 0, 0, 0, []), (.ireturn, 58, 0, 0, 0, 0, 0, 0, 0, [])]
set_option maxRecDepth 100000 in
theorem zk_X12_work_0 : zOks nX12_work zo_X12_work_0 0 = true := by decide +kernel
def zm_X12_work : List (Nat × List Bool) := [(0, [true, true, false, false])]
set_option maxRecDepth 100000 in
set_option maxHeartbeats 4000000 in
theorem zr_X12_work_0 {C : zCa} {post : zPo} {X : zX} (hX : zClosed none C post nX12_work X) (p0 : Int32) (σ : zS) (h : vp_in (1 + p0) (zN 64) ∧ (vp_in (61 + p0) (zN 64) ∧ (vp_in p0 (zN 67) ∧ (zIf ((σ.1 67 (Int32.toNatClampNeg p0) : Int32) = 0) (post (some (.int (4 * (σ.1 64 (Int32.toNatClampNeg (1 + p0)))))) σ) (vp_in p0 (zN 67) ∧ (zIf ((σ.1 67 (Int32.toNatClampNeg p0) : Int32) = 1) (post (some (.int ((σ.1 64 (Int32.toNatClampNeg (1 + p0))) + (2 * (σ.1 64 (Int32.toNatClampNeg (61 + p0))))))) σ) (¬ (2 : Int32) = 0 ∧ (post (some (.int (((σ.1 64 (Int32.toNatClampNeg (1 + p0))) / 2) + (σ.1 64 (Int32.toNatClampNeg (61 + p0)))))) σ)))))))) : X 0 [some (.ref 63), some (.int p0), none, none] [] σ := zSeq_ok hX zm_X12_work zo_X12_work_0 0 0 _ _ _ zk_X12_work_0 h
theorem ze_X12_work {d : Nat} {post : zPo} (p0 : Int32) (σ : zS) (h : ∀ X : zX, zClosed none (zCall d) post nX12_work X → X 0 [some (.ref 63), some (.int p0), none, none] [] σ) : zCall (d + 1) nX12_work [.ref 63, .int p0] σ post := h
-- X12_bits(63,) depth 2
def zo_X12_bits_0 : List zOp := [(.bipush 40, 2, 0, 0, 0, 0, 0, 40, 0, []), (.aload_n 0, 3, 0, 0, 0, 0, 0, 0, 0, []), (.iload_n 1, 4, 1, 0, 0, 0, 0, 0, 0, []), (.invokevirtual 81, 7, 141, 2, 1, 12, 1203, 0, 0, []), (.sipush 200, 10, 0, 0, 0, 0, 0, 200, 0, []), (.imul, 11, 0, 0, 0, 0, 0, 0, 0, []), (.iload_n 2, 12, 2, 0, 0, 0, 0, 0, 0, []), (.invokestatic 84, 15, 140, 1, 1, 0, 1257, 0, 0, []), (.idiv, 16, 0, 0, 0, 0, 0, 0, 0, []), (.iadd, 17, 0, 0, 0, 0, 0, 0, 0, []), (.ireturn, 18, 0, 0, 0, 0, 0, 0, 0, [])]
set_option maxRecDepth 100000 in
theorem zk_X12_bits_0 : zOks nX12_bits zo_X12_bits_0 0 = true := by decide +kernel
def zm_X12_bits : List (Nat × List Bool) := [(0, [true, true, true])]
set_option maxRecDepth 100000 in
set_option maxHeartbeats 4000000 in
theorem zr_X12_bits_0 {C : zCa} {post : zPo} {X : zX} (hX : zClosed none C post nX12_bits X) (p0 : Int32) (p1 : Int32) (σ : zS) (h : C nX12_work [.ref 63, .int p0] σ (zPI fun x2 σ1 => C nX12_step [.int p1] σ1 (zPI fun x4 σ3 => ¬ (x4 : Int32) = 0 ∧ (post (some (.int (40 + ((x2 * 200) / x4)))) σ3)))) : X 0 [some (.ref 63), some (.int p0), some (.int p1)] [] σ := zSeq_ok hX zm_X12_bits zo_X12_bits_0 0 0 _ _ _ zk_X12_bits_0 h
theorem ze_X12_bits {d : Nat} {post : zPo} (p0 : Int32) (p1 : Int32) (σ : zS) (h : ∀ X : zX, zClosed none (zCall d) post nX12_bits X → X 0 [some (.ref 63), some (.int p0), some (.int p1)] [] σ) : zCall (d + 1) nX12_bits [.ref 63, .int p0, .int p1] σ post := h
-- X12_allBits(63,) depth 3
def zo_X12_allBits_0 : List zOp := [(.lconst 0, 1, 0, 0, 0, 0, 0, 0, 0, []), (.lstore_n 1, 2, 1, 0, 0, 0, 0, 0, 0, []), (.iconst 0, 3, 0, 0, 0, 0, 0, 0, 0, []), (.istore_n 3, 4, 3, 0, 0, 0, 0, 0, 0, [])]
set_option maxRecDepth 100000 in
theorem zk_X12_allBits_0 : zOks nX12_allBits zo_X12_allBits_0 0 = true := by decide +kernel
def zo_X12_allBits_4 : List zOp := [(.iload_n 3, 5, 3, 0, 0, 0, 0, 0, 0, []), (.aload_n 0, 6, 0, 0, 0, 0, 0, 0, 0, []), (.getfield 7, 9, 12, 0, 0, 0, 1051, 0, 0, []), (.iconst 0, 10, 0, 0, 0, 0, 0, 0, 0, []), (.iaload, 11, 0, 0, 0, 0, 0, 0, 0, []), (.if_icmp .ge 28, 14, 39, 0, 0, 0, 0, 0, 0, []), (.lload_n 1, 15, 1, 0, 0, 0, 0, 0, 0, []), (.aload_n 0, 16, 0, 0, 0, 0, 0, 0, 0, []), (.iload_n 3, 17, 3, 0, 0, 0, 0, 0, 0, []), (.aload_n 0, 18, 0, 0, 0, 0, 0, 0, 0, []), (.getfield 7, 21, 12, 0, 0, 0, 1051, 0, 0, []), (.sipush 208, 24, 0, 0, 0, 0, 0, 208, 0, []), (.iload_n 3, 25, 3, 0, 0, 0, 0, 0, 0, []), (.iadd, 26, 0, 0, 0, 0, 0, 0, 0, []), (.iaload, 27, 0, 0, 0, 0, 0, 0, 0, []), (.invokevirtual 94, 30, 142, 3, 1, 12, 1253, 0, 0, []), (.i2l, 31, 0, 0, 0, 0, 0, 0, 0, []), (.ladd, 32, 0, 0, 0, 0, 0, 0, 0, []), (.lstore_n 1, 33, 1, 0, 0, 0, 0, 0, 0, []), (.iinc 3 1, 36, 3, 0, 0, 0, 0, 1, 0, []), (.goto (-32), 39, 4, 0, 0, 0, 0, 0, 0, []), (.lload_n 1, 40, 1, 0, 0, 0, 0, 0, 0, []), (.lreturn, 41, 0, 0, 0, 0, 0, 0, 0, [])]
set_option maxRecDepth 100000 in
theorem zk_X12_allBits_4 : zOks nX12_allBits zo_X12_allBits_4 4 = true := by decide +kernel
def zm_X12_allBits : List (Nat × List Bool) := [(0, [true, false, false, false]), (4, [true, true, false, true])]
set_option maxRecDepth 100000 in
set_option maxHeartbeats 4000000 in
theorem zr_X12_allBits_0 {C : zCa} {post : zPo} {X : zX} (hX : zClosed none C post nX12_allBits X) (σ : zS) (h : X 4 [some (.ref 63), some (.long 0), none, some (.int 0)] [] σ) : X 0 [some (.ref 63), none, none, none] [] σ := zSeq_ok hX zm_X12_allBits zo_X12_allBits_0 0 0 _ _ _ zk_X12_allBits_0 h
set_option maxRecDepth 100000 in
set_option maxHeartbeats 4000000 in
theorem zr_X12_allBits_4 {C : zCa} {post : zPo} {X : zX} (hX : zClosed none C post nX12_allBits X) (v1 : Int64) (v3 : Int32) (σ : zS) (h : vp_in 0 (zN 64) ∧ (zIf ((v3 : Int32) < (σ.1 64 (Int32.toNatClampNeg 0))) (vp_in (208 + v3) (zN 64) ∧ (C nX12_bits [.ref 63, .int v3, .int (σ.1 64 (Int32.toNatClampNeg (208 + v3)))] σ (zPI fun x2 σ1 => X 4 [some (.ref 63), some (.long (v1 + (Int32.toInt64 x2))), none, some (.int (v3 + 1))] [] σ1))) (post (some (.long v1)) σ))) : X 4 [some (.ref 63), some (.long v1), none, some (.int v3)] [] σ := zSeq_ok hX zm_X12_allBits zo_X12_allBits_4 4 4 _ _ _ zk_X12_allBits_4 h
theorem ze_X12_allBits {d : Nat} {post : zPo} (σ : zS) (h : ∀ X : zX, zClosed none (zCall d) post nX12_allBits X → X 0 [some (.ref 63), none, none, none] [] σ) : zCall (d + 1) nX12_allBits [.ref 63] σ post := h
-- X12_forgets(63,) depth 1
def zo_X12_forgets_0 : List zOp := [(.aload_n 0, 1, 0, 0, 0, 0, 0, 0, 0, []), (.getfield 7, 4, 12, 0, 0, 0, 1051, 0, 0, []), (.sipush 207, 7, 0, 0, 0, 0, 0, 207, 0, []), (.iconst 0, 8, 0, 0, 0, 0, 0, 0, 0, []), (.iastore, 9, 0, 0, 0, 0, 0, 0, 0, []), (.return_, 10, 0, 0, 0, 0, 0, 0, 0, [])]
set_option maxRecDepth 100000 in
theorem zk_X12_forgets_0 : zOks nX12_forgets zo_X12_forgets_0 0 = true := by decide +kernel
def zm_X12_forgets : List (Nat × List Bool) := [(0, [true])]
set_option maxRecDepth 100000 in
set_option maxHeartbeats 4000000 in
theorem zr_X12_forgets_0 {C : zCa} {post : zPo} {X : zX} (hX : zClosed none C post nX12_forgets X) (σ : zS) (h : vp_in 207 (zN 64) ∧ (post none (zSI σ 64 (Int32.toNatClampNeg 207) 0))) : X 0 [some (.ref 63)] [] σ := zSeq_ok hX zm_X12_forgets zo_X12_forgets_0 0 0 _ _ _ zk_X12_forgets_0 h
theorem ze_X12_forgets {d : Nat} {post : zPo} (σ : zS) (h : ∀ X : zX, zClosed none (zCall d) post nX12_forgets X → X 0 [some (.ref 63)] [] σ) : zCall (d + 1) nX12_forgets [.ref 63] σ post := h
-- X12_append(63,) depth 2
def zo_X12_append_0 : List zOp := [(.iload_n 1, 1, 1, 0, 0, 0, 0, 0, 0, []), (.iconst 1, 2, 0, 0, 0, 0, 0, 1, 0, []), (.sipush 4000, 5, 0, 0, 0, 0, 0, 4000, 0, []), (.invokestatic 59, 8, 133, 3, 1, 0, 1128, 0, 0, []), (.ifCond .eq 14, 11, 22, 0, 0, 0, 0, 0, 0, []), (.iload_n 2, 12, 2, 0, 0, 0, 0, 0, 0, []), (.iconst 0, 13, 0, 0, 0, 0, 0, 0, 0, []), (.sipush 4000, 16, 0, 0, 0, 0, 0, 4000, 0, []), (.invokestatic 59, 19, 133, 3, 1, 0, 1128, 0, 0, []), (.ifCond .ne 6, 22, 25, 0, 0, 0, 0, 0, 0, []), (.bipush (-2), 24, 0, 0, 0, 0, 0, (-2), 0, []), (.ireturn, 25, 0, 0, 0, 0, 0, 0, 0, []), (.aload_n 0, 26, 0, 0, 0, 0, 0, 0, 0, []), (.getfield 7, 29, 12, 0, 0, 0, 1051, 0, 0, []), (.iconst 0, 30, 0, 0, 0, 0, 0, 0, 0, []), (.iaload, 31, 0, 0, 0, 0, 0, 0, 0, []), (.bipush 60, 33, 0, 0, 0, 0, 0, 60, 0, []), (.if_icmp .ne 6, 36, 39, 0, 0, 0, 0, 0, 0, []), (.bipush (-4), 38, 0, 0, 0, 0, 0, (-4), 0, []), (.ireturn, 39, 0, 0, 0, 0, 0, 0, 0, []), (.aload_n 0, 40, 0, 0, 0, 0, 0, 0, 0, []), (.getfield 7, 43, 12, 0, 0, 0, 1051, 0, 0, []), (.iconst 1, 44, 0, 0, 0, 0, 0, 1, 0, []), (.aload_n 0, 45, 0, 0, 0, 0, 0, 0, 0, []), (.getfield 7, 48, 12, 0, 0, 0, 1051, 0, 0, []), (.iconst 0, 49, 0, 0, 0, 0, 0, 0, 0, []), (.iaload, 50, 0, 0, 0, 0, 0, 0, 0, []), (.iadd, 51, 0, 0, 0, 0, 0, 0, 0, []), (.iload_n 1, 52, 1, 0, 0, 0, 0, 0, 0, []), (.iastore, 53, 0, 0, 0, 0, 0, 0, 0, []), (.aload_n 0, 54, 0, 0, 0, 0, 0, 0, 0, []), (.getfield 7, 57, 12, 0, 0, 0, 1051, 0, 0, []), (.bipush 61, 59, 0, 0, 0, 0, 0, 61, 0, []), (.aload_n 0, 60, 0, 0, 0, 0, 0, 0, 0, []), (.getfield 7, 63, 12, 0, 0, 0, 1051, 0, 0, []), (.iconst 0, 64, 0, 0, 0, 0, 0, 0, 0, []), (.iaload, 65, 0, 0, 0, 0, 0, 0, 0, []), (.iadd, 66, 0, 0, 0, 0, 0, 0, 0, []), (.iload_n 2, 67, 2, 0, 0, 0, 0, 0, 0, []), (.iastore, 68, 0, 0, 0, 0, 0, 0, 0, []), (.aload_n 0, 69, 0, 0, 0, 0, 0, 0, 0, []), (.getfield 7, 72, 12, 0, 0, 0, 1051, 0, 0, []), (.iconst 0, 73, 0, 0, 0, 0, 0, 0, 0, []), (.dup2, 74, 0, 0, 0, 0, 0, 0, 0, []), (.iaload, 75, 0, 0, 0, 0, 0, 0, 0, []), (.iconst 1, 76, 0, 0, 0, 0, 0, 1, 0, []), (.iadd, 77, 0, 0, 0, 0, 0, 0, 0, []), (.iastore, 78, 0, 0, 0, 0, 0, 0, 0, []), (.aload_n 0, 79, 0, 0, 0, 0, 0, 0, 0, []), (.invokevirtual 112, 82, 150, 1, 0, 12, 1131, 0, 0, []), (.aload_n 0, 83, 0, 0, 0, 0, 0, 0, 0, []), (.getfield 7, 86, 12, 0, 0, 0, 1051, 0, 0, []), (.iconst 0, 87, 0, 0, 0, 0, 0, 0, 0, []), (.iaload, 88, 0, 0, 0, 0, 0, 0, 0, []), (.iconst 1, 89, 0, 0, 0, 0, 0, 1, 0, []), (.isub, 90, 0, 0, 0, 0, 0, 0, 0, []), (.ireturn, 91, 0, 0, 0, 0, 0, 0, 0, [])]
set_option maxRecDepth 100000 in
theorem zk_X12_append_0 : zOks nX12_append zo_X12_append_0 0 = true := by decide +kernel
def zm_X12_append : List (Nat × List Bool) := [(0, [true, true, true])]
set_option maxRecDepth 100000 in
set_option maxHeartbeats 4000000 in
theorem zr_X12_append_0 {C : zCa} {post : zPo} {X : zX} (hX : zClosed none C post nX12_append X) (p0 : Int32) (p1 : Int32) (σ : zS) (h : C nX12_in [.int p0, .int 1, .int 4000] σ (zPI fun x2 σ1 => zIf ((x2 : Int32) = 0) (post (some (.int (-2))) σ1) (C nX12_in [.int p1, .int 0, .int 4000] σ1 (zPI fun x4 σ3 => zIf ((x4 : Int32) = 0) (post (some (.int (-2))) σ3) (vp_in 0 (zN 64) ∧ (zIf ((σ3.1 64 (Int32.toNatClampNeg 0) : Int32) = 60) (post (some (.int (-4))) σ3) (vp_in 0 (zN 64) ∧ (vp_in (1 + (σ3.1 64 (Int32.toNatClampNeg 0))) (zN 64) ∧ (vp_in 0 (zN 64) ∧ (vp_in (61 + ((zSI σ3 64 (Int32.toNatClampNeg (1 + (σ3.1 64 (Int32.toNatClampNeg 0)))) p0).1 64 (Int32.toNatClampNeg 0))) (zN 64) ∧ (vp_in 0 (zN 64) ∧ (vp_in 0 (zN 64) ∧ (C nX12_forgets [.ref 63] (zSI (zSI (zSI σ3 64 (Int32.toNatClampNeg (1 + (σ3.1 64 (Int32.toNatClampNeg 0)))) p0) 64 (Int32.toNatClampNeg (61 + ((zSI σ3 64 (Int32.toNatClampNeg (1 + (σ3.1 64 (Int32.toNatClampNeg 0)))) p0).1 64 (Int32.toNatClampNeg 0)))) p1) 64 (Int32.toNatClampNeg 0) (((zSI (zSI σ3 64 (Int32.toNatClampNeg (1 + (σ3.1 64 (Int32.toNatClampNeg 0)))) p0) 64 (Int32.toNatClampNeg (61 + ((zSI σ3 64 (Int32.toNatClampNeg (1 + (σ3.1 64 (Int32.toNatClampNeg 0)))) p0).1 64 (Int32.toNatClampNeg 0)))) p1).1 64 (Int32.toNatClampNeg 0)) + 1)) (zPV fun σ5 => vp_in 0 (zN 64) ∧ (post (some (.int ((σ5.1 64 (Int32.toNatClampNeg 0)) - 1))) σ5))))))))))))))) : X 0 [some (.ref 63), some (.int p0), some (.int p1)] [] σ := zSeq_ok hX zm_X12_append zo_X12_append_0 0 0 _ _ _ zk_X12_append_0 h
theorem ze_X12_append {d : Nat} {post : zPo} (p0 : Int32) (p1 : Int32) (σ : zS) (h : ∀ X : zX, zClosed none (zCall d) post nX12_append X → X 0 [some (.ref 63), some (.int p0), some (.int p1)] [] σ) : zCall (d + 1) nX12_append [.ref 63, .int p0, .int p1] σ post := h
-- X12_isCut(63,) depth 1
def zo_X12_isCut_0 : List zOp := [(.iload_n 1, 1, 1, 0, 0, 0, 0, 0, 0, []), (.ifCond .le 31, 4, 32, 0, 0, 0, 0, 0, 0, []), (.iconst 2, 5, 0, 0, 0, 0, 0, 2, 0, []), (.aload_n 0, 6, 0, 0, 0, 0, 0, 0, 0, []), (.getfield 7, 9, 12, 0, 0, 0, 1051, 0, 0, []), (.bipush 61, 11, 0, 0, 0, 0, 0, 61, 0, []), (.iload_n 1, 12, 1, 0, 0, 0, 0, 0, 0, []), (.iadd, 13, 0, 0, 0, 0, 0, 0, 0, []), (.iaload, 14, 0, 0, 0, 0, 0, 0, 0, []), (.imul, 15, 0, 0, 0, 0, 0, 0, 0, []), (.iconst 3, 16, 0, 0, 0, 0, 0, 3, 0, []), (.aload_n 0, 17, 0, 0, 0, 0, 0, 0, 0, []), (.getfield 7, 20, 12, 0, 0, 0, 1051, 0, 0, []), (.iconst 1, 21, 0, 0, 0, 0, 0, 1, 0, []), (.iload_n 1, 22, 1, 0, 0, 0, 0, 0, 0, []), (.iadd, 23, 0, 0, 0, 0, 0, 0, 0, []), (.iaload, 24, 0, 0, 0, 0, 0, 0, 0, []), (.imul, 25, 0, 0, 0, 0, 0, 0, 0, []), (.if_icmp .le 7, 28, 32, 0, 0, 0, 0, 0, 0, []), (.iconst 1, 29, 0, 0, 0, 0, 0, 1, 0, []), (.goto 4, 32, 33, 0, 0, 0, 0, 0, 0, []), (.iconst 0, 33, 0, 0, 0, 0, 0, 0, 0, []), (.ireturn, 34, 0, 0, 1, 0, 0, 0, 0, [])]
set_option maxRecDepth 100000 in
theorem zk_X12_isCut_0 : zOks nX12_isCut zo_X12_isCut_0 0 = true := by decide +kernel
def zm_X12_isCut : List (Nat × List Bool) := [(0, [true, true])]
set_option maxRecDepth 100000 in
set_option maxHeartbeats 4000000 in
theorem zr_X12_isCut_0 {C : zCa} {post : zPo} {X : zX} (hX : zClosed none C post nX12_isCut X) (p0 : Int32) (σ : zS) (h : zIf ((p0 : Int32) ≤ 0) (post (some (.int 0)) σ) (vp_in (61 + p0) (zN 64) ∧ (vp_in (1 + p0) (zN 64) ∧ (zIf ((2 * (σ.1 64 (Int32.toNatClampNeg (61 + p0))) : Int32) ≤ (3 * (σ.1 64 (Int32.toNatClampNeg (1 + p0))))) (post (some (.int 0)) σ) (post (some (.int 1)) σ))))) : X 0 [some (.ref 63), some (.int p0)] [] σ := zSeq_ok hX zm_X12_isCut zo_X12_isCut_0 0 0 _ _ _ zk_X12_isCut_0 h
theorem ze_X12_isCut {d : Nat} {post : zPo} (p0 : Int32) (σ : zS) (h : ∀ X : zX, zClosed none (zCall d) post nX12_isCut X → X 0 [some (.ref 63), some (.int p0)] [] σ) : zCall (d + 1) nX12_isCut [.ref 63, .int p0] σ post := h
-- X12_findsIntra(63,) depth 2
def zo_X12_findsIntra_0 : List zOp := [(.aload_n 0, 1, 0, 0, 0, 0, 0, 0, 0, []), (.iconst 0, 2, 0, 0, 0, 0, 0, 0, 0, []), (.putfield 63, 5, 12, 8, 1, 0, 1059, 0, 0, []), (.aload_n 0, 6, 0, 0, 0, 0, 0, 0, 0, []), (.iconst 0, 7, 0, 0, 0, 0, 0, 0, 0, []), (.putfield 67, 10, 12, 9, 1, 0, 1060, 0, 0, []), (.iconst 0, 11, 0, 0, 0, 0, 0, 0, 0, []), (.istore_n 1, 12, 1, 0, 0, 0, 0, 0, 0, []), (.iconst 0, 13, 0, 0, 0, 0, 0, 0, 0, []), (.istore_n 2, 14, 2, 0, 0, 0, 0, 0, 0, [])]
set_option maxRecDepth 100000 in
theorem zk_X12_findsIntra_0 : zOks nX12_findsIntra zo_X12_findsIntra_0 0 = true := by decide +kernel
def zo_X12_findsIntra_14 : List zOp := [(.iload_n 2, 15, 2, 0, 0, 0, 0, 0, 0, []), (.aload_n 0, 16, 0, 0, 0, 0, 0, 0, 0, []), (.getfield 7, 19, 12, 0, 0, 0, 1051, 0, 0, []), (.iconst 0, 20, 0, 0, 0, 0, 0, 0, 0, []), (.iaload, 21, 0, 0, 0, 0, 0, 0, 0, []), (.if_icmp .ge 129, 24, 150, 0, 0, 0, 0, 0, 0, []), (.aload_n 0, 25, 0, 0, 0, 0, 0, 0, 0, []), (.dup, 26, 0, 0, 0, 0, 0, 0, 0, []), (.getfield 63, 29, 12, 8, 1, 0, 1059, 0, 0, []), (.iload_n 2, 30, 2, 0, 0, 0, 0, 0, 0, []), (.ifCond .eq 11, 33, 41, 0, 0, 0, 0, 0, 0, []), (.aload_n 0, 34, 0, 0, 0, 0, 0, 0, 0, []), (.iload_n 2, 35, 2, 0, 0, 0, 0, 0, 0, []), (.invokevirtual 70, 38, 136, 2, 1, 12, 1143, 0, 0, []), (.ifCond .eq 7, 41, 45, 0, 0, 0, 0, 0, 0, [])]
set_option maxRecDepth 100000 in
theorem zk_X12_findsIntra_14 : zOks nX12_findsIntra zo_X12_findsIntra_14 14 = true := by decide +kernel
def zo_X12_findsIntra_41 : List zOp := [(.iconst 1, 42, 0, 0, 0, 0, 0, 1, 0, []), (.goto 4, 45, 46, 0, 0, 0, 0, 0, 0, []), (.iconst 0, 46, 0, 0, 0, 0, 0, 0, 0, [])]
set_option maxRecDepth 100000 in
theorem zk_X12_findsIntra_41 : zOks nX12_findsIntra zo_X12_findsIntra_41 41 = true := by decide +kernel
def zo_X12_findsIntra_46 : List zOp := [(.iadd, 47, 0, 0, 0, 0, 0, 0, 0, []), (.putfield 63, 50, 12, 8, 1, 0, 1059, 0, 0, []), (.iload_n 2, 51, 2, 0, 0, 0, 0, 0, 0, []), (.ifCond .eq 25, 54, 76, 0, 0, 0, 0, 0, 0, []), (.aload_n 0, 55, 0, 0, 0, 0, 0, 0, 0, []), (.iload_n 2, 56, 2, 0, 0, 0, 0, 0, 0, []), (.invokevirtual 70, 59, 136, 2, 1, 12, 1143, 0, 0, []), (.ifCond .ne 17, 62, 76, 0, 0, 0, 0, 0, 0, []), (.iload_n 2, 63, 2, 0, 0, 0, 0, 0, 0, []), (.iload_n 1, 64, 1, 0, 0, 0, 0, 0, 0, []), (.isub, 65, 0, 0, 0, 0, 0, 0, 0, []), (.aload_n 0, 66, 0, 0, 0, 0, 0, 0, 0, []), (.getfield 7, 69, 12, 0, 0, 0, 1051, 0, 0, []), (.sipush 181, 72, 0, 0, 0, 0, 0, 181, 0, []), (.iaload, 73, 0, 0, 0, 0, 0, 0, 0, []), (.if_icmp .ne 7, 76, 80, 0, 0, 0, 0, 0, 0, [])]
set_option maxRecDepth 100000 in
theorem zk_X12_findsIntra_46 : zOks nX12_findsIntra zo_X12_findsIntra_46 46 = true := by decide +kernel
def zo_X12_findsIntra_76 : List zOp := [(.iconst 1, 77, 0, 0, 0, 0, 0, 1, 0, []), (.goto 4, 80, 81, 0, 0, 0, 0, 0, 0, []), (.iconst 0, 81, 0, 0, 0, 0, 0, 0, 0, [])]
set_option maxRecDepth 100000 in
theorem zk_X12_findsIntra_76 : zOks nX12_findsIntra zo_X12_findsIntra_76 76 = true := by decide +kernel
def zo_X12_findsIntra_81 : List zOp := [(.istore_n 3, 82, 3, 0, 0, 0, 0, 0, 0, []), (.iload_n 3, 83, 3, 0, 0, 0, 0, 0, 0, []), (.ifCond .eq 7, 86, 90, 0, 0, 0, 0, 0, 0, []), (.iload_n 2, 87, 2, 0, 0, 0, 0, 0, 0, []), (.goto 4, 90, 91, 0, 0, 0, 0, 0, 0, []), (.iload_n 1, 91, 1, 0, 0, 0, 0, 0, 0, [])]
set_option maxRecDepth 100000 in
theorem zk_X12_findsIntra_81 : zOks nX12_findsIntra zo_X12_findsIntra_81 81 = true := by decide +kernel
def zo_X12_findsIntra_91 : List zOp := [(.istore_n 1, 92, 1, 0, 0, 0, 0, 0, 0, []), (.aload_n 0, 93, 0, 0, 0, 0, 0, 0, 0, []), (.dup, 94, 0, 0, 0, 0, 0, 0, 0, []), (.getfield 67, 97, 12, 9, 1, 0, 1060, 0, 0, []), (.iload_n 3, 98, 3, 0, 0, 0, 0, 0, 0, []), (.ifCond .eq 7, 101, 105, 0, 0, 0, 0, 0, 0, []), (.iconst 1, 102, 0, 0, 0, 0, 0, 1, 0, []), (.goto 4, 105, 106, 0, 0, 0, 0, 0, 0, []), (.iconst 0, 106, 0, 0, 0, 0, 0, 0, 0, [])]
set_option maxRecDepth 100000 in
theorem zk_X12_findsIntra_91 : zOks nX12_findsIntra zo_X12_findsIntra_91 91 = true := by decide +kernel
def zo_X12_findsIntra_106 : List zOp := [(.iadd, 107, 0, 0, 0, 0, 0, 0, 0, []), (.putfield 67, 110, 12, 9, 1, 0, 1060, 0, 0, []), (.aload_n 0, 111, 0, 0, 0, 0, 0, 0, 0, []), (.getfield 22, 114, 12, 4, 0, 0, 1055, 0, 0, []), (.iload_n 2, 115, 2, 0, 0, 0, 0, 0, 0, []), (.aload_n 0, 116, 0, 0, 0, 0, 0, 0, 0, []), (.getfield 63, 119, 12, 8, 1, 0, 1059, 0, 0, []), (.iconst 1, 120, 0, 0, 0, 0, 0, 1, 0, []), (.isub, 121, 0, 0, 0, 0, 0, 0, 0, []), (.iastore, 122, 0, 0, 0, 0, 0, 0, 0, []), (.aload_n 0, 123, 0, 0, 0, 0, 0, 0, 0, []), (.getfield 25, 126, 12, 5, 0, 0, 1056, 0, 0, []), (.iload_n 2, 127, 2, 0, 0, 0, 0, 0, 0, []), (.iload_n 1, 128, 1, 0, 0, 0, 0, 0, 0, []), (.iastore, 129, 0, 0, 0, 0, 0, 0, 0, []), (.aload_n 0, 130, 0, 0, 0, 0, 0, 0, 0, []), (.getfield 19, 133, 12, 3, 0, 0, 1054, 0, 0, []), (.iload_n 2, 134, 2, 0, 0, 0, 0, 0, 0, []), (.iload_n 3, 135, 3, 0, 0, 0, 0, 0, 0, []), (.ifCond .eq 7, 138, 142, 0, 0, 0, 0, 0, 0, []), (.iconst 0, 139, 0, 0, 0, 0, 0, 0, 0, []), (.goto 4, 142, 143, 0, 0, 0, 0, 0, 0, []), (.iconst 1, 143, 0, 0, 0, 0, 0, 1, 0, [])]
set_option maxRecDepth 100000 in
theorem zk_X12_findsIntra_106 : zOks nX12_findsIntra zo_X12_findsIntra_106 106 = true := by decide +kernel
def zo_X12_findsIntra_143 : List zOp := [(.iastore, 144, 0, 0, 0, 0, 0, 0, 0, []), (.iinc 2 1, 147, 2, 0, 0, 0, 0, 1, 0, []), (.goto (-133), 150, 14, 0, 0, 0, 0, 0, 0, []), (.return_, 151, 0, 0, 0, 0, 0, 0, 0, [])]
set_option maxRecDepth 100000 in
theorem zk_X12_findsIntra_143 : zOks nX12_findsIntra zo_X12_findsIntra_143 143 = true := by decide +kernel
def zm_X12_findsIntra : List (Nat × List Bool) := [(0, [true, false, false, false]), (14, [true, true, true, false]), (41, [true, true, true, false]), (45, [true, true, true, false]), (46, [true, true, true, false]), (76, [true, true, true, false]), (80, [true, true, true, false]), (81, [true, true, true, false]), (91, [true, false, true, true]), (106, [true, true, true, true]), (143, [true, true, true, false]), (150, [false, false, false, false])]
set_option maxRecDepth 100000 in
set_option maxHeartbeats 4000000 in
theorem zr_X12_findsIntra_0 {C : zCa} {post : zPo} {X : zX} (hX : zClosed none C post nX12_findsIntra X) (σ : zS) (h : X 14 [some (.ref 63), some (.int 0), some (.int 0), none] [] (zSI (zSI σ 63 8 0) 63 9 0)) : X 0 [some (.ref 63), none, none, none] [] σ := zSeq_ok hX zm_X12_findsIntra zo_X12_findsIntra_0 0 0 _ _ _ zk_X12_findsIntra_0 h
set_option maxRecDepth 100000 in
set_option maxHeartbeats 4000000 in
theorem zr_X12_findsIntra_14 {C : zCa} {post : zPo} {X : zX} (hX : zClosed none C post nX12_findsIntra X) (v1 : Int32) (v2 : Int32) (σ : zS) (h : vp_in 0 (zN 64) ∧ (zIf ((v2 : Int32) < (σ.1 64 (Int32.toNatClampNeg 0))) (zIf ((v2 : Int32) = 0) (X 41 [some (.ref 63), some (.int v1), some (.int v2), none] [.int (σ.1 63 8), .ref 63] σ) (C nX12_isCut [.ref 63, .int v2] σ (zPI fun x2 σ1 => zIf ((x2 : Int32) = 0) (X 45 [some (.ref 63), some (.int v1), some (.int v2), none] [.int (σ.1 63 8), .ref 63] σ1) (X 41 [some (.ref 63), some (.int v1), some (.int v2), none] [.int (σ.1 63 8), .ref 63] σ1)))) (X 150 [none, none, none, none] [] σ))) : X 14 [some (.ref 63), some (.int v1), some (.int v2), none] [] σ := zSeq_ok hX zm_X12_findsIntra zo_X12_findsIntra_14 14 14 _ _ _ zk_X12_findsIntra_14 h
set_option maxRecDepth 100000 in
set_option maxHeartbeats 4000000 in
theorem zr_X12_findsIntra_41 {C : zCa} {post : zPo} {X : zX} (hX : zClosed none C post nX12_findsIntra X) (v1 : Int32) (v2 : Int32) (t0 : Int32) (σ : zS) (h : X 46 [some (.ref 63), some (.int v1), some (.int v2), none] [.int 1, .int t0, .ref 63] σ) : X 41 [some (.ref 63), some (.int v1), some (.int v2), none] [.int t0, .ref 63] σ := zSeq_ok hX zm_X12_findsIntra zo_X12_findsIntra_41 41 41 _ _ _ zk_X12_findsIntra_41 h
set_option maxRecDepth 100000 in
set_option maxHeartbeats 4000000 in
theorem zr_X12_findsIntra_45 {C : zCa} {post : zPo} {X : zX} (hX : zClosed none C post nX12_findsIntra X) (v1 : Int32) (v2 : Int32) (t0 : Int32) (σ : zS) (h : X 46 [some (.ref 63), some (.int v1), some (.int v2), none] [.int 0, .int t0, .ref 63] σ) : X 45 [some (.ref 63), some (.int v1), some (.int v2), none] [.int t0, .ref 63] σ := zSeq_ok hX zm_X12_findsIntra zo_X12_findsIntra_41 41 45 _ _ _ zk_X12_findsIntra_41 h
set_option maxRecDepth 100000 in
set_option maxHeartbeats 4000000 in
theorem zr_X12_findsIntra_150 {C : zCa} {post : zPo} {X : zX} (hX : zClosed none C post nX12_findsIntra X) (σ : zS) (h : post none σ) : X 150 [none, none, none, none] [] σ := zSeq_ok hX zm_X12_findsIntra zo_X12_findsIntra_143 143 150 _ _ _ zk_X12_findsIntra_143 h
set_option maxRecDepth 100000 in
set_option maxHeartbeats 4000000 in
theorem zr_X12_findsIntra_46 {C : zCa} {post : zPo} {X : zX} (hX : zClosed none C post nX12_findsIntra X) (v1 : Int32) (v2 : Int32) (t0 : Int32) (t1 : Int32) (σ : zS) (h : zIf ((v2 : Int32) = 0) (X 76 [some (.ref 63), some (.int v1), some (.int v2), none] [] (zSI σ 63 8 (t1 + t0))) (C nX12_isCut [.ref 63, .int v2] (zSI σ 63 8 (t1 + t0)) (zPI fun x2 σ1 => zIf ((x2 : Int32) = 0) (vp_in 181 (zN 64) ∧ (zIf ((v2 - v1 : Int32) = (σ1.1 64 (Int32.toNatClampNeg 181))) (X 76 [some (.ref 63), some (.int v1), some (.int v2), none] [] σ1) (X 80 [some (.ref 63), some (.int v1), some (.int v2), none] [] σ1))) (X 76 [some (.ref 63), some (.int v1), some (.int v2), none] [] σ1)))) : X 46 [some (.ref 63), some (.int v1), some (.int v2), none] [.int t0, .int t1, .ref 63] σ := zSeq_ok hX zm_X12_findsIntra zo_X12_findsIntra_46 46 46 _ _ _ zk_X12_findsIntra_46 h
set_option maxRecDepth 100000 in
set_option maxHeartbeats 4000000 in
theorem zr_X12_findsIntra_76 {C : zCa} {post : zPo} {X : zX} (hX : zClosed none C post nX12_findsIntra X) (v1 : Int32) (v2 : Int32) (σ : zS) (h : X 81 [some (.ref 63), some (.int v1), some (.int v2), none] [.int 1] σ) : X 76 [some (.ref 63), some (.int v1), some (.int v2), none] [] σ := zSeq_ok hX zm_X12_findsIntra zo_X12_findsIntra_76 76 76 _ _ _ zk_X12_findsIntra_76 h
set_option maxRecDepth 100000 in
set_option maxHeartbeats 4000000 in
theorem zr_X12_findsIntra_80 {C : zCa} {post : zPo} {X : zX} (hX : zClosed none C post nX12_findsIntra X) (v1 : Int32) (v2 : Int32) (σ : zS) (h : X 81 [some (.ref 63), some (.int v1), some (.int v2), none] [.int 0] σ) : X 80 [some (.ref 63), some (.int v1), some (.int v2), none] [] σ := zSeq_ok hX zm_X12_findsIntra zo_X12_findsIntra_76 76 80 _ _ _ zk_X12_findsIntra_76 h
set_option maxRecDepth 100000 in
set_option maxHeartbeats 4000000 in
theorem zr_X12_findsIntra_81 {C : zCa} {post : zPo} {X : zX} (hX : zClosed none C post nX12_findsIntra X) (v1 : Int32) (v2 : Int32) (t0 : Int32) (σ : zS) (h : zIf ((t0 : Int32) = 0) (X 91 [some (.ref 63), none, some (.int v2), some (.int t0)] [.int v1] σ) (X 91 [some (.ref 63), none, some (.int v2), some (.int t0)] [.int v2] σ)) : X 81 [some (.ref 63), some (.int v1), some (.int v2), none] [.int t0] σ := zSeq_ok hX zm_X12_findsIntra zo_X12_findsIntra_81 81 81 _ _ _ zk_X12_findsIntra_81 h
set_option maxRecDepth 100000 in
set_option maxHeartbeats 4000000 in
theorem zr_X12_findsIntra_91 {C : zCa} {post : zPo} {X : zX} (hX : zClosed none C post nX12_findsIntra X) (v2 : Int32) (v3 : Int32) (t0 : Int32) (σ : zS) (h : zIf ((v3 : Int32) = 0) (X 106 [some (.ref 63), some (.int t0), some (.int v2), some (.int v3)] [.int 0, .int (σ.1 63 9), .ref 63] σ) (X 106 [some (.ref 63), some (.int t0), some (.int v2), some (.int v3)] [.int 1, .int (σ.1 63 9), .ref 63] σ)) : X 91 [some (.ref 63), none, some (.int v2), some (.int v3)] [.int t0] σ := zSeq_ok hX zm_X12_findsIntra zo_X12_findsIntra_91 91 91 _ _ _ zk_X12_findsIntra_91 h
set_option maxRecDepth 100000 in
set_option maxHeartbeats 4000000 in
theorem zr_X12_findsIntra_106 {C : zCa} {post : zPo} {X : zX} (hX : zClosed none C post nX12_findsIntra X) (v1 : Int32) (v2 : Int32) (v3 : Int32) (t0 : Int32) (t1 : Int32) (σ : zS) (h : vp_in v2 (zN 68) ∧ (vp_in v2 (zN 69) ∧ (zIf ((v3 : Int32) = 0) (X 143 [some (.ref 63), some (.int v1), some (.int v2), none] [.int 1, .int v2, .ref 67] (zSI (zSI (zSI σ 63 9 (t1 + t0)) 68 (Int32.toNatClampNeg v2) (((zSI σ 63 9 (t1 + t0)).1 63 8) - 1)) 69 (Int32.toNatClampNeg v2) v1)) (X 143 [some (.ref 63), some (.int v1), some (.int v2), none] [.int 0, .int v2, .ref 67] (zSI (zSI (zSI σ 63 9 (t1 + t0)) 68 (Int32.toNatClampNeg v2) (((zSI σ 63 9 (t1 + t0)).1 63 8) - 1)) 69 (Int32.toNatClampNeg v2) v1))))) : X 106 [some (.ref 63), some (.int v1), some (.int v2), some (.int v3)] [.int t0, .int t1, .ref 63] σ := zSeq_ok hX zm_X12_findsIntra zo_X12_findsIntra_106 106 106 _ _ _ zk_X12_findsIntra_106 h
set_option maxRecDepth 100000 in
set_option maxHeartbeats 4000000 in
theorem zr_X12_findsIntra_143 {C : zCa} {post : zPo} {X : zX} (hX : zClosed none C post nX12_findsIntra X) (v1 : Int32) (v2 : Int32) (t0 : Int32) (t1 : Int32) (σ : zS) (h : vp_in t1 (zN 67) ∧ (X 14 [some (.ref 63), some (.int v1), some (.int (v2 + 1)), none] [] (zSI σ 67 (Int32.toNatClampNeg t1) t0))) : X 143 [some (.ref 63), some (.int v1), some (.int v2), none] [.int t0, .int t1, .ref 67] σ := zSeq_ok hX zm_X12_findsIntra zo_X12_findsIntra_143 143 143 _ _ _ zk_X12_findsIntra_143 h
theorem ze_X12_findsIntra {d : Nat} {post : zPo} (σ : zS) (h : ∀ X : zX, zClosed none (zCall d) post nX12_findsIntra X → X 0 [some (.ref 63), none, none, none] [] σ) : zCall (d + 1) nX12_findsIntra [.ref 63] σ post := h
-- X12_groupSize(63,) depth 1
def zo_X12_groupSize_0 : List zOp := [(.iconst 0, 1, 0, 0, 0, 0, 0, 0, 0, []), (.istore_n 2, 2, 2, 0, 0, 0, 0, 0, 0, []), (.iconst 0, 3, 0, 0, 0, 0, 0, 0, 0, []), (.istore_n 3, 4, 3, 0, 0, 0, 0, 0, 0, [])]
set_option maxRecDepth 100000 in
theorem zk_X12_groupSize_0 : zOks nX12_groupSize zo_X12_groupSize_0 0 = true := by decide +kernel
def zo_X12_groupSize_4 : List zOp := [(.iload_n 3, 5, 3, 0, 0, 0, 0, 0, 0, []), (.aload_n 0, 6, 0, 0, 0, 0, 0, 0, 0, []), (.getfield 7, 9, 12, 0, 0, 0, 1051, 0, 0, []), (.iconst 0, 10, 0, 0, 0, 0, 0, 0, 0, []), (.iaload, 11, 0, 0, 0, 0, 0, 0, 0, []), (.if_icmp .ge 27, 14, 38, 0, 0, 0, 0, 0, 0, []), (.iload_n 2, 15, 2, 0, 0, 0, 0, 0, 0, []), (.aload_n 0, 16, 0, 0, 0, 0, 0, 0, 0, []), (.getfield 25, 19, 12, 5, 0, 0, 1056, 0, 0, []), (.iload_n 3, 20, 3, 0, 0, 0, 0, 0, 0, []), (.iaload, 21, 0, 0, 0, 0, 0, 0, 0, []), (.iload_n 1, 22, 1, 0, 0, 0, 0, 0, 0, []), (.if_icmp .ne 7, 25, 29, 0, 0, 0, 0, 0, 0, []), (.iconst 1, 26, 0, 0, 0, 0, 0, 1, 0, []), (.goto 4, 29, 30, 0, 0, 0, 0, 0, 0, []), (.iconst 0, 30, 0, 0, 0, 0, 0, 0, 0, []), (.iadd, 31, 0, 0, 0, 0, 0, 0, 0, []), (.istore_n 2, 32, 2, 0, 0, 0, 0, 0, 0, []), (.iinc 3 1, 35, 3, 0, 0, 0, 0, 1, 0, []), (.goto (-31), 38, 4, 0, 0, 0, 0, 0, 0, []), (.iload_n 2, 39, 2, 0, 0, 0, 0, 0, 0, []), (.ireturn, 40, 0, 0, 0, 0, 0, 0, 0, [])]
set_option maxRecDepth 100000 in
theorem zk_X12_groupSize_4 : zOks nX12_groupSize zo_X12_groupSize_4 4 = true := by decide +kernel
def zm_X12_groupSize : List (Nat × List Bool) := [(0, [true, true, false, false]), (4, [true, true, true, true])]
set_option maxRecDepth 100000 in
set_option maxHeartbeats 4000000 in
theorem zr_X12_groupSize_0 {C : zCa} {post : zPo} {X : zX} (hX : zClosed none C post nX12_groupSize X) (p0 : Int32) (σ : zS) (h : X 4 [some (.ref 63), some (.int p0), some (.int 0), some (.int 0)] [] σ) : X 0 [some (.ref 63), some (.int p0), none, none] [] σ := zSeq_ok hX zm_X12_groupSize zo_X12_groupSize_0 0 0 _ _ _ zk_X12_groupSize_0 h
set_option maxRecDepth 100000 in
set_option maxHeartbeats 4000000 in
theorem zr_X12_groupSize_4 {C : zCa} {post : zPo} {X : zX} (hX : zClosed none C post nX12_groupSize X) (v1 : Int32) (v2 : Int32) (v3 : Int32) (σ : zS) (h : vp_in 0 (zN 64) ∧ (zIf ((v3 : Int32) < (σ.1 64 (Int32.toNatClampNeg 0))) (vp_in v3 (zN 69) ∧ (zIf ((σ.1 69 (Int32.toNatClampNeg v3) : Int32) = v1) (X 4 [some (.ref 63), some (.int v1), some (.int (v2 + 1)), some (.int (v3 + 1))] [] σ) (X 4 [some (.ref 63), some (.int v1), some (.int (v2 + 0)), some (.int (v3 + 1))] [] σ))) (post (some (.int v2)) σ))) : X 4 [some (.ref 63), some (.int v1), some (.int v2), some (.int v3)] [] σ := zSeq_ok hX zm_X12_groupSize zo_X12_groupSize_4 4 4 _ _ _ zk_X12_groupSize_4 h
theorem ze_X12_groupSize {d : Nat} {post : zPo} (p0 : Int32) (σ : zS) (h : ∀ X : zX, zClosed none (zCall d) post nX12_groupSize X → X 0 [some (.ref 63), some (.int p0), none, none] [] σ) : zCall (d + 1) nX12_groupSize [.ref 63, .int p0] σ post := h
-- X12_findsTypes(63,) depth 3
def zo_X12_findsTypes_0 : List zOp := [(.aload_n 0, 1, 0, 0, 0, 0, 0, 0, 0, []), (.invokevirtual 74, 4, 137, 1, 0, 12, 1195, 0, 0, []), (.iconst 0, 5, 0, 0, 0, 0, 0, 0, 0, []), (.istore_n 1, 6, 1, 0, 0, 0, 0, 0, 0, [])]
set_option maxRecDepth 100000 in
theorem zk_X12_findsTypes_0 : zOks nX12_findsTypes zo_X12_findsTypes_0 0 = true := by decide +kernel
def zo_X12_findsTypes_6 : List zOp := [(.iload_n 1, 7, 1, 0, 0, 0, 0, 0, 0, []), (.aload_n 0, 8, 0, 0, 0, 0, 0, 0, 0, []), (.getfield 7, 11, 12, 0, 0, 0, 1051, 0, 0, []), (.iconst 0, 12, 0, 0, 0, 0, 0, 0, 0, []), (.iaload, 13, 0, 0, 0, 0, 0, 0, 0, []), (.if_icmp .ge 78, 16, 91, 0, 0, 0, 0, 0, 0, []), (.iload_n 1, 17, 1, 0, 0, 0, 0, 0, 0, []), (.aload_n 0, 18, 0, 0, 0, 0, 0, 0, 0, []), (.getfield 25, 21, 12, 5, 0, 0, 1056, 0, 0, []), (.iload_n 1, 22, 1, 0, 0, 0, 0, 0, 0, []), (.iaload, 23, 0, 0, 0, 0, 0, 0, 0, []), (.isub, 24, 0, 0, 0, 0, 0, 0, 0, []), (.istore_n 2, 25, 2, 0, 0, 0, 0, 0, 0, []), (.iload_n 2, 26, 2, 0, 0, 0, 0, 0, 0, []), (.aload_n 0, 27, 0, 0, 0, 0, 0, 0, 0, []), (.aload_n 0, 28, 0, 0, 0, 0, 0, 0, 0, []), (.getfield 25, 31, 12, 5, 0, 0, 1056, 0, 0, []), (.iload_n 1, 32, 1, 0, 0, 0, 0, 0, 0, []), (.iaload, 33, 0, 0, 0, 0, 0, 0, 0, []), (.invokevirtual 77, 36, 138, 2, 1, 12, 1199, 0, 0, []), (.iconst 1, 37, 0, 0, 0, 0, 0, 1, 0, []), (.isub, 38, 0, 0, 0, 0, 0, 0, 0, []), (.if_icmp .eq 18, 41, 56, 0, 0, 0, 0, 0, 0, []), (.iload_n 2, 42, 2, 0, 0, 0, 0, 0, 0, []), (.aload_n 0, 43, 0, 0, 0, 0, 0, 0, 0, []), (.getfield 7, 46, 12, 0, 0, 0, 1051, 0, 0, []), (.sipush 182, 49, 0, 0, 0, 0, 0, 182, 0, []), (.iaload, 50, 0, 0, 0, 0, 0, 0, 0, []), (.iconst 1, 51, 0, 0, 0, 0, 0, 1, 0, []), (.iadd, 52, 0, 0, 0, 0, 0, 0, 0, []), (.irem, 53, 0, 0, 0, 0, 0, 0, 0, []), (.ifCond .ne 7, 56, 60, 0, 0, 0, 0, 0, 0, []), (.iconst 1, 57, 0, 0, 0, 0, 0, 1, 0, []), (.goto 4, 60, 61, 0, 0, 0, 0, 0, 0, []), (.iconst 0, 61, 0, 0, 0, 0, 0, 0, 0, []), (.istore_n 3, 62, 3, 0, 0, 0, 0, 0, 0, []), (.aload_n 0, 63, 0, 0, 0, 0, 0, 0, 0, []), (.getfield 19, 66, 12, 3, 0, 0, 1054, 0, 0, []), (.iload_n 1, 67, 1, 0, 0, 0, 0, 0, 0, []), (.iload_n 2, 68, 2, 0, 0, 0, 0, 0, 0, []), (.ifCond .ne 7, 71, 75, 0, 0, 0, 0, 0, 0, []), (.iconst 0, 72, 0, 0, 0, 0, 0, 0, 0, []), (.goto 12, 75, 84, 0, 0, 0, 0, 0, 0, []), (.iload_n 3, 76, 3, 0, 0, 0, 0, 0, 0, []), (.ifCond .eq 7, 79, 83, 0, 0, 0, 0, 0, 0, []), (.iconst 1, 80, 0, 0, 0, 0, 0, 1, 0, []), (.goto 4, 83, 84, 0, 0, 0, 0, 0, 0, []), (.iconst 2, 84, 0, 0, 0, 0, 0, 2, 0, []), (.iastore, 85, 0, 0, 0, 0, 0, 0, 0, []), (.iinc 1 1, 88, 1, 0, 0, 0, 0, 1, 0, []), (.goto (-82), 91, 6, 0, 0, 0, 0, 0, 0, []), (.iconst 0, 92, 0, 0, 0, 0, 0, 0, 0, []), (.istore_n 1, 93, 1, 0, 0, 0, 0, 0, 0, []), (.iconst 0, 94, 0, 0, 0, 0, 0, 0, 0, []), (.istore_n 2, 95, 2, 0, 0, 0, 0, 0, 0, []), (.iconst 0, 96, 0, 0, 0, 0, 0, 0, 0, []), (.istore_n 3, 97, 3, 0, 0, 0, 0, 0, 0, [])]
set_option maxRecDepth 100000 in
theorem zk_X12_findsTypes_6 : zOks nX12_findsTypes zo_X12_findsTypes_6 6 = true := by decide +kernel
def zo_X12_findsTypes_97 : List zOp := [(.iload_n 3, 98, 3, 0, 0, 0, 0, 0, 0, []), (.aload_n 0, 99, 0, 0, 0, 0, 0, 0, 0, []), (.getfield 7, 102, 12, 0, 0, 0, 1051, 0, 0, []), (.iconst 0, 103, 0, 0, 0, 0, 0, 0, 0, []), (.iaload, 104, 0, 0, 0, 0, 0, 0, 0, []), (.if_icmp .ge 64, 107, 168, 0, 0, 0, 0, 0, 0, []), (.aload_n 0, 108, 0, 0, 0, 0, 0, 0, 0, []), (.getfield 19, 111, 12, 3, 0, 0, 1054, 0, 0, []), (.iload_n 3, 112, 3, 0, 0, 0, 0, 0, 0, []), (.iaload, 113, 0, 0, 0, 0, 0, 0, 0, []), (.iconst 2, 114, 0, 0, 0, 0, 0, 2, 0, []), (.if_icmp .ne 9, 117, 123, 0, 0, 0, 0, 0, 0, []), (.iinc 2 1, 120, 2, 0, 0, 0, 0, 1, 0, []), (.goto 42, 123, 162, 0, 0, 0, 0, 0, 0, []), (.aload_n 0, 124, 0, 0, 0, 0, 0, 0, 0, []), (.getfield 31, 127, 12, 7, 0, 0, 1058, 0, 0, []), (.iload_n 1, 128, 1, 0, 0, 0, 0, 0, 0, []), (.iload_n 3, 129, 3, 0, 0, 0, 0, 0, 0, []), (.iastore, 130, 0, 0, 0, 0, 0, 0, 0, []), (.iinc 1 1, 133, 1, 0, 0, 0, 0, 1, 0, []), (.iload_n 2, 134, 2, 0, 0, 0, 0, 0, 0, []), (.istore 4, 136, 4, 0, 0, 0, 0, 0, 0, [])]
set_option maxRecDepth 100000 in
theorem zk_X12_findsTypes_97 : zOks nX12_findsTypes zo_X12_findsTypes_97 97 = true := by decide +kernel
def zo_X12_findsTypes_136 : List zOp := [(.iload 4, 138, 4, 0, 0, 0, 0, 0, 0, []), (.ifCond .le 22, 141, 160, 0, 0, 0, 0, 0, 0, []), (.aload_n 0, 142, 0, 0, 0, 0, 0, 0, 0, []), (.getfield 31, 145, 12, 7, 0, 0, 1058, 0, 0, []), (.iload_n 1, 146, 1, 0, 0, 0, 0, 0, 0, []), (.iload_n 3, 147, 3, 0, 0, 0, 0, 0, 0, []), (.iload 4, 149, 4, 0, 0, 0, 0, 0, 0, []), (.isub, 150, 0, 0, 0, 0, 0, 0, 0, []), (.iastore, 151, 0, 0, 0, 0, 0, 0, 0, []), (.iinc 1 1, 154, 1, 0, 0, 0, 0, 1, 0, []), (.iinc 4 (-1), 157, 4, 0, 0, 0, 0, (-1), 0, []), (.goto (-21), 160, 136, 0, 0, 0, 0, 0, 0, []), (.iconst 0, 161, 0, 0, 0, 0, 0, 0, 0, []), (.istore_n 2, 162, 2, 0, 0, 0, 0, 0, 0, []), (.iinc 3 1, 165, 3, 0, 0, 0, 0, 1, 0, []), (.goto (-68), 168, 97, 0, 0, 0, 0, 0, 0, []), (.iconst 0, 169, 0, 0, 0, 0, 0, 0, 0, []), (.istore_n 3, 170, 3, 0, 0, 0, 0, 0, 0, [])]
set_option maxRecDepth 100000 in
theorem zk_X12_findsTypes_136 : zOks nX12_findsTypes zo_X12_findsTypes_136 136 = true := by decide +kernel
def zo_X12_findsTypes_170 : List zOp := [(.iload_n 3, 171, 3, 0, 0, 0, 0, 0, 0, []), (.aload_n 0, 172, 0, 0, 0, 0, 0, 0, 0, []), (.getfield 7, 175, 12, 0, 0, 0, 1051, 0, 0, []), (.iconst 0, 176, 0, 0, 0, 0, 0, 0, 0, []), (.iaload, 177, 0, 0, 0, 0, 0, 0, 0, []), (.if_icmp .ge 21, 180, 198, 0, 0, 0, 0, 0, 0, []), (.aload_n 0, 181, 0, 0, 0, 0, 0, 0, 0, []), (.getfield 28, 184, 12, 6, 0, 0, 1057, 0, 0, []), (.aload_n 0, 185, 0, 0, 0, 0, 0, 0, 0, []), (.getfield 31, 188, 12, 7, 0, 0, 1058, 0, 0, []), (.iload_n 3, 189, 3, 0, 0, 0, 0, 0, 0, []), (.iaload, 190, 0, 0, 0, 0, 0, 0, 0, []), (.iload_n 3, 191, 3, 0, 0, 0, 0, 0, 0, []), (.iastore, 192, 0, 0, 0, 0, 0, 0, 0, []), (.iinc 3 1, 195, 3, 0, 0, 0, 0, 1, 0, []), (.goto (-25), 198, 170, 0, 0, 0, 0, 0, 0, []), (.return_, 199, 0, 0, 0, 0, 0, 0, 0, [])]
set_option maxRecDepth 100000 in
theorem zk_X12_findsTypes_170 : zOks nX12_findsTypes zo_X12_findsTypes_170 170 = true := by decide +kernel
def zm_X12_findsTypes : List (Nat × List Bool) := [(0, [true, false, false, false, false]), (6, [true, true, false, false, false]), (97, [true, true, true, true, false]), (136, [true, true, false, true, true]), (162, [true, true, true, true, false]), (168, [true, false, false, false, false]), (170, [true, false, false, true, false])]
set_option maxRecDepth 100000 in
set_option maxHeartbeats 4000000 in
theorem zr_X12_findsTypes_0 {C : zCa} {post : zPo} {X : zX} (hX : zClosed none C post nX12_findsTypes X) (σ : zS) (h : C nX12_findsIntra [.ref 63] σ (zPV fun σ1 => X 6 [some (.ref 63), some (.int 0), none, none, none] [] σ1)) : X 0 [some (.ref 63), none, none, none, none] [] σ := zSeq_ok hX zm_X12_findsTypes zo_X12_findsTypes_0 0 0 _ _ _ zk_X12_findsTypes_0 h
set_option maxRecDepth 100000 in
set_option maxHeartbeats 4000000 in
theorem zr_X12_findsTypes_6 {C : zCa} {post : zPo} {X : zX} (hX : zClosed none C post nX12_findsTypes X) (v1 : Int32) (σ : zS) (h : vp_in 0 (zN 64) ∧ (zIf ((v1 : Int32) < (σ.1 64 (Int32.toNatClampNeg 0))) (vp_in v1 (zN 69) ∧ (vp_in v1 (zN 69) ∧ (C nX12_groupSize [.ref 63, .int (σ.1 69 (Int32.toNatClampNeg v1))] σ (zPI fun x2 σ1 => zIf ((v1 - (σ.1 69 (Int32.toNatClampNeg v1)) : Int32) = (x2 - 1)) (zIf ((v1 - (σ.1 69 (Int32.toNatClampNeg v1)) : Int32) = 0) (vp_in v1 (zN 67) ∧ (X 6 [some (.ref 63), some (.int (v1 + 1)), none, none, none] [] (zSI σ1 67 (Int32.toNatClampNeg v1) 0))) (zIf ((1 : Int32) = 0) (vp_in v1 (zN 67) ∧ (X 6 [some (.ref 63), some (.int (v1 + 1)), none, none, none] [] (zSI σ1 67 (Int32.toNatClampNeg v1) 2))) (vp_in v1 (zN 67) ∧ (X 6 [some (.ref 63), some (.int (v1 + 1)), none, none, none] [] (zSI σ1 67 (Int32.toNatClampNeg v1) 1))))) (vp_in 182 (zN 64) ∧ (¬ ((σ1.1 64 (Int32.toNatClampNeg 182)) + 1 : Int32) = 0 ∧ (zIf (((v1 - (σ.1 69 (Int32.toNatClampNeg v1))) - (v1 - (σ.1 69 (Int32.toNatClampNeg v1))) / ((σ1.1 64 (Int32.toNatClampNeg 182)) + 1) * ((σ1.1 64 (Int32.toNatClampNeg 182)) + 1) : Int32) = 0) (zIf ((v1 - (σ.1 69 (Int32.toNatClampNeg v1)) : Int32) = 0) (vp_in v1 (zN 67) ∧ (X 6 [some (.ref 63), some (.int (v1 + 1)), none, none, none] [] (zSI σ1 67 (Int32.toNatClampNeg v1) 0))) (zIf ((1 : Int32) = 0) (vp_in v1 (zN 67) ∧ (X 6 [some (.ref 63), some (.int (v1 + 1)), none, none, none] [] (zSI σ1 67 (Int32.toNatClampNeg v1) 2))) (vp_in v1 (zN 67) ∧ (X 6 [some (.ref 63), some (.int (v1 + 1)), none, none, none] [] (zSI σ1 67 (Int32.toNatClampNeg v1) 1))))) (zIf ((v1 - (σ.1 69 (Int32.toNatClampNeg v1)) : Int32) = 0) (vp_in v1 (zN 67) ∧ (X 6 [some (.ref 63), some (.int (v1 + 1)), none, none, none] [] (zSI σ1 67 (Int32.toNatClampNeg v1) 0))) (zIf ((0 : Int32) = 0) (vp_in v1 (zN 67) ∧ (X 6 [some (.ref 63), some (.int (v1 + 1)), none, none, none] [] (zSI σ1 67 (Int32.toNatClampNeg v1) 2))) (vp_in v1 (zN 67) ∧ (X 6 [some (.ref 63), some (.int (v1 + 1)), none, none, none] [] (zSI σ1 67 (Int32.toNatClampNeg v1) 1)))))))))))) (X 97 [some (.ref 63), some (.int 0), some (.int 0), some (.int 0), none] [] σ))) : X 6 [some (.ref 63), some (.int v1), none, none, none] [] σ := zSeq_ok hX zm_X12_findsTypes zo_X12_findsTypes_6 6 6 _ _ _ zk_X12_findsTypes_6 h
set_option maxRecDepth 100000 in
set_option maxHeartbeats 4000000 in
theorem zr_X12_findsTypes_97 {C : zCa} {post : zPo} {X : zX} (hX : zClosed none C post nX12_findsTypes X) (v1 : Int32) (v2 : Int32) (v3 : Int32) (σ : zS) (h : vp_in 0 (zN 64) ∧ (zIf ((v3 : Int32) < (σ.1 64 (Int32.toNatClampNeg 0))) (vp_in v3 (zN 67) ∧ (zIf ((σ.1 67 (Int32.toNatClampNeg v3) : Int32) = 2) (X 162 [some (.ref 63), some (.int v1), some (.int (v2 + 1)), some (.int v3), none] [] σ) (vp_in v1 (zN 71) ∧ (X 136 [some (.ref 63), some (.int (v1 + 1)), none, some (.int v3), some (.int v2)] [] (zSI σ 71 (Int32.toNatClampNeg v1) v3))))) (X 168 [some (.ref 63), none, none, none, none] [] σ))) : X 97 [some (.ref 63), some (.int v1), some (.int v2), some (.int v3), none] [] σ := zSeq_ok hX zm_X12_findsTypes zo_X12_findsTypes_97 97 97 _ _ _ zk_X12_findsTypes_97 h
set_option maxRecDepth 100000 in
set_option maxHeartbeats 4000000 in
theorem zr_X12_findsTypes_162 {C : zCa} {post : zPo} {X : zX} (hX : zClosed none C post nX12_findsTypes X) (v1 : Int32) (v2 : Int32) (v3 : Int32) (σ : zS) (h : X 97 [some (.ref 63), some (.int v1), some (.int v2), some (.int (v3 + 1)), none] [] σ) : X 162 [some (.ref 63), some (.int v1), some (.int v2), some (.int v3), none] [] σ := zSeq_ok hX zm_X12_findsTypes zo_X12_findsTypes_136 136 162 _ _ _ zk_X12_findsTypes_136 h
set_option maxRecDepth 100000 in
set_option maxHeartbeats 4000000 in
theorem zr_X12_findsTypes_136 {C : zCa} {post : zPo} {X : zX} (hX : zClosed none C post nX12_findsTypes X) (v1 : Int32) (v3 : Int32) (v4 : Int32) (σ : zS) (h : zIf ((v4 : Int32) ≤ 0) (X 97 [some (.ref 63), some (.int v1), some (.int 0), some (.int (v3 + 1)), none] [] σ) (vp_in v1 (zN 71) ∧ (X 136 [some (.ref 63), some (.int (v1 + 1)), none, some (.int v3), some (.int (v4 + (-1)))] [] (zSI σ 71 (Int32.toNatClampNeg v1) (v3 - v4))))) : X 136 [some (.ref 63), some (.int v1), none, some (.int v3), some (.int v4)] [] σ := zSeq_ok hX zm_X12_findsTypes zo_X12_findsTypes_136 136 136 _ _ _ zk_X12_findsTypes_136 h
set_option maxRecDepth 100000 in
set_option maxHeartbeats 4000000 in
theorem zr_X12_findsTypes_168 {C : zCa} {post : zPo} {X : zX} (hX : zClosed none C post nX12_findsTypes X) (σ : zS) (h : X 170 [some (.ref 63), none, none, some (.int 0), none] [] σ) : X 168 [some (.ref 63), none, none, none, none] [] σ := zSeq_ok hX zm_X12_findsTypes zo_X12_findsTypes_136 136 168 _ _ _ zk_X12_findsTypes_136 h
set_option maxRecDepth 100000 in
set_option maxHeartbeats 4000000 in
theorem zr_X12_findsTypes_170 {C : zCa} {post : zPo} {X : zX} (hX : zClosed none C post nX12_findsTypes X) (v3 : Int32) (σ : zS) (h : vp_in 0 (zN 64) ∧ (zIf ((v3 : Int32) < (σ.1 64 (Int32.toNatClampNeg 0))) (vp_in v3 (zN 71) ∧ (vp_in (σ.1 71 (Int32.toNatClampNeg v3)) (zN 70) ∧ (X 170 [some (.ref 63), none, none, some (.int (v3 + 1)), none] [] (zSI σ 70 (Int32.toNatClampNeg (σ.1 71 (Int32.toNatClampNeg v3))) v3)))) (post none σ))) : X 170 [some (.ref 63), none, none, some (.int v3), none] [] σ := zSeq_ok hX zm_X12_findsTypes zo_X12_findsTypes_170 170 170 _ _ _ zk_X12_findsTypes_170 h
theorem ze_X12_findsTypes {d : Nat} {post : zPo} (σ : zS) (h : ∀ X : zX, zClosed none (zCall d) post nX12_findsTypes X → X 0 [some (.ref 63), none, none, none, none] [] σ) : zCall (d + 1) nX12_findsTypes [.ref 63] σ post := h
-- X12_byType() depth 1
def zo_X12_byType_0 : List zOp := [(.iload_n 0, 1, 0, 0, 0, 0, 0, 0, 0, []), (.ifCond .ne 8, 4, 9, 0, 0, 0, 0, 0, 0, []), (.bipush (-3), 6, 0, 0, 0, 0, 0, (-3), 0, []), (.goto 13, 9, 19, 0, 0, 0, 0, 0, 0, []), (.iload_n 0, 10, 0, 0, 0, 0, 0, 0, 0, []), (.iconst 1, 11, 0, 0, 0, 0, 0, 1, 0, []), (.if_icmp .ne 7, 14, 18, 0, 0, 0, 0, 0, 0, []), (.iconst 0, 15, 0, 0, 0, 0, 0, 0, 0, []), (.goto 4, 18, 19, 0, 0, 0, 0, 0, 0, []), (.iconst 2, 19, 0, 0, 0, 0, 0, 2, 0, []), (.ireturn, 20, 0, 0, 0, 0, 0, 0, 0, [])]
set_option maxRecDepth 100000 in
theorem zk_X12_byType_0 : zOks nX12_byType zo_X12_byType_0 0 = true := by decide +kernel
def zm_X12_byType : List (Nat × List Bool) := [(0, [true])]
set_option maxRecDepth 100000 in
set_option maxHeartbeats 4000000 in
theorem zr_X12_byType_0 {C : zCa} {post : zPo} {X : zX} (hX : zClosed none C post nX12_byType X) (p0 : Int32) (σ : zS) (h : zIf ((p0 : Int32) = 0) (post (some (.int (-3))) σ) (zIf ((p0 : Int32) = 1) (post (some (.int 0)) σ) (post (some (.int 2)) σ))) : X 0 [some (.int p0)] [] σ := zSeq_ok hX zm_X12_byType zo_X12_byType_0 0 0 _ _ _ zk_X12_byType_0 h
theorem ze_X12_byType {d : Nat} {post : zPo} (p0 : Int32) (σ : zS) (h : ∀ X : zX, zClosed none (zCall d) post nX12_byType X → X 0 [some (.int p0)] [] σ) : zCall (d + 1) nX12_byType [.int p0] σ post := h
-- X12_limited() depth 1
def zo_X12_limited_0 : List zOp := [(.iload_n 0, 1, 0, 0, 0, 0, 0, 0, 0, []), (.iload_n 1, 2, 1, 0, 0, 0, 0, 0, 0, []), (.if_icmp .ge 7, 5, 9, 0, 0, 0, 0, 0, 0, []), (.iload_n 1, 6, 1, 0, 0, 0, 0, 0, 0, []), (.goto 13, 9, 19, 0, 0, 0, 0, 0, 0, []), (.iload_n 0, 10, 0, 0, 0, 0, 0, 0, 0, []), (.iload_n 2, 11, 2, 0, 0, 0, 0, 0, 0, []), (.if_icmp .le 7, 14, 18, 0, 0, 0, 0, 0, 0, []), (.iload_n 2, 15, 2, 0, 0, 0, 0, 0, 0, []), (.goto 4, 18, 19, 0, 0, 0, 0, 0, 0, []), (.iload_n 0, 19, 0, 0, 0, 0, 0, 0, 0, []), (.ireturn, 20, 0, 0, 0, 0, 0, 0, 0, [])]
set_option maxRecDepth 100000 in
theorem zk_X12_limited_0 : zOks nX12_limited zo_X12_limited_0 0 = true := by decide +kernel
def zm_X12_limited : List (Nat × List Bool) := [(0, [true, true, true])]
set_option maxRecDepth 100000 in
set_option maxHeartbeats 4000000 in
theorem zr_X12_limited_0 {C : zCa} {post : zPo} {X : zX} (hX : zClosed none C post nX12_limited X) (p0 : Int32) (p1 : Int32) (p2 : Int32) (σ : zS) (h : zIf ((p0 : Int32) < p1) (post (some (.int p1)) σ) (zIf ((p0 : Int32) ≤ p2) (post (some (.int p0)) σ) (post (some (.int p2)) σ))) : X 0 [some (.int p0), some (.int p1), some (.int p2)] [] σ := zSeq_ok hX zm_X12_limited zo_X12_limited_0 0 0 _ _ _ zk_X12_limited_0 h
theorem ze_X12_limited {d : Nat} {post : zPo} (p0 : Int32) (p1 : Int32) (p2 : Int32) (σ : zS) (h : ∀ X : zX, zClosed none (zCall d) post nX12_limited X → X 0 [some (.int p0), some (.int p1), some (.int p2)] [] σ) : zCall (d + 1) nX12_limited [.int p0, .int p1, .int p2] σ post := h
-- X12_settled(63,) depth 2
def zo_X12_settled_0 : List zOp := [(.iload_n 2, 1, 2, 0, 0, 0, 0, 0, 0, []), (.istore_n 3, 2, 3, 0, 0, 0, 0, 0, 0, []), (.iconst 0, 3, 0, 0, 0, 0, 0, 0, 0, []), (.istore 4, 5, 4, 0, 0, 0, 0, 0, 0, [])]
set_option maxRecDepth 100000 in
theorem zk_X12_settled_0 : zOks nX12_settled zo_X12_settled_0 0 = true := by decide +kernel
def zo_X12_settled_5 : List zOp := [(.iload 4, 7, 4, 0, 0, 0, 0, 0, 0, []), (.aload_n 0, 8, 0, 0, 0, 0, 0, 0, 0, []), (.getfield 7, 11, 12, 0, 0, 0, 1051, 0, 0, []), (.sipush 188, 14, 0, 0, 0, 0, 0, 188, 0, []), (.iaload, 15, 0, 0, 0, 0, 0, 0, 0, []), (.if_icmp .ge 58, 18, 73, 0, 0, 0, 0, 0, 0, []), (.sipush 189, 21, 0, 0, 0, 0, 0, 189, 0, []), (.iconst 3, 22, 0, 0, 0, 0, 0, 3, 0, []), (.iload 4, 24, 4, 0, 0, 0, 0, 0, 0, []), (.imul, 25, 0, 0, 0, 0, 0, 0, 0, []), (.iadd, 26, 0, 0, 0, 0, 0, 0, 0, []), (.istore 5, 28, 5, 0, 0, 0, 0, 0, 0, []), (.iload_n 3, 29, 3, 0, 0, 0, 0, 0, 0, []), (.iload_n 1, 30, 1, 0, 0, 0, 0, 0, 0, []), (.aload_n 0, 31, 0, 0, 0, 0, 0, 0, 0, []), (.getfield 7, 34, 12, 0, 0, 0, 1051, 0, 0, []), (.iload 5, 36, 5, 0, 0, 0, 0, 0, 0, []), (.iaload, 37, 0, 0, 0, 0, 0, 0, 0, []), (.aload_n 0, 38, 0, 0, 0, 0, 0, 0, 0, []), (.getfield 7, 41, 12, 0, 0, 0, 1051, 0, 0, []), (.iload 5, 43, 5, 0, 0, 0, 0, 0, 0, []), (.iconst 1, 44, 0, 0, 0, 0, 0, 1, 0, []), (.iadd, 45, 0, 0, 0, 0, 0, 0, 0, []), (.iaload, 46, 0, 0, 0, 0, 0, 0, 0, []), (.invokestatic 59, 49, 133, 3, 1, 0, 1128, 0, 0, []), (.ifCond .eq 15, 52, 64, 0, 0, 0, 0, 0, 0, []), (.aload_n 0, 53, 0, 0, 0, 0, 0, 0, 0, []), (.getfield 7, 56, 12, 0, 0, 0, 1051, 0, 0, []), (.iload 5, 58, 5, 0, 0, 0, 0, 0, 0, []), (.iconst 2, 59, 0, 0, 0, 0, 0, 2, 0, []), (.iadd, 60, 0, 0, 0, 0, 0, 0, 0, []), (.iaload, 61, 0, 0, 0, 0, 0, 0, 0, []), (.goto 4, 64, 65, 0, 0, 0, 0, 0, 0, []), (.iconst 0, 65, 0, 0, 0, 0, 0, 0, 0, []), (.iadd, 66, 0, 0, 0, 0, 0, 0, 0, []), (.istore_n 3, 67, 3, 0, 0, 0, 0, 0, 0, []), (.iinc 4 1, 70, 4, 0, 0, 0, 0, 1, 0, []), (.goto (-65), 73, 5, 0, 0, 0, 0, 0, 0, []), (.iload_n 3, 74, 3, 0, 0, 0, 0, 0, 0, []), (.aload_n 0, 75, 0, 0, 0, 0, 0, 0, 0, []), (.getfield 7, 78, 12, 0, 0, 0, 1051, 0, 0, []), (.sipush 183, 81, 0, 0, 0, 0, 0, 183, 0, []), (.iaload, 82, 0, 0, 0, 0, 0, 0, 0, []), (.aload_n 0, 83, 0, 0, 0, 0, 0, 0, 0, []), (.getfield 7, 86, 12, 0, 0, 0, 1051, 0, 0, []), (.sipush 184, 89, 0, 0, 0, 0, 0, 184, 0, []), (.iaload, 90, 0, 0, 0, 0, 0, 0, 0, []), (.invokestatic 90, 93, 134, 3, 1, 0, 1287, 0, 0, []), (.ireturn, 94, 0, 0, 0, 0, 0, 0, 0, [])]
set_option maxRecDepth 100000 in
theorem zk_X12_settled_5 : zOks nX12_settled zo_X12_settled_5 5 = true := by decide +kernel
def zm_X12_settled : List (Nat × List Bool) := [(0, [true, true, true, false, false, false]), (5, [true, true, false, true, true, false])]
set_option maxRecDepth 100000 in
set_option maxHeartbeats 4000000 in
theorem zr_X12_settled_0 {C : zCa} {post : zPo} {X : zX} (hX : zClosed none C post nX12_settled X) (p0 : Int32) (p1 : Int32) (σ : zS) (h : X 5 [some (.ref 63), some (.int p0), none, some (.int p1), some (.int 0), none] [] σ) : X 0 [some (.ref 63), some (.int p0), some (.int p1), none, none, none] [] σ := zSeq_ok hX zm_X12_settled zo_X12_settled_0 0 0 _ _ _ zk_X12_settled_0 h
set_option maxRecDepth 100000 in
set_option maxHeartbeats 4000000 in
theorem zr_X12_settled_5 {C : zCa} {post : zPo} {X : zX} (hX : zClosed none C post nX12_settled X) (v1 : Int32) (v3 : Int32) (v4 : Int32) (σ : zS) (h : vp_in 188 (zN 64) ∧ (zIf ((v4 : Int32) < (σ.1 64 (Int32.toNatClampNeg 188))) (vp_in (189 + (3 * v4)) (zN 64) ∧ (vp_in ((189 + (3 * v4)) + 1) (zN 64) ∧ (C nX12_in [.int v1, .int (σ.1 64 (Int32.toNatClampNeg (189 + (3 * v4)))), .int (σ.1 64 (Int32.toNatClampNeg ((189 + (3 * v4)) + 1)))] σ (zPI fun x2 σ1 => zIf ((x2 : Int32) = 0) (X 5 [some (.ref 63), some (.int v1), none, some (.int (v3 + 0)), some (.int (v4 + 1)), none] [] σ1) (vp_in ((189 + (3 * v4)) + 2) (zN 64) ∧ (X 5 [some (.ref 63), some (.int v1), none, some (.int (v3 + (σ1.1 64 (Int32.toNatClampNeg ((189 + (3 * v4)) + 2))))), some (.int (v4 + 1)), none] [] σ1)))))) (vp_in 183 (zN 64) ∧ (vp_in 184 (zN 64) ∧ (C nX12_limited [.int v3, .int (σ.1 64 (Int32.toNatClampNeg 183)), .int (σ.1 64 (Int32.toNatClampNeg 184))] σ (zPI fun x4 σ3 => post (some (.int x4)) σ3)))))) : X 5 [some (.ref 63), some (.int v1), none, some (.int v3), some (.int v4), none] [] σ := zSeq_ok hX zm_X12_settled zo_X12_settled_5 5 5 _ _ _ zk_X12_settled_5 h
theorem ze_X12_settled {d : Nat} {post : zPo} (p0 : Int32) (p1 : Int32) (σ : zS) (h : ∀ X : zX, zClosed none (zCall d) post nX12_settled X → X 0 [some (.ref 63), some (.int p0), some (.int p1), none, none, none] [] σ) : zCall (d + 1) nX12_settled [.ref 63, .int p0, .int p1] σ post := h
-- X12_plansConstant(63,) depth 3
def zo_X12_plansConstant_0 : List zOp := [(.iconst 0, 1, 0, 0, 0, 0, 0, 0, 0, []), (.istore_n 2, 2, 2, 0, 0, 0, 0, 0, 0, [])]
set_option maxRecDepth 100000 in
theorem zk_X12_plansConstant_0 : zOks nX12_plansConstant zo_X12_plansConstant_0 0 = true := by decide +kernel
def zo_X12_plansConstant_2 : List zOp := [(.iload_n 2, 3, 2, 0, 0, 0, 0, 0, 0, []), (.aload_n 0, 4, 0, 0, 0, 0, 0, 0, 0, []), (.getfield 7, 7, 12, 0, 0, 0, 1051, 0, 0, []), (.iconst 0, 8, 0, 0, 0, 0, 0, 0, 0, []), (.iaload, 9, 0, 0, 0, 0, 0, 0, 0, []), (.if_icmp .ge 35, 12, 44, 0, 0, 0, 0, 0, 0, []), (.aload_n 0, 13, 0, 0, 0, 0, 0, 0, 0, []), (.getfield 7, 16, 12, 0, 0, 0, 1051, 0, 0, []), (.sipush 208, 19, 0, 0, 0, 0, 0, 208, 0, []), (.iload_n 2, 20, 2, 0, 0, 0, 0, 0, 0, []), (.iadd, 21, 0, 0, 0, 0, 0, 0, 0, []), (.aload_n 0, 22, 0, 0, 0, 0, 0, 0, 0, []), (.iload_n 2, 23, 2, 0, 0, 0, 0, 0, 0, []), (.iload_n 1, 24, 1, 0, 0, 0, 0, 0, 0, []), (.aload_n 0, 25, 0, 0, 0, 0, 0, 0, 0, []), (.getfield 19, 28, 12, 3, 0, 0, 1054, 0, 0, []), (.iload_n 2, 29, 2, 0, 0, 0, 0, 0, 0, []), (.iaload, 30, 0, 0, 0, 0, 0, 0, 0, []), (.invokestatic 160, 33, 176, 1, 1, 0, 1280, 0, 0, []), (.iadd, 34, 0, 0, 0, 0, 0, 0, 0, []), (.invokevirtual 163, 37, 145, 3, 1, 12, 1283, 0, 0, []), (.iastore, 38, 0, 0, 0, 0, 0, 0, 0, []), (.iinc 2 1, 41, 2, 0, 0, 0, 0, 1, 0, []), (.goto (-39), 44, 2, 0, 0, 0, 0, 0, 0, []), (.return_, 45, 0, 0, 0, 0, 0, 0, 0, [])]
set_option maxRecDepth 100000 in
theorem zk_X12_plansConstant_2 : zOks nX12_plansConstant zo_X12_plansConstant_2 2 = true := by decide +kernel
def zm_X12_plansConstant : List (Nat × List Bool) := [(0, [true, true, false]), (2, [true, true, true])]
set_option maxRecDepth 100000 in
set_option maxHeartbeats 4000000 in
theorem zr_X12_plansConstant_0 {C : zCa} {post : zPo} {X : zX} (hX : zClosed none C post nX12_plansConstant X) (p0 : Int32) (σ : zS) (h : X 2 [some (.ref 63), some (.int p0), some (.int 0)] [] σ) : X 0 [some (.ref 63), some (.int p0), none] [] σ := zSeq_ok hX zm_X12_plansConstant zo_X12_plansConstant_0 0 0 _ _ _ zk_X12_plansConstant_0 h
set_option maxRecDepth 100000 in
set_option maxHeartbeats 4000000 in
theorem zr_X12_plansConstant_2 {C : zCa} {post : zPo} {X : zX} (hX : zClosed none C post nX12_plansConstant X) (v1 : Int32) (v2 : Int32) (σ : zS) (h : vp_in 0 (zN 64) ∧ (zIf ((v2 : Int32) < (σ.1 64 (Int32.toNatClampNeg 0))) (vp_in v2 (zN 67) ∧ (C nX12_byType [.int (σ.1 67 (Int32.toNatClampNeg v2))] σ (zPI fun x2 σ1 => C nX12_settled [.ref 63, .int v2, .int (v1 + x2)] σ1 (zPI fun x4 σ3 => vp_in (208 + v2) (zN 64) ∧ (X 2 [some (.ref 63), some (.int v1), some (.int (v2 + 1))] [] (zSI σ3 64 (Int32.toNatClampNeg (208 + v2)) x4)))))) (post none σ))) : X 2 [some (.ref 63), some (.int v1), some (.int v2)] [] σ := zSeq_ok hX zm_X12_plansConstant zo_X12_plansConstant_2 2 2 _ _ _ zk_X12_plansConstant_2 h
theorem ze_X12_plansConstant {d : Nat} {post : zPo} (p0 : Int32) (σ : zS) (h : ∀ X : zX, zClosed none (zCall d) post nX12_plansConstant X → X 0 [some (.ref 63), some (.int p0), none] [] σ) : zCall (d + 1) nX12_plansConstant [.ref 63, .int p0] σ post := h
-- X12_passes(63,) depth 3
def zo_X12_passes_0 : List zOp := [(.iload_n 1, 1, 1, 0, 0, 0, 0, 0, 0, []), (.ifCond .ne 12, 4, 13, 0, 0, 0, 0, 0, 0, []), (.iload_n 2, 5, 2, 0, 0, 0, 0, 0, 0, []), (.iload_n 3, 6, 3, 0, 0, 0, 0, 0, 0, []), (.imul, 7, 0, 0, 0, 0, 0, 0, 0, []), (.bipush 100, 9, 0, 0, 0, 0, 0, 100, 0, []), (.idiv, 10, 0, 0, 0, 0, 0, 0, 0, []), (.goto 14, 13, 24, 0, 0, 0, 0, 0, 0, []), (.aload_n 0, 14, 0, 0, 0, 0, 0, 0, 0, []), (.getfield 37, 17, 12, 11, 0, 0, 1062, 0, 0, []), (.iload_n 1, 18, 1, 0, 0, 0, 0, 0, 0, []), (.iconst 1, 19, 0, 0, 0, 0, 0, 1, 0, []), (.isub, 20, 0, 0, 0, 0, 0, 0, 0, []), (.iaload, 21, 0, 0, 0, 0, 0, 0, 0, []), (.iload 4, 23, 4, 0, 0, 0, 0, 0, 0, []), (.iadd, 24, 0, 0, 0, 0, 0, 0, 0, [])]
set_option maxRecDepth 100000 in
theorem zk_X12_passes_0 : zOks nX12_passes zo_X12_passes_0 0 = true := by decide +kernel
def zo_X12_passes_24 : List zOp := [(.istore 5, 26, 5, 0, 0, 0, 0, 0, 0, []), (.aload_n 0, 27, 0, 0, 0, 0, 0, 0, 0, []), (.getfield 43, 30, 12, 13, 0, 0, 1064, 0, 0, []), (.iload_n 1, 31, 1, 0, 0, 0, 0, 0, 0, []), (.iload_n 1, 32, 1, 0, 0, 0, 0, 0, 0, []), (.ifCond .le 16, 35, 48, 0, 0, 0, 0, 0, 0, []), (.iload 5, 37, 5, 0, 0, 0, 0, 0, 0, []), (.iload_n 2, 38, 2, 0, 0, 0, 0, 0, 0, []), (.if_icmp .le 10, 41, 48, 0, 0, 0, 0, 0, 0, []), (.iload 5, 43, 5, 0, 0, 0, 0, 0, 0, []), (.iload_n 2, 44, 2, 0, 0, 0, 0, 0, 0, []), (.isub, 45, 0, 0, 0, 0, 0, 0, 0, []), (.goto 4, 48, 49, 0, 0, 0, 0, 0, 0, [])]
set_option maxRecDepth 100000 in
theorem zk_X12_passes_24 : zOks nX12_passes zo_X12_passes_24 24 = true := by decide +kernel
def zo_X12_passes_48 : List zOp := [(.iconst 0, 49, 0, 0, 0, 0, 0, 0, 0, [])]
set_option maxRecDepth 100000 in
theorem zk_X12_passes_48 : zOks nX12_passes zo_X12_passes_48 48 = true := by decide +kernel
def zo_X12_passes_49 : List zOp := [(.iastore, 50, 0, 0, 0, 0, 0, 0, 0, []), (.iload 5, 52, 5, 0, 0, 0, 0, 0, 0, []), (.aload_n 0, 53, 0, 0, 0, 0, 0, 0, 0, []), (.getfield 43, 56, 12, 13, 0, 0, 1064, 0, 0, []), (.iload_n 1, 57, 1, 0, 0, 0, 0, 0, 0, []), (.iaload, 58, 0, 0, 0, 0, 0, 0, 0, []), (.isub, 59, 0, 0, 0, 0, 0, 0, 0, []), (.istore 5, 61, 5, 0, 0, 0, 0, 0, 0, []), (.aload_n 0, 62, 0, 0, 0, 0, 0, 0, 0, []), (.getfield 34, 65, 12, 10, 0, 0, 1061, 0, 0, []), (.iload_n 1, 66, 1, 0, 0, 0, 0, 0, 0, []), (.iload 5, 68, 5, 0, 0, 0, 0, 0, 0, []), (.iastore, 69, 0, 0, 0, 0, 0, 0, 0, []), (.aload_n 0, 70, 0, 0, 0, 0, 0, 0, 0, []), (.aload_n 0, 71, 0, 0, 0, 0, 0, 0, 0, []), (.getfield 31, 74, 12, 7, 0, 0, 1058, 0, 0, []), (.iload_n 1, 75, 1, 0, 0, 0, 0, 0, 0, []), (.iaload, 76, 0, 0, 0, 0, 0, 0, 0, []), (.aload_n 0, 77, 0, 0, 0, 0, 0, 0, 0, []), (.getfield 7, 80, 12, 0, 0, 0, 1051, 0, 0, []), (.sipush 208, 83, 0, 0, 0, 0, 0, 208, 0, []), (.aload_n 0, 84, 0, 0, 0, 0, 0, 0, 0, []), (.getfield 31, 87, 12, 7, 0, 0, 1058, 0, 0, []), (.iload_n 1, 88, 1, 0, 0, 0, 0, 0, 0, []), (.iaload, 89, 0, 0, 0, 0, 0, 0, 0, []), (.iadd, 90, 0, 0, 0, 0, 0, 0, 0, []), (.iaload, 91, 0, 0, 0, 0, 0, 0, 0, []), (.invokevirtual 94, 94, 142, 3, 1, 12, 1253, 0, 0, []), (.istore 6, 96, 6, 0, 0, 0, 0, 0, 0, []), (.aload_n 0, 97, 0, 0, 0, 0, 0, 0, 0, []), (.getfield 40, 100, 12, 12, 0, 0, 1063, 0, 0, []), (.iload_n 1, 101, 1, 0, 0, 0, 0, 0, 0, []), (.iload 6, 103, 6, 0, 0, 0, 0, 0, 0, []), (.iload 5, 105, 5, 0, 0, 0, 0, 0, 0, []), (.if_icmp .le 11, 108, 116, 0, 0, 0, 0, 0, 0, []), (.iload 6, 110, 6, 0, 0, 0, 0, 0, 0, []), (.iload 5, 112, 5, 0, 0, 0, 0, 0, 0, []), (.isub, 113, 0, 0, 0, 0, 0, 0, 0, []), (.goto 4, 116, 117, 0, 0, 0, 0, 0, 0, []), (.iconst 0, 117, 0, 0, 0, 0, 0, 0, 0, [])]
set_option maxRecDepth 100000 in
theorem zk_X12_passes_49 : zOks nX12_passes zo_X12_passes_49 49 = true := by decide +kernel
def zo_X12_passes_117 : List zOp := [(.iastore, 118, 0, 0, 0, 0, 0, 0, 0, []), (.aload_n 0, 119, 0, 0, 0, 0, 0, 0, 0, []), (.getfield 37, 122, 12, 11, 0, 0, 1062, 0, 0, []), (.iload_n 1, 123, 1, 0, 0, 0, 0, 0, 0, []), (.aload_n 0, 124, 0, 0, 0, 0, 0, 0, 0, []), (.getfield 40, 127, 12, 12, 0, 0, 1063, 0, 0, []), (.iload_n 1, 128, 1, 0, 0, 0, 0, 0, 0, []), (.iaload, 129, 0, 0, 0, 0, 0, 0, 0, []), (.ifCond .le 7, 132, 136, 0, 0, 0, 0, 0, 0, []), (.iconst 0, 133, 0, 0, 0, 0, 0, 0, 0, []), (.goto 8, 136, 141, 0, 0, 0, 0, 0, 0, []), (.iload 5, 138, 5, 0, 0, 0, 0, 0, 0, []), (.iload 6, 140, 6, 0, 0, 0, 0, 0, 0, []), (.isub, 141, 0, 0, 0, 0, 0, 0, 0, [])]
set_option maxRecDepth 100000 in
theorem zk_X12_passes_117 : zOks nX12_passes zo_X12_passes_117 117 = true := by decide +kernel
def zo_X12_passes_141 : List zOp := [(.iastore, 142, 0, 0, 0, 0, 0, 0, 0, []), (.aload_n 0, 143, 0, 0, 0, 0, 0, 0, 0, []), (.dup, 144, 0, 0, 0, 0, 0, 0, 0, []), (.getfield 98, 147, 12, 14, 1, 0, 1065, 0, 0, []), (.aload_n 0, 148, 0, 0, 0, 0, 0, 0, 0, []), (.getfield 40, 151, 12, 12, 0, 0, 1063, 0, 0, []), (.iload_n 1, 152, 1, 0, 0, 0, 0, 0, 0, []), (.iaload, 153, 0, 0, 0, 0, 0, 0, 0, []), (.ifCond .le 7, 156, 160, 0, 0, 0, 0, 0, 0, []), (.iconst 1, 157, 0, 0, 0, 0, 0, 1, 0, []), (.goto 4, 160, 161, 0, 0, 0, 0, 0, 0, []), (.iconst 0, 161, 0, 0, 0, 0, 0, 0, 0, [])]
set_option maxRecDepth 100000 in
theorem zk_X12_passes_141 : zOks nX12_passes zo_X12_passes_141 141 = true := by decide +kernel
def zo_X12_passes_161 : List zOp := [(.iadd, 162, 0, 0, 0, 0, 0, 0, 0, []), (.putfield 98, 165, 12, 14, 1, 0, 1065, 0, 0, []), (.return_, 166, 0, 0, 0, 0, 0, 0, 0, [])]
set_option maxRecDepth 100000 in
theorem zk_X12_passes_161 : zOks nX12_passes zo_X12_passes_161 161 = true := by decide +kernel
def zm_X12_passes : List (Nat × List Bool) := [(0, [true, true, true, true, true, false, false]), (24, [true, true, true, false, false, false, false]), (48, [true, true, false, false, false, true, false]), (49, [true, true, false, false, false, true, false]), (117, [true, true, false, false, false, true, true]), (141, [true, true, false, false, false, false, false]), (161, [false, false, false, false, false, false, false])]
set_option maxRecDepth 100000 in
set_option maxHeartbeats 4000000 in
theorem zr_X12_passes_0 {C : zCa} {post : zPo} {X : zX} (hX : zClosed none C post nX12_passes X) (p0 : Int32) (p1 : Int32) (p2 : Int32) (p3 : Int32) (σ : zS) (h : zIf ((p0 : Int32) = 0) (¬ (100 : Int32) = 0 ∧ (X 24 [some (.ref 63), some (.int p0), some (.int p1), none, none, none, none] [.int ((p1 * p2) / 100)] σ)) (vp_in (p0 - 1) (zN 73) ∧ (X 24 [some (.ref 63), some (.int p0), some (.int p1), none, none, none, none] [.int ((σ.1 73 (Int32.toNatClampNeg (p0 - 1))) + p3)] σ))) : X 0 [some (.ref 63), some (.int p0), some (.int p1), some (.int p2), some (.int p3), none, none] [] σ := zSeq_ok hX zm_X12_passes zo_X12_passes_0 0 0 _ _ _ zk_X12_passes_0 h
set_option maxRecDepth 100000 in
set_option maxHeartbeats 4000000 in
theorem zr_X12_passes_24 {C : zCa} {post : zPo} {X : zX} (hX : zClosed none C post nX12_passes X) (v1 : Int32) (v2 : Int32) (t0 : Int32) (σ : zS) (h : zIf ((v1 : Int32) ≤ 0) (X 48 [some (.ref 63), some (.int v1), none, none, none, some (.int t0), none] [.int v1, .ref 75] σ) (zIf ((t0 : Int32) ≤ v2) (X 48 [some (.ref 63), some (.int v1), none, none, none, some (.int t0), none] [.int v1, .ref 75] σ) (X 49 [some (.ref 63), some (.int v1), none, none, none, some (.int t0), none] [.int (t0 - v2), .int v1, .ref 75] σ))) : X 24 [some (.ref 63), some (.int v1), some (.int v2), none, none, none, none] [.int t0] σ := zSeq_ok hX zm_X12_passes zo_X12_passes_24 24 24 _ _ _ zk_X12_passes_24 h
set_option maxRecDepth 100000 in
set_option maxHeartbeats 4000000 in
theorem zr_X12_passes_48 {C : zCa} {post : zPo} {X : zX} (hX : zClosed none C post nX12_passes X) (v1 : Int32) (v5 : Int32) (t0 : Int32) (σ : zS) (h : X 49 [some (.ref 63), some (.int v1), none, none, none, some (.int v5), none] [.int 0, .int t0, .ref 75] σ) : X 48 [some (.ref 63), some (.int v1), none, none, none, some (.int v5), none] [.int t0, .ref 75] σ := zSeq_ok hX zm_X12_passes zo_X12_passes_48 48 48 _ _ _ zk_X12_passes_48 h
set_option maxRecDepth 100000 in
set_option maxHeartbeats 4000000 in
theorem zr_X12_passes_49 {C : zCa} {post : zPo} {X : zX} (hX : zClosed none C post nX12_passes X) (v1 : Int32) (v5 : Int32) (t0 : Int32) (t1 : Int32) (σ : zS) (h : vp_in t1 (zN 75) ∧ (vp_in v1 (zN 75) ∧ (vp_in v1 (zN 72) ∧ (vp_in v1 (zN 71) ∧ (vp_in v1 (zN 71) ∧ (vp_in (208 + ((zSI (zSI σ 75 (Int32.toNatClampNeg t1) t0) 72 (Int32.toNatClampNeg v1) (v5 - ((zSI σ 75 (Int32.toNatClampNeg t1) t0).1 75 (Int32.toNatClampNeg v1)))).1 71 (Int32.toNatClampNeg v1))) (zN 64) ∧ (C nX12_bits [.ref 63, .int ((zSI (zSI σ 75 (Int32.toNatClampNeg t1) t0) 72 (Int32.toNatClampNeg v1) (v5 - ((zSI σ 75 (Int32.toNatClampNeg t1) t0).1 75 (Int32.toNatClampNeg v1)))).1 71 (Int32.toNatClampNeg v1)), .int ((zSI (zSI σ 75 (Int32.toNatClampNeg t1) t0) 72 (Int32.toNatClampNeg v1) (v5 - ((zSI σ 75 (Int32.toNatClampNeg t1) t0).1 75 (Int32.toNatClampNeg v1)))).1 64 (Int32.toNatClampNeg (208 + ((zSI (zSI σ 75 (Int32.toNatClampNeg t1) t0) 72 (Int32.toNatClampNeg v1) (v5 - ((zSI σ 75 (Int32.toNatClampNeg t1) t0).1 75 (Int32.toNatClampNeg v1)))).1 71 (Int32.toNatClampNeg v1)))))] (zSI (zSI σ 75 (Int32.toNatClampNeg t1) t0) 72 (Int32.toNatClampNeg v1) (v5 - ((zSI σ 75 (Int32.toNatClampNeg t1) t0).1 75 (Int32.toNatClampNeg v1)))) (zPI fun x2 σ1 => zIf ((x2 : Int32) ≤ (v5 - ((zSI σ 75 (Int32.toNatClampNeg t1) t0).1 75 (Int32.toNatClampNeg v1)))) (X 117 [some (.ref 63), some (.int v1), none, none, none, some (.int (v5 - ((zSI σ 75 (Int32.toNatClampNeg t1) t0).1 75 (Int32.toNatClampNeg v1)))), some (.int x2)] [.int 0, .int v1, .ref 74] σ1) (X 117 [some (.ref 63), some (.int v1), none, none, none, some (.int (v5 - ((zSI σ 75 (Int32.toNatClampNeg t1) t0).1 75 (Int32.toNatClampNeg v1)))), some (.int x2)] [.int (x2 - (v5 - ((zSI σ 75 (Int32.toNatClampNeg t1) t0).1 75 (Int32.toNatClampNeg v1)))), .int v1, .ref 74] σ1))))))))) : X 49 [some (.ref 63), some (.int v1), none, none, none, some (.int v5), none] [.int t0, .int t1, .ref 75] σ := zSeq_ok hX zm_X12_passes zo_X12_passes_49 49 49 _ _ _ zk_X12_passes_49 h
set_option maxRecDepth 100000 in
set_option maxHeartbeats 4000000 in
theorem zr_X12_passes_117 {C : zCa} {post : zPo} {X : zX} (hX : zClosed none C post nX12_passes X) (v1 : Int32) (v5 : Int32) (v6 : Int32) (t0 : Int32) (t1 : Int32) (σ : zS) (h : vp_in t1 (zN 74) ∧ (vp_in v1 (zN 74) ∧ (zIf (((zSI σ 74 (Int32.toNatClampNeg t1) t0).1 74 (Int32.toNatClampNeg v1) : Int32) ≤ 0) (X 141 [some (.ref 63), some (.int v1), none, none, none, none, none] [.int (v5 - v6), .int v1, .ref 73] (zSI σ 74 (Int32.toNatClampNeg t1) t0)) (X 141 [some (.ref 63), some (.int v1), none, none, none, none, none] [.int 0, .int v1, .ref 73] (zSI σ 74 (Int32.toNatClampNeg t1) t0))))) : X 117 [some (.ref 63), some (.int v1), none, none, none, some (.int v5), some (.int v6)] [.int t0, .int t1, .ref 74] σ := zSeq_ok hX zm_X12_passes zo_X12_passes_117 117 117 _ _ _ zk_X12_passes_117 h
set_option maxRecDepth 100000 in
set_option maxHeartbeats 4000000 in
theorem zr_X12_passes_141 {C : zCa} {post : zPo} {X : zX} (hX : zClosed none C post nX12_passes X) (v1 : Int32) (t0 : Int32) (t1 : Int32) (σ : zS) (h : vp_in t1 (zN 73) ∧ (vp_in v1 (zN 74) ∧ (zIf (((zSI σ 73 (Int32.toNatClampNeg t1) t0).1 74 (Int32.toNatClampNeg v1) : Int32) ≤ 0) (X 161 [none, none, none, none, none, none, none] [.int 0, .int ((zSI σ 73 (Int32.toNatClampNeg t1) t0).1 63 14), .ref 63] (zSI σ 73 (Int32.toNatClampNeg t1) t0)) (X 161 [none, none, none, none, none, none, none] [.int 1, .int ((zSI σ 73 (Int32.toNatClampNeg t1) t0).1 63 14), .ref 63] (zSI σ 73 (Int32.toNatClampNeg t1) t0))))) : X 141 [some (.ref 63), some (.int v1), none, none, none, none, none] [.int t0, .int t1, .ref 73] σ := zSeq_ok hX zm_X12_passes zo_X12_passes_141 141 141 _ _ _ zk_X12_passes_141 h
set_option maxRecDepth 100000 in
set_option maxHeartbeats 4000000 in
theorem zr_X12_passes_161 {C : zCa} {post : zPo} {X : zX} (hX : zClosed none C post nX12_passes X) (t0 : Int32) (t1 : Int32) (σ : zS) (h : post none (zSI σ 63 14 (t1 + t0))) : X 161 [none, none, none, none, none, none, none] [.int t0, .int t1, .ref 63] σ := zSeq_ok hX zm_X12_passes zo_X12_passes_161 161 161 _ _ _ zk_X12_passes_161 h
theorem ze_X12_passes {d : Nat} {post : zPo} (p0 : Int32) (p1 : Int32) (p2 : Int32) (p3 : Int32) (σ : zS) (h : ∀ X : zX, zClosed none (zCall d) post nX12_passes X → X 0 [some (.ref 63), some (.int p0), some (.int p1), some (.int p2), some (.int p3), none, none] [] σ) : zCall (d + 1) nX12_passes [.ref 63, .int p0, .int p1, .int p2, .int p3] σ post := h
-- X12_runs(63,) depth 4
def zo_X12_runs_0 : List zOp := [(.aload_n 0, 1, 0, 0, 0, 0, 0, 0, 0, []), (.iconst 0, 2, 0, 0, 0, 0, 0, 0, 0, []), (.putfield 98, 5, 12, 14, 1, 0, 1065, 0, 0, []), (.iconst 0, 6, 0, 0, 0, 0, 0, 0, 0, []), (.istore 4, 8, 4, 0, 0, 0, 0, 0, 0, [])]
set_option maxRecDepth 100000 in
theorem zk_X12_runs_0 : zOks nX12_runs zo_X12_runs_0 0 = true := by decide +kernel
def zo_X12_runs_8 : List zOp := [(.iload 4, 10, 4, 0, 0, 0, 0, 0, 0, []), (.aload_n 0, 11, 0, 0, 0, 0, 0, 0, 0, []), (.getfield 7, 14, 12, 0, 0, 0, 1051, 0, 0, []), (.iconst 0, 15, 0, 0, 0, 0, 0, 0, 0, []), (.iaload, 16, 0, 0, 0, 0, 0, 0, 0, []), (.if_icmp .ge 18, 19, 34, 0, 0, 0, 0, 0, 0, []), (.aload_n 0, 20, 0, 0, 0, 0, 0, 0, 0, []), (.iload 4, 22, 4, 0, 0, 0, 0, 0, 0, []), (.iload_n 1, 23, 1, 0, 0, 0, 0, 0, 0, []), (.iload_n 2, 24, 2, 0, 0, 0, 0, 0, 0, []), (.iload_n 3, 25, 3, 0, 0, 0, 0, 0, 0, []), (.invokevirtual 101, 28, 146, 5, 0, 12, 1302, 0, 0, []), (.iinc 4 1, 31, 4, 0, 0, 0, 0, 1, 0, []), (.goto (-23), 34, 8, 0, 0, 0, 0, 0, 0, []), (.return_, 35, 0, 0, 0, 0, 0, 0, 0, [])]
set_option maxRecDepth 100000 in
theorem zk_X12_runs_8 : zOks nX12_runs zo_X12_runs_8 8 = true := by decide +kernel
def zm_X12_runs : List (Nat × List Bool) := [(0, [true, true, true, true, false]), (8, [true, true, true, true, true])]
set_option maxRecDepth 100000 in
set_option maxHeartbeats 4000000 in
theorem zr_X12_runs_0 {C : zCa} {post : zPo} {X : zX} (hX : zClosed none C post nX12_runs X) (p0 : Int32) (p1 : Int32) (p2 : Int32) (σ : zS) (h : X 8 [some (.ref 63), some (.int p0), some (.int p1), some (.int p2), some (.int 0)] [] (zSI σ 63 14 0)) : X 0 [some (.ref 63), some (.int p0), some (.int p1), some (.int p2), none] [] σ := zSeq_ok hX zm_X12_runs zo_X12_runs_0 0 0 _ _ _ zk_X12_runs_0 h
set_option maxRecDepth 100000 in
set_option maxHeartbeats 4000000 in
theorem zr_X12_runs_8 {C : zCa} {post : zPo} {X : zX} (hX : zClosed none C post nX12_runs X) (v1 : Int32) (v2 : Int32) (v3 : Int32) (v4 : Int32) (σ : zS) (h : vp_in 0 (zN 64) ∧ (zIf ((v4 : Int32) < (σ.1 64 (Int32.toNatClampNeg 0))) (C nX12_passes [.ref 63, .int v4, .int v1, .int v2, .int v3] σ (zPV fun σ1 => X 8 [some (.ref 63), some (.int v1), some (.int v2), some (.int v3), some (.int (v4 + 1))] [] σ1)) (post none σ))) : X 8 [some (.ref 63), some (.int v1), some (.int v2), some (.int v3), some (.int v4)] [] σ := zSeq_ok hX zm_X12_runs zo_X12_runs_8 8 8 _ _ _ zk_X12_runs_8 h
theorem ze_X12_runs {d : Nat} {post : zPo} (p0 : Int32) (p1 : Int32) (p2 : Int32) (σ : zS) (h : ∀ X : zX, zClosed none (zCall d) post nX12_runs X → X 0 [some (.ref 63), some (.int p0), some (.int p1), some (.int p2), none] [] σ) : zCall (d + 1) nX12_runs [.ref 63, .int p0, .int p1, .int p2] σ post := h
-- X12_runsAsSet(63,) depth 5
def zo_X12_runsAsSet_0 : List zOp := [(.aload_n 0, 1, 0, 0, 0, 0, 0, 0, 0, []), (.aload_n 0, 2, 0, 0, 0, 0, 0, 0, 0, []), (.getfield 7, 5, 12, 0, 0, 0, 1051, 0, 0, []), (.sipush 185, 8, 0, 0, 0, 0, 0, 185, 0, []), (.iaload, 9, 0, 0, 0, 0, 0, 0, 0, []), (.aload_n 0, 10, 0, 0, 0, 0, 0, 0, 0, []), (.getfield 7, 13, 12, 0, 0, 0, 1051, 0, 0, []), (.sipush 186, 16, 0, 0, 0, 0, 0, 186, 0, []), (.iaload, 17, 0, 0, 0, 0, 0, 0, 0, []), (.aload_n 0, 18, 0, 0, 0, 0, 0, 0, 0, []), (.getfield 7, 21, 12, 0, 0, 0, 1051, 0, 0, []), (.sipush 187, 24, 0, 0, 0, 0, 0, 187, 0, []), (.iaload, 25, 0, 0, 0, 0, 0, 0, 0, []), (.invokevirtual 105, 28, 147, 4, 0, 12, 1298, 0, 0, []), (.return_, 29, 0, 0, 0, 0, 0, 0, 0, [])]
set_option maxRecDepth 100000 in
theorem zk_X12_runsAsSet_0 : zOks nX12_runsAsSet zo_X12_runsAsSet_0 0 = true := by decide +kernel
def zm_X12_runsAsSet : List (Nat × List Bool) := [(0, [true])]
set_option maxRecDepth 100000 in
set_option maxHeartbeats 4000000 in
theorem zr_X12_runsAsSet_0 {C : zCa} {post : zPo} {X : zX} (hX : zClosed none C post nX12_runsAsSet X) (σ : zS) (h : vp_in 185 (zN 64) ∧ (vp_in 186 (zN 64) ∧ (vp_in 187 (zN 64) ∧ (C nX12_runs [.ref 63, .int (σ.1 64 (Int32.toNatClampNeg 185)), .int (σ.1 64 (Int32.toNatClampNeg 186)), .int (σ.1 64 (Int32.toNatClampNeg 187))] σ (zPV fun σ1 => post none σ1))))) : X 0 [some (.ref 63)] [] σ := zSeq_ok hX zm_X12_runsAsSet zo_X12_runsAsSet_0 0 0 _ _ _ zk_X12_runsAsSet_0 h
theorem ze_X12_runsAsSet {d : Nat} {post : zPo} (σ : zS) (h : ∀ X : zX, zClosed none (zCall d) post nX12_runsAsSet X → X 0 [some (.ref 63)] [] σ) : zCall (d + 1) nX12_runsAsSet [.ref 63] σ post := h
-- X12_underflowsNow(63,) depth 6
def zo_X12_underflowsNow_0 : List zOp := [(.aload_n 0, 1, 0, 0, 0, 0, 0, 0, 0, []), (.invokevirtual 109, 4, 148, 1, 0, 12, 1294, 0, 0, []), (.aload_n 0, 5, 0, 0, 0, 0, 0, 0, 0, []), (.getfield 98, 8, 12, 14, 1, 0, 1065, 0, 0, []), (.ireturn, 9, 0, 0, 0, 0, 0, 0, 0, [])]
set_option maxRecDepth 100000 in
theorem zk_X12_underflowsNow_0 : zOks nX12_underflowsNow zo_X12_underflowsNow_0 0 = true := by decide +kernel
def zm_X12_underflowsNow : List (Nat × List Bool) := [(0, [true])]
set_option maxRecDepth 100000 in
set_option maxHeartbeats 4000000 in
theorem zr_X12_underflowsNow_0 {C : zCa} {post : zPo} {X : zX} (hX : zClosed none C post nX12_underflowsNow X) (σ : zS) (h : C nX12_runsAsSet [.ref 63] σ (zPV fun σ1 => post (some (.int (σ1.1 63 14))) σ1)) : X 0 [some (.ref 63)] [] σ := zSeq_ok hX zm_X12_underflowsNow zo_X12_underflowsNow_0 0 0 _ _ _ zk_X12_underflowsNow_0 h
theorem ze_X12_underflowsNow {d : Nat} {post : zPo} (σ : zS) (h : ∀ X : zX, zClosed none (zCall d) post nX12_underflowsNow X → X 0 [some (.ref 63)] [] σ) : zCall (d + 1) nX12_underflowsNow [.ref 63] σ post := h
-- X12_bestConstant(63,) depth 7
def zo_X12_bestConstant_0 : List zOp := [(.aload_n 0, 1, 0, 0, 0, 0, 0, 0, 0, []), (.getfield 7, 4, 12, 0, 0, 0, 1051, 0, 0, []), (.iconst 0, 5, 0, 0, 0, 0, 0, 0, 0, []), (.iaload, 6, 0, 0, 0, 0, 0, 0, 0, []), (.ifCond .ne 6, 9, 12, 0, 0, 0, 0, 0, 0, []), (.bipush (-3), 11, 0, 0, 0, 0, 0, (-3), 0, []), (.ireturn, 12, 0, 0, 0, 0, 0, 0, 0, []), (.aload_n 0, 13, 0, 0, 0, 0, 0, 0, 0, []), (.invokevirtual 149, 16, 139, 1, 0, 12, 1191, 0, 0, []), (.iconst 0, 17, 0, 0, 0, 0, 0, 0, 0, []), (.istore_n 1, 18, 1, 0, 0, 0, 0, 0, 0, [])]
set_option maxRecDepth 100000 in
theorem zk_X12_bestConstant_0 : zOks nX12_bestConstant zo_X12_bestConstant_0 0 = true := by decide +kernel
def zo_X12_bestConstant_18 : List zOp := [(.iload_n 1, 19, 1, 0, 0, 0, 0, 0, 0, []), (.bipush 60, 21, 0, 0, 0, 0, 0, 60, 0, []), (.if_icmp .ge 25, 24, 46, 0, 0, 0, 0, 0, 0, []), (.aload_n 0, 25, 0, 0, 0, 0, 0, 0, 0, []), (.getfield 55, 28, 12, 22, 0, 0, 1073, 0, 0, []), (.iload_n 1, 29, 1, 0, 0, 0, 0, 0, 0, []), (.aload_n 0, 30, 0, 0, 0, 0, 0, 0, 0, []), (.getfield 7, 33, 12, 0, 0, 0, 1051, 0, 0, []), (.sipush 208, 36, 0, 0, 0, 0, 0, 208, 0, []), (.iload_n 1, 37, 1, 0, 0, 0, 0, 0, 0, []), (.iadd, 38, 0, 0, 0, 0, 0, 0, 0, []), (.iaload, 39, 0, 0, 0, 0, 0, 0, 0, []), (.iastore, 40, 0, 0, 0, 0, 0, 0, 0, []), (.iinc 1 1, 43, 1, 0, 0, 0, 0, 1, 0, []), (.goto (-25), 46, 18, 0, 0, 0, 0, 0, 0, []), (.iconst (-1), 47, 0, 0, 0, 0, 0, (-1), 0, []), (.istore_n 1, 48, 1, 0, 0, 0, 0, 0, 0, []), (.iconst 0, 49, 0, 0, 0, 0, 0, 0, 0, []), (.istore_n 2, 50, 2, 0, 0, 0, 0, 0, 0, [])]
set_option maxRecDepth 100000 in
theorem zk_X12_bestConstant_18 : zOks nX12_bestConstant zo_X12_bestConstant_18 18 = true := by decide +kernel
def zo_X12_bestConstant_50 : List zOp := [(.iload_n 2, 51, 2, 0, 0, 0, 0, 0, 0, []), (.bipush 51, 53, 0, 0, 0, 0, 0, 51, 0, []), (.if_icmp .gt 32, 56, 85, 0, 0, 0, 0, 0, 0, []), (.iload_n 1, 57, 1, 0, 0, 0, 0, 0, 0, []), (.iconst (-1), 58, 0, 0, 0, 0, 0, (-1), 0, []), (.if_icmp .ne 27, 61, 85, 0, 0, 0, 0, 0, 0, []), (.aload_n 0, 62, 0, 0, 0, 0, 0, 0, 0, []), (.iload_n 2, 63, 2, 0, 0, 0, 0, 0, 0, []), (.invokevirtual 166, 66, 177, 2, 0, 12, 1276, 0, 0, []), (.aload_n 0, 67, 0, 0, 0, 0, 0, 0, 0, []), (.invokevirtual 169, 70, 149, 1, 1, 12, 1290, 0, 0, []), (.ifCond .ne 7, 73, 77, 0, 0, 0, 0, 0, 0, []), (.iload_n 2, 74, 2, 0, 0, 0, 0, 0, 0, []), (.goto 4, 77, 78, 0, 0, 0, 0, 0, 0, []), (.iconst (-1), 78, 0, 0, 0, 0, 0, (-1), 0, []), (.istore_n 1, 79, 1, 0, 0, 0, 0, 0, 0, []), (.iinc 2 1, 82, 2, 0, 0, 0, 0, 1, 0, []), (.goto (-32), 85, 50, 0, 0, 0, 0, 0, 0, []), (.iconst 0, 86, 0, 0, 0, 0, 0, 0, 0, []), (.istore_n 2, 87, 2, 0, 0, 0, 0, 0, 0, [])]
set_option maxRecDepth 100000 in
theorem zk_X12_bestConstant_50 : zOks nX12_bestConstant zo_X12_bestConstant_50 50 = true := by decide +kernel
def zo_X12_bestConstant_87 : List zOp := [(.iload_n 2, 88, 2, 0, 0, 0, 0, 0, 0, []), (.bipush 60, 90, 0, 0, 0, 0, 0, 60, 0, []), (.if_icmp .ge 25, 93, 115, 0, 0, 0, 0, 0, 0, []), (.aload_n 0, 94, 0, 0, 0, 0, 0, 0, 0, []), (.getfield 7, 97, 12, 0, 0, 0, 1051, 0, 0, []), (.sipush 208, 100, 0, 0, 0, 0, 0, 208, 0, []), (.iload_n 2, 101, 2, 0, 0, 0, 0, 0, 0, []), (.iadd, 102, 0, 0, 0, 0, 0, 0, 0, []), (.aload_n 0, 103, 0, 0, 0, 0, 0, 0, 0, []), (.getfield 55, 106, 12, 22, 0, 0, 1073, 0, 0, []), (.iload_n 2, 107, 2, 0, 0, 0, 0, 0, 0, []), (.iaload, 108, 0, 0, 0, 0, 0, 0, 0, []), (.iastore, 109, 0, 0, 0, 0, 0, 0, 0, []), (.iinc 2 1, 112, 2, 0, 0, 0, 0, 1, 0, []), (.goto (-25), 115, 87, 0, 0, 0, 0, 0, 0, []), (.iload_n 1, 116, 1, 0, 0, 0, 0, 0, 0, []), (.ireturn, 117, 0, 0, 0, 0, 0, 0, 0, [])]
set_option maxRecDepth 100000 in
theorem zk_X12_bestConstant_87 : zOks nX12_bestConstant zo_X12_bestConstant_87 87 = true := by decide +kernel
def zm_X12_bestConstant : List (Nat × List Bool) := [(0, [true, false, false]), (18, [true, true, false]), (50, [true, true, true]), (87, [true, true, true])]
set_option maxRecDepth 100000 in
set_option maxHeartbeats 4000000 in
theorem zr_X12_bestConstant_0 {C : zCa} {post : zPo} {X : zX} (hX : zClosed none C post nX12_bestConstant X) (σ : zS) (h : vp_in 0 (zN 64) ∧ (zIf ((σ.1 64 (Int32.toNatClampNeg 0) : Int32) = 0) (post (some (.int (-3))) σ) (C nX12_findsTypes [.ref 63] σ (zPV fun σ1 => X 18 [some (.ref 63), some (.int 0), none] [] σ1)))) : X 0 [some (.ref 63), none, none] [] σ := zSeq_ok hX zm_X12_bestConstant zo_X12_bestConstant_0 0 0 _ _ _ zk_X12_bestConstant_0 h
set_option maxRecDepth 100000 in
set_option maxHeartbeats 4000000 in
theorem zr_X12_bestConstant_18 {C : zCa} {post : zPo} {X : zX} (hX : zClosed none C post nX12_bestConstant X) (v1 : Int32) (σ : zS) (h : zIf ((v1 : Int32) < 60) (vp_in (208 + v1) (zN 64) ∧ (vp_in v1 (zN 79) ∧ (X 18 [some (.ref 63), some (.int (v1 + 1)), none] [] (zSI σ 79 (Int32.toNatClampNeg v1) (σ.1 64 (Int32.toNatClampNeg (208 + v1))))))) (X 50 [some (.ref 63), some (.int (-1)), some (.int 0)] [] σ)) : X 18 [some (.ref 63), some (.int v1), none] [] σ := zSeq_ok hX zm_X12_bestConstant zo_X12_bestConstant_18 18 18 _ _ _ zk_X12_bestConstant_18 h
set_option maxRecDepth 100000 in
set_option maxHeartbeats 4000000 in
theorem zr_X12_bestConstant_50 {C : zCa} {post : zPo} {X : zX} (hX : zClosed none C post nX12_bestConstant X) (v1 : Int32) (v2 : Int32) (σ : zS) (h : zIf ((v2 : Int32) ≤ 51) (zIf ((v1 : Int32) = (-1)) (C nX12_plansConstant [.ref 63, .int v2] σ (zPV fun σ1 => C nX12_underflowsNow [.ref 63] σ1 (zPI fun x3 σ2 => zIf ((x3 : Int32) = 0) (X 50 [some (.ref 63), some (.int v2), some (.int (v2 + 1))] [] σ2) (X 50 [some (.ref 63), some (.int (-1)), some (.int (v2 + 1))] [] σ2)))) (X 87 [some (.ref 63), some (.int v1), some (.int 0)] [] σ)) (X 87 [some (.ref 63), some (.int v1), some (.int 0)] [] σ)) : X 50 [some (.ref 63), some (.int v1), some (.int v2)] [] σ := zSeq_ok hX zm_X12_bestConstant zo_X12_bestConstant_50 50 50 _ _ _ zk_X12_bestConstant_50 h
set_option maxRecDepth 100000 in
set_option maxHeartbeats 4000000 in
theorem zr_X12_bestConstant_87 {C : zCa} {post : zPo} {X : zX} (hX : zClosed none C post nX12_bestConstant X) (v1 : Int32) (v2 : Int32) (σ : zS) (h : zIf ((v2 : Int32) < 60) (vp_in v2 (zN 79) ∧ (vp_in (208 + v2) (zN 64) ∧ (X 87 [some (.ref 63), some (.int v1), some (.int (v2 + 1))] [] (zSI σ 64 (Int32.toNatClampNeg (208 + v2)) (σ.1 79 (Int32.toNatClampNeg v2)))))) (post (some (.int v1)) σ)) : X 87 [some (.ref 63), some (.int v1), some (.int v2)] [] σ := zSeq_ok hX zm_X12_bestConstant zo_X12_bestConstant_87 87 87 _ _ _ zk_X12_bestConstant_87 h
theorem ze_X12_bestConstant {d : Nat} {post : zPo} (σ : zS) (h : ∀ X : zX, zClosed none (zCall d) post nX12_bestConstant X → X 0 [some (.ref 63), none, none] [] σ) : zCall (d + 1) nX12_bestConstant [.ref 63] σ post := h
-- X12_bitsAt(63,) depth 4
def zo_X12_bitsAt_0 : List zOp := [(.aload_n 0, 1, 0, 0, 0, 0, 0, 0, 0, []), (.iload_n 1, 2, 1, 0, 0, 0, 0, 0, 0, []), (.invokevirtual 115, 5, 135, 2, 1, 12, 1139, 0, 0, []), (.ifCond .eq 13, 8, 18, 0, 0, 0, 0, 0, 0, []), (.iload_n 2, 9, 2, 0, 0, 0, 0, 0, 0, []), (.iconst 0, 10, 0, 0, 0, 0, 0, 0, 0, []), (.bipush 51, 12, 0, 0, 0, 0, 0, 51, 0, []), (.invokestatic 59, 15, 133, 3, 1, 0, 1128, 0, 0, []), (.ifCond .ne 6, 18, 21, 0, 0, 0, 0, 0, 0, []), (.bipush (-2), 20, 0, 0, 0, 0, 0, (-2), 0, []), (.ireturn, 21, 0, 0, 0, 0, 0, 0, 0, []), (.aload_n 0, 22, 0, 0, 0, 0, 0, 0, 0, []), (.invokevirtual 149, 25, 139, 1, 0, 12, 1191, 0, 0, []), (.aload_n 0, 26, 0, 0, 0, 0, 0, 0, 0, []), (.iload_n 1, 27, 1, 0, 0, 0, 0, 0, 0, []), (.iload_n 2, 28, 2, 0, 0, 0, 0, 0, 0, []), (.invokevirtual 94, 31, 142, 3, 1, 12, 1253, 0, 0, []), (.ireturn, 32, 0, 0, 0, 0, 0, 0, 0, [])]
set_option maxRecDepth 100000 in
theorem zk_X12_bitsAt_0 : zOks nX12_bitsAt zo_X12_bitsAt_0 0 = true := by decide +kernel
def zm_X12_bitsAt : List (Nat × List Bool) := [(0, [true, true, true])]
set_option maxRecDepth 100000 in
set_option maxHeartbeats 4000000 in
theorem zr_X12_bitsAt_0 {C : zCa} {post : zPo} {X : zX} (hX : zClosed none C post nX12_bitsAt X) (p0 : Int32) (p1 : Int32) (σ : zS) (h : C nX12_isFrame [.ref 63, .int p0] σ (zPI fun x2 σ1 => zIf ((x2 : Int32) = 0) (post (some (.int (-2))) σ1) (C nX12_in [.int p1, .int 0, .int 51] σ1 (zPI fun x4 σ3 => zIf ((x4 : Int32) = 0) (post (some (.int (-2))) σ3) (C nX12_findsTypes [.ref 63] σ3 (zPV fun σ5 => C nX12_bits [.ref 63, .int p0, .int p1] σ5 (zPI fun x7 σ6 => post (some (.int x7)) σ6))))))) : X 0 [some (.ref 63), some (.int p0), some (.int p1)] [] σ := zSeq_ok hX zm_X12_bitsAt zo_X12_bitsAt_0 0 0 _ _ _ zk_X12_bitsAt_0 h
theorem ze_X12_bitsAt {d : Nat} {post : zPo} (p0 : Int32) (p1 : Int32) (σ : zS) (h : ∀ X : zX, zClosed none (zCall d) post nX12_bitsAt X → X 0 [some (.ref 63), some (.int p0), some (.int p1)] [] σ) : zCall (d + 1) nX12_bitsAt [.ref 63, .int p0, .int p1] σ post := h
-- X12_byteAt(63,) depth 1
def zo_X12_byteAt_0 : List zOp := [(.iload_n 1, 1, 1, 0, 0, 0, 0, 0, 0, []), (.aload_n 0, 2, 0, 0, 0, 0, 0, 0, 0, []), (.getfield 118, 5, 12, 16, 1, 0, 1067, 0, 0, []), (.if_icmp .ge 12, 8, 17, 0, 0, 0, 0, 0, 0, []), (.aload_n 0, 9, 0, 0, 0, 0, 0, 0, 0, []), (.getfield 46, 12, 12, 15, 0, 0, 1066, 0, 0, []), (.iload_n 1, 13, 1, 0, 0, 0, 0, 0, 0, []), (.iaload, 14, 0, 0, 0, 0, 0, 0, 0, []), (.goto 4, 17, 18, 0, 0, 0, 0, 0, 0, []), (.iconst (-1), 18, 0, 0, 0, 0, 0, (-1), 0, []), (.ireturn, 19, 0, 0, 0, 0, 0, 0, 0, [])]
set_option maxRecDepth 100000 in
theorem zk_X12_byteAt_0 : zOks nX12_byteAt zo_X12_byteAt_0 0 = true := by decide +kernel
def zm_X12_byteAt : List (Nat × List Bool) := [(0, [true, true])]
set_option maxRecDepth 100000 in
set_option maxHeartbeats 4000000 in
theorem zr_X12_byteAt_0 {C : zCa} {post : zPo} {X : zX} (hX : zClosed none C post nX12_byteAt X) (p0 : Int32) (σ : zS) (h : zIf ((p0 : Int32) < (σ.1 63 16)) (vp_in p0 (zN 76) ∧ (post (some (.int (σ.1 76 (Int32.toNatClampNeg p0)))) σ)) (post (some (.int (-1))) σ)) : X 0 [some (.ref 63), some (.int p0)] [] σ := zSeq_ok hX zm_X12_byteAt zo_X12_byteAt_0 0 0 _ _ _ zk_X12_byteAt_0 h
theorem ze_X12_byteAt {d : Nat} {post : zPo} (p0 : Int32) (σ : zS) (h : ∀ X : zX, zClosed none (zCall d) post nX12_byteAt X → X 0 [some (.ref 63), some (.int p0)] [] σ) : zCall (d + 1) nX12_byteAt [.ref 63, .int p0] σ post := h
-- X12_change(63,) depth 1
def zo_X12_change_0 : List zOp := [(.iload_n 1, 1, 1, 0, 0, 0, 0, 0, 0, []), (.ifCond .ne 7, 4, 8, 0, 0, 0, 0, 0, 0, []), (.iconst 0, 5, 0, 0, 0, 0, 0, 0, 0, []), (.goto 36, 8, 41, 0, 0, 0, 0, 0, 0, []), (.aload_n 0, 9, 0, 0, 0, 0, 0, 0, 0, []), (.getfield 7, 12, 12, 0, 0, 0, 1051, 0, 0, []), (.sipush 208, 15, 0, 0, 0, 0, 0, 208, 0, []), (.aload_n 0, 16, 0, 0, 0, 0, 0, 0, 0, []), (.getfield 31, 19, 12, 7, 0, 0, 1058, 0, 0, []), (.iload_n 1, 20, 1, 0, 0, 0, 0, 0, 0, []), (.iaload, 21, 0, 0, 0, 0, 0, 0, 0, []), (.iadd, 22, 0, 0, 0, 0, 0, 0, 0, []), (.iaload, 23, 0, 0, 0, 0, 0, 0, 0, []), (.aload_n 0, 24, 0, 0, 0, 0, 0, 0, 0, []), (.getfield 7, 27, 12, 0, 0, 0, 1051, 0, 0, []), (.sipush 208, 30, 0, 0, 0, 0, 0, 208, 0, []), (.aload_n 0, 31, 0, 0, 0, 0, 0, 0, 0, []), (.getfield 31, 34, 12, 7, 0, 0, 1058, 0, 0, []), (.iload_n 1, 35, 1, 0, 0, 0, 0, 0, 0, []), (.iconst 1, 36, 0, 0, 0, 0, 0, 1, 0, []), (.isub, 37, 0, 0, 0, 0, 0, 0, 0, []), (.iaload, 38, 0, 0, 0, 0, 0, 0, 0, []), (.iadd, 39, 0, 0, 0, 0, 0, 0, 0, []), (.iaload, 40, 0, 0, 0, 0, 0, 0, 0, []), (.isub, 41, 0, 0, 0, 0, 0, 0, 0, []), (.istore_n 2, 42, 2, 0, 0, 0, 0, 0, 0, []), (.iload_n 2, 43, 2, 0, 0, 0, 0, 0, 0, []), (.ifCond .ge 8, 46, 51, 0, 0, 0, 0, 0, 0, []), (.iload_n 2, 47, 2, 0, 0, 0, 0, 0, 0, []), (.ineg, 48, 0, 0, 0, 0, 0, 0, 0, []), (.goto 4, 51, 52, 0, 0, 0, 0, 0, 0, []), (.iload_n 2, 52, 2, 0, 0, 0, 0, 0, 0, []), (.ireturn, 53, 0, 0, 0, 0, 0, 0, 0, [])]
set_option maxRecDepth 100000 in
theorem zk_X12_change_0 : zOks nX12_change zo_X12_change_0 0 = true := by decide +kernel
def zm_X12_change : List (Nat × List Bool) := [(0, [true, true, false])]
set_option maxRecDepth 100000 in
set_option maxHeartbeats 4000000 in
theorem zr_X12_change_0 {C : zCa} {post : zPo} {X : zX} (hX : zClosed none C post nX12_change X) (p0 : Int32) (σ : zS) (h : zIf ((p0 : Int32) = 0) (zIf ((0 : Int32) < 0) (post (some (.int (-0))) σ) (post (some (.int 0)) σ)) (vp_in p0 (zN 71) ∧ (vp_in (208 + (σ.1 71 (Int32.toNatClampNeg p0))) (zN 64) ∧ (vp_in (p0 - 1) (zN 71) ∧ (vp_in (208 + (σ.1 71 (Int32.toNatClampNeg (p0 - 1)))) (zN 64) ∧ (zIf (((σ.1 64 (Int32.toNatClampNeg (208 + (σ.1 71 (Int32.toNatClampNeg p0))))) - (σ.1 64 (Int32.toNatClampNeg (208 + (σ.1 71 (Int32.toNatClampNeg (p0 - 1)))))) : Int32) < 0) (post (some (.int (-((σ.1 64 (Int32.toNatClampNeg (208 + (σ.1 71 (Int32.toNatClampNeg p0))))) - (σ.1 64 (Int32.toNatClampNeg (208 + (σ.1 71 (Int32.toNatClampNeg (p0 - 1)))))))))) σ) (post (some (.int ((σ.1 64 (Int32.toNatClampNeg (208 + (σ.1 71 (Int32.toNatClampNeg p0))))) - (σ.1 64 (Int32.toNatClampNeg (208 + (σ.1 71 (Int32.toNatClampNeg (p0 - 1))))))))) σ))))))) : X 0 [some (.ref 63), some (.int p0), none] [] σ := zSeq_ok hX zm_X12_change zo_X12_change_0 0 0 _ _ _ zk_X12_change_0 h
theorem ze_X12_change {d : Nat} {post : zPo} (p0 : Int32) (σ : zS) (h : ∀ X : zX, zClosed none (zCall d) post nX12_change X → X 0 [some (.ref 63), some (.int p0), none] [] σ) : zCall (d + 1) nX12_change [.ref 63, .int p0] σ post := h
-- X12_weight(63,) depth 1
def zo_X12_weight_0 : List zOp := [(.aload_n 0, 1, 0, 0, 0, 0, 0, 0, 0, []), (.getfield 7, 4, 12, 0, 0, 0, 1051, 0, 0, []), (.bipush 121, 6, 0, 0, 0, 0, 0, 121, 0, []), (.aload_n 0, 7, 0, 0, 0, 0, 0, 0, 0, []), (.getfield 22, 10, 12, 4, 0, 0, 1055, 0, 0, []), (.iload_n 1, 11, 1, 0, 0, 0, 0, 0, 0, []), (.iaload, 12, 0, 0, 0, 0, 0, 0, 0, []), (.iadd, 13, 0, 0, 0, 0, 0, 0, 0, []), (.iaload, 14, 0, 0, 0, 0, 0, 0, 0, []), (.ireturn, 15, 0, 0, 0, 0, 0, 0, 0, [])]
set_option maxRecDepth 100000 in
theorem zk_X12_weight_0 : zOks nX12_weight zo_X12_weight_0 0 = true := by decide +kernel
def zm_X12_weight : List (Nat × List Bool) := [(0, [true, true])]
set_option maxRecDepth 100000 in
set_option maxHeartbeats 4000000 in
theorem zr_X12_weight_0 {C : zCa} {post : zPo} {X : zX} (hX : zClosed none C post nX12_weight X) (p0 : Int32) (σ : zS) (h : vp_in p0 (zN 68) ∧ (vp_in (121 + (σ.1 68 (Int32.toNatClampNeg p0))) (zN 64) ∧ (post (some (.int (σ.1 64 (Int32.toNatClampNeg (121 + (σ.1 68 (Int32.toNatClampNeg p0))))))) σ))) : X 0 [some (.ref 63), some (.int p0)] [] σ := zSeq_ok hX zm_X12_weight zo_X12_weight_0 0 0 _ _ _ zk_X12_weight_0 h
theorem ze_X12_weight {d : Nat} {post : zPo} (p0 : Int32) (σ : zS) (h : ∀ X : zX, zClosed none (zCall d) post nX12_weight X → X 0 [some (.ref 63), some (.int p0)] [] σ) : zCall (d + 1) nX12_weight [.ref 63, .int p0] σ post := h
-- X12_loss(63,) depth 2
def zo_X12_loss_0 : List zOp := [(.aload_n 0, 1, 0, 0, 0, 0, 0, 0, 0, []), (.iload_n 1, 2, 1, 0, 0, 0, 0, 0, 0, []), (.invokevirtual 87, 5, 143, 2, 1, 12, 1268, 0, 0, []), (.iconst 3, 6, 0, 0, 0, 0, 0, 3, 0, []), (.aload_n 0, 7, 0, 0, 0, 0, 0, 0, 0, []), (.getfield 19, 10, 12, 3, 0, 0, 1054, 0, 0, []), (.iload_n 1, 11, 1, 0, 0, 0, 0, 0, 0, []), (.iaload, 12, 0, 0, 0, 0, 0, 0, 0, []), (.isub, 13, 0, 0, 0, 0, 0, 0, 0, []), (.imul, 14, 0, 0, 0, 0, 0, 0, 0, []), (.iload_n 2, 15, 2, 0, 0, 0, 0, 0, 0, []), (.invokestatic 84, 18, 140, 1, 1, 0, 1257, 0, 0, []), (.imul, 19, 0, 0, 0, 0, 0, 0, 0, []), (.iload_n 2, 20, 2, 0, 0, 0, 0, 0, 0, []), (.invokestatic 84, 23, 140, 1, 1, 0, 1257, 0, 0, []), (.imul, 24, 0, 0, 0, 0, 0, 0, 0, []), (.bipush 16, 26, 0, 0, 0, 0, 0, 16, 0, []), (.idiv, 27, 0, 0, 0, 0, 0, 0, 0, []), (.ireturn, 28, 0, 0, 0, 0, 0, 0, 0, [])]
set_option maxRecDepth 100000 in
theorem zk_X12_loss_0 : zOks nX12_loss zo_X12_loss_0 0 = true := by decide +kernel
def zm_X12_loss : List (Nat × List Bool) := [(0, [true, true, true])]
set_option maxRecDepth 100000 in
set_option maxHeartbeats 4000000 in
theorem zr_X12_loss_0 {C : zCa} {post : zPo} {X : zX} (hX : zClosed none C post nX12_loss X) (p0 : Int32) (p1 : Int32) (σ : zS) (h : C nX12_weight [.ref 63, .int p0] σ (zPI fun x2 σ1 => vp_in p0 (zN 67) ∧ (C nX12_step [.int p1] σ1 (zPI fun x4 σ3 => C nX12_step [.int p1] σ3 (zPI fun x6 σ5 => ¬ (16 : Int32) = 0 ∧ (post (some (.int ((((x2 * (3 - (σ1.1 67 (Int32.toNatClampNeg p0)))) * x4) * x6) / 16))) σ5)))))) : X 0 [some (.ref 63), some (.int p0), some (.int p1)] [] σ := zSeq_ok hX zm_X12_loss zo_X12_loss_0 0 0 _ _ _ zk_X12_loss_0 h
theorem ze_X12_loss {d : Nat} {post : zPo} (p0 : Int32) (p1 : Int32) (σ : zS) (h : ∀ X : zX, zClosed none (zCall d) post nX12_loss X → X 0 [some (.ref 63), some (.int p0), some (.int p1)] [] σ) : zCall (d + 1) nX12_loss [.ref 63, .int p0, .int p1] σ post := h
-- X12_costOf(63,) depth 3
def zo_X12_costOf_0 : List zOp := [(.aload_n 0, 1, 0, 0, 0, 0, 0, 0, 0, []), (.getfield 7, 4, 12, 0, 0, 0, 1051, 0, 0, []), (.sipush 208, 7, 0, 0, 0, 0, 0, 208, 0, []), (.iload_n 1, 8, 1, 0, 0, 0, 0, 0, 0, []), (.iadd, 9, 0, 0, 0, 0, 0, 0, 0, []), (.iaload, 10, 0, 0, 0, 0, 0, 0, 0, []), (.istore_n 3, 11, 3, 0, 0, 0, 0, 0, 0, []), (.ldc2_w 186, 14, 0, 0, 0, 0, 1351, 0, 1000, []), (.aload_n 0, 15, 0, 0, 0, 0, 0, 0, 0, []), (.iload_n 1, 16, 1, 0, 0, 0, 0, 0, 0, []), (.iload_n 2, 17, 2, 0, 0, 0, 0, 0, 0, []), (.invokevirtual 157, 20, 144, 3, 1, 12, 1264, 0, 0, []), (.aload_n 0, 21, 0, 0, 0, 0, 0, 0, 0, []), (.iload_n 1, 22, 1, 0, 0, 0, 0, 0, 0, []), (.iload_n 3, 23, 3, 0, 0, 0, 0, 0, 0, []), (.invokevirtual 157, 26, 144, 3, 1, 12, 1264, 0, 0, []), (.isub, 27, 0, 0, 0, 0, 0, 0, 0, []), (.i2l, 28, 0, 0, 0, 0, 0, 0, 0, []), (.lmul, 29, 0, 0, 0, 0, 0, 0, 0, []), (.aload_n 0, 30, 0, 0, 0, 0, 0, 0, 0, []), (.iload_n 1, 31, 1, 0, 0, 0, 0, 0, 0, []), (.iload_n 3, 32, 3, 0, 0, 0, 0, 0, 0, []), (.invokevirtual 94, 35, 142, 3, 1, 12, 1253, 0, 0, []), (.aload_n 0, 36, 0, 0, 0, 0, 0, 0, 0, []), (.iload_n 1, 37, 1, 0, 0, 0, 0, 0, 0, []), (.iload_n 2, 38, 2, 0, 0, 0, 0, 0, 0, []), (.invokevirtual 94, 41, 142, 3, 1, 12, 1253, 0, 0, []), (.isub, 42, 0, 0, 0, 0, 0, 0, 0, []), (.i2l, 43, 0, 0, 0, 0, 0, 0, 0, []), (.ldiv, 44, 0, 0, 0, 0, 0, 0, 0, []), (.lreturn, 45, 0, 0, 0, 0, 0, 0, 0, [])]
set_option maxRecDepth 100000 in
theorem zk_X12_costOf_0 : zOks nX12_costOf zo_X12_costOf_0 0 = true := by decide +kernel
def zm_X12_costOf : List (Nat × List Bool) := [(0, [true, true, true, false])]
set_option maxRecDepth 100000 in
set_option maxHeartbeats 4000000 in
theorem zr_X12_costOf_0 {C : zCa} {post : zPo} {X : zX} (hX : zClosed none C post nX12_costOf X) (p0 : Int32) (p1 : Int32) (σ : zS) (h : vp_in (208 + p0) (zN 64) ∧ (C nX12_loss [.ref 63, .int p0, .int p1] σ (zPI fun x2 σ1 => C nX12_loss [.ref 63, .int p0, .int (σ.1 64 (Int32.toNatClampNeg (208 + p0)))] σ1 (zPI fun x4 σ3 => C nX12_bits [.ref 63, .int p0, .int (σ.1 64 (Int32.toNatClampNeg (208 + p0)))] σ3 (zPI fun x6 σ5 => C nX12_bits [.ref 63, .int p0, .int p1] σ5 (zPI fun x8 σ7 => ¬ (Int32.toInt64 (x6 - x8) : Int64) = 0 ∧ (post (some (.long ((1000 * (Int32.toInt64 (x2 - x4))) / (Int32.toInt64 (x6 - x8))))) σ7))))))) : X 0 [some (.ref 63), some (.int p0), some (.int p1), none] [] σ := zSeq_ok hX zm_X12_costOf zo_X12_costOf_0 0 0 _ _ _ zk_X12_costOf_0 h
theorem ze_X12_costOf {d : Nat} {post : zPo} (p0 : Int32) (p1 : Int32) (σ : zS) (h : ∀ X : zX, zClosed none (zCall d) post nX12_costOf X → X 0 [some (.ref 63), some (.int p0), some (.int p1), none] [] σ) : zCall (d + 1) nX12_costOf [.ref 63, .int p0, .int p1] σ post := h
-- X12_nextQuantizer(63,) depth 3
def zo_X12_nextQuantizer_0 : List zOp := [(.aload_n 0, 1, 0, 0, 0, 0, 0, 0, 0, []), (.iload_n 1, 2, 1, 0, 0, 0, 0, 0, 0, []), (.aload_n 0, 3, 0, 0, 0, 0, 0, 0, 0, []), (.getfield 7, 6, 12, 0, 0, 0, 1051, 0, 0, []), (.sipush 208, 9, 0, 0, 0, 0, 0, 208, 0, []), (.iload_n 1, 10, 1, 0, 0, 0, 0, 0, 0, []), (.iadd, 11, 0, 0, 0, 0, 0, 0, 0, []), (.iaload, 12, 0, 0, 0, 0, 0, 0, 0, []), (.invokevirtual 94, 15, 142, 3, 1, 12, 1253, 0, 0, []), (.istore_n 2, 16, 2, 0, 0, 0, 0, 0, 0, []), (.aload_n 0, 17, 0, 0, 0, 0, 0, 0, 0, []), (.getfield 7, 20, 12, 0, 0, 0, 1051, 0, 0, []), (.sipush 208, 23, 0, 0, 0, 0, 0, 208, 0, []), (.iload_n 1, 24, 1, 0, 0, 0, 0, 0, 0, []), (.iadd, 25, 0, 0, 0, 0, 0, 0, 0, []), (.iaload, 26, 0, 0, 0, 0, 0, 0, 0, []), (.iconst 1, 27, 0, 0, 0, 0, 0, 1, 0, []), (.iadd, 28, 0, 0, 0, 0, 0, 0, 0, []), (.istore_n 3, 29, 3, 0, 0, 0, 0, 0, 0, [])]
set_option maxRecDepth 100000 in
theorem zk_X12_nextQuantizer_0 : zOks nX12_nextQuantizer zo_X12_nextQuantizer_0 0 = true := by decide +kernel
def zo_X12_nextQuantizer_29 : List zOp := [(.iload_n 3, 30, 3, 0, 0, 0, 0, 0, 0, []), (.aload_n 0, 31, 0, 0, 0, 0, 0, 0, 0, []), (.getfield 7, 34, 12, 0, 0, 0, 1051, 0, 0, []), (.sipush 184, 37, 0, 0, 0, 0, 0, 184, 0, []), (.iaload, 38, 0, 0, 0, 0, 0, 0, 0, []), (.if_icmp .gt 21, 41, 59, 0, 0, 0, 0, 0, 0, []), (.aload_n 0, 42, 0, 0, 0, 0, 0, 0, 0, []), (.iload_n 1, 43, 1, 0, 0, 0, 0, 0, 0, []), (.iload_n 3, 44, 3, 0, 0, 0, 0, 0, 0, []), (.invokevirtual 94, 47, 142, 3, 1, 12, 1253, 0, 0, []), (.iload_n 2, 48, 2, 0, 0, 0, 0, 0, 0, []), (.if_icmp .ge 5, 51, 53, 0, 0, 0, 0, 0, 0, []), (.iload_n 3, 52, 3, 0, 0, 0, 0, 0, 0, []), (.ireturn, 53, 0, 0, 0, 0, 0, 0, 0, []), (.iinc 3 1, 56, 3, 0, 0, 0, 0, 1, 0, []), (.goto (-27), 59, 29, 0, 0, 0, 0, 0, 0, []), (.iconst (-1), 60, 0, 0, 0, 0, 0, (-1), 0, []), (.ireturn, 61, 0, 0, 0, 0, 0, 0, 0, [])]
set_option maxRecDepth 100000 in
theorem zk_X12_nextQuantizer_29 : zOks nX12_nextQuantizer zo_X12_nextQuantizer_29 29 = true := by decide +kernel
def zm_X12_nextQuantizer : List (Nat × List Bool) := [(0, [true, true, false, false]), (29, [true, true, true, true])]
set_option maxRecDepth 100000 in
set_option maxHeartbeats 4000000 in
theorem zr_X12_nextQuantizer_0 {C : zCa} {post : zPo} {X : zX} (hX : zClosed none C post nX12_nextQuantizer X) (p0 : Int32) (σ : zS) (h : vp_in (208 + p0) (zN 64) ∧ (C nX12_bits [.ref 63, .int p0, .int (σ.1 64 (Int32.toNatClampNeg (208 + p0)))] σ (zPI fun x2 σ1 => vp_in (208 + p0) (zN 64) ∧ (X 29 [some (.ref 63), some (.int p0), some (.int x2), some (.int ((σ1.1 64 (Int32.toNatClampNeg (208 + p0))) + 1))] [] σ1)))) : X 0 [some (.ref 63), some (.int p0), none, none] [] σ := zSeq_ok hX zm_X12_nextQuantizer zo_X12_nextQuantizer_0 0 0 _ _ _ zk_X12_nextQuantizer_0 h
set_option maxRecDepth 100000 in
set_option maxHeartbeats 4000000 in
theorem zr_X12_nextQuantizer_29 {C : zCa} {post : zPo} {X : zX} (hX : zClosed none C post nX12_nextQuantizer X) (v1 : Int32) (v2 : Int32) (v3 : Int32) (σ : zS) (h : vp_in 184 (zN 64) ∧ (zIf ((v3 : Int32) ≤ (σ.1 64 (Int32.toNatClampNeg 184))) (C nX12_bits [.ref 63, .int v1, .int v3] σ (zPI fun x2 σ1 => zIf ((x2 : Int32) < v2) (post (some (.int v3)) σ1) (X 29 [some (.ref 63), some (.int v1), some (.int v2), some (.int (v3 + 1))] [] σ1))) (post (some (.int (-1))) σ))) : X 29 [some (.ref 63), some (.int v1), some (.int v2), some (.int v3)] [] σ := zSeq_ok hX zm_X12_nextQuantizer zo_X12_nextQuantizer_29 29 29 _ _ _ zk_X12_nextQuantizer_29 h
theorem ze_X12_nextQuantizer {d : Nat} {post : zPo} (p0 : Int32) (σ : zS) (h : ∀ X : zX, zClosed none (zCall d) post nX12_nextQuantizer X → X 0 [some (.ref 63), some (.int p0), none, none] [] σ) : zCall (d + 1) nX12_nextQuantizer [.ref 63, .int p0] σ post := h
-- X12_cheapest(63,) depth 4
def zo_X12_cheapest_0 : List zOp := [(.iconst (-1), 1, 0, 0, 0, 0, 0, (-1), 0, []), (.istore_n 3, 2, 3, 0, 0, 0, 0, 0, 0, []), (.lconst 0, 3, 0, 0, 0, 0, 0, 0, 0, []), (.lstore 4, 5, 4, 0, 0, 0, 0, 0, 0, []), (.iload_n 1, 6, 1, 0, 0, 0, 0, 0, 0, []), (.istore 6, 8, 6, 0, 0, 0, 0, 0, 0, [])]
set_option maxRecDepth 100000 in
theorem zk_X12_cheapest_0 : zOks nX12_cheapest zo_X12_cheapest_0 0 = true := by decide +kernel
def zo_X12_cheapest_8 : List zOp := [(.iload 6, 10, 6, 0, 0, 0, 0, 0, 0, []), (.iload_n 2, 11, 2, 0, 0, 0, 0, 0, 0, []), (.if_icmp .gt 73, 14, 84, 0, 0, 0, 0, 0, 0, []), (.aload_n 0, 15, 0, 0, 0, 0, 0, 0, 0, []), (.aload_n 0, 16, 0, 0, 0, 0, 0, 0, 0, []), (.getfield 31, 19, 12, 7, 0, 0, 1058, 0, 0, []), (.iload 6, 21, 6, 0, 0, 0, 0, 0, 0, []), (.iaload, 22, 0, 0, 0, 0, 0, 0, 0, []), (.invokevirtual 188, 25, 185, 2, 1, 12, 1343, 0, 0, []), (.istore 7, 27, 7, 0, 0, 0, 0, 0, 0, []), (.iload 7, 29, 7, 0, 0, 0, 0, 0, 0, []), (.iconst (-1), 30, 0, 0, 0, 0, 0, (-1), 0, []), (.if_icmp .ne 7, 33, 37, 0, 0, 0, 0, 0, 0, []), (.lconst 0, 34, 0, 0, 0, 0, 0, 0, 0, []), (.goto 16, 37, 50, 0, 0, 0, 0, 0, 0, []), (.aload_n 0, 38, 0, 0, 0, 0, 0, 0, 0, []), (.aload_n 0, 39, 0, 0, 0, 0, 0, 0, 0, []), (.getfield 31, 42, 12, 7, 0, 0, 1058, 0, 0, []), (.iload 6, 44, 6, 0, 0, 0, 0, 0, 0, []), (.iaload, 45, 0, 0, 0, 0, 0, 0, 0, []), (.iload 7, 47, 7, 0, 0, 0, 0, 0, 0, []), (.invokevirtual 191, 50, 186, 3, 2, 12, 1347, 0, 0, []), (.lstore 8, 52, 8, 0, 0, 0, 0, 0, 0, []), (.iload 7, 54, 7, 0, 0, 0, 0, 0, 0, []), (.iconst (-1), 55, 0, 0, 0, 0, 0, (-1), 0, []), (.if_icmp .eq 23, 58, 78, 0, 0, 0, 0, 0, 0, []), (.iload_n 3, 59, 3, 0, 0, 0, 0, 0, 0, []), (.iconst (-1), 60, 0, 0, 0, 0, 0, (-1), 0, []), (.if_icmp .eq 11, 63, 71, 0, 0, 0, 0, 0, 0, []), (.lload 8, 65, 8, 0, 0, 0, 0, 0, 0, []), (.lload 4, 67, 4, 0, 0, 0, 0, 0, 0, []), (.lcmp, 68, 0, 0, 0, 0, 0, 0, 0, []), (.ifCond .ge 10, 71, 78, 0, 0, 0, 0, 0, 0, []), (.iload 6, 73, 6, 0, 0, 0, 0, 0, 0, []), (.istore_n 3, 74, 3, 0, 0, 0, 0, 0, 0, []), (.lload 8, 76, 8, 0, 0, 0, 0, 0, 0, []), (.lstore 4, 78, 4, 0, 0, 0, 0, 0, 0, []), (.iinc 6 1, 81, 6, 0, 0, 0, 0, 1, 0, []), (.goto (-73), 84, 8, 0, 0, 0, 0, 0, 0, []), (.iload_n 3, 85, 3, 0, 0, 0, 0, 0, 0, []), (.ireturn, 86, 0, 0, 0, 0, 0, 0, 0, [])]
set_option maxRecDepth 100000 in
theorem zk_X12_cheapest_8 : zOks nX12_cheapest zo_X12_cheapest_8 8 = true := by decide +kernel
def zm_X12_cheapest : List (Nat × List Bool) := [(0, [true, true, true, false, false, false, false, false, false, false]), (8, [true, false, true, true, true, false, true, false, false, false])]
set_option maxRecDepth 100000 in
set_option maxHeartbeats 4000000 in
theorem zr_X12_cheapest_0 {C : zCa} {post : zPo} {X : zX} (hX : zClosed none C post nX12_cheapest X) (p0 : Int32) (p1 : Int32) (σ : zS) (h : X 8 [some (.ref 63), none, some (.int p1), some (.int (-1)), some (.long 0), none, some (.int p0), none, none, none] [] σ) : X 0 [some (.ref 63), some (.int p0), some (.int p1), none, none, none, none, none, none, none] [] σ := zSeq_ok hX zm_X12_cheapest zo_X12_cheapest_0 0 0 _ _ _ zk_X12_cheapest_0 h
set_option maxRecDepth 100000 in
set_option maxHeartbeats 4000000 in
theorem zr_X12_cheapest_8 {C : zCa} {post : zPo} {X : zX} (hX : zClosed none C post nX12_cheapest X) (v2 : Int32) (v3 : Int32) (v4 : Int64) (v6 : Int32) (σ : zS) (h : zIf ((v6 : Int32) ≤ v2) (vp_in v6 (zN 71) ∧ (C nX12_nextQuantizer [.ref 63, .int (σ.1 71 (Int32.toNatClampNeg v6))] σ (zPI fun x2 σ1 => zIf ((x2 : Int32) = (-1)) (zIf ((x2 : Int32) = (-1)) (X 8 [some (.ref 63), none, some (.int v2), some (.int v3), some (.long v4), none, some (.int (v6 + 1)), none, none, none] [] σ1) (zIf ((v3 : Int32) = (-1)) (X 8 [some (.ref 63), none, some (.int v2), some (.int v6), some (.long 0), none, some (.int (v6 + 1)), none, none, none] [] σ1) (zIf ((lg_cmp 0 v4 : Int32) < 0) (X 8 [some (.ref 63), none, some (.int v2), some (.int v6), some (.long 0), none, some (.int (v6 + 1)), none, none, none] [] σ1) (X 8 [some (.ref 63), none, some (.int v2), some (.int v3), some (.long v4), none, some (.int (v6 + 1)), none, none, none] [] σ1)))) (vp_in v6 (zN 71) ∧ (C nX12_costOf [.ref 63, .int (σ1.1 71 (Int32.toNatClampNeg v6)), .int x2] σ1 (zPJ fun x4 σ3 => zIf ((x2 : Int32) = (-1)) (X 8 [some (.ref 63), none, some (.int v2), some (.int v3), some (.long v4), none, some (.int (v6 + 1)), none, none, none] [] σ3) (zIf ((v3 : Int32) = (-1)) (X 8 [some (.ref 63), none, some (.int v2), some (.int v6), some (.long x4), none, some (.int (v6 + 1)), none, none, none] [] σ3) (zIf ((lg_cmp x4 v4 : Int32) < 0) (X 8 [some (.ref 63), none, some (.int v2), some (.int v6), some (.long x4), none, some (.int (v6 + 1)), none, none, none] [] σ3) (X 8 [some (.ref 63), none, some (.int v2), some (.int v3), some (.long v4), none, some (.int (v6 + 1)), none, none, none] [] σ3))))))))) (post (some (.int v3)) σ)) : X 8 [some (.ref 63), none, some (.int v2), some (.int v3), some (.long v4), none, some (.int v6), none, none, none] [] σ := zSeq_ok hX zm_X12_cheapest zo_X12_cheapest_8 8 8 _ _ _ zk_X12_cheapest_8 h
theorem ze_X12_cheapest {d : Nat} {post : zPo} (p0 : Int32) (p1 : Int32) (σ : zS) (h : ∀ X : zX, zClosed none (zCall d) post nX12_cheapest X → X 0 [some (.ref 63), some (.int p0), some (.int p1), none, none, none, none, none, none, none] [] σ) : zCall (d + 1) nX12_cheapest [.ref 63, .int p0, .int p1] σ post := h
-- X12_clear(63,) depth 1
def zo_X12_clear_0 : List zOp := [(.aload_n 0, 1, 0, 0, 0, 0, 0, 0, 0, []), (.getfield 118, 4, 12, 16, 1, 0, 1067, 0, 0, []), (.istore_n 1, 5, 1, 0, 0, 0, 0, 0, 0, []), (.aload_n 0, 6, 0, 0, 0, 0, 0, 0, 0, []), (.iconst 0, 7, 0, 0, 0, 0, 0, 0, 0, []), (.putfield 118, 10, 12, 16, 1, 0, 1067, 0, 0, []), (.iload_n 1, 11, 1, 0, 0, 0, 0, 0, 0, []), (.ireturn, 12, 0, 0, 0, 0, 0, 0, 0, [])]
set_option maxRecDepth 100000 in
theorem zk_X12_clear_0 : zOks nX12_clear zo_X12_clear_0 0 = true := by decide +kernel
def zm_X12_clear : List (Nat × List Bool) := [(0, [true, false])]
set_option maxRecDepth 100000 in
set_option maxHeartbeats 4000000 in
theorem zr_X12_clear_0 {C : zCa} {post : zPo} {X : zX} (hX : zClosed none C post nX12_clear X) (σ : zS) (h : post (some (.int (σ.1 63 16))) (zSI σ 63 16 0)) : X 0 [some (.ref 63), none] [] σ := zSeq_ok hX zm_X12_clear zo_X12_clear_0 0 0 _ _ _ zk_X12_clear_0 h
theorem ze_X12_clear {d : Nat} {post : zPo} (σ : zS) (h : ∀ X : zX, zClosed none (zCall d) post nX12_clear X → X 0 [some (.ref 63), none] [] σ) : zCall (d + 1) nX12_clear [.ref 63] σ post := h
-- X12_clearZones(63,) depth 2
def zo_X12_clearZones_0 : List zOp := [(.aload_n 0, 1, 0, 0, 0, 0, 0, 0, 0, []), (.sipush 188, 4, 0, 0, 0, 0, 0, 188, 0, []), (.iconst 0, 5, 0, 0, 0, 0, 0, 0, 0, []), (.invokevirtual 152, 8, 165, 3, 1, 12, 1215, 0, 0, []), (.ireturn, 9, 0, 0, 0, 0, 0, 0, 0, [])]
set_option maxRecDepth 100000 in
theorem zk_X12_clearZones_0 : zOks nX12_clearZones zo_X12_clearZones_0 0 = true := by decide +kernel
def zm_X12_clearZones : List (Nat × List Bool) := [(0, [true])]
set_option maxRecDepth 100000 in
set_option maxHeartbeats 4000000 in
theorem zr_X12_clearZones_0 {C : zCa} {post : zPo} {X : zX} (hX : zClosed none C post nX12_clearZones X) (σ : zS) (h : C nX12_sets [.ref 63, .int 188, .int 0] σ (zPI fun x2 σ1 => post (some (.int x2)) σ1)) : X 0 [some (.ref 63)] [] σ := zSeq_ok hX zm_X12_clearZones zo_X12_clearZones_0 0 0 _ _ _ zk_X12_clearZones_0 h
theorem ze_X12_clearZones {d : Nat} {post : zPo} (σ : zS) (h : ∀ X : zX, zClosed none (zCall d) post nX12_clearZones X → X 0 [some (.ref 63)] [] σ) : zCall (d + 1) nX12_clearZones [.ref 63] σ post := h
-- X12_coded(63,) depth 4
def zo_X12_coded_0 : List zOp := [(.aload_n 0, 1, 0, 0, 0, 0, 0, 0, 0, []), (.iload_n 1, 2, 1, 0, 0, 0, 0, 0, 0, []), (.invokevirtual 115, 5, 135, 2, 1, 12, 1139, 0, 0, []), (.ifCond .ne 6, 8, 11, 0, 0, 0, 0, 0, 0, []), (.bipush (-2), 10, 0, 0, 0, 0, 0, (-2), 0, []), (.ireturn, 11, 0, 0, 0, 0, 0, 0, 0, []), (.aload_n 0, 12, 0, 0, 0, 0, 0, 0, 0, []), (.invokevirtual 149, 15, 139, 1, 0, 12, 1191, 0, 0, []), (.aload_n 0, 16, 0, 0, 0, 0, 0, 0, 0, []), (.getfield 31, 19, 12, 7, 0, 0, 1058, 0, 0, []), (.iload_n 1, 20, 1, 0, 0, 0, 0, 0, 0, []), (.iaload, 21, 0, 0, 0, 0, 0, 0, 0, []), (.ireturn, 22, 0, 0, 0, 0, 0, 0, 0, [])]
set_option maxRecDepth 100000 in
theorem zk_X12_coded_0 : zOks nX12_coded zo_X12_coded_0 0 = true := by decide +kernel
def zm_X12_coded : List (Nat × List Bool) := [(0, [true, true])]
set_option maxRecDepth 100000 in
set_option maxHeartbeats 4000000 in
theorem zr_X12_coded_0 {C : zCa} {post : zPo} {X : zX} (hX : zClosed none C post nX12_coded X) (p0 : Int32) (σ : zS) (h : C nX12_isFrame [.ref 63, .int p0] σ (zPI fun x2 σ1 => zIf ((x2 : Int32) = 0) (post (some (.int (-2))) σ1) (C nX12_findsTypes [.ref 63] σ1 (zPV fun σ3 => vp_in p0 (zN 71) ∧ (post (some (.int (σ3.1 71 (Int32.toNatClampNeg p0)))) σ3))))) : X 0 [some (.ref 63), some (.int p0)] [] σ := zSeq_ok hX zm_X12_coded zo_X12_coded_0 0 0 _ _ _ zk_X12_coded_0 h
theorem ze_X12_coded {d : Nat} {post : zPo} (p0 : Int32) (σ : zS) (h : ∀ X : zX, zClosed none (zCall d) post nX12_coded X → X 0 [some (.ref 63), some (.int p0)] [] σ) : zCall (d + 1) nX12_coded [.ref 63, .int p0] σ post := h
-- X12_constant(63,) depth 7
def zo_X12_constant_0 : List zOp := [(.iload_n 1, 1, 1, 0, 0, 0, 0, 0, 0, []), (.iconst 0, 2, 0, 0, 0, 0, 0, 0, 0, []), (.bipush 51, 4, 0, 0, 0, 0, 0, 51, 0, []), (.invokestatic 59, 7, 133, 3, 1, 0, 1128, 0, 0, []), (.ifCond .ne 6, 10, 13, 0, 0, 0, 0, 0, 0, []), (.bipush (-2), 12, 0, 0, 0, 0, 0, (-2), 0, []), (.ireturn, 13, 0, 0, 0, 0, 0, 0, 0, []), (.aload_n 0, 14, 0, 0, 0, 0, 0, 0, 0, []), (.getfield 7, 17, 12, 0, 0, 0, 1051, 0, 0, []), (.iconst 0, 18, 0, 0, 0, 0, 0, 0, 0, []), (.iaload, 19, 0, 0, 0, 0, 0, 0, 0, []), (.ifCond .ne 6, 22, 25, 0, 0, 0, 0, 0, 0, []), (.bipush (-3), 24, 0, 0, 0, 0, 0, (-3), 0, []), (.ireturn, 25, 0, 0, 0, 0, 0, 0, 0, []), (.aload_n 0, 26, 0, 0, 0, 0, 0, 0, 0, []), (.invokevirtual 149, 29, 139, 1, 0, 12, 1191, 0, 0, []), (.aload_n 0, 30, 0, 0, 0, 0, 0, 0, 0, []), (.iload_n 1, 31, 1, 0, 0, 0, 0, 0, 0, []), (.invokevirtual 166, 34, 177, 2, 0, 12, 1276, 0, 0, []), (.aload_n 0, 35, 0, 0, 0, 0, 0, 0, 0, []), (.getfield 7, 38, 12, 0, 0, 0, 1051, 0, 0, []), (.sipush 207, 41, 0, 0, 0, 0, 0, 207, 0, []), (.iconst 1, 42, 0, 0, 0, 0, 0, 1, 0, []), (.iastore, 43, 0, 0, 0, 0, 0, 0, 0, []), (.aload_n 0, 44, 0, 0, 0, 0, 0, 0, 0, []), (.invokevirtual 169, 47, 149, 1, 1, 12, 1290, 0, 0, []), (.ireturn, 48, 0, 0, 0, 0, 0, 0, 0, [])]
set_option maxRecDepth 100000 in
theorem zk_X12_constant_0 : zOks nX12_constant zo_X12_constant_0 0 = true := by decide +kernel
def zm_X12_constant : List (Nat × List Bool) := [(0, [true, true])]
set_option maxRecDepth 100000 in
set_option maxHeartbeats 4000000 in
theorem zr_X12_constant_0 {C : zCa} {post : zPo} {X : zX} (hX : zClosed none C post nX12_constant X) (p0 : Int32) (σ : zS) (h : C nX12_in [.int p0, .int 0, .int 51] σ (zPI fun x2 σ1 => zIf ((x2 : Int32) = 0) (post (some (.int (-2))) σ1) (vp_in 0 (zN 64) ∧ (zIf ((σ1.1 64 (Int32.toNatClampNeg 0) : Int32) = 0) (post (some (.int (-3))) σ1) (C nX12_findsTypes [.ref 63] σ1 (zPV fun σ3 => C nX12_plansConstant [.ref 63, .int p0] σ3 (zPV fun σ4 => vp_in 207 (zN 64) ∧ (C nX12_underflowsNow [.ref 63] (zSI σ4 64 (Int32.toNatClampNeg 207) 1) (zPI fun x6 σ5 => post (some (.int x6)) σ5))))))))) : X 0 [some (.ref 63), some (.int p0)] [] σ := zSeq_ok hX zm_X12_constant zo_X12_constant_0 0 0 _ _ _ zk_X12_constant_0 h
theorem ze_X12_constant {d : Nat} {post : zPo} (p0 : Int32) (σ : zS) (h : ∀ X : zX, zClosed none (zCall d) post nX12_constant X → X 0 [some (.ref 63), some (.int p0)] [] σ) : zCall (d + 1) nX12_constant [.ref 63, .int p0] σ post := h
-- X12_control(63,) depth 4
def zo_X12_control_0 : List zOp := [(.iload_n 1, 1, 1, 0, 0, 0, 0, 0, 0, []), (.iconst 0, 2, 0, 0, 0, 0, 0, 0, 0, []), (.bipush 51, 4, 0, 0, 0, 0, 0, 51, 0, []), (.invokestatic 59, 7, 133, 3, 1, 0, 1128, 0, 0, []), (.ifCond .eq 14, 10, 21, 0, 0, 0, 0, 0, 0, []), (.iload_n 2, 11, 2, 0, 0, 0, 0, 0, 0, []), (.iconst 0, 12, 0, 0, 0, 0, 0, 0, 0, []), (.sipush 200, 15, 0, 0, 0, 0, 0, 200, 0, []), (.invokestatic 59, 18, 133, 3, 1, 0, 1128, 0, 0, []), (.ifCond .ne 6, 21, 24, 0, 0, 0, 0, 0, 0, []), (.bipush (-2), 23, 0, 0, 0, 0, 0, (-2), 0, []), (.ireturn, 24, 0, 0, 0, 0, 0, 0, 0, []), (.aload_n 0, 25, 0, 0, 0, 0, 0, 0, 0, []), (.getfield 7, 28, 12, 0, 0, 0, 1051, 0, 0, []), (.iconst 0, 29, 0, 0, 0, 0, 0, 0, 0, []), (.iaload, 30, 0, 0, 0, 0, 0, 0, 0, []), (.ifCond .ne 6, 33, 36, 0, 0, 0, 0, 0, 0, []), (.bipush (-3), 35, 0, 0, 0, 0, 0, (-3), 0, []), (.ireturn, 36, 0, 0, 0, 0, 0, 0, 0, []), (.aload_n 0, 37, 0, 0, 0, 0, 0, 0, 0, []), (.invokevirtual 149, 40, 139, 1, 0, 12, 1191, 0, 0, []), (.aload_n 0, 41, 0, 0, 0, 0, 0, 0, 0, []), (.iconst 0, 42, 0, 0, 0, 0, 0, 0, 0, []), (.putfield 98, 45, 12, 14, 1, 0, 1065, 0, 0, []), (.iconst 0, 46, 0, 0, 0, 0, 0, 0, 0, []), (.istore_n 3, 47, 3, 0, 0, 0, 0, 0, 0, [])]
set_option maxRecDepth 100000 in
theorem zk_X12_control_0 : zOks nX12_control zo_X12_control_0 0 = true := by decide +kernel
def zo_X12_control_47 : List zOp := [(.iload_n 3, 48, 3, 0, 0, 0, 0, 0, 0, []), (.aload_n 0, 49, 0, 0, 0, 0, 0, 0, 0, []), (.getfield 7, 52, 12, 0, 0, 0, 1051, 0, 0, []), (.iconst 0, 53, 0, 0, 0, 0, 0, 0, 0, []), (.iaload, 54, 0, 0, 0, 0, 0, 0, 0, []), (.if_icmp .ge 169, 57, 223, 0, 0, 0, 0, 0, 0, []), (.aload_n 0, 58, 0, 0, 0, 0, 0, 0, 0, []), (.getfield 7, 61, 12, 0, 0, 0, 1051, 0, 0, []), (.sipush 208, 64, 0, 0, 0, 0, 0, 208, 0, []), (.aload_n 0, 65, 0, 0, 0, 0, 0, 0, 0, []), (.getfield 31, 68, 12, 7, 0, 0, 1058, 0, 0, []), (.iload_n 3, 69, 3, 0, 0, 0, 0, 0, 0, []), (.iaload, 70, 0, 0, 0, 0, 0, 0, 0, []), (.iadd, 71, 0, 0, 0, 0, 0, 0, 0, []), (.iconst 0, 72, 0, 0, 0, 0, 0, 0, 0, []), (.iastore, 73, 0, 0, 0, 0, 0, 0, 0, []), (.aload_n 0, 74, 0, 0, 0, 0, 0, 0, 0, []), (.getfield 98, 77, 12, 14, 1, 0, 1065, 0, 0, []), (.istore 4, 79, 4, 0, 0, 0, 0, 0, 0, []), (.aload_n 0, 80, 0, 0, 0, 0, 0, 0, 0, []), (.iload_n 3, 81, 3, 0, 0, 0, 0, 0, 0, []), (.aload_n 0, 82, 0, 0, 0, 0, 0, 0, 0, []), (.getfield 7, 85, 12, 0, 0, 0, 1051, 0, 0, []), (.sipush 185, 88, 0, 0, 0, 0, 0, 185, 0, []), (.iaload, 89, 0, 0, 0, 0, 0, 0, 0, []), (.aload_n 0, 90, 0, 0, 0, 0, 0, 0, 0, []), (.getfield 7, 93, 12, 0, 0, 0, 1051, 0, 0, []), (.sipush 186, 96, 0, 0, 0, 0, 0, 186, 0, []), (.iaload, 97, 0, 0, 0, 0, 0, 0, 0, []), (.aload_n 0, 98, 0, 0, 0, 0, 0, 0, 0, []), (.getfield 7, 101, 12, 0, 0, 0, 1051, 0, 0, []), (.sipush 187, 104, 0, 0, 0, 0, 0, 187, 0, []), (.iaload, 105, 0, 0, 0, 0, 0, 0, 0, []), (.invokevirtual 101, 108, 146, 5, 0, 12, 1302, 0, 0, []), (.aload_n 0, 109, 0, 0, 0, 0, 0, 0, 0, []), (.iload 4, 111, 4, 0, 0, 0, 0, 0, 0, []), (.putfield 98, 114, 12, 14, 1, 0, 1065, 0, 0, []), (.iload_n 1, 115, 1, 0, 0, 0, 0, 0, 0, []), (.aload_n 0, 116, 0, 0, 0, 0, 0, 0, 0, []), (.getfield 7, 119, 12, 0, 0, 0, 1051, 0, 0, []), (.sipush 185, 122, 0, 0, 0, 0, 0, 185, 0, []), (.iaload, 123, 0, 0, 0, 0, 0, 0, 0, []), (.iconst 2, 124, 0, 0, 0, 0, 0, 2, 0, []), (.idiv, 125, 0, 0, 0, 0, 0, 0, 0, []), (.aload_n 0, 126, 0, 0, 0, 0, 0, 0, 0, []), (.getfield 34, 129, 12, 10, 0, 0, 1061, 0, 0, []), (.iload_n 3, 130, 3, 0, 0, 0, 0, 0, 0, []), (.iaload, 131, 0, 0, 0, 0, 0, 0, 0, []), (.isub, 132, 0, 0, 0, 0, 0, 0, 0, []), (.iload_n 2, 133, 2, 0, 0, 0, 0, 0, 0, []), (.imul, 134, 0, 0, 0, 0, 0, 0, 0, []), (.aload_n 0, 135, 0, 0, 0, 0, 0, 0, 0, []), (.getfield 7, 138, 12, 0, 0, 0, 1051, 0, 0, []), (.sipush 185, 141, 0, 0, 0, 0, 0, 185, 0, []), (.iaload, 142, 0, 0, 0, 0, 0, 0, 0, []), (.idiv, 143, 0, 0, 0, 0, 0, 0, 0, []), (.iadd, 144, 0, 0, 0, 0, 0, 0, 0, []), (.istore 5, 146, 5, 0, 0, 0, 0, 0, 0, []), (.aload_n 0, 147, 0, 0, 0, 0, 0, 0, 0, []), (.getfield 7, 150, 12, 0, 0, 0, 1051, 0, 0, []), (.sipush 208, 153, 0, 0, 0, 0, 0, 208, 0, []), (.aload_n 0, 154, 0, 0, 0, 0, 0, 0, 0, []), (.getfield 31, 157, 12, 7, 0, 0, 1058, 0, 0, []), (.iload_n 3, 158, 3, 0, 0, 0, 0, 0, 0, []), (.iaload, 159, 0, 0, 0, 0, 0, 0, 0, []), (.iadd, 160, 0, 0, 0, 0, 0, 0, 0, []), (.aload_n 0, 161, 0, 0, 0, 0, 0, 0, 0, []), (.aload_n 0, 162, 0, 0, 0, 0, 0, 0, 0, []), (.getfield 31, 165, 12, 7, 0, 0, 1058, 0, 0, []), (.iload_n 3, 166, 3, 0, 0, 0, 0, 0, 0, []), (.iaload, 167, 0, 0, 0, 0, 0, 0, 0, []), (.iload 5, 169, 5, 0, 0, 0, 0, 0, 0, []), (.aload_n 0, 170, 0, 0, 0, 0, 0, 0, 0, []), (.getfield 19, 173, 12, 3, 0, 0, 1054, 0, 0, []), (.aload_n 0, 174, 0, 0, 0, 0, 0, 0, 0, []), (.getfield 31, 177, 12, 7, 0, 0, 1058, 0, 0, []), (.iload_n 3, 178, 3, 0, 0, 0, 0, 0, 0, []), (.iaload, 179, 0, 0, 0, 0, 0, 0, 0, []), (.iaload, 180, 0, 0, 0, 0, 0, 0, 0, []), (.invokestatic 160, 183, 176, 1, 1, 0, 1280, 0, 0, []), (.iadd, 184, 0, 0, 0, 0, 0, 0, 0, []), (.invokevirtual 163, 187, 145, 3, 1, 12, 1283, 0, 0, []), (.iastore, 188, 0, 0, 0, 0, 0, 0, 0, []), (.aload_n 0, 189, 0, 0, 0, 0, 0, 0, 0, []), (.iload_n 3, 190, 3, 0, 0, 0, 0, 0, 0, []), (.aload_n 0, 191, 0, 0, 0, 0, 0, 0, 0, []), (.getfield 7, 194, 12, 0, 0, 0, 1051, 0, 0, []), (.sipush 185, 197, 0, 0, 0, 0, 0, 185, 0, []), (.iaload, 198, 0, 0, 0, 0, 0, 0, 0, []), (.aload_n 0, 199, 0, 0, 0, 0, 0, 0, 0, []), (.getfield 7, 202, 12, 0, 0, 0, 1051, 0, 0, []), (.sipush 186, 205, 0, 0, 0, 0, 0, 186, 0, []), (.iaload, 206, 0, 0, 0, 0, 0, 0, 0, []), (.aload_n 0, 207, 0, 0, 0, 0, 0, 0, 0, []), (.getfield 7, 210, 12, 0, 0, 0, 1051, 0, 0, []), (.sipush 187, 213, 0, 0, 0, 0, 0, 187, 0, []), (.iaload, 214, 0, 0, 0, 0, 0, 0, 0, []), (.invokevirtual 101, 217, 146, 5, 0, 12, 1302, 0, 0, []), (.iinc 3 1, 220, 3, 0, 0, 0, 0, 1, 0, []), (.goto (-173), 223, 47, 0, 0, 0, 0, 0, 0, []), (.aload_n 0, 224, 0, 0, 0, 0, 0, 0, 0, []), (.getfield 7, 227, 12, 0, 0, 0, 1051, 0, 0, []), (.sipush 207, 230, 0, 0, 0, 0, 0, 207, 0, []), (.iconst 1, 231, 0, 0, 0, 0, 0, 1, 0, []), (.iastore, 232, 0, 0, 0, 0, 0, 0, 0, []), (.aload_n 0, 233, 0, 0, 0, 0, 0, 0, 0, []), (.getfield 98, 236, 12, 14, 1, 0, 1065, 0, 0, []), (.ireturn, 237, 0, 0, 0, 0, 0, 0, 0, [])]
set_option maxRecDepth 100000 in
theorem zk_X12_control_47 : zOks nX12_control zo_X12_control_47 47 = true := by decide +kernel
def zm_X12_control : List (Nat × List Bool) := [(0, [true, true, true, false, false, false]), (47, [true, true, true, true, false, false])]
set_option maxRecDepth 100000 in
set_option maxHeartbeats 4000000 in
theorem zr_X12_control_0 {C : zCa} {post : zPo} {X : zX} (hX : zClosed none C post nX12_control X) (p0 : Int32) (p1 : Int32) (σ : zS) (h : C nX12_in [.int p0, .int 0, .int 51] σ (zPI fun x2 σ1 => zIf ((x2 : Int32) = 0) (post (some (.int (-2))) σ1) (C nX12_in [.int p1, .int 0, .int 200] σ1 (zPI fun x4 σ3 => zIf ((x4 : Int32) = 0) (post (some (.int (-2))) σ3) (vp_in 0 (zN 64) ∧ (zIf ((σ3.1 64 (Int32.toNatClampNeg 0) : Int32) = 0) (post (some (.int (-3))) σ3) (C nX12_findsTypes [.ref 63] σ3 (zPV fun σ5 => X 47 [some (.ref 63), some (.int p0), some (.int p1), some (.int 0), none, none] [] (zSI σ5 63 14 0))))))))) : X 0 [some (.ref 63), some (.int p0), some (.int p1), none, none, none] [] σ := zSeq_ok hX zm_X12_control zo_X12_control_0 0 0 _ _ _ zk_X12_control_0 h
set_option maxRecDepth 100000 in
set_option maxHeartbeats 4000000 in
theorem zr_X12_control_47 {C : zCa} {post : zPo} {X : zX} (hX : zClosed none C post nX12_control X) (v1 : Int32) (v2 : Int32) (v3 : Int32) (σ : zS) (h : vp_in 0 (zN 64) ∧ (zIf ((v3 : Int32) < (σ.1 64 (Int32.toNatClampNeg 0))) (vp_in v3 (zN 71) ∧ (vp_in (208 + (σ.1 71 (Int32.toNatClampNeg v3))) (zN 64) ∧ (vp_in 185 (zN 64) ∧ (vp_in 186 (zN 64) ∧ (vp_in 187 (zN 64) ∧ (C nX12_passes [.ref 63, .int v3, .int ((zSI σ 64 (Int32.toNatClampNeg (208 + (σ.1 71 (Int32.toNatClampNeg v3)))) 0).1 64 (Int32.toNatClampNeg 185)), .int ((zSI σ 64 (Int32.toNatClampNeg (208 + (σ.1 71 (Int32.toNatClampNeg v3)))) 0).1 64 (Int32.toNatClampNeg 186)), .int ((zSI σ 64 (Int32.toNatClampNeg (208 + (σ.1 71 (Int32.toNatClampNeg v3)))) 0).1 64 (Int32.toNatClampNeg 187))] (zSI σ 64 (Int32.toNatClampNeg (208 + (σ.1 71 (Int32.toNatClampNeg v3)))) 0) (zPV fun σ1 => vp_in 185 (zN 64) ∧ (¬ (2 : Int32) = 0 ∧ (vp_in v3 (zN 72) ∧ (vp_in 185 (zN 64) ∧ (¬ ((zSI σ1 63 14 ((zSI σ 64 (Int32.toNatClampNeg (208 + (σ.1 71 (Int32.toNatClampNeg v3)))) 0).1 63 14)).1 64 (Int32.toNatClampNeg 185) : Int32) = 0 ∧ (vp_in v3 (zN 71) ∧ (vp_in v3 (zN 71) ∧ (vp_in v3 (zN 71) ∧ (vp_in ((zSI σ1 63 14 ((zSI σ 64 (Int32.toNatClampNeg (208 + (σ.1 71 (Int32.toNatClampNeg v3)))) 0).1 63 14)).1 71 (Int32.toNatClampNeg v3)) (zN 67) ∧ (C nX12_byType [.int ((zSI σ1 63 14 ((zSI σ 64 (Int32.toNatClampNeg (208 + (σ.1 71 (Int32.toNatClampNeg v3)))) 0).1 63 14)).1 67 (Int32.toNatClampNeg ((zSI σ1 63 14 ((zSI σ 64 (Int32.toNatClampNeg (208 + (σ.1 71 (Int32.toNatClampNeg v3)))) 0).1 63 14)).1 71 (Int32.toNatClampNeg v3))))] (zSI σ1 63 14 ((zSI σ 64 (Int32.toNatClampNeg (208 + (σ.1 71 (Int32.toNatClampNeg v3)))) 0).1 63 14)) (zPI fun x3 σ2 => C nX12_settled [.ref 63, .int ((zSI σ1 63 14 ((zSI σ 64 (Int32.toNatClampNeg (208 + (σ.1 71 (Int32.toNatClampNeg v3)))) 0).1 63 14)).1 71 (Int32.toNatClampNeg v3)), .int ((v1 + ((((((zSI σ1 63 14 ((zSI σ 64 (Int32.toNatClampNeg (208 + (σ.1 71 (Int32.toNatClampNeg v3)))) 0).1 63 14)).1 64 (Int32.toNatClampNeg 185)) / 2) - ((zSI σ1 63 14 ((zSI σ 64 (Int32.toNatClampNeg (208 + (σ.1 71 (Int32.toNatClampNeg v3)))) 0).1 63 14)).1 72 (Int32.toNatClampNeg v3))) * v2) / ((zSI σ1 63 14 ((zSI σ 64 (Int32.toNatClampNeg (208 + (σ.1 71 (Int32.toNatClampNeg v3)))) 0).1 63 14)).1 64 (Int32.toNatClampNeg 185)))) + x3)] σ2 (zPI fun x5 σ4 => vp_in (208 + ((zSI σ1 63 14 ((zSI σ 64 (Int32.toNatClampNeg (208 + (σ.1 71 (Int32.toNatClampNeg v3)))) 0).1 63 14)).1 71 (Int32.toNatClampNeg v3))) (zN 64) ∧ (vp_in 185 (zN 64) ∧ (vp_in 186 (zN 64) ∧ (vp_in 187 (zN 64) ∧ (C nX12_passes [.ref 63, .int v3, .int ((zSI σ4 64 (Int32.toNatClampNeg (208 + ((zSI σ1 63 14 ((zSI σ 64 (Int32.toNatClampNeg (208 + (σ.1 71 (Int32.toNatClampNeg v3)))) 0).1 63 14)).1 71 (Int32.toNatClampNeg v3)))) x5).1 64 (Int32.toNatClampNeg 185)), .int ((zSI σ4 64 (Int32.toNatClampNeg (208 + ((zSI σ1 63 14 ((zSI σ 64 (Int32.toNatClampNeg (208 + (σ.1 71 (Int32.toNatClampNeg v3)))) 0).1 63 14)).1 71 (Int32.toNatClampNeg v3)))) x5).1 64 (Int32.toNatClampNeg 186)), .int ((zSI σ4 64 (Int32.toNatClampNeg (208 + ((zSI σ1 63 14 ((zSI σ 64 (Int32.toNatClampNeg (208 + (σ.1 71 (Int32.toNatClampNeg v3)))) 0).1 63 14)).1 71 (Int32.toNatClampNeg v3)))) x5).1 64 (Int32.toNatClampNeg 187))] (zSI σ4 64 (Int32.toNatClampNeg (208 + ((zSI σ1 63 14 ((zSI σ 64 (Int32.toNatClampNeg (208 + (σ.1 71 (Int32.toNatClampNeg v3)))) 0).1 63 14)).1 71 (Int32.toNatClampNeg v3)))) x5) (zPV fun σ6 => X 47 [some (.ref 63), some (.int v1), some (.int v2), some (.int (v3 + 1)), none, none] [] σ6))))))))))))))))))))))) (vp_in 207 (zN 64) ∧ (post (some (.int ((zSI σ 64 (Int32.toNatClampNeg 207) 1).1 63 14))) (zSI σ 64 (Int32.toNatClampNeg 207) 1))))) : X 47 [some (.ref 63), some (.int v1), some (.int v2), some (.int v3), none, none] [] σ := zSeq_ok hX zm_X12_control zo_X12_control_47 47 47 _ _ _ zk_X12_control_47 h
theorem ze_X12_control {d : Nat} {post : zPo} (p0 : Int32) (p1 : Int32) (σ : zS) (h : ∀ X : zX, zClosed none (zCall d) post nX12_control X → X 0 [some (.ref 63), some (.int p0), some (.int p1), none, none, none] [] σ) : zCall (d + 1) nX12_control [.ref 63, .int p0, .int p1] σ post := h
-- X12_counted(63,) depth 4
def zo_X12_counted_0 : List zOp := [(.aload_n 0, 1, 0, 0, 0, 0, 0, 0, 0, []), (.invokevirtual 149, 4, 139, 1, 0, 12, 1191, 0, 0, []), (.iload_n 1, 5, 1, 0, 0, 0, 0, 0, 0, []), (.iconst 1, 6, 0, 0, 0, 0, 0, 1, 0, []), (.if_icmp .ne 10, 9, 16, 0, 0, 0, 0, 0, 0, []), (.aload_n 0, 10, 0, 0, 0, 0, 0, 0, 0, []), (.getfield 63, 13, 12, 8, 1, 0, 1059, 0, 0, []), (.goto 7, 16, 20, 0, 0, 0, 0, 0, 0, []), (.aload_n 0, 17, 0, 0, 0, 0, 0, 0, 0, []), (.getfield 67, 20, 12, 9, 1, 0, 1060, 0, 0, []), (.ireturn, 21, 0, 0, 0, 0, 0, 0, 0, [])]
set_option maxRecDepth 100000 in
theorem zk_X12_counted_0 : zOks nX12_counted zo_X12_counted_0 0 = true := by decide +kernel
def zm_X12_counted : List (Nat × List Bool) := [(0, [true, true])]
set_option maxRecDepth 100000 in
set_option maxHeartbeats 4000000 in
theorem zr_X12_counted_0 {C : zCa} {post : zPo} {X : zX} (hX : zClosed none C post nX12_counted X) (p0 : Int32) (σ : zS) (h : C nX12_findsTypes [.ref 63] σ (zPV fun σ1 => zIf ((p0 : Int32) = 1) (post (some (.int (σ1.1 63 8))) σ1) (post (some (.int (σ1.1 63 9))) σ1))) : X 0 [some (.ref 63), some (.int p0)] [] σ := zSeq_ok hX zm_X12_counted zo_X12_counted_0 0 0 _ _ _ zk_X12_counted_0 h
theorem ze_X12_counted {d : Nat} {post : zPo} (p0 : Int32) (σ : zS) (h : ∀ X : zX, zClosed none (zCall d) post nX12_counted X → X 0 [some (.ref 63), some (.int p0)] [] σ) : zCall (d + 1) nX12_counted [.ref 63, .int p0] σ post := h
-- X12_count(63,) depth 5
def zo_X12_count_0 : List zOp := [(.iload_n 1, 1, 1, 0, 0, 0, 0, 0, 0, []), (.tableswitch 140 0 10 #[59, 66, 66, 72, 81, 90, 99, 108, 117, 126, 135], 60, 141, 0, 0, 0, 0, 0, 0, [(0, 60), (1, 67), (2, 67), (3, 73), (4, 82), (5, 91), (6, 100), (7, 109), (8, 118), (9, 127), (10, 136)]), (.aload_n 0, 61, 0, 0, 0, 0, 0, 0, 0, []), (.getfield 7, 64, 12, 0, 0, 0, 1051, 0, 0, []), (.iconst 0, 65, 0, 0, 0, 0, 0, 0, 0, []), (.iaload, 66, 0, 0, 0, 0, 0, 0, 0, []), (.ireturn, 67, 0, 0, 0, 0, 0, 0, 0, []), (.aload_n 0, 68, 0, 0, 0, 0, 0, 0, 0, []), (.iload_n 1, 69, 1, 0, 0, 0, 0, 0, 0, []), (.invokevirtual 230, 72, 208, 2, 1, 12, 1432, 0, 0, []), (.ireturn, 73, 0, 0, 0, 0, 0, 0, 0, []), (.aload_n 0, 74, 0, 0, 0, 0, 0, 0, 0, []), (.getfield 7, 77, 12, 0, 0, 0, 1051, 0, 0, []), (.sipush 207, 80, 0, 0, 0, 0, 0, 207, 0, []), (.iaload, 81, 0, 0, 0, 0, 0, 0, 0, []), (.ireturn, 82, 0, 0, 0, 0, 0, 0, 0, []), (.aload_n 0, 83, 0, 0, 0, 0, 0, 0, 0, []), (.getfield 7, 86, 12, 0, 0, 0, 1051, 0, 0, []), (.sipush 188, 89, 0, 0, 0, 0, 0, 188, 0, []), (.iaload, 90, 0, 0, 0, 0, 0, 0, 0, []), (.ireturn, 91, 0, 0, 0, 0, 0, 0, 0, []), (.aload_n 0, 92, 0, 0, 0, 0, 0, 0, 0, []), (.getfield 7, 95, 12, 0, 0, 0, 1051, 0, 0, []), (.sipush 181, 98, 0, 0, 0, 0, 0, 181, 0, []), (.iaload, 99, 0, 0, 0, 0, 0, 0, 0, []), (.ireturn, 100, 0, 0, 0, 0, 0, 0, 0, []), (.aload_n 0, 101, 0, 0, 0, 0, 0, 0, 0, []), (.getfield 7, 104, 12, 0, 0, 0, 1051, 0, 0, []), (.sipush 182, 107, 0, 0, 0, 0, 0, 182, 0, []), (.iaload, 108, 0, 0, 0, 0, 0, 0, 0, []), (.ireturn, 109, 0, 0, 0, 0, 0, 0, 0, []), (.aload_n 0, 110, 0, 0, 0, 0, 0, 0, 0, []), (.getfield 7, 113, 12, 0, 0, 0, 1051, 0, 0, []), (.sipush 185, 116, 0, 0, 0, 0, 0, 185, 0, []), (.iaload, 117, 0, 0, 0, 0, 0, 0, 0, []), (.ireturn, 118, 0, 0, 0, 0, 0, 0, 0, []), (.aload_n 0, 119, 0, 0, 0, 0, 0, 0, 0, []), (.getfield 7, 122, 12, 0, 0, 0, 1051, 0, 0, []), (.sipush 186, 125, 0, 0, 0, 0, 0, 186, 0, []), (.iaload, 126, 0, 0, 0, 0, 0, 0, 0, []), (.ireturn, 127, 0, 0, 0, 0, 0, 0, 0, []), (.aload_n 0, 128, 0, 0, 0, 0, 0, 0, 0, []), (.getfield 7, 131, 12, 0, 0, 0, 1051, 0, 0, []), (.sipush 187, 134, 0, 0, 0, 0, 0, 187, 0, []), (.iaload, 135, 0, 0, 0, 0, 0, 0, 0, []), (.ireturn, 136, 0, 0, 0, 0, 0, 0, 0, []), (.aload_n 0, 137, 0, 0, 0, 0, 0, 0, 0, []), (.getfield 118, 140, 12, 16, 1, 0, 1067, 0, 0, []), (.ireturn, 141, 0, 0, 0, 0, 0, 0, 0, []), (.bipush (-2), 143, 0, 0, 0, 0, 0, (-2), 0, []), (.ireturn, 144, 0, 0, 0, 0, 0, 0, 0, [])]
set_option maxRecDepth 100000 in
theorem zk_X12_count_0 : zOks nX12_count zo_X12_count_0 0 = true := by decide +kernel
def zm_X12_count : List (Nat × List Bool) := [(0, [true, true])]
set_option maxRecDepth 100000 in
set_option maxHeartbeats 4000000 in
theorem zr_X12_count_0 {C : zCa} {post : zPo} {X : zX} (hX : zClosed none C post nX12_count X) (p0 : Int32) (σ : zS) (h : ((p0 : Int32) = 0 → (vp_in 0 (zN 64) ∧ (post (some (.int (σ.1 64 (Int32.toNatClampNeg 0)))) σ))) ∧ (¬ (p0 : Int32) = 0 → ((p0 : Int32) = 1 → (C nX12_counted [.ref 63, .int p0] σ (zPI fun x2 σ1 => post (some (.int x2)) σ1))) ∧ (¬ (p0 : Int32) = 1 → ((p0 : Int32) = 2 → (C nX12_counted [.ref 63, .int p0] σ (zPI fun x4 σ3 => post (some (.int x4)) σ3))) ∧ (¬ (p0 : Int32) = 2 → ((p0 : Int32) = 3 → (vp_in 207 (zN 64) ∧ (post (some (.int (σ.1 64 (Int32.toNatClampNeg 207)))) σ))) ∧ (¬ (p0 : Int32) = 3 → ((p0 : Int32) = 4 → (vp_in 188 (zN 64) ∧ (post (some (.int (σ.1 64 (Int32.toNatClampNeg 188)))) σ))) ∧ (¬ (p0 : Int32) = 4 → ((p0 : Int32) = 5 → (vp_in 181 (zN 64) ∧ (post (some (.int (σ.1 64 (Int32.toNatClampNeg 181)))) σ))) ∧ (¬ (p0 : Int32) = 5 → ((p0 : Int32) = 6 → (vp_in 182 (zN 64) ∧ (post (some (.int (σ.1 64 (Int32.toNatClampNeg 182)))) σ))) ∧ (¬ (p0 : Int32) = 6 → ((p0 : Int32) = 7 → (vp_in 185 (zN 64) ∧ (post (some (.int (σ.1 64 (Int32.toNatClampNeg 185)))) σ))) ∧ (¬ (p0 : Int32) = 7 → ((p0 : Int32) = 8 → (vp_in 186 (zN 64) ∧ (post (some (.int (σ.1 64 (Int32.toNatClampNeg 186)))) σ))) ∧ (¬ (p0 : Int32) = 8 → ((p0 : Int32) = 9 → (vp_in 187 (zN 64) ∧ (post (some (.int (σ.1 64 (Int32.toNatClampNeg 187)))) σ))) ∧ (¬ (p0 : Int32) = 9 → ((p0 : Int32) = 10 → (post (some (.int (σ.1 63 16))) σ)) ∧ (¬ (p0 : Int32) = 10 → post (some (.int (-2))) σ)))))))))))) : X 0 [some (.ref 63), some (.int p0)] [] σ := zSeq_ok hX zm_X12_count zo_X12_count_0 0 0 _ _ _ zk_X12_count_0 h
theorem ze_X12_count {d : Nat} {post : zPo} (p0 : Int32) (σ : zS) (h : ∀ X : zX, zClosed none (zCall d) post nX12_count X → X 0 [some (.ref 63), some (.int p0)] [] σ) : zCall (d + 1) nX12_count [.ref 63, .int p0] σ post := h
-- X12_demand(63,) depth 4
def zo_X12_demand_0 : List zOp := [(.aload_n 0, 1, 0, 0, 0, 0, 0, 0, 0, []), (.iload_n 1, 2, 1, 0, 0, 0, 0, 0, 0, []), (.invokevirtual 115, 5, 135, 2, 1, 12, 1139, 0, 0, []), (.ifCond .eq 16, 8, 21, 0, 0, 0, 0, 0, 0, []), (.aload_n 0, 9, 0, 0, 0, 0, 0, 0, 0, []), (.iload_n 2, 10, 2, 0, 0, 0, 0, 0, 0, []), (.invokevirtual 115, 13, 135, 2, 1, 12, 1139, 0, 0, []), (.ifCond .eq 8, 16, 21, 0, 0, 0, 0, 0, 0, []), (.iload_n 2, 17, 2, 0, 0, 0, 0, 0, 0, []), (.iload_n 1, 18, 1, 0, 0, 0, 0, 0, 0, []), (.if_icmp .ge 6, 21, 24, 0, 0, 0, 0, 0, 0, []), (.bipush (-2), 23, 0, 0, 0, 0, 0, (-2), 0, []), (.ireturn, 24, 0, 0, 0, 0, 0, 0, 0, []), (.aload_n 0, 25, 0, 0, 0, 0, 0, 0, 0, []), (.getfield 7, 28, 12, 0, 0, 0, 1051, 0, 0, []), (.sipush 207, 31, 0, 0, 0, 0, 0, 207, 0, []), (.iaload, 32, 0, 0, 0, 0, 0, 0, 0, []), (.ifCond .ne 6, 35, 38, 0, 0, 0, 0, 0, 0, []), (.bipush (-3), 37, 0, 0, 0, 0, 0, (-3), 0, []), (.ireturn, 38, 0, 0, 0, 0, 0, 0, 0, []), (.aload_n 0, 39, 0, 0, 0, 0, 0, 0, 0, []), (.invokevirtual 149, 42, 139, 1, 0, 12, 1191, 0, 0, []), (.iconst 0, 43, 0, 0, 0, 0, 0, 0, 0, []), (.istore_n 3, 44, 3, 0, 0, 0, 0, 0, 0, []), (.iconst 0, 45, 0, 0, 0, 0, 0, 0, 0, []), (.istore 4, 47, 4, 0, 0, 0, 0, 0, 0, []), (.iload_n 1, 48, 1, 0, 0, 0, 0, 0, 0, []), (.istore 5, 50, 5, 0, 0, 0, 0, 0, 0, [])]
set_option maxRecDepth 100000 in
theorem zk_X12_demand_0 : zOks nX12_demand zo_X12_demand_0 0 = true := by decide +kernel
def zo_X12_demand_50 : List zOp := [(.iload 5, 52, 5, 0, 0, 0, 0, 0, 0, []), (.iload_n 2, 53, 2, 0, 0, 0, 0, 0, 0, []), (.if_icmp .gt 78, 56, 131, 0, 0, 0, 0, 0, 0, []), (.iload_n 3, 57, 3, 0, 0, 0, 0, 0, 0, []), (.aload_n 0, 58, 0, 0, 0, 0, 0, 0, 0, []), (.aload_n 0, 59, 0, 0, 0, 0, 0, 0, 0, []), (.getfield 31, 62, 12, 7, 0, 0, 1058, 0, 0, []), (.iload 5, 64, 5, 0, 0, 0, 0, 0, 0, []), (.iaload, 65, 0, 0, 0, 0, 0, 0, 0, []), (.aload_n 0, 66, 0, 0, 0, 0, 0, 0, 0, []), (.getfield 7, 69, 12, 0, 0, 0, 1051, 0, 0, []), (.sipush 208, 72, 0, 0, 0, 0, 0, 208, 0, []), (.aload_n 0, 73, 0, 0, 0, 0, 0, 0, 0, []), (.getfield 31, 76, 12, 7, 0, 0, 1058, 0, 0, []), (.iload 5, 78, 5, 0, 0, 0, 0, 0, 0, []), (.iaload, 79, 0, 0, 0, 0, 0, 0, 0, []), (.iadd, 80, 0, 0, 0, 0, 0, 0, 0, []), (.iaload, 81, 0, 0, 0, 0, 0, 0, 0, []), (.invokevirtual 94, 84, 142, 3, 1, 12, 1253, 0, 0, []), (.iadd, 85, 0, 0, 0, 0, 0, 0, 0, []), (.istore_n 3, 86, 3, 0, 0, 0, 0, 0, 0, []), (.iload_n 3, 87, 3, 0, 0, 0, 0, 0, 0, []), (.aload_n 0, 88, 0, 0, 0, 0, 0, 0, 0, []), (.getfield 7, 91, 12, 0, 0, 0, 1051, 0, 0, []), (.sipush 187, 94, 0, 0, 0, 0, 0, 187, 0, []), (.iaload, 95, 0, 0, 0, 0, 0, 0, 0, []), (.iload 5, 97, 5, 0, 0, 0, 0, 0, 0, []), (.iload_n 1, 98, 1, 0, 0, 0, 0, 0, 0, []), (.isub, 99, 0, 0, 0, 0, 0, 0, 0, []), (.imul, 100, 0, 0, 0, 0, 0, 0, 0, []), (.isub, 101, 0, 0, 0, 0, 0, 0, 0, []), (.istore 6, 103, 6, 0, 0, 0, 0, 0, 0, []), (.iload 5, 105, 5, 0, 0, 0, 0, 0, 0, []), (.iload_n 1, 106, 1, 0, 0, 0, 0, 0, 0, []), (.if_icmp .eq 10, 109, 116, 0, 0, 0, 0, 0, 0, []), (.iload 6, 111, 6, 0, 0, 0, 0, 0, 0, []), (.iload 4, 113, 4, 0, 0, 0, 0, 0, 0, []), (.if_icmp .le 8, 116, 121, 0, 0, 0, 0, 0, 0, []), (.iload 6, 118, 6, 0, 0, 0, 0, 0, 0, []), (.goto 5, 121, 123, 0, 0, 0, 0, 0, 0, []), (.iload 4, 123, 4, 0, 0, 0, 0, 0, 0, []), (.istore 4, 125, 4, 0, 0, 0, 0, 0, 0, []), (.iinc 5 1, 128, 5, 0, 0, 0, 0, 1, 0, []), (.goto (-78), 131, 50, 0, 0, 0, 0, 0, 0, []), (.iload 4, 133, 4, 0, 0, 0, 0, 0, 0, []), (.ireturn, 134, 0, 0, 0, 0, 0, 0, 0, [])]
set_option maxRecDepth 100000 in
theorem zk_X12_demand_50 : zOks nX12_demand zo_X12_demand_50 50 = true := by decide +kernel
def zm_X12_demand : List (Nat × List Bool) := [(0, [true, true, true, false, false, false, false]), (50, [true, true, true, true, true, true, false])]
set_option maxRecDepth 100000 in
set_option maxHeartbeats 4000000 in
theorem zr_X12_demand_0 {C : zCa} {post : zPo} {X : zX} (hX : zClosed none C post nX12_demand X) (p0 : Int32) (p1 : Int32) (σ : zS) (h : C nX12_isFrame [.ref 63, .int p0] σ (zPI fun x2 σ1 => zIf ((x2 : Int32) = 0) (post (some (.int (-2))) σ1) (C nX12_isFrame [.ref 63, .int p1] σ1 (zPI fun x4 σ3 => zIf ((x4 : Int32) = 0) (post (some (.int (-2))) σ3) (zIf ((p1 : Int32) < p0) (post (some (.int (-2))) σ3) (vp_in 207 (zN 64) ∧ (zIf ((σ3.1 64 (Int32.toNatClampNeg 207) : Int32) = 0) (post (some (.int (-3))) σ3) (C nX12_findsTypes [.ref 63] σ3 (zPV fun σ5 => X 50 [some (.ref 63), some (.int p0), some (.int p1), some (.int 0), some (.int 0), some (.int p0), none] [] σ5))))))))) : X 0 [some (.ref 63), some (.int p0), some (.int p1), none, none, none, none] [] σ := zSeq_ok hX zm_X12_demand zo_X12_demand_0 0 0 _ _ _ zk_X12_demand_0 h
set_option maxRecDepth 100000 in
set_option maxHeartbeats 4000000 in
theorem zr_X12_demand_50 {C : zCa} {post : zPo} {X : zX} (hX : zClosed none C post nX12_demand X) (v1 : Int32) (v2 : Int32) (v3 : Int32) (v4 : Int32) (v5 : Int32) (σ : zS) (h : zIf ((v5 : Int32) ≤ v2) (vp_in v5 (zN 71) ∧ (vp_in v5 (zN 71) ∧ (vp_in (208 + (σ.1 71 (Int32.toNatClampNeg v5))) (zN 64) ∧ (C nX12_bits [.ref 63, .int (σ.1 71 (Int32.toNatClampNeg v5)), .int (σ.1 64 (Int32.toNatClampNeg (208 + (σ.1 71 (Int32.toNatClampNeg v5)))))] σ (zPI fun x2 σ1 => vp_in 187 (zN 64) ∧ (zIf ((v5 : Int32) = v1) (X 50 [some (.ref 63), some (.int v1), some (.int v2), some (.int (v3 + x2)), some (.int ((v3 + x2) - ((σ1.1 64 (Int32.toNatClampNeg 187)) * (v5 - v1)))), some (.int (v5 + 1)), none] [] σ1) (zIf (((v3 + x2) - ((σ1.1 64 (Int32.toNatClampNeg 187)) * (v5 - v1)) : Int32) ≤ v4) (X 50 [some (.ref 63), some (.int v1), some (.int v2), some (.int (v3 + x2)), some (.int v4), some (.int (v5 + 1)), none] [] σ1) (X 50 [some (.ref 63), some (.int v1), some (.int v2), some (.int (v3 + x2)), some (.int ((v3 + x2) - ((σ1.1 64 (Int32.toNatClampNeg 187)) * (v5 - v1)))), some (.int (v5 + 1)), none] [] σ1)))))))) (post (some (.int v4)) σ)) : X 50 [some (.ref 63), some (.int v1), some (.int v2), some (.int v3), some (.int v4), some (.int v5), none] [] σ := zSeq_ok hX zm_X12_demand zo_X12_demand_50 50 50 _ _ _ zk_X12_demand_50 h
theorem ze_X12_demand {d : Nat} {post : zPo} (p0 : Int32) (p1 : Int32) (σ : zS) (h : ∀ X : zX, zClosed none (zCall d) post nX12_demand X → X 0 [some (.ref 63), some (.int p0), some (.int p1), none, none, none, none] [] σ) : zCall (d + 1) nX12_demand [.ref 63, .int p0, .int p1] σ post := h
-- X12_frame(63,) depth 4
def zo_X12_frame_0 : List zOp := [(.aload_n 0, 1, 0, 0, 0, 0, 0, 0, 0, []), (.iload_n 1, 2, 1, 0, 0, 0, 0, 0, 0, []), (.invokevirtual 115, 5, 135, 2, 1, 12, 1139, 0, 0, []), (.ifCond .ne 6, 8, 11, 0, 0, 0, 0, 0, 0, []), (.bipush (-2), 10, 0, 0, 0, 0, 0, (-2), 0, []), (.ireturn, 11, 0, 0, 0, 0, 0, 0, 0, []), (.aload_n 0, 12, 0, 0, 0, 0, 0, 0, 0, []), (.invokevirtual 149, 15, 139, 1, 0, 12, 1191, 0, 0, []), (.iload_n 2, 16, 2, 0, 0, 0, 0, 0, 0, []), (.tableswitch 112 0 7 #[48, 57, 67, 74, 81, 88, 94, 101], 64, 128, 0, 0, 0, 0, 0, 0, [(0, 64), (1, 73), (2, 83), (3, 90), (4, 97), (5, 104), (6, 110), (7, 117)]), (.aload_n 0, 65, 0, 0, 0, 0, 0, 0, 0, []), (.getfield 7, 68, 12, 0, 0, 0, 1051, 0, 0, []), (.iconst 1, 69, 0, 0, 0, 0, 0, 1, 0, []), (.iload_n 1, 70, 1, 0, 0, 0, 0, 0, 0, []), (.iadd, 71, 0, 0, 0, 0, 0, 0, 0, []), (.iaload, 72, 0, 0, 0, 0, 0, 0, 0, []), (.ireturn, 73, 0, 0, 0, 0, 0, 0, 0, []), (.aload_n 0, 74, 0, 0, 0, 0, 0, 0, 0, []), (.getfield 7, 77, 12, 0, 0, 0, 1051, 0, 0, []), (.bipush 61, 79, 0, 0, 0, 0, 0, 61, 0, []), (.iload_n 1, 80, 1, 0, 0, 0, 0, 0, 0, []), (.iadd, 81, 0, 0, 0, 0, 0, 0, 0, []), (.iaload, 82, 0, 0, 0, 0, 0, 0, 0, []), (.ireturn, 83, 0, 0, 0, 0, 0, 0, 0, []), (.aload_n 0, 84, 0, 0, 0, 0, 0, 0, 0, []), (.getfield 19, 87, 12, 3, 0, 0, 1054, 0, 0, []), (.iload_n 1, 88, 1, 0, 0, 0, 0, 0, 0, []), (.iaload, 89, 0, 0, 0, 0, 0, 0, 0, []), (.ireturn, 90, 0, 0, 0, 0, 0, 0, 0, []), (.aload_n 0, 91, 0, 0, 0, 0, 0, 0, 0, []), (.getfield 22, 94, 12, 4, 0, 0, 1055, 0, 0, []), (.iload_n 1, 95, 1, 0, 0, 0, 0, 0, 0, []), (.iaload, 96, 0, 0, 0, 0, 0, 0, 0, []), (.ireturn, 97, 0, 0, 0, 0, 0, 0, 0, []), (.aload_n 0, 98, 0, 0, 0, 0, 0, 0, 0, []), (.getfield 28, 101, 12, 6, 0, 0, 1057, 0, 0, []), (.iload_n 1, 102, 1, 0, 0, 0, 0, 0, 0, []), (.iaload, 103, 0, 0, 0, 0, 0, 0, 0, []), (.ireturn, 104, 0, 0, 0, 0, 0, 0, 0, []), (.aload_n 0, 105, 0, 0, 0, 0, 0, 0, 0, []), (.iload_n 1, 106, 1, 0, 0, 0, 0, 0, 0, []), (.invokevirtual 81, 109, 141, 2, 1, 12, 1203, 0, 0, []), (.ireturn, 110, 0, 0, 0, 0, 0, 0, 0, []), (.aload_n 0, 111, 0, 0, 0, 0, 0, 0, 0, []), (.getfield 25, 114, 12, 5, 0, 0, 1056, 0, 0, []), (.iload_n 1, 115, 1, 0, 0, 0, 0, 0, 0, []), (.iaload, 116, 0, 0, 0, 0, 0, 0, 0, []), (.ireturn, 117, 0, 0, 0, 0, 0, 0, 0, []), (.aload_n 0, 118, 0, 0, 0, 0, 0, 0, 0, []), (.aload_n 0, 119, 0, 0, 0, 0, 0, 0, 0, []), (.getfield 25, 122, 12, 5, 0, 0, 1056, 0, 0, []), (.iload_n 1, 123, 1, 0, 0, 0, 0, 0, 0, []), (.iaload, 124, 0, 0, 0, 0, 0, 0, 0, []), (.invokevirtual 77, 127, 138, 2, 1, 12, 1199, 0, 0, []), (.ireturn, 128, 0, 0, 0, 0, 0, 0, 0, []), (.bipush (-2), 130, 0, 0, 0, 0, 0, (-2), 0, []), (.ireturn, 131, 0, 0, 0, 0, 0, 0, 0, [])]
set_option maxRecDepth 100000 in
theorem zk_X12_frame_0 : zOks nX12_frame zo_X12_frame_0 0 = true := by decide +kernel
def zm_X12_frame : List (Nat × List Bool) := [(0, [true, true, true])]
set_option maxRecDepth 100000 in
set_option maxHeartbeats 4000000 in
theorem zr_X12_frame_0 {C : zCa} {post : zPo} {X : zX} (hX : zClosed none C post nX12_frame X) (p0 : Int32) (p1 : Int32) (σ : zS) (h : C nX12_isFrame [.ref 63, .int p0] σ (zPI fun x2 σ1 => zIf ((x2 : Int32) = 0) (post (some (.int (-2))) σ1) (C nX12_findsTypes [.ref 63] σ1 (zPV fun σ3 => ((p1 : Int32) = 0 → (vp_in (1 + p0) (zN 64) ∧ (post (some (.int (σ3.1 64 (Int32.toNatClampNeg (1 + p0))))) σ3))) ∧ (¬ (p1 : Int32) = 0 → ((p1 : Int32) = 1 → (vp_in (61 + p0) (zN 64) ∧ (post (some (.int (σ3.1 64 (Int32.toNatClampNeg (61 + p0))))) σ3))) ∧ (¬ (p1 : Int32) = 1 → ((p1 : Int32) = 2 → (vp_in p0 (zN 67) ∧ (post (some (.int (σ3.1 67 (Int32.toNatClampNeg p0)))) σ3))) ∧ (¬ (p1 : Int32) = 2 → ((p1 : Int32) = 3 → (vp_in p0 (zN 68) ∧ (post (some (.int (σ3.1 68 (Int32.toNatClampNeg p0)))) σ3))) ∧ (¬ (p1 : Int32) = 3 → ((p1 : Int32) = 4 → (vp_in p0 (zN 70) ∧ (post (some (.int (σ3.1 70 (Int32.toNatClampNeg p0)))) σ3))) ∧ (¬ (p1 : Int32) = 4 → ((p1 : Int32) = 5 → (C nX12_work [.ref 63, .int p0] σ3 (zPI fun x5 σ4 => post (some (.int x5)) σ4))) ∧ (¬ (p1 : Int32) = 5 → ((p1 : Int32) = 6 → (vp_in p0 (zN 69) ∧ (post (some (.int (σ3.1 69 (Int32.toNatClampNeg p0)))) σ3))) ∧ (¬ (p1 : Int32) = 6 → ((p1 : Int32) = 7 → (vp_in p0 (zN 69) ∧ (C nX12_groupSize [.ref 63, .int (σ3.1 69 (Int32.toNatClampNeg p0))] σ3 (zPI fun x7 σ6 => post (some (.int x7)) σ6)))) ∧ (¬ (p1 : Int32) = 7 → post (some (.int (-2))) σ3)))))))))))) : X 0 [some (.ref 63), some (.int p0), some (.int p1)] [] σ := zSeq_ok hX zm_X12_frame zo_X12_frame_0 0 0 _ _ _ zk_X12_frame_0 h
theorem ze_X12_frame {d : Nat} {post : zPo} (p0 : Int32) (p1 : Int32) (σ : zS) (h : ∀ X : zX, zClosed none (zCall d) post nX12_frame X → X 0 [some (.ref 63), some (.int p0), some (.int p1)] [] σ) : zCall (d + 1) nX12_frame [.ref 63, .int p0, .int p1] σ post := h
-- X12_mixes(63,) depth 1
def zo_X12_mixes_0 : List zOp := [(.aload_n 0, 1, 0, 0, 0, 0, 0, 0, 0, []), (.ldc2_w 233, 4, 0, 0, 0, 0, 1446, 0, 31, []), (.aload_n 0, 5, 0, 0, 0, 0, 0, 0, 0, []), (.getfield 235, 8, 12, 23, 3, 0, 1074, 0, 0, []), (.lmul, 9, 0, 0, 0, 0, 0, 0, 0, []), (.lload_n 1, 10, 1, 0, 0, 0, 0, 0, 0, []), (.ladd, 11, 0, 0, 0, 0, 0, 0, 0, []), (.putfield 235, 14, 12, 23, 3, 0, 1074, 0, 0, []), (.return_, 15, 0, 0, 0, 0, 0, 0, 0, [])]
set_option maxRecDepth 100000 in
theorem zk_X12_mixes_0 : zOks nX12_mixes zo_X12_mixes_0 0 = true := by decide +kernel
def zm_X12_mixes : List (Nat × List Bool) := [(0, [true, true, false])]
set_option maxRecDepth 100000 in
set_option maxHeartbeats 4000000 in
theorem zr_X12_mixes_0 {C : zCa} {post : zPo} {X : zX} (hX : zClosed none C post nX12_mixes X) (p0 : Int64) (σ : zS) (h : post none (zSJ σ 63 23 ((31 * (σ.2 63 23)) + p0))) : X 0 [some (.ref 63), some (.long p0), none] [] σ := zSeq_ok hX zm_X12_mixes zo_X12_mixes_0 0 0 _ _ _ zk_X12_mixes_0 h
theorem ze_X12_mixes {d : Nat} {post : zPo} (p0 : Int64) (σ : zS) (h : ∀ X : zX, zClosed none (zCall d) post nX12_mixes X → X 0 [some (.ref 63), some (.long p0), none] [] σ) : zCall (d + 1) nX12_mixes [.ref 63, .long p0] σ post := h
-- X12_part(63,) depth 3
def zo_X12_part_0 : List zOp := [(.aload_n 0, 1, 0, 0, 0, 0, 0, 0, 0, []), (.getfield 7, 4, 12, 0, 0, 0, 1051, 0, 0, []), (.sipush 208, 7, 0, 0, 0, 0, 0, 208, 0, []), (.iload_n 1, 8, 1, 0, 0, 0, 0, 0, 0, []), (.iadd, 9, 0, 0, 0, 0, 0, 0, 0, []), (.iaload, 10, 0, 0, 0, 0, 0, 0, 0, []), (.istore_n 3, 11, 3, 0, 0, 0, 0, 0, 0, []), (.aload_n 0, 12, 0, 0, 0, 0, 0, 0, 0, []), (.getfield 28, 15, 12, 6, 0, 0, 1057, 0, 0, []), (.iload_n 1, 16, 1, 0, 0, 0, 0, 0, 0, []), (.iaload, 17, 0, 0, 0, 0, 0, 0, 0, []), (.istore 4, 19, 4, 0, 0, 0, 0, 0, 0, []), (.iload_n 2, 20, 2, 0, 0, 0, 0, 0, 0, []), (.tableswitch 80 0 5 #[40, 42, 49, 56, 64, 72], 60, 100, 0, 0, 0, 0, 0, 0, [(0, 60), (1, 62), (2, 69), (3, 76), (4, 84), (5, 92)]), (.iload_n 3, 61, 3, 0, 0, 0, 0, 0, 0, []), (.ireturn, 62, 0, 0, 0, 0, 0, 0, 0, []), (.aload_n 0, 63, 0, 0, 0, 0, 0, 0, 0, []), (.iload_n 1, 64, 1, 0, 0, 0, 0, 0, 0, []), (.iload_n 3, 65, 3, 0, 0, 0, 0, 0, 0, []), (.invokevirtual 94, 68, 142, 3, 1, 12, 1253, 0, 0, []), (.ireturn, 69, 0, 0, 0, 0, 0, 0, 0, []), (.aload_n 0, 70, 0, 0, 0, 0, 0, 0, 0, []), (.iload_n 1, 71, 1, 0, 0, 0, 0, 0, 0, []), (.iload_n 3, 72, 3, 0, 0, 0, 0, 0, 0, []), (.invokevirtual 157, 75, 144, 3, 1, 12, 1264, 0, 0, []), (.ireturn, 76, 0, 0, 0, 0, 0, 0, 0, []), (.aload_n 0, 77, 0, 0, 0, 0, 0, 0, 0, []), (.getfield 34, 80, 12, 10, 0, 0, 1061, 0, 0, []), (.iload 4, 82, 4, 0, 0, 0, 0, 0, 0, []), (.iaload, 83, 0, 0, 0, 0, 0, 0, 0, []), (.ireturn, 84, 0, 0, 0, 0, 0, 0, 0, []), (.aload_n 0, 85, 0, 0, 0, 0, 0, 0, 0, []), (.getfield 37, 88, 12, 11, 0, 0, 1062, 0, 0, []), (.iload 4, 90, 4, 0, 0, 0, 0, 0, 0, []), (.iaload, 91, 0, 0, 0, 0, 0, 0, 0, []), (.ireturn, 92, 0, 0, 0, 0, 0, 0, 0, []), (.aload_n 0, 93, 0, 0, 0, 0, 0, 0, 0, []), (.getfield 40, 96, 12, 12, 0, 0, 1063, 0, 0, []), (.iload 4, 98, 4, 0, 0, 0, 0, 0, 0, []), (.iaload, 99, 0, 0, 0, 0, 0, 0, 0, []), (.ireturn, 100, 0, 0, 0, 0, 0, 0, 0, []), (.aload_n 0, 101, 0, 0, 0, 0, 0, 0, 0, []), (.getfield 43, 104, 12, 13, 0, 0, 1064, 0, 0, []), (.iload 4, 106, 4, 0, 0, 0, 0, 0, 0, []), (.iaload, 107, 0, 0, 0, 0, 0, 0, 0, []), (.ireturn, 108, 0, 0, 0, 0, 0, 0, 0, [])]
set_option maxRecDepth 100000 in
theorem zk_X12_part_0 : zOks nX12_part zo_X12_part_0 0 = true := by decide +kernel
def zm_X12_part : List (Nat × List Bool) := [(0, [true, true, true, false, false])]
set_option maxRecDepth 100000 in
set_option maxHeartbeats 4000000 in
theorem zr_X12_part_0 {C : zCa} {post : zPo} {X : zX} (hX : zClosed none C post nX12_part X) (p0 : Int32) (p1 : Int32) (σ : zS) (h : vp_in (208 + p0) (zN 64) ∧ (vp_in p0 (zN 70) ∧ (((p1 : Int32) = 0 → (post (some (.int (σ.1 64 (Int32.toNatClampNeg (208 + p0))))) σ)) ∧ (¬ (p1 : Int32) = 0 → ((p1 : Int32) = 1 → (C nX12_bits [.ref 63, .int p0, .int (σ.1 64 (Int32.toNatClampNeg (208 + p0)))] σ (zPI fun x2 σ1 => post (some (.int x2)) σ1))) ∧ (¬ (p1 : Int32) = 1 → ((p1 : Int32) = 2 → (C nX12_loss [.ref 63, .int p0, .int (σ.1 64 (Int32.toNatClampNeg (208 + p0)))] σ (zPI fun x4 σ3 => post (some (.int x4)) σ3))) ∧ (¬ (p1 : Int32) = 2 → ((p1 : Int32) = 3 → (vp_in (σ.1 70 (Int32.toNatClampNeg p0)) (zN 72) ∧ (post (some (.int (σ.1 72 (Int32.toNatClampNeg (σ.1 70 (Int32.toNatClampNeg p0)))))) σ))) ∧ (¬ (p1 : Int32) = 3 → ((p1 : Int32) = 4 → (vp_in (σ.1 70 (Int32.toNatClampNeg p0)) (zN 73) ∧ (post (some (.int (σ.1 73 (Int32.toNatClampNeg (σ.1 70 (Int32.toNatClampNeg p0)))))) σ))) ∧ (¬ (p1 : Int32) = 4 → ((p1 : Int32) = 5 → (vp_in (σ.1 70 (Int32.toNatClampNeg p0)) (zN 74) ∧ (post (some (.int (σ.1 74 (Int32.toNatClampNeg (σ.1 70 (Int32.toNatClampNeg p0)))))) σ))) ∧ (¬ (p1 : Int32) = 5 → vp_in (σ.1 70 (Int32.toNatClampNeg p0)) (zN 75) ∧ (post (some (.int (σ.1 75 (Int32.toNatClampNeg (σ.1 70 (Int32.toNatClampNeg p0)))))) σ)))))))))) : X 0 [some (.ref 63), some (.int p0), some (.int p1), none, none] [] σ := zSeq_ok hX zm_X12_part zo_X12_part_0 0 0 _ _ _ zk_X12_part_0 h
theorem ze_X12_part {d : Nat} {post : zPo} (p0 : Int32) (p1 : Int32) (σ : zS) (h : ∀ X : zX, zClosed none (zCall d) post nX12_part X → X 0 [some (.ref 63), some (.int p0), some (.int p1), none, none] [] σ) : zCall (d + 1) nX12_part [.ref 63, .int p0, .int p1] σ post := h
-- X12_planned(63,) depth 6
def zo_X12_planned_0 : List zOp := [(.aload_n 0, 1, 0, 0, 0, 0, 0, 0, 0, []), (.iload_n 1, 2, 1, 0, 0, 0, 0, 0, 0, []), (.invokevirtual 115, 5, 135, 2, 1, 12, 1139, 0, 0, []), (.ifCond .eq 13, 8, 18, 0, 0, 0, 0, 0, 0, []), (.iload_n 2, 9, 2, 0, 0, 0, 0, 0, 0, []), (.iconst 0, 10, 0, 0, 0, 0, 0, 0, 0, []), (.bipush 6, 12, 0, 0, 0, 0, 0, 6, 0, []), (.invokestatic 59, 15, 133, 3, 1, 0, 1128, 0, 0, []), (.ifCond .ne 6, 18, 21, 0, 0, 0, 0, 0, 0, []), (.bipush (-2), 20, 0, 0, 0, 0, 0, (-2), 0, []), (.ireturn, 21, 0, 0, 0, 0, 0, 0, 0, []), (.aload_n 0, 22, 0, 0, 0, 0, 0, 0, 0, []), (.getfield 7, 25, 12, 0, 0, 0, 1051, 0, 0, []), (.sipush 207, 28, 0, 0, 0, 0, 0, 207, 0, []), (.iaload, 29, 0, 0, 0, 0, 0, 0, 0, []), (.ifCond .ne 6, 32, 35, 0, 0, 0, 0, 0, 0, []), (.bipush (-3), 34, 0, 0, 0, 0, 0, (-3), 0, []), (.ireturn, 35, 0, 0, 0, 0, 0, 0, 0, []), (.aload_n 0, 36, 0, 0, 0, 0, 0, 0, 0, []), (.invokevirtual 149, 39, 139, 1, 0, 12, 1191, 0, 0, []), (.aload_n 0, 40, 0, 0, 0, 0, 0, 0, 0, []), (.invokevirtual 109, 43, 148, 1, 0, 12, 1294, 0, 0, []), (.aload_n 0, 44, 0, 0, 0, 0, 0, 0, 0, []), (.iload_n 1, 45, 1, 0, 0, 0, 0, 0, 0, []), (.iload_n 2, 46, 2, 0, 0, 0, 0, 0, 0, []), (.invokevirtual 213, 49, 194, 3, 1, 12, 1374, 0, 0, []), (.ireturn, 50, 0, 0, 0, 0, 0, 0, 0, [])]
set_option maxRecDepth 100000 in
theorem zk_X12_planned_0 : zOks nX12_planned zo_X12_planned_0 0 = true := by decide +kernel
def zm_X12_planned : List (Nat × List Bool) := [(0, [true, true, true])]
set_option maxRecDepth 100000 in
set_option maxHeartbeats 4000000 in
theorem zr_X12_planned_0 {C : zCa} {post : zPo} {X : zX} (hX : zClosed none C post nX12_planned X) (p0 : Int32) (p1 : Int32) (σ : zS) (h : C nX12_isFrame [.ref 63, .int p0] σ (zPI fun x2 σ1 => zIf ((x2 : Int32) = 0) (post (some (.int (-2))) σ1) (C nX12_in [.int p1, .int 0, .int 6] σ1 (zPI fun x4 σ3 => zIf ((x4 : Int32) = 0) (post (some (.int (-2))) σ3) (vp_in 207 (zN 64) ∧ (zIf ((σ3.1 64 (Int32.toNatClampNeg 207) : Int32) = 0) (post (some (.int (-3))) σ3) (C nX12_findsTypes [.ref 63] σ3 (zPV fun σ5 => C nX12_runsAsSet [.ref 63] σ5 (zPV fun σ6 => C nX12_part [.ref 63, .int p0, .int p1] σ6 (zPI fun x8 σ7 => post (some (.int x8)) σ7)))))))))) : X 0 [some (.ref 63), some (.int p0), some (.int p1)] [] σ := zSeq_ok hX zm_X12_planned zo_X12_planned_0 0 0 _ _ _ zk_X12_planned_0 h
theorem ze_X12_planned {d : Nat} {post : zPo} (p0 : Int32) (p1 : Int32) (σ : zS) (h : ∀ X : zX, zClosed none (zCall d) post nX12_planned X → X 0 [some (.ref 63), some (.int p0), some (.int p1)] [] σ) : zCall (d + 1) nX12_planned [.ref 63, .int p0, .int p1] σ post := h
-- X12_scene(63,) depth 4
def zo_X12_scene_0 : List zOp := [(.aload_n 0, 1, 0, 0, 0, 0, 0, 0, 0, []), (.invokevirtual 149, 4, 139, 1, 0, 12, 1191, 0, 0, []), (.iload_n 1, 5, 1, 0, 0, 0, 0, 0, 0, []), (.iconst 0, 6, 0, 0, 0, 0, 0, 0, 0, []), (.aload_n 0, 7, 0, 0, 0, 0, 0, 0, 0, []), (.getfield 63, 10, 12, 8, 1, 0, 1059, 0, 0, []), (.iconst 1, 11, 0, 0, 0, 0, 0, 1, 0, []), (.isub, 12, 0, 0, 0, 0, 0, 0, 0, []), (.invokestatic 59, 15, 133, 3, 1, 0, 1128, 0, 0, []), (.ifCond .eq 12, 18, 27, 0, 0, 0, 0, 0, 0, []), (.iload_n 2, 19, 2, 0, 0, 0, 0, 0, 0, []), (.iconst 0, 20, 0, 0, 0, 0, 0, 0, 0, []), (.iconst 5, 21, 0, 0, 0, 0, 0, 5, 0, []), (.invokestatic 59, 24, 133, 3, 1, 0, 1128, 0, 0, []), (.ifCond .ne 6, 27, 30, 0, 0, 0, 0, 0, 0, []), (.bipush (-2), 29, 0, 0, 0, 0, 0, (-2), 0, []), (.ireturn, 30, 0, 0, 0, 0, 0, 0, 0, []), (.aload_n 0, 31, 0, 0, 0, 0, 0, 0, 0, []), (.getfield 7, 34, 12, 0, 0, 0, 1051, 0, 0, []), (.sipush 207, 37, 0, 0, 0, 0, 0, 207, 0, []), (.iaload, 38, 0, 0, 0, 0, 0, 0, 0, []), (.ifCond .ne 16, 41, 54, 0, 0, 0, 0, 0, 0, []), (.iload_n 2, 42, 2, 0, 0, 0, 0, 0, 0, []), (.iconst 3, 43, 0, 0, 0, 0, 0, 3, 0, []), (.if_icmp .eq 8, 46, 51, 0, 0, 0, 0, 0, 0, []), (.iload_n 2, 47, 2, 0, 0, 0, 0, 0, 0, []), (.iconst 4, 48, 0, 0, 0, 0, 0, 4, 0, []), (.if_icmp .ne 6, 51, 54, 0, 0, 0, 0, 0, 0, []), (.bipush (-3), 53, 0, 0, 0, 0, 0, (-3), 0, []), (.ireturn, 54, 0, 0, 0, 0, 0, 0, 0, []), (.iconst (-1), 55, 0, 0, 0, 0, 0, (-1), 0, []), (.istore_n 3, 56, 3, 0, 0, 0, 0, 0, 0, []), (.iconst 0, 57, 0, 0, 0, 0, 0, 0, 0, []), (.istore 4, 59, 4, 0, 0, 0, 0, 0, 0, []), (.iconst 0, 60, 0, 0, 0, 0, 0, 0, 0, []), (.istore 5, 62, 5, 0, 0, 0, 0, 0, 0, []), (.iconst 0, 63, 0, 0, 0, 0, 0, 0, 0, []), (.istore 6, 65, 6, 0, 0, 0, 0, 0, 0, []), (.iconst 0, 66, 0, 0, 0, 0, 0, 0, 0, []), (.istore 7, 68, 7, 0, 0, 0, 0, 0, 0, []), (.iconst 0, 69, 0, 0, 0, 0, 0, 0, 0, []), (.istore 8, 71, 8, 0, 0, 0, 0, 0, 0, [])]
set_option maxRecDepth 100000 in
theorem zk_X12_scene_0 : zOks nX12_scene zo_X12_scene_0 0 = true := by decide +kernel
def zo_X12_scene_71 : List zOp := [(.iload 8, 73, 8, 0, 0, 0, 0, 0, 0, []), (.aload_n 0, 74, 0, 0, 0, 0, 0, 0, 0, []), (.getfield 7, 77, 12, 0, 0, 0, 1051, 0, 0, []), (.iconst 0, 78, 0, 0, 0, 0, 0, 0, 0, []), (.iaload, 79, 0, 0, 0, 0, 0, 0, 0, []), (.if_icmp .ge 93, 82, 172, 0, 0, 0, 0, 0, 0, []), (.aload_n 0, 83, 0, 0, 0, 0, 0, 0, 0, []), (.getfield 22, 86, 12, 4, 0, 0, 1055, 0, 0, []), (.iload 8, 88, 8, 0, 0, 0, 0, 0, 0, []), (.iaload, 89, 0, 0, 0, 0, 0, 0, 0, []), (.iload_n 1, 90, 1, 0, 0, 0, 0, 0, 0, []), (.if_icmp .ne 76, 93, 166, 0, 0, 0, 0, 0, 0, []), (.iload_n 3, 94, 3, 0, 0, 0, 0, 0, 0, []), (.iconst (-1), 95, 0, 0, 0, 0, 0, (-1), 0, []), (.if_icmp .ne 8, 98, 103, 0, 0, 0, 0, 0, 0, []), (.iload 8, 100, 8, 0, 0, 0, 0, 0, 0, []), (.goto 4, 103, 104, 0, 0, 0, 0, 0, 0, []), (.iload_n 3, 104, 3, 0, 0, 0, 0, 0, 0, []), (.istore_n 3, 105, 3, 0, 0, 0, 0, 0, 0, []), (.iinc 4 1, 108, 4, 0, 0, 0, 0, 1, 0, []), (.iload 5, 110, 5, 0, 0, 0, 0, 0, 0, []), (.aload_n 0, 111, 0, 0, 0, 0, 0, 0, 0, []), (.iload 8, 113, 8, 0, 0, 0, 0, 0, 0, []), (.aload_n 0, 114, 0, 0, 0, 0, 0, 0, 0, []), (.getfield 7, 117, 12, 0, 0, 0, 1051, 0, 0, []), (.sipush 208, 120, 0, 0, 0, 0, 0, 208, 0, []), (.iload 8, 122, 8, 0, 0, 0, 0, 0, 0, []), (.iadd, 123, 0, 0, 0, 0, 0, 0, 0, []), (.iaload, 124, 0, 0, 0, 0, 0, 0, 0, []), (.invokevirtual 94, 127, 142, 3, 1, 12, 1253, 0, 0, []), (.iadd, 128, 0, 0, 0, 0, 0, 0, 0, []), (.istore 5, 130, 5, 0, 0, 0, 0, 0, 0, []), (.iload 6, 132, 6, 0, 0, 0, 0, 0, 0, []), (.aload_n 0, 133, 0, 0, 0, 0, 0, 0, 0, []), (.getfield 7, 136, 12, 0, 0, 0, 1051, 0, 0, []), (.sipush 208, 139, 0, 0, 0, 0, 0, 208, 0, []), (.iload 8, 141, 8, 0, 0, 0, 0, 0, 0, []), (.iadd, 142, 0, 0, 0, 0, 0, 0, 0, []), (.iaload, 143, 0, 0, 0, 0, 0, 0, 0, []), (.iadd, 144, 0, 0, 0, 0, 0, 0, 0, []), (.istore 6, 146, 6, 0, 0, 0, 0, 0, 0, []), (.iload 7, 148, 7, 0, 0, 0, 0, 0, 0, []), (.aload_n 0, 149, 0, 0, 0, 0, 0, 0, 0, []), (.getfield 19, 152, 12, 3, 0, 0, 1054, 0, 0, []), (.iload 8, 154, 8, 0, 0, 0, 0, 0, 0, []), (.iaload, 155, 0, 0, 0, 0, 0, 0, 0, []), (.ifCond .ne 7, 158, 162, 0, 0, 0, 0, 0, 0, []), (.iconst 1, 159, 0, 0, 0, 0, 0, 1, 0, []), (.goto 4, 162, 163, 0, 0, 0, 0, 0, 0, []), (.iconst 0, 163, 0, 0, 0, 0, 0, 0, 0, []), (.iadd, 164, 0, 0, 0, 0, 0, 0, 0, []), (.istore 7, 166, 7, 0, 0, 0, 0, 0, 0, []), (.iinc 8 1, 169, 8, 0, 0, 0, 0, 1, 0, []), (.goto (-98), 172, 71, 0, 0, 0, 0, 0, 0, []), (.iload_n 2, 173, 2, 0, 0, 0, 0, 0, 0, []), (.ifCond .ne 7, 176, 180, 0, 0, 0, 0, 0, 0, []), (.iload_n 3, 177, 3, 0, 0, 0, 0, 0, 0, []), (.goto 58, 180, 235, 0, 0, 0, 0, 0, 0, []), (.iload_n 2, 181, 2, 0, 0, 0, 0, 0, 0, []), (.iconst 1, 182, 0, 0, 0, 0, 0, 1, 0, []), (.if_icmp .ne 8, 185, 190, 0, 0, 0, 0, 0, 0, []), (.iload 4, 187, 4, 0, 0, 0, 0, 0, 0, []), (.goto 48, 190, 235, 0, 0, 0, 0, 0, 0, []), (.iload_n 2, 191, 2, 0, 0, 0, 0, 0, 0, []), (.iconst 2, 192, 0, 0, 0, 0, 0, 2, 0, []), (.if_icmp .ne 15, 195, 207, 0, 0, 0, 0, 0, 0, []), (.aload_n 0, 196, 0, 0, 0, 0, 0, 0, 0, []), (.getfield 7, 199, 12, 0, 0, 0, 1051, 0, 0, []), (.bipush 121, 201, 0, 0, 0, 0, 0, 121, 0, []), (.iload_n 1, 202, 1, 0, 0, 0, 0, 0, 0, []), (.iadd, 203, 0, 0, 0, 0, 0, 0, 0, []), (.iaload, 204, 0, 0, 0, 0, 0, 0, 0, []), (.goto 31, 207, 235, 0, 0, 0, 0, 0, 0, []), (.iload_n 2, 208, 2, 0, 0, 0, 0, 0, 0, []), (.iconst 3, 209, 0, 0, 0, 0, 0, 3, 0, []), (.if_icmp .ne 8, 212, 217, 0, 0, 0, 0, 0, 0, []), (.iload 5, 214, 5, 0, 0, 0, 0, 0, 0, []), (.goto 21, 217, 235, 0, 0, 0, 0, 0, 0, []), (.iload_n 2, 218, 2, 0, 0, 0, 0, 0, 0, []), (.iconst 4, 219, 0, 0, 0, 0, 0, 4, 0, []), (.if_icmp .ne 14, 222, 233, 0, 0, 0, 0, 0, 0, []), (.bipush 10, 224, 0, 0, 0, 0, 0, 10, 0, []), (.iload 6, 226, 6, 0, 0, 0, 0, 0, 0, []), (.imul, 227, 0, 0, 0, 0, 0, 0, 0, []), (.iload 4, 229, 4, 0, 0, 0, 0, 0, 0, []), (.idiv, 230, 0, 0, 0, 0, 0, 0, 0, []), (.goto 5, 233, 235, 0, 0, 0, 0, 0, 0, []), (.iload 7, 235, 7, 0, 0, 0, 0, 0, 0, []), (.ireturn, 236, 0, 0, 0, 0, 0, 0, 0, [])]
set_option maxRecDepth 100000 in
theorem zk_X12_scene_71 : zOks nX12_scene zo_X12_scene_71 71 = true := by decide +kernel
def zm_X12_scene : List (Nat × List Bool) := [(0, [true, true, true, false, false, false, false, false, false]), (71, [true, true, true, true, true, true, true, true, true])]
set_option maxRecDepth 100000 in
set_option maxHeartbeats 4000000 in
theorem zr_X12_scene_0 {C : zCa} {post : zPo} {X : zX} (hX : zClosed none C post nX12_scene X) (p0 : Int32) (p1 : Int32) (σ : zS) (h : C nX12_findsTypes [.ref 63] σ (zPV fun σ1 => C nX12_in [.int p0, .int 0, .int ((σ1.1 63 8) - 1)] σ1 (zPI fun x3 σ2 => zIf ((x3 : Int32) = 0) (post (some (.int (-2))) σ2) (C nX12_in [.int p1, .int 0, .int 5] σ2 (zPI fun x5 σ4 => zIf ((x5 : Int32) = 0) (post (some (.int (-2))) σ4) (vp_in 207 (zN 64) ∧ (zIf ((σ4.1 64 (Int32.toNatClampNeg 207) : Int32) = 0) (zIf ((p1 : Int32) = 3) (post (some (.int (-3))) σ4) (zIf ((p1 : Int32) = 4) (post (some (.int (-3))) σ4) (X 71 [some (.ref 63), some (.int p0), some (.int p1), some (.int (-1)), some (.int 0), some (.int 0), some (.int 0), some (.int 0), some (.int 0)] [] σ4))) (X 71 [some (.ref 63), some (.int p0), some (.int p1), some (.int (-1)), some (.int 0), some (.int 0), some (.int 0), some (.int 0), some (.int 0)] [] σ4)))))))) : X 0 [some (.ref 63), some (.int p0), some (.int p1), none, none, none, none, none, none] [] σ := zSeq_ok hX zm_X12_scene zo_X12_scene_0 0 0 _ _ _ zk_X12_scene_0 h
set_option maxRecDepth 100000 in
set_option maxHeartbeats 4000000 in
theorem zr_X12_scene_71 {C : zCa} {post : zPo} {X : zX} (hX : zClosed none C post nX12_scene X) (v1 : Int32) (v2 : Int32) (v3 : Int32) (v4 : Int32) (v5 : Int32) (v6 : Int32) (v7 : Int32) (v8 : Int32) (σ : zS) (h : vp_in 0 (zN 64) ∧ (zIf ((v8 : Int32) < (σ.1 64 (Int32.toNatClampNeg 0))) (vp_in v8 (zN 68) ∧ (zIf ((σ.1 68 (Int32.toNatClampNeg v8) : Int32) = v1) (zIf ((v3 : Int32) = (-1)) (vp_in (208 + v8) (zN 64) ∧ (C nX12_bits [.ref 63, .int v8, .int (σ.1 64 (Int32.toNatClampNeg (208 + v8)))] σ (zPI fun x2 σ1 => vp_in (208 + v8) (zN 64) ∧ (vp_in v8 (zN 67) ∧ (zIf ((σ1.1 67 (Int32.toNatClampNeg v8) : Int32) = 0) (X 71 [some (.ref 63), some (.int v1), some (.int v2), some (.int v8), some (.int (v4 + 1)), some (.int (v5 + x2)), some (.int (v6 + (σ1.1 64 (Int32.toNatClampNeg (208 + v8))))), some (.int (v7 + 1)), some (.int (v8 + 1))] [] σ1) (X 71 [some (.ref 63), some (.int v1), some (.int v2), some (.int v8), some (.int (v4 + 1)), some (.int (v5 + x2)), some (.int (v6 + (σ1.1 64 (Int32.toNatClampNeg (208 + v8))))), some (.int (v7 + 0)), some (.int (v8 + 1))] [] σ1)))))) (vp_in (208 + v8) (zN 64) ∧ (C nX12_bits [.ref 63, .int v8, .int (σ.1 64 (Int32.toNatClampNeg (208 + v8)))] σ (zPI fun x4 σ3 => vp_in (208 + v8) (zN 64) ∧ (vp_in v8 (zN 67) ∧ (zIf ((σ3.1 67 (Int32.toNatClampNeg v8) : Int32) = 0) (X 71 [some (.ref 63), some (.int v1), some (.int v2), some (.int v3), some (.int (v4 + 1)), some (.int (v5 + x4)), some (.int (v6 + (σ3.1 64 (Int32.toNatClampNeg (208 + v8))))), some (.int (v7 + 1)), some (.int (v8 + 1))] [] σ3) (X 71 [some (.ref 63), some (.int v1), some (.int v2), some (.int v3), some (.int (v4 + 1)), some (.int (v5 + x4)), some (.int (v6 + (σ3.1 64 (Int32.toNatClampNeg (208 + v8))))), some (.int (v7 + 0)), some (.int (v8 + 1))] [] σ3))))))) (X 71 [some (.ref 63), some (.int v1), some (.int v2), some (.int v3), some (.int v4), some (.int v5), some (.int v6), some (.int v7), some (.int (v8 + 1))] [] σ))) (zIf ((v2 : Int32) = 0) (post (some (.int v3)) σ) (zIf ((v2 : Int32) = 1) (post (some (.int v4)) σ) (zIf ((v2 : Int32) = 2) (vp_in (121 + v1) (zN 64) ∧ (post (some (.int (σ.1 64 (Int32.toNatClampNeg (121 + v1))))) σ)) (zIf ((v2 : Int32) = 3) (post (some (.int v5)) σ) (zIf ((v2 : Int32) = 4) (¬ (v4 : Int32) = 0 ∧ (post (some (.int ((10 * v6) / v4))) σ)) (post (some (.int v7)) σ)))))))) : X 71 [some (.ref 63), some (.int v1), some (.int v2), some (.int v3), some (.int v4), some (.int v5), some (.int v6), some (.int v7), some (.int v8)] [] σ := zSeq_ok hX zm_X12_scene zo_X12_scene_71 71 71 _ _ _ zk_X12_scene_71 h
theorem ze_X12_scene {d : Nat} {post : zPo} (p0 : Int32) (p1 : Int32) (σ : zS) (h : ∀ X : zX, zClosed none (zCall d) post nX12_scene X → X 0 [some (.ref 63), some (.int p0), some (.int p1), none, none, none, none, none, none] [] σ) : zCall (d + 1) nX12_scene [.ref 63, .int p0, .int p1] σ post := h
-- X12_sumOf(63,) depth 3
def zo_X12_sumOf_0 : List zOp := [(.lconst 0, 1, 0, 0, 0, 0, 0, 0, 0, []), (.lstore_n 2, 2, 2, 0, 0, 0, 0, 0, 0, []), (.iconst 0, 3, 0, 0, 0, 0, 0, 0, 0, []), (.istore 4, 5, 4, 0, 0, 0, 0, 0, 0, [])]
set_option maxRecDepth 100000 in
theorem zk_X12_sumOf_0 : zOks nX12_sumOf zo_X12_sumOf_0 0 = true := by decide +kernel
def zo_X12_sumOf_5 : List zOp := [(.iload 4, 7, 4, 0, 0, 0, 0, 0, 0, []), (.aload_n 0, 8, 0, 0, 0, 0, 0, 0, 0, []), (.getfield 7, 11, 12, 0, 0, 0, 1051, 0, 0, []), (.iconst 0, 12, 0, 0, 0, 0, 0, 0, 0, []), (.iaload, 13, 0, 0, 0, 0, 0, 0, 0, []), (.if_icmp .ge 140, 16, 153, 0, 0, 0, 0, 0, 0, []), (.aload_n 0, 17, 0, 0, 0, 0, 0, 0, 0, []), (.getfield 31, 20, 12, 7, 0, 0, 1058, 0, 0, []), (.iload 4, 22, 4, 0, 0, 0, 0, 0, 0, []), (.iaload, 23, 0, 0, 0, 0, 0, 0, 0, []), (.istore 5, 25, 5, 0, 0, 0, 0, 0, 0, []), (.aload_n 0, 26, 0, 0, 0, 0, 0, 0, 0, []), (.getfield 7, 29, 12, 0, 0, 0, 1051, 0, 0, []), (.sipush 208, 32, 0, 0, 0, 0, 0, 208, 0, []), (.iload 5, 34, 5, 0, 0, 0, 0, 0, 0, []), (.iadd, 35, 0, 0, 0, 0, 0, 0, 0, []), (.iaload, 36, 0, 0, 0, 0, 0, 0, 0, []), (.istore 6, 38, 6, 0, 0, 0, 0, 0, 0, []), (.lload_n 2, 39, 2, 0, 0, 0, 0, 0, 0, []), (.iload_n 1, 40, 1, 0, 0, 0, 0, 0, 0, []), (.ifCond .ne 15, 43, 55, 0, 0, 0, 0, 0, 0, []), (.aload_n 0, 44, 0, 0, 0, 0, 0, 0, 0, []), (.iload 5, 46, 5, 0, 0, 0, 0, 0, 0, []), (.iload 6, 48, 6, 0, 0, 0, 0, 0, 0, []), (.invokevirtual 94, 51, 142, 3, 1, 12, 1253, 0, 0, []), (.i2l, 52, 0, 0, 0, 0, 0, 0, 0, []), (.goto 93, 55, 145, 0, 0, 0, 0, 0, 0, []), (.iload_n 1, 56, 1, 0, 0, 0, 0, 0, 0, []), (.iconst 1, 57, 0, 0, 0, 0, 0, 1, 0, []), (.if_icmp .ne 15, 60, 72, 0, 0, 0, 0, 0, 0, []), (.aload_n 0, 61, 0, 0, 0, 0, 0, 0, 0, []), (.iload 5, 63, 5, 0, 0, 0, 0, 0, 0, []), (.iload 6, 65, 6, 0, 0, 0, 0, 0, 0, []), (.invokevirtual 157, 68, 144, 3, 1, 12, 1264, 0, 0, []), (.i2l, 69, 0, 0, 0, 0, 0, 0, 0, []), (.goto 76, 72, 145, 0, 0, 0, 0, 0, 0, []), (.iload_n 1, 73, 1, 0, 0, 0, 0, 0, 0, []), (.iconst 2, 74, 0, 0, 0, 0, 0, 2, 0, []), (.if_icmp .ne 14, 77, 88, 0, 0, 0, 0, 0, 0, []), (.aload_n 0, 78, 0, 0, 0, 0, 0, 0, 0, []), (.getfield 40, 81, 12, 12, 0, 0, 1063, 0, 0, []), (.iload 4, 83, 4, 0, 0, 0, 0, 0, 0, []), (.iaload, 84, 0, 0, 0, 0, 0, 0, 0, []), (.i2l, 85, 0, 0, 0, 0, 0, 0, 0, []), (.goto 60, 88, 145, 0, 0, 0, 0, 0, 0, []), (.iload_n 1, 89, 1, 0, 0, 0, 0, 0, 0, []), (.iconst 3, 90, 0, 0, 0, 0, 0, 3, 0, []), (.if_icmp .ne 14, 93, 104, 0, 0, 0, 0, 0, 0, []), (.aload_n 0, 94, 0, 0, 0, 0, 0, 0, 0, []), (.getfield 43, 97, 12, 13, 0, 0, 1064, 0, 0, []), (.iload 4, 99, 4, 0, 0, 0, 0, 0, 0, []), (.iaload, 100, 0, 0, 0, 0, 0, 0, 0, []), (.i2l, 101, 0, 0, 0, 0, 0, 0, 0, []), (.goto 44, 104, 145, 0, 0, 0, 0, 0, 0, []), (.iload_n 1, 105, 1, 0, 0, 0, 0, 0, 0, []), (.iconst 4, 106, 0, 0, 0, 0, 0, 4, 0, []), (.if_icmp .ne 21, 109, 127, 0, 0, 0, 0, 0, 0, []), (.aload_n 0, 110, 0, 0, 0, 0, 0, 0, 0, []), (.getfield 40, 113, 12, 12, 0, 0, 1063, 0, 0, []), (.iload 4, 115, 4, 0, 0, 0, 0, 0, 0, []), (.iaload, 116, 0, 0, 0, 0, 0, 0, 0, []), (.ifCond .le 7, 119, 123, 0, 0, 0, 0, 0, 0, []), (.lconst 1, 120, 0, 0, 0, 0, 0, 0, 1, []), (.goto 25, 123, 145, 0, 0, 0, 0, 0, 0, []), (.lconst 0, 124, 0, 0, 0, 0, 0, 0, 0, []), (.goto 21, 127, 145, 0, 0, 0, 0, 0, 0, []), (.iload_n 1, 128, 1, 0, 0, 0, 0, 0, 0, []), (.iconst 5, 129, 0, 0, 0, 0, 0, 5, 0, []), (.if_icmp .ne 9, 132, 138, 0, 0, 0, 0, 0, 0, []), (.iload 6, 134, 6, 0, 0, 0, 0, 0, 0, []), (.i2l, 135, 0, 0, 0, 0, 0, 0, 0, []), (.goto 10, 138, 145, 0, 0, 0, 0, 0, 0, []), (.aload_n 0, 139, 0, 0, 0, 0, 0, 0, 0, []), (.iload 4, 141, 4, 0, 0, 0, 0, 0, 0, []), (.invokevirtual 216, 144, 196, 2, 1, 12, 1388, 0, 0, []), (.i2l, 145, 0, 0, 0, 0, 0, 0, 0, []), (.ladd, 146, 0, 0, 0, 0, 0, 0, 0, []), (.lstore_n 2, 147, 2, 0, 0, 0, 0, 0, 0, []), (.iinc 4 1, 150, 4, 0, 0, 0, 0, 1, 0, []), (.goto (-145), 153, 5, 0, 0, 0, 0, 0, 0, []), (.lload_n 2, 154, 2, 0, 0, 0, 0, 0, 0, []), (.lreturn, 155, 0, 0, 0, 0, 0, 0, 0, [])]
set_option maxRecDepth 100000 in
theorem zk_X12_sumOf_5 : zOks nX12_sumOf zo_X12_sumOf_5 5 = true := by decide +kernel
def zm_X12_sumOf : List (Nat × List Bool) := [(0, [true, true, false, false, false, false, false]), (5, [true, true, true, false, true, false, false])]
set_option maxRecDepth 100000 in
set_option maxHeartbeats 4000000 in
theorem zr_X12_sumOf_0 {C : zCa} {post : zPo} {X : zX} (hX : zClosed none C post nX12_sumOf X) (p0 : Int32) (σ : zS) (h : X 5 [some (.ref 63), some (.int p0), some (.long 0), none, some (.int 0), none, none] [] σ) : X 0 [some (.ref 63), some (.int p0), none, none, none, none, none] [] σ := zSeq_ok hX zm_X12_sumOf zo_X12_sumOf_0 0 0 _ _ _ zk_X12_sumOf_0 h
set_option maxRecDepth 100000 in
set_option maxHeartbeats 4000000 in
theorem zr_X12_sumOf_5 {C : zCa} {post : zPo} {X : zX} (hX : zClosed none C post nX12_sumOf X) (v1 : Int32) (v2 : Int64) (v4 : Int32) (σ : zS) (h : vp_in 0 (zN 64) ∧ (zIf ((v4 : Int32) < (σ.1 64 (Int32.toNatClampNeg 0))) (vp_in v4 (zN 71) ∧ (vp_in (208 + (σ.1 71 (Int32.toNatClampNeg v4))) (zN 64) ∧ (zIf ((v1 : Int32) = 0) (C nX12_bits [.ref 63, .int (σ.1 71 (Int32.toNatClampNeg v4)), .int (σ.1 64 (Int32.toNatClampNeg (208 + (σ.1 71 (Int32.toNatClampNeg v4)))))] σ (zPI fun x2 σ1 => X 5 [some (.ref 63), some (.int v1), some (.long (v2 + (Int32.toInt64 x2))), none, some (.int (v4 + 1)), none, none] [] σ1)) (zIf ((v1 : Int32) = 1) (C nX12_loss [.ref 63, .int (σ.1 71 (Int32.toNatClampNeg v4)), .int (σ.1 64 (Int32.toNatClampNeg (208 + (σ.1 71 (Int32.toNatClampNeg v4)))))] σ (zPI fun x4 σ3 => X 5 [some (.ref 63), some (.int v1), some (.long (v2 + (Int32.toInt64 x4))), none, some (.int (v4 + 1)), none, none] [] σ3)) (zIf ((v1 : Int32) = 2) (vp_in v4 (zN 74) ∧ (X 5 [some (.ref 63), some (.int v1), some (.long (v2 + (Int32.toInt64 (σ.1 74 (Int32.toNatClampNeg v4))))), none, some (.int (v4 + 1)), none, none] [] σ)) (zIf ((v1 : Int32) = 3) (vp_in v4 (zN 75) ∧ (X 5 [some (.ref 63), some (.int v1), some (.long (v2 + (Int32.toInt64 (σ.1 75 (Int32.toNatClampNeg v4))))), none, some (.int (v4 + 1)), none, none] [] σ)) (zIf ((v1 : Int32) = 4) (vp_in v4 (zN 74) ∧ (zIf ((σ.1 74 (Int32.toNatClampNeg v4) : Int32) ≤ 0) (X 5 [some (.ref 63), some (.int v1), some (.long (v2 + 0)), none, some (.int (v4 + 1)), none, none] [] σ) (X 5 [some (.ref 63), some (.int v1), some (.long (v2 + 1)), none, some (.int (v4 + 1)), none, none] [] σ))) (zIf ((v1 : Int32) = 5) (X 5 [some (.ref 63), some (.int v1), some (.long (v2 + (Int32.toInt64 (σ.1 64 (Int32.toNatClampNeg (208 + (σ.1 71 (Int32.toNatClampNeg v4)))))))), none, some (.int (v4 + 1)), none, none] [] σ) (C nX12_change [.ref 63, .int v4] σ (zPI fun x6 σ5 => X 5 [some (.ref 63), some (.int v1), some (.long (v2 + (Int32.toInt64 x6))), none, some (.int (v4 + 1)), none, none] [] σ5)))))))))) (post (some (.long v2)) σ))) : X 5 [some (.ref 63), some (.int v1), some (.long v2), none, some (.int v4), none, none] [] σ := zSeq_ok hX zm_X12_sumOf zo_X12_sumOf_5 5 5 _ _ _ zk_X12_sumOf_5 h
theorem ze_X12_sumOf {d : Nat} {post : zPo} (p0 : Int32) (σ : zS) (h : ∀ X : zX, zClosed none (zCall d) post nX12_sumOf X → X 0 [some (.ref 63), some (.int p0), none, none, none, none, none] [] σ) : zCall (d + 1) nX12_sumOf [.ref 63, .int p0] σ post := h
-- X12_total(63,) depth 6
def zo_X12_total_0 : List zOp := [(.iload_n 1, 1, 1, 0, 0, 0, 0, 0, 0, []), (.iconst 0, 2, 0, 0, 0, 0, 0, 0, 0, []), (.bipush 6, 4, 0, 0, 0, 0, 0, 6, 0, []), (.invokestatic 59, 7, 133, 3, 1, 0, 1128, 0, 0, []), (.ifCond .ne 7, 10, 14, 0, 0, 0, 0, 0, 0, []), (.ldc2_w 219, 13, 0, 0, 0, 0, 1382, 0, (-2), []), (.lreturn, 14, 0, 0, 0, 0, 0, 0, 0, []), (.aload_n 0, 15, 0, 0, 0, 0, 0, 0, 0, []), (.getfield 7, 18, 12, 0, 0, 0, 1051, 0, 0, []), (.sipush 207, 21, 0, 0, 0, 0, 0, 207, 0, []), (.iaload, 22, 0, 0, 0, 0, 0, 0, 0, []), (.ifCond .ne 7, 25, 29, 0, 0, 0, 0, 0, 0, []), (.ldc2_w 221, 28, 0, 0, 0, 0, 1383, 0, (-3), []), (.lreturn, 29, 0, 0, 0, 0, 0, 0, 0, []), (.aload_n 0, 30, 0, 0, 0, 0, 0, 0, 0, []), (.invokevirtual 149, 33, 139, 1, 0, 12, 1191, 0, 0, []), (.aload_n 0, 34, 0, 0, 0, 0, 0, 0, 0, []), (.invokevirtual 109, 37, 148, 1, 0, 12, 1294, 0, 0, []), (.aload_n 0, 38, 0, 0, 0, 0, 0, 0, 0, []), (.iload_n 1, 39, 1, 0, 0, 0, 0, 0, 0, []), (.invokevirtual 223, 42, 197, 2, 2, 12, 1384, 0, 0, []), (.lreturn, 43, 0, 0, 0, 0, 0, 0, 0, [])]
set_option maxRecDepth 100000 in
theorem zk_X12_total_0 : zOks nX12_total zo_X12_total_0 0 = true := by decide +kernel
def zm_X12_total : List (Nat × List Bool) := [(0, [true, true])]
set_option maxRecDepth 100000 in
set_option maxHeartbeats 4000000 in
theorem zr_X12_total_0 {C : zCa} {post : zPo} {X : zX} (hX : zClosed none C post nX12_total X) (p0 : Int32) (σ : zS) (h : C nX12_in [.int p0, .int 0, .int 6] σ (zPI fun x2 σ1 => zIf ((x2 : Int32) = 0) (post (some (.long (-2))) σ1) (vp_in 207 (zN 64) ∧ (zIf ((σ1.1 64 (Int32.toNatClampNeg 207) : Int32) = 0) (post (some (.long (-3))) σ1) (C nX12_findsTypes [.ref 63] σ1 (zPV fun σ3 => C nX12_runsAsSet [.ref 63] σ3 (zPV fun σ4 => C nX12_sumOf [.ref 63, .int p0] σ4 (zPJ fun x6 σ5 => post (some (.long x6)) σ5)))))))) : X 0 [some (.ref 63), some (.int p0)] [] σ := zSeq_ok hX zm_X12_total zo_X12_total_0 0 0 _ _ _ zk_X12_total_0 h
theorem ze_X12_total {d : Nat} {post : zPo} (p0 : Int32) (σ : zS) (h : ∀ X : zX, zClosed none (zCall d) post nX12_total X → X 0 [some (.ref 63), some (.int p0)] [] σ) : zCall (d + 1) nX12_total [.ref 63, .int p0] σ post := h
-- X12_digest(63,) depth 7
def zo_X12_digest_0 : List zOp := [(.aload_n 0, 1, 0, 0, 0, 0, 0, 0, 0, []), (.ldc2_w 239, 4, 0, 0, 0, 0, 1440, 0, 367, []), (.putfield 235, 7, 12, 23, 3, 0, 1074, 0, 0, []), (.iconst 0, 8, 0, 0, 0, 0, 0, 0, 0, []), (.istore_n 1, 9, 1, 0, 0, 0, 0, 0, 0, [])]
set_option maxRecDepth 100000 in
theorem zk_X12_digest_0 : zOks nX12_digest zo_X12_digest_0 0 = true := by decide +kernel
def zo_X12_digest_9 : List zOp := [(.iload_n 1, 10, 1, 0, 0, 0, 0, 0, 0, []), (.bipush 11, 12, 0, 0, 0, 0, 0, 11, 0, []), (.if_icmp .ge 19, 15, 31, 0, 0, 0, 0, 0, 0, []), (.aload_n 0, 16, 0, 0, 0, 0, 0, 0, 0, []), (.aload_n 0, 17, 0, 0, 0, 0, 0, 0, 0, []), (.iload_n 1, 18, 1, 0, 0, 0, 0, 0, 0, []), (.invokevirtual 241, 21, 209, 2, 1, 12, 1441, 0, 0, []), (.i2l, 22, 0, 0, 0, 0, 0, 0, 0, []), (.invokevirtual 244, 25, 210, 2, 0, 12, 1442, 0, 0, []), (.iinc 1 1, 28, 1, 0, 0, 0, 0, 1, 0, []), (.goto (-19), 31, 9, 0, 0, 0, 0, 0, 0, []), (.iconst 0, 32, 0, 0, 0, 0, 0, 0, 0, []), (.istore_n 1, 33, 1, 0, 0, 0, 0, 0, 0, [])]
set_option maxRecDepth 100000 in
theorem zk_X12_digest_9 : zOks nX12_digest zo_X12_digest_9 9 = true := by decide +kernel
def zo_X12_digest_33 : List zOp := [(.iload_n 1, 34, 1, 0, 0, 0, 0, 0, 0, []), (.aload_n 0, 35, 0, 0, 0, 0, 0, 0, 0, []), (.getfield 7, 38, 12, 0, 0, 0, 1051, 0, 0, []), (.iconst 0, 39, 0, 0, 0, 0, 0, 0, 0, []), (.iaload, 40, 0, 0, 0, 0, 0, 0, 0, []), (.if_icmp .ge 71, 43, 111, 0, 0, 0, 0, 0, 0, []), (.iconst 0, 44, 0, 0, 0, 0, 0, 0, 0, []), (.istore_n 2, 45, 2, 0, 0, 0, 0, 0, 0, [])]
set_option maxRecDepth 100000 in
theorem zk_X12_digest_33 : zOks nX12_digest zo_X12_digest_33 33 = true := by decide +kernel
def zo_X12_digest_45 : List zOp := [(.iload_n 2, 46, 2, 0, 0, 0, 0, 0, 0, []), (.bipush 8, 48, 0, 0, 0, 0, 0, 8, 0, []), (.if_icmp .ge 20, 51, 68, 0, 0, 0, 0, 0, 0, []), (.aload_n 0, 52, 0, 0, 0, 0, 0, 0, 0, []), (.aload_n 0, 53, 0, 0, 0, 0, 0, 0, 0, []), (.iload_n 1, 54, 1, 0, 0, 0, 0, 0, 0, []), (.iload_n 2, 55, 2, 0, 0, 0, 0, 0, 0, []), (.invokevirtual 248, 58, 163, 3, 1, 12, 1447, 0, 0, []), (.i2l, 59, 0, 0, 0, 0, 0, 0, 0, []), (.invokevirtual 244, 62, 210, 2, 0, 12, 1442, 0, 0, []), (.iinc 2 1, 65, 2, 0, 0, 0, 0, 1, 0, []), (.goto (-20), 68, 45, 0, 0, 0, 0, 0, 0, []), (.iconst 0, 69, 0, 0, 0, 0, 0, 0, 0, []), (.istore_n 2, 70, 2, 0, 0, 0, 0, 0, 0, [])]
set_option maxRecDepth 100000 in
theorem zk_X12_digest_45 : zOks nX12_digest zo_X12_digest_45 45 = true := by decide +kernel
def zo_X12_digest_70 : List zOp := [(.iload_n 2, 71, 2, 0, 0, 0, 0, 0, 0, []), (.bipush 7, 73, 0, 0, 0, 0, 0, 7, 0, []), (.if_icmp .ge 32, 76, 105, 0, 0, 0, 0, 0, 0, []), (.aload_n 0, 77, 0, 0, 0, 0, 0, 0, 0, []), (.getfield 7, 80, 12, 0, 0, 0, 1051, 0, 0, []), (.sipush 207, 83, 0, 0, 0, 0, 0, 207, 0, []), (.iaload, 84, 0, 0, 0, 0, 0, 0, 0, []), (.iconst 1, 85, 0, 0, 0, 0, 0, 1, 0, []), (.if_icmp .ne 20, 88, 105, 0, 0, 0, 0, 0, 0, []), (.aload_n 0, 89, 0, 0, 0, 0, 0, 0, 0, []), (.aload_n 0, 90, 0, 0, 0, 0, 0, 0, 0, []), (.iload_n 1, 91, 1, 0, 0, 0, 0, 0, 0, []), (.iload_n 2, 92, 2, 0, 0, 0, 0, 0, 0, []), (.invokevirtual 251, 95, 195, 3, 1, 12, 1448, 0, 0, []), (.i2l, 96, 0, 0, 0, 0, 0, 0, 0, []), (.invokevirtual 244, 99, 210, 2, 0, 12, 1442, 0, 0, []), (.iinc 2 1, 102, 2, 0, 0, 0, 0, 1, 0, []), (.goto (-32), 105, 70, 0, 0, 0, 0, 0, 0, []), (.iinc 1 1, 108, 1, 0, 0, 0, 0, 1, 0, []), (.goto (-75), 111, 33, 0, 0, 0, 0, 0, 0, []), (.aload_n 0, 112, 0, 0, 0, 0, 0, 0, 0, []), (.iconst 1, 113, 0, 0, 0, 0, 0, 1, 0, []), (.invokevirtual 230, 116, 208, 2, 1, 12, 1432, 0, 0, []), (.istore_n 1, 117, 1, 0, 0, 0, 0, 0, 0, []), (.iconst 0, 118, 0, 0, 0, 0, 0, 0, 0, []), (.istore_n 2, 119, 2, 0, 0, 0, 0, 0, 0, [])]
set_option maxRecDepth 100000 in
theorem zk_X12_digest_70 : zOks nX12_digest zo_X12_digest_70 70 = true := by decide +kernel
def zo_X12_digest_119 : List zOp := [(.iload_n 2, 120, 2, 0, 0, 0, 0, 0, 0, []), (.iload_n 1, 121, 1, 0, 0, 0, 0, 0, 0, []), (.if_icmp .ge 33, 124, 154, 0, 0, 0, 0, 0, 0, []), (.iconst 0, 125, 0, 0, 0, 0, 0, 0, 0, []), (.istore_n 3, 126, 3, 0, 0, 0, 0, 0, 0, [])]
set_option maxRecDepth 100000 in
theorem zk_X12_digest_119 : zOks nX12_digest zo_X12_digest_119 119 = true := by decide +kernel
def zo_X12_digest_126 : List zOp := [(.iload_n 3, 127, 3, 0, 0, 0, 0, 0, 0, []), (.iconst 3, 128, 0, 0, 0, 0, 0, 3, 0, []), (.if_icmp .ge 20, 131, 148, 0, 0, 0, 0, 0, 0, []), (.aload_n 0, 132, 0, 0, 0, 0, 0, 0, 0, []), (.aload_n 0, 133, 0, 0, 0, 0, 0, 0, 0, []), (.iload_n 2, 134, 2, 0, 0, 0, 0, 0, 0, []), (.iload_n 3, 135, 3, 0, 0, 0, 0, 0, 0, []), (.invokevirtual 254, 138, 199, 3, 1, 12, 1449, 0, 0, []), (.i2l, 139, 0, 0, 0, 0, 0, 0, 0, []), (.invokevirtual 244, 142, 210, 2, 0, 12, 1442, 0, 0, []), (.iinc 3 1, 145, 3, 0, 0, 0, 0, 1, 0, []), (.goto (-19), 148, 126, 0, 0, 0, 0, 0, 0, []), (.iinc 2 1, 151, 2, 0, 0, 0, 0, 1, 0, []), (.goto (-32), 154, 119, 0, 0, 0, 0, 0, 0, []), (.iconst 0, 155, 0, 0, 0, 0, 0, 0, 0, []), (.istore_n 2, 156, 2, 0, 0, 0, 0, 0, 0, [])]
set_option maxRecDepth 100000 in
theorem zk_X12_digest_126 : zOks nX12_digest zo_X12_digest_126 126 = true := by decide +kernel
def zo_X12_digest_156 : List zOp := [(.iload_n 2, 157, 2, 0, 0, 0, 0, 0, 0, []), (.bipush 7, 159, 0, 0, 0, 0, 0, 7, 0, []), (.if_icmp .ge 30, 162, 189, 0, 0, 0, 0, 0, 0, []), (.aload_n 0, 163, 0, 0, 0, 0, 0, 0, 0, []), (.getfield 7, 166, 12, 0, 0, 0, 1051, 0, 0, []), (.sipush 207, 169, 0, 0, 0, 0, 0, 207, 0, []), (.iaload, 170, 0, 0, 0, 0, 0, 0, 0, []), (.iconst 1, 171, 0, 0, 0, 0, 0, 1, 0, []), (.if_icmp .ne 18, 174, 189, 0, 0, 0, 0, 0, 0, []), (.aload_n 0, 175, 0, 0, 0, 0, 0, 0, 0, []), (.aload_n 0, 176, 0, 0, 0, 0, 0, 0, 0, []), (.iload_n 2, 177, 2, 0, 0, 0, 0, 0, 0, []), (.invokevirtual 257, 180, 198, 2, 2, 12, 1450, 0, 0, []), (.invokevirtual 244, 183, 210, 2, 0, 12, 1442, 0, 0, []), (.iinc 2 1, 186, 2, 0, 0, 0, 0, 1, 0, []), (.goto (-30), 189, 156, 0, 0, 0, 0, 0, 0, []), (.iconst 0, 190, 0, 0, 0, 0, 0, 0, 0, []), (.istore_n 2, 191, 2, 0, 0, 0, 0, 0, 0, [])]
set_option maxRecDepth 100000 in
theorem zk_X12_digest_156 : zOks nX12_digest zo_X12_digest_156 156 = true := by decide +kernel
def zo_X12_digest_191 : List zOp := [(.iload_n 2, 192, 2, 0, 0, 0, 0, 0, 0, []), (.aload_n 0, 193, 0, 0, 0, 0, 0, 0, 0, []), (.getfield 118, 196, 12, 16, 1, 0, 1067, 0, 0, []), (.if_icmp .ge 20, 199, 216, 0, 0, 0, 0, 0, 0, []), (.aload_n 0, 200, 0, 0, 0, 0, 0, 0, 0, []), (.aload_n 0, 201, 0, 0, 0, 0, 0, 0, 0, []), (.getfield 46, 204, 12, 15, 0, 0, 1066, 0, 0, []), (.iload_n 2, 205, 2, 0, 0, 0, 0, 0, 0, []), (.iaload, 206, 0, 0, 0, 0, 0, 0, 0, []), (.i2l, 207, 0, 0, 0, 0, 0, 0, 0, []), (.invokevirtual 244, 210, 210, 2, 0, 12, 1442, 0, 0, []), (.iinc 2 1, 213, 2, 0, 0, 0, 0, 1, 0, []), (.goto (-22), 216, 191, 0, 0, 0, 0, 0, 0, []), (.aload_n 0, 217, 0, 0, 0, 0, 0, 0, 0, []), (.getfield 235, 220, 12, 23, 3, 0, 1074, 0, 0, []), (.lreturn, 221, 0, 0, 0, 0, 0, 0, 0, [])]
set_option maxRecDepth 100000 in
theorem zk_X12_digest_191 : zOks nX12_digest zo_X12_digest_191 191 = true := by decide +kernel
def zm_X12_digest : List (Nat × List Bool) := [(0, [true, false, false, false]), (9, [true, true, false, false]), (33, [true, true, false, false]), (45, [true, true, true, false]), (70, [true, true, true, false]), (111, [true, false, false, false]), (119, [true, true, true, false]), (126, [true, true, true, true]), (154, [true, false, false, false]), (156, [true, false, true, false]), (191, [true, false, true, false])]
set_option maxRecDepth 100000 in
set_option maxHeartbeats 4000000 in
theorem zr_X12_digest_0 {C : zCa} {post : zPo} {X : zX} (hX : zClosed none C post nX12_digest X) (σ : zS) (h : X 9 [some (.ref 63), some (.int 0), none, none] [] (zSJ σ 63 23 367)) : X 0 [some (.ref 63), none, none, none] [] σ := zSeq_ok hX zm_X12_digest zo_X12_digest_0 0 0 _ _ _ zk_X12_digest_0 h
set_option maxRecDepth 100000 in
set_option maxHeartbeats 4000000 in
theorem zr_X12_digest_9 {C : zCa} {post : zPo} {X : zX} (hX : zClosed none C post nX12_digest X) (v1 : Int32) (σ : zS) (h : zIf ((v1 : Int32) < 11) (C nX12_count [.ref 63, .int v1] σ (zPI fun x2 σ1 => C nX12_mixes [.ref 63, .long (Int32.toInt64 x2)] σ1 (zPV fun σ3 => X 9 [some (.ref 63), some (.int (v1 + 1)), none, none] [] σ3))) (X 33 [some (.ref 63), some (.int 0), none, none] [] σ)) : X 9 [some (.ref 63), some (.int v1), none, none] [] σ := zSeq_ok hX zm_X12_digest zo_X12_digest_9 9 9 _ _ _ zk_X12_digest_9 h
set_option maxRecDepth 100000 in
set_option maxHeartbeats 4000000 in
theorem zr_X12_digest_33 {C : zCa} {post : zPo} {X : zX} (hX : zClosed none C post nX12_digest X) (v1 : Int32) (σ : zS) (h : vp_in 0 (zN 64) ∧ (zIf ((v1 : Int32) < (σ.1 64 (Int32.toNatClampNeg 0))) (X 45 [some (.ref 63), some (.int v1), some (.int 0), none] [] σ) (X 111 [some (.ref 63), none, none, none] [] σ))) : X 33 [some (.ref 63), some (.int v1), none, none] [] σ := zSeq_ok hX zm_X12_digest zo_X12_digest_33 33 33 _ _ _ zk_X12_digest_33 h
set_option maxRecDepth 100000 in
set_option maxHeartbeats 4000000 in
theorem zr_X12_digest_45 {C : zCa} {post : zPo} {X : zX} (hX : zClosed none C post nX12_digest X) (v1 : Int32) (v2 : Int32) (σ : zS) (h : zIf ((v2 : Int32) < 8) (C nX12_frame [.ref 63, .int v1, .int v2] σ (zPI fun x2 σ1 => C nX12_mixes [.ref 63, .long (Int32.toInt64 x2)] σ1 (zPV fun σ3 => X 45 [some (.ref 63), some (.int v1), some (.int (v2 + 1)), none] [] σ3))) (X 70 [some (.ref 63), some (.int v1), some (.int 0), none] [] σ)) : X 45 [some (.ref 63), some (.int v1), some (.int v2), none] [] σ := zSeq_ok hX zm_X12_digest zo_X12_digest_45 45 45 _ _ _ zk_X12_digest_45 h
set_option maxRecDepth 100000 in
set_option maxHeartbeats 4000000 in
theorem zr_X12_digest_111 {C : zCa} {post : zPo} {X : zX} (hX : zClosed none C post nX12_digest X) (σ : zS) (h : C nX12_counted [.ref 63, .int 1] σ (zPI fun x2 σ1 => X 119 [some (.ref 63), some (.int x2), some (.int 0), none] [] σ1)) : X 111 [some (.ref 63), none, none, none] [] σ := zSeq_ok hX zm_X12_digest zo_X12_digest_70 70 111 _ _ _ zk_X12_digest_70 h
set_option maxRecDepth 100000 in
set_option maxHeartbeats 4000000 in
theorem zr_X12_digest_70 {C : zCa} {post : zPo} {X : zX} (hX : zClosed none C post nX12_digest X) (v1 : Int32) (v2 : Int32) (σ : zS) (h : zIf ((v2 : Int32) < 7) (vp_in 207 (zN 64) ∧ (zIf ((σ.1 64 (Int32.toNatClampNeg 207) : Int32) = 1) (C nX12_planned [.ref 63, .int v1, .int v2] σ (zPI fun x2 σ1 => C nX12_mixes [.ref 63, .long (Int32.toInt64 x2)] σ1 (zPV fun σ3 => X 70 [some (.ref 63), some (.int v1), some (.int (v2 + 1)), none] [] σ3))) (X 33 [some (.ref 63), some (.int (v1 + 1)), none, none] [] σ))) (X 33 [some (.ref 63), some (.int (v1 + 1)), none, none] [] σ)) : X 70 [some (.ref 63), some (.int v1), some (.int v2), none] [] σ := zSeq_ok hX zm_X12_digest zo_X12_digest_70 70 70 _ _ _ zk_X12_digest_70 h
set_option maxRecDepth 100000 in
set_option maxHeartbeats 4000000 in
theorem zr_X12_digest_119 {C : zCa} {post : zPo} {X : zX} (hX : zClosed none C post nX12_digest X) (v1 : Int32) (v2 : Int32) (σ : zS) (h : zIf ((v2 : Int32) < v1) (X 126 [some (.ref 63), some (.int v1), some (.int v2), some (.int 0)] [] σ) (X 154 [some (.ref 63), none, none, none] [] σ)) : X 119 [some (.ref 63), some (.int v1), some (.int v2), none] [] σ := zSeq_ok hX zm_X12_digest zo_X12_digest_119 119 119 _ _ _ zk_X12_digest_119 h
set_option maxRecDepth 100000 in
set_option maxHeartbeats 4000000 in
theorem zr_X12_digest_126 {C : zCa} {post : zPo} {X : zX} (hX : zClosed none C post nX12_digest X) (v1 : Int32) (v2 : Int32) (v3 : Int32) (σ : zS) (h : zIf ((v3 : Int32) < 3) (C nX12_scene [.ref 63, .int v2, .int v3] σ (zPI fun x2 σ1 => C nX12_mixes [.ref 63, .long (Int32.toInt64 x2)] σ1 (zPV fun σ3 => X 126 [some (.ref 63), some (.int v1), some (.int v2), some (.int (v3 + 1))] [] σ3))) (X 119 [some (.ref 63), some (.int v1), some (.int (v2 + 1)), none] [] σ)) : X 126 [some (.ref 63), some (.int v1), some (.int v2), some (.int v3)] [] σ := zSeq_ok hX zm_X12_digest zo_X12_digest_126 126 126 _ _ _ zk_X12_digest_126 h
set_option maxRecDepth 100000 in
set_option maxHeartbeats 4000000 in
theorem zr_X12_digest_154 {C : zCa} {post : zPo} {X : zX} (hX : zClosed none C post nX12_digest X) (σ : zS) (h : X 156 [some (.ref 63), none, some (.int 0), none] [] σ) : X 154 [some (.ref 63), none, none, none] [] σ := zSeq_ok hX zm_X12_digest zo_X12_digest_126 126 154 _ _ _ zk_X12_digest_126 h
set_option maxRecDepth 100000 in
set_option maxHeartbeats 4000000 in
theorem zr_X12_digest_156 {C : zCa} {post : zPo} {X : zX} (hX : zClosed none C post nX12_digest X) (v2 : Int32) (σ : zS) (h : zIf ((v2 : Int32) < 7) (vp_in 207 (zN 64) ∧ (zIf ((σ.1 64 (Int32.toNatClampNeg 207) : Int32) = 1) (C nX12_total [.ref 63, .int v2] σ (zPJ fun x2 σ1 => C nX12_mixes [.ref 63, .long x2] σ1 (zPV fun σ3 => X 156 [some (.ref 63), none, some (.int (v2 + 1)), none] [] σ3))) (X 191 [some (.ref 63), none, some (.int 0), none] [] σ))) (X 191 [some (.ref 63), none, some (.int 0), none] [] σ)) : X 156 [some (.ref 63), none, some (.int v2), none] [] σ := zSeq_ok hX zm_X12_digest zo_X12_digest_156 156 156 _ _ _ zk_X12_digest_156 h
set_option maxRecDepth 100000 in
set_option maxHeartbeats 4000000 in
theorem zr_X12_digest_191 {C : zCa} {post : zPo} {X : zX} (hX : zClosed none C post nX12_digest X) (v2 : Int32) (σ : zS) (h : zIf ((v2 : Int32) < (σ.1 63 16)) (vp_in v2 (zN 76) ∧ (C nX12_mixes [.ref 63, .long (Int32.toInt64 (σ.1 76 (Int32.toNatClampNeg v2)))] σ (zPV fun σ1 => X 191 [some (.ref 63), none, some (.int (v2 + 1)), none] [] σ1))) (post (some (.long (σ.2 63 23))) σ)) : X 191 [some (.ref 63), none, some (.int v2), none] [] σ := zSeq_ok hX zm_X12_digest zo_X12_digest_191 191 191 _ _ _ zk_X12_digest_191 h
theorem ze_X12_digest {d : Nat} {post : zPo} (σ : zS) (h : ∀ X : zX, zClosed none (zCall d) post nX12_digest X → X 0 [some (.ref 63), none, none, none] [] σ) : zCall (d + 1) nX12_digest [.ref 63] σ post := h
-- X12_leastWithin(63,) depth 3
def zo_X12_leastWithin_0 : List zOp := [(.aload_n 0, 1, 0, 0, 0, 0, 0, 0, 0, []), (.getfield 7, 4, 12, 0, 0, 0, 1051, 0, 0, []), (.sipush 183, 7, 0, 0, 0, 0, 0, 183, 0, []), (.iaload, 8, 0, 0, 0, 0, 0, 0, 0, []), (.istore 4, 10, 4, 0, 0, 0, 0, 0, 0, [])]
set_option maxRecDepth 100000 in
theorem zk_X12_leastWithin_0 : zOks nX12_leastWithin zo_X12_leastWithin_0 0 = true := by decide +kernel
def zo_X12_leastWithin_10 : List zOp := [(.iload 4, 12, 4, 0, 0, 0, 0, 0, 0, []), (.aload_n 0, 13, 0, 0, 0, 0, 0, 0, 0, []), (.getfield 7, 16, 12, 0, 0, 0, 1051, 0, 0, []), (.sipush 184, 19, 0, 0, 0, 0, 0, 184, 0, []), (.iaload, 20, 0, 0, 0, 0, 0, 0, 0, []), (.if_icmp .gt 25, 23, 45, 0, 0, 0, 0, 0, 0, []), (.aload_n 0, 24, 0, 0, 0, 0, 0, 0, 0, []), (.iload_n 1, 25, 1, 0, 0, 0, 0, 0, 0, []), (.iload 4, 27, 4, 0, 0, 0, 0, 0, 0, []), (.invokevirtual 94, 30, 142, 3, 1, 12, 1253, 0, 0, []), (.i2l, 31, 0, 0, 0, 0, 0, 0, 0, []), (.lload_n 2, 32, 2, 0, 0, 0, 0, 0, 0, []), (.lcmp, 33, 0, 0, 0, 0, 0, 0, 0, []), (.ifCond .gt 6, 36, 39, 0, 0, 0, 0, 0, 0, []), (.iload 4, 38, 4, 0, 0, 0, 0, 0, 0, []), (.ireturn, 39, 0, 0, 0, 0, 0, 0, 0, []), (.iinc 4 1, 42, 4, 0, 0, 0, 0, 1, 0, []), (.goto (-32), 45, 10, 0, 0, 0, 0, 0, 0, []), (.aload_n 0, 46, 0, 0, 0, 0, 0, 0, 0, []), (.getfield 7, 49, 12, 0, 0, 0, 1051, 0, 0, []), (.sipush 184, 52, 0, 0, 0, 0, 0, 184, 0, []), (.iaload, 53, 0, 0, 0, 0, 0, 0, 0, []), (.ireturn, 54, 0, 0, 0, 0, 0, 0, 0, [])]
set_option maxRecDepth 100000 in
theorem zk_X12_leastWithin_10 : zOks nX12_leastWithin zo_X12_leastWithin_10 10 = true := by decide +kernel
def zm_X12_leastWithin : List (Nat × List Bool) := [(0, [true, true, true, false, false]), (10, [true, true, true, false, true])]
set_option maxRecDepth 100000 in
set_option maxHeartbeats 4000000 in
theorem zr_X12_leastWithin_0 {C : zCa} {post : zPo} {X : zX} (hX : zClosed none C post nX12_leastWithin X) (p0 : Int32) (p1 : Int64) (σ : zS) (h : vp_in 183 (zN 64) ∧ (X 10 [some (.ref 63), some (.int p0), some (.long p1), none, some (.int (σ.1 64 (Int32.toNatClampNeg 183)))] [] σ)) : X 0 [some (.ref 63), some (.int p0), some (.long p1), none, none] [] σ := zSeq_ok hX zm_X12_leastWithin zo_X12_leastWithin_0 0 0 _ _ _ zk_X12_leastWithin_0 h
set_option maxRecDepth 100000 in
set_option maxHeartbeats 4000000 in
theorem zr_X12_leastWithin_10 {C : zCa} {post : zPo} {X : zX} (hX : zClosed none C post nX12_leastWithin X) (v1 : Int32) (v2 : Int64) (v4 : Int32) (σ : zS) (h : vp_in 184 (zN 64) ∧ (zIf ((v4 : Int32) ≤ (σ.1 64 (Int32.toNatClampNeg 184))) (C nX12_bits [.ref 63, .int v1, .int v4] σ (zPI fun x2 σ1 => zIf ((lg_cmp (Int32.toInt64 x2) v2 : Int32) ≤ 0) (post (some (.int v4)) σ1) (X 10 [some (.ref 63), some (.int v1), some (.long v2), none, some (.int (v4 + 1))] [] σ1))) (vp_in 184 (zN 64) ∧ (post (some (.int (σ.1 64 (Int32.toNatClampNeg 184)))) σ)))) : X 10 [some (.ref 63), some (.int v1), some (.long v2), none, some (.int v4)] [] σ := zSeq_ok hX zm_X12_leastWithin zo_X12_leastWithin_10 10 10 _ _ _ zk_X12_leastWithin_10 h
theorem ze_X12_leastWithin {d : Nat} {post : zPo} (p0 : Int32) (p1 : Int64) (σ : zS) (h : ∀ X : zX, zClosed none (zCall d) post nX12_leastWithin X → X 0 [some (.ref 63), some (.int p0), some (.long p1), none, none] [] σ) : zCall (d + 1) nX12_leastWithin [.ref 63, .int p0, .long p1] σ post := h
-- X12_root() depth 1
def zo_X12_root_0 : List zOp := [(.iconst 0, 1, 0, 0, 0, 0, 0, 0, 0, []), (.istore_n 1, 2, 1, 0, 0, 0, 0, 0, 0, [])]
set_option maxRecDepth 100000 in
theorem zk_X12_root_0 : zOks nX12_root zo_X12_root_0 0 = true := by decide +kernel
def zo_X12_root_2 : List zOp := [(.iload_n 1, 3, 1, 0, 0, 0, 0, 0, 0, []), (.iconst 1, 4, 0, 0, 0, 0, 0, 1, 0, []), (.iadd, 5, 0, 0, 0, 0, 0, 0, 0, []), (.iload_n 1, 6, 1, 0, 0, 0, 0, 0, 0, []), (.iconst 1, 7, 0, 0, 0, 0, 0, 1, 0, []), (.iadd, 8, 0, 0, 0, 0, 0, 0, 0, []), (.imul, 9, 0, 0, 0, 0, 0, 0, 0, []), (.iload_n 0, 10, 0, 0, 0, 0, 0, 0, 0, []), (.if_icmp .gt 9, 13, 19, 0, 0, 0, 0, 0, 0, []), (.iinc 1 1, 16, 1, 0, 0, 0, 0, 1, 0, []), (.goto (-14), 19, 2, 0, 0, 0, 0, 0, 0, []), (.iload_n 1, 20, 1, 0, 0, 0, 0, 0, 0, []), (.ireturn, 21, 0, 0, 0, 0, 0, 0, 0, [])]
set_option maxRecDepth 100000 in
theorem zk_X12_root_2 : zOks nX12_root zo_X12_root_2 2 = true := by decide +kernel
def zm_X12_root : List (Nat × List Bool) := [(0, [true, false]), (2, [true, true])]
set_option maxRecDepth 100000 in
set_option maxHeartbeats 4000000 in
theorem zr_X12_root_0 {C : zCa} {post : zPo} {X : zX} (hX : zClosed none C post nX12_root X) (p0 : Int32) (σ : zS) (h : X 2 [some (.int p0), some (.int 0)] [] σ) : X 0 [some (.int p0), none] [] σ := zSeq_ok hX zm_X12_root zo_X12_root_0 0 0 _ _ _ zk_X12_root_0 h
set_option maxRecDepth 100000 in
set_option maxHeartbeats 4000000 in
theorem zr_X12_root_2 {C : zCa} {post : zPo} {X : zX} (hX : zClosed none C post nX12_root X) (v0 : Int32) (v1 : Int32) (σ : zS) (h : zIf (((v1 + 1) * (v1 + 1) : Int32) ≤ v0) (X 2 [some (.int v0), some (.int (v1 + 1))] [] σ) (post (some (.int v1)) σ)) : X 2 [some (.int v0), some (.int v1)] [] σ := zSeq_ok hX zm_X12_root zo_X12_root_2 2 2 _ _ _ zk_X12_root_2 h
theorem ze_X12_root {d : Nat} {post : zPo} (p0 : Int32) (σ : zS) (h : ∀ X : zX, zClosed none (zCall d) post nX12_root X → X 0 [some (.int p0), none] [] σ) : zCall (d + 1) nX12_root [.int p0] σ post := h
-- X12_share(63,) depth 2
def zo_X12_share_0 : List zOp := [(.aload_n 0, 1, 0, 0, 0, 0, 0, 0, 0, []), (.iload_n 1, 2, 1, 0, 0, 0, 0, 0, 0, []), (.invokevirtual 81, 5, 141, 2, 1, 12, 1203, 0, 0, []), (.aload_n 0, 6, 0, 0, 0, 0, 0, 0, 0, []), (.iload_n 1, 7, 1, 0, 0, 0, 0, 0, 0, []), (.invokevirtual 87, 10, 143, 2, 1, 12, 1268, 0, 0, []), (.imul, 11, 0, 0, 0, 0, 0, 0, 0, []), (.bipush 64, 13, 0, 0, 0, 0, 0, 64, 0, []), (.imul, 14, 0, 0, 0, 0, 0, 0, 0, []), (.invokestatic 173, 17, 180, 1, 1, 0, 1319, 0, 0, []), (.ireturn, 18, 0, 0, 0, 0, 0, 0, 0, [])]
set_option maxRecDepth 100000 in
theorem zk_X12_share_0 : zOks nX12_share zo_X12_share_0 0 = true := by decide +kernel
def zm_X12_share : List (Nat × List Bool) := [(0, [true, true])]
set_option maxRecDepth 100000 in
set_option maxHeartbeats 4000000 in
theorem zr_X12_share_0 {C : zCa} {post : zPo} {X : zX} (hX : zClosed none C post nX12_share X) (p0 : Int32) (σ : zS) (h : C nX12_work [.ref 63, .int p0] σ (zPI fun x2 σ1 => C nX12_weight [.ref 63, .int p0] σ1 (zPI fun x4 σ3 => C nX12_root [.int ((x2 * x4) * 64)] σ3 (zPI fun x6 σ5 => post (some (.int x6)) σ5)))) : X 0 [some (.ref 63), some (.int p0)] [] σ := zSeq_ok hX zm_X12_share zo_X12_share_0 0 0 _ _ _ zk_X12_share_0 h
theorem ze_X12_share {d : Nat} {post : zPo} (p0 : Int32) (σ : zS) (h : ∀ X : zX, zClosed none (zCall d) post nX12_share X → X 0 [some (.ref 63), some (.int p0)] [] σ) : zCall (d + 1) nX12_share [.ref 63, .int p0] σ post := h
-- X12_distribute(63,) depth 7
def zo_X12_distribute_0 : List zOp := [(.iload_n 1, 1, 1, 0, 0, 0, 0, 0, 0, []), (.iconst 0, 2, 0, 0, 0, 0, 0, 0, 0, []), (.ldc 176, 4, 0, 0, 0, 0, 1314, 10000000, 0, []), (.invokestatic 59, 7, 133, 3, 1, 0, 1128, 0, 0, []), (.ifCond .ne 6, 10, 13, 0, 0, 0, 0, 0, 0, []), (.bipush (-2), 12, 0, 0, 0, 0, 0, (-2), 0, []), (.ireturn, 13, 0, 0, 0, 0, 0, 0, 0, []), (.aload_n 0, 14, 0, 0, 0, 0, 0, 0, 0, []), (.getfield 7, 17, 12, 0, 0, 0, 1051, 0, 0, []), (.iconst 0, 18, 0, 0, 0, 0, 0, 0, 0, []), (.iaload, 19, 0, 0, 0, 0, 0, 0, 0, []), (.ifCond .eq 16, 22, 35, 0, 0, 0, 0, 0, 0, []), (.iload_n 1, 23, 1, 0, 0, 0, 0, 0, 0, []), (.bipush 40, 25, 0, 0, 0, 0, 0, 40, 0, []), (.aload_n 0, 26, 0, 0, 0, 0, 0, 0, 0, []), (.getfield 7, 29, 12, 0, 0, 0, 1051, 0, 0, []), (.iconst 0, 30, 0, 0, 0, 0, 0, 0, 0, []), (.iaload, 31, 0, 0, 0, 0, 0, 0, 0, []), (.imul, 32, 0, 0, 0, 0, 0, 0, 0, []), (.if_icmp .ge 6, 35, 38, 0, 0, 0, 0, 0, 0, []), (.bipush (-3), 37, 0, 0, 0, 0, 0, (-3), 0, []), (.ireturn, 38, 0, 0, 0, 0, 0, 0, 0, []), (.aload_n 0, 39, 0, 0, 0, 0, 0, 0, 0, []), (.invokevirtual 149, 42, 139, 1, 0, 12, 1191, 0, 0, []), (.lconst 0, 43, 0, 0, 0, 0, 0, 0, 0, []), (.lstore_n 2, 44, 2, 0, 0, 0, 0, 0, 0, []), (.iconst 0, 45, 0, 0, 0, 0, 0, 0, 0, []), (.istore 4, 47, 4, 0, 0, 0, 0, 0, 0, [])]
set_option maxRecDepth 100000 in
theorem zk_X12_distribute_0 : zOks nX12_distribute zo_X12_distribute_0 0 = true := by decide +kernel
def zo_X12_distribute_47 : List zOp := [(.iload 4, 49, 4, 0, 0, 0, 0, 0, 0, []), (.aload_n 0, 50, 0, 0, 0, 0, 0, 0, 0, []), (.getfield 7, 53, 12, 0, 0, 0, 1051, 0, 0, []), (.iconst 0, 54, 0, 0, 0, 0, 0, 0, 0, []), (.iaload, 55, 0, 0, 0, 0, 0, 0, 0, []), (.if_icmp .ge 19, 58, 74, 0, 0, 0, 0, 0, 0, []), (.lload_n 2, 59, 2, 0, 0, 0, 0, 0, 0, []), (.aload_n 0, 60, 0, 0, 0, 0, 0, 0, 0, []), (.iload 4, 62, 4, 0, 0, 0, 0, 0, 0, []), (.invokevirtual 177, 65, 181, 2, 1, 12, 1315, 0, 0, []), (.i2l, 66, 0, 0, 0, 0, 0, 0, 0, []), (.ladd, 67, 0, 0, 0, 0, 0, 0, 0, []), (.lstore_n 2, 68, 2, 0, 0, 0, 0, 0, 0, []), (.iinc 4 1, 71, 4, 0, 0, 0, 0, 1, 0, []), (.goto (-24), 74, 47, 0, 0, 0, 0, 0, 0, []), (.iconst 0, 75, 0, 0, 0, 0, 0, 0, 0, []), (.istore 4, 77, 4, 0, 0, 0, 0, 0, 0, [])]
set_option maxRecDepth 100000 in
theorem zk_X12_distribute_47 : zOks nX12_distribute zo_X12_distribute_47 47 = true := by decide +kernel
def zo_X12_distribute_77 : List zOp := [(.iload 4, 79, 4, 0, 0, 0, 0, 0, 0, []), (.aload_n 0, 80, 0, 0, 0, 0, 0, 0, 0, []), (.getfield 7, 83, 12, 0, 0, 0, 1051, 0, 0, []), (.iconst 0, 84, 0, 0, 0, 0, 0, 0, 0, []), (.iaload, 85, 0, 0, 0, 0, 0, 0, 0, []), (.if_icmp .ge 64, 88, 149, 0, 0, 0, 0, 0, 0, []), (.ldc2_w 180, 91, 0, 0, 0, 0, 1322, 0, 40, []), (.iload_n 1, 92, 1, 0, 0, 0, 0, 0, 0, []), (.i2l, 93, 0, 0, 0, 0, 0, 0, 0, []), (.ldc2_w 180, 96, 0, 0, 0, 0, 1322, 0, 40, []), (.aload_n 0, 97, 0, 0, 0, 0, 0, 0, 0, []), (.getfield 7, 100, 12, 0, 0, 0, 1051, 0, 0, []), (.iconst 0, 101, 0, 0, 0, 0, 0, 0, 0, []), (.iaload, 102, 0, 0, 0, 0, 0, 0, 0, []), (.i2l, 103, 0, 0, 0, 0, 0, 0, 0, []), (.lmul, 104, 0, 0, 0, 0, 0, 0, 0, []), (.lsub, 105, 0, 0, 0, 0, 0, 0, 0, []), (.aload_n 0, 106, 0, 0, 0, 0, 0, 0, 0, []), (.iload 4, 108, 4, 0, 0, 0, 0, 0, 0, []), (.invokevirtual 177, 111, 181, 2, 1, 12, 1315, 0, 0, []), (.i2l, 112, 0, 0, 0, 0, 0, 0, 0, []), (.lmul, 113, 0, 0, 0, 0, 0, 0, 0, []), (.lload_n 2, 114, 2, 0, 0, 0, 0, 0, 0, []), (.ldiv, 115, 0, 0, 0, 0, 0, 0, 0, []), (.ladd, 116, 0, 0, 0, 0, 0, 0, 0, []), (.lstore 5, 118, 5, 0, 0, 0, 0, 0, 0, []), (.aload_n 0, 119, 0, 0, 0, 0, 0, 0, 0, []), (.getfield 7, 122, 12, 0, 0, 0, 1051, 0, 0, []), (.sipush 208, 125, 0, 0, 0, 0, 0, 208, 0, []), (.iload 4, 127, 4, 0, 0, 0, 0, 0, 0, []), (.iadd, 128, 0, 0, 0, 0, 0, 0, 0, []), (.aload_n 0, 129, 0, 0, 0, 0, 0, 0, 0, []), (.iload 4, 131, 4, 0, 0, 0, 0, 0, 0, []), (.aload_n 0, 132, 0, 0, 0, 0, 0, 0, 0, []), (.iload 4, 134, 4, 0, 0, 0, 0, 0, 0, []), (.lload 5, 136, 5, 0, 0, 0, 0, 0, 0, []), (.invokevirtual 182, 139, 182, 3, 1, 12, 1323, 0, 0, []), (.invokevirtual 163, 142, 145, 3, 1, 12, 1283, 0, 0, []), (.iastore, 143, 0, 0, 0, 0, 0, 0, 0, []), (.iinc 4 1, 146, 4, 0, 0, 0, 0, 1, 0, []), (.goto (-69), 149, 77, 0, 0, 0, 0, 0, 0, []), (.aload_n 0, 150, 0, 0, 0, 0, 0, 0, 0, []), (.getfield 7, 153, 12, 0, 0, 0, 1051, 0, 0, []), (.sipush 207, 156, 0, 0, 0, 0, 0, 207, 0, []), (.iconst 1, 157, 0, 0, 0, 0, 0, 1, 0, []), (.iastore, 158, 0, 0, 0, 0, 0, 0, 0, []), (.aload_n 0, 159, 0, 0, 0, 0, 0, 0, 0, []), (.invokevirtual 169, 162, 149, 1, 1, 12, 1290, 0, 0, []), (.ireturn, 163, 0, 0, 0, 0, 0, 0, 0, [])]
set_option maxRecDepth 100000 in
theorem zk_X12_distribute_77 : zOks nX12_distribute zo_X12_distribute_77 77 = true := by decide +kernel
def zm_X12_distribute : List (Nat × List Bool) := [(0, [true, true, false, false, false, false, false]), (47, [true, true, true, false, true, false, false]), (77, [true, true, true, false, true, false, false])]
set_option maxRecDepth 100000 in
set_option maxHeartbeats 4000000 in
theorem zr_X12_distribute_0 {C : zCa} {post : zPo} {X : zX} (hX : zClosed none C post nX12_distribute X) (p0 : Int32) (σ : zS) (h : C nX12_in [.int p0, .int 0, .int 10000000] σ (zPI fun x2 σ1 => zIf ((x2 : Int32) = 0) (post (some (.int (-2))) σ1) (vp_in 0 (zN 64) ∧ (zIf ((σ1.1 64 (Int32.toNatClampNeg 0) : Int32) = 0) (post (some (.int (-3))) σ1) (vp_in 0 (zN 64) ∧ (zIf ((p0 : Int32) < (40 * (σ1.1 64 (Int32.toNatClampNeg 0)))) (post (some (.int (-3))) σ1) (C nX12_findsTypes [.ref 63] σ1 (zPV fun σ3 => X 47 [some (.ref 63), some (.int p0), some (.long 0), none, some (.int 0), none, none] [] σ3)))))))) : X 0 [some (.ref 63), some (.int p0), none, none, none, none, none] [] σ := zSeq_ok hX zm_X12_distribute zo_X12_distribute_0 0 0 _ _ _ zk_X12_distribute_0 h
set_option maxRecDepth 100000 in
set_option maxHeartbeats 4000000 in
theorem zr_X12_distribute_47 {C : zCa} {post : zPo} {X : zX} (hX : zClosed none C post nX12_distribute X) (v1 : Int32) (v2 : Int64) (v4 : Int32) (σ : zS) (h : vp_in 0 (zN 64) ∧ (zIf ((v4 : Int32) < (σ.1 64 (Int32.toNatClampNeg 0))) (C nX12_share [.ref 63, .int v4] σ (zPI fun x2 σ1 => X 47 [some (.ref 63), some (.int v1), some (.long (v2 + (Int32.toInt64 x2))), none, some (.int (v4 + 1)), none, none] [] σ1)) (X 77 [some (.ref 63), some (.int v1), some (.long v2), none, some (.int 0), none, none] [] σ))) : X 47 [some (.ref 63), some (.int v1), some (.long v2), none, some (.int v4), none, none] [] σ := zSeq_ok hX zm_X12_distribute zo_X12_distribute_47 47 47 _ _ _ zk_X12_distribute_47 h
set_option maxRecDepth 100000 in
set_option maxHeartbeats 4000000 in
theorem zr_X12_distribute_77 {C : zCa} {post : zPo} {X : zX} (hX : zClosed none C post nX12_distribute X) (v1 : Int32) (v2 : Int64) (v4 : Int32) (σ : zS) (h : vp_in 0 (zN 64) ∧ (zIf ((v4 : Int32) < (σ.1 64 (Int32.toNatClampNeg 0))) (vp_in 0 (zN 64) ∧ (C nX12_share [.ref 63, .int v4] σ (zPI fun x2 σ1 => ¬ (v2 : Int64) = 0 ∧ (C nX12_leastWithin [.ref 63, .int v4, .long (40 + ((((Int32.toInt64 v1) - (40 * (Int32.toInt64 (σ.1 64 (Int32.toNatClampNeg 0))))) * (Int32.toInt64 x2)) / v2))] σ1 (zPI fun x4 σ3 => C nX12_settled [.ref 63, .int v4, .int x4] σ3 (zPI fun x6 σ5 => vp_in (208 + v4) (zN 64) ∧ (X 77 [some (.ref 63), some (.int v1), some (.long v2), none, some (.int (v4 + 1)), none, none] [] (zSI σ5 64 (Int32.toNatClampNeg (208 + v4)) x6)))))))) (vp_in 207 (zN 64) ∧ (C nX12_underflowsNow [.ref 63] (zSI σ 64 (Int32.toNatClampNeg 207) 1) (zPI fun x8 σ7 => post (some (.int x8)) σ7))))) : X 77 [some (.ref 63), some (.int v1), some (.long v2), none, some (.int v4), none, none] [] σ := zSeq_ok hX zm_X12_distribute zo_X12_distribute_77 77 77 _ _ _ zk_X12_distribute_77 h
theorem ze_X12_distribute {d : Nat} {post : zPo} (p0 : Int32) (σ : zS) (h : ∀ X : zX, zClosed none (zCall d) post nX12_distribute X → X 0 [some (.ref 63), some (.int p0), none, none, none, none, none] [] σ) : zCall (d + 1) nX12_distribute [.ref 63, .int p0] σ post := h
-- X12_drop(63,) depth 2
def zo_X12_drop_0 : List zOp := [(.aload_n 0, 1, 0, 0, 0, 0, 0, 0, 0, []), (.getfield 7, 4, 12, 0, 0, 0, 1051, 0, 0, []), (.iconst 0, 5, 0, 0, 0, 0, 0, 0, 0, []), (.iaload, 6, 0, 0, 0, 0, 0, 0, 0, []), (.ifCond .ne 6, 9, 12, 0, 0, 0, 0, 0, 0, []), (.bipush (-3), 11, 0, 0, 0, 0, 0, (-3), 0, []), (.ireturn, 12, 0, 0, 0, 0, 0, 0, 0, []), (.aload_n 0, 13, 0, 0, 0, 0, 0, 0, 0, []), (.getfield 7, 16, 12, 0, 0, 0, 1051, 0, 0, []), (.iconst 0, 17, 0, 0, 0, 0, 0, 0, 0, []), (.dup2, 18, 0, 0, 0, 0, 0, 0, 0, []), (.iaload, 19, 0, 0, 0, 0, 0, 0, 0, []), (.iconst 1, 20, 0, 0, 0, 0, 0, 1, 0, []), (.isub, 21, 0, 0, 0, 0, 0, 0, 0, []), (.iastore, 22, 0, 0, 0, 0, 0, 0, 0, []), (.aload_n 0, 23, 0, 0, 0, 0, 0, 0, 0, []), (.invokevirtual 112, 26, 150, 1, 0, 12, 1131, 0, 0, []), (.aload_n 0, 27, 0, 0, 0, 0, 0, 0, 0, []), (.getfield 7, 30, 12, 0, 0, 0, 1051, 0, 0, []), (.iconst 0, 31, 0, 0, 0, 0, 0, 0, 0, []), (.iaload, 32, 0, 0, 0, 0, 0, 0, 0, []), (.ireturn, 33, 0, 0, 0, 0, 0, 0, 0, [])]
set_option maxRecDepth 100000 in
theorem zk_X12_drop_0 : zOks nX12_drop zo_X12_drop_0 0 = true := by decide +kernel
def zm_X12_drop : List (Nat × List Bool) := [(0, [true])]
set_option maxRecDepth 100000 in
set_option maxHeartbeats 4000000 in
theorem zr_X12_drop_0 {C : zCa} {post : zPo} {X : zX} (hX : zClosed none C post nX12_drop X) (σ : zS) (h : vp_in 0 (zN 64) ∧ (zIf ((σ.1 64 (Int32.toNatClampNeg 0) : Int32) = 0) (post (some (.int (-3))) σ) (vp_in 0 (zN 64) ∧ (vp_in 0 (zN 64) ∧ (C nX12_forgets [.ref 63] (zSI σ 64 (Int32.toNatClampNeg 0) ((σ.1 64 (Int32.toNatClampNeg 0)) - 1)) (zPV fun σ1 => vp_in 0 (zN 64) ∧ (post (some (.int (σ1.1 64 (Int32.toNatClampNeg 0)))) σ1))))))) : X 0 [some (.ref 63)] [] σ := zSeq_ok hX zm_X12_drop zo_X12_drop_0 0 0 _ _ _ zk_X12_drop_0 h
theorem ze_X12_drop {d : Nat} {post : zPo} (σ : zS) (h : ∀ X : zX, zClosed none (zCall d) post nX12_drop X → X 0 [some (.ref 63)] [] σ) : zCall (d + 1) nX12_drop [.ref 63] σ post := h
-- X12_fails(63,) depth 1
def zo_X12_fails_0 : List zOp := [(.aload_n 0, 1, 0, 0, 0, 0, 0, 0, 0, []), (.aload_n 0, 2, 0, 0, 0, 0, 0, 0, 0, []), (.getfield 127, 5, 12, 18, 1, 0, 1069, 0, 0, []), (.iconst (-1), 6, 0, 0, 0, 0, 0, (-1), 0, []), (.if_icmp .ne 7, 9, 13, 0, 0, 0, 0, 0, 0, []), (.iload_n 1, 10, 1, 0, 0, 0, 0, 0, 0, []), (.goto 7, 13, 17, 0, 0, 0, 0, 0, 0, []), (.aload_n 0, 14, 0, 0, 0, 0, 0, 0, 0, []), (.getfield 127, 17, 12, 18, 1, 0, 1069, 0, 0, []), (.putfield 127, 20, 12, 18, 1, 0, 1069, 0, 0, []), (.return_, 21, 0, 0, 0, 0, 0, 0, 0, [])]
set_option maxRecDepth 100000 in
theorem zk_X12_fails_0 : zOks nX12_fails zo_X12_fails_0 0 = true := by decide +kernel
def zm_X12_fails : List (Nat × List Bool) := [(0, [true, true])]
set_option maxRecDepth 100000 in
set_option maxHeartbeats 4000000 in
theorem zr_X12_fails_0 {C : zCa} {post : zPo} {X : zX} (hX : zClosed none C post nX12_fails X) (p0 : Int32) (σ : zS) (h : zIf ((σ.1 63 18 : Int32) = (-1)) (post none (zSI σ 63 18 p0)) (post none (zSI σ 63 18 (σ.1 63 18)))) : X 0 [some (.ref 63), some (.int p0)] [] σ := zSeq_ok hX zm_X12_fails zo_X12_fails_0 0 0 _ _ _ zk_X12_fails_0 h
theorem ze_X12_fails {d : Nat} {post : zPo} (p0 : Int32) (σ : zS) (h : ∀ X : zX, zClosed none (zCall d) post nX12_fails X → X 0 [some (.ref 63), some (.int p0)] [] σ) : zCall (d + 1) nX12_fails [.ref 63, .int p0] σ post := h
-- X12_firstUnderflow(63,) depth 6
def zo_X12_firstUnderflow_0 : List zOp := [(.aload_n 0, 1, 0, 0, 0, 0, 0, 0, 0, []), (.invokevirtual 109, 4, 148, 1, 0, 12, 1294, 0, 0, []), (.iconst 0, 5, 0, 0, 0, 0, 0, 0, 0, []), (.istore_n 1, 6, 1, 0, 0, 0, 0, 0, 0, [])]
set_option maxRecDepth 100000 in
theorem zk_X12_firstUnderflow_0 : zOks nX12_firstUnderflow zo_X12_firstUnderflow_0 0 = true := by decide +kernel
def zo_X12_firstUnderflow_6 : List zOp := [(.iload_n 1, 7, 1, 0, 0, 0, 0, 0, 0, []), (.aload_n 0, 8, 0, 0, 0, 0, 0, 0, 0, []), (.getfield 7, 11, 12, 0, 0, 0, 1051, 0, 0, []), (.iconst 0, 12, 0, 0, 0, 0, 0, 0, 0, []), (.iaload, 13, 0, 0, 0, 0, 0, 0, 0, []), (.if_icmp .ge 18, 16, 31, 0, 0, 0, 0, 0, 0, []), (.aload_n 0, 17, 0, 0, 0, 0, 0, 0, 0, []), (.getfield 40, 20, 12, 12, 0, 0, 1063, 0, 0, []), (.iload_n 1, 21, 1, 0, 0, 0, 0, 0, 0, []), (.iaload, 22, 0, 0, 0, 0, 0, 0, 0, []), (.ifCond .ne 9, 25, 31, 0, 0, 0, 0, 0, 0, []), (.iinc 1 1, 28, 1, 0, 0, 0, 0, 1, 0, []), (.goto (-22), 31, 6, 0, 0, 0, 0, 0, 0, []), (.iload_n 1, 32, 1, 0, 0, 0, 0, 0, 0, []), (.aload_n 0, 33, 0, 0, 0, 0, 0, 0, 0, []), (.getfield 7, 36, 12, 0, 0, 0, 1051, 0, 0, []), (.iconst 0, 37, 0, 0, 0, 0, 0, 0, 0, []), (.iaload, 38, 0, 0, 0, 0, 0, 0, 0, []), (.if_icmp .ne 7, 41, 45, 0, 0, 0, 0, 0, 0, []), (.iconst (-1), 42, 0, 0, 0, 0, 0, (-1), 0, []), (.goto 4, 45, 46, 0, 0, 0, 0, 0, 0, []), (.iload_n 1, 46, 1, 0, 0, 0, 0, 0, 0, []), (.ireturn, 47, 0, 0, 0, 0, 0, 0, 0, [])]
set_option maxRecDepth 100000 in
theorem zk_X12_firstUnderflow_6 : zOks nX12_firstUnderflow zo_X12_firstUnderflow_6 6 = true := by decide +kernel
def zm_X12_firstUnderflow : List (Nat × List Bool) := [(0, [true, false]), (6, [true, true])]
set_option maxRecDepth 100000 in
set_option maxHeartbeats 4000000 in
theorem zr_X12_firstUnderflow_0 {C : zCa} {post : zPo} {X : zX} (hX : zClosed none C post nX12_firstUnderflow X) (σ : zS) (h : C nX12_runsAsSet [.ref 63] σ (zPV fun σ1 => X 6 [some (.ref 63), some (.int 0)] [] σ1)) : X 0 [some (.ref 63), none] [] σ := zSeq_ok hX zm_X12_firstUnderflow zo_X12_firstUnderflow_0 0 0 _ _ _ zk_X12_firstUnderflow_0 h
set_option maxRecDepth 100000 in
set_option maxHeartbeats 4000000 in
theorem zr_X12_firstUnderflow_6 {C : zCa} {post : zPo} {X : zX} (hX : zClosed none C post nX12_firstUnderflow X) (v1 : Int32) (σ : zS) (h : vp_in 0 (zN 64) ∧ (zIf ((v1 : Int32) < (σ.1 64 (Int32.toNatClampNeg 0))) (vp_in v1 (zN 74) ∧ (zIf ((σ.1 74 (Int32.toNatClampNeg v1) : Int32) = 0) (X 6 [some (.ref 63), some (.int (v1 + 1))] [] σ) (vp_in 0 (zN 64) ∧ (zIf ((v1 : Int32) = (σ.1 64 (Int32.toNatClampNeg 0))) (post (some (.int (-1))) σ) (post (some (.int v1)) σ))))) (vp_in 0 (zN 64) ∧ (zIf ((v1 : Int32) = (σ.1 64 (Int32.toNatClampNeg 0))) (post (some (.int (-1))) σ) (post (some (.int v1)) σ))))) : X 6 [some (.ref 63), some (.int v1)] [] σ := zSeq_ok hX zm_X12_firstUnderflow zo_X12_firstUnderflow_6 6 6 _ _ _ zk_X12_firstUnderflow_6 h
theorem ze_X12_firstUnderflow {d : Nat} {post : zPo} (σ : zS) (h : ∀ X : zX, zClosed none (zCall d) post nX12_firstUnderflow X → X 0 [some (.ref 63), none] [] σ) : zCall (d + 1) nX12_firstUnderflow [.ref 63] σ post := h
-- X12_gainOf(63,) depth 7
def zo_X12_gainOf_0 : List zOp := [(.aload_n 0, 1, 0, 0, 0, 0, 0, 0, 0, []), (.getfield 7, 4, 12, 0, 0, 0, 1051, 0, 0, []), (.sipush 208, 7, 0, 0, 0, 0, 0, 208, 0, []), (.iload_n 1, 8, 1, 0, 0, 0, 0, 0, 0, []), (.iadd, 9, 0, 0, 0, 0, 0, 0, 0, []), (.iaload, 10, 0, 0, 0, 0, 0, 0, 0, []), (.istore 5, 12, 5, 0, 0, 0, 0, 0, 0, []), (.iload 5, 14, 5, 0, 0, 0, 0, 0, 0, []), (.aload_n 0, 15, 0, 0, 0, 0, 0, 0, 0, []), (.getfield 7, 18, 12, 0, 0, 0, 1051, 0, 0, []), (.sipush 183, 21, 0, 0, 0, 0, 0, 183, 0, []), (.iaload, 22, 0, 0, 0, 0, 0, 0, 0, []), (.if_icmp .gt 7, 25, 29, 0, 0, 0, 0, 0, 0, []), (.ldc2_w 201, 28, 0, 0, 0, 0, 1356, 0, (-1), []), (.lreturn, 29, 0, 0, 0, 0, 0, 0, 0, []), (.aload_n 0, 30, 0, 0, 0, 0, 0, 0, 0, []), (.iload_n 1, 31, 1, 0, 0, 0, 0, 0, 0, []), (.iload 5, 33, 5, 0, 0, 0, 0, 0, 0, []), (.iconst 1, 34, 0, 0, 0, 0, 0, 1, 0, []), (.isub, 35, 0, 0, 0, 0, 0, 0, 0, []), (.invokevirtual 94, 38, 142, 3, 1, 12, 1253, 0, 0, []), (.aload_n 0, 39, 0, 0, 0, 0, 0, 0, 0, []), (.iload_n 1, 40, 1, 0, 0, 0, 0, 0, 0, []), (.iload 5, 42, 5, 0, 0, 0, 0, 0, 0, []), (.invokevirtual 94, 45, 142, 3, 1, 12, 1253, 0, 0, []), (.isub, 46, 0, 0, 0, 0, 0, 0, 0, []), (.istore 6, 48, 6, 0, 0, 0, 0, 0, 0, []), (.aload_n 0, 49, 0, 0, 0, 0, 0, 0, 0, []), (.getfield 7, 52, 12, 0, 0, 0, 1051, 0, 0, []), (.sipush 208, 55, 0, 0, 0, 0, 0, 208, 0, []), (.iload_n 1, 56, 1, 0, 0, 0, 0, 0, 0, []), (.iadd, 57, 0, 0, 0, 0, 0, 0, 0, []), (.iload 5, 59, 5, 0, 0, 0, 0, 0, 0, []), (.iconst 1, 60, 0, 0, 0, 0, 0, 1, 0, []), (.isub, 61, 0, 0, 0, 0, 0, 0, 0, []), (.iastore, 62, 0, 0, 0, 0, 0, 0, 0, []), (.aload_n 0, 63, 0, 0, 0, 0, 0, 0, 0, []), (.invokevirtual 203, 66, 190, 1, 2, 12, 1361, 0, 0, []), (.lload_n 2, 67, 2, 0, 0, 0, 0, 0, 0, []), (.lcmp, 68, 0, 0, 0, 0, 0, 0, 0, []), (.ifCond .gt 16, 71, 84, 0, 0, 0, 0, 0, 0, []), (.aload_n 0, 72, 0, 0, 0, 0, 0, 0, 0, []), (.invokevirtual 169, 75, 149, 1, 1, 12, 1290, 0, 0, []), (.iload 4, 77, 4, 0, 0, 0, 0, 0, 0, []), (.if_icmp .gt 7, 80, 84, 0, 0, 0, 0, 0, 0, []), (.iconst 1, 81, 0, 0, 0, 0, 0, 1, 0, []), (.goto 4, 84, 85, 0, 0, 0, 0, 0, 0, []), (.iconst 0, 85, 0, 0, 0, 0, 0, 0, 0, []), (.istore 7, 87, 7, 0, 0, 0, 0, 0, 0, []), (.aload_n 0, 88, 0, 0, 0, 0, 0, 0, 0, []), (.getfield 7, 91, 12, 0, 0, 0, 1051, 0, 0, []), (.sipush 208, 94, 0, 0, 0, 0, 0, 208, 0, []), (.iload_n 1, 95, 1, 0, 0, 0, 0, 0, 0, []), (.iadd, 96, 0, 0, 0, 0, 0, 0, 0, []), (.iload 5, 98, 5, 0, 0, 0, 0, 0, 0, []), (.iastore, 99, 0, 0, 0, 0, 0, 0, 0, []), (.iload 7, 101, 7, 0, 0, 0, 0, 0, 0, []), (.ifCond .ne 7, 104, 108, 0, 0, 0, 0, 0, 0, []), (.ldc2_w 201, 107, 0, 0, 0, 0, 1356, 0, (-1), []), (.lreturn, 108, 0, 0, 0, 0, 0, 0, 0, []), (.iload 6, 110, 6, 0, 0, 0, 0, 0, 0, []), (.ifCond .gt 9, 113, 119, 0, 0, 0, 0, 0, 0, []), (.ldc2_w 207, 116, 0, 0, 0, 0, 1365, 0, 2000000000, []), (.goto 29, 119, 145, 0, 0, 0, 0, 0, 0, []), (.ldc2_w 186, 122, 0, 0, 0, 0, 1351, 0, 1000, []), (.aload_n 0, 123, 0, 0, 0, 0, 0, 0, 0, []), (.iload_n 1, 124, 1, 0, 0, 0, 0, 0, 0, []), (.iload 5, 126, 5, 0, 0, 0, 0, 0, 0, []), (.invokevirtual 157, 129, 144, 3, 1, 12, 1264, 0, 0, []), (.aload_n 0, 130, 0, 0, 0, 0, 0, 0, 0, []), (.iload_n 1, 131, 1, 0, 0, 0, 0, 0, 0, []), (.iload 5, 133, 5, 0, 0, 0, 0, 0, 0, []), (.iconst 1, 134, 0, 0, 0, 0, 0, 1, 0, []), (.isub, 135, 0, 0, 0, 0, 0, 0, 0, []), (.invokevirtual 157, 138, 144, 3, 1, 12, 1264, 0, 0, []), (.isub, 139, 0, 0, 0, 0, 0, 0, 0, []), (.i2l, 140, 0, 0, 0, 0, 0, 0, 0, []), (.lmul, 141, 0, 0, 0, 0, 0, 0, 0, []), (.iload 6, 143, 6, 0, 0, 0, 0, 0, 0, []), (.i2l, 144, 0, 0, 0, 0, 0, 0, 0, []), (.ldiv, 145, 0, 0, 0, 0, 0, 0, 0, []), (.lreturn, 146, 0, 0, 0, 0, 0, 0, 0, [])]
set_option maxRecDepth 100000 in
theorem zk_X12_gainOf_0 : zOks nX12_gainOf zo_X12_gainOf_0 0 = true := by decide +kernel
def zm_X12_gainOf : List (Nat × List Bool) := [(0, [true, true, true, false, true, false, false, false])]
set_option maxRecDepth 100000 in
set_option maxHeartbeats 4000000 in
theorem zr_X12_gainOf_0 {C : zCa} {post : zPo} {X : zX} (hX : zClosed none C post nX12_gainOf X) (p0 : Int32) (p1 : Int64) (p2 : Int32) (σ : zS) (h : vp_in (208 + p0) (zN 64) ∧ (vp_in 183 (zN 64) ∧ (zIf ((σ.1 64 (Int32.toNatClampNeg (208 + p0)) : Int32) ≤ (σ.1 64 (Int32.toNatClampNeg 183))) (post (some (.long (-1))) σ) (C nX12_bits [.ref 63, .int p0, .int ((σ.1 64 (Int32.toNatClampNeg (208 + p0))) - 1)] σ (zPI fun x2 σ1 => C nX12_bits [.ref 63, .int p0, .int (σ.1 64 (Int32.toNatClampNeg (208 + p0)))] σ1 (zPI fun x4 σ3 => vp_in (208 + p0) (zN 64) ∧ (C nX12_allBits [.ref 63] (zSI σ3 64 (Int32.toNatClampNeg (208 + p0)) ((σ.1 64 (Int32.toNatClampNeg (208 + p0))) - 1)) (zPJ fun x6 σ5 => zIf ((lg_cmp x6 p1 : Int32) ≤ 0) (C nX12_underflowsNow [.ref 63] σ5 (zPI fun x8 σ7 => zIf ((x8 : Int32) ≤ p2) (vp_in (208 + p0) (zN 64) ∧ (zIf ((1 : Int32) = 0) (post (some (.long (-1))) (zSI σ7 64 (Int32.toNatClampNeg (208 + p0)) (σ.1 64 (Int32.toNatClampNeg (208 + p0))))) (zIf ((x2 - x4 : Int32) ≤ 0) (post (some (.long 2000000000)) (zSI σ7 64 (Int32.toNatClampNeg (208 + p0)) (σ.1 64 (Int32.toNatClampNeg (208 + p0))))) (C nX12_loss [.ref 63, .int p0, .int (σ.1 64 (Int32.toNatClampNeg (208 + p0)))] (zSI σ7 64 (Int32.toNatClampNeg (208 + p0)) (σ.1 64 (Int32.toNatClampNeg (208 + p0)))) (zPI fun x10 σ9 => C nX12_loss [.ref 63, .int p0, .int ((σ.1 64 (Int32.toNatClampNeg (208 + p0))) - 1)] σ9 (zPI fun x12 σ11 => ¬ (Int32.toInt64 (x2 - x4) : Int64) = 0 ∧ (post (some (.long ((1000 * (Int32.toInt64 (x10 - x12))) / (Int32.toInt64 (x2 - x4))))) σ11))))))) (vp_in (208 + p0) (zN 64) ∧ (zIf ((0 : Int32) = 0) (post (some (.long (-1))) (zSI σ7 64 (Int32.toNatClampNeg (208 + p0)) (σ.1 64 (Int32.toNatClampNeg (208 + p0))))) (zIf ((x2 - x4 : Int32) ≤ 0) (post (some (.long 2000000000)) (zSI σ7 64 (Int32.toNatClampNeg (208 + p0)) (σ.1 64 (Int32.toNatClampNeg (208 + p0))))) (C nX12_loss [.ref 63, .int p0, .int (σ.1 64 (Int32.toNatClampNeg (208 + p0)))] (zSI σ7 64 (Int32.toNatClampNeg (208 + p0)) (σ.1 64 (Int32.toNatClampNeg (208 + p0)))) (zPI fun x14 σ13 => C nX12_loss [.ref 63, .int p0, .int ((σ.1 64 (Int32.toNatClampNeg (208 + p0))) - 1)] σ13 (zPI fun x16 σ15 => ¬ (Int32.toInt64 (x2 - x4) : Int64) = 0 ∧ (post (some (.long ((1000 * (Int32.toInt64 (x14 - x16))) / (Int32.toInt64 (x2 - x4))))) σ15))))))))) (vp_in (208 + p0) (zN 64) ∧ (zIf ((0 : Int32) = 0) (post (some (.long (-1))) (zSI σ5 64 (Int32.toNatClampNeg (208 + p0)) (σ.1 64 (Int32.toNatClampNeg (208 + p0))))) (zIf ((x2 - x4 : Int32) ≤ 0) (post (some (.long 2000000000)) (zSI σ5 64 (Int32.toNatClampNeg (208 + p0)) (σ.1 64 (Int32.toNatClampNeg (208 + p0))))) (C nX12_loss [.ref 63, .int p0, .int (σ.1 64 (Int32.toNatClampNeg (208 + p0)))] (zSI σ5 64 (Int32.toNatClampNeg (208 + p0)) (σ.1 64 (Int32.toNatClampNeg (208 + p0)))) (zPI fun x18 σ17 => C nX12_loss [.ref 63, .int p0, .int ((σ.1 64 (Int32.toNatClampNeg (208 + p0))) - 1)] σ17 (zPI fun x20 σ19 => ¬ (Int32.toInt64 (x2 - x4) : Int64) = 0 ∧ (post (some (.long ((1000 * (Int32.toInt64 (x18 - x20))) / (Int32.toInt64 (x2 - x4))))) σ19))))))))))))))) : X 0 [some (.ref 63), some (.int p0), some (.long p1), none, some (.int p2), none, none, none] [] σ := zSeq_ok hX zm_X12_gainOf zo_X12_gainOf_0 0 0 _ _ _ zk_X12_gainOf_0 h
theorem ze_X12_gainOf {d : Nat} {post : zPo} (p0 : Int32) (p1 : Int64) (p2 : Int32) (σ : zS) (h : ∀ X : zX, zClosed none (zCall d) post nX12_gainOf X → X 0 [some (.ref 63), some (.int p0), some (.long p1), none, some (.int p2), none, none, none] [] σ) : zCall (d + 1) nX12_gainOf [.ref 63, .int p0, .long p1, .int p2] σ post := h
-- X12_isDry(63,) depth 5
def zo_X12_isDry_0 : List zOp := [(.aload_n 0, 1, 0, 0, 0, 0, 0, 0, 0, []), (.iload_n 1, 2, 1, 0, 0, 0, 0, 0, 0, []), (.iload_n 2, 3, 2, 0, 0, 0, 0, 0, 0, []), (.iload_n 3, 4, 3, 0, 0, 0, 0, 0, 0, []), (.invokevirtual 105, 7, 147, 4, 0, 12, 1298, 0, 0, []), (.aload_n 0, 8, 0, 0, 0, 0, 0, 0, 0, []), (.getfield 98, 11, 12, 14, 1, 0, 1065, 0, 0, []), (.ifCond .le 7, 14, 18, 0, 0, 0, 0, 0, 0, []), (.iconst 1, 15, 0, 0, 0, 0, 0, 1, 0, []), (.goto 4, 18, 19, 0, 0, 0, 0, 0, 0, []), (.iconst 0, 19, 0, 0, 0, 0, 0, 0, 0, []), (.ireturn, 20, 0, 0, 1, 0, 0, 0, 0, [])]
set_option maxRecDepth 100000 in
theorem zk_X12_isDry_0 : zOks nX12_isDry zo_X12_isDry_0 0 = true := by decide +kernel
def zm_X12_isDry : List (Nat × List Bool) := [(0, [true, true, true, true])]
set_option maxRecDepth 100000 in
set_option maxHeartbeats 4000000 in
theorem zr_X12_isDry_0 {C : zCa} {post : zPo} {X : zX} (hX : zClosed none C post nX12_isDry X) (p0 : Int32) (p1 : Int32) (p2 : Int32) (σ : zS) (h : C nX12_runs [.ref 63, .int p0, .int p1, .int p2] σ (zPV fun σ1 => zIf ((σ1.1 63 14 : Int32) ≤ 0) (post (some (.int 0)) σ1) (post (some (.int 1)) σ1))) : X 0 [some (.ref 63), some (.int p0), some (.int p1), some (.int p2)] [] σ := zSeq_ok hX zm_X12_isDry zo_X12_isDry_0 0 0 _ _ _ zk_X12_isDry_0 h
theorem ze_X12_isDry {d : Nat} {post : zPo} (p0 : Int32) (p1 : Int32) (p2 : Int32) (σ : zS) (h : ∀ X : zX, zClosed none (zCall d) post nX12_isDry X → X 0 [some (.ref 63), some (.int p0), some (.int p1), some (.int p2)] [] σ) : zCall (d + 1) nX12_isDry [.ref 63, .int p0, .int p1, .int p2] σ post := h
-- X12_leastRate(63,) depth 6
def zo_X12_leastRate_0 : List zOp := [(.aload_n 0, 1, 0, 0, 0, 0, 0, 0, 0, []), (.getfield 7, 4, 12, 0, 0, 0, 1051, 0, 0, []), (.sipush 207, 7, 0, 0, 0, 0, 0, 207, 0, []), (.iaload, 8, 0, 0, 0, 0, 0, 0, 0, []), (.ifCond .ne 6, 11, 14, 0, 0, 0, 0, 0, 0, []), (.bipush (-3), 13, 0, 0, 0, 0, 0, (-3), 0, []), (.ireturn, 14, 0, 0, 0, 0, 0, 0, 0, []), (.aload_n 0, 15, 0, 0, 0, 0, 0, 0, 0, []), (.invokevirtual 149, 18, 139, 1, 0, 12, 1191, 0, 0, []), (.aload_n 0, 19, 0, 0, 0, 0, 0, 0, 0, []), (.aload_n 0, 20, 0, 0, 0, 0, 0, 0, 0, []), (.getfield 7, 23, 12, 0, 0, 0, 1051, 0, 0, []), (.sipush 185, 26, 0, 0, 0, 0, 0, 185, 0, []), (.iaload, 27, 0, 0, 0, 0, 0, 0, 0, []), (.aload_n 0, 28, 0, 0, 0, 0, 0, 0, 0, []), (.getfield 7, 31, 12, 0, 0, 0, 1051, 0, 0, []), (.sipush 186, 34, 0, 0, 0, 0, 0, 186, 0, []), (.iaload, 35, 0, 0, 0, 0, 0, 0, 0, []), (.ldc 156, 37, 0, 0, 0, 0, 1240, 100000, 0, []), (.invokevirtual 227, 40, 200, 4, 1, 12, 1400, 0, 0, []), (.ifCond .eq 5, 43, 45, 0, 0, 0, 0, 0, 0, []), (.iconst (-1), 44, 0, 0, 0, 0, 0, (-1), 0, []), (.ireturn, 45, 0, 0, 0, 0, 0, 0, 0, []), (.iconst (-1), 46, 0, 0, 0, 0, 0, (-1), 0, []), (.istore_n 1, 47, 1, 0, 0, 0, 0, 0, 0, []), (.ldc 156, 49, 0, 0, 0, 0, 1240, 100000, 0, []), (.istore_n 2, 50, 2, 0, 0, 0, 0, 0, 0, [])]
set_option maxRecDepth 100000 in
theorem zk_X12_leastRate_0 : zOks nX12_leastRate zo_X12_leastRate_0 0 = true := by decide +kernel
def zo_X12_leastRate_50 : List zOp := [(.iload_n 2, 51, 2, 0, 0, 0, 0, 0, 0, []), (.iload_n 1, 52, 1, 0, 0, 0, 0, 0, 0, []), (.isub, 53, 0, 0, 0, 0, 0, 0, 0, []), (.iconst 1, 54, 0, 0, 0, 0, 0, 1, 0, []), (.if_icmp .le 72, 57, 126, 0, 0, 0, 0, 0, 0, []), (.iload_n 1, 58, 1, 0, 0, 0, 0, 0, 0, []), (.iload_n 2, 59, 2, 0, 0, 0, 0, 0, 0, []), (.iadd, 60, 0, 0, 0, 0, 0, 0, 0, []), (.iconst 1, 61, 0, 0, 0, 0, 0, 1, 0, []), (.iadd, 62, 0, 0, 0, 0, 0, 0, 0, []), (.iconst 2, 63, 0, 0, 0, 0, 0, 2, 0, []), (.idiv, 64, 0, 0, 0, 0, 0, 0, 0, []), (.istore_n 3, 65, 3, 0, 0, 0, 0, 0, 0, []), (.iload_n 3, 66, 3, 0, 0, 0, 0, 0, 0, []), (.iload_n 2, 67, 2, 0, 0, 0, 0, 0, 0, []), (.if_icmp .ne 9, 70, 76, 0, 0, 0, 0, 0, 0, []), (.iload_n 2, 71, 2, 0, 0, 0, 0, 0, 0, []), (.iconst 1, 72, 0, 0, 0, 0, 0, 1, 0, []), (.isub, 73, 0, 0, 0, 0, 0, 0, 0, []), (.goto 4, 76, 77, 0, 0, 0, 0, 0, 0, []), (.iload_n 3, 77, 3, 0, 0, 0, 0, 0, 0, []), (.istore_n 3, 78, 3, 0, 0, 0, 0, 0, 0, []), (.aload_n 0, 79, 0, 0, 0, 0, 0, 0, 0, []), (.aload_n 0, 80, 0, 0, 0, 0, 0, 0, 0, []), (.getfield 7, 83, 12, 0, 0, 0, 1051, 0, 0, []), (.sipush 185, 86, 0, 0, 0, 0, 0, 185, 0, []), (.iaload, 87, 0, 0, 0, 0, 0, 0, 0, []), (.aload_n 0, 88, 0, 0, 0, 0, 0, 0, 0, []), (.getfield 7, 91, 12, 0, 0, 0, 1051, 0, 0, []), (.sipush 186, 94, 0, 0, 0, 0, 0, 186, 0, []), (.iaload, 95, 0, 0, 0, 0, 0, 0, 0, []), (.iload_n 3, 96, 3, 0, 0, 0, 0, 0, 0, []), (.invokevirtual 227, 99, 200, 4, 1, 12, 1400, 0, 0, []), (.istore 4, 101, 4, 0, 0, 0, 0, 0, 0, []), (.iload 4, 103, 4, 0, 0, 0, 0, 0, 0, []), (.ifCond .eq 7, 106, 110, 0, 0, 0, 0, 0, 0, []), (.iload_n 3, 107, 3, 0, 0, 0, 0, 0, 0, []), (.goto 4, 110, 111, 0, 0, 0, 0, 0, 0, []), (.iload_n 1, 111, 1, 0, 0, 0, 0, 0, 0, []), (.istore_n 1, 112, 1, 0, 0, 0, 0, 0, 0, []), (.iload 4, 114, 4, 0, 0, 0, 0, 0, 0, []), (.ifCond .eq 7, 117, 121, 0, 0, 0, 0, 0, 0, []), (.iload_n 2, 118, 2, 0, 0, 0, 0, 0, 0, []), (.goto 4, 121, 122, 0, 0, 0, 0, 0, 0, []), (.iload_n 3, 122, 3, 0, 0, 0, 0, 0, 0, []), (.istore_n 2, 123, 2, 0, 0, 0, 0, 0, 0, []), (.goto (-73), 126, 50, 0, 0, 0, 0, 0, 0, []), (.iload_n 2, 127, 2, 0, 0, 0, 0, 0, 0, []), (.ireturn, 128, 0, 0, 0, 0, 0, 0, 0, [])]
set_option maxRecDepth 100000 in
theorem zk_X12_leastRate_50 : zOks nX12_leastRate zo_X12_leastRate_50 50 = true := by decide +kernel
def zm_X12_leastRate : List (Nat × List Bool) := [(0, [true, false, false, false, false]), (50, [true, true, true, false, false])]
set_option maxRecDepth 100000 in
set_option maxHeartbeats 4000000 in
theorem zr_X12_leastRate_0 {C : zCa} {post : zPo} {X : zX} (hX : zClosed none C post nX12_leastRate X) (σ : zS) (h : vp_in 207 (zN 64) ∧ (zIf ((σ.1 64 (Int32.toNatClampNeg 207) : Int32) = 0) (post (some (.int (-3))) σ) (C nX12_findsTypes [.ref 63] σ (zPV fun σ1 => vp_in 185 (zN 64) ∧ (vp_in 186 (zN 64) ∧ (C nX12_isDry [.ref 63, .int (σ1.1 64 (Int32.toNatClampNeg 185)), .int (σ1.1 64 (Int32.toNatClampNeg 186)), .int 100000] σ1 (zPI fun x3 σ2 => zIf ((x3 : Int32) = 0) (X 50 [some (.ref 63), some (.int (-1)), some (.int 100000), none, none] [] σ2) (post (some (.int (-1))) σ2)))))))) : X 0 [some (.ref 63), none, none, none, none] [] σ := zSeq_ok hX zm_X12_leastRate zo_X12_leastRate_0 0 0 _ _ _ zk_X12_leastRate_0 h
set_option maxRecDepth 100000 in
set_option maxHeartbeats 4000000 in
theorem zr_X12_leastRate_50 {C : zCa} {post : zPo} {X : zX} (hX : zClosed none C post nX12_leastRate X) (v1 : Int32) (v2 : Int32) (σ : zS) (h : zIf ((v2 - v1 : Int32) ≤ 1) (post (some (.int v2)) σ) (¬ (2 : Int32) = 0 ∧ (zIf ((((v1 + v2) + 1) / 2 : Int32) = v2) (vp_in 185 (zN 64) ∧ (vp_in 186 (zN 64) ∧ (C nX12_isDry [.ref 63, .int (σ.1 64 (Int32.toNatClampNeg 185)), .int (σ.1 64 (Int32.toNatClampNeg 186)), .int (v2 - 1)] σ (zPI fun x2 σ1 => zIf ((x2 : Int32) = 0) (zIf ((x2 : Int32) = 0) (X 50 [some (.ref 63), some (.int v1), some (.int (v2 - 1)), none, none] [] σ1) (X 50 [some (.ref 63), some (.int v1), some (.int v2), none, none] [] σ1)) (zIf ((x2 : Int32) = 0) (X 50 [some (.ref 63), some (.int (v2 - 1)), some (.int (v2 - 1)), none, none] [] σ1) (X 50 [some (.ref 63), some (.int (v2 - 1)), some (.int v2), none, none] [] σ1)))))) (vp_in 185 (zN 64) ∧ (vp_in 186 (zN 64) ∧ (C nX12_isDry [.ref 63, .int (σ.1 64 (Int32.toNatClampNeg 185)), .int (σ.1 64 (Int32.toNatClampNeg 186)), .int (((v1 + v2) + 1) / 2)] σ (zPI fun x4 σ3 => zIf ((x4 : Int32) = 0) (zIf ((x4 : Int32) = 0) (X 50 [some (.ref 63), some (.int v1), some (.int (((v1 + v2) + 1) / 2)), none, none] [] σ3) (X 50 [some (.ref 63), some (.int v1), some (.int v2), none, none] [] σ3)) (zIf ((x4 : Int32) = 0) (X 50 [some (.ref 63), some (.int (((v1 + v2) + 1) / 2)), some (.int (((v1 + v2) + 1) / 2)), none, none] [] σ3) (X 50 [some (.ref 63), some (.int (((v1 + v2) + 1) / 2)), some (.int v2), none, none] [] σ3))))))))) : X 50 [some (.ref 63), some (.int v1), some (.int v2), none, none] [] σ := zSeq_ok hX zm_X12_leastRate zo_X12_leastRate_50 50 50 _ _ _ zk_X12_leastRate_50 h
theorem ze_X12_leastRate {d : Nat} {post : zPo} (σ : zS) (h : ∀ X : zX, zClosed none (zCall d) post nX12_leastRate X → X 0 [some (.ref 63), none, none, none, none] [] σ) : zCall (d + 1) nX12_leastRate [.ref 63] σ post := h
-- X12_leastSize(63,) depth 6
def zo_X12_leastSize_0 : List zOp := [(.aload_n 0, 1, 0, 0, 0, 0, 0, 0, 0, []), (.getfield 7, 4, 12, 0, 0, 0, 1051, 0, 0, []), (.sipush 207, 7, 0, 0, 0, 0, 0, 207, 0, []), (.iaload, 8, 0, 0, 0, 0, 0, 0, 0, []), (.ifCond .ne 6, 11, 14, 0, 0, 0, 0, 0, 0, []), (.bipush (-3), 13, 0, 0, 0, 0, 0, (-3), 0, []), (.ireturn, 14, 0, 0, 0, 0, 0, 0, 0, []), (.aload_n 0, 15, 0, 0, 0, 0, 0, 0, 0, []), (.invokevirtual 149, 18, 139, 1, 0, 12, 1191, 0, 0, []), (.aload_n 0, 19, 0, 0, 0, 0, 0, 0, 0, []), (.ldc 155, 21, 0, 0, 0, 0, 1235, 1000000, 0, []), (.aload_n 0, 22, 0, 0, 0, 0, 0, 0, 0, []), (.getfield 7, 25, 12, 0, 0, 0, 1051, 0, 0, []), (.sipush 186, 28, 0, 0, 0, 0, 0, 186, 0, []), (.iaload, 29, 0, 0, 0, 0, 0, 0, 0, []), (.aload_n 0, 30, 0, 0, 0, 0, 0, 0, 0, []), (.getfield 7, 33, 12, 0, 0, 0, 1051, 0, 0, []), (.sipush 187, 36, 0, 0, 0, 0, 0, 187, 0, []), (.iaload, 37, 0, 0, 0, 0, 0, 0, 0, []), (.invokevirtual 227, 40, 200, 4, 1, 12, 1400, 0, 0, []), (.ifCond .eq 5, 43, 45, 0, 0, 0, 0, 0, 0, []), (.iconst (-1), 44, 0, 0, 0, 0, 0, (-1), 0, []), (.ireturn, 45, 0, 0, 0, 0, 0, 0, 0, []), (.bipush 99, 47, 0, 0, 0, 0, 0, 99, 0, []), (.istore_n 1, 48, 1, 0, 0, 0, 0, 0, 0, []), (.ldc 155, 50, 0, 0, 0, 0, 1235, 1000000, 0, []), (.istore_n 2, 51, 2, 0, 0, 0, 0, 0, 0, [])]
set_option maxRecDepth 100000 in
theorem zk_X12_leastSize_0 : zOks nX12_leastSize zo_X12_leastSize_0 0 = true := by decide +kernel
def zo_X12_leastSize_51 : List zOp := [(.iload_n 2, 52, 2, 0, 0, 0, 0, 0, 0, []), (.iload_n 1, 53, 1, 0, 0, 0, 0, 0, 0, []), (.isub, 54, 0, 0, 0, 0, 0, 0, 0, []), (.iconst 1, 55, 0, 0, 0, 0, 0, 1, 0, []), (.if_icmp .le 57, 58, 112, 0, 0, 0, 0, 0, 0, []), (.iload_n 1, 59, 1, 0, 0, 0, 0, 0, 0, []), (.iload_n 2, 60, 2, 0, 0, 0, 0, 0, 0, []), (.iadd, 61, 0, 0, 0, 0, 0, 0, 0, []), (.iconst 2, 62, 0, 0, 0, 0, 0, 2, 0, []), (.idiv, 63, 0, 0, 0, 0, 0, 0, 0, []), (.istore_n 3, 64, 3, 0, 0, 0, 0, 0, 0, []), (.aload_n 0, 65, 0, 0, 0, 0, 0, 0, 0, []), (.iload_n 3, 66, 3, 0, 0, 0, 0, 0, 0, []), (.aload_n 0, 67, 0, 0, 0, 0, 0, 0, 0, []), (.getfield 7, 70, 12, 0, 0, 0, 1051, 0, 0, []), (.sipush 186, 73, 0, 0, 0, 0, 0, 186, 0, []), (.iaload, 74, 0, 0, 0, 0, 0, 0, 0, []), (.aload_n 0, 75, 0, 0, 0, 0, 0, 0, 0, []), (.getfield 7, 78, 12, 0, 0, 0, 1051, 0, 0, []), (.sipush 187, 81, 0, 0, 0, 0, 0, 187, 0, []), (.iaload, 82, 0, 0, 0, 0, 0, 0, 0, []), (.invokevirtual 227, 85, 200, 4, 1, 12, 1400, 0, 0, []), (.istore 4, 87, 4, 0, 0, 0, 0, 0, 0, []), (.iload 4, 89, 4, 0, 0, 0, 0, 0, 0, []), (.ifCond .eq 7, 92, 96, 0, 0, 0, 0, 0, 0, []), (.iload_n 3, 93, 3, 0, 0, 0, 0, 0, 0, []), (.goto 4, 96, 97, 0, 0, 0, 0, 0, 0, []), (.iload_n 1, 97, 1, 0, 0, 0, 0, 0, 0, []), (.istore_n 1, 98, 1, 0, 0, 0, 0, 0, 0, []), (.iload 4, 100, 4, 0, 0, 0, 0, 0, 0, []), (.ifCond .eq 7, 103, 107, 0, 0, 0, 0, 0, 0, []), (.iload_n 2, 104, 2, 0, 0, 0, 0, 0, 0, []), (.goto 4, 107, 108, 0, 0, 0, 0, 0, 0, []), (.iload_n 3, 108, 3, 0, 0, 0, 0, 0, 0, []), (.istore_n 2, 109, 2, 0, 0, 0, 0, 0, 0, []), (.goto (-58), 112, 51, 0, 0, 0, 0, 0, 0, []), (.iload_n 2, 113, 2, 0, 0, 0, 0, 0, 0, []), (.ireturn, 114, 0, 0, 0, 0, 0, 0, 0, [])]
set_option maxRecDepth 100000 in
theorem zk_X12_leastSize_51 : zOks nX12_leastSize zo_X12_leastSize_51 51 = true := by decide +kernel
def zm_X12_leastSize : List (Nat × List Bool) := [(0, [true, false, false, false, false]), (51, [true, true, true, false, false])]
set_option maxRecDepth 100000 in
set_option maxHeartbeats 4000000 in
theorem zr_X12_leastSize_0 {C : zCa} {post : zPo} {X : zX} (hX : zClosed none C post nX12_leastSize X) (σ : zS) (h : vp_in 207 (zN 64) ∧ (zIf ((σ.1 64 (Int32.toNatClampNeg 207) : Int32) = 0) (post (some (.int (-3))) σ) (C nX12_findsTypes [.ref 63] σ (zPV fun σ1 => vp_in 186 (zN 64) ∧ (vp_in 187 (zN 64) ∧ (C nX12_isDry [.ref 63, .int 1000000, .int (σ1.1 64 (Int32.toNatClampNeg 186)), .int (σ1.1 64 (Int32.toNatClampNeg 187))] σ1 (zPI fun x3 σ2 => zIf ((x3 : Int32) = 0) (X 51 [some (.ref 63), some (.int 99), some (.int 1000000), none, none] [] σ2) (post (some (.int (-1))) σ2)))))))) : X 0 [some (.ref 63), none, none, none, none] [] σ := zSeq_ok hX zm_X12_leastSize zo_X12_leastSize_0 0 0 _ _ _ zk_X12_leastSize_0 h
set_option maxRecDepth 100000 in
set_option maxHeartbeats 4000000 in
theorem zr_X12_leastSize_51 {C : zCa} {post : zPo} {X : zX} (hX : zClosed none C post nX12_leastSize X) (v1 : Int32) (v2 : Int32) (σ : zS) (h : zIf ((v2 - v1 : Int32) ≤ 1) (post (some (.int v2)) σ) (¬ (2 : Int32) = 0 ∧ (vp_in 186 (zN 64) ∧ (vp_in 187 (zN 64) ∧ (C nX12_isDry [.ref 63, .int ((v1 + v2) / 2), .int (σ.1 64 (Int32.toNatClampNeg 186)), .int (σ.1 64 (Int32.toNatClampNeg 187))] σ (zPI fun x2 σ1 => zIf ((x2 : Int32) = 0) (zIf ((x2 : Int32) = 0) (X 51 [some (.ref 63), some (.int v1), some (.int ((v1 + v2) / 2)), none, none] [] σ1) (X 51 [some (.ref 63), some (.int v1), some (.int v2), none, none] [] σ1)) (zIf ((x2 : Int32) = 0) (X 51 [some (.ref 63), some (.int ((v1 + v2) / 2)), some (.int ((v1 + v2) / 2)), none, none] [] σ1) (X 51 [some (.ref 63), some (.int ((v1 + v2) / 2)), some (.int v2), none, none] [] σ1)))))))) : X 51 [some (.ref 63), some (.int v1), some (.int v2), none, none] [] σ := zSeq_ok hX zm_X12_leastSize zo_X12_leastSize_51 51 51 _ _ _ zk_X12_leastSize_51 h
theorem ze_X12_leastSize {d : Nat} {post : zPo} (σ : zS) (h : ∀ X : zX, zClosed none (zCall d) post nX12_leastSize X → X 0 [some (.ref 63), none, none, none, none] [] σ) : zCall (d + 1) nX12_leastSize [.ref 63] σ post := h
-- X12_leastStart(63,) depth 6
def zo_X12_leastStart_0 : List zOp := [(.aload_n 0, 1, 0, 0, 0, 0, 0, 0, 0, []), (.getfield 7, 4, 12, 0, 0, 0, 1051, 0, 0, []), (.sipush 207, 7, 0, 0, 0, 0, 0, 207, 0, []), (.iaload, 8, 0, 0, 0, 0, 0, 0, 0, []), (.ifCond .ne 6, 11, 14, 0, 0, 0, 0, 0, 0, []), (.bipush (-3), 13, 0, 0, 0, 0, 0, (-3), 0, []), (.ireturn, 14, 0, 0, 0, 0, 0, 0, 0, []), (.aload_n 0, 15, 0, 0, 0, 0, 0, 0, 0, []), (.invokevirtual 149, 18, 139, 1, 0, 12, 1191, 0, 0, []), (.iconst 0, 19, 0, 0, 0, 0, 0, 0, 0, []), (.istore_n 1, 20, 1, 0, 0, 0, 0, 0, 0, [])]
set_option maxRecDepth 100000 in
theorem zk_X12_leastStart_0 : zOks nX12_leastStart zo_X12_leastStart_0 0 = true := by decide +kernel
def zo_X12_leastStart_20 : List zOp := [(.iload_n 1, 21, 1, 0, 0, 0, 0, 0, 0, []), (.bipush 100, 23, 0, 0, 0, 0, 0, 100, 0, []), (.if_icmp .gt 35, 26, 58, 0, 0, 0, 0, 0, 0, []), (.aload_n 0, 27, 0, 0, 0, 0, 0, 0, 0, []), (.aload_n 0, 28, 0, 0, 0, 0, 0, 0, 0, []), (.getfield 7, 31, 12, 0, 0, 0, 1051, 0, 0, []), (.sipush 185, 34, 0, 0, 0, 0, 0, 185, 0, []), (.iaload, 35, 0, 0, 0, 0, 0, 0, 0, []), (.iload_n 1, 36, 1, 0, 0, 0, 0, 0, 0, []), (.aload_n 0, 37, 0, 0, 0, 0, 0, 0, 0, []), (.getfield 7, 40, 12, 0, 0, 0, 1051, 0, 0, []), (.sipush 187, 43, 0, 0, 0, 0, 0, 187, 0, []), (.iaload, 44, 0, 0, 0, 0, 0, 0, 0, []), (.invokevirtual 227, 47, 200, 4, 1, 12, 1400, 0, 0, []), (.ifCond .ne 5, 50, 52, 0, 0, 0, 0, 0, 0, []), (.iload_n 1, 51, 1, 0, 0, 0, 0, 0, 0, []), (.ireturn, 52, 0, 0, 0, 0, 0, 0, 0, []), (.iinc 1 1, 55, 1, 0, 0, 0, 0, 1, 0, []), (.goto (-35), 58, 20, 0, 0, 0, 0, 0, 0, []), (.iconst (-1), 59, 0, 0, 0, 0, 0, (-1), 0, []), (.ireturn, 60, 0, 0, 0, 0, 0, 0, 0, [])]
set_option maxRecDepth 100000 in
theorem zk_X12_leastStart_20 : zOks nX12_leastStart zo_X12_leastStart_20 20 = true := by decide +kernel
def zm_X12_leastStart : List (Nat × List Bool) := [(0, [true, false]), (20, [true, true])]
set_option maxRecDepth 100000 in
set_option maxHeartbeats 4000000 in
theorem zr_X12_leastStart_0 {C : zCa} {post : zPo} {X : zX} (hX : zClosed none C post nX12_leastStart X) (σ : zS) (h : vp_in 207 (zN 64) ∧ (zIf ((σ.1 64 (Int32.toNatClampNeg 207) : Int32) = 0) (post (some (.int (-3))) σ) (C nX12_findsTypes [.ref 63] σ (zPV fun σ1 => X 20 [some (.ref 63), some (.int 0)] [] σ1)))) : X 0 [some (.ref 63), none] [] σ := zSeq_ok hX zm_X12_leastStart zo_X12_leastStart_0 0 0 _ _ _ zk_X12_leastStart_0 h
set_option maxRecDepth 100000 in
set_option maxHeartbeats 4000000 in
theorem zr_X12_leastStart_20 {C : zCa} {post : zPo} {X : zX} (hX : zClosed none C post nX12_leastStart X) (v1 : Int32) (σ : zS) (h : zIf ((v1 : Int32) ≤ 100) (vp_in 185 (zN 64) ∧ (vp_in 187 (zN 64) ∧ (C nX12_isDry [.ref 63, .int (σ.1 64 (Int32.toNatClampNeg 185)), .int v1, .int (σ.1 64 (Int32.toNatClampNeg 187))] σ (zPI fun x2 σ1 => zIf ((x2 : Int32) = 0) (post (some (.int v1)) σ1) (X 20 [some (.ref 63), some (.int (v1 + 1))] [] σ1))))) (post (some (.int (-1))) σ)) : X 20 [some (.ref 63), some (.int v1)] [] σ := zSeq_ok hX zm_X12_leastStart zo_X12_leastStart_20 20 20 _ _ _ zk_X12_leastStart_20 h
theorem ze_X12_leastStart {d : Nat} {post : zPo} (σ : zS) (h : ∀ X : zX, zClosed none (zCall d) post nX12_leastStart X → X 0 [some (.ref 63), none] [] σ) : zCall (d + 1) nX12_leastStart [.ref 63] σ post := h
-- X12_skips(63,) depth 2
def zo_X12_skips_0 : List zOp := [(.aload_n 0, 1, 0, 0, 0, 0, 0, 0, 0, []), (.aload_n 0, 2, 0, 0, 0, 0, 0, 0, 0, []), (.getfield 121, 5, 12, 17, 1, 0, 1068, 0, 0, []), (.invokevirtual 124, 8, 156, 2, 1, 12, 1171, 0, 0, []), (.bipush 32, 10, 0, 0, 0, 0, 0, 32, 0, []), (.if_icmp .ne 16, 13, 26, 0, 0, 0, 0, 0, 0, []), (.aload_n 0, 14, 0, 0, 0, 0, 0, 0, 0, []), (.dup, 15, 0, 0, 0, 0, 0, 0, 0, []), (.getfield 121, 18, 12, 17, 1, 0, 1068, 0, 0, []), (.iconst 1, 19, 0, 0, 0, 0, 0, 1, 0, []), (.iadd, 20, 0, 0, 0, 0, 0, 0, 0, []), (.putfield 121, 23, 12, 17, 1, 0, 1068, 0, 0, []), (.goto (-23), 26, 0, 0, 0, 0, 0, 0, 0, []), (.return_, 27, 0, 0, 0, 0, 0, 0, 0, [])]
set_option maxRecDepth 100000 in
theorem zk_X12_skips_0 : zOks nX12_skips zo_X12_skips_0 0 = true := by decide +kernel
def zm_X12_skips : List (Nat × List Bool) := [(0, [true])]
set_option maxRecDepth 100000 in
set_option maxHeartbeats 4000000 in
theorem zr_X12_skips_0 {C : zCa} {post : zPo} {X : zX} (hX : zClosed none C post nX12_skips X) (σ : zS) (h : C nX12_byteAt [.ref 63, .int (σ.1 63 17)] σ (zPI fun x2 σ1 => zIf ((x2 : Int32) = 32) (X 0 [some (.ref 63)] [] (zSI σ1 63 17 ((σ1.1 63 17) + 1))) (post none σ1))) : X 0 [some (.ref 63)] [] σ := zSeq_ok hX zm_X12_skips zo_X12_skips_0 0 0 _ _ _ zk_X12_skips_0 h
theorem ze_X12_skips {d : Nat} {post : zPo} (σ : zS) (h : ∀ X : zX, zClosed none (zCall d) post nX12_skips X → X 0 [some (.ref 63)] [] σ) : zCall (d + 1) nX12_skips [.ref 63] σ post := h
-- X12_reads1(63,) depth 3
def zo_X12_reads1_0 : List zOp := [(.aload_n 0, 1, 0, 0, 0, 0, 0, 0, 0, []), (.getfield 121, 4, 12, 17, 1, 0, 1068, 0, 0, []), (.istore_n 3, 5, 3, 0, 0, 0, 0, 0, 0, []), (.iconst 0, 6, 0, 0, 0, 0, 0, 0, 0, []), (.istore 4, 8, 4, 0, 0, 0, 0, 0, 0, [])]
set_option maxRecDepth 100000 in
theorem zk_X12_reads1_0 : zOks nX12_reads1 zo_X12_reads1_0 0 = true := by decide +kernel
def zo_X12_reads1_8 : List zOp := [(.aload_n 0, 9, 0, 0, 0, 0, 0, 0, 0, []), (.aload_n 0, 10, 0, 0, 0, 0, 0, 0, 0, []), (.getfield 121, 13, 12, 17, 1, 0, 1068, 0, 0, []), (.invokevirtual 124, 16, 156, 2, 1, 12, 1171, 0, 0, []), (.bipush 48, 18, 0, 0, 0, 0, 0, 48, 0, []), (.bipush 57, 20, 0, 0, 0, 0, 0, 57, 0, []), (.invokestatic 59, 23, 133, 3, 1, 0, 1128, 0, 0, []), (.ifCond .eq 45, 26, 68, 0, 0, 0, 0, 0, 0, []), (.aload_n 0, 27, 0, 0, 0, 0, 0, 0, 0, []), (.getfield 121, 30, 12, 17, 1, 0, 1068, 0, 0, []), (.iload_n 3, 31, 3, 0, 0, 0, 0, 0, 0, []), (.iconst 4, 32, 0, 0, 0, 0, 0, 4, 0, []), (.iadd, 33, 0, 0, 0, 0, 0, 0, 0, []), (.if_icmp .ge 35, 36, 68, 0, 0, 0, 0, 0, 0, []), (.bipush 10, 38, 0, 0, 0, 0, 0, 10, 0, []), (.iload 4, 40, 4, 0, 0, 0, 0, 0, 0, []), (.imul, 41, 0, 0, 0, 0, 0, 0, 0, []), (.aload_n 0, 42, 0, 0, 0, 0, 0, 0, 0, []), (.aload_n 0, 43, 0, 0, 0, 0, 0, 0, 0, []), (.getfield 121, 46, 12, 17, 1, 0, 1068, 0, 0, []), (.invokevirtual 124, 49, 156, 2, 1, 12, 1171, 0, 0, []), (.iadd, 50, 0, 0, 0, 0, 0, 0, 0, []), (.bipush 48, 52, 0, 0, 0, 0, 0, 48, 0, []), (.isub, 53, 0, 0, 0, 0, 0, 0, 0, []), (.istore 4, 55, 4, 0, 0, 0, 0, 0, 0, []), (.aload_n 0, 56, 0, 0, 0, 0, 0, 0, 0, []), (.dup, 57, 0, 0, 0, 0, 0, 0, 0, []), (.getfield 121, 60, 12, 17, 1, 0, 1068, 0, 0, []), (.iconst 1, 61, 0, 0, 0, 0, 0, 1, 0, []), (.iadd, 62, 0, 0, 0, 0, 0, 0, 0, []), (.putfield 121, 65, 12, 17, 1, 0, 1068, 0, 0, []), (.goto (-57), 68, 8, 0, 0, 0, 0, 0, 0, []), (.aload_n 0, 69, 0, 0, 0, 0, 0, 0, 0, []), (.getfield 121, 72, 12, 17, 1, 0, 1068, 0, 0, []), (.iload_n 3, 73, 3, 0, 0, 0, 0, 0, 0, []), (.if_icmp .eq 13, 76, 86, 0, 0, 0, 0, 0, 0, []), (.iload 4, 78, 4, 0, 0, 0, 0, 0, 0, []), (.iload_n 1, 79, 1, 0, 0, 0, 0, 0, 0, []), (.iload_n 2, 80, 2, 0, 0, 0, 0, 0, 0, []), (.invokestatic 59, 83, 133, 3, 1, 0, 1128, 0, 0, []), (.ifCond .ne 8, 86, 91, 0, 0, 0, 0, 0, 0, []), (.aload_n 0, 87, 0, 0, 0, 0, 0, 0, 0, []), (.iload_n 3, 88, 3, 0, 0, 0, 0, 0, 0, []), (.invokevirtual 130, 91, 158, 2, 0, 12, 1179, 0, 0, []), (.aload_n 0, 92, 0, 0, 0, 0, 0, 0, 0, []), (.aload_n 0, 93, 0, 0, 0, 0, 0, 0, 0, []), (.getfield 121, 96, 12, 17, 1, 0, 1068, 0, 0, []), (.invokevirtual 124, 99, 156, 2, 1, 12, 1171, 0, 0, []), (.bipush 48, 101, 0, 0, 0, 0, 0, 48, 0, []), (.bipush 57, 103, 0, 0, 0, 0, 0, 57, 0, []), (.invokestatic 59, 106, 133, 3, 1, 0, 1128, 0, 0, []), (.ifCond .eq 11, 109, 117, 0, 0, 0, 0, 0, 0, []), (.aload_n 0, 110, 0, 0, 0, 0, 0, 0, 0, []), (.aload_n 0, 111, 0, 0, 0, 0, 0, 0, 0, []), (.getfield 121, 114, 12, 17, 1, 0, 1068, 0, 0, []), (.invokevirtual 130, 117, 158, 2, 0, 12, 1179, 0, 0, []), (.aload_n 0, 118, 0, 0, 0, 0, 0, 0, 0, []), (.invokevirtual 134, 121, 157, 1, 0, 12, 1167, 0, 0, []), (.iload 4, 123, 4, 0, 0, 0, 0, 0, 0, []), (.ireturn, 124, 0, 0, 0, 0, 0, 0, 0, [])]
set_option maxRecDepth 100000 in
theorem zk_X12_reads1_8 : zOks nX12_reads1 zo_X12_reads1_8 8 = true := by decide +kernel
def zm_X12_reads1 : List (Nat × List Bool) := [(0, [true, true, true, false, false]), (8, [true, true, true, true, true])]
set_option maxRecDepth 100000 in
set_option maxHeartbeats 4000000 in
theorem zr_X12_reads1_0 {C : zCa} {post : zPo} {X : zX} (hX : zClosed none C post nX12_reads1 X) (p0 : Int32) (p1 : Int32) (σ : zS) (h : X 8 [some (.ref 63), some (.int p0), some (.int p1), some (.int (σ.1 63 17)), some (.int 0)] [] σ) : X 0 [some (.ref 63), some (.int p0), some (.int p1), none, none] [] σ := zSeq_ok hX zm_X12_reads1 zo_X12_reads1_0 0 0 _ _ _ zk_X12_reads1_0 h
set_option maxRecDepth 100000 in
set_option maxHeartbeats 4000000 in
theorem zr_X12_reads1_8 {C : zCa} {post : zPo} {X : zX} (hX : zClosed none C post nX12_reads1 X) (v1 : Int32) (v2 : Int32) (v3 : Int32) (v4 : Int32) (σ : zS) (h : C nX12_byteAt [.ref 63, .int (σ.1 63 17)] σ (zPI fun x2 σ1 => C nX12_in [.int x2, .int 48, .int 57] σ1 (zPI fun x4 σ3 => zIf ((x4 : Int32) = 0) (zIf ((σ3.1 63 17 : Int32) = v3) (C nX12_fails [.ref 63, .int v3] σ3 (zPV fun σ5 => C nX12_byteAt [.ref 63, .int (σ5.1 63 17)] σ5 (zPI fun x7 σ6 => C nX12_in [.int x7, .int 48, .int 57] σ6 (zPI fun x9 σ8 => zIf ((x9 : Int32) = 0) (C nX12_skips [.ref 63] σ8 (zPV fun σ10 => post (some (.int v4)) σ10)) (C nX12_fails [.ref 63, .int (σ8.1 63 17)] σ8 (zPV fun σ11 => C nX12_skips [.ref 63] σ11 (zPV fun σ12 => post (some (.int v4)) σ12))))))) (C nX12_in [.int v4, .int v1, .int v2] σ3 (zPI fun x14 σ13 => zIf ((x14 : Int32) = 0) (C nX12_fails [.ref 63, .int v3] σ13 (zPV fun σ15 => C nX12_byteAt [.ref 63, .int (σ15.1 63 17)] σ15 (zPI fun x17 σ16 => C nX12_in [.int x17, .int 48, .int 57] σ16 (zPI fun x19 σ18 => zIf ((x19 : Int32) = 0) (C nX12_skips [.ref 63] σ18 (zPV fun σ20 => post (some (.int v4)) σ20)) (C nX12_fails [.ref 63, .int (σ18.1 63 17)] σ18 (zPV fun σ21 => C nX12_skips [.ref 63] σ21 (zPV fun σ22 => post (some (.int v4)) σ22))))))) (C nX12_byteAt [.ref 63, .int (σ13.1 63 17)] σ13 (zPI fun x24 σ23 => C nX12_in [.int x24, .int 48, .int 57] σ23 (zPI fun x26 σ25 => zIf ((x26 : Int32) = 0) (C nX12_skips [.ref 63] σ25 (zPV fun σ27 => post (some (.int v4)) σ27)) (C nX12_fails [.ref 63, .int (σ25.1 63 17)] σ25 (zPV fun σ28 => C nX12_skips [.ref 63] σ28 (zPV fun σ29 => post (some (.int v4)) σ29))))))))) (zIf ((σ3.1 63 17 : Int32) < (v3 + 4)) (C nX12_byteAt [.ref 63, .int (σ3.1 63 17)] σ3 (zPI fun x31 σ30 => X 8 [some (.ref 63), some (.int v1), some (.int v2), some (.int v3), some (.int (((10 * v4) + x31) - 48))] [] (zSI σ30 63 17 ((σ30.1 63 17) + 1)))) (zIf ((σ3.1 63 17 : Int32) = v3) (C nX12_fails [.ref 63, .int v3] σ3 (zPV fun σ32 => C nX12_byteAt [.ref 63, .int (σ32.1 63 17)] σ32 (zPI fun x34 σ33 => C nX12_in [.int x34, .int 48, .int 57] σ33 (zPI fun x36 σ35 => zIf ((x36 : Int32) = 0) (C nX12_skips [.ref 63] σ35 (zPV fun σ37 => post (some (.int v4)) σ37)) (C nX12_fails [.ref 63, .int (σ35.1 63 17)] σ35 (zPV fun σ38 => C nX12_skips [.ref 63] σ38 (zPV fun σ39 => post (some (.int v4)) σ39))))))) (C nX12_in [.int v4, .int v1, .int v2] σ3 (zPI fun x41 σ40 => zIf ((x41 : Int32) = 0) (C nX12_fails [.ref 63, .int v3] σ40 (zPV fun σ42 => C nX12_byteAt [.ref 63, .int (σ42.1 63 17)] σ42 (zPI fun x44 σ43 => C nX12_in [.int x44, .int 48, .int 57] σ43 (zPI fun x46 σ45 => zIf ((x46 : Int32) = 0) (C nX12_skips [.ref 63] σ45 (zPV fun σ47 => post (some (.int v4)) σ47)) (C nX12_fails [.ref 63, .int (σ45.1 63 17)] σ45 (zPV fun σ48 => C nX12_skips [.ref 63] σ48 (zPV fun σ49 => post (some (.int v4)) σ49))))))) (C nX12_byteAt [.ref 63, .int (σ40.1 63 17)] σ40 (zPI fun x51 σ50 => C nX12_in [.int x51, .int 48, .int 57] σ50 (zPI fun x53 σ52 => zIf ((x53 : Int32) = 0) (C nX12_skips [.ref 63] σ52 (zPV fun σ54 => post (some (.int v4)) σ54)) (C nX12_fails [.ref 63, .int (σ52.1 63 17)] σ52 (zPV fun σ55 => C nX12_skips [.ref 63] σ55 (zPV fun σ56 => post (some (.int v4)) σ56))))))))))))) : X 8 [some (.ref 63), some (.int v1), some (.int v2), some (.int v3), some (.int v4)] [] σ := zSeq_ok hX zm_X12_reads1 zo_X12_reads1_8 8 8 _ _ _ zk_X12_reads1_8 h
theorem ze_X12_reads1 {d : Nat} {post : zPo} (p0 : Int32) (p1 : Int32) (σ : zS) (h : ∀ X : zX, zClosed none (zCall d) post nX12_reads1 X → X 0 [some (.ref 63), some (.int p0), some (.int p1), none, none] [] σ) : zCall (d + 1) nX12_reads1 [.ref 63, .int p0, .int p1] σ post := h
-- X12_readsRun(63,) depth 4
def zo_X12_readsRun_0 : List zOp := [(.aload_n 0, 1, 0, 0, 0, 0, 0, 0, 0, []), (.getfield 137, 4, 12, 21, 1, 0, 1072, 0, 0, []), (.bipush 60, 6, 0, 0, 0, 0, 0, 60, 0, []), (.if_icmp .ne 12, 9, 18, 0, 0, 0, 0, 0, 0, []), (.aload_n 0, 10, 0, 0, 0, 0, 0, 0, 0, []), (.aload_n 0, 11, 0, 0, 0, 0, 0, 0, 0, []), (.getfield 121, 14, 12, 17, 1, 0, 1068, 0, 0, []), (.invokevirtual 130, 17, 158, 2, 0, 12, 1179, 0, 0, []), (.return_, 18, 0, 0, 0, 0, 0, 0, 0, []), (.aload_n 0, 19, 0, 0, 0, 0, 0, 0, 0, []), (.iconst 1, 20, 0, 0, 0, 0, 0, 1, 0, []), (.sipush 4000, 23, 0, 0, 0, 0, 0, 4000, 0, []), (.invokevirtual 140, 26, 159, 3, 1, 12, 1183, 0, 0, []), (.istore_n 1, 27, 1, 0, 0, 0, 0, 0, 0, []), (.aload_n 0, 28, 0, 0, 0, 0, 0, 0, 0, []), (.getfield 127, 31, 12, 18, 1, 0, 1069, 0, 0, []), (.iconst (-1), 32, 0, 0, 0, 0, 0, (-1), 0, []), (.if_icmp .ne 24, 35, 56, 0, 0, 0, 0, 0, 0, []), (.aload_n 0, 36, 0, 0, 0, 0, 0, 0, 0, []), (.aload_n 0, 37, 0, 0, 0, 0, 0, 0, 0, []), (.getfield 121, 40, 12, 17, 1, 0, 1068, 0, 0, []), (.invokevirtual 124, 43, 156, 2, 1, 12, 1171, 0, 0, []), (.bipush 47, 45, 0, 0, 0, 0, 0, 47, 0, []), (.if_icmp .eq 11, 48, 56, 0, 0, 0, 0, 0, 0, []), (.aload_n 0, 49, 0, 0, 0, 0, 0, 0, 0, []), (.aload_n 0, 50, 0, 0, 0, 0, 0, 0, 0, []), (.getfield 121, 53, 12, 17, 1, 0, 1068, 0, 0, []), (.invokevirtual 130, 56, 158, 2, 0, 12, 1179, 0, 0, []), (.aload_n 0, 57, 0, 0, 0, 0, 0, 0, 0, []), (.dup, 58, 0, 0, 0, 0, 0, 0, 0, []), (.getfield 121, 61, 12, 17, 1, 0, 1068, 0, 0, []), (.iconst 1, 62, 0, 0, 0, 0, 0, 1, 0, []), (.iadd, 63, 0, 0, 0, 0, 0, 0, 0, []), (.putfield 121, 66, 12, 17, 1, 0, 1068, 0, 0, []), (.aload_n 0, 67, 0, 0, 0, 0, 0, 0, 0, []), (.invokevirtual 134, 70, 157, 1, 0, 12, 1167, 0, 0, []), (.aload_n 0, 71, 0, 0, 0, 0, 0, 0, 0, []), (.getfield 127, 74, 12, 18, 1, 0, 1069, 0, 0, []), (.iconst (-1), 75, 0, 0, 0, 0, 0, (-1), 0, []), (.if_icmp .ne 14, 78, 89, 0, 0, 0, 0, 0, 0, []), (.aload_n 0, 79, 0, 0, 0, 0, 0, 0, 0, []), (.iconst 0, 80, 0, 0, 0, 0, 0, 0, 0, []), (.sipush 4000, 83, 0, 0, 0, 0, 0, 4000, 0, []), (.invokevirtual 140, 86, 159, 3, 1, 12, 1183, 0, 0, []), (.goto 4, 89, 90, 0, 0, 0, 0, 0, 0, []), (.iconst 0, 90, 0, 0, 0, 0, 0, 0, 0, []), (.istore_n 2, 91, 2, 0, 0, 0, 0, 0, 0, []), (.iconst 1, 92, 0, 0, 0, 0, 0, 1, 0, []), (.istore_n 3, 93, 3, 0, 0, 0, 0, 0, 0, []), (.aload_n 0, 94, 0, 0, 0, 0, 0, 0, 0, []), (.getfield 127, 97, 12, 18, 1, 0, 1069, 0, 0, []), (.iconst (-1), 98, 0, 0, 0, 0, 0, (-1), 0, []), (.if_icmp .ne 43, 101, 141, 0, 0, 0, 0, 0, 0, []), (.aload_n 0, 102, 0, 0, 0, 0, 0, 0, 0, []), (.aload_n 0, 103, 0, 0, 0, 0, 0, 0, 0, []), (.getfield 121, 106, 12, 17, 1, 0, 1068, 0, 0, []), (.invokevirtual 124, 109, 156, 2, 1, 12, 1171, 0, 0, []), (.bipush 42, 111, 0, 0, 0, 0, 0, 42, 0, []), (.if_icmp .ne 30, 114, 141, 0, 0, 0, 0, 0, 0, []), (.aload_n 0, 115, 0, 0, 0, 0, 0, 0, 0, []), (.dup, 116, 0, 0, 0, 0, 0, 0, 0, []), (.getfield 121, 119, 12, 17, 1, 0, 1068, 0, 0, []), (.iconst 1, 120, 0, 0, 0, 0, 0, 1, 0, []), (.iadd, 121, 0, 0, 0, 0, 0, 0, 0, []), (.putfield 121, 124, 12, 17, 1, 0, 1068, 0, 0, []), (.aload_n 0, 125, 0, 0, 0, 0, 0, 0, 0, []), (.invokevirtual 134, 128, 157, 1, 0, 12, 1167, 0, 0, []), (.aload_n 0, 129, 0, 0, 0, 0, 0, 0, 0, []), (.iconst 1, 130, 0, 0, 0, 0, 0, 1, 0, []), (.bipush 60, 132, 0, 0, 0, 0, 0, 60, 0, []), (.aload_n 0, 133, 0, 0, 0, 0, 0, 0, 0, []), (.getfield 137, 136, 12, 21, 1, 0, 1072, 0, 0, []), (.isub, 137, 0, 0, 0, 0, 0, 0, 0, []), (.invokevirtual 140, 140, 159, 3, 1, 12, 1183, 0, 0, []), (.istore_n 3, 141, 3, 0, 0, 0, 0, 0, 0, []), (.iconst 0, 142, 0, 0, 0, 0, 0, 0, 0, []), (.istore 4, 144, 4, 0, 0, 0, 0, 0, 0, [])]
set_option maxRecDepth 100000 in
theorem zk_X12_readsRun_0 : zOks nX12_readsRun zo_X12_readsRun_0 0 = true := by decide +kernel
def zo_X12_readsRun_144 : List zOp := [(.iload 4, 146, 4, 0, 0, 0, 0, 0, 0, []), (.iload_n 3, 147, 3, 0, 0, 0, 0, 0, 0, []), (.if_icmp .ge 47, 150, 194, 0, 0, 0, 0, 0, 0, []), (.aload_n 0, 151, 0, 0, 0, 0, 0, 0, 0, []), (.getfield 127, 154, 12, 18, 1, 0, 1069, 0, 0, []), (.iconst (-1), 155, 0, 0, 0, 0, 0, (-1), 0, []), (.if_icmp .ne 39, 158, 194, 0, 0, 0, 0, 0, 0, []), (.aload_n 0, 159, 0, 0, 0, 0, 0, 0, 0, []), (.getfield 49, 162, 12, 19, 0, 0, 1070, 0, 0, []), (.aload_n 0, 163, 0, 0, 0, 0, 0, 0, 0, []), (.getfield 137, 166, 12, 21, 1, 0, 1072, 0, 0, []), (.iload_n 1, 167, 1, 0, 0, 0, 0, 0, 0, []), (.iastore, 168, 0, 0, 0, 0, 0, 0, 0, []), (.aload_n 0, 169, 0, 0, 0, 0, 0, 0, 0, []), (.getfield 52, 172, 12, 20, 0, 0, 1071, 0, 0, []), (.aload_n 0, 173, 0, 0, 0, 0, 0, 0, 0, []), (.getfield 137, 176, 12, 21, 1, 0, 1072, 0, 0, []), (.iload_n 2, 177, 2, 0, 0, 0, 0, 0, 0, []), (.iastore, 178, 0, 0, 0, 0, 0, 0, 0, []), (.aload_n 0, 179, 0, 0, 0, 0, 0, 0, 0, []), (.dup, 180, 0, 0, 0, 0, 0, 0, 0, []), (.getfield 137, 183, 12, 21, 1, 0, 1072, 0, 0, []), (.iconst 1, 184, 0, 0, 0, 0, 0, 1, 0, []), (.iadd, 185, 0, 0, 0, 0, 0, 0, 0, []), (.putfield 137, 188, 12, 21, 1, 0, 1072, 0, 0, []), (.iinc 4 1, 191, 4, 0, 0, 0, 0, 1, 0, []), (.goto (-47), 194, 144, 0, 0, 0, 0, 0, 0, []), (.return_, 195, 0, 0, 0, 0, 0, 0, 0, [])]
set_option maxRecDepth 100000 in
theorem zk_X12_readsRun_144 : zOks nX12_readsRun zo_X12_readsRun_144 144 = true := by decide +kernel
def zm_X12_readsRun : List (Nat × List Bool) := [(0, [true, false, false, false, false]), (144, [true, true, true, true, true])]
set_option maxRecDepth 100000 in
set_option maxHeartbeats 4000000 in
theorem zr_X12_readsRun_0 {C : zCa} {post : zPo} {X : zX} (hX : zClosed none C post nX12_readsRun X) (σ : zS) (h : zIf ((σ.1 63 21 : Int32) = 60) (C nX12_fails [.ref 63, .int (σ.1 63 17)] σ (zPV fun σ1 => post none σ1)) (C nX12_reads1 [.ref 63, .int 1, .int 4000] σ (zPI fun x3 σ2 => zIf ((σ2.1 63 18 : Int32) = (-1)) (C nX12_byteAt [.ref 63, .int (σ2.1 63 17)] σ2 (zPI fun x5 σ4 => zIf ((x5 : Int32) = 47) (C nX12_skips [.ref 63] (zSI σ4 63 17 ((σ4.1 63 17) + 1)) (zPV fun σ6 => zIf ((σ6.1 63 18 : Int32) = (-1)) (C nX12_reads1 [.ref 63, .int 0, .int 4000] σ6 (zPI fun x8 σ7 => zIf ((σ7.1 63 18 : Int32) = (-1)) (C nX12_byteAt [.ref 63, .int (σ7.1 63 17)] σ7 (zPI fun x10 σ9 => zIf ((x10 : Int32) = 42) (C nX12_skips [.ref 63] (zSI σ9 63 17 ((σ9.1 63 17) + 1)) (zPV fun σ11 => C nX12_reads1 [.ref 63, .int 1, .int (60 - (σ11.1 63 21))] σ11 (zPI fun x13 σ12 => X 144 [some (.ref 63), some (.int x3), some (.int x8), some (.int x13), some (.int 0)] [] σ12))) (X 144 [some (.ref 63), some (.int x3), some (.int x8), some (.int 1), some (.int 0)] [] σ9))) (X 144 [some (.ref 63), some (.int x3), some (.int x8), some (.int 1), some (.int 0)] [] σ7))) (zIf ((σ6.1 63 18 : Int32) = (-1)) (C nX12_byteAt [.ref 63, .int (σ6.1 63 17)] σ6 (zPI fun x15 σ14 => zIf ((x15 : Int32) = 42) (C nX12_skips [.ref 63] (zSI σ14 63 17 ((σ14.1 63 17) + 1)) (zPV fun σ16 => C nX12_reads1 [.ref 63, .int 1, .int (60 - (σ16.1 63 21))] σ16 (zPI fun x18 σ17 => X 144 [some (.ref 63), some (.int x3), some (.int 0), some (.int x18), some (.int 0)] [] σ17))) (X 144 [some (.ref 63), some (.int x3), some (.int 0), some (.int 1), some (.int 0)] [] σ14))) (X 144 [some (.ref 63), some (.int x3), some (.int 0), some (.int 1), some (.int 0)] [] σ6)))) (C nX12_fails [.ref 63, .int (σ4.1 63 17)] σ4 (zPV fun σ19 => C nX12_skips [.ref 63] (zSI σ19 63 17 ((σ19.1 63 17) + 1)) (zPV fun σ20 => zIf ((σ20.1 63 18 : Int32) = (-1)) (C nX12_reads1 [.ref 63, .int 0, .int 4000] σ20 (zPI fun x22 σ21 => zIf ((σ21.1 63 18 : Int32) = (-1)) (C nX12_byteAt [.ref 63, .int (σ21.1 63 17)] σ21 (zPI fun x24 σ23 => zIf ((x24 : Int32) = 42) (C nX12_skips [.ref 63] (zSI σ23 63 17 ((σ23.1 63 17) + 1)) (zPV fun σ25 => C nX12_reads1 [.ref 63, .int 1, .int (60 - (σ25.1 63 21))] σ25 (zPI fun x27 σ26 => X 144 [some (.ref 63), some (.int x3), some (.int x22), some (.int x27), some (.int 0)] [] σ26))) (X 144 [some (.ref 63), some (.int x3), some (.int x22), some (.int 1), some (.int 0)] [] σ23))) (X 144 [some (.ref 63), some (.int x3), some (.int x22), some (.int 1), some (.int 0)] [] σ21))) (zIf ((σ20.1 63 18 : Int32) = (-1)) (C nX12_byteAt [.ref 63, .int (σ20.1 63 17)] σ20 (zPI fun x29 σ28 => zIf ((x29 : Int32) = 42) (C nX12_skips [.ref 63] (zSI σ28 63 17 ((σ28.1 63 17) + 1)) (zPV fun σ30 => C nX12_reads1 [.ref 63, .int 1, .int (60 - (σ30.1 63 21))] σ30 (zPI fun x32 σ31 => X 144 [some (.ref 63), some (.int x3), some (.int 0), some (.int x32), some (.int 0)] [] σ31))) (X 144 [some (.ref 63), some (.int x3), some (.int 0), some (.int 1), some (.int 0)] [] σ28))) (X 144 [some (.ref 63), some (.int x3), some (.int 0), some (.int 1), some (.int 0)] [] σ20))))))) (C nX12_skips [.ref 63] (zSI σ2 63 17 ((σ2.1 63 17) + 1)) (zPV fun σ33 => zIf ((σ33.1 63 18 : Int32) = (-1)) (C nX12_reads1 [.ref 63, .int 0, .int 4000] σ33 (zPI fun x35 σ34 => zIf ((σ34.1 63 18 : Int32) = (-1)) (C nX12_byteAt [.ref 63, .int (σ34.1 63 17)] σ34 (zPI fun x37 σ36 => zIf ((x37 : Int32) = 42) (C nX12_skips [.ref 63] (zSI σ36 63 17 ((σ36.1 63 17) + 1)) (zPV fun σ38 => C nX12_reads1 [.ref 63, .int 1, .int (60 - (σ38.1 63 21))] σ38 (zPI fun x40 σ39 => X 144 [some (.ref 63), some (.int x3), some (.int x35), some (.int x40), some (.int 0)] [] σ39))) (X 144 [some (.ref 63), some (.int x3), some (.int x35), some (.int 1), some (.int 0)] [] σ36))) (X 144 [some (.ref 63), some (.int x3), some (.int x35), some (.int 1), some (.int 0)] [] σ34))) (zIf ((σ33.1 63 18 : Int32) = (-1)) (C nX12_byteAt [.ref 63, .int (σ33.1 63 17)] σ33 (zPI fun x42 σ41 => zIf ((x42 : Int32) = 42) (C nX12_skips [.ref 63] (zSI σ41 63 17 ((σ41.1 63 17) + 1)) (zPV fun σ43 => C nX12_reads1 [.ref 63, .int 1, .int (60 - (σ43.1 63 21))] σ43 (zPI fun x45 σ44 => X 144 [some (.ref 63), some (.int x3), some (.int 0), some (.int x45), some (.int 0)] [] σ44))) (X 144 [some (.ref 63), some (.int x3), some (.int 0), some (.int 1), some (.int 0)] [] σ41))) (X 144 [some (.ref 63), some (.int x3), some (.int 0), some (.int 1), some (.int 0)] [] σ33))))))) : X 0 [some (.ref 63), none, none, none, none] [] σ := zSeq_ok hX zm_X12_readsRun zo_X12_readsRun_0 0 0 _ _ _ zk_X12_readsRun_0 h
set_option maxRecDepth 100000 in
set_option maxHeartbeats 4000000 in
theorem zr_X12_readsRun_144 {C : zCa} {post : zPo} {X : zX} (hX : zClosed none C post nX12_readsRun X) (v1 : Int32) (v2 : Int32) (v3 : Int32) (v4 : Int32) (σ : zS) (h : zIf ((v4 : Int32) < v3) (zIf ((σ.1 63 18 : Int32) = (-1)) (vp_in (σ.1 63 21) (zN 77) ∧ (vp_in ((zSI σ 77 (Int32.toNatClampNeg (σ.1 63 21)) v1).1 63 21) (zN 78) ∧ (X 144 [some (.ref 63), some (.int v1), some (.int v2), some (.int v3), some (.int (v4 + 1))] [] (zSI (zSI (zSI σ 77 (Int32.toNatClampNeg (σ.1 63 21)) v1) 78 (Int32.toNatClampNeg ((zSI σ 77 (Int32.toNatClampNeg (σ.1 63 21)) v1).1 63 21)) v2) 63 21 (((zSI (zSI σ 77 (Int32.toNatClampNeg (σ.1 63 21)) v1) 78 (Int32.toNatClampNeg ((zSI σ 77 (Int32.toNatClampNeg (σ.1 63 21)) v1).1 63 21)) v2).1 63 21) + 1))))) (post none σ)) (post none σ)) : X 144 [some (.ref 63), some (.int v1), some (.int v2), some (.int v3), some (.int v4)] [] σ := zSeq_ok hX zm_X12_readsRun zo_X12_readsRun_144 144 144 _ _ _ zk_X12_readsRun_144 h
theorem ze_X12_readsRun {d : Nat} {post : zPo} (σ : zS) (h : ∀ X : zX, zClosed none (zCall d) post nX12_readsRun X → X 0 [some (.ref 63), none, none, none, none] [] σ) : zCall (d + 1) nX12_readsRun [.ref 63] σ post := h
-- X12_readsAll(63,) depth 5
def zo_X12_readsAll_0 : List zOp := [(.aload_n 0, 1, 0, 0, 0, 0, 0, 0, 0, []), (.iconst 0, 2, 0, 0, 0, 0, 0, 0, 0, []), (.putfield 121, 5, 12, 17, 1, 0, 1068, 0, 0, []), (.aload_n 0, 6, 0, 0, 0, 0, 0, 0, 0, []), (.iconst (-1), 7, 0, 0, 0, 0, 0, (-1), 0, []), (.putfield 127, 10, 12, 18, 1, 0, 1069, 0, 0, []), (.aload_n 0, 11, 0, 0, 0, 0, 0, 0, 0, []), (.iconst 0, 12, 0, 0, 0, 0, 0, 0, 0, []), (.putfield 137, 15, 12, 21, 1, 0, 1072, 0, 0, []), (.aload_n 0, 16, 0, 0, 0, 0, 0, 0, 0, []), (.invokevirtual 134, 19, 157, 1, 0, 12, 1167, 0, 0, []), (.aload_n 0, 20, 0, 0, 0, 0, 0, 0, 0, []), (.getfield 121, 23, 12, 17, 1, 0, 1068, 0, 0, []), (.aload_n 0, 24, 0, 0, 0, 0, 0, 0, 0, []), (.getfield 118, 27, 12, 16, 1, 0, 1067, 0, 0, []), (.if_icmp .ge 7, 30, 34, 0, 0, 0, 0, 0, 0, []), (.iconst 1, 31, 0, 0, 0, 0, 0, 1, 0, []), (.goto 4, 34, 35, 0, 0, 0, 0, 0, 0, []), (.iconst 0, 35, 0, 0, 0, 0, 0, 0, 0, []), (.istore_n 1, 36, 1, 0, 0, 0, 0, 0, 0, [])]
set_option maxRecDepth 100000 in
theorem zk_X12_readsAll_0 : zOks nX12_readsAll zo_X12_readsAll_0 0 = true := by decide +kernel
def zo_X12_readsAll_36 : List zOp := [(.iload_n 1, 37, 1, 0, 0, 0, 0, 0, 0, []), (.ifCond .eq 86, 40, 123, 0, 0, 0, 0, 0, 0, []), (.aload_n 0, 41, 0, 0, 0, 0, 0, 0, 0, []), (.getfield 127, 44, 12, 18, 1, 0, 1069, 0, 0, []), (.iconst (-1), 45, 0, 0, 0, 0, 0, (-1), 0, []), (.if_icmp .ne 78, 48, 123, 0, 0, 0, 0, 0, 0, []), (.aload_n 0, 49, 0, 0, 0, 0, 0, 0, 0, []), (.invokevirtual 143, 52, 160, 1, 0, 12, 1175, 0, 0, []), (.aload_n 0, 53, 0, 0, 0, 0, 0, 0, 0, []), (.aload_n 0, 54, 0, 0, 0, 0, 0, 0, 0, []), (.getfield 121, 57, 12, 17, 1, 0, 1068, 0, 0, []), (.invokevirtual 124, 60, 156, 2, 1, 12, 1171, 0, 0, []), (.bipush 59, 62, 0, 0, 0, 0, 0, 59, 0, []), (.if_icmp .ne 7, 65, 69, 0, 0, 0, 0, 0, 0, []), (.iconst 1, 66, 0, 0, 0, 0, 0, 1, 0, []), (.goto 4, 69, 70, 0, 0, 0, 0, 0, 0, []), (.iconst 0, 70, 0, 0, 0, 0, 0, 0, 0, []), (.istore_n 1, 71, 1, 0, 0, 0, 0, 0, 0, []), (.aload_n 0, 72, 0, 0, 0, 0, 0, 0, 0, []), (.getfield 127, 75, 12, 18, 1, 0, 1069, 0, 0, []), (.iconst (-1), 76, 0, 0, 0, 0, 0, (-1), 0, []), (.if_icmp .ne 26, 79, 102, 0, 0, 0, 0, 0, 0, []), (.iload_n 1, 80, 1, 0, 0, 0, 0, 0, 0, []), (.ifCond .ne 22, 83, 102, 0, 0, 0, 0, 0, 0, []), (.aload_n 0, 84, 0, 0, 0, 0, 0, 0, 0, []), (.getfield 121, 87, 12, 17, 1, 0, 1068, 0, 0, []), (.aload_n 0, 88, 0, 0, 0, 0, 0, 0, 0, []), (.getfield 118, 91, 12, 16, 1, 0, 1067, 0, 0, []), (.if_icmp .ge 11, 94, 102, 0, 0, 0, 0, 0, 0, []), (.aload_n 0, 95, 0, 0, 0, 0, 0, 0, 0, []), (.aload_n 0, 96, 0, 0, 0, 0, 0, 0, 0, []), (.getfield 121, 99, 12, 17, 1, 0, 1068, 0, 0, []), (.invokevirtual 130, 102, 158, 2, 0, 12, 1179, 0, 0, []), (.iload_n 1, 103, 1, 0, 0, 0, 0, 0, 0, []), (.ifCond .eq (-67), 106, 36, 0, 0, 0, 0, 0, 0, []), (.aload_n 0, 107, 0, 0, 0, 0, 0, 0, 0, []), (.dup, 108, 0, 0, 0, 0, 0, 0, 0, []), (.getfield 121, 111, 12, 17, 1, 0, 1068, 0, 0, []), (.iconst 1, 112, 0, 0, 0, 0, 0, 1, 0, []), (.iadd, 113, 0, 0, 0, 0, 0, 0, 0, []), (.putfield 121, 116, 12, 17, 1, 0, 1068, 0, 0, []), (.aload_n 0, 117, 0, 0, 0, 0, 0, 0, 0, []), (.invokevirtual 134, 120, 157, 1, 0, 12, 1167, 0, 0, []), (.goto (-84), 123, 36, 0, 0, 0, 0, 0, 0, []), (.return_, 124, 0, 0, 0, 0, 0, 0, 0, [])]
set_option maxRecDepth 100000 in
theorem zk_X12_readsAll_36 : zOks nX12_readsAll zo_X12_readsAll_36 36 = true := by decide +kernel
def zm_X12_readsAll : List (Nat × List Bool) := [(0, [true, false]), (36, [true, true])]
set_option maxRecDepth 100000 in
set_option maxHeartbeats 4000000 in
theorem zr_X12_readsAll_0 {C : zCa} {post : zPo} {X : zX} (hX : zClosed none C post nX12_readsAll X) (σ : zS) (h : C nX12_skips [.ref 63] (zSI (zSI (zSI σ 63 17 0) 63 18 (-1)) 63 21 0) (zPV fun σ1 => zIf ((σ1.1 63 17 : Int32) < (σ1.1 63 16)) (X 36 [some (.ref 63), some (.int 1)] [] σ1) (X 36 [some (.ref 63), some (.int 0)] [] σ1))) : X 0 [some (.ref 63), none] [] σ := zSeq_ok hX zm_X12_readsAll zo_X12_readsAll_0 0 0 _ _ _ zk_X12_readsAll_0 h
set_option maxRecDepth 100000 in
set_option maxHeartbeats 4000000 in
theorem zr_X12_readsAll_36 {C : zCa} {post : zPo} {X : zX} (hX : zClosed none C post nX12_readsAll X) (v1 : Int32) (σ : zS) (h : zIf ((v1 : Int32) = 0) (post none σ) (zIf ((σ.1 63 18 : Int32) = (-1)) (C nX12_readsRun [.ref 63] σ (zPV fun σ1 => C nX12_byteAt [.ref 63, .int (σ1.1 63 17)] σ1 (zPI fun x3 σ2 => zIf ((x3 : Int32) = 59) (zIf ((σ2.1 63 18 : Int32) = (-1)) (zIf ((1 : Int32) = 0) (zIf ((σ2.1 63 17 : Int32) < (σ2.1 63 16)) (C nX12_fails [.ref 63, .int (σ2.1 63 17)] σ2 (zPV fun σ4 => zIf ((1 : Int32) = 0) (X 36 [some (.ref 63), some (.int 1)] [] σ4) (C nX12_skips [.ref 63] (zSI σ4 63 17 ((σ4.1 63 17) + 1)) (zPV fun σ5 => X 36 [some (.ref 63), some (.int 1)] [] σ5)))) (zIf ((1 : Int32) = 0) (X 36 [some (.ref 63), some (.int 1)] [] σ2) (C nX12_skips [.ref 63] (zSI σ2 63 17 ((σ2.1 63 17) + 1)) (zPV fun σ6 => X 36 [some (.ref 63), some (.int 1)] [] σ6)))) (zIf ((1 : Int32) = 0) (X 36 [some (.ref 63), some (.int 1)] [] σ2) (C nX12_skips [.ref 63] (zSI σ2 63 17 ((σ2.1 63 17) + 1)) (zPV fun σ7 => X 36 [some (.ref 63), some (.int 1)] [] σ7)))) (zIf ((1 : Int32) = 0) (X 36 [some (.ref 63), some (.int 1)] [] σ2) (C nX12_skips [.ref 63] (zSI σ2 63 17 ((σ2.1 63 17) + 1)) (zPV fun σ8 => X 36 [some (.ref 63), some (.int 1)] [] σ8)))) (zIf ((σ2.1 63 18 : Int32) = (-1)) (zIf ((0 : Int32) = 0) (zIf ((σ2.1 63 17 : Int32) < (σ2.1 63 16)) (C nX12_fails [.ref 63, .int (σ2.1 63 17)] σ2 (zPV fun σ9 => zIf ((0 : Int32) = 0) (X 36 [some (.ref 63), some (.int 0)] [] σ9) (C nX12_skips [.ref 63] (zSI σ9 63 17 ((σ9.1 63 17) + 1)) (zPV fun σ10 => X 36 [some (.ref 63), some (.int 0)] [] σ10)))) (zIf ((0 : Int32) = 0) (X 36 [some (.ref 63), some (.int 0)] [] σ2) (C nX12_skips [.ref 63] (zSI σ2 63 17 ((σ2.1 63 17) + 1)) (zPV fun σ11 => X 36 [some (.ref 63), some (.int 0)] [] σ11)))) (zIf ((0 : Int32) = 0) (X 36 [some (.ref 63), some (.int 0)] [] σ2) (C nX12_skips [.ref 63] (zSI σ2 63 17 ((σ2.1 63 17) + 1)) (zPV fun σ12 => X 36 [some (.ref 63), some (.int 0)] [] σ12)))) (zIf ((0 : Int32) = 0) (X 36 [some (.ref 63), some (.int 0)] [] σ2) (C nX12_skips [.ref 63] (zSI σ2 63 17 ((σ2.1 63 17) + 1)) (zPV fun σ13 => X 36 [some (.ref 63), some (.int 0)] [] σ13))))))) (post none σ))) : X 36 [some (.ref 63), some (.int v1)] [] σ := zSeq_ok hX zm_X12_readsAll zo_X12_readsAll_36 36 36 _ _ _ zk_X12_readsAll_36 h
theorem ze_X12_readsAll {d : Nat} {post : zPo} (σ : zS) (h : ∀ X : zX, zClosed none (zCall d) post nX12_readsAll X → X 0 [some (.ref 63), none] [] σ) : zCall (d + 1) nX12_readsAll [.ref 63] σ post := h
-- X12_load(63,) depth 6
def zo_X12_load_0 : List zOp := [(.aload_n 0, 1, 0, 0, 0, 0, 0, 0, 0, []), (.invokevirtual 146, 4, 161, 1, 0, 12, 1163, 0, 0, []), (.aload_n 0, 5, 0, 0, 0, 0, 0, 0, 0, []), (.getfield 127, 8, 12, 18, 1, 0, 1069, 0, 0, []), (.iconst (-1), 9, 0, 0, 0, 0, 0, (-1), 0, []), (.if_icmp .eq 12, 12, 21, 0, 0, 0, 0, 0, 0, []), (.sipush (-2000), 15, 0, 0, 0, 0, 0, (-2000), 0, []), (.aload_n 0, 16, 0, 0, 0, 0, 0, 0, 0, []), (.getfield 127, 19, 12, 18, 1, 0, 1069, 0, 0, []), (.isub, 20, 0, 0, 0, 0, 0, 0, 0, []), (.ireturn, 21, 0, 0, 0, 0, 0, 0, 0, []), (.iconst 0, 22, 0, 0, 0, 0, 0, 0, 0, []), (.istore_n 1, 23, 1, 0, 0, 0, 0, 0, 0, [])]
set_option maxRecDepth 100000 in
theorem zk_X12_load_0 : zOks nX12_load zo_X12_load_0 0 = true := by decide +kernel
def zo_X12_load_23 : List zOp := [(.iload_n 1, 24, 1, 0, 0, 0, 0, 0, 0, []), (.aload_n 0, 25, 0, 0, 0, 0, 0, 0, 0, []), (.getfield 137, 28, 12, 21, 1, 0, 1072, 0, 0, []), (.if_icmp .ge 38, 31, 66, 0, 0, 0, 0, 0, 0, []), (.aload_n 0, 32, 0, 0, 0, 0, 0, 0, 0, []), (.getfield 7, 35, 12, 0, 0, 0, 1051, 0, 0, []), (.iconst 1, 36, 0, 0, 0, 0, 0, 1, 0, []), (.iload_n 1, 37, 1, 0, 0, 0, 0, 0, 0, []), (.iadd, 38, 0, 0, 0, 0, 0, 0, 0, []), (.aload_n 0, 39, 0, 0, 0, 0, 0, 0, 0, []), (.getfield 49, 42, 12, 19, 0, 0, 1070, 0, 0, []), (.iload_n 1, 43, 1, 0, 0, 0, 0, 0, 0, []), (.iaload, 44, 0, 0, 0, 0, 0, 0, 0, []), (.iastore, 45, 0, 0, 0, 0, 0, 0, 0, []), (.aload_n 0, 46, 0, 0, 0, 0, 0, 0, 0, []), (.getfield 7, 49, 12, 0, 0, 0, 1051, 0, 0, []), (.bipush 61, 51, 0, 0, 0, 0, 0, 61, 0, []), (.iload_n 1, 52, 1, 0, 0, 0, 0, 0, 0, []), (.iadd, 53, 0, 0, 0, 0, 0, 0, 0, []), (.aload_n 0, 54, 0, 0, 0, 0, 0, 0, 0, []), (.getfield 52, 57, 12, 20, 0, 0, 1071, 0, 0, []), (.iload_n 1, 58, 1, 0, 0, 0, 0, 0, 0, []), (.iaload, 59, 0, 0, 0, 0, 0, 0, 0, []), (.iastore, 60, 0, 0, 0, 0, 0, 0, 0, []), (.iinc 1 1, 63, 1, 0, 0, 0, 0, 1, 0, []), (.goto (-40), 66, 23, 0, 0, 0, 0, 0, 0, []), (.aload_n 0, 67, 0, 0, 0, 0, 0, 0, 0, []), (.getfield 7, 70, 12, 0, 0, 0, 1051, 0, 0, []), (.iconst 0, 71, 0, 0, 0, 0, 0, 0, 0, []), (.aload_n 0, 72, 0, 0, 0, 0, 0, 0, 0, []), (.getfield 137, 75, 12, 21, 1, 0, 1072, 0, 0, []), (.iastore, 76, 0, 0, 0, 0, 0, 0, 0, []), (.aload_n 0, 77, 0, 0, 0, 0, 0, 0, 0, []), (.iconst 0, 78, 0, 0, 0, 0, 0, 0, 0, []), (.putfield 118, 81, 12, 16, 1, 0, 1067, 0, 0, []), (.aload_n 0, 82, 0, 0, 0, 0, 0, 0, 0, []), (.invokevirtual 112, 85, 150, 1, 0, 12, 1131, 0, 0, []), (.aload_n 0, 86, 0, 0, 0, 0, 0, 0, 0, []), (.getfield 137, 89, 12, 21, 1, 0, 1072, 0, 0, []), (.ireturn, 90, 0, 0, 0, 0, 0, 0, 0, [])]
set_option maxRecDepth 100000 in
theorem zk_X12_load_23 : zOks nX12_load zo_X12_load_23 23 = true := by decide +kernel
def zm_X12_load : List (Nat × List Bool) := [(0, [true, false]), (23, [true, true])]
set_option maxRecDepth 100000 in
set_option maxHeartbeats 4000000 in
theorem zr_X12_load_0 {C : zCa} {post : zPo} {X : zX} (hX : zClosed none C post nX12_load X) (σ : zS) (h : C nX12_readsAll [.ref 63] σ (zPV fun σ1 => zIf ((σ1.1 63 18 : Int32) = (-1)) (X 23 [some (.ref 63), some (.int 0)] [] σ1) (post (some (.int ((-2000) - (σ1.1 63 18)))) σ1))) : X 0 [some (.ref 63), none] [] σ := zSeq_ok hX zm_X12_load zo_X12_load_0 0 0 _ _ _ zk_X12_load_0 h
set_option maxRecDepth 100000 in
set_option maxHeartbeats 4000000 in
theorem zr_X12_load_23 {C : zCa} {post : zPo} {X : zX} (hX : zClosed none C post nX12_load X) (v1 : Int32) (σ : zS) (h : zIf ((v1 : Int32) < (σ.1 63 21)) (vp_in v1 (zN 77) ∧ (vp_in (1 + v1) (zN 64) ∧ (vp_in v1 (zN 78) ∧ (vp_in (61 + v1) (zN 64) ∧ (X 23 [some (.ref 63), some (.int (v1 + 1))] [] (zSI (zSI σ 64 (Int32.toNatClampNeg (1 + v1)) (σ.1 77 (Int32.toNatClampNeg v1))) 64 (Int32.toNatClampNeg (61 + v1)) ((zSI σ 64 (Int32.toNatClampNeg (1 + v1)) (σ.1 77 (Int32.toNatClampNeg v1))).1 78 (Int32.toNatClampNeg v1)))))))) (vp_in 0 (zN 64) ∧ (C nX12_forgets [.ref 63] (zSI (zSI σ 64 (Int32.toNatClampNeg 0) (σ.1 63 21)) 63 16 0) (zPV fun σ1 => post (some (.int (σ1.1 63 21))) σ1)))) : X 23 [some (.ref 63), some (.int v1)] [] σ := zSeq_ok hX zm_X12_load zo_X12_load_23 23 23 _ _ _ zk_X12_load_23 h
theorem ze_X12_load {d : Nat} {post : zPo} (σ : zS) (h : ∀ X : zX, zClosed none (zCall d) post nX12_load X → X 0 [some (.ref 63), none] [] σ) : zCall (d + 1) nX12_load [.ref 63] σ post := h
-- X12_lossAt(63,) depth 4
def zo_X12_lossAt_0 : List zOp := [(.aload_n 0, 1, 0, 0, 0, 0, 0, 0, 0, []), (.iload_n 1, 2, 1, 0, 0, 0, 0, 0, 0, []), (.invokevirtual 115, 5, 135, 2, 1, 12, 1139, 0, 0, []), (.ifCond .eq 13, 8, 18, 0, 0, 0, 0, 0, 0, []), (.iload_n 2, 9, 2, 0, 0, 0, 0, 0, 0, []), (.iconst 0, 10, 0, 0, 0, 0, 0, 0, 0, []), (.bipush 51, 12, 0, 0, 0, 0, 0, 51, 0, []), (.invokestatic 59, 15, 133, 3, 1, 0, 1128, 0, 0, []), (.ifCond .ne 6, 18, 21, 0, 0, 0, 0, 0, 0, []), (.bipush (-2), 20, 0, 0, 0, 0, 0, (-2), 0, []), (.ireturn, 21, 0, 0, 0, 0, 0, 0, 0, []), (.aload_n 0, 22, 0, 0, 0, 0, 0, 0, 0, []), (.invokevirtual 149, 25, 139, 1, 0, 12, 1191, 0, 0, []), (.aload_n 0, 26, 0, 0, 0, 0, 0, 0, 0, []), (.iload_n 1, 27, 1, 0, 0, 0, 0, 0, 0, []), (.iload_n 2, 28, 2, 0, 0, 0, 0, 0, 0, []), (.invokevirtual 157, 31, 144, 3, 1, 12, 1264, 0, 0, []), (.ireturn, 32, 0, 0, 0, 0, 0, 0, 0, [])]
set_option maxRecDepth 100000 in
theorem zk_X12_lossAt_0 : zOks nX12_lossAt zo_X12_lossAt_0 0 = true := by decide +kernel
def zm_X12_lossAt : List (Nat × List Bool) := [(0, [true, true, true])]
set_option maxRecDepth 100000 in
set_option maxHeartbeats 4000000 in
theorem zr_X12_lossAt_0 {C : zCa} {post : zPo} {X : zX} (hX : zClosed none C post nX12_lossAt X) (p0 : Int32) (p1 : Int32) (σ : zS) (h : C nX12_isFrame [.ref 63, .int p0] σ (zPI fun x2 σ1 => zIf ((x2 : Int32) = 0) (post (some (.int (-2))) σ1) (C nX12_in [.int p1, .int 0, .int 51] σ1 (zPI fun x4 σ3 => zIf ((x4 : Int32) = 0) (post (some (.int (-2))) σ3) (C nX12_findsTypes [.ref 63] σ3 (zPV fun σ5 => C nX12_loss [.ref 63, .int p0, .int p1] σ5 (zPI fun x7 σ6 => post (some (.int x7)) σ6))))))) : X 0 [some (.ref 63), some (.int p0), some (.int p1)] [] σ := zSeq_ok hX zm_X12_lossAt zo_X12_lossAt_0 0 0 _ _ _ zk_X12_lossAt_0 h
theorem ze_X12_lossAt {d : Nat} {post : zPo} (p0 : Int32) (p1 : Int32) (σ : zS) (h : ∀ X : zX, zClosed none (zCall d) post nX12_lossAt X → X 0 [some (.ref 63), some (.int p0), some (.int p1)] [] σ) : zCall (d + 1) nX12_lossAt [.ref 63, .int p0, .int p1] σ post := h
-- X12_relax(63,) depth 8
def zo_X12_relax_0 : List zOp := [(.iload_n 1, 1, 1, 0, 0, 0, 0, 0, 0, []), (.iconst 0, 2, 0, 0, 0, 0, 0, 0, 0, []), (.ldc 176, 4, 0, 0, 0, 0, 1314, 10000000, 0, []), (.invokestatic 59, 7, 133, 3, 1, 0, 1128, 0, 0, []), (.ifCond .ne 6, 10, 13, 0, 0, 0, 0, 0, 0, []), (.bipush (-2), 12, 0, 0, 0, 0, 0, (-2), 0, []), (.ireturn, 13, 0, 0, 0, 0, 0, 0, 0, []), (.aload_n 0, 14, 0, 0, 0, 0, 0, 0, 0, []), (.getfield 7, 17, 12, 0, 0, 0, 1051, 0, 0, []), (.sipush 207, 20, 0, 0, 0, 0, 0, 207, 0, []), (.iaload, 21, 0, 0, 0, 0, 0, 0, 0, []), (.ifCond .ne 6, 24, 27, 0, 0, 0, 0, 0, 0, []), (.bipush (-3), 26, 0, 0, 0, 0, 0, (-3), 0, []), (.ireturn, 27, 0, 0, 0, 0, 0, 0, 0, []), (.aload_n 0, 28, 0, 0, 0, 0, 0, 0, 0, []), (.invokevirtual 149, 31, 139, 1, 0, 12, 1191, 0, 0, []), (.aload_n 0, 32, 0, 0, 0, 0, 0, 0, 0, []), (.invokevirtual 169, 35, 149, 1, 1, 12, 1290, 0, 0, []), (.istore_n 2, 36, 2, 0, 0, 0, 0, 0, 0, []), (.iconst 0, 37, 0, 0, 0, 0, 0, 0, 0, []), (.istore_n 3, 38, 3, 0, 0, 0, 0, 0, 0, []), (.iconst 1, 39, 0, 0, 0, 0, 0, 1, 0, []), (.istore 4, 41, 4, 0, 0, 0, 0, 0, 0, [])]
set_option maxRecDepth 100000 in
theorem zk_X12_relax_0 : zOks nX12_relax zo_X12_relax_0 0 = true := by decide +kernel
def zo_X12_relax_41 : List zOp := [(.iload 4, 43, 4, 0, 0, 0, 0, 0, 0, []), (.ifCond .eq 132, 46, 175, 0, 0, 0, 0, 0, 0, []), (.iload_n 3, 47, 3, 0, 0, 0, 0, 0, 0, []), (.sipush 500, 50, 0, 0, 0, 0, 0, 500, 0, []), (.if_icmp .ge 125, 53, 175, 0, 0, 0, 0, 0, 0, []), (.iconst (-1), 54, 0, 0, 0, 0, 0, (-1), 0, []), (.istore 5, 56, 5, 0, 0, 0, 0, 0, 0, []), (.ldc2_w 201, 59, 0, 0, 0, 0, 1356, 0, (-1), []), (.lstore 6, 61, 6, 0, 0, 0, 0, 0, 0, []), (.iconst 0, 62, 0, 0, 0, 0, 0, 0, 0, []), (.istore 8, 64, 8, 0, 0, 0, 0, 0, 0, [])]
set_option maxRecDepth 100000 in
theorem zk_X12_relax_41 : zOks nX12_relax zo_X12_relax_41 41 = true := by decide +kernel
def zo_X12_relax_64 : List zOp := [(.iload 8, 66, 8, 0, 0, 0, 0, 0, 0, []), (.aload_n 0, 67, 0, 0, 0, 0, 0, 0, 0, []), (.getfield 7, 70, 12, 0, 0, 0, 1051, 0, 0, []), (.iconst 0, 71, 0, 0, 0, 0, 0, 0, 0, []), (.iaload, 72, 0, 0, 0, 0, 0, 0, 0, []), (.if_icmp .ge 64, 75, 136, 0, 0, 0, 0, 0, 0, []), (.aload_n 0, 76, 0, 0, 0, 0, 0, 0, 0, []), (.aload_n 0, 77, 0, 0, 0, 0, 0, 0, 0, []), (.getfield 31, 80, 12, 7, 0, 0, 1058, 0, 0, []), (.iload 8, 82, 8, 0, 0, 0, 0, 0, 0, []), (.iaload, 83, 0, 0, 0, 0, 0, 0, 0, []), (.iload_n 1, 84, 1, 0, 0, 0, 0, 0, 0, []), (.i2l, 85, 0, 0, 0, 0, 0, 0, 0, []), (.iload_n 2, 86, 2, 0, 0, 0, 0, 0, 0, []), (.invokevirtual 209, 89, 191, 4, 2, 12, 1357, 0, 0, []), (.lstore 9, 91, 9, 0, 0, 0, 0, 0, 0, []), (.lload 9, 93, 9, 0, 0, 0, 0, 0, 0, []), (.lload 6, 95, 6, 0, 0, 0, 0, 0, 0, []), (.lcmp, 96, 0, 0, 0, 0, 0, 0, 0, []), (.ifCond .le 13, 99, 109, 0, 0, 0, 0, 0, 0, []), (.aload_n 0, 100, 0, 0, 0, 0, 0, 0, 0, []), (.getfield 31, 103, 12, 7, 0, 0, 1058, 0, 0, []), (.iload 8, 105, 8, 0, 0, 0, 0, 0, 0, []), (.iaload, 106, 0, 0, 0, 0, 0, 0, 0, []), (.goto 5, 109, 111, 0, 0, 0, 0, 0, 0, []), (.iload 5, 111, 5, 0, 0, 0, 0, 0, 0, []), (.istore 5, 113, 5, 0, 0, 0, 0, 0, 0, []), (.lload 9, 115, 9, 0, 0, 0, 0, 0, 0, []), (.lload 6, 117, 6, 0, 0, 0, 0, 0, 0, []), (.lcmp, 118, 0, 0, 0, 0, 0, 0, 0, []), (.ifCond .le 8, 121, 126, 0, 0, 0, 0, 0, 0, []), (.lload 9, 123, 9, 0, 0, 0, 0, 0, 0, []), (.goto 5, 126, 128, 0, 0, 0, 0, 0, 0, []), (.lload 6, 128, 6, 0, 0, 0, 0, 0, 0, []), (.lstore 6, 130, 6, 0, 0, 0, 0, 0, 0, []), (.iinc 8 1, 133, 8, 0, 0, 0, 0, 1, 0, []), (.goto (-69), 136, 64, 0, 0, 0, 0, 0, 0, []), (.iload 5, 138, 5, 0, 0, 0, 0, 0, 0, []), (.iconst (-1), 139, 0, 0, 0, 0, 0, (-1), 0, []), (.if_icmp .eq 7, 142, 146, 0, 0, 0, 0, 0, 0, []), (.iconst 1, 143, 0, 0, 0, 0, 0, 1, 0, []), (.goto 4, 146, 147, 0, 0, 0, 0, 0, 0, []), (.iconst 0, 147, 0, 0, 0, 0, 0, 0, 0, []), (.istore 4, 149, 4, 0, 0, 0, 0, 0, 0, []), (.iload 4, 151, 4, 0, 0, 0, 0, 0, 0, []), (.ifCond .eq 21, 154, 172, 0, 0, 0, 0, 0, 0, []), (.aload_n 0, 155, 0, 0, 0, 0, 0, 0, 0, []), (.getfield 7, 158, 12, 0, 0, 0, 1051, 0, 0, []), (.sipush 208, 161, 0, 0, 0, 0, 0, 208, 0, []), (.iload 5, 163, 5, 0, 0, 0, 0, 0, 0, []), (.iadd, 164, 0, 0, 0, 0, 0, 0, 0, []), (.dup2, 165, 0, 0, 0, 0, 0, 0, 0, []), (.iaload, 166, 0, 0, 0, 0, 0, 0, 0, []), (.iconst 1, 167, 0, 0, 0, 0, 0, 1, 0, []), (.isub, 168, 0, 0, 0, 0, 0, 0, 0, []), (.iastore, 169, 0, 0, 0, 0, 0, 0, 0, []), (.iinc 3 1, 172, 3, 0, 0, 0, 0, 1, 0, []), (.goto (-131), 175, 41, 0, 0, 0, 0, 0, 0, []), (.iload_n 3, 176, 3, 0, 0, 0, 0, 0, 0, []), (.ireturn, 177, 0, 0, 0, 0, 0, 0, 0, [])]
set_option maxRecDepth 100000 in
theorem zk_X12_relax_64 : zOks nX12_relax zo_X12_relax_64 64 = true := by decide +kernel
def zm_X12_relax : List (Nat × List Bool) := [(0, [true, true, false, false, false, false, false, false, false, false, false]), (41, [true, true, true, true, true, false, false, false, false, false, false]), (64, [true, true, true, true, false, true, true, false, true, false, false]), (175, [false, false, false, true, false, false, false, false, false, false, false])]
set_option maxRecDepth 100000 in
set_option maxHeartbeats 4000000 in
theorem zr_X12_relax_0 {C : zCa} {post : zPo} {X : zX} (hX : zClosed none C post nX12_relax X) (p0 : Int32) (σ : zS) (h : C nX12_in [.int p0, .int 0, .int 10000000] σ (zPI fun x2 σ1 => zIf ((x2 : Int32) = 0) (post (some (.int (-2))) σ1) (vp_in 207 (zN 64) ∧ (zIf ((σ1.1 64 (Int32.toNatClampNeg 207) : Int32) = 0) (post (some (.int (-3))) σ1) (C nX12_findsTypes [.ref 63] σ1 (zPV fun σ3 => C nX12_underflowsNow [.ref 63] σ3 (zPI fun x5 σ4 => X 41 [some (.ref 63), some (.int p0), some (.int x5), some (.int 0), some (.int 1), none, none, none, none, none, none] [] σ4))))))) : X 0 [some (.ref 63), some (.int p0), none, none, none, none, none, none, none, none, none] [] σ := zSeq_ok hX zm_X12_relax zo_X12_relax_0 0 0 _ _ _ zk_X12_relax_0 h
set_option maxRecDepth 100000 in
set_option maxHeartbeats 4000000 in
theorem zr_X12_relax_41 {C : zCa} {post : zPo} {X : zX} (hX : zClosed none C post nX12_relax X) (v1 : Int32) (v2 : Int32) (v3 : Int32) (v4 : Int32) (σ : zS) (h : zIf ((v4 : Int32) = 0) (X 175 [none, none, none, some (.int v3), none, none, none, none, none, none, none] [] σ) (zIf ((v3 : Int32) < 500) (X 64 [some (.ref 63), some (.int v1), some (.int v2), some (.int v3), none, some (.int (-1)), some (.long (-1)), none, some (.int 0), none, none] [] σ) (X 175 [none, none, none, some (.int v3), none, none, none, none, none, none, none] [] σ))) : X 41 [some (.ref 63), some (.int v1), some (.int v2), some (.int v3), some (.int v4), none, none, none, none, none, none] [] σ := zSeq_ok hX zm_X12_relax zo_X12_relax_41 41 41 _ _ _ zk_X12_relax_41 h
set_option maxRecDepth 100000 in
set_option maxHeartbeats 4000000 in
theorem zr_X12_relax_175 {C : zCa} {post : zPo} {X : zX} (hX : zClosed none C post nX12_relax X) (v3 : Int32) (σ : zS) (h : post (some (.int v3)) σ) : X 175 [none, none, none, some (.int v3), none, none, none, none, none, none, none] [] σ := zSeq_ok hX zm_X12_relax zo_X12_relax_64 64 175 _ _ _ zk_X12_relax_64 h
set_option maxRecDepth 100000 in
set_option maxHeartbeats 4000000 in
theorem zr_X12_relax_64 {C : zCa} {post : zPo} {X : zX} (hX : zClosed none C post nX12_relax X) (v1 : Int32) (v2 : Int32) (v3 : Int32) (v5 : Int32) (v6 : Int64) (v8 : Int32) (σ : zS) (h : vp_in 0 (zN 64) ∧ (zIf ((v8 : Int32) < (σ.1 64 (Int32.toNatClampNeg 0))) (vp_in v8 (zN 71) ∧ (C nX12_gainOf [.ref 63, .int (σ.1 71 (Int32.toNatClampNeg v8)), .long (Int32.toInt64 v1), .int v2] σ (zPJ fun x2 σ1 => zIf ((lg_cmp x2 v6 : Int32) ≤ 0) (zIf ((lg_cmp x2 v6 : Int32) ≤ 0) (X 64 [some (.ref 63), some (.int v1), some (.int v2), some (.int v3), none, some (.int v5), some (.long v6), none, some (.int (v8 + 1)), none, none] [] σ1) (X 64 [some (.ref 63), some (.int v1), some (.int v2), some (.int v3), none, some (.int v5), some (.long x2), none, some (.int (v8 + 1)), none, none] [] σ1)) (vp_in v8 (zN 71) ∧ (zIf ((lg_cmp x2 v6 : Int32) ≤ 0) (X 64 [some (.ref 63), some (.int v1), some (.int v2), some (.int v3), none, some (.int (σ1.1 71 (Int32.toNatClampNeg v8))), some (.long v6), none, some (.int (v8 + 1)), none, none] [] σ1) (X 64 [some (.ref 63), some (.int v1), some (.int v2), some (.int v3), none, some (.int (σ1.1 71 (Int32.toNatClampNeg v8))), some (.long x2), none, some (.int (v8 + 1)), none, none] [] σ1)))))) (zIf ((v5 : Int32) = (-1)) (zIf ((0 : Int32) = 0) (X 41 [some (.ref 63), some (.int v1), some (.int v2), some (.int v3), some (.int 0), none, none, none, none, none, none] [] σ) (vp_in (208 + v5) (zN 64) ∧ (vp_in (208 + v5) (zN 64) ∧ (X 41 [some (.ref 63), some (.int v1), some (.int v2), some (.int (v3 + 1)), some (.int 0), none, none, none, none, none, none] [] (zSI σ 64 (Int32.toNatClampNeg (208 + v5)) ((σ.1 64 (Int32.toNatClampNeg (208 + v5))) - 1)))))) (zIf ((1 : Int32) = 0) (X 41 [some (.ref 63), some (.int v1), some (.int v2), some (.int v3), some (.int 1), none, none, none, none, none, none] [] σ) (vp_in (208 + v5) (zN 64) ∧ (vp_in (208 + v5) (zN 64) ∧ (X 41 [some (.ref 63), some (.int v1), some (.int v2), some (.int (v3 + 1)), some (.int 1), none, none, none, none, none, none] [] (zSI σ 64 (Int32.toNatClampNeg (208 + v5)) ((σ.1 64 (Int32.toNatClampNeg (208 + v5))) - 1))))))))) : X 64 [some (.ref 63), some (.int v1), some (.int v2), some (.int v3), none, some (.int v5), some (.long v6), none, some (.int v8), none, none] [] σ := zSeq_ok hX zm_X12_relax zo_X12_relax_64 64 64 _ _ _ zk_X12_relax_64 h
theorem ze_X12_relax {d : Nat} {post : zPo} (p0 : Int32) (σ : zS) (h : ∀ X : zX, zClosed none (zCall d) post nX12_relax X → X 0 [some (.ref 63), some (.int p0), none, none, none, none, none, none, none, none, none] [] σ) : zCall (d + 1) nX12_relax [.ref 63, .int p0] σ post := h
-- X12_repair(63,) depth 7
def zo_X12_repair_0 : List zOp := [(.aload_n 0, 1, 0, 0, 0, 0, 0, 0, 0, []), (.getfield 7, 4, 12, 0, 0, 0, 1051, 0, 0, []), (.sipush 207, 7, 0, 0, 0, 0, 0, 207, 0, []), (.iaload, 8, 0, 0, 0, 0, 0, 0, 0, []), (.ifCond .ne 6, 11, 14, 0, 0, 0, 0, 0, 0, []), (.bipush (-3), 13, 0, 0, 0, 0, 0, (-3), 0, []), (.ireturn, 14, 0, 0, 0, 0, 0, 0, 0, []), (.aload_n 0, 15, 0, 0, 0, 0, 0, 0, 0, []), (.invokevirtual 149, 18, 139, 1, 0, 12, 1191, 0, 0, []), (.iconst 0, 19, 0, 0, 0, 0, 0, 0, 0, []), (.istore_n 1, 20, 1, 0, 0, 0, 0, 0, 0, [])]
set_option maxRecDepth 100000 in
theorem zk_X12_repair_0 : zOks nX12_repair zo_X12_repair_0 0 = true := by decide +kernel
def zo_X12_repair_20 : List zOp := [(.iload_n 1, 21, 1, 0, 0, 0, 0, 0, 0, []), (.bipush 60, 23, 0, 0, 0, 0, 0, 60, 0, []), (.if_icmp .ge 25, 26, 48, 0, 0, 0, 0, 0, 0, []), (.aload_n 0, 27, 0, 0, 0, 0, 0, 0, 0, []), (.getfield 55, 30, 12, 22, 0, 0, 1073, 0, 0, []), (.iload_n 1, 31, 1, 0, 0, 0, 0, 0, 0, []), (.aload_n 0, 32, 0, 0, 0, 0, 0, 0, 0, []), (.getfield 7, 35, 12, 0, 0, 0, 1051, 0, 0, []), (.sipush 208, 38, 0, 0, 0, 0, 0, 208, 0, []), (.iload_n 1, 39, 1, 0, 0, 0, 0, 0, 0, []), (.iadd, 40, 0, 0, 0, 0, 0, 0, 0, []), (.iaload, 41, 0, 0, 0, 0, 0, 0, 0, []), (.iastore, 42, 0, 0, 0, 0, 0, 0, 0, []), (.iinc 1 1, 45, 1, 0, 0, 0, 0, 1, 0, []), (.goto (-25), 48, 20, 0, 0, 0, 0, 0, 0, []), (.iconst 0, 49, 0, 0, 0, 0, 0, 0, 0, []), (.istore_n 1, 50, 1, 0, 0, 0, 0, 0, 0, []), (.aload_n 0, 51, 0, 0, 0, 0, 0, 0, 0, []), (.invokevirtual 195, 54, 188, 1, 1, 12, 1335, 0, 0, []), (.istore_n 2, 55, 2, 0, 0, 0, 0, 0, 0, [])]
set_option maxRecDepth 100000 in
theorem zk_X12_repair_20 : zOks nX12_repair zo_X12_repair_20 20 = true := by decide +kernel
def zo_X12_repair_55 : List zOp := [(.iload_n 2, 56, 2, 0, 0, 0, 0, 0, 0, []), (.iconst (-1), 57, 0, 0, 0, 0, 0, (-1), 0, []), (.if_icmp .eq 121, 60, 178, 0, 0, 0, 0, 0, 0, []), (.iload_n 2, 61, 2, 0, 0, 0, 0, 0, 0, []), (.istore_n 3, 62, 3, 0, 0, 0, 0, 0, 0, [])]
set_option maxRecDepth 100000 in
theorem zk_X12_repair_55 : zOks nX12_repair zo_X12_repair_55 55 = true := by decide +kernel
def zo_X12_repair_62 : List zOp := [(.iload_n 3, 63, 3, 0, 0, 0, 0, 0, 0, []), (.ifCond .le 26, 66, 89, 0, 0, 0, 0, 0, 0, []), (.aload_n 0, 67, 0, 0, 0, 0, 0, 0, 0, []), (.getfield 34, 70, 12, 10, 0, 0, 1061, 0, 0, []), (.iload_n 3, 71, 3, 0, 0, 0, 0, 0, 0, []), (.iaload, 72, 0, 0, 0, 0, 0, 0, 0, []), (.aload_n 0, 73, 0, 0, 0, 0, 0, 0, 0, []), (.getfield 7, 76, 12, 0, 0, 0, 1051, 0, 0, []), (.sipush 185, 79, 0, 0, 0, 0, 0, 185, 0, []), (.iaload, 80, 0, 0, 0, 0, 0, 0, 0, []), (.if_icmp .eq 9, 83, 89, 0, 0, 0, 0, 0, 0, []), (.iinc 3 (-1), 86, 3, 0, 0, 0, 0, (-1), 0, []), (.goto (-24), 89, 62, 0, 0, 0, 0, 0, 0, []), (.aload_n 0, 90, 0, 0, 0, 0, 0, 0, 0, []), (.iload_n 3, 91, 3, 0, 0, 0, 0, 0, 0, []), (.iload_n 2, 92, 2, 0, 0, 0, 0, 0, 0, []), (.invokevirtual 198, 95, 187, 3, 1, 12, 1339, 0, 0, []), (.istore 4, 97, 4, 0, 0, 0, 0, 0, 0, []), (.iload 4, 99, 4, 0, 0, 0, 0, 0, 0, []), (.iconst (-1), 100, 0, 0, 0, 0, 0, (-1), 0, []), (.if_icmp .ne 40, 103, 140, 0, 0, 0, 0, 0, 0, []), (.iconst 0, 104, 0, 0, 0, 0, 0, 0, 0, []), (.istore 5, 106, 5, 0, 0, 0, 0, 0, 0, [])]
set_option maxRecDepth 100000 in
theorem zk_X12_repair_62 : zOks nX12_repair zo_X12_repair_62 62 = true := by decide +kernel
def zo_X12_repair_106 : List zOp := [(.iload 5, 108, 5, 0, 0, 0, 0, 0, 0, []), (.bipush 60, 110, 0, 0, 0, 0, 0, 60, 0, []), (.if_icmp .ge 27, 113, 137, 0, 0, 0, 0, 0, 0, []), (.aload_n 0, 114, 0, 0, 0, 0, 0, 0, 0, []), (.getfield 7, 117, 12, 0, 0, 0, 1051, 0, 0, []), (.sipush 208, 120, 0, 0, 0, 0, 0, 208, 0, []), (.iload 5, 122, 5, 0, 0, 0, 0, 0, 0, []), (.iadd, 123, 0, 0, 0, 0, 0, 0, 0, []), (.aload_n 0, 124, 0, 0, 0, 0, 0, 0, 0, []), (.getfield 55, 127, 12, 22, 0, 0, 1073, 0, 0, []), (.iload 5, 129, 5, 0, 0, 0, 0, 0, 0, []), (.iaload, 130, 0, 0, 0, 0, 0, 0, 0, []), (.iastore, 131, 0, 0, 0, 0, 0, 0, 0, []), (.iinc 5 1, 134, 5, 0, 0, 0, 0, 1, 0, []), (.goto (-28), 137, 106, 0, 0, 0, 0, 0, 0, []), (.bipush (-3), 139, 0, 0, 0, 0, 0, (-3), 0, []), (.ireturn, 140, 0, 0, 0, 0, 0, 0, 0, []), (.aload_n 0, 141, 0, 0, 0, 0, 0, 0, 0, []), (.getfield 7, 144, 12, 0, 0, 0, 1051, 0, 0, []), (.sipush 208, 147, 0, 0, 0, 0, 0, 208, 0, []), (.aload_n 0, 148, 0, 0, 0, 0, 0, 0, 0, []), (.getfield 31, 151, 12, 7, 0, 0, 1058, 0, 0, []), (.iload 4, 153, 4, 0, 0, 0, 0, 0, 0, []), (.iaload, 154, 0, 0, 0, 0, 0, 0, 0, []), (.iadd, 155, 0, 0, 0, 0, 0, 0, 0, []), (.aload_n 0, 156, 0, 0, 0, 0, 0, 0, 0, []), (.aload_n 0, 157, 0, 0, 0, 0, 0, 0, 0, []), (.getfield 31, 160, 12, 7, 0, 0, 1058, 0, 0, []), (.iload 4, 162, 4, 0, 0, 0, 0, 0, 0, []), (.iaload, 163, 0, 0, 0, 0, 0, 0, 0, []), (.invokevirtual 188, 166, 185, 2, 1, 12, 1343, 0, 0, []), (.iastore, 167, 0, 0, 0, 0, 0, 0, 0, []), (.iinc 1 1, 170, 1, 0, 0, 0, 0, 1, 0, []), (.aload_n 0, 171, 0, 0, 0, 0, 0, 0, 0, []), (.invokevirtual 195, 174, 188, 1, 1, 12, 1335, 0, 0, []), (.istore_n 2, 175, 2, 0, 0, 0, 0, 0, 0, []), (.goto (-120), 178, 55, 0, 0, 0, 0, 0, 0, []), (.iload_n 1, 179, 1, 0, 0, 0, 0, 0, 0, []), (.ireturn, 180, 0, 0, 0, 0, 0, 0, 0, [])]
set_option maxRecDepth 100000 in
theorem zk_X12_repair_106 : zOks nX12_repair zo_X12_repair_106 106 = true := by decide +kernel
def zm_X12_repair : List (Nat × List Bool) := [(0, [true, false, false, false, false, false]), (20, [true, true, false, false, false, false]), (55, [true, true, true, false, false, false]), (62, [true, true, true, true, false, false]), (106, [true, false, false, false, false, true]), (140, [true, true, false, false, true, false]), (178, [false, true, false, false, false, false])]
set_option maxRecDepth 100000 in
set_option maxHeartbeats 4000000 in
theorem zr_X12_repair_0 {C : zCa} {post : zPo} {X : zX} (hX : zClosed none C post nX12_repair X) (σ : zS) (h : vp_in 207 (zN 64) ∧ (zIf ((σ.1 64 (Int32.toNatClampNeg 207) : Int32) = 0) (post (some (.int (-3))) σ) (C nX12_findsTypes [.ref 63] σ (zPV fun σ1 => X 20 [some (.ref 63), some (.int 0), none, none, none, none] [] σ1)))) : X 0 [some (.ref 63), none, none, none, none, none] [] σ := zSeq_ok hX zm_X12_repair zo_X12_repair_0 0 0 _ _ _ zk_X12_repair_0 h
set_option maxRecDepth 100000 in
set_option maxHeartbeats 4000000 in
theorem zr_X12_repair_20 {C : zCa} {post : zPo} {X : zX} (hX : zClosed none C post nX12_repair X) (v1 : Int32) (σ : zS) (h : zIf ((v1 : Int32) < 60) (vp_in (208 + v1) (zN 64) ∧ (vp_in v1 (zN 79) ∧ (X 20 [some (.ref 63), some (.int (v1 + 1)), none, none, none, none] [] (zSI σ 79 (Int32.toNatClampNeg v1) (σ.1 64 (Int32.toNatClampNeg (208 + v1))))))) (C nX12_firstUnderflow [.ref 63] σ (zPI fun x2 σ1 => X 55 [some (.ref 63), some (.int 0), some (.int x2), none, none, none] [] σ1))) : X 20 [some (.ref 63), some (.int v1), none, none, none, none] [] σ := zSeq_ok hX zm_X12_repair zo_X12_repair_20 20 20 _ _ _ zk_X12_repair_20 h
set_option maxRecDepth 100000 in
set_option maxHeartbeats 4000000 in
theorem zr_X12_repair_55 {C : zCa} {post : zPo} {X : zX} (hX : zClosed none C post nX12_repair X) (v1 : Int32) (v2 : Int32) (σ : zS) (h : zIf ((v2 : Int32) = (-1)) (X 178 [none, some (.int v1), none, none, none, none] [] σ) (X 62 [some (.ref 63), some (.int v1), some (.int v2), some (.int v2), none, none] [] σ)) : X 55 [some (.ref 63), some (.int v1), some (.int v2), none, none, none] [] σ := zSeq_ok hX zm_X12_repair zo_X12_repair_55 55 55 _ _ _ zk_X12_repair_55 h
set_option maxRecDepth 100000 in
set_option maxHeartbeats 4000000 in
theorem zr_X12_repair_178 {C : zCa} {post : zPo} {X : zX} (hX : zClosed none C post nX12_repair X) (v1 : Int32) (σ : zS) (h : post (some (.int v1)) σ) : X 178 [none, some (.int v1), none, none, none, none] [] σ := zSeq_ok hX zm_X12_repair zo_X12_repair_106 106 178 _ _ _ zk_X12_repair_106 h
set_option maxRecDepth 100000 in
set_option maxHeartbeats 4000000 in
theorem zr_X12_repair_62 {C : zCa} {post : zPo} {X : zX} (hX : zClosed none C post nX12_repair X) (v1 : Int32) (v2 : Int32) (v3 : Int32) (σ : zS) (h : zIf ((v3 : Int32) ≤ 0) (C nX12_cheapest [.ref 63, .int v3, .int v2] σ (zPI fun x2 σ1 => zIf ((x2 : Int32) = (-1)) (X 106 [some (.ref 63), none, none, none, none, some (.int 0)] [] σ1) (X 140 [some (.ref 63), some (.int v1), none, none, some (.int x2), none] [] σ1))) (vp_in v3 (zN 72) ∧ (vp_in 185 (zN 64) ∧ (zIf ((σ.1 72 (Int32.toNatClampNeg v3) : Int32) = (σ.1 64 (Int32.toNatClampNeg 185))) (C nX12_cheapest [.ref 63, .int v3, .int v2] σ (zPI fun x4 σ3 => zIf ((x4 : Int32) = (-1)) (X 106 [some (.ref 63), none, none, none, none, some (.int 0)] [] σ3) (X 140 [some (.ref 63), some (.int v1), none, none, some (.int x4), none] [] σ3))) (X 62 [some (.ref 63), some (.int v1), some (.int v2), some (.int (v3 + (-1))), none, none] [] σ))))) : X 62 [some (.ref 63), some (.int v1), some (.int v2), some (.int v3), none, none] [] σ := zSeq_ok hX zm_X12_repair zo_X12_repair_62 62 62 _ _ _ zk_X12_repair_62 h
set_option maxRecDepth 100000 in
set_option maxHeartbeats 4000000 in
theorem zr_X12_repair_106 {C : zCa} {post : zPo} {X : zX} (hX : zClosed none C post nX12_repair X) (v5 : Int32) (σ : zS) (h : zIf ((v5 : Int32) < 60) (vp_in v5 (zN 79) ∧ (vp_in (208 + v5) (zN 64) ∧ (X 106 [some (.ref 63), none, none, none, none, some (.int (v5 + 1))] [] (zSI σ 64 (Int32.toNatClampNeg (208 + v5)) (σ.1 79 (Int32.toNatClampNeg v5)))))) (post (some (.int (-3))) σ)) : X 106 [some (.ref 63), none, none, none, none, some (.int v5)] [] σ := zSeq_ok hX zm_X12_repair zo_X12_repair_106 106 106 _ _ _ zk_X12_repair_106 h
set_option maxRecDepth 100000 in
set_option maxHeartbeats 4000000 in
theorem zr_X12_repair_140 {C : zCa} {post : zPo} {X : zX} (hX : zClosed none C post nX12_repair X) (v1 : Int32) (v4 : Int32) (σ : zS) (h : vp_in v4 (zN 71) ∧ (vp_in v4 (zN 71) ∧ (C nX12_nextQuantizer [.ref 63, .int (σ.1 71 (Int32.toNatClampNeg v4))] σ (zPI fun x2 σ1 => vp_in (208 + (σ.1 71 (Int32.toNatClampNeg v4))) (zN 64) ∧ (C nX12_firstUnderflow [.ref 63] (zSI σ1 64 (Int32.toNatClampNeg (208 + (σ.1 71 (Int32.toNatClampNeg v4)))) x2) (zPI fun x4 σ3 => X 55 [some (.ref 63), some (.int (v1 + 1)), some (.int x4), none, none, none] [] σ3)))))) : X 140 [some (.ref 63), some (.int v1), none, none, some (.int v4), none] [] σ := zSeq_ok hX zm_X12_repair zo_X12_repair_106 106 140 _ _ _ zk_X12_repair_106 h
theorem ze_X12_repair {d : Nat} {post : zPo} (σ : zS) (h : ∀ X : zX, zClosed none (zCall d) post nX12_repair X → X 0 [some (.ref 63), none, none, none, none, none] [] σ) : zCall (d + 1) nX12_repair [.ref 63] σ post := h
-- X12_restore(63,) depth 2
def zo_X12_restore_0 : List zOp := [(.iload_n 1, 1, 1, 0, 0, 0, 0, 0, 0, []), (.iconst 0, 2, 0, 0, 0, 0, 0, 0, 0, []), (.iconst 1, 3, 0, 0, 0, 0, 0, 1, 0, []), (.invokestatic 59, 6, 133, 3, 1, 0, 1128, 0, 0, []), (.ifCond .ne 6, 9, 12, 0, 0, 0, 0, 0, 0, []), (.bipush (-2), 11, 0, 0, 0, 0, 0, (-2), 0, []), (.ireturn, 12, 0, 0, 0, 0, 0, 0, 0, []), (.aload_n 0, 13, 0, 0, 0, 0, 0, 0, 0, []), (.getfield 16, 16, 12, 2, 0, 0, 1053, 0, 0, []), (.iload_n 1, 17, 1, 0, 0, 0, 0, 0, 0, []), (.iaload, 18, 0, 0, 0, 0, 0, 0, 0, []), (.ifCond .ne 6, 21, 24, 0, 0, 0, 0, 0, 0, []), (.bipush (-3), 23, 0, 0, 0, 0, 0, (-3), 0, []), (.ireturn, 24, 0, 0, 0, 0, 0, 0, 0, []), (.iconst 0, 25, 0, 0, 0, 0, 0, 0, 0, []), (.istore_n 2, 26, 2, 0, 0, 0, 0, 0, 0, [])]
set_option maxRecDepth 100000 in
theorem zk_X12_restore_0 : zOks nX12_restore zo_X12_restore_0 0 = true := by decide +kernel
def zo_X12_restore_26 : List zOp := [(.iload_n 2, 27, 2, 0, 0, 0, 0, 0, 0, []), (.sipush 268, 30, 0, 0, 0, 0, 0, 268, 0, []), (.if_icmp .ge 27, 33, 57, 0, 0, 0, 0, 0, 0, []), (.aload_n 0, 34, 0, 0, 0, 0, 0, 0, 0, []), (.getfield 7, 37, 12, 0, 0, 0, 1051, 0, 0, []), (.iload_n 2, 38, 2, 0, 0, 0, 0, 0, 0, []), (.aload_n 0, 39, 0, 0, 0, 0, 0, 0, 0, []), (.getfield 13, 42, 12, 1, 0, 0, 1052, 0, 0, []), (.sipush 268, 45, 0, 0, 0, 0, 0, 268, 0, []), (.iload_n 1, 46, 1, 0, 0, 0, 0, 0, 0, []), (.imul, 47, 0, 0, 0, 0, 0, 0, 0, []), (.iload_n 2, 48, 2, 0, 0, 0, 0, 0, 0, []), (.iadd, 49, 0, 0, 0, 0, 0, 0, 0, []), (.iaload, 50, 0, 0, 0, 0, 0, 0, 0, []), (.iastore, 51, 0, 0, 0, 0, 0, 0, 0, []), (.iinc 2 1, 54, 2, 0, 0, 0, 0, 1, 0, []), (.goto (-28), 57, 26, 0, 0, 0, 0, 0, 0, []), (.aload_n 0, 58, 0, 0, 0, 0, 0, 0, 0, []), (.getfield 7, 61, 12, 0, 0, 0, 1051, 0, 0, []), (.iconst 0, 62, 0, 0, 0, 0, 0, 0, 0, []), (.iaload, 63, 0, 0, 0, 0, 0, 0, 0, []), (.ireturn, 64, 0, 0, 0, 0, 0, 0, 0, [])]
set_option maxRecDepth 100000 in
theorem zk_X12_restore_26 : zOks nX12_restore zo_X12_restore_26 26 = true := by decide +kernel
def zm_X12_restore : List (Nat × List Bool) := [(0, [true, true, false]), (26, [true, true, true])]
set_option maxRecDepth 100000 in
set_option maxHeartbeats 4000000 in
theorem zr_X12_restore_0 {C : zCa} {post : zPo} {X : zX} (hX : zClosed none C post nX12_restore X) (p0 : Int32) (σ : zS) (h : C nX12_in [.int p0, .int 0, .int 1] σ (zPI fun x2 σ1 => zIf ((x2 : Int32) = 0) (post (some (.int (-2))) σ1) (vp_in p0 (zN 66) ∧ (zIf ((σ1.1 66 (Int32.toNatClampNeg p0) : Int32) = 0) (post (some (.int (-3))) σ1) (X 26 [some (.ref 63), some (.int p0), some (.int 0)] [] σ1))))) : X 0 [some (.ref 63), some (.int p0), none] [] σ := zSeq_ok hX zm_X12_restore zo_X12_restore_0 0 0 _ _ _ zk_X12_restore_0 h
set_option maxRecDepth 100000 in
set_option maxHeartbeats 4000000 in
theorem zr_X12_restore_26 {C : zCa} {post : zPo} {X : zX} (hX : zClosed none C post nX12_restore X) (v1 : Int32) (v2 : Int32) (σ : zS) (h : zIf ((v2 : Int32) < 268) (vp_in ((268 * v1) + v2) (zN 65) ∧ (vp_in v2 (zN 64) ∧ (X 26 [some (.ref 63), some (.int v1), some (.int (v2 + 1))] [] (zSI σ 64 (Int32.toNatClampNeg v2) (σ.1 65 (Int32.toNatClampNeg ((268 * v1) + v2))))))) (vp_in 0 (zN 64) ∧ (post (some (.int (σ.1 64 (Int32.toNatClampNeg 0)))) σ))) : X 26 [some (.ref 63), some (.int v1), some (.int v2)] [] σ := zSeq_ok hX zm_X12_restore zo_X12_restore_26 26 26 _ _ _ zk_X12_restore_26 h
theorem ze_X12_restore {d : Nat} {post : zPo} (p0 : Int32) (σ : zS) (h : ∀ X : zX, zClosed none (zCall d) post nX12_restore X → X 0 [some (.ref 63), some (.int p0), none] [] σ) : zCall (d + 1) nX12_restore [.ref 63, .int p0] σ post := h
-- X12_save(63,) depth 2
def zo_X12_save_0 : List zOp := [(.iload_n 1, 1, 1, 0, 0, 0, 0, 0, 0, []), (.iconst 0, 2, 0, 0, 0, 0, 0, 0, 0, []), (.iconst 1, 3, 0, 0, 0, 0, 0, 1, 0, []), (.invokestatic 59, 6, 133, 3, 1, 0, 1128, 0, 0, []), (.ifCond .ne 6, 9, 12, 0, 0, 0, 0, 0, 0, []), (.bipush (-2), 11, 0, 0, 0, 0, 0, (-2), 0, []), (.ireturn, 12, 0, 0, 0, 0, 0, 0, 0, []), (.iconst 0, 13, 0, 0, 0, 0, 0, 0, 0, []), (.istore_n 2, 14, 2, 0, 0, 0, 0, 0, 0, [])]
set_option maxRecDepth 100000 in
theorem zk_X12_save_0 : zOks nX12_save zo_X12_save_0 0 = true := by decide +kernel
def zo_X12_save_14 : List zOp := [(.iload_n 2, 15, 2, 0, 0, 0, 0, 0, 0, []), (.sipush 268, 18, 0, 0, 0, 0, 0, 268, 0, []), (.if_icmp .ge 27, 21, 45, 0, 0, 0, 0, 0, 0, []), (.aload_n 0, 22, 0, 0, 0, 0, 0, 0, 0, []), (.getfield 13, 25, 12, 1, 0, 0, 1052, 0, 0, []), (.sipush 268, 28, 0, 0, 0, 0, 0, 268, 0, []), (.iload_n 1, 29, 1, 0, 0, 0, 0, 0, 0, []), (.imul, 30, 0, 0, 0, 0, 0, 0, 0, []), (.iload_n 2, 31, 2, 0, 0, 0, 0, 0, 0, []), (.iadd, 32, 0, 0, 0, 0, 0, 0, 0, []), (.aload_n 0, 33, 0, 0, 0, 0, 0, 0, 0, []), (.getfield 7, 36, 12, 0, 0, 0, 1051, 0, 0, []), (.iload_n 2, 37, 2, 0, 0, 0, 0, 0, 0, []), (.iaload, 38, 0, 0, 0, 0, 0, 0, 0, []), (.iastore, 39, 0, 0, 0, 0, 0, 0, 0, []), (.iinc 2 1, 42, 2, 0, 0, 0, 0, 1, 0, []), (.goto (-28), 45, 14, 0, 0, 0, 0, 0, 0, []), (.aload_n 0, 46, 0, 0, 0, 0, 0, 0, 0, []), (.getfield 16, 49, 12, 2, 0, 0, 1053, 0, 0, []), (.iload_n 1, 50, 1, 0, 0, 0, 0, 0, 0, []), (.iconst 1, 51, 0, 0, 0, 0, 0, 1, 0, []), (.iastore, 52, 0, 0, 0, 0, 0, 0, 0, []), (.aload_n 0, 53, 0, 0, 0, 0, 0, 0, 0, []), (.getfield 7, 56, 12, 0, 0, 0, 1051, 0, 0, []), (.iconst 0, 57, 0, 0, 0, 0, 0, 0, 0, []), (.iaload, 58, 0, 0, 0, 0, 0, 0, 0, []), (.ireturn, 59, 0, 0, 0, 0, 0, 0, 0, [])]
set_option maxRecDepth 100000 in
theorem zk_X12_save_14 : zOks nX12_save zo_X12_save_14 14 = true := by decide +kernel
def zm_X12_save : List (Nat × List Bool) := [(0, [true, true, false]), (14, [true, true, true])]
set_option maxRecDepth 100000 in
set_option maxHeartbeats 4000000 in
theorem zr_X12_save_0 {C : zCa} {post : zPo} {X : zX} (hX : zClosed none C post nX12_save X) (p0 : Int32) (σ : zS) (h : C nX12_in [.int p0, .int 0, .int 1] σ (zPI fun x2 σ1 => zIf ((x2 : Int32) = 0) (post (some (.int (-2))) σ1) (X 14 [some (.ref 63), some (.int p0), some (.int 0)] [] σ1))) : X 0 [some (.ref 63), some (.int p0), none] [] σ := zSeq_ok hX zm_X12_save zo_X12_save_0 0 0 _ _ _ zk_X12_save_0 h
set_option maxRecDepth 100000 in
set_option maxHeartbeats 4000000 in
theorem zr_X12_save_14 {C : zCa} {post : zPo} {X : zX} (hX : zClosed none C post nX12_save X) (v1 : Int32) (v2 : Int32) (σ : zS) (h : zIf ((v2 : Int32) < 268) (vp_in v2 (zN 64) ∧ (vp_in ((268 * v1) + v2) (zN 65) ∧ (X 14 [some (.ref 63), some (.int v1), some (.int (v2 + 1))] [] (zSI σ 65 (Int32.toNatClampNeg ((268 * v1) + v2)) (σ.1 64 (Int32.toNatClampNeg v2)))))) (vp_in v1 (zN 66) ∧ (vp_in 0 (zN 64) ∧ (post (some (.int ((zSI σ 66 (Int32.toNatClampNeg v1) 1).1 64 (Int32.toNatClampNeg 0)))) (zSI σ 66 (Int32.toNatClampNeg v1) 1))))) : X 14 [some (.ref 63), some (.int v1), some (.int v2)] [] σ := zSeq_ok hX zm_X12_save zo_X12_save_14 14 14 _ _ _ zk_X12_save_14 h
theorem ze_X12_save {d : Nat} {post : zPo} (p0 : Int32) (σ : zS) (h : ∀ X : zX, zClosed none (zCall d) post nX12_save X → X 0 [some (.ref 63), some (.int p0), none] [] σ) : zCall (d + 1) nX12_save [.ref 63, .int p0] σ post := h
-- X12_set(63,) depth 3
def zo_X12_set_0 : List zOp := [(.aload_n 0, 1, 0, 0, 0, 0, 0, 0, 0, []), (.iload_n 1, 2, 1, 0, 0, 0, 0, 0, 0, []), (.invokevirtual 115, 5, 135, 2, 1, 12, 1139, 0, 0, []), (.ifCond .eq 25, 8, 30, 0, 0, 0, 0, 0, 0, []), (.iload_n 2, 9, 2, 0, 0, 0, 0, 0, 0, []), (.iconst 1, 10, 0, 0, 0, 0, 0, 1, 0, []), (.sipush 4000, 13, 0, 0, 0, 0, 0, 4000, 0, []), (.invokestatic 59, 16, 133, 3, 1, 0, 1128, 0, 0, []), (.ifCond .eq 14, 19, 30, 0, 0, 0, 0, 0, 0, []), (.iload_n 3, 20, 3, 0, 0, 0, 0, 0, 0, []), (.iconst 0, 21, 0, 0, 0, 0, 0, 0, 0, []), (.sipush 4000, 24, 0, 0, 0, 0, 0, 4000, 0, []), (.invokestatic 59, 27, 133, 3, 1, 0, 1128, 0, 0, []), (.ifCond .ne 6, 30, 33, 0, 0, 0, 0, 0, 0, []), (.bipush (-2), 32, 0, 0, 0, 0, 0, (-2), 0, []), (.ireturn, 33, 0, 0, 0, 0, 0, 0, 0, []), (.aload_n 0, 34, 0, 0, 0, 0, 0, 0, 0, []), (.getfield 7, 37, 12, 0, 0, 0, 1051, 0, 0, []), (.iconst 1, 38, 0, 0, 0, 0, 0, 1, 0, []), (.iload_n 1, 39, 1, 0, 0, 0, 0, 0, 0, []), (.iadd, 40, 0, 0, 0, 0, 0, 0, 0, []), (.iload_n 2, 41, 2, 0, 0, 0, 0, 0, 0, []), (.iastore, 42, 0, 0, 0, 0, 0, 0, 0, []), (.aload_n 0, 43, 0, 0, 0, 0, 0, 0, 0, []), (.getfield 7, 46, 12, 0, 0, 0, 1051, 0, 0, []), (.bipush 61, 48, 0, 0, 0, 0, 0, 61, 0, []), (.iload_n 1, 49, 1, 0, 0, 0, 0, 0, 0, []), (.iadd, 50, 0, 0, 0, 0, 0, 0, 0, []), (.iload_n 3, 51, 3, 0, 0, 0, 0, 0, 0, []), (.iastore, 52, 0, 0, 0, 0, 0, 0, 0, []), (.aload_n 0, 53, 0, 0, 0, 0, 0, 0, 0, []), (.invokevirtual 112, 56, 150, 1, 0, 12, 1131, 0, 0, []), (.aload_n 0, 57, 0, 0, 0, 0, 0, 0, 0, []), (.iload_n 1, 58, 1, 0, 0, 0, 0, 0, 0, []), (.invokevirtual 70, 61, 136, 2, 1, 12, 1143, 0, 0, []), (.ifCond .eq 7, 64, 68, 0, 0, 0, 0, 0, 0, []), (.iconst 1, 65, 0, 0, 0, 0, 0, 1, 0, []), (.goto 4, 68, 69, 0, 0, 0, 0, 0, 0, []), (.iconst 0, 69, 0, 0, 0, 0, 0, 0, 0, []), (.ireturn, 70, 0, 0, 0, 0, 0, 0, 0, [])]
set_option maxRecDepth 100000 in
theorem zk_X12_set_0 : zOks nX12_set zo_X12_set_0 0 = true := by decide +kernel
def zm_X12_set : List (Nat × List Bool) := [(0, [true, true, true, true])]
set_option maxRecDepth 100000 in
set_option maxHeartbeats 4000000 in
theorem zr_X12_set_0 {C : zCa} {post : zPo} {X : zX} (hX : zClosed none C post nX12_set X) (p0 : Int32) (p1 : Int32) (p2 : Int32) (σ : zS) (h : C nX12_isFrame [.ref 63, .int p0] σ (zPI fun x2 σ1 => zIf ((x2 : Int32) = 0) (post (some (.int (-2))) σ1) (C nX12_in [.int p1, .int 1, .int 4000] σ1 (zPI fun x4 σ3 => zIf ((x4 : Int32) = 0) (post (some (.int (-2))) σ3) (C nX12_in [.int p2, .int 0, .int 4000] σ3 (zPI fun x6 σ5 => zIf ((x6 : Int32) = 0) (post (some (.int (-2))) σ5) (vp_in (1 + p0) (zN 64) ∧ (vp_in (61 + p0) (zN 64) ∧ (C nX12_forgets [.ref 63] (zSI (zSI σ5 64 (Int32.toNatClampNeg (1 + p0)) p1) 64 (Int32.toNatClampNeg (61 + p0)) p2) (zPV fun σ7 => C nX12_isCut [.ref 63, .int p0] σ7 (zPI fun x9 σ8 => zIf ((x9 : Int32) = 0) (post (some (.int 0)) σ8) (post (some (.int 1)) σ8)))))))))))) : X 0 [some (.ref 63), some (.int p0), some (.int p1), some (.int p2)] [] σ := zSeq_ok hX zm_X12_set zo_X12_set_0 0 0 _ _ _ zk_X12_set_0 h
theorem ze_X12_set {d : Nat} {post : zPo} (p0 : Int32) (p1 : Int32) (p2 : Int32) (σ : zS) (h : ∀ X : zX, zClosed none (zCall d) post nX12_set X → X 0 [some (.ref 63), some (.int p0), some (.int p1), some (.int p2)] [] σ) : zCall (d + 1) nX12_set [.ref 63, .int p0, .int p1, .int p2] σ post := h
-- X12_setBridges(63,) depth 2
def zo_X12_setBridges_0 : List zOp := [(.iload_n 1, 1, 1, 0, 0, 0, 0, 0, 0, []), (.iconst 0, 2, 0, 0, 0, 0, 0, 0, 0, []), (.iconst 3, 3, 0, 0, 0, 0, 0, 3, 0, []), (.invokestatic 59, 6, 133, 3, 1, 0, 1128, 0, 0, []), (.ifCond .ne 6, 9, 12, 0, 0, 0, 0, 0, 0, []), (.bipush (-2), 11, 0, 0, 0, 0, 0, (-2), 0, []), (.ireturn, 12, 0, 0, 0, 0, 0, 0, 0, []), (.aload_n 0, 13, 0, 0, 0, 0, 0, 0, 0, []), (.invokevirtual 112, 16, 150, 1, 0, 12, 1131, 0, 0, []), (.aload_n 0, 17, 0, 0, 0, 0, 0, 0, 0, []), (.sipush 182, 20, 0, 0, 0, 0, 0, 182, 0, []), (.iload_n 1, 21, 1, 0, 0, 0, 0, 0, 0, []), (.invokevirtual 152, 24, 165, 3, 1, 12, 1215, 0, 0, []), (.ireturn, 25, 0, 0, 0, 0, 0, 0, 0, [])]
set_option maxRecDepth 100000 in
theorem zk_X12_setBridges_0 : zOks nX12_setBridges zo_X12_setBridges_0 0 = true := by decide +kernel
def zm_X12_setBridges : List (Nat × List Bool) := [(0, [true, true])]
set_option maxRecDepth 100000 in
set_option maxHeartbeats 4000000 in
theorem zr_X12_setBridges_0 {C : zCa} {post : zPo} {X : zX} (hX : zClosed none C post nX12_setBridges X) (p0 : Int32) (σ : zS) (h : C nX12_in [.int p0, .int 0, .int 3] σ (zPI fun x2 σ1 => zIf ((x2 : Int32) = 0) (post (some (.int (-2))) σ1) (C nX12_forgets [.ref 63] σ1 (zPV fun σ3 => C nX12_sets [.ref 63, .int 182, .int p0] σ3 (zPI fun x5 σ4 => post (some (.int x5)) σ4))))) : X 0 [some (.ref 63), some (.int p0)] [] σ := zSeq_ok hX zm_X12_setBridges zo_X12_setBridges_0 0 0 _ _ _ zk_X12_setBridges_0 h
theorem ze_X12_setBridges {d : Nat} {post : zPo} (p0 : Int32) (σ : zS) (h : ∀ X : zX, zClosed none (zCall d) post nX12_setBridges X → X 0 [some (.ref 63), some (.int p0)] [] σ) : zCall (d + 1) nX12_setBridges [.ref 63, .int p0] σ post := h
-- X12_setBuffer(63,) depth 2
def zo_X12_setBuffer_0 : List zOp := [(.iload_n 1, 1, 1, 0, 0, 0, 0, 0, 0, []), (.bipush 100, 3, 0, 0, 0, 0, 0, 100, 0, []), (.ldc 155, 5, 0, 0, 0, 0, 1235, 1000000, 0, []), (.invokestatic 59, 8, 133, 3, 1, 0, 1128, 0, 0, []), (.ifCond .eq 13, 11, 21, 0, 0, 0, 0, 0, 0, []), (.iload_n 2, 12, 2, 0, 0, 0, 0, 0, 0, []), (.iconst 0, 13, 0, 0, 0, 0, 0, 0, 0, []), (.bipush 100, 15, 0, 0, 0, 0, 0, 100, 0, []), (.invokestatic 59, 18, 133, 3, 1, 0, 1128, 0, 0, []), (.ifCond .ne 6, 21, 24, 0, 0, 0, 0, 0, 0, []), (.bipush (-2), 23, 0, 0, 0, 0, 0, (-2), 0, []), (.ireturn, 24, 0, 0, 0, 0, 0, 0, 0, []), (.aload_n 0, 25, 0, 0, 0, 0, 0, 0, 0, []), (.getfield 7, 28, 12, 0, 0, 0, 1051, 0, 0, []), (.sipush 186, 31, 0, 0, 0, 0, 0, 186, 0, []), (.iload_n 2, 32, 2, 0, 0, 0, 0, 0, 0, []), (.iastore, 33, 0, 0, 0, 0, 0, 0, 0, []), (.aload_n 0, 34, 0, 0, 0, 0, 0, 0, 0, []), (.sipush 185, 37, 0, 0, 0, 0, 0, 185, 0, []), (.iload_n 1, 38, 1, 0, 0, 0, 0, 0, 0, []), (.invokevirtual 152, 41, 165, 3, 1, 12, 1215, 0, 0, []), (.ireturn, 42, 0, 0, 0, 0, 0, 0, 0, [])]
set_option maxRecDepth 100000 in
theorem zk_X12_setBuffer_0 : zOks nX12_setBuffer zo_X12_setBuffer_0 0 = true := by decide +kernel
def zm_X12_setBuffer : List (Nat × List Bool) := [(0, [true, true, true])]
set_option maxRecDepth 100000 in
set_option maxHeartbeats 4000000 in
theorem zr_X12_setBuffer_0 {C : zCa} {post : zPo} {X : zX} (hX : zClosed none C post nX12_setBuffer X) (p0 : Int32) (p1 : Int32) (σ : zS) (h : C nX12_in [.int p0, .int 100, .int 1000000] σ (zPI fun x2 σ1 => zIf ((x2 : Int32) = 0) (post (some (.int (-2))) σ1) (C nX12_in [.int p1, .int 0, .int 100] σ1 (zPI fun x4 σ3 => zIf ((x4 : Int32) = 0) (post (some (.int (-2))) σ3) (vp_in 186 (zN 64) ∧ (C nX12_sets [.ref 63, .int 185, .int p0] (zSI σ3 64 (Int32.toNatClampNeg 186) p1) (zPI fun x6 σ5 => post (some (.int x6)) σ5))))))) : X 0 [some (.ref 63), some (.int p0), some (.int p1)] [] σ := zSeq_ok hX zm_X12_setBuffer zo_X12_setBuffer_0 0 0 _ _ _ zk_X12_setBuffer_0 h
theorem ze_X12_setBuffer {d : Nat} {post : zPo} (p0 : Int32) (p1 : Int32) (σ : zS) (h : ∀ X : zX, zClosed none (zCall d) post nX12_setBuffer X → X 0 [some (.ref 63), some (.int p0), some (.int p1)] [] σ) : zCall (d + 1) nX12_setBuffer [.ref 63, .int p0, .int p1] σ post := h
-- X12_setInterval(63,) depth 2
def zo_X12_setInterval_0 : List zOp := [(.iload_n 1, 1, 1, 0, 0, 0, 0, 0, 0, []), (.iconst 1, 2, 0, 0, 0, 0, 0, 1, 0, []), (.bipush 60, 4, 0, 0, 0, 0, 0, 60, 0, []), (.invokestatic 59, 7, 133, 3, 1, 0, 1128, 0, 0, []), (.ifCond .ne 6, 10, 13, 0, 0, 0, 0, 0, 0, []), (.bipush (-2), 12, 0, 0, 0, 0, 0, (-2), 0, []), (.ireturn, 13, 0, 0, 0, 0, 0, 0, 0, []), (.aload_n 0, 14, 0, 0, 0, 0, 0, 0, 0, []), (.invokevirtual 112, 17, 150, 1, 0, 12, 1131, 0, 0, []), (.aload_n 0, 18, 0, 0, 0, 0, 0, 0, 0, []), (.sipush 181, 21, 0, 0, 0, 0, 0, 181, 0, []), (.iload_n 1, 22, 1, 0, 0, 0, 0, 0, 0, []), (.invokevirtual 152, 25, 165, 3, 1, 12, 1215, 0, 0, []), (.ireturn, 26, 0, 0, 0, 0, 0, 0, 0, [])]
set_option maxRecDepth 100000 in
theorem zk_X12_setInterval_0 : zOks nX12_setInterval zo_X12_setInterval_0 0 = true := by decide +kernel
def zm_X12_setInterval : List (Nat × List Bool) := [(0, [true, true])]
set_option maxRecDepth 100000 in
set_option maxHeartbeats 4000000 in
theorem zr_X12_setInterval_0 {C : zCa} {post : zPo} {X : zX} (hX : zClosed none C post nX12_setInterval X) (p0 : Int32) (σ : zS) (h : C nX12_in [.int p0, .int 1, .int 60] σ (zPI fun x2 σ1 => zIf ((x2 : Int32) = 0) (post (some (.int (-2))) σ1) (C nX12_forgets [.ref 63] σ1 (zPV fun σ3 => C nX12_sets [.ref 63, .int 181, .int p0] σ3 (zPI fun x5 σ4 => post (some (.int x5)) σ4))))) : X 0 [some (.ref 63), some (.int p0)] [] σ := zSeq_ok hX zm_X12_setInterval zo_X12_setInterval_0 0 0 _ _ _ zk_X12_setInterval_0 h
theorem ze_X12_setInterval {d : Nat} {post : zPo} (p0 : Int32) (σ : zS) (h : ∀ X : zX, zClosed none (zCall d) post nX12_setInterval X → X 0 [some (.ref 63), some (.int p0)] [] σ) : zCall (d + 1) nX12_setInterval [.ref 63, .int p0] σ post := h
-- X12_setRange(63,) depth 2
def zo_X12_setRange_0 : List zOp := [(.iload_n 1, 1, 1, 0, 0, 0, 0, 0, 0, []), (.iconst 0, 2, 0, 0, 0, 0, 0, 0, 0, []), (.bipush 51, 4, 0, 0, 0, 0, 0, 51, 0, []), (.invokestatic 59, 7, 133, 3, 1, 0, 1128, 0, 0, []), (.ifCond .eq 13, 10, 20, 0, 0, 0, 0, 0, 0, []), (.iload_n 2, 11, 2, 0, 0, 0, 0, 0, 0, []), (.iload_n 1, 12, 1, 0, 0, 0, 0, 0, 0, []), (.bipush 51, 14, 0, 0, 0, 0, 0, 51, 0, []), (.invokestatic 59, 17, 133, 3, 1, 0, 1128, 0, 0, []), (.ifCond .ne 6, 20, 23, 0, 0, 0, 0, 0, 0, []), (.bipush (-2), 22, 0, 0, 0, 0, 0, (-2), 0, []), (.ireturn, 23, 0, 0, 0, 0, 0, 0, 0, []), (.bipush 100, 25, 0, 0, 0, 0, 0, 100, 0, []), (.aload_n 0, 26, 0, 0, 0, 0, 0, 0, 0, []), (.sipush 183, 29, 0, 0, 0, 0, 0, 183, 0, []), (.iload_n 1, 30, 1, 0, 0, 0, 0, 0, 0, []), (.invokevirtual 152, 33, 165, 3, 1, 12, 1215, 0, 0, []), (.imul, 34, 0, 0, 0, 0, 0, 0, 0, []), (.istore_n 3, 35, 3, 0, 0, 0, 0, 0, 0, []), (.iload_n 3, 36, 3, 0, 0, 0, 0, 0, 0, []), (.aload_n 0, 37, 0, 0, 0, 0, 0, 0, 0, []), (.sipush 184, 40, 0, 0, 0, 0, 0, 184, 0, []), (.iload_n 2, 41, 2, 0, 0, 0, 0, 0, 0, []), (.invokevirtual 152, 44, 165, 3, 1, 12, 1215, 0, 0, []), (.iadd, 45, 0, 0, 0, 0, 0, 0, 0, []), (.ireturn, 46, 0, 0, 0, 0, 0, 0, 0, [])]
set_option maxRecDepth 100000 in
theorem zk_X12_setRange_0 : zOks nX12_setRange zo_X12_setRange_0 0 = true := by decide +kernel
def zm_X12_setRange : List (Nat × List Bool) := [(0, [true, true, true, false])]
set_option maxRecDepth 100000 in
set_option maxHeartbeats 4000000 in
theorem zr_X12_setRange_0 {C : zCa} {post : zPo} {X : zX} (hX : zClosed none C post nX12_setRange X) (p0 : Int32) (p1 : Int32) (σ : zS) (h : C nX12_in [.int p0, .int 0, .int 51] σ (zPI fun x2 σ1 => zIf ((x2 : Int32) = 0) (post (some (.int (-2))) σ1) (C nX12_in [.int p1, .int p0, .int 51] σ1 (zPI fun x4 σ3 => zIf ((x4 : Int32) = 0) (post (some (.int (-2))) σ3) (C nX12_sets [.ref 63, .int 183, .int p0] σ3 (zPI fun x6 σ5 => C nX12_sets [.ref 63, .int 184, .int p1] σ5 (zPI fun x8 σ7 => post (some (.int ((100 * x6) + x8))) σ7))))))) : X 0 [some (.ref 63), some (.int p0), some (.int p1), none] [] σ := zSeq_ok hX zm_X12_setRange zo_X12_setRange_0 0 0 _ _ _ zk_X12_setRange_0 h
theorem ze_X12_setRange {d : Nat} {post : zPo} (p0 : Int32) (p1 : Int32) (σ : zS) (h : ∀ X : zX, zClosed none (zCall d) post nX12_setRange X → X 0 [some (.ref 63), some (.int p0), some (.int p1), none] [] σ) : zCall (d + 1) nX12_setRange [.ref 63, .int p0, .int p1] σ post := h
-- X12_setRate(63,) depth 2
def zo_X12_setRate_0 : List zOp := [(.iload_n 1, 1, 1, 0, 0, 0, 0, 0, 0, []), (.iconst 0, 2, 0, 0, 0, 0, 0, 0, 0, []), (.ldc 156, 4, 0, 0, 0, 0, 1240, 100000, 0, []), (.invokestatic 59, 7, 133, 3, 1, 0, 1128, 0, 0, []), (.ifCond .eq 14, 10, 21, 0, 0, 0, 0, 0, 0, []), (.aload_n 0, 11, 0, 0, 0, 0, 0, 0, 0, []), (.sipush 187, 14, 0, 0, 0, 0, 0, 187, 0, []), (.iload_n 1, 15, 1, 0, 0, 0, 0, 0, 0, []), (.invokevirtual 152, 18, 165, 3, 1, 12, 1215, 0, 0, []), (.goto 5, 21, 23, 0, 0, 0, 0, 0, 0, []), (.bipush (-2), 23, 0, 0, 0, 0, 0, (-2), 0, []), (.ireturn, 24, 0, 0, 0, 0, 0, 0, 0, [])]
set_option maxRecDepth 100000 in
theorem zk_X12_setRate_0 : zOks nX12_setRate zo_X12_setRate_0 0 = true := by decide +kernel
def zm_X12_setRate : List (Nat × List Bool) := [(0, [true, true])]
set_option maxRecDepth 100000 in
set_option maxHeartbeats 4000000 in
theorem zr_X12_setRate_0 {C : zCa} {post : zPo} {X : zX} (hX : zClosed none C post nX12_setRate X) (p0 : Int32) (σ : zS) (h : C nX12_in [.int p0, .int 0, .int 100000] σ (zPI fun x2 σ1 => zIf ((x2 : Int32) = 0) (post (some (.int (-2))) σ1) (C nX12_sets [.ref 63, .int 187, .int p0] σ1 (zPI fun x4 σ3 => post (some (.int x4)) σ3)))) : X 0 [some (.ref 63), some (.int p0)] [] σ := zSeq_ok hX zm_X12_setRate zo_X12_setRate_0 0 0 _ _ _ zk_X12_setRate_0 h
theorem ze_X12_setRate {d : Nat} {post : zPo} (p0 : Int32) (σ : zS) (h : ∀ X : zX, zClosed none (zCall d) post nX12_setRate X → X 0 [some (.ref 63), some (.int p0)] [] σ) : zCall (d + 1) nX12_setRate [.ref 63, .int p0] σ post := h
-- X12_setWeight(63,) depth 2
def zo_X12_setWeight_0 : List zOp := [(.iload_n 1, 1, 1, 0, 0, 0, 0, 0, 0, []), (.iconst 0, 2, 0, 0, 0, 0, 0, 0, 0, []), (.bipush 59, 4, 0, 0, 0, 0, 0, 59, 0, []), (.invokestatic 59, 7, 133, 3, 1, 0, 1128, 0, 0, []), (.ifCond .eq 25, 10, 32, 0, 0, 0, 0, 0, 0, []), (.iload_n 2, 11, 2, 0, 0, 0, 0, 0, 0, []), (.iconst 1, 12, 0, 0, 0, 0, 0, 1, 0, []), (.bipush 8, 14, 0, 0, 0, 0, 0, 8, 0, []), (.invokestatic 59, 17, 133, 3, 1, 0, 1128, 0, 0, []), (.ifCond .eq 15, 20, 32, 0, 0, 0, 0, 0, 0, []), (.aload_n 0, 21, 0, 0, 0, 0, 0, 0, 0, []), (.bipush 121, 23, 0, 0, 0, 0, 0, 121, 0, []), (.iload_n 1, 24, 1, 0, 0, 0, 0, 0, 0, []), (.iadd, 25, 0, 0, 0, 0, 0, 0, 0, []), (.iload_n 2, 26, 2, 0, 0, 0, 0, 0, 0, []), (.invokevirtual 152, 29, 165, 3, 1, 12, 1215, 0, 0, []), (.goto 5, 32, 34, 0, 0, 0, 0, 0, 0, []), (.bipush (-2), 34, 0, 0, 0, 0, 0, (-2), 0, []), (.ireturn, 35, 0, 0, 0, 0, 0, 0, 0, [])]
set_option maxRecDepth 100000 in
theorem zk_X12_setWeight_0 : zOks nX12_setWeight zo_X12_setWeight_0 0 = true := by decide +kernel
def zm_X12_setWeight : List (Nat × List Bool) := [(0, [true, true, true])]
set_option maxRecDepth 100000 in
set_option maxHeartbeats 4000000 in
theorem zr_X12_setWeight_0 {C : zCa} {post : zPo} {X : zX} (hX : zClosed none C post nX12_setWeight X) (p0 : Int32) (p1 : Int32) (σ : zS) (h : C nX12_in [.int p0, .int 0, .int 59] σ (zPI fun x2 σ1 => zIf ((x2 : Int32) = 0) (post (some (.int (-2))) σ1) (C nX12_in [.int p1, .int 1, .int 8] σ1 (zPI fun x4 σ3 => zIf ((x4 : Int32) = 0) (post (some (.int (-2))) σ3) (C nX12_sets [.ref 63, .int (121 + p0), .int p1] σ3 (zPI fun x6 σ5 => post (some (.int x6)) σ5)))))) : X 0 [some (.ref 63), some (.int p0), some (.int p1)] [] σ := zSeq_ok hX zm_X12_setWeight zo_X12_setWeight_0 0 0 _ _ _ zk_X12_setWeight_0 h
theorem ze_X12_setWeight {d : Nat} {post : zPo} (p0 : Int32) (p1 : Int32) (σ : zS) (h : ∀ X : zX, zClosed none (zCall d) post nX12_setWeight X → X 0 [some (.ref 63), some (.int p0), some (.int p1)] [] σ) : zCall (d + 1) nX12_setWeight [.ref 63, .int p0, .int p1] σ post := h
-- X12_smooth(63,) depth 4
def zo_X12_smooth_0 : List zOp := [(.iload_n 1, 1, 1, 0, 0, 0, 0, 0, 0, []), (.iconst 0, 2, 0, 0, 0, 0, 0, 0, 0, []), (.bipush 51, 4, 0, 0, 0, 0, 0, 51, 0, []), (.invokestatic 59, 7, 133, 3, 1, 0, 1128, 0, 0, []), (.ifCond .ne 6, 10, 13, 0, 0, 0, 0, 0, 0, []), (.bipush (-2), 12, 0, 0, 0, 0, 0, (-2), 0, []), (.ireturn, 13, 0, 0, 0, 0, 0, 0, 0, []), (.aload_n 0, 14, 0, 0, 0, 0, 0, 0, 0, []), (.getfield 7, 17, 12, 0, 0, 0, 1051, 0, 0, []), (.sipush 207, 20, 0, 0, 0, 0, 0, 207, 0, []), (.iaload, 21, 0, 0, 0, 0, 0, 0, 0, []), (.ifCond .ne 6, 24, 27, 0, 0, 0, 0, 0, 0, []), (.bipush (-3), 26, 0, 0, 0, 0, 0, (-3), 0, []), (.ireturn, 27, 0, 0, 0, 0, 0, 0, 0, []), (.aload_n 0, 28, 0, 0, 0, 0, 0, 0, 0, []), (.invokevirtual 149, 31, 139, 1, 0, 12, 1191, 0, 0, []), (.iconst 0, 32, 0, 0, 0, 0, 0, 0, 0, []), (.istore_n 2, 33, 2, 0, 0, 0, 0, 0, 0, []), (.iconst 1, 34, 0, 0, 0, 0, 0, 1, 0, []), (.istore_n 3, 35, 3, 0, 0, 0, 0, 0, 0, [])]
set_option maxRecDepth 100000 in
theorem zk_X12_smooth_0 : zOks nX12_smooth zo_X12_smooth_0 0 = true := by decide +kernel
def zo_X12_smooth_35 : List zOp := [(.iload_n 3, 36, 3, 0, 0, 0, 0, 0, 0, []), (.aload_n 0, 37, 0, 0, 0, 0, 0, 0, 0, []), (.getfield 7, 40, 12, 0, 0, 0, 1051, 0, 0, []), (.iconst 0, 41, 0, 0, 0, 0, 0, 0, 0, []), (.iaload, 42, 0, 0, 0, 0, 0, 0, 0, []), (.if_icmp .ge 151, 45, 193, 0, 0, 0, 0, 0, 0, []), (.aload_n 0, 46, 0, 0, 0, 0, 0, 0, 0, []), (.getfield 7, 49, 12, 0, 0, 0, 1051, 0, 0, []), (.sipush 208, 52, 0, 0, 0, 0, 0, 208, 0, []), (.aload_n 0, 53, 0, 0, 0, 0, 0, 0, 0, []), (.getfield 31, 56, 12, 7, 0, 0, 1058, 0, 0, []), (.iload_n 3, 57, 3, 0, 0, 0, 0, 0, 0, []), (.iconst 1, 58, 0, 0, 0, 0, 0, 1, 0, []), (.isub, 59, 0, 0, 0, 0, 0, 0, 0, []), (.iaload, 60, 0, 0, 0, 0, 0, 0, 0, []), (.iadd, 61, 0, 0, 0, 0, 0, 0, 0, []), (.iaload, 62, 0, 0, 0, 0, 0, 0, 0, []), (.istore 4, 64, 4, 0, 0, 0, 0, 0, 0, []), (.aload_n 0, 65, 0, 0, 0, 0, 0, 0, 0, []), (.getfield 31, 68, 12, 7, 0, 0, 1058, 0, 0, []), (.iload_n 3, 69, 3, 0, 0, 0, 0, 0, 0, []), (.iaload, 70, 0, 0, 0, 0, 0, 0, 0, []), (.istore 5, 72, 5, 0, 0, 0, 0, 0, 0, []), (.aload_n 0, 73, 0, 0, 0, 0, 0, 0, 0, []), (.getfield 7, 76, 12, 0, 0, 0, 1051, 0, 0, []), (.sipush 208, 79, 0, 0, 0, 0, 0, 208, 0, []), (.iload 5, 81, 5, 0, 0, 0, 0, 0, 0, []), (.iadd, 82, 0, 0, 0, 0, 0, 0, 0, []), (.iaload, 83, 0, 0, 0, 0, 0, 0, 0, []), (.iload 4, 85, 4, 0, 0, 0, 0, 0, 0, []), (.iload_n 1, 86, 1, 0, 0, 0, 0, 0, 0, []), (.isub, 87, 0, 0, 0, 0, 0, 0, 0, []), (.iload 4, 89, 4, 0, 0, 0, 0, 0, 0, []), (.iload_n 1, 90, 1, 0, 0, 0, 0, 0, 0, []), (.iadd, 91, 0, 0, 0, 0, 0, 0, 0, []), (.invokestatic 90, 94, 134, 3, 1, 0, 1287, 0, 0, []), (.istore 6, 96, 6, 0, 0, 0, 0, 0, 0, []), (.aload_n 0, 97, 0, 0, 0, 0, 0, 0, 0, []), (.getfield 22, 100, 12, 4, 0, 0, 1055, 0, 0, []), (.iload 5, 102, 5, 0, 0, 0, 0, 0, 0, []), (.iaload, 103, 0, 0, 0, 0, 0, 0, 0, []), (.aload_n 0, 104, 0, 0, 0, 0, 0, 0, 0, []), (.getfield 22, 107, 12, 4, 0, 0, 1055, 0, 0, []), (.aload_n 0, 108, 0, 0, 0, 0, 0, 0, 0, []), (.getfield 31, 111, 12, 7, 0, 0, 1058, 0, 0, []), (.iload_n 3, 112, 3, 0, 0, 0, 0, 0, 0, []), (.iconst 1, 113, 0, 0, 0, 0, 0, 1, 0, []), (.isub, 114, 0, 0, 0, 0, 0, 0, 0, []), (.iaload, 115, 0, 0, 0, 0, 0, 0, 0, []), (.iaload, 116, 0, 0, 0, 0, 0, 0, 0, []), (.if_icmp .ne 23, 119, 139, 0, 0, 0, 0, 0, 0, []), (.iload 6, 121, 6, 0, 0, 0, 0, 0, 0, []), (.aload_n 0, 122, 0, 0, 0, 0, 0, 0, 0, []), (.getfield 7, 125, 12, 0, 0, 0, 1051, 0, 0, []), (.sipush 208, 128, 0, 0, 0, 0, 0, 208, 0, []), (.iload 5, 130, 5, 0, 0, 0, 0, 0, 0, []), (.iadd, 131, 0, 0, 0, 0, 0, 0, 0, []), (.iaload, 132, 0, 0, 0, 0, 0, 0, 0, []), (.if_icmp .eq 7, 135, 139, 0, 0, 0, 0, 0, 0, []), (.iconst 1, 136, 0, 0, 0, 0, 0, 1, 0, []), (.goto 4, 139, 140, 0, 0, 0, 0, 0, 0, []), (.iconst 0, 140, 0, 0, 0, 0, 0, 0, 0, []), (.istore 7, 142, 7, 0, 0, 0, 0, 0, 0, []), (.aload_n 0, 143, 0, 0, 0, 0, 0, 0, 0, []), (.getfield 7, 146, 12, 0, 0, 0, 1051, 0, 0, []), (.sipush 208, 149, 0, 0, 0, 0, 0, 208, 0, []), (.iload 5, 151, 5, 0, 0, 0, 0, 0, 0, []), (.iadd, 152, 0, 0, 0, 0, 0, 0, 0, []), (.iload 7, 154, 7, 0, 0, 0, 0, 0, 0, []), (.ifCond .eq 8, 157, 162, 0, 0, 0, 0, 0, 0, []), (.iload 6, 159, 6, 0, 0, 0, 0, 0, 0, []), (.goto 14, 162, 173, 0, 0, 0, 0, 0, 0, []), (.aload_n 0, 163, 0, 0, 0, 0, 0, 0, 0, []), (.getfield 7, 166, 12, 0, 0, 0, 1051, 0, 0, []), (.sipush 208, 169, 0, 0, 0, 0, 0, 208, 0, []), (.iload 5, 171, 5, 0, 0, 0, 0, 0, 0, []), (.iadd, 172, 0, 0, 0, 0, 0, 0, 0, []), (.iaload, 173, 0, 0, 0, 0, 0, 0, 0, []), (.iastore, 174, 0, 0, 0, 0, 0, 0, 0, []), (.iload_n 2, 175, 2, 0, 0, 0, 0, 0, 0, []), (.iload 7, 177, 7, 0, 0, 0, 0, 0, 0, []), (.ifCond .eq 7, 180, 184, 0, 0, 0, 0, 0, 0, []), (.iconst 1, 181, 0, 0, 0, 0, 0, 1, 0, []), (.goto 4, 184, 185, 0, 0, 0, 0, 0, 0, []), (.iconst 0, 185, 0, 0, 0, 0, 0, 0, 0, []), (.iadd, 186, 0, 0, 0, 0, 0, 0, 0, []), (.istore_n 2, 187, 2, 0, 0, 0, 0, 0, 0, []), (.iinc 3 1, 190, 3, 0, 0, 0, 0, 1, 0, []), (.goto (-155), 193, 35, 0, 0, 0, 0, 0, 0, []), (.iload_n 2, 194, 2, 0, 0, 0, 0, 0, 0, []), (.ireturn, 195, 0, 0, 0, 0, 0, 0, 0, [])]
set_option maxRecDepth 100000 in
theorem zk_X12_smooth_35 : zOks nX12_smooth zo_X12_smooth_35 35 = true := by decide +kernel
def zm_X12_smooth : List (Nat × List Bool) := [(0, [true, true, false, false, false, false, false, false]), (35, [true, true, true, true, false, false, false, false])]
set_option maxRecDepth 100000 in
set_option maxHeartbeats 4000000 in
theorem zr_X12_smooth_0 {C : zCa} {post : zPo} {X : zX} (hX : zClosed none C post nX12_smooth X) (p0 : Int32) (σ : zS) (h : C nX12_in [.int p0, .int 0, .int 51] σ (zPI fun x2 σ1 => zIf ((x2 : Int32) = 0) (post (some (.int (-2))) σ1) (vp_in 207 (zN 64) ∧ (zIf ((σ1.1 64 (Int32.toNatClampNeg 207) : Int32) = 0) (post (some (.int (-3))) σ1) (C nX12_findsTypes [.ref 63] σ1 (zPV fun σ3 => X 35 [some (.ref 63), some (.int p0), some (.int 0), some (.int 1), none, none, none, none] [] σ3)))))) : X 0 [some (.ref 63), some (.int p0), none, none, none, none, none, none] [] σ := zSeq_ok hX zm_X12_smooth zo_X12_smooth_0 0 0 _ _ _ zk_X12_smooth_0 h
set_option maxRecDepth 100000 in
set_option maxHeartbeats 4000000 in
theorem zr_X12_smooth_35 {C : zCa} {post : zPo} {X : zX} (hX : zClosed none C post nX12_smooth X) (v1 : Int32) (v2 : Int32) (v3 : Int32) (σ : zS) (h : vp_in 0 (zN 64) ∧ (zIf ((v3 : Int32) < (σ.1 64 (Int32.toNatClampNeg 0))) (vp_in (v3 - 1) (zN 71) ∧ (vp_in (208 + (σ.1 71 (Int32.toNatClampNeg (v3 - 1)))) (zN 64) ∧ (vp_in v3 (zN 71) ∧ (vp_in (208 + (σ.1 71 (Int32.toNatClampNeg v3))) (zN 64) ∧ (C nX12_limited [.int (σ.1 64 (Int32.toNatClampNeg (208 + (σ.1 71 (Int32.toNatClampNeg v3))))), .int ((σ.1 64 (Int32.toNatClampNeg (208 + (σ.1 71 (Int32.toNatClampNeg (v3 - 1)))))) - v1), .int ((σ.1 64 (Int32.toNatClampNeg (208 + (σ.1 71 (Int32.toNatClampNeg (v3 - 1)))))) + v1)] σ (zPI fun x2 σ1 => vp_in (σ.1 71 (Int32.toNatClampNeg v3)) (zN 68) ∧ (vp_in (v3 - 1) (zN 71) ∧ (vp_in (σ1.1 71 (Int32.toNatClampNeg (v3 - 1))) (zN 68) ∧ (zIf ((σ1.1 68 (Int32.toNatClampNeg (σ.1 71 (Int32.toNatClampNeg v3))) : Int32) = (σ1.1 68 (Int32.toNatClampNeg (σ1.1 71 (Int32.toNatClampNeg (v3 - 1)))))) (vp_in (208 + (σ.1 71 (Int32.toNatClampNeg v3))) (zN 64) ∧ (zIf ((x2 : Int32) = (σ1.1 64 (Int32.toNatClampNeg (208 + (σ.1 71 (Int32.toNatClampNeg v3)))))) (zIf ((0 : Int32) = 0) (vp_in (208 + (σ.1 71 (Int32.toNatClampNeg v3))) (zN 64) ∧ (vp_in (208 + (σ.1 71 (Int32.toNatClampNeg v3))) (zN 64) ∧ (zIf ((0 : Int32) = 0) (X 35 [some (.ref 63), some (.int v1), some (.int (v2 + 0)), some (.int (v3 + 1)), none, none, none, none] [] (zSI σ1 64 (Int32.toNatClampNeg (208 + (σ.1 71 (Int32.toNatClampNeg v3)))) (σ1.1 64 (Int32.toNatClampNeg (208 + (σ.1 71 (Int32.toNatClampNeg v3))))))) (X 35 [some (.ref 63), some (.int v1), some (.int (v2 + 1)), some (.int (v3 + 1)), none, none, none, none] [] (zSI σ1 64 (Int32.toNatClampNeg (208 + (σ.1 71 (Int32.toNatClampNeg v3)))) (σ1.1 64 (Int32.toNatClampNeg (208 + (σ.1 71 (Int32.toNatClampNeg v3)))))))))) (vp_in (208 + (σ.1 71 (Int32.toNatClampNeg v3))) (zN 64) ∧ (zIf ((0 : Int32) = 0) (X 35 [some (.ref 63), some (.int v1), some (.int (v2 + 0)), some (.int (v3 + 1)), none, none, none, none] [] (zSI σ1 64 (Int32.toNatClampNeg (208 + (σ.1 71 (Int32.toNatClampNeg v3)))) x2)) (X 35 [some (.ref 63), some (.int v1), some (.int (v2 + 1)), some (.int (v3 + 1)), none, none, none, none] [] (zSI σ1 64 (Int32.toNatClampNeg (208 + (σ.1 71 (Int32.toNatClampNeg v3)))) x2))))) (zIf ((1 : Int32) = 0) (vp_in (208 + (σ.1 71 (Int32.toNatClampNeg v3))) (zN 64) ∧ (vp_in (208 + (σ.1 71 (Int32.toNatClampNeg v3))) (zN 64) ∧ (zIf ((1 : Int32) = 0) (X 35 [some (.ref 63), some (.int v1), some (.int (v2 + 0)), some (.int (v3 + 1)), none, none, none, none] [] (zSI σ1 64 (Int32.toNatClampNeg (208 + (σ.1 71 (Int32.toNatClampNeg v3)))) (σ1.1 64 (Int32.toNatClampNeg (208 + (σ.1 71 (Int32.toNatClampNeg v3))))))) (X 35 [some (.ref 63), some (.int v1), some (.int (v2 + 1)), some (.int (v3 + 1)), none, none, none, none] [] (zSI σ1 64 (Int32.toNatClampNeg (208 + (σ.1 71 (Int32.toNatClampNeg v3)))) (σ1.1 64 (Int32.toNatClampNeg (208 + (σ.1 71 (Int32.toNatClampNeg v3)))))))))) (vp_in (208 + (σ.1 71 (Int32.toNatClampNeg v3))) (zN 64) ∧ (zIf ((1 : Int32) = 0) (X 35 [some (.ref 63), some (.int v1), some (.int (v2 + 0)), some (.int (v3 + 1)), none, none, none, none] [] (zSI σ1 64 (Int32.toNatClampNeg (208 + (σ.1 71 (Int32.toNatClampNeg v3)))) x2)) (X 35 [some (.ref 63), some (.int v1), some (.int (v2 + 1)), some (.int (v3 + 1)), none, none, none, none] [] (zSI σ1 64 (Int32.toNatClampNeg (208 + (σ.1 71 (Int32.toNatClampNeg v3)))) x2))))))) (zIf ((0 : Int32) = 0) (vp_in (208 + (σ.1 71 (Int32.toNatClampNeg v3))) (zN 64) ∧ (vp_in (208 + (σ.1 71 (Int32.toNatClampNeg v3))) (zN 64) ∧ (zIf ((0 : Int32) = 0) (X 35 [some (.ref 63), some (.int v1), some (.int (v2 + 0)), some (.int (v3 + 1)), none, none, none, none] [] (zSI σ1 64 (Int32.toNatClampNeg (208 + (σ.1 71 (Int32.toNatClampNeg v3)))) (σ1.1 64 (Int32.toNatClampNeg (208 + (σ.1 71 (Int32.toNatClampNeg v3))))))) (X 35 [some (.ref 63), some (.int v1), some (.int (v2 + 1)), some (.int (v3 + 1)), none, none, none, none] [] (zSI σ1 64 (Int32.toNatClampNeg (208 + (σ.1 71 (Int32.toNatClampNeg v3)))) (σ1.1 64 (Int32.toNatClampNeg (208 + (σ.1 71 (Int32.toNatClampNeg v3)))))))))) (vp_in (208 + (σ.1 71 (Int32.toNatClampNeg v3))) (zN 64) ∧ (zIf ((0 : Int32) = 0) (X 35 [some (.ref 63), some (.int v1), some (.int (v2 + 0)), some (.int (v3 + 1)), none, none, none, none] [] (zSI σ1 64 (Int32.toNatClampNeg (208 + (σ.1 71 (Int32.toNatClampNeg v3)))) x2)) (X 35 [some (.ref 63), some (.int v1), some (.int (v2 + 1)), some (.int (v3 + 1)), none, none, none, none] [] (zSI σ1 64 (Int32.toNatClampNeg (208 + (σ.1 71 (Int32.toNatClampNeg v3)))) x2)))))))))))))) (post (some (.int v2)) σ))) : X 35 [some (.ref 63), some (.int v1), some (.int v2), some (.int v3), none, none, none, none] [] σ := zSeq_ok hX zm_X12_smooth zo_X12_smooth_35 35 35 _ _ _ zk_X12_smooth_35 h
theorem ze_X12_smooth {d : Nat} {post : zPo} (p0 : Int32) (σ : zS) (h : ∀ X : zX, zClosed none (zCall d) post nX12_smooth X → X 0 [some (.ref 63), some (.int p0), none, none, none, none, none, none] [] σ) : zCall (d + 1) nX12_smooth [.ref 63, .int p0] σ post := h
-- X12_type(63,) depth 2
def zo_X12_type_0 : List zOp := [(.iload_n 1, 1, 1, 0, 0, 0, 0, 0, 0, []), (.iconst 0, 2, 0, 0, 0, 0, 0, 0, 0, []), (.bipush 127, 4, 0, 0, 0, 0, 0, 127, 0, []), (.invokestatic 59, 7, 133, 3, 1, 0, 1128, 0, 0, []), (.ifCond .ne 6, 10, 13, 0, 0, 0, 0, 0, 0, []), (.bipush (-2), 12, 0, 0, 0, 0, 0, (-2), 0, []), (.ireturn, 13, 0, 0, 0, 0, 0, 0, 0, []), (.aload_n 0, 14, 0, 0, 0, 0, 0, 0, 0, []), (.getfield 118, 17, 12, 16, 1, 0, 1067, 0, 0, []), (.bipush 100, 19, 0, 0, 0, 0, 0, 100, 0, []), (.if_icmp .ne 6, 22, 25, 0, 0, 0, 0, 0, 0, []), (.bipush (-4), 24, 0, 0, 0, 0, 0, (-4), 0, []), (.ireturn, 25, 0, 0, 0, 0, 0, 0, 0, []), (.aload_n 0, 26, 0, 0, 0, 0, 0, 0, 0, []), (.getfield 46, 29, 12, 15, 0, 0, 1066, 0, 0, []), (.aload_n 0, 30, 0, 0, 0, 0, 0, 0, 0, []), (.getfield 118, 33, 12, 16, 1, 0, 1067, 0, 0, []), (.iload_n 1, 34, 1, 0, 0, 0, 0, 0, 0, []), (.iastore, 35, 0, 0, 0, 0, 0, 0, 0, []), (.aload_n 0, 36, 0, 0, 0, 0, 0, 0, 0, []), (.dup, 37, 0, 0, 0, 0, 0, 0, 0, []), (.getfield 118, 40, 12, 16, 1, 0, 1067, 0, 0, []), (.iconst 1, 41, 0, 0, 0, 0, 0, 1, 0, []), (.iadd, 42, 0, 0, 0, 0, 0, 0, 0, []), (.putfield 118, 45, 12, 16, 1, 0, 1067, 0, 0, []), (.aload_n 0, 46, 0, 0, 0, 0, 0, 0, 0, []), (.getfield 118, 49, 12, 16, 1, 0, 1067, 0, 0, []), (.ireturn, 50, 0, 0, 0, 0, 0, 0, 0, [])]
set_option maxRecDepth 100000 in
theorem zk_X12_type_0 : zOks nX12_type zo_X12_type_0 0 = true := by decide +kernel
def zm_X12_type : List (Nat × List Bool) := [(0, [true, true])]
set_option maxRecDepth 100000 in
set_option maxHeartbeats 4000000 in
theorem zr_X12_type_0 {C : zCa} {post : zPo} {X : zX} (hX : zClosed none C post nX12_type X) (p0 : Int32) (σ : zS) (h : C nX12_in [.int p0, .int 0, .int 127] σ (zPI fun x2 σ1 => zIf ((x2 : Int32) = 0) (post (some (.int (-2))) σ1) (zIf ((σ1.1 63 16 : Int32) = 100) (post (some (.int (-4))) σ1) (vp_in (σ1.1 63 16) (zN 76) ∧ (post (some (.int ((zSI (zSI σ1 76 (Int32.toNatClampNeg (σ1.1 63 16)) p0) 63 16 (((zSI σ1 76 (Int32.toNatClampNeg (σ1.1 63 16)) p0).1 63 16) + 1)).1 63 16))) (zSI (zSI σ1 76 (Int32.toNatClampNeg (σ1.1 63 16)) p0) 63 16 (((zSI σ1 76 (Int32.toNatClampNeg (σ1.1 63 16)) p0).1 63 16) + 1))))))) : X 0 [some (.ref 63), some (.int p0)] [] σ := zSeq_ok hX zm_X12_type zo_X12_type_0 0 0 _ _ _ zk_X12_type_0 h
theorem ze_X12_type {d : Nat} {post : zPo} (p0 : Int32) (σ : zS) (h : ∀ X : zX, zClosed none (zCall d) post nX12_type X → X 0 [some (.ref 63), some (.int p0)] [] σ) : zCall (d + 1) nX12_type [.ref 63, .int p0] σ post := h
end
section
/-! the leaves: rows read and written with a look at the index, division with a look at the divisor, ranges -/
theorem zEx_post {sc : Option (Nat × (Nat → Int32))} {C : zCa} {po po' : zPo} {Z : zX} {o : zOp} {ls : zLo} {st : List Value} {σ : zS} (hp : ∀ r σ, po r σ → po' r σ) (h : zEx sc C po Z o ls st σ) : zEx sc C po' Z o ls st σ := by
  obtain ⟨i, n, a, b, k1, e1, g, v, w, tb⟩ := o
  cases i with
  | ireturn =>
    simp only [zEx] at h ⊢
    obtain ⟨x, rfl, h⟩ := zRI_inv h
    match k1, h with
    | 0, h => exact hp _ _ h
    | 1, h => 
      obtain ⟨h1, h2⟩ := zG_inv h
      show zG (x == 0 || x == 1) _
      rw [h1]
      exact hp _ _ h2
    | k + 2, h => exact hp _ _ h
  | ifCond cd off => cases cd <;> exact h
  | if_icmp cd off => cases cd <;> exact h
  | lreturn =>
    simp only [zEx] at h ⊢
    obtain ⟨x, rfl, h⟩ := zRJ_inv h
    exact hp _ _ h
  | return_ =>
    simp only [zEx] at h ⊢
    obtain ⟨rfl, h⟩ := zRV_inv h
    exact hp _ _ h
  | _ => exact h
theorem zCall_mono {d mi : Nat} {av : List Value} {σ : zS} {po po' : zPo} (hp : ∀ r σ, po r σ → po' r σ) (h : zCall d mi av σ po) : zCall d mi av σ po' := by
  cases d with
  | zero => exact False.elim h
  | succ d =>
    obtain ⟨h1, h2⟩ := zG_inv h
    show zG (Nat.ble (zAr av).length (zMl mi)) _
    rw [h1]
    intro X hX
    exact h2 X ⟨fun Z pc o ls st σ hZ hk he => hX.1 Z pc o ls st σ hZ hk (zEx_post hp he), hX.2⟩
theorem zc_I {d mi : Nat} {av : List Value} {σ : zS} {k k' : Int32 → zS → Prop} (hp : ∀ x σ, k x σ → k' x σ) (h : zCall d mi av σ (zPI k)) : zCall d mi av σ (zPI k') := zCall_mono (fun r σ ⟨x, h1, h2⟩ => ⟨x, h1, hp x σ h2⟩) h
theorem zc_J {d mi : Nat} {av : List Value} {σ : zS} {k k' : Int64 → zS → Prop} (hp : ∀ x σ, k x σ → k' x σ) (h : zCall d mi av σ (zPJ k)) : zCall d mi av σ (zPJ k') := zCall_mono (fun r σ ⟨x, h1, h2⟩ => ⟨x, h1, hp x σ h2⟩) h
theorem zc_V {d mi : Nat} {av : List Value} {σ : zS} {k k' : zS → Prop} (hp : ∀ σ, k σ → k' σ) (h : zCall d mi av σ (zPV k)) : zCall d mi av σ (zPV k') := zCall_mono (fun r σ ⟨h1, h2⟩ => ⟨h1, hp σ h2⟩) h
theorem zG_imp {b : Bool} {P Q : Prop} (hp : P → Q) (h : zG b P) : zG b Q := by
  cases b with
  | true => exact hp h
  | false => exact h
theorem zIl_imp {sc : Option (Nat × (Nat → Int32))} {σ : zS} {q : Nat} {i : Int32} {k k' : Int32 → Prop} (hp : ∀ x, k x → k' x) (h : zIl sc σ q i k) : zIl sc σ q i k' := by
  revert h
  unfold zIl
  cases zIsI q with
  | true => exact fun h => ⟨h.1, hp _ h.2⟩
  | false => cases sc with
    | none => exact fun h => h
    | some s => exact fun h => zG_imp (fun h => ⟨h.1, hp _ h.2⟩) h
theorem zN_lt (q : Nat) : zN q < 1000 := by
  have h : ∀ k ∈ zSh, k.2.1 < 1000 := by decide +kernel
  unfold zN zK
  rw [List.getD_eq_getElem?_getD]
  cases e : zSh[q]? with
  | none => decide
  | some k => exact h k (List.mem_of_getElem? e)
def zAt (σ : zS) (q : Nat) (i : Int32) : Int32 := if 0 ≤ i ∧ i < nI (zN q) then σ.1 q i.toNatClampNeg else 0
def zAtJ (σ : zS) (q : Nat) (i : Int32) : Int64 := if 0 ≤ i ∧ i < nI (zN q) then σ.2 q i.toNatClampNeg else 0
def zPt (σ : zS) (q : Nat) (i v : Int32) : zS := if 0 ≤ i ∧ i < nI (zN q) then zSI σ q i.toNatClampNeg v else σ
def zPtJ (σ : zS) (q : Nat) (i : Int32) (v : Int64) : zS := if 0 ≤ i ∧ i < nI (zN q) then zSJ σ q i.toNatClampNeg v else σ
def zRat (a b : Int64) : Int64 := if b = 0 then 0 else a / b
theorem vin_of {i : Int32} {n : Nat} (h0 : ¬ i < 0) (h1 : i < nI n) (hn : n < 2 ^ 31) : vp_in i n := by
  rw [Int32.lt_iff_toInt_lt, nI_toInt hn] at h1
  rw [Int32.lt_iff_toInt_lt, Int32.toInt_zero] at h0
  exact vp_in_iff.mpr ⟨by omega, h1⟩
theorem zN_31 (q : Nat) : zN q < 2 ^ 31 := Nat.lt_trans (zN_lt q) (by decide)
theorem sm_at {d q : Nat} {i : Int32} {σ : zS} {k : Int32 → zS → Prop} (hq : zIsI q = true) (h : k (zAt σ q i) σ) : zCall (d + 1) nX11_at [.ref q, .int i] σ (zPI k) := by
  refine ze_X11_at q i σ (fun X hX => zr_X11_at_0 hX q i σ ⟨fun h1 => ?_, fun h1 => ?_⟩)
  · have e : zAt σ q i = 0 := if_neg (fun z => Int32.not_lt.mpr z.1 h1)
    rw [e] at h
    exact ⟨_, rfl, h⟩
  · unfold zLe
    rw [hq]
    refine ⟨fun h2 => ?_, fun h2 => ?_⟩
    · unfold zIl
      rw [hq]
      have e : zAt σ q i = σ.1 q i.toNatClampNeg := if_pos ⟨Int32.not_lt.mp h1, h2⟩
      rw [e] at h
      exact ⟨vin_of h1 h2 (zN_31 q), _, rfl, h⟩
    · have e : zAt σ q i = 0 := if_neg (fun z => h2 z.2)
      rw [e] at h
      exact ⟨_, rfl, h⟩
theorem sm_atJ {d q : Nat} {i : Int32} {σ : zS} {k : Int64 → zS → Prop} (hq : zIsJ q = true) (h : k (zAtJ σ q i) σ) : zCall (d + 1) nX11_at_ [.ref q, .int i] σ (zPJ k) := by
  refine ze_X11_at_ q i σ (fun X hX => zr_X11_at__0 hX q i σ ⟨fun h1 => ?_, fun h1 => ?_⟩)
  · have e : zAtJ σ q i = 0 := if_neg (fun z => Int32.not_lt.mpr z.1 h1)
    rw [e] at h
    exact ⟨_, rfl, h⟩
  · unfold zLe
    rw [hq, Bool.or_true]
    refine ⟨fun h2 => ?_, fun h2 => ?_⟩
    · have e : zAtJ σ q i = σ.2 q i.toNatClampNeg := if_pos ⟨Int32.not_lt.mp h1, h2⟩
      rw [e] at h
      exact ⟨vin_of h1 h2 (zN_31 q), _, rfl, h⟩
    · have e : zAtJ σ q i = 0 := if_neg (fun z => h2 z.2)
      rw [e] at h
      exact ⟨_, rfl, h⟩
theorem sm_put {d q : Nat} {i v : Int32} {σ : zS} {k : zS → Prop} (hq : zIsI q = true) (h : k (zPt σ q i v)) : zCall (d + 1) nX11_put [.ref q, .int i, .int v] σ (zPV k) := by
  refine ze_X11_put q i v σ (fun X hX => zr_X11_put_0 hX q i v σ ⟨fun h1 => ?_, fun h1 => ?_⟩)
  · have e : zPt σ q i v = σ := if_neg (fun z => Int32.not_lt.mpr z.1 h1)
    rw [e] at h
    exact ⟨rfl, h⟩
  · unfold zLe
    rw [hq]
    refine ⟨fun h2 => ?_, fun h2 => ?_⟩
    · have e : zPt σ q i v = zSI σ q i.toNatClampNeg v := if_pos ⟨Int32.not_lt.mp h1, h2⟩
      rw [e] at h
      exact ⟨vin_of h1 h2 (zN_31 q), rfl, h⟩
    · have e : zPt σ q i v = σ := if_neg (fun z => h2 z.2)
      rw [e] at h
      exact ⟨rfl, h⟩
theorem sm_putJ {d q : Nat} {i : Int32} {v : Int64} {σ : zS} {k : zS → Prop} (hq : zIsJ q = true) (h : k (zPtJ σ q i v)) : zCall (d + 1) nX11_put_ [.ref q, .int i, .long v] σ (zPV k) := by
  refine ze_X11_put_ q i v σ (fun X hX => zr_X11_put__0 hX q i v σ ⟨fun h1 => ?_, fun h1 => ?_⟩)
  · have e : zPtJ σ q i v = σ := if_neg (fun z => Int32.not_lt.mpr z.1 h1)
    rw [e] at h
    exact ⟨rfl, h⟩
  · unfold zLe
    rw [hq, Bool.or_true]
    refine ⟨fun h2 => ?_, fun h2 => ?_⟩
    · have e : zPtJ σ q i v = zSJ σ q i.toNatClampNeg v := if_pos ⟨Int32.not_lt.mp h1, h2⟩
      rw [e] at h
      exact ⟨vin_of h1 h2 (zN_31 q), rfl, h⟩
    · have e : zPtJ σ q i v = σ := if_neg (fun z => h2 z.2)
      rw [e] at h
      exact ⟨rfl, h⟩
theorem sm_ratio {d : Nat} {a b : Int64} {σ : zS} {k : Int64 → zS → Prop} (h : k (zRat a b) σ) : zCall (d + 1) nX11_ratio [.long a, .long b] σ (zPJ k) := by
  refine ze_X11_ratio a b σ (fun X hX => zr_X11_ratio_0 hX a b σ ⟨fun h1 => ?_, fun h1 => ?_⟩)
  · have e : zRat a b = 0 := if_pos ((lg_cmp_eq b 0).mp h1)
    rw [e] at h
    exact ⟨_, rfl, h⟩
  · have h2 : ¬ b = 0 := fun z => h1 ((lg_cmp_eq b 0).mpr z)
    have e : zRat a b = a / b := if_neg h2
    rw [e] at h
    exact ⟨h2, _, rfl, h⟩
theorem sm_within {d : Nat} {x a b : Int32} {σ : zS} {k : Int32 → zS → Prop} (h1 : a ≤ x ∧ x ≤ b → k 1 σ) (h0 : ¬ (a ≤ x ∧ x ≤ b) → k 0 σ) : zCall (d + 1) nX11_within [.int x, .int a, .int b] σ (zPI k) :=
  ze_X11_within x a b σ (fun X hX => zr_X11_within_0 hX x a b σ ⟨fun g => ⟨_, rfl, h0 (fun z => Int32.not_lt.mpr z.1 g)⟩, fun g => ⟨fun g2 => ⟨_, rfl, h1 ⟨Int32.not_lt.mp g, g2⟩⟩, fun g2 => ⟨_, rfl, h0 (fun z => g2 z.2)⟩⟩⟩)
theorem sm_in {d : Nat} {x a b : Int32} {σ : zS} {k : Int32 → zS → Prop} (h1 : a ≤ x ∧ x ≤ b → k 1 σ) (h0 : ¬ (a ≤ x ∧ x ≤ b) → k 0 σ) : zCall (d + 1) nX12_in [.int x, .int a, .int b] σ (zPI k) :=
  ze_X12_in x a b σ (fun X hX => zr_X12_in_0 hX x a b σ ⟨fun g => ⟨_, rfl, h0 (fun z => Int32.not_lt.mpr z.1 g)⟩, fun g => ⟨fun g2 => ⟨_, rfl, h1 ⟨Int32.not_lt.mp g, g2⟩⟩, fun g2 => ⟨_, rfl, h0 (fun z => g2 z.2)⟩⟩⟩)
def zLc (v a b : Int32) : Int32 := if a < (if v < b then v else b) then (if v < b then v else b) else a
theorem sm_limit {d : Nat} {v a b : Int32} {σ : zS} {k : Int32 → zS → Prop} (h : k (zLc v a b) σ) : zCall (d + 1) nX11_limit [.int v, .int a, .int b] σ (zPI k) :=
  ze_X11_limit v a b σ (fun X hX => zr_X11_limit_0 hX v a b σ ⟨_, rfl, h⟩)
def zLm (v a b : Int32) : Int32 := if v < a then a else if v ≤ b then v else b
theorem sm_limited {d : Nat} {v a b : Int32} {σ : zS} {k : Int32 → zS → Prop} (h : k (zLm v a b) σ) : zCall (d + 1) nX12_limited [.int v, .int a, .int b] σ (zPI k) := by
  refine ze_X12_limited v a b σ (fun X hX => zr_X12_limited_0 hX v a b σ ⟨fun g => ?_, fun g => ⟨fun g2 => ?_, fun g2 => ?_⟩⟩)
  · rw [show zLm v a b = a from if_pos g] at h
    exact ⟨_, rfl, h⟩
  · rw [show zLm v a b = v from by unfold zLm; rw [if_neg g, if_pos g2]] at h
    exact ⟨_, rfl, h⟩
  · rw [show zLm v a b = b from by unfold zLm; rw [if_neg g, if_neg g2]] at h
    exact ⟨_, rfl, h⟩
def zCp (σ : zS) (p q : Nat) : zS := zSR σ q (fun k => if k < zN p ∧ k < zN q then σ.1 p k else σ.1 q k)
theorem sm_copyRow {d p q : Nat} {σ : zS} {k : zS → Prop} (hp : zIsI p = true) (hq : zIsI q = true) (h : k (zCp σ p q)) : zCall (d + 1) nX11_copyRow [.ref p, .ref q] σ (zPV k) := by
  refine ze_X11_copyRow p q σ (fun X hX => zr_X11_copyRow_0 hX p q σ ?_)
  have hm : ∀ m : Nat, m < 2 ^ 31 → Int32.toNatClampNeg (nI m) = m := fun m hm => nI_clamp hm
  have e0 : Int32.toNatClampNeg 0 = 0 := by decide
  have key : ∀ m : Nat, m < 2 ^ 31 → m ≤ zN p → m ≤ zN q → (∀ j, (j < zN p ∧ j < zN q) ↔ j < m) → (¬ (0 : Int32) < 0 ∧ ¬ (0 : Int32) < 0 ∧ ¬ nI m < 0 ∧ Int32.toNatClampNeg 0 + Int32.toNatClampNeg (nI m) ≤ zN p ∧ Int32.toNatClampNeg 0 + Int32.toNatClampNeg (nI m) ≤ zN q) ∧ k (zSR σ q (va_cpy (σ.1 p) (σ.1 q) (Int32.toNatClampNeg 0) (Int32.toNatClampNeg 0) (Int32.toNatClampNeg (nI m)))) := by
    intro m h1 h2 h3 h4
    rw [hm m h1, e0]
    refine ⟨⟨by decide, by decide, nI_pos h1, by omega, by omega⟩, ?_⟩
    rw [show va_cpy (σ.1 p) (σ.1 q) 0 0 m = (fun k => if k < zN p ∧ k < zN q then σ.1 p k else σ.1 q k) from by
      funext j
      unfold va_cpy
      by_cases hj : j < m
      · rw [if_pos ⟨Nat.zero_le j, by omega⟩, if_pos ((h4 j).mpr hj)]
        exact congrArg (σ.1 p) (by omega)
      · rw [if_neg (fun z => hj (by have := z.2; omega)), if_neg (fun z => hj ((h4 j).mp z))]]
    exact h
  unfold zLe
  rw [hp, hq]
  show zG true _
  by_cases hlt : zN q < zN p
  · have e : (if nI (zN q) < nI (zN p) then nI (zN q) else nI (zN p)) = nI (zN q) := if_pos (nI_lt hlt (zN_31 p))
    rw [e]
    obtain ⟨g1, g2⟩ := key (zN q) (zN_31 q) (Nat.le_of_lt hlt) (Nat.le_refl _) (fun j => ⟨fun z => z.2, fun z => ⟨by omega, z⟩⟩)
    exact ⟨g1, rfl, g2⟩
  · have e : (if nI (zN q) < nI (zN p) then nI (zN q) else nI (zN p)) = nI (zN p) := if_neg (nI_nlt (by omega) (zN_31 q))
    rw [e]
    obtain ⟨g1, g2⟩ := key (zN p) (zN_31 p) (Nat.le_refl _) (by omega) (fun j => ⟨fun z => z.1, fun z => ⟨z, by omega⟩⟩)
    exact ⟨g1, rfl, g2⟩
def cWt (σ : zS) (f : Int32) : Int32 := zAt σ 5 (zAt σ 18 f)
theorem sm_weightOf {d : Nat} {f : Int32} {σ : zS} {k : Int32 → zS → Prop} (h : k (cWt σ f) σ) : zCall (d + 2) nX6_weightOf [.ref 24, .int f] σ (zPI k) :=
  ze_X6_weightOf f σ (fun X hX => zr_X6_weightOf_0 hX f σ (sm_at rfl (sm_at rfl ⟨_, rfl, h⟩)))
def cBits (σ : zS) (f q : Int32) : Int32 := 40 + Int64.toInt32 (zRat (Int32.toInt64 (zAt σ 21 f * 200)) (Int32.toInt64 (zAt σ 25 q)))
theorem sm_bitsOf {d : Nat} {f q : Int32} {σ : zS} {k : Int32 → zS → Prop} (h : k (cBits σ f q) σ) : zCall (d + 2) nX6_bitsOf [.ref 24, .int f, .int q] σ (zPI k) :=
  ze_X6_bitsOf f q σ (fun X hX => zr_X6_bitsOf_0 hX f q σ (sm_at rfl (sm_at rfl (sm_ratio ⟨_, rfl, h⟩))))
def cLoss (σ : zS) (f q : Int32) : Int32 := (((cWt σ f * (3 - zAt σ 17 f)) * zAt σ 25 q) * zAt σ 25 q) / 16
theorem sm_lossOf {d : Nat} {f q : Int32} {σ : zS} {k : Int32 → zS → Prop} (h : k (cLoss σ f q) σ) : zCall (d + 3) nX6_lossOf [.ref 24, .int f, .int q] σ (zPI k) :=
  ze_X6_lossOf f q σ (fun X hX => zr_X6_lossOf_0 hX f q σ (sm_at rfl (sm_at rfl (sm_weightOf ⟨by decide, _, rfl, h⟩))))
def cOff (σ : zS) (f : Int32) : Int32 := if zAt σ 17 f = 0 then -3 else if zAt σ 17 f = 1 then 0 else 2
theorem sm_offsetOf {d : Nat} {f : Int32} {σ : zS} {k : Int32 → zS → Prop} (h : k (cOff σ f) σ) : zCall (d + 2) nX4_offsetOf [.ref 32, .int f] σ (zPI k) := by
  refine ze_X4_offsetOf f σ (fun X hX => zr_X4_offsetOf_0 hX f σ (sm_at rfl ⟨fun g => ?_, fun g => ⟨fun g2 => ?_, fun g2 => ?_⟩⟩))
  · rw [show cOff σ f = -3 from if_pos g] at h
    exact ⟨_, rfl, h⟩
  · rw [show cOff σ f = 0 from by unfold cOff; rw [if_neg g, if_pos g2]] at h
    exact ⟨_, rfl, h⟩
  · rw [show cOff σ f = 2 from by unfold cOff; rw [if_neg g, if_neg g2]] at h
    exact ⟨_, rfl, h⟩
def cLt (σ : zS) (i : Int32) : Int32 := if i < σ.1 11 0 then zAt σ 15 i else -1
theorem sm_letterAt {d : Nat} {i : Int32} {σ : zS} {k : Int32 → zS → Prop} (h : k (cLt σ i) σ) : zCall (d + 2) nX10_letterAt [.ref 11, .int i] σ (zPI k) := by
  refine ze_X10_letterAt i σ (fun X hX => zr_X10_letterAt_0 hX i σ ⟨fun g => ?_, fun g => ?_⟩)
  · rw [show cLt σ i = zAt σ 15 i from if_pos g] at h
    exact sm_at rfl ⟨_, rfl, h⟩
  · rw [show cLt σ i = -1 from if_neg g] at h
    exact ⟨_, rfl, h⟩
def cWk (ty tx mo : Int32) : Int32 := if ty = 0 then 4 * tx else if ty = 1 then tx + 2 * mo else tx / 2 + mo
theorem sm_workOf {d : Nat} {ty tx mo : Int32} {σ : zS} {k : Int32 → zS → Prop} (h : k (cWk ty tx mo) σ) : zCall (d + 1) nX3_workOf [.int ty, .int tx, .int mo] σ (zPI k) := by
  refine ze_X3_workOf ty tx mo σ (fun X hX => zr_X3_workOf_0 hX ty tx mo σ ⟨fun g => ?_, fun g => ⟨fun g2 => ?_, fun g2 => ?_⟩⟩)
  · rw [show cWk ty tx mo = 4 * tx from if_pos g] at h
    exact ⟨_, rfl, h⟩
  · rw [show cWk ty tx mo = tx + 2 * mo from by unfold cWk; rw [if_neg g, if_pos g2]] at h
    exact ⟨_, rfl, h⟩
  · rw [show cWk ty tx mo = tx / 2 + mo from by unfold cWk; rw [if_neg g, if_neg g2]] at h
    exact ⟨by decide, _, rfl, h⟩
theorem sm_isMultiple {d : Nat} {a b : Int32} {σ : zS} {k : Int32 → zS → Prop} (h1 : (¬ b = 0 ∧ a - a / b * b = 0) → k 1 σ) (h0 : ¬ (¬ b = 0 ∧ a - a / b * b = 0) → k 0 σ) : zCall (d + 1) nX3_isMultiple [.int a, .int b] σ (zPI k) :=
  ze_X3_isMultiple a b σ (fun X hX => zr_X3_isMultiple_0 hX a b σ ⟨fun g => ⟨_, rfl, h0 (fun z => z.1 g)⟩, fun g => ⟨g, fun g2 => ⟨_, rfl, h1 ⟨g, g2⟩⟩, fun g2 => ⟨_, rfl, h0 (fun z => g2 z.2)⟩⟩⟩)
def cCut (σ : zS) (i : Int32) : Prop := 0 < i ∧ 3 * zAt σ 2 i < 2 * zAt σ 3 i
theorem sm_isCut {d : Nat} {i : Int32} {σ : zS} {k : Int32 → zS → Prop} (h1 : cCut σ i → k 1 σ) (h0 : ¬ cCut σ i → k 0 σ) : zCall (d + 2) nX0_isCut [.ref 1, .int i] σ (zPI k) :=
  ze_X0_isCut i σ (fun X hX => zr_X0_isCut_0 hX i σ ⟨fun g => ⟨_, rfl, h0 (fun z => Int32.not_lt.mpr g z.1)⟩, fun g => sm_at rfl (sm_at rfl ⟨fun g2 => ⟨_, rfl, h0 (fun z => Int32.not_lt.mpr g2 z.2)⟩, fun g2 => ⟨_, rfl, h1 ⟨Int32.not_le.mp g, Int32.not_le.mp g2⟩⟩⟩)⟩)
theorem sm_isFrame {d : Nat} {i : Int32} {σ : zS} {k : Int32 → zS → Prop} (h1 : 0 ≤ i ∧ i ≤ σ.1 1 0 - 1 → k 1 σ) (h0 : ¬ (0 ≤ i ∧ i ≤ σ.1 1 0 - 1) → k 0 σ) : zCall (d + 2) nX11_isFrame [.ref 0, .int i] σ (zPI k) :=
  ze_X11_isFrame i σ (fun X hX => zr_X11_isFrame_0 hX i σ (sm_within (fun g => ⟨_, rfl, h1 g⟩) (fun g => ⟨_, rfl, h0 g⟩)))
theorem sm_isQuantizer {d : Nat} {i : Int32} {σ : zS} {k : Int32 → zS → Prop} (h1 : 0 ≤ i ∧ i ≤ 51 → k 1 σ) (h0 : ¬ (0 ≤ i ∧ i ≤ 51) → k 0 σ) : zCall (d + 2) nX11_isQuantizer [.int i] σ (zPI k) :=
  ze_X11_isQuantizer i σ (fun X hX => zr_X11_isQuantizer_0 hX i σ (sm_within (fun g => ⟨_, rfl, h1 g⟩) (fun g => ⟨_, rfl, h0 g⟩)))
theorem sm_isFrameR {d : Nat} {i : Int32} {σ : zS} {k : Int32 → zS → Prop} (h1 : 0 ≤ i ∧ i ≤ σ.1 64 0 - 1 → k 1 σ) (h0 : ¬ (0 ≤ i ∧ i ≤ σ.1 64 0 - 1) → k 0 σ) : zCall (d + 2) nX12_isFrame [.ref 63, .int i] σ (zPI k) :=
  ze_X12_isFrame i σ (fun X hX => zr_X12_isFrame_0 hX i σ ⟨vin_of (by decide) (by decide) (by decide), sm_in (fun g => ⟨_, rfl, h1 g⟩) (fun g => ⟨_, rfl, h0 g⟩)⟩)
theorem sm_byType {d : Nat} {t : Int32} {σ : zS} {k : Int32 → zS → Prop} (h : k (if t = 0 then -3 else if t = 1 then 0 else 2) σ) : zCall (d + 1) nX12_byType [.int t] σ (zPI k) := by
  refine ze_X12_byType t σ (fun X hX => zr_X12_byType_0 hX t σ ⟨fun g => ?_, fun g => ⟨fun g2 => ?_, fun g2 => ?_⟩⟩)
  · rw [if_pos g] at h
    exact ⟨_, rfl, h⟩
  · rw [if_neg g, if_pos g2] at h
    exact ⟨_, rfl, h⟩
  · rw [if_neg g, if_neg g2] at h
    exact ⟨_, rfl, h⟩
end
