-- ===== PART A: goes FIRST, ahead of the names: the tables' words, and 'selects' of the private methods out of them =====
/-- a private method of a class that the tables say can be made, by its rows of tables_1 -/
def lw_okq (q : MethodName × Nat) : Prop := (q.1.cls ≠ "java/lang/invoke/MethodHandle" ∧ q.1.cls ≠ "java/lang/invoke/VarHandle") ∧ Cond.instantiable q.1.cls q.2 ∈ tables_1 ∧ Cond.privateMethod q.1 ∈ tables_1 ∧ Cond.instanceMethod q.1 ∈ tables_1
theorem lw_p0 : lw_okq (⟨"RatePlanner", "arrangeAnew", "()V"⟩, 12) := ⟨⟨by decide +kernel, by decide +kernel⟩, List.mem_of_getElem? (i := 17) (by decide +kernel), List.mem_of_getElem? (i := 455) (by decide +kernel), List.mem_of_getElem? (i := 456) (by decide +kernel)⟩
theorem lw_p1 : lw_okq (⟨"RatePlanner$Layout", "findStarts", "(LRatePlanner$Clip;I)V"⟩, 10) := ⟨⟨by decide +kernel, by decide +kernel⟩, List.mem_of_getElem? (i := 162) (by decide +kernel), List.mem_of_getElem? (i := 463) (by decide +kernel), List.mem_of_getElem? (i := 464) (by decide +kernel)⟩
theorem lw_p2 : lw_okq (⟨"RatePlanner$Layout", "measureGroups", "()V"⟩, 10) := ⟨⟨by decide +kernel, by decide +kernel⟩, List.mem_of_getElem? (i := 162) (by decide +kernel), List.mem_of_getElem? (i := 473) (by decide +kernel), List.mem_of_getElem? (i := 474) (by decide +kernel)⟩
theorem lw_p3 : lw_okq (⟨"RatePlanner$Layout", "chooseTypes", "(I)V"⟩, 10) := ⟨⟨by decide +kernel, by decide +kernel⟩, List.mem_of_getElem? (i := 162) (by decide +kernel), List.mem_of_getElem? (i := 478) (by decide +kernel), List.mem_of_getElem? (i := 479) (by decide +kernel)⟩
theorem lw_p4 : lw_okq (⟨"RatePlanner$Layout", "putInOrder", "()V"⟩, 10) := ⟨⟨by decide +kernel, by decide +kernel⟩, List.mem_of_getElem? (i := 162) (by decide +kernel), List.mem_of_getElem? (i := 485) (by decide +kernel), List.mem_of_getElem? (i := 486) (by decide +kernel)⟩
theorem lw_p5 : lw_okq (⟨"RatePlanner$Layout", "putAt", "(II)V"⟩, 10) := ⟨⟨by decide +kernel, by decide +kernel⟩, List.mem_of_getElem? (i := 162) (by decide +kernel), List.mem_of_getElem? (i := 489) (by decide +kernel), List.mem_of_getElem? (i := 490) (by decide +kernel)⟩
theorem lw_p6 : lw_okq (⟨"RatePlanner$Layout", "weighWorks", "(LRatePlanner$Clip;)V"⟩, 10) := ⟨⟨by decide +kernel, by decide +kernel⟩, List.mem_of_getElem? (i := 162) (by decide +kernel), List.mem_of_getElem? (i := 493) (by decide +kernel), List.mem_of_getElem? (i := 494) (by decide +kernel)⟩
theorem lw_p7 : lw_okq (⟨"RatePlanner", "isFrame", "(I)Z"⟩, 12) := ⟨⟨by decide +kernel, by decide +kernel⟩, List.mem_of_getElem? (i := 17) (by decide +kernel), List.mem_of_getElem? (i := 504) (by decide +kernel), List.mem_of_getElem? (i := 505) (by decide +kernel)⟩
theorem lw_p8 : lw_okq (⟨"RatePlanner$Text", "skipBlanks", "()V"⟩, 6) := ⟨⟨by decide +kernel, by decide +kernel⟩, List.mem_of_getElem? (i := 133) (by decide +kernel), List.mem_of_getElem? (i := 535) (by decide +kernel), List.mem_of_getElem? (i := 536) (by decide +kernel)⟩
theorem lw_p9 : lw_okq (⟨"RatePlanner$Text", "readRun", "()Z"⟩, 6) := ⟨⟨by decide +kernel, by decide +kernel⟩, List.mem_of_getElem? (i := 133) (by decide +kernel), List.mem_of_getElem? (i := 544) (by decide +kernel), List.mem_of_getElem? (i := 545) (by decide +kernel)⟩
theorem lw_p10 : lw_okq (⟨"RatePlanner$Text", "readNumber", "(II)Z"⟩, 6) := ⟨⟨by decide +kernel, by decide +kernel⟩, List.mem_of_getElem? (i := 133) (by decide +kernel), List.mem_of_getElem? (i := 548) (by decide +kernel), List.mem_of_getElem? (i := 549) (by decide +kernel)⟩
theorem lw_p11 : lw_okq (⟨"RatePlanner$Text", "readSign", "(I)Z"⟩, 6) := ⟨⟨by decide +kernel, by decide +kernel⟩, List.mem_of_getElem? (i := 133) (by decide +kernel), List.mem_of_getElem? (i := 553) (by decide +kernel), List.mem_of_getElem? (i := 554) (by decide +kernel)⟩
theorem lw_p12 : lw_okq (⟨"RatePlanner$Maker", "offsetOf", "(I)I"⟩, 5) := ⟨⟨by decide +kernel, by decide +kernel⟩, List.mem_of_getElem? (i := 297) (by decide +kernel), List.mem_of_getElem? (i := 653) (by decide +kernel), List.mem_of_getElem? (i := 654) (by decide +kernel)⟩
theorem lw_p13 : lw_okq (⟨"RatePlanner", "underflowsOfNewPlan", "()I"⟩, 12) := ⟨⟨by decide +kernel, by decide +kernel⟩, List.mem_of_getElem? (i := 17) (by decide +kernel), List.mem_of_getElem? (i := 671) (by decide +kernel), List.mem_of_getElem? (i := 672) (by decide +kernel)⟩
theorem lw_p14 : lw_okq (⟨"RatePlanner$Maker", "weighShares", "()J"⟩, 5) := ⟨⟨by decide +kernel, by decide +kernel⟩, List.mem_of_getElem? (i := 297) (by decide +kernel), List.mem_of_getElem? (i := 730) (by decide +kernel), List.mem_of_getElem? (i := 731) (by decide +kernel)⟩
theorem lw_p15 : lw_okq (⟨"RatePlanner$Maker", "leastWithin", "(IJ)I"⟩, 5) := ⟨⟨by decide +kernel, by decide +kernel⟩, List.mem_of_getElem? (i := 297) (by decide +kernel), List.mem_of_getElem? (i := 739) (by decide +kernel), List.mem_of_getElem? (i := 740) (by decide +kernel)⟩
def lw_privs_1 : List (MethodName × Nat) := [(⟨"RatePlanner", "arrangeAnew", "()V"⟩, 12), (⟨"RatePlanner$Layout", "findStarts", "(LRatePlanner$Clip;I)V"⟩, 10), (⟨"RatePlanner$Layout", "measureGroups", "()V"⟩, 10), (⟨"RatePlanner$Layout", "chooseTypes", "(I)V"⟩, 10), (⟨"RatePlanner$Layout", "putInOrder", "()V"⟩, 10), (⟨"RatePlanner$Layout", "putAt", "(II)V"⟩, 10), (⟨"RatePlanner$Layout", "weighWorks", "(LRatePlanner$Clip;)V"⟩, 10), (⟨"RatePlanner", "isFrame", "(I)Z"⟩, 12), (⟨"RatePlanner$Text", "skipBlanks", "()V"⟩, 6), (⟨"RatePlanner$Text", "readRun", "()Z"⟩, 6), (⟨"RatePlanner$Text", "readNumber", "(II)Z"⟩, 6), (⟨"RatePlanner$Text", "readSign", "(I)Z"⟩, 6), (⟨"RatePlanner$Maker", "offsetOf", "(I)I"⟩, 5), (⟨"RatePlanner", "underflowsOfNewPlan", "()I"⟩, 12), (⟨"RatePlanner$Maker", "weighShares", "()J"⟩, 5), (⟨"RatePlanner$Maker", "leastWithin", "(IJ)I"⟩, 5)]
theorem lw_r1 : ∀ q ∈ lw_privs_1, lw_okq q := List.forall_mem_cons.mpr ⟨lw_p0, List.forall_mem_cons.mpr ⟨lw_p1, List.forall_mem_cons.mpr ⟨lw_p2, List.forall_mem_cons.mpr ⟨lw_p3, List.forall_mem_cons.mpr ⟨lw_p4, List.forall_mem_cons.mpr ⟨lw_p5, List.forall_mem_cons.mpr ⟨lw_p6, List.forall_mem_cons.mpr ⟨lw_p7, List.forall_mem_cons.mpr ⟨lw_p8, List.forall_mem_cons.mpr ⟨lw_p9, List.forall_mem_cons.mpr ⟨lw_p10, List.forall_mem_cons.mpr ⟨lw_p11, List.forall_mem_cons.mpr ⟨lw_p12, List.forall_mem_cons.mpr ⟨lw_p13, List.forall_mem_cons.mpr ⟨lw_p14, List.forall_mem_cons.mpr ⟨lw_p15, fun _ h => absurd h List.not_mem_nil⟩⟩⟩⟩⟩⟩⟩⟩⟩⟩⟩⟩⟩⟩⟩⟩
theorem lw_p16 : lw_okq (⟨"RatePlanner$Mender", "weighRaise", "(I)V"⟩, 8) := ⟨⟨by decide +kernel, by decide +kernel⟩, List.mem_of_getElem? (i := 319) (by decide +kernel), List.mem_of_getElem? (i := 764) (by decide +kernel), List.mem_of_getElem? (i := 765) (by decide +kernel)⟩
theorem lw_p17 : lw_okq (⟨"RatePlanner$Mender", "nextOf", "(II)I"⟩, 8) := ⟨⟨by decide +kernel, by decide +kernel⟩, List.mem_of_getElem? (i := 319) (by decide +kernel), List.mem_of_getElem? (i := 768) (by decide +kernel), List.mem_of_getElem? (i := 769) (by decide +kernel)⟩
theorem lw_p18 : lw_okq (⟨"RatePlanner$Mender", "cheapestRaise", "(II)I"⟩, 8) := ⟨⟨by decide +kernel, by decide +kernel⟩, List.mem_of_getElem? (i := 319) (by decide +kernel), List.mem_of_getElem? (i := 788) (by decide +kernel), List.mem_of_getElem? (i := 789) (by decide +kernel)⟩
theorem lw_p19 : lw_okq (⟨"RatePlanner$Mender", "raise", "(I)V"⟩, 8) := ⟨⟨by decide +kernel, by decide +kernel⟩, List.mem_of_getElem? (i := 319) (by decide +kernel), List.mem_of_getElem? (i := 795) (by decide +kernel), List.mem_of_getElem? (i := 796) (by decide +kernel)⟩
theorem lw_p20 : lw_okq (⟨"RatePlanner$Mender", "weighLowering", "([II)V"⟩, 8) := ⟨⟨by decide +kernel, by decide +kernel⟩, List.mem_of_getElem? (i := 319) (by decide +kernel), List.mem_of_getElem? (i := 808) (by decide +kernel), List.mem_of_getElem? (i := 809) (by decide +kernel)⟩
theorem lw_p21 : lw_okq (⟨"RatePlanner$Mender", "greatestGain", "()I"⟩, 8) := ⟨⟨by decide +kernel, by decide +kernel⟩, List.mem_of_getElem? (i := 319) (by decide +kernel), List.mem_of_getElem? (i := 814) (by decide +kernel), List.mem_of_getElem? (i := 815) (by decide +kernel)⟩
theorem lw_p22 : lw_okq (⟨"RatePlanner$Mender", "canLower", "([IIII)Z"⟩, 8) := ⟨⟨by decide +kernel, by decide +kernel⟩, List.mem_of_getElem? (i := 319) (by decide +kernel), List.mem_of_getElem? (i := 818) (by decide +kernel), List.mem_of_getElem? (i := 819) (by decide +kernel)⟩
theorem lw_p23 : lw_okq (⟨"RatePlanner$Mender", "lower", "([II)V"⟩, 8) := ⟨⟨by decide +kernel, by decide +kernel⟩, List.mem_of_getElem? (i := 319) (by decide +kernel), List.mem_of_getElem? (i := 826) (by decide +kernel), List.mem_of_getElem? (i := 827) (by decide +kernel)⟩
theorem lw_p24 : lw_okq (⟨"RatePlanner", "followedFrame", "(II)I"⟩, 12) := ⟨⟨by decide +kernel, by decide +kernel⟩, List.mem_of_getElem? (i := 17) (by decide +kernel), List.mem_of_getElem? (i := 838) (by decide +kernel), List.mem_of_getElem? (i := 839) (by decide +kernel)⟩
theorem lw_p25 : lw_okq (⟨"RatePlanner", "followedTotal", "(I)J"⟩, 12) := ⟨⟨by decide +kernel, by decide +kernel⟩, List.mem_of_getElem? (i := 17) (by decide +kernel), List.mem_of_getElem? (i := 848) (by decide +kernel), List.mem_of_getElem? (i := 849) (by decide +kernel)⟩
theorem lw_p26 : lw_okq (⟨"RatePlanner", "changesOfPlan", "()J"⟩, 12) := ⟨⟨by decide +kernel, by decide +kernel⟩, List.mem_of_getElem? (i := 17) (by decide +kernel), List.mem_of_getElem? (i := 852) (by decide +kernel), List.mem_of_getElem? (i := 853) (by decide +kernel)⟩
theorem lw_p27 : lw_okq (⟨"RatePlanner", "bitsOfScene", "(I)I"⟩, 12) := ⟨⟨by decide +kernel, by decide +kernel⟩, List.mem_of_getElem? (i := 17) (by decide +kernel), List.mem_of_getElem? (i := 871) (by decide +kernel), List.mem_of_getElem? (i := 872) (by decide +kernel)⟩
theorem lw_p28 : lw_okq (⟨"RatePlanner", "meanOfScene", "(I)I"⟩, 12) := ⟨⟨by decide +kernel, by decide +kernel⟩, List.mem_of_getElem? (i := 17) (by decide +kernel), List.mem_of_getElem? (i := 875) (by decide +kernel), List.mem_of_getElem? (i := 876) (by decide +kernel)⟩
theorem lw_p29 : lw_okq (⟨"RatePlanner$Finder", "findLeast", "([IIII)I"⟩, 5) := ⟨⟨by decide +kernel, by decide +kernel⟩, List.mem_of_getElem? (i := 351) (by decide +kernel), List.mem_of_getElem? (i := 893) (by decide +kernel), List.mem_of_getElem? (i := 894) (by decide +kernel)⟩
theorem lw_p30 : lw_okq (⟨"RatePlanner$Finder", "suffices", "(II)Z"⟩, 5) := ⟨⟨by decide +kernel, by decide +kernel⟩, List.mem_of_getElem? (i := 351) (by decide +kernel), List.mem_of_getElem? (i := 898) (by decide +kernel), List.mem_of_getElem? (i := 899) (by decide +kernel)⟩
theorem lw_p31 : lw_okq (⟨"RatePlanner", "hashFrame", "(JI)J"⟩, 12) := ⟨⟨by decide +kernel, by decide +kernel⟩, List.mem_of_getElem? (i := 17) (by decide +kernel), List.mem_of_getElem? (i := 969) (by decide +kernel), List.mem_of_getElem? (i := 970) (by decide +kernel)⟩
def lw_privs_2 : List (MethodName × Nat) := [(⟨"RatePlanner$Mender", "weighRaise", "(I)V"⟩, 8), (⟨"RatePlanner$Mender", "nextOf", "(II)I"⟩, 8), (⟨"RatePlanner$Mender", "cheapestRaise", "(II)I"⟩, 8), (⟨"RatePlanner$Mender", "raise", "(I)V"⟩, 8), (⟨"RatePlanner$Mender", "weighLowering", "([II)V"⟩, 8), (⟨"RatePlanner$Mender", "greatestGain", "()I"⟩, 8), (⟨"RatePlanner$Mender", "canLower", "([IIII)Z"⟩, 8), (⟨"RatePlanner$Mender", "lower", "([II)V"⟩, 8), (⟨"RatePlanner", "followedFrame", "(II)I"⟩, 12), (⟨"RatePlanner", "followedTotal", "(I)J"⟩, 12), (⟨"RatePlanner", "changesOfPlan", "()J"⟩, 12), (⟨"RatePlanner", "bitsOfScene", "(I)I"⟩, 12), (⟨"RatePlanner", "meanOfScene", "(I)I"⟩, 12), (⟨"RatePlanner$Finder", "findLeast", "([IIII)I"⟩, 5), (⟨"RatePlanner$Finder", "suffices", "(II)Z"⟩, 5), (⟨"RatePlanner", "hashFrame", "(JI)J"⟩, 12)]
theorem lw_r2 : ∀ q ∈ lw_privs_2, lw_okq q := List.forall_mem_cons.mpr ⟨lw_p16, List.forall_mem_cons.mpr ⟨lw_p17, List.forall_mem_cons.mpr ⟨lw_p18, List.forall_mem_cons.mpr ⟨lw_p19, List.forall_mem_cons.mpr ⟨lw_p20, List.forall_mem_cons.mpr ⟨lw_p21, List.forall_mem_cons.mpr ⟨lw_p22, List.forall_mem_cons.mpr ⟨lw_p23, List.forall_mem_cons.mpr ⟨lw_p24, List.forall_mem_cons.mpr ⟨lw_p25, List.forall_mem_cons.mpr ⟨lw_p26, List.forall_mem_cons.mpr ⟨lw_p27, List.forall_mem_cons.mpr ⟨lw_p28, List.forall_mem_cons.mpr ⟨lw_p29, List.forall_mem_cons.mpr ⟨lw_p30, List.forall_mem_cons.mpr ⟨lw_p31, fun _ h => absurd h List.not_mem_nil⟩⟩⟩⟩⟩⟩⟩⟩⟩⟩⟩⟩⟩⟩⟩⟩
theorem lw_p32 : lw_okq (⟨"RatePlannerModel", "forgets", "()V"⟩, 24) := ⟨⟨by decide +kernel, by decide +kernel⟩, List.mem_of_getElem? (i := 976) (by decide +kernel), List.mem_of_getElem? (i := 1063) (by decide +kernel), List.mem_of_getElem? (i := 1064) (by decide +kernel)⟩
theorem lw_p33 : lw_okq (⟨"RatePlannerModel", "isFrame", "(I)Z"⟩, 24) := ⟨⟨by decide +kernel, by decide +kernel⟩, List.mem_of_getElem? (i := 976) (by decide +kernel), List.mem_of_getElem? (i := 1071) (by decide +kernel), List.mem_of_getElem? (i := 1072) (by decide +kernel)⟩
theorem lw_p34 : lw_okq (⟨"RatePlannerModel", "isCut", "(I)Z"⟩, 24) := ⟨⟨by decide +kernel, by decide +kernel⟩, List.mem_of_getElem? (i := 976) (by decide +kernel), List.mem_of_getElem? (i := 1075) (by decide +kernel), List.mem_of_getElem? (i := 1076) (by decide +kernel)⟩
theorem lw_p35 : lw_okq (⟨"RatePlannerModel", "readsAll", "()V"⟩, 24) := ⟨⟨by decide +kernel, by decide +kernel⟩, List.mem_of_getElem? (i := 976) (by decide +kernel), List.mem_of_getElem? (i := 1095) (by decide +kernel), List.mem_of_getElem? (i := 1096) (by decide +kernel)⟩
theorem lw_p36 : lw_okq (⟨"RatePlannerModel", "skips", "()V"⟩, 24) := ⟨⟨by decide +kernel, by decide +kernel⟩, List.mem_of_getElem? (i := 976) (by decide +kernel), List.mem_of_getElem? (i := 1099) (by decide +kernel), List.mem_of_getElem? (i := 1100) (by decide +kernel)⟩
theorem lw_p37 : lw_okq (⟨"RatePlannerModel", "byteAt", "(I)I"⟩, 24) := ⟨⟨by decide +kernel, by decide +kernel⟩, List.mem_of_getElem? (i := 976) (by decide +kernel), List.mem_of_getElem? (i := 1103) (by decide +kernel), List.mem_of_getElem? (i := 1104) (by decide +kernel)⟩
theorem lw_p38 : lw_okq (⟨"RatePlannerModel", "readsRun", "()V"⟩, 24) := ⟨⟨by decide +kernel, by decide +kernel⟩, List.mem_of_getElem? (i := 976) (by decide +kernel), List.mem_of_getElem? (i := 1107) (by decide +kernel), List.mem_of_getElem? (i := 1108) (by decide +kernel)⟩
theorem lw_p39 : lw_okq (⟨"RatePlannerModel", "fails", "(I)V"⟩, 24) := ⟨⟨by decide +kernel, by decide +kernel⟩, List.mem_of_getElem? (i := 976) (by decide +kernel), List.mem_of_getElem? (i := 1111) (by decide +kernel), List.mem_of_getElem? (i := 1112) (by decide +kernel)⟩
theorem lw_p40 : lw_okq (⟨"RatePlannerModel", "reads1", "(II)I"⟩, 24) := ⟨⟨by decide +kernel, by decide +kernel⟩, List.mem_of_getElem? (i := 976) (by decide +kernel), List.mem_of_getElem? (i := 1115) (by decide +kernel), List.mem_of_getElem? (i := 1116) (by decide +kernel)⟩
theorem lw_p41 : lw_okq (⟨"RatePlannerModel", "findsTypes", "()V"⟩, 24) := ⟨⟨by decide +kernel, by decide +kernel⟩, List.mem_of_getElem? (i := 976) (by decide +kernel), List.mem_of_getElem? (i := 1123) (by decide +kernel), List.mem_of_getElem? (i := 1124) (by decide +kernel)⟩
theorem lw_p42 : lw_okq (⟨"RatePlannerModel", "findsIntra", "()V"⟩, 24) := ⟨⟨by decide +kernel, by decide +kernel⟩, List.mem_of_getElem? (i := 976) (by decide +kernel), List.mem_of_getElem? (i := 1127) (by decide +kernel), List.mem_of_getElem? (i := 1128) (by decide +kernel)⟩
theorem lw_p43 : lw_okq (⟨"RatePlannerModel", "groupSize", "(I)I"⟩, 24) := ⟨⟨by decide +kernel, by decide +kernel⟩, List.mem_of_getElem? (i := 976) (by decide +kernel), List.mem_of_getElem? (i := 1131) (by decide +kernel), List.mem_of_getElem? (i := 1132) (by decide +kernel)⟩
theorem lw_p44 : lw_okq (⟨"RatePlannerModel", "work", "(I)I"⟩, 24) := ⟨⟨by decide +kernel, by decide +kernel⟩, List.mem_of_getElem? (i := 976) (by decide +kernel), List.mem_of_getElem? (i := 1135) (by decide +kernel), List.mem_of_getElem? (i := 1136) (by decide +kernel)⟩
theorem lw_p45 : lw_okq (⟨"RatePlannerModel", "sets", "(II)I"⟩, 24) := ⟨⟨by decide +kernel, by decide +kernel⟩, List.mem_of_getElem? (i := 976) (by decide +kernel), List.mem_of_getElem? (i := 1147) (by decide +kernel), List.mem_of_getElem? (i := 1148) (by decide +kernel)⟩
theorem lw_p46 : lw_okq (⟨"RatePlannerModel", "bits", "(II)I"⟩, 24) := ⟨⟨by decide +kernel, by decide +kernel⟩, List.mem_of_getElem? (i := 976) (by decide +kernel), List.mem_of_getElem? (i := 1185) (by decide +kernel), List.mem_of_getElem? (i := 1186) (by decide +kernel)⟩
theorem lw_p47 : lw_okq (⟨"RatePlannerModel", "loss", "(II)I"⟩, 24) := ⟨⟨by decide +kernel, by decide +kernel⟩, List.mem_of_getElem? (i := 976) (by decide +kernel), List.mem_of_getElem? (i := 1196) (by decide +kernel), List.mem_of_getElem? (i := 1197) (by decide +kernel)⟩
def lw_privs_3 : List (MethodName × Nat) := [(⟨"RatePlannerModel", "forgets", "()V"⟩, 24), (⟨"RatePlannerModel", "isFrame", "(I)Z"⟩, 24), (⟨"RatePlannerModel", "isCut", "(I)Z"⟩, 24), (⟨"RatePlannerModel", "readsAll", "()V"⟩, 24), (⟨"RatePlannerModel", "skips", "()V"⟩, 24), (⟨"RatePlannerModel", "byteAt", "(I)I"⟩, 24), (⟨"RatePlannerModel", "readsRun", "()V"⟩, 24), (⟨"RatePlannerModel", "fails", "(I)V"⟩, 24), (⟨"RatePlannerModel", "reads1", "(II)I"⟩, 24), (⟨"RatePlannerModel", "findsTypes", "()V"⟩, 24), (⟨"RatePlannerModel", "findsIntra", "()V"⟩, 24), (⟨"RatePlannerModel", "groupSize", "(I)I"⟩, 24), (⟨"RatePlannerModel", "work", "(I)I"⟩, 24), (⟨"RatePlannerModel", "sets", "(II)I"⟩, 24), (⟨"RatePlannerModel", "bits", "(II)I"⟩, 24), (⟨"RatePlannerModel", "loss", "(II)I"⟩, 24)]
theorem lw_r3 : ∀ q ∈ lw_privs_3, lw_okq q := List.forall_mem_cons.mpr ⟨lw_p32, List.forall_mem_cons.mpr ⟨lw_p33, List.forall_mem_cons.mpr ⟨lw_p34, List.forall_mem_cons.mpr ⟨lw_p35, List.forall_mem_cons.mpr ⟨lw_p36, List.forall_mem_cons.mpr ⟨lw_p37, List.forall_mem_cons.mpr ⟨lw_p38, List.forall_mem_cons.mpr ⟨lw_p39, List.forall_mem_cons.mpr ⟨lw_p40, List.forall_mem_cons.mpr ⟨lw_p41, List.forall_mem_cons.mpr ⟨lw_p42, List.forall_mem_cons.mpr ⟨lw_p43, List.forall_mem_cons.mpr ⟨lw_p44, List.forall_mem_cons.mpr ⟨lw_p45, List.forall_mem_cons.mpr ⟨lw_p46, List.forall_mem_cons.mpr ⟨lw_p47, fun _ h => absurd h List.not_mem_nil⟩⟩⟩⟩⟩⟩⟩⟩⟩⟩⟩⟩⟩⟩⟩⟩
theorem lw_p48 : lw_okq (⟨"RatePlannerModel", "weight", "(I)I"⟩, 24) := ⟨⟨by decide +kernel, by decide +kernel⟩, List.mem_of_getElem? (i := 976) (by decide +kernel), List.mem_of_getElem? (i := 1200) (by decide +kernel), List.mem_of_getElem? (i := 1201) (by decide +kernel)⟩
theorem lw_p49 : lw_okq (⟨"RatePlannerModel", "plansConstant", "(I)V"⟩, 24) := ⟨⟨by decide +kernel, by decide +kernel⟩, List.mem_of_getElem? (i := 976) (by decide +kernel), List.mem_of_getElem? (i := 1208) (by decide +kernel), List.mem_of_getElem? (i := 1209) (by decide +kernel)⟩
theorem lw_p50 : lw_okq (⟨"RatePlannerModel", "settled", "(II)I"⟩, 24) := ⟨⟨by decide +kernel, by decide +kernel⟩, List.mem_of_getElem? (i := 976) (by decide +kernel), List.mem_of_getElem? (i := 1215) (by decide +kernel), List.mem_of_getElem? (i := 1216) (by decide +kernel)⟩
theorem lw_p51 : lw_okq (⟨"RatePlannerModel", "underflowsNow", "()I"⟩, 24) := ⟨⟨by decide +kernel, by decide +kernel⟩, List.mem_of_getElem? (i := 976) (by decide +kernel), List.mem_of_getElem? (i := 1222) (by decide +kernel), List.mem_of_getElem? (i := 1223) (by decide +kernel)⟩
theorem lw_p52 : lw_okq (⟨"RatePlannerModel", "runsAsSet", "()V"⟩, 24) := ⟨⟨by decide +kernel, by decide +kernel⟩, List.mem_of_getElem? (i := 976) (by decide +kernel), List.mem_of_getElem? (i := 1226) (by decide +kernel), List.mem_of_getElem? (i := 1227) (by decide +kernel)⟩
theorem lw_p53 : lw_okq (⟨"RatePlannerModel", "runs", "(III)V"⟩, 24) := ⟨⟨by decide +kernel, by decide +kernel⟩, List.mem_of_getElem? (i := 976) (by decide +kernel), List.mem_of_getElem? (i := 1230) (by decide +kernel), List.mem_of_getElem? (i := 1231) (by decide +kernel)⟩
theorem lw_p54 : lw_okq (⟨"RatePlannerModel", "passes", "(IIII)V"⟩, 24) := ⟨⟨by decide +kernel, by decide +kernel⟩, List.mem_of_getElem? (i := 976) (by decide +kernel), List.mem_of_getElem? (i := 1234) (by decide +kernel), List.mem_of_getElem? (i := 1235) (by decide +kernel)⟩
theorem lw_p55 : lw_okq (⟨"RatePlannerModel", "share", "(I)I"⟩, 24) := ⟨⟨by decide +kernel, by decide +kernel⟩, List.mem_of_getElem? (i := 976) (by decide +kernel), List.mem_of_getElem? (i := 1247) (by decide +kernel), List.mem_of_getElem? (i := 1248) (by decide +kernel)⟩
theorem lw_p56 : lw_okq (⟨"RatePlannerModel", "leastWithin", "(IJ)I"⟩, 24) := ⟨⟨by decide +kernel, by decide +kernel⟩, List.mem_of_getElem? (i := 976) (by decide +kernel), List.mem_of_getElem? (i := 1255) (by decide +kernel), List.mem_of_getElem? (i := 1256) (by decide +kernel)⟩
theorem lw_p57 : lw_okq (⟨"RatePlannerModel", "firstUnderflow", "()I"⟩, 24) := ⟨⟨by decide +kernel, by decide +kernel⟩, List.mem_of_getElem? (i := 976) (by decide +kernel), List.mem_of_getElem? (i := 1267) (by decide +kernel), List.mem_of_getElem? (i := 1268) (by decide +kernel)⟩
theorem lw_p58 : lw_okq (⟨"RatePlannerModel", "cheapest", "(II)I"⟩, 24) := ⟨⟨by decide +kernel, by decide +kernel⟩, List.mem_of_getElem? (i := 976) (by decide +kernel), List.mem_of_getElem? (i := 1271) (by decide +kernel), List.mem_of_getElem? (i := 1272) (by decide +kernel)⟩
theorem lw_p59 : lw_okq (⟨"RatePlannerModel", "nextQuantizer", "(I)I"⟩, 24) := ⟨⟨by decide +kernel, by decide +kernel⟩, List.mem_of_getElem? (i := 976) (by decide +kernel), List.mem_of_getElem? (i := 1275) (by decide +kernel), List.mem_of_getElem? (i := 1276) (by decide +kernel)⟩
theorem lw_p60 : lw_okq (⟨"RatePlannerModel", "costOf", "(II)J"⟩, 24) := ⟨⟨by decide +kernel, by decide +kernel⟩, List.mem_of_getElem? (i := 976) (by decide +kernel), List.mem_of_getElem? (i := 1279) (by decide +kernel), List.mem_of_getElem? (i := 1280) (by decide +kernel)⟩
theorem lw_p61 : lw_okq (⟨"RatePlannerModel", "gainOf", "(IJI)J"⟩, 24) := ⟨⟨by decide +kernel, by decide +kernel⟩, List.mem_of_getElem? (i := 976) (by decide +kernel), List.mem_of_getElem? (i := 1289) (by decide +kernel), List.mem_of_getElem? (i := 1290) (by decide +kernel)⟩
theorem lw_p62 : lw_okq (⟨"RatePlannerModel", "allBits", "()J"⟩, 24) := ⟨⟨by decide +kernel, by decide +kernel⟩, List.mem_of_getElem? (i := 976) (by decide +kernel), List.mem_of_getElem? (i := 1293) (by decide +kernel), List.mem_of_getElem? (i := 1294) (by decide +kernel)⟩
theorem lw_p63 : lw_okq (⟨"RatePlannerModel", "part", "(II)I"⟩, 24) := ⟨⟨by decide +kernel, by decide +kernel⟩, List.mem_of_getElem? (i := 976) (by decide +kernel), List.mem_of_getElem? (i := 1306) (by decide +kernel), List.mem_of_getElem? (i := 1307) (by decide +kernel)⟩
def lw_privs_4 : List (MethodName × Nat) := [(⟨"RatePlannerModel", "weight", "(I)I"⟩, 24), (⟨"RatePlannerModel", "plansConstant", "(I)V"⟩, 24), (⟨"RatePlannerModel", "settled", "(II)I"⟩, 24), (⟨"RatePlannerModel", "underflowsNow", "()I"⟩, 24), (⟨"RatePlannerModel", "runsAsSet", "()V"⟩, 24), (⟨"RatePlannerModel", "runs", "(III)V"⟩, 24), (⟨"RatePlannerModel", "passes", "(IIII)V"⟩, 24), (⟨"RatePlannerModel", "share", "(I)I"⟩, 24), (⟨"RatePlannerModel", "leastWithin", "(IJ)I"⟩, 24), (⟨"RatePlannerModel", "firstUnderflow", "()I"⟩, 24), (⟨"RatePlannerModel", "cheapest", "(II)I"⟩, 24), (⟨"RatePlannerModel", "nextQuantizer", "(I)I"⟩, 24), (⟨"RatePlannerModel", "costOf", "(II)J"⟩, 24), (⟨"RatePlannerModel", "gainOf", "(IJI)J"⟩, 24), (⟨"RatePlannerModel", "allBits", "()J"⟩, 24), (⟨"RatePlannerModel", "part", "(II)I"⟩, 24)]
theorem lw_r4 : ∀ q ∈ lw_privs_4, lw_okq q := List.forall_mem_cons.mpr ⟨lw_p48, List.forall_mem_cons.mpr ⟨lw_p49, List.forall_mem_cons.mpr ⟨lw_p50, List.forall_mem_cons.mpr ⟨lw_p51, List.forall_mem_cons.mpr ⟨lw_p52, List.forall_mem_cons.mpr ⟨lw_p53, List.forall_mem_cons.mpr ⟨lw_p54, List.forall_mem_cons.mpr ⟨lw_p55, List.forall_mem_cons.mpr ⟨lw_p56, List.forall_mem_cons.mpr ⟨lw_p57, List.forall_mem_cons.mpr ⟨lw_p58, List.forall_mem_cons.mpr ⟨lw_p59, List.forall_mem_cons.mpr ⟨lw_p60, List.forall_mem_cons.mpr ⟨lw_p61, List.forall_mem_cons.mpr ⟨lw_p62, List.forall_mem_cons.mpr ⟨lw_p63, fun _ h => absurd h List.not_mem_nil⟩⟩⟩⟩⟩⟩⟩⟩⟩⟩⟩⟩⟩⟩⟩⟩
theorem lw_p64 : lw_okq (⟨"RatePlannerModel", "sumOf", "(I)J"⟩, 24) := ⟨⟨by decide +kernel, by decide +kernel⟩, List.mem_of_getElem? (i := 976) (by decide +kernel), List.mem_of_getElem? (i := 1316) (by decide +kernel), List.mem_of_getElem? (i := 1317) (by decide +kernel)⟩
theorem lw_p65 : lw_okq (⟨"RatePlannerModel", "change", "(I)I"⟩, 24) := ⟨⟨by decide +kernel, by decide +kernel⟩, List.mem_of_getElem? (i := 976) (by decide +kernel), List.mem_of_getElem? (i := 1320) (by decide +kernel), List.mem_of_getElem? (i := 1321) (by decide +kernel)⟩
theorem lw_p66 : lw_okq (⟨"RatePlannerModel", "isDry", "(III)Z"⟩, 24) := ⟨⟨by decide +kernel, by decide +kernel⟩, List.mem_of_getElem? (i := 976) (by decide +kernel), List.mem_of_getElem? (i := 1332) (by decide +kernel), List.mem_of_getElem? (i := 1333) (by decide +kernel)⟩
theorem lw_p67 : lw_okq (⟨"RatePlannerModel", "counted", "(I)I"⟩, 24) := ⟨⟨by decide +kernel, by decide +kernel⟩, List.mem_of_getElem? (i := 976) (by decide +kernel), List.mem_of_getElem? (i := 1364) (by decide +kernel), List.mem_of_getElem? (i := 1365) (by decide +kernel)⟩
theorem lw_p68 : lw_okq (⟨"RatePlannerModel", "mixes", "(J)V"⟩, 24) := ⟨⟨by decide +kernel, by decide +kernel⟩, List.mem_of_getElem? (i := 976) (by decide +kernel), List.mem_of_getElem? (i := 1374) (by decide +kernel), List.mem_of_getElem? (i := 1375) (by decide +kernel)⟩
def lw_privs_5 : List (MethodName × Nat) := [(⟨"RatePlannerModel", "sumOf", "(I)J"⟩, 24), (⟨"RatePlannerModel", "change", "(I)I"⟩, 24), (⟨"RatePlannerModel", "isDry", "(III)Z"⟩, 24), (⟨"RatePlannerModel", "counted", "(I)I"⟩, 24), (⟨"RatePlannerModel", "mixes", "(J)V"⟩, 24)]
theorem lw_r5 : ∀ q ∈ lw_privs_5, lw_okq q := List.forall_mem_cons.mpr ⟨lw_p64, List.forall_mem_cons.mpr ⟨lw_p65, List.forall_mem_cons.mpr ⟨lw_p66, List.forall_mem_cons.mpr ⟨lw_p67, List.forall_mem_cons.mpr ⟨lw_p68, fun _ h => absurd h List.not_mem_nil⟩⟩⟩⟩⟩
def lw_privs : List (MethodName × Nat) := lw_privs_1 ++ (lw_privs_2 ++ (lw_privs_3 ++ (lw_privs_4 ++ (lw_privs_5))))
def lw_tbl : List Cond := k2_sels lw_privs ++ tables_1
theorem lw_privs_ok : ∀ q ∈ lw_privs, lw_okq q := by
  show ∀ q ∈ lw_privs_1 ++ (lw_privs_2 ++ (lw_privs_3 ++ (lw_privs_4 ++ (lw_privs_5)))), lw_okq q
  exact List.forall_mem_append.mpr ⟨lw_r1, List.forall_mem_append.mpr ⟨lw_r2, List.forall_mem_append.mpr ⟨lw_r3, List.forall_mem_append.mpr ⟨lw_r4, lw_r5⟩⟩⟩⟩
def RX0 : String := "RatePlanner$Clip"
def TX0 : u_T := fun k => match k with
  | 0 => ("RatePlanner$Clip", "length", "I", false)
  | 1 => ("RatePlanner$Clip", "textures", "[I", true)
  | _ => ("RatePlanner$Clip", "motions", "[I", true)
abbrev cX0_init : ByteArray := prog_2_method_1_code
def yX0_init : MethodName := ⟨RX0, "<init>", "()V"⟩
abbrev cX0_add : ByteArray := prog_2_method_2_code
def yX0_add : MethodName := ⟨RX0, "add", "(II)V"⟩
abbrev cX0_isCut : ByteArray := prog_2_method_3_code
def yX0_isCut : MethodName := ⟨RX0, "isCut", "(I)Z"⟩
abbrev cX0_copyFrom : ByteArray := prog_2_method_4_code
def yX0_copyFrom : MethodName := ⟨RX0, "copyFrom", "(LRatePlanner$Clip;)V"⟩
def RX1 : String := "RatePlanner$Course"
def TX1 : u_T := fun k => match k with
  | 0 => ("RatePlanner$Course", "underflows", "I", false)
  | 1 => ("RatePlanner$Course", "bits", "[I", true)
  | 2 => ("RatePlanner$Course", "befores", "[I", true)
  | 3 => ("RatePlanner$Course", "afters", "[I", true)
  | 4 => ("RatePlanner$Course", "lacks", "[I", true)
  | 5 => ("RatePlanner$Course", "surpluses", "[I", true)
  | 6 => ("RatePlanner$Course", "model", "LRatePlanner$Model;", true)
  | 7 => ("RatePlanner$Course", "size", "I", false)
  | 8 => ("RatePlanner$Course", "rate", "I", false)
  | _ => ("RatePlanner$Course", "content", "I", false)
abbrev cX1_init : ByteArray := prog_3_method_1_code
def yX1_init : MethodName := ⟨RX1, "<init>", "(LRatePlanner$Model;)V"⟩
abbrev cX1_follow : ByteArray := prog_3_method_2_code
def yX1_follow : MethodName := ⟨RX1, "follow", "([I)V"⟩
abbrev cX1_takeBits : ByteArray := prog_3_method_3_code
def yX1_takeBits : MethodName := ⟨RX1, "takeBits", "([I)V"⟩
abbrev cX1_passAsSet : ByteArray := prog_3_method_4_code
def yX1_passAsSet : MethodName := ⟨RX1, "passAsSet", "()V"⟩
abbrev cX1_pass : ByteArray := prog_3_method_5_code
def yX1_pass : MethodName := ⟨RX1, "pass", "(III)V"⟩
abbrev cX1_begin : ByteArray := prog_3_method_6_code
def yX1_begin : MethodName := ⟨RX1, "begin", "(III)V"⟩
abbrev cX1_fillBefore : ByteArray := prog_3_method_7_code
def yX1_fillBefore : MethodName := ⟨RX1, "fillBefore", "(I)I"⟩
abbrev cX1_takeOut : ByteArray := prog_3_method_8_code
def yX1_takeOut : MethodName := ⟨RX1, "takeOut", "(II)V"⟩
abbrev cX1_firstUnderflow : ByteArray := prog_3_method_9_code
def yX1_firstUnderflow : MethodName := ⟨RX1, "firstUnderflow", "()I"⟩
abbrev cX1_lastFullNotBehind : ByteArray := prog_3_method_10_code
def yX1_lastFullNotBehind : MethodName := ⟨RX1, "lastFullNotBehind", "(I)I"⟩
abbrev cX1_sumOfBits : ByteArray := prog_3_method_11_code
def yX1_sumOfBits : MethodName := ⟨RX1, "sumOfBits", "()I"⟩
def RX2 : String := "RatePlanner$Finder"
def TX2 : u_T := fun k => match k with
  | 0 => ("RatePlanner$Finder", "settings", "LRatePlanner$Settings;", true)
  | 1 => ("RatePlanner$Finder", "layout", "LRatePlanner$Layout;", true)
  | 2 => ("RatePlanner$Finder", "course", "LRatePlanner$Course;", true)
  | 3 => ("RatePlanner$Finder", "maker", "LRatePlanner$Maker;", true)
  | _ => ("RatePlanner$Finder", "trial", "[I", true)
abbrev cX2_init : ByteArray := prog_4_method_1_code
def yX2_init : MethodName := ⟨RX2, "<init>", "(LRatePlanner$Model;LRatePlanner$Course;LRatePlanner$Maker;)V"⟩
abbrev cX2_findSize : ByteArray := prog_4_method_2_code
def yX2_findSize : MethodName := ⟨RX2, "findSize", "([I)I"⟩
abbrev cX2_findStart : ByteArray := prog_4_method_3_code
def yX2_findStart : MethodName := ⟨RX2, "findStart", "([I)I"⟩
abbrev cX2_findRate : ByteArray := prog_4_method_4_code
def yX2_findRate : MethodName := ⟨RX2, "findRate", "([I)I"⟩
abbrev cX2_findLeast : ByteArray := prog_4_method_5_code
def yX2_findLeast : MethodName := ⟨RX2, "findLeast", "([IIII)I"⟩
abbrev cX2_suffices : ByteArray := prog_4_method_6_code
def yX2_suffices : MethodName := ⟨RX2, "suffices", "(II)Z"⟩
abbrev cX2_findConstant : ByteArray := prog_4_method_7_code
def yX2_findConstant : MethodName := ⟨RX2, "findConstant", "()I"⟩
abbrev cX2_findDemand : ByteArray := prog_4_method_8_code
def yX2_findDemand : MethodName := ⟨RX2, "findDemand", "([III)I"⟩
def RX3 : String := "RatePlanner$Layout"
def TX3 : u_T := fun k => match k with
  | 0 => ("RatePlanner$Layout", "length", "I", false)
  | 1 => ("RatePlanner$Layout", "scenes", "I", false)
  | 2 => ("RatePlanner$Layout", "groups", "I", false)
  | 3 => ("RatePlanner$Layout", "types", "[I", true)
  | 4 => ("RatePlanner$Layout", "sceneNumbers", "[I", true)
  | 5 => ("RatePlanner$Layout", "groupFirsts", "[I", true)
  | 6 => ("RatePlanner$Layout", "groupLengths", "[I", true)
  | 7 => ("RatePlanner$Layout", "works", "[I", true)
  | 8 => ("RatePlanner$Layout", "places", "[I", true)
  | _ => ("RatePlanner$Layout", "order", "[I", true)
abbrev cX3_init : ByteArray := prog_5_method_1_code
def yX3_init : MethodName := ⟨RX3, "<init>", "()V"⟩
abbrev cX3_arrange : ByteArray := prog_5_method_2_code
def yX3_arrange : MethodName := ⟨RX3, "arrange", "(LRatePlanner$Clip;LRatePlanner$Settings;)V"⟩
abbrev cX3_findStarts : ByteArray := prog_5_method_3_code
def yX3_findStarts : MethodName := ⟨RX3, "findStarts", "(LRatePlanner$Clip;I)V"⟩
abbrev cX3_measureGroups : ByteArray := prog_5_method_4_code
def yX3_measureGroups : MethodName := ⟨RX3, "measureGroups", "()V"⟩
abbrev cX3_chooseTypes : ByteArray := prog_5_method_5_code
def yX3_chooseTypes : MethodName := ⟨RX3, "chooseTypes", "(I)V"⟩
abbrev cX3_isMultiple : ByteArray := prog_5_method_6_code
def yX3_isMultiple : MethodName := ⟨RX3, "isMultiple", "(II)Z"⟩
abbrev cX3_putInOrder : ByteArray := prog_5_method_7_code
def yX3_putInOrder : MethodName := ⟨RX3, "putInOrder", "()V"⟩
abbrev cX3_putAt : ByteArray := prog_5_method_8_code
def yX3_putAt : MethodName := ⟨RX3, "putAt", "(II)V"⟩
abbrev cX3_weighWorks : ByteArray := prog_5_method_9_code
def yX3_weighWorks : MethodName := ⟨RX3, "weighWorks", "(LRatePlanner$Clip;)V"⟩
abbrev cX3_workOf : ByteArray := prog_5_method_10_code
def yX3_workOf : MethodName := ⟨RX3, "workOf", "(III)I"⟩
abbrev cX3_firstOfScene : ByteArray := prog_5_method_11_code
def yX3_firstOfScene : MethodName := ⟨RX3, "firstOfScene", "(I)I"⟩
abbrev cX3_framesOfScene : ByteArray := prog_5_method_12_code
def yX3_framesOfScene : MethodName := ⟨RX3, "framesOfScene", "(I)I"⟩
abbrev cX3_groupsOfScene : ByteArray := prog_5_method_13_code
def yX3_groupsOfScene : MethodName := ⟨RX3, "groupsOfScene", "(I)I"⟩
def RX4 : String := "RatePlanner$Maker"
def TX4 : u_T := fun k => match k with
  | 0 => ("RatePlanner$Maker", "model", "LRatePlanner$Model;", true)
  | 1 => ("RatePlanner$Maker", "settings", "LRatePlanner$Settings;", true)
  | 2 => ("RatePlanner$Maker", "layout", "LRatePlanner$Layout;", true)
  | 3 => ("RatePlanner$Maker", "course", "LRatePlanner$Course;", true)
  | _ => ("RatePlanner$Maker", "shares", "[I", true)
abbrev cX4_init : ByteArray := prog_6_method_1_code
def yX4_init : MethodName := ⟨RX4, "<init>", "(LRatePlanner$Model;LRatePlanner$Course;)V"⟩
abbrev cX4_planConstant : ByteArray := prog_6_method_2_code
def yX4_planConstant : MethodName := ⟨RX4, "planConstant", "([II)V"⟩
abbrev cX4_planControlled : ByteArray := prog_6_method_3_code
def yX4_planControlled : MethodName := ⟨RX4, "planControlled", "([III)V"⟩
abbrev cX4_offsetOf : ByteArray := prog_6_method_4_code
def yX4_offsetOf : MethodName := ⟨RX4, "offsetOf", "(I)I"⟩
abbrev cX4_planDistributed : ByteArray := prog_6_method_5_code
def yX4_planDistributed : MethodName := ⟨RX4, "planDistributed", "([II)V"⟩
abbrev cX4_weighShares : ByteArray := prog_6_method_6_code
def yX4_weighShares : MethodName := ⟨RX4, "weighShares", "()J"⟩
abbrev cX4_leastWithin : ByteArray := prog_6_method_7_code
def yX4_leastWithin : MethodName := ⟨RX4, "leastWithin", "(IJ)I"⟩
abbrev cX4_rootOf : ByteArray := prog_6_method_8_code
def yX4_rootOf : MethodName := ⟨RX4, "rootOf", "(I)I"⟩
def RX5 : String := "RatePlanner$Mender"
def TX5 : u_T := fun k => match k with
  | 0 => ("RatePlanner$Mender", "model", "LRatePlanner$Model;", true)
  | 1 => ("RatePlanner$Mender", "settings", "LRatePlanner$Settings;", true)
  | 2 => ("RatePlanner$Mender", "layout", "LRatePlanner$Layout;", true)
  | 3 => ("RatePlanner$Mender", "course", "LRatePlanner$Course;", true)
  | 4 => ("RatePlanner$Mender", "trial", "[I", true)
  | 5 => ("RatePlanner$Mender", "nexts", "[I", true)
  | 6 => ("RatePlanner$Mender", "costs", "[J", true)
  | _ => ("RatePlanner$Mender", "gains", "[J", true)
abbrev cX5_init : ByteArray := prog_7_method_1_code
def yX5_init : MethodName := ⟨RX5, "<init>", "(LRatePlanner$Model;LRatePlanner$Course;)V"⟩
abbrev cX5_smoothen : ByteArray := prog_7_method_2_code
def yX5_smoothen : MethodName := ⟨RX5, "smoothen", "([II)I"⟩
abbrev cX5_mend : ByteArray := prog_7_method_3_code
def yX5_mend : MethodName := ⟨RX5, "mend", "([I)I"⟩
abbrev cX5_cheapestRaise : ByteArray := prog_7_method_4_code
def yX5_cheapestRaise : MethodName := ⟨RX5, "cheapestRaise", "(II)I"⟩
abbrev cX5_raise : ByteArray := prog_7_method_5_code
def yX5_raise : MethodName := ⟨RX5, "raise", "(I)V"⟩
abbrev cX5_weighRaise : ByteArray := prog_7_method_6_code
def yX5_weighRaise : MethodName := ⟨RX5, "weighRaise", "(I)V"⟩
abbrev cX5_nextOf : ByteArray := prog_7_method_7_code
def yX5_nextOf : MethodName := ⟨RX5, "nextOf", "(II)I"⟩
abbrev cX5_loosen : ByteArray := prog_7_method_8_code
def yX5_loosen : MethodName := ⟨RX5, "loosen", "([II)I"⟩
abbrev cX5_greatestGain : ByteArray := prog_7_method_9_code
def yX5_greatestGain : MethodName := ⟨RX5, "greatestGain", "()I"⟩
abbrev cX5_canLower : ByteArray := prog_7_method_10_code
def yX5_canLower : MethodName := ⟨RX5, "canLower", "([IIII)Z"⟩
abbrev cX5_lower : ByteArray := prog_7_method_11_code
def yX5_lower : MethodName := ⟨RX5, "lower", "([II)V"⟩
abbrev cX5_weighLowering : ByteArray := prog_7_method_12_code
def yX5_weighLowering : MethodName := ⟨RX5, "weighLowering", "([II)V"⟩
def RX6 : String := "RatePlanner$Model"
def TX6 : u_T := fun k => match k with
  | 0 => ("RatePlanner$Model", "layout", "LRatePlanner$Layout;", true)
  | 1 => ("RatePlanner$Model", "settings", "LRatePlanner$Settings;", true)
  | _ => ("RatePlanner$Model", "steps", "[I", true)
abbrev cX6_init : ByteArray := prog_8_method_1_code
def yX6_init : MethodName := ⟨RX6, "<init>", "(LRatePlanner$Layout;LRatePlanner$Settings;)V"⟩
abbrev cX6_bitsOf : ByteArray := prog_8_method_2_code
def yX6_bitsOf : MethodName := ⟨RX6, "bitsOf", "(II)I"⟩
abbrev cX6_lossOf : ByteArray := prog_8_method_3_code
def yX6_lossOf : MethodName := ⟨RX6, "lossOf", "(II)I"⟩
abbrev cX6_weightOf : ByteArray := prog_8_method_4_code
def yX6_weightOf : MethodName := ⟨RX6, "weightOf", "(I)I"⟩
def RX7 : String := "RatePlanner$Plan"
def TX7 : u_T := fun k => match k with
  | 0 => ("RatePlanner$Plan", "made", "Z", false)
  | _ => ("RatePlanner$Plan", "quantizers", "[I", true)
abbrev cX7_init : ByteArray := prog_9_method_1_code
def yX7_init : MethodName := ⟨RX7, "<init>", "()V"⟩
abbrev cX7_copyFrom : ByteArray := prog_9_method_2_code
def yX7_copyFrom : MethodName := ⟨RX7, "copyFrom", "(LRatePlanner$Plan;)V"⟩
def RX8 : String := "RatePlanner$Settings"
def TX8 : u_T := fun k => match k with
  | 0 => ("RatePlanner$Settings", "interval", "I", false)
  | 1 => ("RatePlanner$Settings", "bridges", "I", false)
  | 2 => ("RatePlanner$Settings", "least", "I", false)
  | 3 => ("RatePlanner$Settings", "greatest", "I", false)
  | 4 => ("RatePlanner$Settings", "size", "I", false)
  | 5 => ("RatePlanner$Settings", "start", "I", false)
  | 6 => ("RatePlanner$Settings", "rate", "I", false)
  | 7 => ("RatePlanner$Settings", "zones", "I", false)
  | 8 => ("RatePlanner$Settings", "weights", "[I", true)
  | 9 => ("RatePlanner$Settings", "zoneFirsts", "[I", true)
  | 10 => ("RatePlanner$Settings", "zoneLasts", "[I", true)
  | _ => ("RatePlanner$Settings", "zoneOffsets", "[I", true)
abbrev cX8_init : ByteArray := prog_10_method_1_code
def yX8_init : MethodName := ⟨RX8, "<init>", "()V"⟩
abbrev cX8_putZone : ByteArray := prog_10_method_2_code
def yX8_putZone : MethodName := ⟨RX8, "putZone", "(III)V"⟩
abbrev cX8_settle : ByteArray := prog_10_method_3_code
def yX8_settle : MethodName := ⟨RX8, "settle", "(II)I"⟩
abbrev cX8_copyFrom : ByteArray := prog_10_method_4_code
def yX8_copyFrom : MethodName := ⟨RX8, "copyFrom", "(LRatePlanner$Settings;)V"⟩
def RX9 : String := "RatePlanner$Slot"
def TX9 : u_T := fun k => match k with
  | 0 => ("RatePlanner$Slot", "used", "Z", false)
  | 1 => ("RatePlanner$Slot", "clip", "LRatePlanner$Clip;", true)
  | 2 => ("RatePlanner$Slot", "settings", "LRatePlanner$Settings;", true)
  | _ => ("RatePlanner$Slot", "plan", "LRatePlanner$Plan;", true)
abbrev cX9_init : ByteArray := prog_11_method_1_code
def yX9_init : MethodName := ⟨RX9, "<init>", "()V"⟩
def RX10 : String := "RatePlanner$Text"
def TX10 : u_T := fun k => match k with
  | 0 => ("RatePlanner$Text", "length", "I", false)
  | 1 => ("RatePlanner$Text", "read", "LRatePlanner$Clip;", true)
  | 2 => ("RatePlanner$Text", "letters", "[I", true)
  | 3 => ("RatePlanner$Text", "index", "I", false)
  | 4 => ("RatePlanner$Text", "number", "I", false)
  | _ => ("RatePlanner$Text", "fault", "I", false)
abbrev cX10_init : ByteArray := prog_12_method_1_code
def yX10_init : MethodName := ⟨RX10, "<init>", "()V"⟩
abbrev cX10_add : ByteArray := prog_12_method_2_code
def yX10_add : MethodName := ⟨RX10, "add", "(I)V"⟩
abbrev cX10_letterAt : ByteArray := prog_12_method_3_code
def yX10_letterAt : MethodName := ⟨RX10, "letterAt", "(I)I"⟩
abbrev cX10_readClip : ByteArray := prog_12_method_4_code
def yX10_readClip : MethodName := ⟨RX10, "readClip", "()I"⟩
abbrev cX10_readRun : ByteArray := prog_12_method_5_code
def yX10_readRun : MethodName := ⟨RX10, "readRun", "()Z"⟩
abbrev cX10_readSign : ByteArray := prog_12_method_6_code
def yX10_readSign : MethodName := ⟨RX10, "readSign", "(I)Z"⟩
abbrev cX10_readNumber : ByteArray := prog_12_method_7_code
def yX10_readNumber : MethodName := ⟨RX10, "readNumber", "(II)Z"⟩
abbrev cX10_skipBlanks : ByteArray := prog_12_method_8_code
def yX10_skipBlanks : MethodName := ⟨RX10, "skipBlanks", "()V"⟩
def RX11 : String := "RatePlanner"
def TX11 : u_T := fun k => match k with
  | 0 => ("RatePlanner", "clip", "LRatePlanner$Clip;", true)
  | 1 => ("RatePlanner", "settings", "LRatePlanner$Settings;", true)
  | 2 => ("RatePlanner", "plan", "LRatePlanner$Plan;", true)
  | 3 => ("RatePlanner", "text", "LRatePlanner$Text;", true)
  | 4 => ("RatePlanner", "layout", "LRatePlanner$Layout;", true)
  | 5 => ("RatePlanner", "model", "LRatePlanner$Model;", true)
  | 6 => ("RatePlanner", "course", "LRatePlanner$Course;", true)
  | 7 => ("RatePlanner", "maker", "LRatePlanner$Maker;", true)
  | 8 => ("RatePlanner", "mender", "LRatePlanner$Mender;", true)
  | 9 => ("RatePlanner", "finder", "LRatePlanner$Finder;", true)
  | 10 => ("RatePlanner", "firstSlot", "LRatePlanner$Slot;", true)
  | _ => ("RatePlanner", "secondSlot", "LRatePlanner$Slot;", true)
abbrev cX11_init : ByteArray := prog_1_method_1_code
def yX11_init : MethodName := ⟨RX11, "<init>", "()V"⟩
abbrev cX11_append : ByteArray := prog_1_method_2_code
def yX11_append : MethodName := ⟨RX11, "append", "(II)I"⟩
abbrev cX11_set : ByteArray := prog_1_method_3_code
def yX11_set : MethodName := ⟨RX11, "set", "(III)I"⟩
abbrev cX11_drop : ByteArray := prog_1_method_4_code
def yX11_drop : MethodName := ⟨RX11, "drop", "()I"⟩
abbrev cX11_type : ByteArray := prog_1_method_5_code
def yX11_type : MethodName := ⟨RX11, "type", "(I)I"⟩
abbrev cX11_clear : ByteArray := prog_1_method_6_code
def yX11_clear : MethodName := ⟨RX11, "clear", "()I"⟩
abbrev cX11_load : ByteArray := prog_1_method_7_code
def yX11_load : MethodName := ⟨RX11, "load", "()I"⟩
abbrev cX11_frame : ByteArray := prog_1_method_8_code
def yX11_frame : MethodName := ⟨RX11, "frame", "(II)I"⟩
abbrev cX11_coded : ByteArray := prog_1_method_9_code
def yX11_coded : MethodName := ⟨RX11, "coded", "(I)I"⟩
abbrev cX11_setInterval : ByteArray := prog_1_method_10_code
def yX11_setInterval : MethodName := ⟨RX11, "setInterval", "(I)I"⟩
abbrev cX11_setBridges : ByteArray := prog_1_method_11_code
def yX11_setBridges : MethodName := ⟨RX11, "setBridges", "(I)I"⟩
abbrev cX11_setWeight : ByteArray := prog_1_method_12_code
def yX11_setWeight : MethodName := ⟨RX11, "setWeight", "(II)I"⟩
abbrev cX11_setRange : ByteArray := prog_1_method_13_code
def yX11_setRange : MethodName := ⟨RX11, "setRange", "(II)I"⟩
abbrev cX11_setBuffer : ByteArray := prog_1_method_14_code
def yX11_setBuffer : MethodName := ⟨RX11, "setBuffer", "(II)I"⟩
abbrev cX11_setRate : ByteArray := prog_1_method_15_code
def yX11_setRate : MethodName := ⟨RX11, "setRate", "(I)I"⟩
abbrev cX11_addZone : ByteArray := prog_1_method_16_code
def yX11_addZone : MethodName := ⟨RX11, "addZone", "(III)I"⟩
abbrev cX11_clearZones : ByteArray := prog_1_method_17_code
def yX11_clearZones : MethodName := ⟨RX11, "clearZones", "()I"⟩
abbrev cX11_bitsAt : ByteArray := prog_1_method_18_code
def yX11_bitsAt : MethodName := ⟨RX11, "bitsAt", "(II)I"⟩
abbrev cX11_lossAt : ByteArray := prog_1_method_19_code
def yX11_lossAt : MethodName := ⟨RX11, "lossAt", "(II)I"⟩
abbrev cX11_constant : ByteArray := prog_1_method_20_code
def yX11_constant : MethodName := ⟨RX11, "constant", "(I)I"⟩
abbrev cX11_control : ByteArray := prog_1_method_21_code
def yX11_control : MethodName := ⟨RX11, "control", "(II)I"⟩
abbrev cX11_distribute : ByteArray := prog_1_method_22_code
def yX11_distribute : MethodName := ⟨RX11, "distribute", "(I)I"⟩
abbrev cX11_smooth : ByteArray := prog_1_method_23_code
def yX11_smooth : MethodName := ⟨RX11, "smooth", "(I)I"⟩
abbrev cX11_repair : ByteArray := prog_1_method_24_code
def yX11_repair : MethodName := ⟨RX11, "repair", "()I"⟩
abbrev cX11_relax : ByteArray := prog_1_method_25_code
def yX11_relax : MethodName := ⟨RX11, "relax", "(I)I"⟩
abbrev cX11_adjust : ByteArray := prog_1_method_26_code
def yX11_adjust : MethodName := ⟨RX11, "adjust", "(II)I"⟩
abbrev cX11_planned : ByteArray := prog_1_method_27_code
def yX11_planned : MethodName := ⟨RX11, "planned", "(II)I"⟩
abbrev cX11_total : ByteArray := prog_1_method_28_code
def yX11_total : MethodName := ⟨RX11, "total", "(I)J"⟩
abbrev cX11_scene : ByteArray := prog_1_method_29_code
def yX11_scene : MethodName := ⟨RX11, "scene", "(II)I"⟩
abbrev cX11_leastSize : ByteArray := prog_1_method_30_code
def yX11_leastSize : MethodName := ⟨RX11, "leastSize", "()I"⟩
abbrev cX11_leastStart : ByteArray := prog_1_method_31_code
def yX11_leastStart : MethodName := ⟨RX11, "leastStart", "()I"⟩
abbrev cX11_leastRate : ByteArray := prog_1_method_32_code
def yX11_leastRate : MethodName := ⟨RX11, "leastRate", "()I"⟩
abbrev cX11_bestConstant : ByteArray := prog_1_method_33_code
def yX11_bestConstant : MethodName := ⟨RX11, "bestConstant", "()I"⟩
abbrev cX11_demand : ByteArray := prog_1_method_34_code
def yX11_demand : MethodName := ⟨RX11, "demand", "(II)I"⟩
abbrev cX11_save : ByteArray := prog_1_method_35_code
def yX11_save : MethodName := ⟨RX11, "save", "(I)I"⟩
abbrev cX11_restore : ByteArray := prog_1_method_36_code
def yX11_restore : MethodName := ⟨RX11, "restore", "(I)I"⟩
abbrev cX11_count : ByteArray := prog_1_method_37_code
def yX11_count : MethodName := ⟨RX11, "count", "(I)I"⟩
abbrev cX11_digest : ByteArray := prog_1_method_38_code
def yX11_digest : MethodName := ⟨RX11, "digest", "()J"⟩
abbrev cX11_hashFrame : ByteArray := prog_1_method_39_code
def yX11_hashFrame : MethodName := ⟨RX11, "hashFrame", "(JI)J"⟩
abbrev cX11_arrangeAnew : ByteArray := prog_1_method_40_code
def yX11_arrangeAnew : MethodName := ⟨RX11, "arrangeAnew", "()V"⟩
abbrev cX11_underflowsOfNewPlan : ByteArray := prog_1_method_41_code
def yX11_underflowsOfNewPlan : MethodName := ⟨RX11, "underflowsOfNewPlan", "()I"⟩
abbrev cX11_followedFrame : ByteArray := prog_1_method_42_code
def yX11_followedFrame : MethodName := ⟨RX11, "followedFrame", "(II)I"⟩
abbrev cX11_followedTotal : ByteArray := prog_1_method_43_code
def yX11_followedTotal : MethodName := ⟨RX11, "followedTotal", "(I)J"⟩
abbrev cX11_changesOfPlan : ByteArray := prog_1_method_44_code
def yX11_changesOfPlan : MethodName := ⟨RX11, "changesOfPlan", "()J"⟩
abbrev cX11_bitsOfScene : ByteArray := prog_1_method_45_code
def yX11_bitsOfScene : MethodName := ⟨RX11, "bitsOfScene", "(I)I"⟩
abbrev cX11_meanOfScene : ByteArray := prog_1_method_46_code
def yX11_meanOfScene : MethodName := ⟨RX11, "meanOfScene", "(I)I"⟩
abbrev cX11_isFrame : ByteArray := prog_1_method_47_code
def yX11_isFrame : MethodName := ⟨RX11, "isFrame", "(I)Z"⟩
abbrev cX11_isPicture : ByteArray := prog_1_method_48_code
def yX11_isPicture : MethodName := ⟨RX11, "isPicture", "(II)Z"⟩
abbrev cX11_isQuantizer : ByteArray := prog_1_method_49_code
def yX11_isQuantizer : MethodName := ⟨RX11, "isQuantizer", "(I)Z"⟩
abbrev cX11_within : ByteArray := prog_1_method_50_code
def yX11_within : MethodName := ⟨RX11, "within", "(III)Z"⟩
abbrev cX11_limit : ByteArray := prog_1_method_51_code
def yX11_limit : MethodName := ⟨RX11, "limit", "(III)I"⟩
abbrev cX11_at : ByteArray := prog_1_method_52_code
def yX11_at : MethodName := ⟨RX11, "at", "([II)I"⟩
abbrev cX11_at_ : ByteArray := prog_1_method_53_code
def yX11_at_ : MethodName := ⟨RX11, "at", "([JI)J"⟩
abbrev cX11_put : ByteArray := prog_1_method_54_code
def yX11_put : MethodName := ⟨RX11, "put", "([III)V"⟩
abbrev cX11_put_ : ByteArray := prog_1_method_55_code
def yX11_put_ : MethodName := ⟨RX11, "put", "([JIJ)V"⟩
abbrev cX11_copyRow : ByteArray := prog_1_method_56_code
def yX11_copyRow : MethodName := ⟨RX11, "copyRow", "([I[I)V"⟩
abbrev cX11_ratio : ByteArray := prog_1_method_57_code
def yX11_ratio : MethodName := ⟨RX11, "ratio", "(JJ)J"⟩
def RX12 : String := "RatePlannerModel"
def TX12 : u_T := fun k => match k with
  | 0 => ("RatePlannerModel", "m", "[I", true)
  | 1 => ("RatePlannerModel", "saved", "[I", true)
  | 2 => ("RatePlannerModel", "isSaved", "[I", true)
  | 3 => ("RatePlannerModel", "type", "[I", true)
  | 4 => ("RatePlannerModel", "sceneOf", "[I", true)
  | 5 => ("RatePlannerModel", "from", "[I", true)
  | 6 => ("RatePlannerModel", "place", "[I", true)
  | 7 => ("RatePlannerModel", "at", "[I", true)
  | 8 => ("RatePlannerModel", "scenes", "I", false)
  | 9 => ("RatePlannerModel", "groups", "I", false)
  | 10 => ("RatePlannerModel", "before", "[I", true)
  | 11 => ("RatePlannerModel", "behind", "[I", true)
  | 12 => ("RatePlannerModel", "lack", "[I", true)
  | 13 => ("RatePlannerModel", "stuffed", "[I", true)
  | 14 => ("RatePlannerModel", "underflows", "I", false)
  | 15 => ("RatePlannerModel", "text", "[I", true)
  | 16 => ("RatePlannerModel", "length", "I", false)
  | 17 => ("RatePlannerModel", "next", "I", false)
  | 18 => ("RatePlannerModel", "fault", "I", false)
  | 19 => ("RatePlannerModel", "readTexture", "[I", true)
  | 20 => ("RatePlannerModel", "readMotion", "[I", true)
  | 21 => ("RatePlannerModel", "reads", "I", false)
  | 22 => ("RatePlannerModel", "old", "[I", true)
  | _ => ("RatePlannerModel", "hash", "J", false)
abbrev cX12_init : ByteArray := prog_14_method_1_code
def yX12_init : MethodName := ⟨RX12, "<init>", "()V"⟩
abbrev cX12_in : ByteArray := prog_14_method_2_code
def yX12_in : MethodName := ⟨RX12, "in", "(III)Z"⟩
abbrev cX12_limited : ByteArray := prog_14_method_3_code
def yX12_limited : MethodName := ⟨RX12, "limited", "(III)I"⟩
abbrev cX12_isFrame : ByteArray := prog_14_method_4_code
def yX12_isFrame : MethodName := ⟨RX12, "isFrame", "(I)Z"⟩
abbrev cX12_isCut : ByteArray := prog_14_method_5_code
def yX12_isCut : MethodName := ⟨RX12, "isCut", "(I)Z"⟩
abbrev cX12_findsIntra : ByteArray := prog_14_method_6_code
def yX12_findsIntra : MethodName := ⟨RX12, "findsIntra", "()V"⟩
abbrev cX12_groupSize : ByteArray := prog_14_method_7_code
def yX12_groupSize : MethodName := ⟨RX12, "groupSize", "(I)I"⟩
abbrev cX12_findsTypes : ByteArray := prog_14_method_8_code
def yX12_findsTypes : MethodName := ⟨RX12, "findsTypes", "()V"⟩
abbrev cX12_step : ByteArray := prog_14_method_9_code
def yX12_step : MethodName := ⟨RX12, "step", "(I)I"⟩
abbrev cX12_work : ByteArray := prog_14_method_10_code
def yX12_work : MethodName := ⟨RX12, "work", "(I)I"⟩
abbrev cX12_bits : ByteArray := prog_14_method_11_code
def yX12_bits : MethodName := ⟨RX12, "bits", "(II)I"⟩
abbrev cX12_weight : ByteArray := prog_14_method_12_code
def yX12_weight : MethodName := ⟨RX12, "weight", "(I)I"⟩
abbrev cX12_loss : ByteArray := prog_14_method_13_code
def yX12_loss : MethodName := ⟨RX12, "loss", "(II)I"⟩
abbrev cX12_settled : ByteArray := prog_14_method_14_code
def yX12_settled : MethodName := ⟨RX12, "settled", "(II)I"⟩
abbrev cX12_passes : ByteArray := prog_14_method_15_code
def yX12_passes : MethodName := ⟨RX12, "passes", "(IIII)V"⟩
abbrev cX12_runs : ByteArray := prog_14_method_16_code
def yX12_runs : MethodName := ⟨RX12, "runs", "(III)V"⟩
abbrev cX12_runsAsSet : ByteArray := prog_14_method_17_code
def yX12_runsAsSet : MethodName := ⟨RX12, "runsAsSet", "()V"⟩
abbrev cX12_underflowsNow : ByteArray := prog_14_method_18_code
def yX12_underflowsNow : MethodName := ⟨RX12, "underflowsNow", "()I"⟩
abbrev cX12_forgets : ByteArray := prog_14_method_19_code
def yX12_forgets : MethodName := ⟨RX12, "forgets", "()V"⟩
abbrev cX12_append : ByteArray := prog_14_method_20_code
def yX12_append : MethodName := ⟨RX12, "append", "(II)I"⟩
abbrev cX12_set : ByteArray := prog_14_method_21_code
def yX12_set : MethodName := ⟨RX12, "set", "(III)I"⟩
abbrev cX12_drop : ByteArray := prog_14_method_22_code
def yX12_drop : MethodName := ⟨RX12, "drop", "()I"⟩
abbrev cX12_type : ByteArray := prog_14_method_23_code
def yX12_type : MethodName := ⟨RX12, "type", "(I)I"⟩
abbrev cX12_clear : ByteArray := prog_14_method_24_code
def yX12_clear : MethodName := ⟨RX12, "clear", "()I"⟩
abbrev cX12_byteAt : ByteArray := prog_14_method_25_code
def yX12_byteAt : MethodName := ⟨RX12, "byteAt", "(I)I"⟩
abbrev cX12_skips : ByteArray := prog_14_method_26_code
def yX12_skips : MethodName := ⟨RX12, "skips", "()V"⟩
abbrev cX12_fails : ByteArray := prog_14_method_27_code
def yX12_fails : MethodName := ⟨RX12, "fails", "(I)V"⟩
abbrev cX12_reads1 : ByteArray := prog_14_method_28_code
def yX12_reads1 : MethodName := ⟨RX12, "reads1", "(II)I"⟩
abbrev cX12_readsRun : ByteArray := prog_14_method_29_code
def yX12_readsRun : MethodName := ⟨RX12, "readsRun", "()V"⟩
abbrev cX12_readsAll : ByteArray := prog_14_method_30_code
def yX12_readsAll : MethodName := ⟨RX12, "readsAll", "()V"⟩
abbrev cX12_load : ByteArray := prog_14_method_31_code
def yX12_load : MethodName := ⟨RX12, "load", "()I"⟩
abbrev cX12_frame : ByteArray := prog_14_method_32_code
def yX12_frame : MethodName := ⟨RX12, "frame", "(II)I"⟩
abbrev cX12_coded : ByteArray := prog_14_method_33_code
def yX12_coded : MethodName := ⟨RX12, "coded", "(I)I"⟩
abbrev cX12_sets : ByteArray := prog_14_method_34_code
def yX12_sets : MethodName := ⟨RX12, "sets", "(II)I"⟩
abbrev cX12_setInterval : ByteArray := prog_14_method_35_code
def yX12_setInterval : MethodName := ⟨RX12, "setInterval", "(I)I"⟩
abbrev cX12_setBridges : ByteArray := prog_14_method_36_code
def yX12_setBridges : MethodName := ⟨RX12, "setBridges", "(I)I"⟩
abbrev cX12_setWeight : ByteArray := prog_14_method_37_code
def yX12_setWeight : MethodName := ⟨RX12, "setWeight", "(II)I"⟩
abbrev cX12_setRange : ByteArray := prog_14_method_38_code
def yX12_setRange : MethodName := ⟨RX12, "setRange", "(II)I"⟩
abbrev cX12_setBuffer : ByteArray := prog_14_method_39_code
def yX12_setBuffer : MethodName := ⟨RX12, "setBuffer", "(II)I"⟩
abbrev cX12_setRate : ByteArray := prog_14_method_40_code
def yX12_setRate : MethodName := ⟨RX12, "setRate", "(I)I"⟩
abbrev cX12_addZone : ByteArray := prog_14_method_41_code
def yX12_addZone : MethodName := ⟨RX12, "addZone", "(III)I"⟩
abbrev cX12_clearZones : ByteArray := prog_14_method_42_code
def yX12_clearZones : MethodName := ⟨RX12, "clearZones", "()I"⟩
abbrev cX12_bitsAt : ByteArray := prog_14_method_43_code
def yX12_bitsAt : MethodName := ⟨RX12, "bitsAt", "(II)I"⟩
abbrev cX12_lossAt : ByteArray := prog_14_method_44_code
def yX12_lossAt : MethodName := ⟨RX12, "lossAt", "(II)I"⟩
abbrev cX12_byType : ByteArray := prog_14_method_45_code
def yX12_byType : MethodName := ⟨RX12, "byType", "(I)I"⟩
abbrev cX12_plansConstant : ByteArray := prog_14_method_46_code
def yX12_plansConstant : MethodName := ⟨RX12, "plansConstant", "(I)V"⟩
abbrev cX12_constant : ByteArray := prog_14_method_47_code
def yX12_constant : MethodName := ⟨RX12, "constant", "(I)I"⟩
abbrev cX12_control : ByteArray := prog_14_method_48_code
def yX12_control : MethodName := ⟨RX12, "control", "(II)I"⟩
abbrev cX12_root : ByteArray := prog_14_method_49_code
def yX12_root : MethodName := ⟨RX12, "root", "(I)I"⟩
abbrev cX12_share : ByteArray := prog_14_method_50_code
def yX12_share : MethodName := ⟨RX12, "share", "(I)I"⟩
abbrev cX12_leastWithin : ByteArray := prog_14_method_51_code
def yX12_leastWithin : MethodName := ⟨RX12, "leastWithin", "(IJ)I"⟩
abbrev cX12_distribute : ByteArray := prog_14_method_52_code
def yX12_distribute : MethodName := ⟨RX12, "distribute", "(I)I"⟩
abbrev cX12_smooth : ByteArray := prog_14_method_53_code
def yX12_smooth : MethodName := ⟨RX12, "smooth", "(I)I"⟩
abbrev cX12_nextQuantizer : ByteArray := prog_14_method_54_code
def yX12_nextQuantizer : MethodName := ⟨RX12, "nextQuantizer", "(I)I"⟩
abbrev cX12_costOf : ByteArray := prog_14_method_55_code
def yX12_costOf : MethodName := ⟨RX12, "costOf", "(II)J"⟩
abbrev cX12_cheapest : ByteArray := prog_14_method_56_code
def yX12_cheapest : MethodName := ⟨RX12, "cheapest", "(II)I"⟩
abbrev cX12_firstUnderflow : ByteArray := prog_14_method_57_code
def yX12_firstUnderflow : MethodName := ⟨RX12, "firstUnderflow", "()I"⟩
abbrev cX12_repair : ByteArray := prog_14_method_58_code
def yX12_repair : MethodName := ⟨RX12, "repair", "()I"⟩
abbrev cX12_allBits : ByteArray := prog_14_method_59_code
def yX12_allBits : MethodName := ⟨RX12, "allBits", "()J"⟩
abbrev cX12_gainOf : ByteArray := prog_14_method_60_code
def yX12_gainOf : MethodName := ⟨RX12, "gainOf", "(IJI)J"⟩
abbrev cX12_relax : ByteArray := prog_14_method_61_code
def yX12_relax : MethodName := ⟨RX12, "relax", "(I)I"⟩
abbrev cX12_adjust : ByteArray := prog_14_method_62_code
def yX12_adjust : MethodName := ⟨RX12, "adjust", "(II)I"⟩
abbrev cX12_part : ByteArray := prog_14_method_63_code
def yX12_part : MethodName := ⟨RX12, "part", "(II)I"⟩
abbrev cX12_planned : ByteArray := prog_14_method_64_code
def yX12_planned : MethodName := ⟨RX12, "planned", "(II)I"⟩
abbrev cX12_change : ByteArray := prog_14_method_65_code
def yX12_change : MethodName := ⟨RX12, "change", "(I)I"⟩
abbrev cX12_sumOf : ByteArray := prog_14_method_66_code
def yX12_sumOf : MethodName := ⟨RX12, "sumOf", "(I)J"⟩
abbrev cX12_total : ByteArray := prog_14_method_67_code
def yX12_total : MethodName := ⟨RX12, "total", "(I)J"⟩
abbrev cX12_scene : ByteArray := prog_14_method_68_code
def yX12_scene : MethodName := ⟨RX12, "scene", "(II)I"⟩
abbrev cX12_isDry : ByteArray := prog_14_method_69_code
def yX12_isDry : MethodName := ⟨RX12, "isDry", "(III)Z"⟩
abbrev cX12_leastSize : ByteArray := prog_14_method_70_code
def yX12_leastSize : MethodName := ⟨RX12, "leastSize", "()I"⟩
abbrev cX12_leastStart : ByteArray := prog_14_method_71_code
def yX12_leastStart : MethodName := ⟨RX12, "leastStart", "()I"⟩
abbrev cX12_leastRate : ByteArray := prog_14_method_72_code
def yX12_leastRate : MethodName := ⟨RX12, "leastRate", "()I"⟩
abbrev cX12_bestConstant : ByteArray := prog_14_method_73_code
def yX12_bestConstant : MethodName := ⟨RX12, "bestConstant", "()I"⟩
abbrev cX12_demand : ByteArray := prog_14_method_74_code
def yX12_demand : MethodName := ⟨RX12, "demand", "(II)I"⟩
abbrev cX12_save : ByteArray := prog_14_method_75_code
def yX12_save : MethodName := ⟨RX12, "save", "(I)I"⟩
abbrev cX12_restore : ByteArray := prog_14_method_76_code
def yX12_restore : MethodName := ⟨RX12, "restore", "(I)I"⟩
abbrev cX12_counted : ByteArray := prog_14_method_77_code
def yX12_counted : MethodName := ⟨RX12, "counted", "(I)I"⟩
abbrev cX12_count : ByteArray := prog_14_method_78_code
def yX12_count : MethodName := ⟨RX12, "count", "(I)I"⟩
abbrev cX12_mixes : ByteArray := prog_14_method_79_code
def yX12_mixes : MethodName := ⟨RX12, "mixes", "(J)V"⟩
abbrev cX12_digest : ByteArray := prog_14_method_80_code
def yX12_digest : MethodName := ⟨RX12, "digest", "()J"⟩
def RL : String := "RatePlannerLaw"
abbrev cL_law : ByteArray := code
abbrev vwCl : List vw_C := [(RX0, TX0, 3), (RX1, TX1, 10), (RX2, TX2, 5), (RX3, TX3, 10), (RX4, TX4, 5), (RX5, TX5, 8), (RX6, TX6, 3), (RX7, TX7, 2), (RX8, TX8, 12), (RX9, TX9, 4), (RX10, TX10, 6), (RX11, TX11, 12), (RX12, TX12, 24)]
/-! the methods: name, code, locals, result, class, static?, and where the tables speak of them -/
abbrev zMr : Type := MethodName × ByteArray × Nat × Option FieldType × Nat × Bool × Nat × Nat × Nat × Nat
def zMt0 : List zMr := [(yX0_init, cX0_init, 1, none, 0, false, 97, 96, 0, 71), (yX0_add, cX0_add, 3, none, 0, false, 519, 517, 518, 71), (yX0_isCut, cX0_isCut, 2, some .boolean, 0, false, 538, 536, 537, 71), (yX0_copyFrom, cX0_copyFrom, 2, none, 0, false, 629, 627, 628, 71), (yX1_init, cX1_init, 2, none, 1, false, 322, 321, 0, 77), (yX1_follow, cX1_follow, 2, none, 1, false, 746, 744, 745, 77), (yX1_takeBits, cX1_takeBits, 4, none, 1, false, 750, 748, 749, 77), (yX1_passAsSet, cX1_passAsSet, 1, none, 1, false, 757, 755, 756, 77), (yX1_pass, cX1_pass, 5, none, 1, false, 761, 759, 760, 77), (yX1_begin, cX1_begin, 4, none, 1, false, 765, 763, 764, 77), (yX1_fillBefore, cX1_fillBefore, 3, some .int, 1, false, 769, 767, 768, 77), (yX1_takeOut, cX1_takeOut, 4, none, 1, false, 774, 772, 773, 77), (yX1_firstUnderflow, cX1_firstUnderflow, 2, some .int, 1, false, 851, 849, 850, 77), (yX1_lastFullNotBehind, cX1_lastFullNotBehind, 3, some .int, 1, false, 855, 853, 854, 77), (yX1_sumOfBits, cX1_sumOfBits, 3, some .int, 1, false, 893, 891, 892, 77), (yX2_init, cX2_init, 4, none, 2, false, 423, 422, 0, 80), (yX2_findSize, cX2_findSize, 2, some .int, 2, false, 959, 957, 958, 80), (yX2_findStart, cX2_findStart, 2, some .int, 2, false, 978, 976, 977, 80), (yX2_findRate, cX2_findRate, 2, some .int, 2, false, 986, 984, 985, 80), (yX2_findLeast, cX2_findLeast, 9, some .int, 2, false, 964, 963, 29, 80), (yX2_suffices, cX2_suffices, 6, some .boolean, 2, false, 969, 968, 30, 80), (yX2_findConstant, cX2_findConstant, 2, some .int, 2, false, 995, 993, 994, 80), (yX2_findDemand, cX2_findDemand, 7, some .int, 2, false, 1005, 1003, 1004, 80), (yX3_init, cX3_init, 1, none, 3, false, 234, 233, 0, 75)]
def zMt1 : List zMr := [(yX3_arrange, cX3_arrange, 3, none, 3, false, 530, 528, 529, 75), (yX3_findStarts, cX3_findStarts, 6, none, 3, false, 534, 533, 1, 75), (yX3_measureGroups, cX3_measureGroups, 4, none, 3, false, 544, 543, 2, 75), (yX3_chooseTypes, cX3_chooseTypes, 5, none, 3, false, 549, 548, 3, 75), (yX3_isMultiple, cX3_isMultiple, 2, some .boolean, 3, true, 552, 551, 0, 75), (yX3_putInOrder, cX3_putInOrder, 5, none, 3, false, 556, 555, 4, 75), (yX3_putAt, cX3_putAt, 3, none, 3, false, 560, 559, 5, 75), (yX3_weighWorks, cX3_weighWorks, 3, none, 3, false, 564, 563, 6, 75), (yX3_workOf, cX3_workOf, 3, some .int, 3, true, 567, 566, 0, 75), (yX3_firstOfScene, cX3_firstOfScene, 3, some .int, 3, false, 934, 932, 933, 75), (yX3_framesOfScene, cX3_framesOfScene, 4, some .int, 3, false, 938, 936, 937, 75), (yX3_groupsOfScene, cX3_groupsOfScene, 4, some .int, 3, false, 951, 949, 950, 75), (yX4_init, cX4_init, 3, none, 4, false, 369, 368, 0, 78), (yX4_planConstant, cX4_planConstant, 4, none, 4, false, 720, 718, 719, 78), (yX4_planControlled, cX4_planControlled, 10, none, 4, false, 783, 781, 782, 78), (yX4_offsetOf, cX4_offsetOf, 2, some .int, 4, false, 724, 723, 12, 78), (yX4_planDistributed, cX4_planDistributed, 10, none, 4, false, 797, 795, 796, 78), (yX4_weighShares, cX4_weighShares, 5, some .long, 4, false, 801, 800, 14, 78), (yX4_leastWithin, cX4_leastWithin, 5, some .int, 4, false, 810, 809, 15, 78), (yX4_rootOf, cX4_rootOf, 3, some .int, 4, true, 805, 804, 0, 78), (yX5_init, cX5_init, 3, none, 5, false, 391, 390, 0, 79), (yX5_smoothen, cX5_smoothen, 9, some .int, 5, false, 818, 816, 817, 79), (yX5_mend, cX5_mend, 5, some .int, 5, false, 829, 827, 828, 79), (yX5_cheapestRaise, cX5_cheapestRaise, 6, some .int, 5, false, 859, 858, 18, 79)]
def zMt2 : List zMr := [(yX5_raise, cX5_raise, 4, none, 5, false, 866, 865, 19, 79), (yX5_weighRaise, cX5_weighRaise, 9, none, 5, false, 835, 834, 16, 79), (yX5_nextOf, cX5_nextOf, 5, some .int, 5, false, 839, 838, 17, 79), (yX5_loosen, cX5_loosen, 7, some .int, 5, false, 874, 872, 873, 79), (yX5_greatestGain, cX5_greatestGain, 4, some .int, 5, false, 885, 884, 21, 79), (yX5_canLower, cX5_canLower, 8, some .boolean, 5, false, 889, 888, 22, 79), (yX5_lower, cX5_lower, 5, none, 5, false, 897, 896, 23, 79), (yX5_weighLowering, cX5_weighLowering, 9, none, 5, false, 879, 878, 20, 79), (yX6_init, cX6_init, 4, none, 6, false, 293, 292, 0, 76), (yX6_bitsOf, cX6_bitsOf, 3, some .int, 6, false, 697, 695, 696, 76), (yX6_lossOf, cX6_lossOf, 5, some .int, 6, false, 708, 706, 707, 76), (yX6_weightOf, cX6_weightOf, 2, some .int, 6, false, 712, 710, 711, 76), (yX7_init, cX7_init, 1, none, 7, false, 190, 189, 0, 73), (yX7_copyFrom, cX7_copyFrom, 2, none, 7, false, 1020, 1018, 1019, 73), (yX8_init, cX8_init, 2, none, 8, false, 121, 120, 0, 72), (yX8_putZone, cX8_putZone, 4, none, 8, false, 684, 682, 683, 72), (yX8_settle, cX8_settle, 5, some .int, 8, false, 729, 727, 728, 72), (yX8_copyFrom, cX8_copyFrom, 2, none, 8, false, 1015, 1013, 1014, 72), (yX9_init, cX9_init, 1, none, 9, false, 445, 444, 0, 81), (yX10_init, cX10_init, 1, none, 10, false, 205, 204, 0, 74), (yX10_add, cX10_add, 2, none, 10, false, 589, 587, 588, 74), (yX10_letterAt, cX10_letterAt, 2, some .int, 10, false, 610, 608, 609, 74), (yX10_readClip, cX10_readClip, 2, some .int, 10, false, 602, 600, 601, 74), (yX10_readRun, cX10_readRun, 5, some .boolean, 10, false, 615, 614, 9, 74)]
def zMt3 : List zMr := [(yX10_readSign, cX10_readSign, 2, some .boolean, 10, false, 624, 623, 11, 74), (yX10_readNumber, cX10_readNumber, 4, some .boolean, 10, false, 619, 618, 10, 74), (yX10_skipBlanks, cX10_skipBlanks, 1, none, 10, false, 606, 605, 8, 74), (yX11_init, cX11_init, 1, none, 11, false, 89, 88, 0, 70), (yX11_append, cX11_append, 3, some .int, 11, false, 509, 507, 508, 70), (yX11_set, cX11_set, 4, some .int, 11, false, 571, 569, 570, 70), (yX11_drop, cX11_drop, 1, some .int, 11, false, 581, 579, 580, 70), (yX11_type, cX11_type, 2, some .int, 11, false, 585, 583, 584, 70), (yX11_clear, cX11_clear, 2, some .int, 11, false, 594, 592, 593, 70), (yX11_load, cX11_load, 2, some .int, 11, false, 598, 596, 597, 70), (yX11_frame, cX11_frame, 3, some .int, 11, false, 642, 640, 641, 70), (yX11_coded, cX11_coded, 2, some .int, 11, false, 647, 645, 646, 70), (yX11_setInterval, cX11_setInterval, 3, some .int, 11, false, 651, 649, 650, 70), (yX11_setBridges, cX11_setBridges, 3, some .int, 11, false, 655, 653, 654, 70), (yX11_setWeight, cX11_setWeight, 4, some .int, 11, false, 659, 657, 658, 70), (yX11_setRange, cX11_setRange, 4, some .int, 11, false, 663, 661, 662, 70), (yX11_setBuffer, cX11_setBuffer, 4, some .int, 11, false, 670, 668, 669, 70), (yX11_setRate, cX11_setRate, 3, some .int, 11, false, 675, 673, 674, 70), (yX11_addZone, cX11_addZone, 4, some .int, 11, false, 680, 678, 679, 70), (yX11_clearZones, cX11_clearZones, 2, some .int, 11, false, 689, 687, 688, 70), (yX11_bitsAt, cX11_bitsAt, 3, some .int, 11, false, 693, 691, 692, 70), (yX11_lossAt, cX11_lossAt, 3, some .int, 11, false, 704, 702, 703, 70), (yX11_constant, cX11_constant, 2, some .int, 11, false, 716, 714, 715, 70), (yX11_control, cX11_control, 3, some .int, 11, false, 779, 777, 778, 70)]
def zMt4 : List zMr := [(yX11_distribute, cX11_distribute, 2, some .int, 11, false, 792, 790, 791, 70), (yX11_smooth, cX11_smooth, 2, some .int, 11, false, 814, 812, 813, 70), (yX11_repair, cX11_repair, 1, some .int, 11, false, 825, 823, 824, 70), (yX11_relax, cX11_relax, 2, some .int, 11, false, 870, 868, 869, 70), (yX11_adjust, cX11_adjust, 4, some .int, 11, false, 901, 899, 900, 70), (yX11_planned, cX11_planned, 3, some .int, 11, false, 905, 903, 904, 70), (yX11_total, cX11_total, 2, some .long, 11, false, 913, 911, 912, 70), (yX11_scene, cX11_scene, 3, some .int, 11, false, 930, 928, 929, 70), (yX11_leastSize, cX11_leastSize, 1, some .int, 11, false, 955, 953, 954, 70), (yX11_leastStart, cX11_leastStart, 1, some .int, 11, false, 974, 972, 973, 70), (yX11_leastRate, cX11_leastRate, 1, some .int, 11, false, 982, 980, 981, 70), (yX11_bestConstant, cX11_bestConstant, 1, some .int, 11, false, 991, 989, 990, 70), (yX11_demand, cX11_demand, 3, some .int, 11, false, 1001, 999, 1000, 70), (yX11_save, cX11_save, 3, some .int, 11, false, 1011, 1009, 1010, 70), (yX11_restore, cX11_restore, 3, some .int, 11, false, 1025, 1023, 1024, 70), (yX11_count, cX11_count, 2, some .int, 11, false, 1029, 1027, 1028, 70), (yX11_digest, cX11_digest, 5, some .long, 11, false, 1033, 1031, 1032, 70), (yX11_hashFrame, cX11_hashFrame, 7, some .long, 11, false, 1040, 1039, 31, 70), (yX11_arrangeAnew, cX11_arrangeAnew, 1, none, 11, false, 526, 525, 0, 70), (yX11_underflowsOfNewPlan, cX11_underflowsOfNewPlan, 1, some .int, 11, false, 742, 741, 13, 70), (yX11_followedFrame, cX11_followedFrame, 5, some .int, 11, false, 909, 908, 24, 70), (yX11_followedTotal, cX11_followedTotal, 5, some .long, 11, false, 919, 918, 25, 70), (yX11_changesOfPlan, cX11_changesOfPlan, 5, some .long, 11, false, 923, 922, 26, 70), (yX11_bitsOfScene, cX11_bitsOfScene, 4, some .int, 11, false, 942, 941, 27, 70)]
def zMt5 : List zMr := [(yX11_meanOfScene, cX11_meanOfScene, 4, some .int, 11, false, 946, 945, 28, 70), (yX11_isFrame, cX11_isFrame, 2, some .boolean, 11, false, 575, 574, 7, 70), (yX11_isPicture, cX11_isPicture, 2, some .boolean, 11, true, 512, 511, 0, 70), (yX11_isQuantizer, cX11_isQuantizer, 1, some .boolean, 11, true, 666, 665, 0, 70), (yX11_within, cX11_within, 3, some .boolean, 11, true, 515, 514, 0, 70), (yX11_limit, cX11_limit, 3, some .int, 11, true, 734, 733, 0, 70), (yX11_at, cX11_at, 2, some .int, 11, true, 299, 298, 0, 70), (yX11_at_, cX11_at_, 2, some .long, 11, true, 862, 861, 0, 70), (yX11_put, cX11_put, 3, none, 11, true, 522, 521, 0, 70), (yX11_put_, cX11_put_, 4, none, 11, true, 846, 845, 0, 70), (yX11_copyRow, cX11_copyRow, 2, none, 11, true, 632, 631, 0, 70), (yX11_ratio, cX11_ratio, 4, some .long, 11, true, 700, 699, 0, 70), (yX12_init, cX12_init, 2, none, 12, false, 1048, 1047, 0, 82), (yX12_in, cX12_in, 3, some .boolean, 12, true, 1130, 1129, 0, 82), (yX12_limited, cX12_limited, 3, some .int, 12, true, 1289, 1288, 0, 82), (yX12_isFrame, cX12_isFrame, 2, some .boolean, 12, false, 1142, 1141, 33, 82), (yX12_isCut, cX12_isCut, 2, some .boolean, 12, false, 1146, 1145, 34, 82), (yX12_findsIntra, cX12_findsIntra, 4, none, 12, false, 1198, 1197, 42, 82), (yX12_groupSize, cX12_groupSize, 4, some .int, 12, false, 1202, 1201, 43, 82), (yX12_findsTypes, cX12_findsTypes, 5, none, 12, false, 1194, 1193, 41, 82), (yX12_step, cX12_step, 3, some .int, 12, true, 1259, 1258, 0, 82), (yX12_work, cX12_work, 4, some .int, 12, false, 1206, 1205, 44, 82), (yX12_bits, cX12_bits, 3, some .int, 12, false, 1256, 1255, 46, 82), (yX12_weight, cX12_weight, 2, some .int, 12, false, 1271, 1270, 48, 82)]
def zMt6 : List zMr := [(yX12_loss, cX12_loss, 3, some .int, 12, false, 1267, 1266, 47, 82), (yX12_settled, cX12_settled, 6, some .int, 12, false, 1286, 1285, 50, 82), (yX12_passes, cX12_passes, 7, none, 12, false, 1305, 1304, 54, 82), (yX12_runs, cX12_runs, 5, none, 12, false, 1301, 1300, 53, 82), (yX12_runsAsSet, cX12_runsAsSet, 1, none, 12, false, 1297, 1296, 52, 82), (yX12_underflowsNow, cX12_underflowsNow, 1, some .int, 12, false, 1293, 1292, 51, 82), (yX12_forgets, cX12_forgets, 1, none, 12, false, 1134, 1133, 32, 82), (yX12_append, cX12_append, 3, some .int, 12, false, 1127, 1125, 1126, 82), (yX12_set, cX12_set, 4, some .int, 12, false, 1138, 1136, 1137, 82), (yX12_drop, cX12_drop, 1, some .int, 12, false, 1150, 1148, 1149, 82), (yX12_type, cX12_type, 2, some .int, 12, false, 1154, 1152, 1153, 82), (yX12_clear, cX12_clear, 2, some .int, 12, false, 1158, 1156, 1157, 82), (yX12_byteAt, cX12_byteAt, 2, some .int, 12, false, 1174, 1173, 37, 82), (yX12_skips, cX12_skips, 1, none, 12, false, 1170, 1169, 36, 82), (yX12_fails, cX12_fails, 2, none, 12, false, 1182, 1181, 39, 82), (yX12_reads1, cX12_reads1, 5, some .int, 12, false, 1186, 1185, 40, 82), (yX12_readsRun, cX12_readsRun, 5, none, 12, false, 1178, 1177, 38, 82), (yX12_readsAll, cX12_readsAll, 2, none, 12, false, 1166, 1165, 35, 82), (yX12_load, cX12_load, 2, some .int, 12, false, 1162, 1160, 1161, 82), (yX12_frame, cX12_frame, 3, some .int, 12, false, 1190, 1188, 1189, 82), (yX12_coded, cX12_coded, 2, some .int, 12, false, 1210, 1208, 1209, 82), (yX12_sets, cX12_sets, 4, some .int, 12, false, 1218, 1217, 45, 82), (yX12_setInterval, cX12_setInterval, 2, some .int, 12, false, 1214, 1212, 1213, 82), (yX12_setBridges, cX12_setBridges, 2, some .int, 12, false, 1222, 1220, 1221, 82)]
def zMt7 : List zMr := [(yX12_setWeight, cX12_setWeight, 3, some .int, 12, false, 1226, 1224, 1225, 82), (yX12_setRange, cX12_setRange, 4, some .int, 12, false, 1230, 1228, 1229, 82), (yX12_setBuffer, cX12_setBuffer, 3, some .int, 12, false, 1234, 1232, 1233, 82), (yX12_setRate, cX12_setRate, 2, some .int, 12, false, 1239, 1237, 1238, 82), (yX12_addZone, cX12_addZone, 5, some .int, 12, false, 1244, 1242, 1243, 82), (yX12_clearZones, cX12_clearZones, 1, some .int, 12, false, 1248, 1246, 1247, 82), (yX12_bitsAt, cX12_bitsAt, 3, some .int, 12, false, 1252, 1250, 1251, 82), (yX12_lossAt, cX12_lossAt, 3, some .int, 12, false, 1263, 1261, 1262, 82), (yX12_byType, cX12_byType, 1, some .int, 12, true, 1282, 1281, 0, 82), (yX12_plansConstant, cX12_plansConstant, 3, none, 12, false, 1279, 1278, 49, 82), (yX12_constant, cX12_constant, 2, some .int, 12, false, 1275, 1273, 1274, 82), (yX12_control, cX12_control, 6, some .int, 12, false, 1309, 1307, 1308, 82), (yX12_root, cX12_root, 2, some .int, 12, true, 1321, 1320, 0, 82), (yX12_share, cX12_share, 2, some .int, 12, false, 1318, 1317, 55, 82), (yX12_leastWithin, cX12_leastWithin, 5, some .int, 12, false, 1326, 1325, 56, 82), (yX12_distribute, cX12_distribute, 7, some .int, 12, false, 1313, 1311, 1312, 82), (yX12_smooth, cX12_smooth, 8, some .int, 12, false, 1330, 1328, 1329, 82), (yX12_nextQuantizer, cX12_nextQuantizer, 4, some .int, 12, false, 1346, 1345, 59, 82), (yX12_costOf, cX12_costOf, 4, some .long, 12, false, 1350, 1349, 60, 82), (yX12_cheapest, cX12_cheapest, 10, some .int, 12, false, 1342, 1341, 58, 82), (yX12_firstUnderflow, cX12_firstUnderflow, 2, some .int, 12, false, 1338, 1337, 57, 82), (yX12_repair, cX12_repair, 6, some .int, 12, false, 1334, 1332, 1333, 82), (yX12_allBits, cX12_allBits, 4, some .long, 12, false, 1364, 1363, 62, 82), (yX12_gainOf, cX12_gainOf, 8, some .long, 12, false, 1360, 1359, 61, 82)]
def zMt8 : List zMr := [(yX12_relax, cX12_relax, 11, some .int, 12, false, 1355, 1353, 1354, 82), (yX12_adjust, cX12_adjust, 3, some .int, 12, false, 1369, 1367, 1368, 82), (yX12_part, cX12_part, 5, some .int, 12, false, 1377, 1376, 63, 82), (yX12_planned, cX12_planned, 3, some .int, 12, false, 1373, 1371, 1372, 82), (yX12_change, cX12_change, 3, some .int, 12, false, 1391, 1390, 65, 82), (yX12_sumOf, cX12_sumOf, 7, some .long, 12, false, 1387, 1386, 64, 82), (yX12_total, cX12_total, 2, some .long, 12, false, 1381, 1379, 1380, 82), (yX12_scene, cX12_scene, 9, some .int, 12, false, 1395, 1393, 1394, 82), (yX12_isDry, cX12_isDry, 4, some .boolean, 12, false, 1403, 1402, 66, 82), (yX12_leastSize, cX12_leastSize, 5, some .int, 12, false, 1399, 1397, 1398, 82), (yX12_leastStart, cX12_leastStart, 2, some .int, 12, false, 1407, 1405, 1406, 82), (yX12_leastRate, cX12_leastRate, 5, some .int, 12, false, 1411, 1409, 1410, 82), (yX12_bestConstant, cX12_bestConstant, 3, some .int, 12, false, 1415, 1413, 1414, 82), (yX12_demand, cX12_demand, 7, some .int, 12, false, 1419, 1417, 1418, 82), (yX12_save, cX12_save, 3, some .int, 12, false, 1423, 1421, 1422, 82), (yX12_restore, cX12_restore, 3, some .int, 12, false, 1427, 1425, 1426, 82), (yX12_counted, cX12_counted, 2, some .int, 12, false, 1435, 1434, 67, 82), (yX12_count, cX12_count, 2, some .int, 12, false, 1431, 1429, 1430, 82), (yX12_mixes, cX12_mixes, 3, none, 12, false, 1445, 1444, 68, 82), (yX12_digest, cX12_digest, 4, some .long, 12, false, 1439, 1437, 1438, 82), (⟨RL, "law", "([I)Z"⟩, cL_law, 4, some .boolean, 13, true, 0, 0, 0, 0)]
def zMt : List zMr := zMt0 ++ (zMt1 ++ (zMt2 ++ (zMt3 ++ (zMt4 ++ (zMt5 ++ (zMt6 ++ (zMt7 ++ (zMt8))))))))
abbrev nX0_init : Nat := 0
abbrev nX0_add : Nat := 1
abbrev nX0_isCut : Nat := 2
abbrev nX0_copyFrom : Nat := 3
abbrev nX1_init : Nat := 4
abbrev nX1_follow : Nat := 5
abbrev nX1_takeBits : Nat := 6
abbrev nX1_passAsSet : Nat := 7
abbrev nX1_pass : Nat := 8
abbrev nX1_begin : Nat := 9
abbrev nX1_fillBefore : Nat := 10
abbrev nX1_takeOut : Nat := 11
abbrev nX1_firstUnderflow : Nat := 12
abbrev nX1_lastFullNotBehind : Nat := 13
abbrev nX1_sumOfBits : Nat := 14
abbrev nX2_init : Nat := 15
abbrev nX2_findSize : Nat := 16
abbrev nX2_findStart : Nat := 17
abbrev nX2_findRate : Nat := 18
abbrev nX2_findLeast : Nat := 19
abbrev nX2_suffices : Nat := 20
abbrev nX2_findConstant : Nat := 21
abbrev nX2_findDemand : Nat := 22
abbrev nX3_init : Nat := 23
abbrev nX3_arrange : Nat := 24
abbrev nX3_findStarts : Nat := 25
abbrev nX3_measureGroups : Nat := 26
abbrev nX3_chooseTypes : Nat := 27
abbrev nX3_isMultiple : Nat := 28
abbrev nX3_putInOrder : Nat := 29
abbrev nX3_putAt : Nat := 30
abbrev nX3_weighWorks : Nat := 31
abbrev nX3_workOf : Nat := 32
abbrev nX3_firstOfScene : Nat := 33
abbrev nX3_framesOfScene : Nat := 34
abbrev nX3_groupsOfScene : Nat := 35
abbrev nX4_init : Nat := 36
abbrev nX4_planConstant : Nat := 37
abbrev nX4_planControlled : Nat := 38
abbrev nX4_offsetOf : Nat := 39
abbrev nX4_planDistributed : Nat := 40
abbrev nX4_weighShares : Nat := 41
abbrev nX4_leastWithin : Nat := 42
abbrev nX4_rootOf : Nat := 43
abbrev nX5_init : Nat := 44
abbrev nX5_smoothen : Nat := 45
abbrev nX5_mend : Nat := 46
abbrev nX5_cheapestRaise : Nat := 47
abbrev nX5_raise : Nat := 48
abbrev nX5_weighRaise : Nat := 49
abbrev nX5_nextOf : Nat := 50
abbrev nX5_loosen : Nat := 51
abbrev nX5_greatestGain : Nat := 52
abbrev nX5_canLower : Nat := 53
abbrev nX5_lower : Nat := 54
abbrev nX5_weighLowering : Nat := 55
abbrev nX6_init : Nat := 56
abbrev nX6_bitsOf : Nat := 57
abbrev nX6_lossOf : Nat := 58
abbrev nX6_weightOf : Nat := 59
abbrev nX7_init : Nat := 60
abbrev nX7_copyFrom : Nat := 61
abbrev nX8_init : Nat := 62
abbrev nX8_putZone : Nat := 63
abbrev nX8_settle : Nat := 64
abbrev nX8_copyFrom : Nat := 65
abbrev nX9_init : Nat := 66
abbrev nX10_init : Nat := 67
abbrev nX10_add : Nat := 68
abbrev nX10_letterAt : Nat := 69
abbrev nX10_readClip : Nat := 70
abbrev nX10_readRun : Nat := 71
abbrev nX10_readSign : Nat := 72
abbrev nX10_readNumber : Nat := 73
abbrev nX10_skipBlanks : Nat := 74
abbrev nX11_init : Nat := 75
abbrev nX11_append : Nat := 76
abbrev nX11_set : Nat := 77
abbrev nX11_drop : Nat := 78
abbrev nX11_type : Nat := 79
abbrev nX11_clear : Nat := 80
abbrev nX11_load : Nat := 81
abbrev nX11_frame : Nat := 82
abbrev nX11_coded : Nat := 83
abbrev nX11_setInterval : Nat := 84
abbrev nX11_setBridges : Nat := 85
abbrev nX11_setWeight : Nat := 86
abbrev nX11_setRange : Nat := 87
abbrev nX11_setBuffer : Nat := 88
abbrev nX11_setRate : Nat := 89
abbrev nX11_addZone : Nat := 90
abbrev nX11_clearZones : Nat := 91
abbrev nX11_bitsAt : Nat := 92
abbrev nX11_lossAt : Nat := 93
abbrev nX11_constant : Nat := 94
abbrev nX11_control : Nat := 95
abbrev nX11_distribute : Nat := 96
abbrev nX11_smooth : Nat := 97
abbrev nX11_repair : Nat := 98
abbrev nX11_relax : Nat := 99
abbrev nX11_adjust : Nat := 100
abbrev nX11_planned : Nat := 101
abbrev nX11_total : Nat := 102
abbrev nX11_scene : Nat := 103
abbrev nX11_leastSize : Nat := 104
abbrev nX11_leastStart : Nat := 105
abbrev nX11_leastRate : Nat := 106
abbrev nX11_bestConstant : Nat := 107
abbrev nX11_demand : Nat := 108
abbrev nX11_save : Nat := 109
abbrev nX11_restore : Nat := 110
abbrev nX11_count : Nat := 111
abbrev nX11_digest : Nat := 112
abbrev nX11_hashFrame : Nat := 113
abbrev nX11_arrangeAnew : Nat := 114
abbrev nX11_underflowsOfNewPlan : Nat := 115
abbrev nX11_followedFrame : Nat := 116
abbrev nX11_followedTotal : Nat := 117
abbrev nX11_changesOfPlan : Nat := 118
abbrev nX11_bitsOfScene : Nat := 119
abbrev nX11_meanOfScene : Nat := 120
abbrev nX11_isFrame : Nat := 121
abbrev nX11_isPicture : Nat := 122
abbrev nX11_isQuantizer : Nat := 123
abbrev nX11_within : Nat := 124
abbrev nX11_limit : Nat := 125
abbrev nX11_at : Nat := 126
abbrev nX11_at_ : Nat := 127
abbrev nX11_put : Nat := 128
abbrev nX11_put_ : Nat := 129
abbrev nX11_copyRow : Nat := 130
abbrev nX11_ratio : Nat := 131
abbrev nX12_init : Nat := 132
abbrev nX12_in : Nat := 133
abbrev nX12_limited : Nat := 134
abbrev nX12_isFrame : Nat := 135
abbrev nX12_isCut : Nat := 136
abbrev nX12_findsIntra : Nat := 137
abbrev nX12_groupSize : Nat := 138
abbrev nX12_findsTypes : Nat := 139
abbrev nX12_step : Nat := 140
abbrev nX12_work : Nat := 141
abbrev nX12_bits : Nat := 142
abbrev nX12_weight : Nat := 143
abbrev nX12_loss : Nat := 144
abbrev nX12_settled : Nat := 145
abbrev nX12_passes : Nat := 146
abbrev nX12_runs : Nat := 147
abbrev nX12_runsAsSet : Nat := 148
abbrev nX12_underflowsNow : Nat := 149
abbrev nX12_forgets : Nat := 150
abbrev nX12_append : Nat := 151
abbrev nX12_set : Nat := 152
abbrev nX12_drop : Nat := 153
abbrev nX12_type : Nat := 154
abbrev nX12_clear : Nat := 155
abbrev nX12_byteAt : Nat := 156
abbrev nX12_skips : Nat := 157
abbrev nX12_fails : Nat := 158
abbrev nX12_reads1 : Nat := 159
abbrev nX12_readsRun : Nat := 160
abbrev nX12_readsAll : Nat := 161
abbrev nX12_load : Nat := 162
abbrev nX12_frame : Nat := 163
abbrev nX12_coded : Nat := 164
abbrev nX12_sets : Nat := 165
abbrev nX12_setInterval : Nat := 166
abbrev nX12_setBridges : Nat := 167
abbrev nX12_setWeight : Nat := 168
abbrev nX12_setRange : Nat := 169
abbrev nX12_setBuffer : Nat := 170
abbrev nX12_setRate : Nat := 171
abbrev nX12_addZone : Nat := 172
abbrev nX12_clearZones : Nat := 173
abbrev nX12_bitsAt : Nat := 174
abbrev nX12_lossAt : Nat := 175
abbrev nX12_byType : Nat := 176
abbrev nX12_plansConstant : Nat := 177
abbrev nX12_constant : Nat := 178
abbrev nX12_control : Nat := 179
abbrev nX12_root : Nat := 180
abbrev nX12_share : Nat := 181
abbrev nX12_leastWithin : Nat := 182
abbrev nX12_distribute : Nat := 183
abbrev nX12_smooth : Nat := 184
abbrev nX12_nextQuantizer : Nat := 185
abbrev nX12_costOf : Nat := 186
abbrev nX12_cheapest : Nat := 187
abbrev nX12_firstUnderflow : Nat := 188
abbrev nX12_repair : Nat := 189
abbrev nX12_allBits : Nat := 190
abbrev nX12_gainOf : Nat := 191
abbrev nX12_relax : Nat := 192
abbrev nX12_adjust : Nat := 193
abbrev nX12_part : Nat := 194
abbrev nX12_planned : Nat := 195
abbrev nX12_change : Nat := 196
abbrev nX12_sumOf : Nat := 197
abbrev nX12_total : Nat := 198
abbrev nX12_scene : Nat := 199
abbrev nX12_isDry : Nat := 200
abbrev nX12_leastSize : Nat := 201
abbrev nX12_leastStart : Nat := 202
abbrev nX12_leastRate : Nat := 203
abbrev nX12_bestConstant : Nat := 204
abbrev nX12_demand : Nat := 205
abbrev nX12_save : Nat := 206
abbrev nX12_restore : Nat := 207
abbrev nX12_counted : Nat := 208
abbrev nX12_count : Nat := 209
abbrev nX12_mixes : Nat := 210
abbrev nX12_digest : Nat := 211
abbrev nL_law : Nat := 212
/-! the shape of the world behind the makings: a role each cell -/
abbrev zKd : Type := Nat × Nat × List (Nat × Nat)
def zSh : List zKd := [(0, 11, [(0, 1), (0, 4), (0, 9), (0, 11), (0, 16), (0, 24), (0, 26), (0, 32), (0, 34), (0, 39), (0, 41), (0, 52)]), (0, 0, [(1, 0), (0, 2), (0, 3)]), (1, 60, []), (1, 60, []), (0, 8, [(1, 0), (1, 0), (1, 0), (1, 0), (1, 0), (1, 0), (1, 0), (1, 0), (0, 5), (0, 6), (0, 7), (0, 8)]), (1, 60, []), (1, 6, []), (1, 6, []), (1, 6, []), (0, 7, [(2, 0), (0, 10)]), (1, 60, []), (0, 10, [(1, 0), (0, 12), (0, 15), (1, 0), (1, 0), (1, 0)]), (0, 0, [(1, 0), (0, 13), (0, 14)]), (1, 60, []), (1, 60, []), (1, 100, []), (0, 3, [(1, 0), (1, 0), (1, 0), (0, 17), (0, 18), (0, 19), (0, 20), (0, 21), (0, 22), (0, 23)]), (1, 60, []), (1, 60, []), (1, 60, []), (1, 60, []), (1, 60, []), (1, 60, []), (1, 60, []), (0, 6, [(0, 16), (0, 4), (0, 25)]), (1, 52, []), (0, 1, [(1, 0), (0, 27), (0, 28), (0, 29), (0, 30), (0, 31), (0, 24), (1, 0), (1, 0), (1, 0)]), (1, 60, []), (1, 60, []), (1, 60, []), (1, 60, []), (1, 60, []), (0, 4, [(0, 24), (0, 4), (0, 16), (0, 26), (0, 33)]), (1, 60, []), (0, 5, [(0, 24), (0, 4), (0, 16), (0, 26), (0, 35), (0, 36), (0, 37), (0, 38)]), (1, 60, []), (1, 60, []), (2, 60, []), (2, 60, []), (0, 2, [(0, 4), (0, 16), (0, 26), (0, 32), (0, 40)]), (1, 60, []), (0, 9, [(2, 0), (0, 42), (0, 45), (0, 50)]), (0, 0, [(1, 0), (0, 43), (0, 44)]), (1, 60, []), (1, 60, []), (0, 8, [(1, 0), (1, 0), (1, 0), (1, 0), (1, 0), (1, 0), (1, 0), (1, 0), (0, 46), (0, 47), (0, 48), (0, 49)]), (1, 60, []), (1, 6, []), (1, 6, []), (1, 6, []), (0, 7, [(2, 0), (0, 51)]), (1, 60, []), (0, 9, [(2, 0), (0, 53), (0, 56), (0, 61)]), (0, 0, [(1, 0), (0, 54), (0, 55)]), (1, 60, []), (1, 60, []), (0, 8, [(1, 0), (1, 0), (1, 0), (1, 0), (1, 0), (1, 0), (1, 0), (1, 0), (0, 57), (0, 58), (0, 59), (0, 60)]), (1, 60, []), (1, 6, []), (1, 6, []), (1, 6, []), (0, 7, [(2, 0), (0, 62)]), (1, 60, []), (0, 12, [(0, 64), (0, 65), (0, 66), (0, 67), (0, 68), (0, 69), (0, 70), (0, 71), (1, 0), (1, 0), (0, 72), (0, 73), (0, 74), (0, 75), (1, 0), (0, 76), (1, 0), (1, 0), (1, 0), (0, 77), (0, 78), (1, 0), (0, 79), (3, 0)]), (1, 268, []), (1, 536, []), (1, 2, []), (1, 60, []), (1, 60, []), (1, 60, []), (1, 60, []), (1, 60, []), (1, 60, []), (1, 60, []), (1, 60, []), (1, 60, []), (1, 100, []), (1, 60, []), (1, 60, []), (1, 60, [])]
