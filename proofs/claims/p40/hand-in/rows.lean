section
-- ===== PART A: goes FIRST, ahead of the names: the tables' words, and 'selects' of the private methods out of them =====
/-- a private method of a class that the tables say can be made, by its rows of tables_1 -/
def lw_okq (q : MethodName × Nat) : Prop := (q.1.cls ≠ "java/lang/invoke/MethodHandle" ∧ q.1.cls ≠ "java/lang/invoke/VarHandle") ∧ Cond.instantiable q.1.cls q.2 ∈ tables_1 ∧ Cond.privateMethod q.1 ∈ tables_1 ∧ Cond.instanceMethod q.1 ∈ tables_1
theorem lw_p0 : lw_okq (⟨"RatePlanner", "arrangeAnew", "()V"⟩, 12) := ⟨⟨by decide +kernel, by decide +kernel⟩, List.mem_of_getElem? (i := 15) (by decide +kernel), List.mem_of_getElem? (i := 420) (by decide +kernel), List.mem_of_getElem? (i := 421) (by decide +kernel)⟩
theorem lw_p1 : lw_okq (⟨"RatePlanner$Layout", "findStarts", "(LRatePlanner$Clip;I)V"⟩, 10) := ⟨⟨by decide +kernel, by decide +kernel⟩, List.mem_of_getElem? (i := 141) (by decide +kernel), List.mem_of_getElem? (i := 428) (by decide +kernel), List.mem_of_getElem? (i := 429) (by decide +kernel)⟩
theorem lw_p2 : lw_okq (⟨"RatePlanner$Layout", "measureGroups", "()V"⟩, 10) := ⟨⟨by decide +kernel, by decide +kernel⟩, List.mem_of_getElem? (i := 141) (by decide +kernel), List.mem_of_getElem? (i := 438) (by decide +kernel), List.mem_of_getElem? (i := 439) (by decide +kernel)⟩
theorem lw_p3 : lw_okq (⟨"RatePlanner$Layout", "chooseTypes", "(I)V"⟩, 10) := ⟨⟨by decide +kernel, by decide +kernel⟩, List.mem_of_getElem? (i := 141) (by decide +kernel), List.mem_of_getElem? (i := 443) (by decide +kernel), List.mem_of_getElem? (i := 444) (by decide +kernel)⟩
theorem lw_p4 : lw_okq (⟨"RatePlanner$Layout", "putInOrder", "()V"⟩, 10) := ⟨⟨by decide +kernel, by decide +kernel⟩, List.mem_of_getElem? (i := 141) (by decide +kernel), List.mem_of_getElem? (i := 450) (by decide +kernel), List.mem_of_getElem? (i := 451) (by decide +kernel)⟩
theorem lw_p5 : lw_okq (⟨"RatePlanner$Layout", "putAt", "(II)V"⟩, 10) := ⟨⟨by decide +kernel, by decide +kernel⟩, List.mem_of_getElem? (i := 141) (by decide +kernel), List.mem_of_getElem? (i := 454) (by decide +kernel), List.mem_of_getElem? (i := 455) (by decide +kernel)⟩
theorem lw_p6 : lw_okq (⟨"RatePlanner$Layout", "weighWorks", "(LRatePlanner$Clip;)V"⟩, 10) := ⟨⟨by decide +kernel, by decide +kernel⟩, List.mem_of_getElem? (i := 141) (by decide +kernel), List.mem_of_getElem? (i := 458) (by decide +kernel), List.mem_of_getElem? (i := 459) (by decide +kernel)⟩
theorem lw_p7 : lw_okq (⟨"RatePlanner", "isFrame", "(I)Z"⟩, 12) := ⟨⟨by decide +kernel, by decide +kernel⟩, List.mem_of_getElem? (i := 15) (by decide +kernel), List.mem_of_getElem? (i := 469) (by decide +kernel), List.mem_of_getElem? (i := 470) (by decide +kernel)⟩
theorem lw_p8 : lw_okq (⟨"RatePlanner$Maker", "offsetOf", "(I)I"⟩, 5) := ⟨⟨by decide +kernel, by decide +kernel⟩, List.mem_of_getElem? (i := 266) (by decide +kernel), List.mem_of_getElem? (i := 507) (by decide +kernel), List.mem_of_getElem? (i := 508) (by decide +kernel)⟩
theorem lw_p9 : lw_okq (⟨"RatePlanner", "underflowsOfNewPlan", "()I"⟩, 12) := ⟨⟨by decide +kernel, by decide +kernel⟩, List.mem_of_getElem? (i := 15) (by decide +kernel), List.mem_of_getElem? (i := 528) (by decide +kernel), List.mem_of_getElem? (i := 529) (by decide +kernel)⟩
theorem lw_p10 : lw_okq (⟨"RatePlanner", "followedFrame", "(II)I"⟩, 12) := ⟨⟨by decide +kernel, by decide +kernel⟩, List.mem_of_getElem? (i := 15) (by decide +kernel), List.mem_of_getElem? (i := 575) (by decide +kernel), List.mem_of_getElem? (i := 576) (by decide +kernel)⟩
theorem lw_p11 : lw_okq (⟨"RatePlanner", "followedTotal", "(I)J"⟩, 12) := ⟨⟨by decide +kernel, by decide +kernel⟩, List.mem_of_getElem? (i := 15) (by decide +kernel), List.mem_of_getElem? (i := 593) (by decide +kernel), List.mem_of_getElem? (i := 594) (by decide +kernel)⟩
theorem lw_p12 : lw_okq (⟨"RatePlanner", "changesOfPlan", "()J"⟩, 12) := ⟨⟨by decide +kernel, by decide +kernel⟩, List.mem_of_getElem? (i := 15) (by decide +kernel), List.mem_of_getElem? (i := 597) (by decide +kernel), List.mem_of_getElem? (i := 598) (by decide +kernel)⟩
theorem lw_p13 : lw_okq (⟨"RatePlanner", "bitsOfScene", "(I)I"⟩, 12) := ⟨⟨by decide +kernel, by decide +kernel⟩, List.mem_of_getElem? (i := 15) (by decide +kernel), List.mem_of_getElem? (i := 616) (by decide +kernel), List.mem_of_getElem? (i := 617) (by decide +kernel)⟩
theorem lw_p14 : lw_okq (⟨"RatePlanner", "meanOfScene", "(I)I"⟩, 12) := ⟨⟨by decide +kernel, by decide +kernel⟩, List.mem_of_getElem? (i := 15) (by decide +kernel), List.mem_of_getElem? (i := 621) (by decide +kernel), List.mem_of_getElem? (i := 622) (by decide +kernel)⟩
def lw_privs_1 : List (MethodName × Nat) := [(⟨"RatePlanner", "arrangeAnew", "()V"⟩, 12), (⟨"RatePlanner$Layout", "findStarts", "(LRatePlanner$Clip;I)V"⟩, 10), (⟨"RatePlanner$Layout", "measureGroups", "()V"⟩, 10), (⟨"RatePlanner$Layout", "chooseTypes", "(I)V"⟩, 10), (⟨"RatePlanner$Layout", "putInOrder", "()V"⟩, 10), (⟨"RatePlanner$Layout", "putAt", "(II)V"⟩, 10), (⟨"RatePlanner$Layout", "weighWorks", "(LRatePlanner$Clip;)V"⟩, 10), (⟨"RatePlanner", "isFrame", "(I)Z"⟩, 12), (⟨"RatePlanner$Maker", "offsetOf", "(I)I"⟩, 5), (⟨"RatePlanner", "underflowsOfNewPlan", "()I"⟩, 12), (⟨"RatePlanner", "followedFrame", "(II)I"⟩, 12), (⟨"RatePlanner", "followedTotal", "(I)J"⟩, 12), (⟨"RatePlanner", "changesOfPlan", "()J"⟩, 12), (⟨"RatePlanner", "bitsOfScene", "(I)I"⟩, 12), (⟨"RatePlanner", "meanOfScene", "(I)I"⟩, 12)]
theorem lw_r1 : ∀ q ∈ lw_privs_1, lw_okq q := List.forall_mem_cons.mpr ⟨lw_p0, List.forall_mem_cons.mpr ⟨lw_p1, List.forall_mem_cons.mpr ⟨lw_p2, List.forall_mem_cons.mpr ⟨lw_p3, List.forall_mem_cons.mpr ⟨lw_p4, List.forall_mem_cons.mpr ⟨lw_p5, List.forall_mem_cons.mpr ⟨lw_p6, List.forall_mem_cons.mpr ⟨lw_p7, List.forall_mem_cons.mpr ⟨lw_p8, List.forall_mem_cons.mpr ⟨lw_p9, List.forall_mem_cons.mpr ⟨lw_p10, List.forall_mem_cons.mpr ⟨lw_p11, List.forall_mem_cons.mpr ⟨lw_p12, List.forall_mem_cons.mpr ⟨lw_p13, List.forall_mem_cons.mpr ⟨lw_p14, fun _ h => absurd h List.not_mem_nil⟩⟩⟩⟩⟩⟩⟩⟩⟩⟩⟩⟩⟩⟩⟩
def lw_privs : List (MethodName × Nat) := lw_privs_1
def lw_tbl : List Cond := k2_sels lw_privs ++ tables_1
theorem lw_privs_ok : ∀ q ∈ lw_privs, lw_okq q := lw_r1
def RX0 : String := "RatePlanner$Clip"
def TX0 : u_T := fun k => match k with
  | 0 => ("RatePlanner$Clip", "length", "I", false)
  | 1 => ("RatePlanner$Clip", "textures", "[I", true)
  | _ => ("RatePlanner$Clip", "motions", "[I", true)
abbrev cX0_init : ByteArray := prog_2_method_1_code
def yX0_init : MethodName := ⟨RX0, "<init>", "()V"⟩
abbrev cX0_add : ByteArray := prog_2_method_2_code
def yX0_add : MethodName := ⟨RX0, "add", "(II)V"⟩
abbrev cX0_isCut : ByteArray := prog_2_method_3_code
def yX0_isCut : MethodName := ⟨RX0, "isCut", "(I)Z"⟩
def RX1 : String := "RatePlanner$Course"
def TX1 : u_T := fun k => match k with
  | 0 => ("RatePlanner$Course", "underflows", "I", false)
  | 1 => ("RatePlanner$Course", "bits", "[I", true)
  | 2 => ("RatePlanner$Course", "befores", "[I", true)
  | 3 => ("RatePlanner$Course", "afters", "[I", true)
  | 4 => ("RatePlanner$Course", "lacks", "[I", true)
  | 5 => ("RatePlanner$Course", "surpluses", "[I", true)
  | 6 => ("RatePlanner$Course", "model", "LRatePlanner$Model;", true)
  | 7 => ("RatePlanner$Course", "size", "I", false)
  | 8 => ("RatePlanner$Course", "rate", "I", false)
  | _ => ("RatePlanner$Course", "content", "I", false)
abbrev cX1_init : ByteArray := prog_3_method_1_code
def yX1_init : MethodName := ⟨RX1, "<init>", "(LRatePlanner$Model;)V"⟩
abbrev cX1_follow : ByteArray := prog_3_method_2_code
def yX1_follow : MethodName := ⟨RX1, "follow", "([I)V"⟩
abbrev cX1_takeBits : ByteArray := prog_3_method_3_code
def yX1_takeBits : MethodName := ⟨RX1, "takeBits", "([I)V"⟩
abbrev cX1_passAsSet : ByteArray := prog_3_method_4_code
def yX1_passAsSet : MethodName := ⟨RX1, "passAsSet", "()V"⟩
abbrev cX1_pass : ByteArray := prog_3_method_5_code
def yX1_pass : MethodName := ⟨RX1, "pass", "(III)V"⟩
abbrev cX1_begin : ByteArray := prog_3_method_6_code
def yX1_begin : MethodName := ⟨RX1, "begin", "(III)V"⟩
abbrev cX1_fillBefore : ByteArray := prog_3_method_7_code
def yX1_fillBefore : MethodName := ⟨RX1, "fillBefore", "(I)I"⟩
abbrev cX1_takeOut : ByteArray := prog_3_method_8_code
def yX1_takeOut : MethodName := ⟨RX1, "takeOut", "(II)V"⟩
def RX2 : String := "RatePlanner$Finder"
def TX2 : u_T := fun k => match k with
  | 0 => ("RatePlanner$Finder", "settings", "LRatePlanner$Settings;", true)
  | 1 => ("RatePlanner$Finder", "layout", "LRatePlanner$Layout;", true)
  | 2 => ("RatePlanner$Finder", "course", "LRatePlanner$Course;", true)
  | 3 => ("RatePlanner$Finder", "maker", "LRatePlanner$Maker;", true)
  | _ => ("RatePlanner$Finder", "trial", "[I", true)
abbrev cX2_init : ByteArray := prog_4_method_1_code
def yX2_init : MethodName := ⟨RX2, "<init>", "(LRatePlanner$Model;LRatePlanner$Course;LRatePlanner$Maker;)V"⟩
def RX3 : String := "RatePlanner$Layout"
def TX3 : u_T := fun k => match k with
  | 0 => ("RatePlanner$Layout", "length", "I", false)
  | 1 => ("RatePlanner$Layout", "scenes", "I", false)
  | 2 => ("RatePlanner$Layout", "groups", "I", false)
  | 3 => ("RatePlanner$Layout", "types", "[I", true)
  | 4 => ("RatePlanner$Layout", "sceneNumbers", "[I", true)
  | 5 => ("RatePlanner$Layout", "groupFirsts", "[I", true)
  | 6 => ("RatePlanner$Layout", "groupLengths", "[I", true)
  | 7 => ("RatePlanner$Layout", "works", "[I", true)
  | 8 => ("RatePlanner$Layout", "places", "[I", true)
  | _ => ("RatePlanner$Layout", "order", "[I", true)
abbrev cX3_init : ByteArray := prog_5_method_1_code
def yX3_init : MethodName := ⟨RX3, "<init>", "()V"⟩
abbrev cX3_arrange : ByteArray := prog_5_method_2_code
def yX3_arrange : MethodName := ⟨RX3, "arrange", "(LRatePlanner$Clip;LRatePlanner$Settings;)V"⟩
abbrev cX3_findStarts : ByteArray := prog_5_method_3_code
def yX3_findStarts : MethodName := ⟨RX3, "findStarts", "(LRatePlanner$Clip;I)V"⟩
abbrev cX3_measureGroups : ByteArray := prog_5_method_4_code
def yX3_measureGroups : MethodName := ⟨RX3, "measureGroups", "()V"⟩
abbrev cX3_chooseTypes : ByteArray := prog_5_method_5_code
def yX3_chooseTypes : MethodName := ⟨RX3, "chooseTypes", "(I)V"⟩
abbrev cX3_isMultiple : ByteArray := prog_5_method_6_code
def yX3_isMultiple : MethodName := ⟨RX3, "isMultiple", "(II)Z"⟩
abbrev cX3_putInOrder : ByteArray := prog_5_method_7_code
def yX3_putInOrder : MethodName := ⟨RX3, "putInOrder", "()V"⟩
abbrev cX3_putAt : ByteArray := prog_5_method_8_code
def yX3_putAt : MethodName := ⟨RX3, "putAt", "(II)V"⟩
abbrev cX3_weighWorks : ByteArray := prog_5_method_9_code
def yX3_weighWorks : MethodName := ⟨RX3, "weighWorks", "(LRatePlanner$Clip;)V"⟩
abbrev cX3_workOf : ByteArray := prog_5_method_10_code
def yX3_workOf : MethodName := ⟨RX3, "workOf", "(III)I"⟩
abbrev cX3_firstOfScene : ByteArray := prog_5_method_11_code
def yX3_firstOfScene : MethodName := ⟨RX3, "firstOfScene", "(I)I"⟩
abbrev cX3_framesOfScene : ByteArray := prog_5_method_12_code
def yX3_framesOfScene : MethodName := ⟨RX3, "framesOfScene", "(I)I"⟩
abbrev cX3_groupsOfScene : ByteArray := prog_5_method_13_code
def yX3_groupsOfScene : MethodName := ⟨RX3, "groupsOfScene", "(I)I"⟩
def RX4 : String := "RatePlanner$Maker"
def TX4 : u_T := fun k => match k with
  | 0 => ("RatePlanner$Maker", "model", "LRatePlanner$Model;", true)
  | 1 => ("RatePlanner$Maker", "settings", "LRatePlanner$Settings;", true)
  | 2 => ("RatePlanner$Maker", "layout", "LRatePlanner$Layout;", true)
  | 3 => ("RatePlanner$Maker", "course", "LRatePlanner$Course;", true)
  | _ => ("RatePlanner$Maker", "shares", "[I", true)
abbrev cX4_init : ByteArray := prog_6_method_1_code
def yX4_init : MethodName := ⟨RX4, "<init>", "(LRatePlanner$Model;LRatePlanner$Course;)V"⟩
abbrev cX4_planConstant : ByteArray := prog_6_method_2_code
def yX4_planConstant : MethodName := ⟨RX4, "planConstant", "([II)V"⟩
abbrev cX4_offsetOf : ByteArray := prog_6_method_4_code
def yX4_offsetOf : MethodName := ⟨RX4, "offsetOf", "(I)I"⟩
def RX5 : String := "RatePlanner$Mender"
def TX5 : u_T := fun k => match k with
  | 0 => ("RatePlanner$Mender", "model", "LRatePlanner$Model;", true)
  | 1 => ("RatePlanner$Mender", "settings", "LRatePlanner$Settings;", true)
  | 2 => ("RatePlanner$Mender", "layout", "LRatePlanner$Layout;", true)
  | 3 => ("RatePlanner$Mender", "course", "LRatePlanner$Course;", true)
  | 4 => ("RatePlanner$Mender", "trial", "[I", true)
  | 5 => ("RatePlanner$Mender", "nexts", "[I", true)
  | 6 => ("RatePlanner$Mender", "costs", "[J", true)
  | _ => ("RatePlanner$Mender", "gains", "[J", true)
abbrev cX5_init : ByteArray := prog_7_method_1_code
def yX5_init : MethodName := ⟨RX5, "<init>", "(LRatePlanner$Model;LRatePlanner$Course;)V"⟩
def RX6 : String := "RatePlanner$Model"
def TX6 : u_T := fun k => match k with
  | 0 => ("RatePlanner$Model", "layout", "LRatePlanner$Layout;", true)
  | 1 => ("RatePlanner$Model", "settings", "LRatePlanner$Settings;", true)
  | _ => ("RatePlanner$Model", "steps", "[I", true)
abbrev cX6_init : ByteArray := prog_8_method_1_code
def yX6_init : MethodName := ⟨RX6, "<init>", "(LRatePlanner$Layout;LRatePlanner$Settings;)V"⟩
abbrev cX6_bitsOf : ByteArray := prog_8_method_2_code
def yX6_bitsOf : MethodName := ⟨RX6, "bitsOf", "(II)I"⟩
abbrev cX6_lossOf : ByteArray := prog_8_method_3_code
def yX6_lossOf : MethodName := ⟨RX6, "lossOf", "(II)I"⟩
abbrev cX6_weightOf : ByteArray := prog_8_method_4_code
def yX6_weightOf : MethodName := ⟨RX6, "weightOf", "(I)I"⟩
def RX7 : String := "RatePlanner$Plan"
def TX7 : u_T := fun k => match k with
  | 0 => ("RatePlanner$Plan", "made", "Z", false)
  | _ => ("RatePlanner$Plan", "quantizers", "[I", true)
abbrev cX7_init : ByteArray := prog_9_method_1_code
def yX7_init : MethodName := ⟨RX7, "<init>", "()V"⟩
def RX8 : String := "RatePlanner$Settings"
def TX8 : u_T := fun k => match k with
  | 0 => ("RatePlanner$Settings", "interval", "I", false)
  | 1 => ("RatePlanner$Settings", "bridges", "I", false)
  | 2 => ("RatePlanner$Settings", "least", "I", false)
  | 3 => ("RatePlanner$Settings", "greatest", "I", false)
  | 4 => ("RatePlanner$Settings", "size", "I", false)
  | 5 => ("RatePlanner$Settings", "start", "I", false)
  | 6 => ("RatePlanner$Settings", "rate", "I", false)
  | 7 => ("RatePlanner$Settings", "zones", "I", false)
  | 8 => ("RatePlanner$Settings", "weights", "[I", true)
  | 9 => ("RatePlanner$Settings", "zoneFirsts", "[I", true)
  | 10 => ("RatePlanner$Settings", "zoneLasts", "[I", true)
  | _ => ("RatePlanner$Settings", "zoneOffsets", "[I", true)
abbrev cX8_init : ByteArray := prog_10_method_1_code
def yX8_init : MethodName := ⟨RX8, "<init>", "()V"⟩
abbrev cX8_settle : ByteArray := prog_10_method_3_code
def yX8_settle : MethodName := ⟨RX8, "settle", "(II)I"⟩
def RX9 : String := "RatePlanner$Slot"
def TX9 : u_T := fun k => match k with
  | 0 => ("RatePlanner$Slot", "used", "Z", false)
  | 1 => ("RatePlanner$Slot", "clip", "LRatePlanner$Clip;", true)
  | 2 => ("RatePlanner$Slot", "settings", "LRatePlanner$Settings;", true)
  | _ => ("RatePlanner$Slot", "plan", "LRatePlanner$Plan;", true)
abbrev cX9_init : ByteArray := prog_11_method_1_code
def yX9_init : MethodName := ⟨RX9, "<init>", "()V"⟩
def RX10 : String := "RatePlanner$Text"
def TX10 : u_T := fun k => match k with
  | 0 => ("RatePlanner$Text", "length", "I", false)
  | 1 => ("RatePlanner$Text", "read", "LRatePlanner$Clip;", true)
  | 2 => ("RatePlanner$Text", "letters", "[I", true)
  | 3 => ("RatePlanner$Text", "index", "I", false)
  | 4 => ("RatePlanner$Text", "number", "I", false)
  | _ => ("RatePlanner$Text", "fault", "I", false)
abbrev cX10_init : ByteArray := prog_12_method_1_code
def yX10_init : MethodName := ⟨RX10, "<init>", "()V"⟩
def RX11 : String := "RatePlanner"
def TX11 : u_T := fun k => match k with
  | 0 => ("RatePlanner", "clip", "LRatePlanner$Clip;", true)
  | 1 => ("RatePlanner", "settings", "LRatePlanner$Settings;", true)
  | 2 => ("RatePlanner", "plan", "LRatePlanner$Plan;", true)
  | 3 => ("RatePlanner", "text", "LRatePlanner$Text;", true)
  | 4 => ("RatePlanner", "layout", "LRatePlanner$Layout;", true)
  | 5 => ("RatePlanner", "model", "LRatePlanner$Model;", true)
  | 6 => ("RatePlanner", "course", "LRatePlanner$Course;", true)
  | 7 => ("RatePlanner", "maker", "LRatePlanner$Maker;", true)
  | 8 => ("RatePlanner", "mender", "LRatePlanner$Mender;", true)
  | 9 => ("RatePlanner", "finder", "LRatePlanner$Finder;", true)
  | 10 => ("RatePlanner", "firstSlot", "LRatePlanner$Slot;", true)
  | _ => ("RatePlanner", "secondSlot", "LRatePlanner$Slot;", true)
abbrev cX11_init : ByteArray := prog_1_method_1_code
def yX11_init : MethodName := ⟨RX11, "<init>", "()V"⟩
abbrev cX11_append : ByteArray := prog_1_method_2_code
def yX11_append : MethodName := ⟨RX11, "append", "(II)I"⟩
abbrev cX11_set : ByteArray := prog_1_method_3_code
def yX11_set : MethodName := ⟨RX11, "set", "(III)I"⟩
abbrev cX11_drop : ByteArray := prog_1_method_4_code
def yX11_drop : MethodName := ⟨RX11, "drop", "()I"⟩
abbrev cX11_frame : ByteArray := prog_1_method_8_code
def yX11_frame : MethodName := ⟨RX11, "frame", "(II)I"⟩
abbrev cX11_coded : ByteArray := prog_1_method_9_code
def yX11_coded : MethodName := ⟨RX11, "coded", "(I)I"⟩
abbrev cX11_setInterval : ByteArray := prog_1_method_10_code
def yX11_setInterval : MethodName := ⟨RX11, "setInterval", "(I)I"⟩
abbrev cX11_setBridges : ByteArray := prog_1_method_11_code
def yX11_setBridges : MethodName := ⟨RX11, "setBridges", "(I)I"⟩
abbrev cX11_setWeight : ByteArray := prog_1_method_12_code
def yX11_setWeight : MethodName := ⟨RX11, "setWeight", "(II)I"⟩
abbrev cX11_bitsAt : ByteArray := prog_1_method_18_code
def yX11_bitsAt : MethodName := ⟨RX11, "bitsAt", "(II)I"⟩
abbrev cX11_lossAt : ByteArray := prog_1_method_19_code
def yX11_lossAt : MethodName := ⟨RX11, "lossAt", "(II)I"⟩
abbrev cX11_constant : ByteArray := prog_1_method_20_code
def yX11_constant : MethodName := ⟨RX11, "constant", "(I)I"⟩
abbrev cX11_planned : ByteArray := prog_1_method_27_code
def yX11_planned : MethodName := ⟨RX11, "planned", "(II)I"⟩
abbrev cX11_total : ByteArray := prog_1_method_28_code
def yX11_total : MethodName := ⟨RX11, "total", "(I)J"⟩
abbrev cX11_scene : ByteArray := prog_1_method_29_code
def yX11_scene : MethodName := ⟨RX11, "scene", "(II)I"⟩
abbrev cX11_count : ByteArray := prog_1_method_37_code
def yX11_count : MethodName := ⟨RX11, "count", "(I)I"⟩
abbrev cX11_arrangeAnew : ByteArray := prog_1_method_40_code
def yX11_arrangeAnew : MethodName := ⟨RX11, "arrangeAnew", "()V"⟩
abbrev cX11_underflowsOfNewPlan : ByteArray := prog_1_method_41_code
def yX11_underflowsOfNewPlan : MethodName := ⟨RX11, "underflowsOfNewPlan", "()I"⟩
abbrev cX11_followedFrame : ByteArray := prog_1_method_42_code
def yX11_followedFrame : MethodName := ⟨RX11, "followedFrame", "(II)I"⟩
abbrev cX11_followedTotal : ByteArray := prog_1_method_43_code
def yX11_followedTotal : MethodName := ⟨RX11, "followedTotal", "(I)J"⟩
abbrev cX11_changesOfPlan : ByteArray := prog_1_method_44_code
def yX11_changesOfPlan : MethodName := ⟨RX11, "changesOfPlan", "()J"⟩
abbrev cX11_bitsOfScene : ByteArray := prog_1_method_45_code
def yX11_bitsOfScene : MethodName := ⟨RX11, "bitsOfScene", "(I)I"⟩
abbrev cX11_meanOfScene : ByteArray := prog_1_method_46_code
def yX11_meanOfScene : MethodName := ⟨RX11, "meanOfScene", "(I)I"⟩
abbrev cX11_isFrame : ByteArray := prog_1_method_47_code
def yX11_isFrame : MethodName := ⟨RX11, "isFrame", "(I)Z"⟩
abbrev cX11_isPicture : ByteArray := prog_1_method_48_code
def yX11_isPicture : MethodName := ⟨RX11, "isPicture", "(II)Z"⟩
abbrev cX11_isQuantizer : ByteArray := prog_1_method_49_code
def yX11_isQuantizer : MethodName := ⟨RX11, "isQuantizer", "(I)Z"⟩
abbrev cX11_within : ByteArray := prog_1_method_50_code
def yX11_within : MethodName := ⟨RX11, "within", "(III)Z"⟩
abbrev cX11_limit : ByteArray := prog_1_method_51_code
def yX11_limit : MethodName := ⟨RX11, "limit", "(III)I"⟩
abbrev cX11_at : ByteArray := prog_1_method_52_code
def yX11_at : MethodName := ⟨RX11, "at", "([II)I"⟩
abbrev cX11_put : ByteArray := prog_1_method_54_code
def yX11_put : MethodName := ⟨RX11, "put", "([III)V"⟩
abbrev cX11_ratio : ByteArray := prog_1_method_57_code
def yX11_ratio : MethodName := ⟨RX11, "ratio", "(JJ)J"⟩
def RX12 : String := "RatePlannerModel"
def TX12 : u_T := fun k => match k with
  | _ => ("", "", "", false)
def RL : String := "RatePlannerLaw"
abbrev cL_cell : ByteArray := method_2_code
def yL_cell : MethodName := ⟨RL, "cell", "([II)I"⟩
abbrev cL_low : ByteArray := method_3_code
def yL_low : MethodName := ⟨RL, "low", "(II)I"⟩
abbrev cL_isCut : ByteArray := method_4_code
def yL_isCut : MethodName := ⟨RL, "isCut", "([II)Z"⟩
abbrev cL_groupOf : ByteArray := method_5_code
def yL_groupOf : MethodName := ⟨RL, "groupOf", "([II)I"⟩
abbrev cL_type : ByteArray := method_6_code
def yL_type : MethodName := ⟨RL, "type", "([II)I"⟩
abbrev cL_sceneOf : ByteArray := method_7_code
def yL_sceneOf : MethodName := ⟨RL, "sceneOf", "([II)I"⟩
abbrev cL_bridgesBefore : ByteArray := method_8_code
def yL_bridgesBefore : MethodName := ⟨RL, "bridgesBefore", "([II)I"⟩
abbrev cL_place : ByteArray := method_9_code
def yL_place : MethodName := ⟨RL, "place", "([II)I"⟩
abbrev cL_step : ByteArray := method_10_code
def yL_step : MethodName := ⟨RL, "step", "(I)I"⟩
abbrev cL_work : ByteArray := method_11_code
def yL_work : MethodName := ⟨RL, "work", "([II)I"⟩
abbrev cL_bits : ByteArray := method_12_code
def yL_bits : MethodName := ⟨RL, "bits", "([III)I"⟩
abbrev cL_loss : ByteArray := method_13_code
def yL_loss : MethodName := ⟨RL, "loss", "([III)I"⟩
abbrev cL_grows : ByteArray := method_14_code
def yL_grows : MethodName := ⟨RL, "grows", "(LRatePlanner;[I[II)Z"⟩
abbrev cL_isTold : ByteArray := method_15_code
def yL_isTold : MethodName := ⟨RL, "isTold", "(LRatePlanner;[III)Z"⟩
abbrev cL_areScenes : ByteArray := method_16_code
def yL_areScenes : MethodName := ⟨RL, "areScenes", "(LRatePlanner;[I)Z"⟩
abbrev cL_law : ByteArray := code
def yL_law : MethodName := ⟨RL, "law", "([I)Z"⟩
abbrev vwCl : List vw_C := [(RX0, TX0, 3), (RX1, TX1, 10), (RX2, TX2, 5), (RX3, TX3, 10), (RX4, TX4, 5), (RX5, TX5, 8), (RX6, TX6, 3), (RX7, TX7, 2), (RX8, TX8, 12), (RX9, TX9, 4), (RX10, TX10, 6), (RX11, TX11, 12)]
/-! the methods: name, code, locals, result, class, static?, and where the tables speak of them -/
abbrev zMr : Type := MethodName × ByteArray × Nat × Option FieldType × Nat × Bool × Nat × Nat × Nat × Nat
def zMt0 : List zMr := [(yX0_init, cX0_init, 1, none, 0, false, 41, 40, 0, 17), (yX0_add, cX0_add, 3, none, 0, false, 430, 428, 429, 17), (yX0_isCut, cX0_isCut, 2, some .boolean, 0, false, 449, 447, 448, 17), (yX1_init, cX1_init, 2, none, 1, false, 241, 240, 0, 23), (yX1_follow, cX1_follow, 2, none, 1, false, 549, 547, 548, 23), (yX1_takeBits, cX1_takeBits, 4, none, 1, false, 553, 551, 552, 23), (yX1_passAsSet, cX1_passAsSet, 1, none, 1, false, 566, 564, 565, 23), (yX1_pass, cX1_pass, 5, none, 1, false, 570, 568, 569, 23), (yX1_begin, cX1_begin, 4, none, 1, false, 574, 572, 573, 23), (yX1_fillBefore, cX1_fillBefore, 3, some .int, 1, false, 578, 576, 577, 23), (yX1_takeOut, cX1_takeOut, 4, none, 1, false, 583, 581, 582, 23), (yX2_init, cX2_init, 4, none, 2, false, 338, 337, 0, 26), (yX3_init, cX3_init, 1, none, 3, false, 159, 158, 0, 21), (yX3_arrange, cX3_arrange, 3, none, 3, false, 441, 439, 440, 21), (yX3_findStarts, cX3_findStarts, 6, none, 3, false, 445, 444, 1, 21), (yX3_measureGroups, cX3_measureGroups, 4, none, 3, false, 455, 454, 2, 21), (yX3_chooseTypes, cX3_chooseTypes, 5, none, 3, false, 460, 459, 3, 21), (yX3_isMultiple, cX3_isMultiple, 2, some .boolean, 3, true, 463, 462, 0, 21), (yX3_putInOrder, cX3_putInOrder, 5, none, 3, false, 467, 466, 4, 21), (yX3_putAt, cX3_putAt, 3, none, 3, false, 471, 470, 5, 21), (yX3_weighWorks, cX3_weighWorks, 3, none, 3, false, 475, 474, 6, 21), (yX3_workOf, cX3_workOf, 3, some .int, 3, true, 478, 477, 0, 21), (yX3_firstOfScene, cX3_firstOfScene, 3, some .int, 3, false, 625, 623, 624, 21), (yX3_framesOfScene, cX3_framesOfScene, 4, some .int, 3, false, 629, 627, 628, 21)]
def zMt1 : List zMr := [(yX3_groupsOfScene, cX3_groupsOfScene, 4, some .int, 3, false, 643, 641, 642, 21), (yX4_init, cX4_init, 3, none, 4, false, 284, 283, 0, 24), (yX4_planConstant, cX4_planConstant, 4, none, 4, false, 520, 518, 519, 24), (yX4_offsetOf, cX4_offsetOf, 2, some .int, 4, false, 524, 523, 8, 24), (yX5_init, cX5_init, 3, none, 5, false, 306, 305, 0, 25), (yX6_init, cX6_init, 4, none, 6, false, 212, 211, 0, 22), (yX6_bitsOf, cX6_bitsOf, 3, some .int, 6, false, 558, 556, 557, 22), (yX6_lossOf, cX6_lossOf, 5, some .int, 6, false, 596, 594, 595, 22), (yX6_weightOf, cX6_weightOf, 2, some .int, 6, false, 600, 598, 599, 22), (yX7_init, cX7_init, 1, none, 7, false, 121, 120, 0, 19), (yX8_init, cX8_init, 2, none, 8, false, 64, 63, 0, 18), (yX8_settle, cX8_settle, 5, some .int, 8, false, 529, 527, 528, 18), (yX9_init, cX9_init, 1, none, 9, false, 360, 359, 0, 27), (yX10_init, cX10_init, 1, none, 10, false, 135, 134, 0, 20), (yX11_init, cX11_init, 1, none, 11, false, 33, 32, 0, 16), (yX11_append, cX11_append, 3, some .int, 11, false, 420, 418, 419, 16), (yX11_set, cX11_set, 4, some .int, 11, false, 482, 480, 481, 16), (yX11_drop, cX11_drop, 1, some .int, 11, false, 492, 490, 491, 16), (yX11_frame, cX11_frame, 3, some .int, 11, false, 496, 494, 495, 16), (yX11_coded, cX11_coded, 2, some .int, 11, false, 501, 499, 500, 16), (yX11_setInterval, cX11_setInterval, 3, some .int, 11, false, 505, 503, 504, 16), (yX11_setBridges, cX11_setBridges, 3, some .int, 11, false, 509, 507, 508, 16), (yX11_setWeight, cX11_setWeight, 4, some .int, 11, false, 665, 663, 664, 16), (yX11_bitsAt, cX11_bitsAt, 3, some .int, 11, false, 690, 688, 689, 16)]
def zMt2 : List zMr := [(yX11_lossAt, cX11_lossAt, 3, some .int, 11, false, 700, 698, 699, 16), (yX11_constant, cX11_constant, 2, some .int, 11, false, 513, 511, 512, 16), (yX11_planned, cX11_planned, 3, some .int, 11, false, 588, 586, 587, 16), (yX11_total, cX11_total, 2, some .long, 11, false, 604, 602, 603, 16), (yX11_scene, cX11_scene, 3, some .int, 11, false, 621, 619, 620, 16), (yX11_count, cX11_count, 2, some .int, 11, false, 647, 645, 646, 16), (yX11_arrangeAnew, cX11_arrangeAnew, 1, none, 11, false, 437, 436, 0, 16), (yX11_underflowsOfNewPlan, cX11_underflowsOfNewPlan, 1, some .int, 11, false, 545, 544, 9, 16), (yX11_followedFrame, cX11_followedFrame, 5, some .int, 11, false, 592, 591, 10, 16), (yX11_followedTotal, cX11_followedTotal, 5, some .long, 11, false, 610, 609, 11, 16), (yX11_changesOfPlan, cX11_changesOfPlan, 5, some .long, 11, false, 614, 613, 12, 16), (yX11_bitsOfScene, cX11_bitsOfScene, 4, some .int, 11, false, 633, 632, 13, 16), (yX11_meanOfScene, cX11_meanOfScene, 4, some .int, 11, false, 638, 637, 14, 16), (yX11_isFrame, cX11_isFrame, 2, some .boolean, 11, false, 486, 485, 7, 16), (yX11_isPicture, cX11_isPicture, 2, some .boolean, 11, true, 423, 422, 0, 16), (yX11_isQuantizer, cX11_isQuantizer, 1, some .boolean, 11, true, 516, 515, 0, 16), (yX11_within, cX11_within, 3, some .boolean, 11, true, 426, 425, 0, 16), (yX11_limit, cX11_limit, 3, some .int, 11, true, 534, 533, 0, 16), (yX11_at, cX11_at, 2, some .int, 11, true, 218, 217, 0, 16), (yX11_put, cX11_put, 3, none, 11, true, 433, 432, 0, 16), (yX11_ratio, cX11_ratio, 4, some .long, 11, true, 561, 560, 0, 16), (yL_cell, cL_cell, 2, some .int, 13, true, 650, 649, 0, 15), (yL_low, cL_low, 2, some .int, 13, true, 654, 653, 0, 15), (yL_isCut, cL_isCut, 2, some .boolean, 13, true, 658, 657, 0, 15)]
def zMt3 : List zMr := [(yL_groupOf, cL_groupOf, 4, some .int, 13, true, 671, 670, 0, 15), (yL_type, cL_type, 4, some .int, 13, true, 674, 673, 0, 15), (yL_sceneOf, cL_sceneOf, 4, some .int, 13, true, 677, 676, 0, 15), (yL_bridgesBefore, cL_bridgesBefore, 3, some .int, 13, true, 683, 682, 0, 15), (yL_place, cL_place, 3, some .int, 13, true, 680, 679, 0, 15), (yL_step, cL_step, 2, some .int, 13, true, 696, 695, 0, 15), (yL_work, cL_work, 3, some .int, 13, true, 686, 685, 0, 15), (yL_bits, cL_bits, 3, some .int, 13, true, 693, 692, 0, 15), (yL_loss, cL_loss, 4, some .int, 13, true, 703, 702, 0, 15), (yL_grows, cL_grows, 8, some .boolean, 13, true, 661, 660, 0, 15), (yL_isTold, cL_isTold, 7, some .boolean, 13, true, 668, 667, 0, 15), (yL_areScenes, cL_areScenes, 10, some .boolean, 13, true, 707, 706, 0, 15), (⟨RL, "law", "([I)Z"⟩, cL_law, 7, some .boolean, 13, true, 0, 0, 0, 0)]
def zMt : List zMr := zMt0 ++ (zMt1 ++ (zMt2 ++ (zMt3)))
abbrev nX0_init : Nat := 0
abbrev nX0_add : Nat := 1
abbrev nX0_isCut : Nat := 2
abbrev nX1_init : Nat := 3
abbrev nX1_follow : Nat := 4
abbrev nX1_takeBits : Nat := 5
abbrev nX1_passAsSet : Nat := 6
abbrev nX1_pass : Nat := 7
abbrev nX1_begin : Nat := 8
abbrev nX1_fillBefore : Nat := 9
abbrev nX1_takeOut : Nat := 10
abbrev nX2_init : Nat := 11
abbrev nX3_init : Nat := 12
abbrev nX3_arrange : Nat := 13
abbrev nX3_findStarts : Nat := 14
abbrev nX3_measureGroups : Nat := 15
abbrev nX3_chooseTypes : Nat := 16
abbrev nX3_isMultiple : Nat := 17
abbrev nX3_putInOrder : Nat := 18
abbrev nX3_putAt : Nat := 19
abbrev nX3_weighWorks : Nat := 20
abbrev nX3_workOf : Nat := 21
abbrev nX3_firstOfScene : Nat := 22
abbrev nX3_framesOfScene : Nat := 23
abbrev nX3_groupsOfScene : Nat := 24
abbrev nX4_init : Nat := 25
abbrev nX4_planConstant : Nat := 26
abbrev nX4_offsetOf : Nat := 27
abbrev nX5_init : Nat := 28
abbrev nX6_init : Nat := 29
abbrev nX6_bitsOf : Nat := 30
abbrev nX6_lossOf : Nat := 31
abbrev nX6_weightOf : Nat := 32
abbrev nX7_init : Nat := 33
abbrev nX8_init : Nat := 34
abbrev nX8_settle : Nat := 35
abbrev nX9_init : Nat := 36
abbrev nX10_init : Nat := 37
abbrev nX11_init : Nat := 38
abbrev nX11_append : Nat := 39
abbrev nX11_set : Nat := 40
abbrev nX11_drop : Nat := 41
abbrev nX11_frame : Nat := 42
abbrev nX11_coded : Nat := 43
abbrev nX11_setInterval : Nat := 44
abbrev nX11_setBridges : Nat := 45
abbrev nX11_setWeight : Nat := 46
abbrev nX11_bitsAt : Nat := 47
abbrev nX11_lossAt : Nat := 48
abbrev nX11_constant : Nat := 49
abbrev nX11_planned : Nat := 50
abbrev nX11_total : Nat := 51
abbrev nX11_scene : Nat := 52
abbrev nX11_count : Nat := 53
abbrev nX11_arrangeAnew : Nat := 54
abbrev nX11_underflowsOfNewPlan : Nat := 55
abbrev nX11_followedFrame : Nat := 56
abbrev nX11_followedTotal : Nat := 57
abbrev nX11_changesOfPlan : Nat := 58
abbrev nX11_bitsOfScene : Nat := 59
abbrev nX11_meanOfScene : Nat := 60
abbrev nX11_isFrame : Nat := 61
abbrev nX11_isPicture : Nat := 62
abbrev nX11_isQuantizer : Nat := 63
abbrev nX11_within : Nat := 64
abbrev nX11_limit : Nat := 65
abbrev nX11_at : Nat := 66
abbrev nX11_put : Nat := 67
abbrev nX11_ratio : Nat := 68
abbrev nL_cell : Nat := 69
abbrev nL_low : Nat := 70
abbrev nL_isCut : Nat := 71
abbrev nL_groupOf : Nat := 72
abbrev nL_type : Nat := 73
abbrev nL_sceneOf : Nat := 74
abbrev nL_bridgesBefore : Nat := 75
abbrev nL_place : Nat := 76
abbrev nL_step : Nat := 77
abbrev nL_work : Nat := 78
abbrev nL_bits : Nat := 79
abbrev nL_loss : Nat := 80
abbrev nL_grows : Nat := 81
abbrev nL_isTold : Nat := 82
abbrev nL_areScenes : Nat := 83
abbrev nL_law : Nat := 84
/-! the shape of the world behind the makings: a role each cell -/
abbrev zKd : Type := Nat × Nat × List (Nat × Nat)
def zSh : List zKd := [(0, 11, [(0, 1), (0, 4), (0, 9), (0, 11), (0, 16), (0, 24), (0, 26), (0, 32), (0, 34), (0, 39), (0, 41), (0, 52)]), (0, 0, [(1, 0), (0, 2), (0, 3)]), (1, 60, []), (1, 60, []), (0, 8, [(1, 0), (1, 0), (1, 0), (1, 0), (1, 0), (1, 0), (1, 0), (1, 0), (0, 5), (0, 6), (0, 7), (0, 8)]), (1, 60, []), (1, 6, []), (1, 6, []), (1, 6, []), (0, 7, [(2, 0), (0, 10)]), (1, 60, []), (0, 10, [(1, 0), (0, 12), (0, 15), (1, 0), (1, 0), (1, 0)]), (0, 0, [(1, 0), (0, 13), (0, 14)]), (1, 60, []), (1, 60, []), (1, 100, []), (0, 3, [(1, 0), (1, 0), (1, 0), (0, 17), (0, 18), (0, 19), (0, 20), (0, 21), (0, 22), (0, 23)]), (1, 60, []), (1, 60, []), (1, 60, []), (1, 60, []), (1, 60, []), (1, 60, []), (1, 60, []), (0, 6, [(0, 16), (0, 4), (0, 25)]), (1, 52, []), (0, 1, [(1, 0), (0, 27), (0, 28), (0, 29), (0, 30), (0, 31), (0, 24), (1, 0), (1, 0), (1, 0)]), (1, 60, []), (1, 60, []), (1, 60, []), (1, 60, []), (1, 60, []), (0, 4, [(0, 24), (0, 4), (0, 16), (0, 26), (0, 33)]), (1, 60, []), (0, 5, [(0, 24), (0, 4), (0, 16), (0, 26), (0, 35), (0, 36), (0, 37), (0, 38)]), (1, 60, []), (1, 60, []), (2, 60, []), (2, 60, []), (0, 2, [(0, 4), (0, 16), (0, 26), (0, 32), (0, 40)]), (1, 60, []), (0, 9, [(2, 0), (0, 42), (0, 45), (0, 50)]), (0, 0, [(1, 0), (0, 43), (0, 44)]), (1, 60, []), (1, 60, []), (0, 8, [(1, 0), (1, 0), (1, 0), (1, 0), (1, 0), (1, 0), (1, 0), (1, 0), (0, 46), (0, 47), (0, 48), (0, 49)]), (1, 60, []), (1, 6, []), (1, 6, []), (1, 6, []), (0, 7, [(2, 0), (0, 51)]), (1, 60, []), (0, 9, [(2, 0), (0, 53), (0, 56), (0, 61)]), (0, 0, [(1, 0), (0, 54), (0, 55)]), (1, 60, []), (1, 60, []), (0, 8, [(1, 0), (1, 0), (1, 0), (1, 0), (1, 0), (1, 0), (1, 0), (1, 0), (0, 57), (0, 58), (0, 59), (0, 60)]), (1, 60, []), (1, 6, []), (1, 6, []), (1, 6, []), (0, 7, [(2, 0), (0, 62)]), (1, 60, []), (1, 64, [])]
end
section
/-! the tables as the small machine reads them, and what a program checks of them -/
def zMe (mi : Nat) : zMr := zMt.getD mi (⟨"", "", ""⟩, ⟨#[]⟩, 0, none, 99, false, 0, 0, 0, 0)
def zY (mi : Nat) : MethodName := (zMe mi).1
def zBy (mi : Nat) : ByteArray := (zMe mi).2.1
def zMl (mi : Nat) : Nat := (zMe mi).2.2.1
def zRt (mi : Nat) : Option FieldType := (zMe mi).2.2.2.1
def zMc (mi : Nat) : Nat := (zMe mi).2.2.2.2.1
def zMs (mi : Nat) : Bool := (zMe mi).2.2.2.2.2.1
def zP1 (mi : Nat) : Nat := (zMe mi).2.2.2.2.2.2.1
def zP2 (mi : Nat) : Nat := (zMe mi).2.2.2.2.2.2.2.1
def zP3 (mi : Nat) : Nat := (zMe mi).2.2.2.2.2.2.2.2.1
def zP4 (mi : Nat) : Nat := (zMe mi).2.2.2.2.2.2.2.2.2
def zCl (a : Nat) : vw_C := vwCl.getD a ("", fun _ => ("", "", "", false), 0)
def zNst : Cond → Bool
  | .methodLinkNest .. => true
  | .fieldLinkNest .. => true
  | _ => false
def zTg : List Cond := lw_tbl.filter goodWord
def zNw : List Cond := lw_tbl.filter zNst
theorem zin (p : Nat) {w : Cond} (h : lw_tbl[p]? = some w) (hg : goodWord w = true) : w ∈ zTg := List.mem_filter.mpr ⟨List.mem_of_getElem? h, hg⟩
theorem zinN (p : Nat) {w : Cond} (h : lw_tbl[p]? = some w) (hg : zNst w = true) : w ∈ zNw := List.mem_filter.mpr ⟨List.mem_of_getElem? h, hg⟩
theorem zTg_good {w : Cond} (h : w ∈ zTg) : w ∈ lw_tbl ∧ ((w.onTables && w.keeps) = true ∨ ∃ ty, w = .arrayClass ty) := ⟨(List.mem_filter.mp h).1, good_of_word (List.mem_filter.mp h).2⟩
def zNoH (y : MethodName) : Bool := decide (y.cls ≠ "java/lang/invoke/MethodHandle") && decide (y.cls ≠ "java/lang/invoke/VarHandle")
/-- a method's own row is true -/
def zMv (mi : Nat) : Bool := decide (lw_tbl[zP1 mi]? = some (.code (zY mi) (zBy mi) (zMl mi) (zRt mi))) && decide (lw_tbl[zP4 mi]? = some (.initialized (zY mi).cls)) && zNoH (zY mi) && plainName (zY mi).cls && Nat.ble (zMl mi) 13 &&
  (match zMs mi with
  | true => decide (lw_tbl[zP2 mi]? = some (.static (zY mi)))
  | false => decide (lw_tbl[zP2 mi]? = some (.instanceMethod (zY mi))) && (decide ((zY mi).name = "<init>") || decide (lw_tbl[zP3 mi]? = some (.selects (zY mi).cls (zY mi) (zY mi)))) && Nat.blt (zMc mi) 12 && decide ((zCl (zMc mi)).1 = (zY mi).cls))
/-- a class's row is true -/
def zCv (q : vw_C) : Bool := (u_ws q.1 q.2.1 q.2.2).all (fun w => decide (w ∈ lw_tbl) && goodWord w) && (List.range q.2.2).all fun k => (parseFieldDescriptor (q.2.1 k).2.2.1).isSome && (List.range q.2.2).all fun j => Nat.beq j k || decide ((q.2.1 j).2.1 ≠ (q.2.1 k).2.1)
end
section
/-! the tables' rows are true: checked by computation -/
theorem zv0 : zMv 0 = true := by decide +kernel
theorem zv1 : zMv 1 = true := by decide +kernel
theorem zv2 : zMv 2 = true := by decide +kernel
theorem zv3 : zMv 3 = true := by decide +kernel
theorem zv4 : zMv 4 = true := by decide +kernel
theorem zv5 : zMv 5 = true := by decide +kernel
theorem zv6 : zMv 6 = true := by decide +kernel
theorem zv7 : zMv 7 = true := by decide +kernel
theorem zv8 : zMv 8 = true := by decide +kernel
theorem zv9 : zMv 9 = true := by decide +kernel
theorem zv10 : zMv 10 = true := by decide +kernel
theorem zv11 : zMv 11 = true := by decide +kernel
theorem zv12 : zMv 12 = true := by decide +kernel
theorem zv13 : zMv 13 = true := by decide +kernel
theorem zv14 : zMv 14 = true := by decide +kernel
theorem zv15 : zMv 15 = true := by decide +kernel
theorem zv16 : zMv 16 = true := by decide +kernel
theorem zv17 : zMv 17 = true := by decide +kernel
theorem zv18 : zMv 18 = true := by decide +kernel
theorem zv19 : zMv 19 = true := by decide +kernel
theorem zv20 : zMv 20 = true := by decide +kernel
theorem zv21 : zMv 21 = true := by decide +kernel
theorem zv22 : zMv 22 = true := by decide +kernel
theorem zv23 : zMv 23 = true := by decide +kernel
theorem zv24 : zMv 24 = true := by decide +kernel
theorem zv25 : zMv 25 = true := by decide +kernel
theorem zv26 : zMv 26 = true := by decide +kernel
theorem zv27 : zMv 27 = true := by decide +kernel
theorem zv28 : zMv 28 = true := by decide +kernel
theorem zv29 : zMv 29 = true := by decide +kernel
theorem zv30 : zMv 30 = true := by decide +kernel
theorem zv31 : zMv 31 = true := by decide +kernel
theorem zv32 : zMv 32 = true := by decide +kernel
theorem zv33 : zMv 33 = true := by decide +kernel
theorem zv34 : zMv 34 = true := by decide +kernel
theorem zv35 : zMv 35 = true := by decide +kernel
theorem zv36 : zMv 36 = true := by decide +kernel
theorem zv37 : zMv 37 = true := by decide +kernel
theorem zv38 : zMv 38 = true := by decide +kernel
theorem zv39 : zMv 39 = true := by decide +kernel
theorem zv40 : zMv 40 = true := by decide +kernel
theorem zv41 : zMv 41 = true := by decide +kernel
theorem zv42 : zMv 42 = true := by decide +kernel
theorem zv43 : zMv 43 = true := by decide +kernel
theorem zv44 : zMv 44 = true := by decide +kernel
theorem zv45 : zMv 45 = true := by decide +kernel
theorem zv46 : zMv 46 = true := by decide +kernel
theorem zv47 : zMv 47 = true := by decide +kernel
theorem zv48 : zMv 48 = true := by decide +kernel
theorem zv49 : zMv 49 = true := by decide +kernel
theorem zv50 : zMv 50 = true := by decide +kernel
theorem zv51 : zMv 51 = true := by decide +kernel
theorem zv52 : zMv 52 = true := by decide +kernel
theorem zv53 : zMv 53 = true := by decide +kernel
theorem zv54 : zMv 54 = true := by decide +kernel
theorem zv55 : zMv 55 = true := by decide +kernel
theorem zv56 : zMv 56 = true := by decide +kernel
theorem zv57 : zMv 57 = true := by decide +kernel
theorem zv58 : zMv 58 = true := by decide +kernel
theorem zv59 : zMv 59 = true := by decide +kernel
theorem zv60 : zMv 60 = true := by decide +kernel
theorem zv61 : zMv 61 = true := by decide +kernel
theorem zv62 : zMv 62 = true := by decide +kernel
theorem zv63 : zMv 63 = true := by decide +kernel
theorem zv64 : zMv 64 = true := by decide +kernel
theorem zv65 : zMv 65 = true := by decide +kernel
theorem zv66 : zMv 66 = true := by decide +kernel
theorem zv67 : zMv 67 = true := by decide +kernel
theorem zv68 : zMv 68 = true := by decide +kernel
theorem zv69 : zMv 69 = true := by decide +kernel
theorem zv70 : zMv 70 = true := by decide +kernel
theorem zv71 : zMv 71 = true := by decide +kernel
theorem zv72 : zMv 72 = true := by decide +kernel
theorem zv73 : zMv 73 = true := by decide +kernel
theorem zv74 : zMv 74 = true := by decide +kernel
theorem zv75 : zMv 75 = true := by decide +kernel
theorem zv76 : zMv 76 = true := by decide +kernel
theorem zv77 : zMv 77 = true := by decide +kernel
theorem zv78 : zMv 78 = true := by decide +kernel
theorem zv79 : zMv 79 = true := by decide +kernel
theorem zv80 : zMv 80 = true := by decide +kernel
theorem zv81 : zMv 81 = true := by decide +kernel
theorem zv82 : zMv 82 = true := by decide +kernel
theorem zv83 : zMv 83 = true := by decide +kernel
theorem zvr0 : ∀ q ∈ [0, 1, 2, 3, 4, 5, 6, 7, 8, 9, 10, 11, 12, 13, 14, 15], zMv q = true := List.forall_mem_cons.mpr ⟨zv0, List.forall_mem_cons.mpr ⟨zv1, List.forall_mem_cons.mpr ⟨zv2, List.forall_mem_cons.mpr ⟨zv3, List.forall_mem_cons.mpr ⟨zv4, List.forall_mem_cons.mpr ⟨zv5, List.forall_mem_cons.mpr ⟨zv6, List.forall_mem_cons.mpr ⟨zv7, List.forall_mem_cons.mpr ⟨zv8, List.forall_mem_cons.mpr ⟨zv9, List.forall_mem_cons.mpr ⟨zv10, List.forall_mem_cons.mpr ⟨zv11, List.forall_mem_cons.mpr ⟨zv12, List.forall_mem_cons.mpr ⟨zv13, List.forall_mem_cons.mpr ⟨zv14, List.forall_mem_cons.mpr ⟨zv15, fun _ h => absurd h List.not_mem_nil⟩⟩⟩⟩⟩⟩⟩⟩⟩⟩⟩⟩⟩⟩⟩⟩
theorem zvr1 : ∀ q ∈ [16, 17, 18, 19, 20, 21, 22, 23, 24, 25, 26, 27, 28, 29, 30, 31], zMv q = true := List.forall_mem_cons.mpr ⟨zv16, List.forall_mem_cons.mpr ⟨zv17, List.forall_mem_cons.mpr ⟨zv18, List.forall_mem_cons.mpr ⟨zv19, List.forall_mem_cons.mpr ⟨zv20, List.forall_mem_cons.mpr ⟨zv21, List.forall_mem_cons.mpr ⟨zv22, List.forall_mem_cons.mpr ⟨zv23, List.forall_mem_cons.mpr ⟨zv24, List.forall_mem_cons.mpr ⟨zv25, List.forall_mem_cons.mpr ⟨zv26, List.forall_mem_cons.mpr ⟨zv27, List.forall_mem_cons.mpr ⟨zv28, List.forall_mem_cons.mpr ⟨zv29, List.forall_mem_cons.mpr ⟨zv30, List.forall_mem_cons.mpr ⟨zv31, fun _ h => absurd h List.not_mem_nil⟩⟩⟩⟩⟩⟩⟩⟩⟩⟩⟩⟩⟩⟩⟩⟩
theorem zvr2 : ∀ q ∈ [32, 33, 34, 35, 36, 37, 38, 39, 40, 41, 42, 43, 44, 45, 46, 47], zMv q = true := List.forall_mem_cons.mpr ⟨zv32, List.forall_mem_cons.mpr ⟨zv33, List.forall_mem_cons.mpr ⟨zv34, List.forall_mem_cons.mpr ⟨zv35, List.forall_mem_cons.mpr ⟨zv36, List.forall_mem_cons.mpr ⟨zv37, List.forall_mem_cons.mpr ⟨zv38, List.forall_mem_cons.mpr ⟨zv39, List.forall_mem_cons.mpr ⟨zv40, List.forall_mem_cons.mpr ⟨zv41, List.forall_mem_cons.mpr ⟨zv42, List.forall_mem_cons.mpr ⟨zv43, List.forall_mem_cons.mpr ⟨zv44, List.forall_mem_cons.mpr ⟨zv45, List.forall_mem_cons.mpr ⟨zv46, List.forall_mem_cons.mpr ⟨zv47, fun _ h => absurd h List.not_mem_nil⟩⟩⟩⟩⟩⟩⟩⟩⟩⟩⟩⟩⟩⟩⟩⟩
theorem zvr3 : ∀ q ∈ [48, 49, 50, 51, 52, 53, 54, 55, 56, 57, 58, 59, 60, 61, 62, 63], zMv q = true := List.forall_mem_cons.mpr ⟨zv48, List.forall_mem_cons.mpr ⟨zv49, List.forall_mem_cons.mpr ⟨zv50, List.forall_mem_cons.mpr ⟨zv51, List.forall_mem_cons.mpr ⟨zv52, List.forall_mem_cons.mpr ⟨zv53, List.forall_mem_cons.mpr ⟨zv54, List.forall_mem_cons.mpr ⟨zv55, List.forall_mem_cons.mpr ⟨zv56, List.forall_mem_cons.mpr ⟨zv57, List.forall_mem_cons.mpr ⟨zv58, List.forall_mem_cons.mpr ⟨zv59, List.forall_mem_cons.mpr ⟨zv60, List.forall_mem_cons.mpr ⟨zv61, List.forall_mem_cons.mpr ⟨zv62, List.forall_mem_cons.mpr ⟨zv63, fun _ h => absurd h List.not_mem_nil⟩⟩⟩⟩⟩⟩⟩⟩⟩⟩⟩⟩⟩⟩⟩⟩
theorem zvr4 : ∀ q ∈ [64, 65, 66, 67, 68, 69, 70, 71, 72, 73, 74, 75, 76, 77, 78, 79], zMv q = true := List.forall_mem_cons.mpr ⟨zv64, List.forall_mem_cons.mpr ⟨zv65, List.forall_mem_cons.mpr ⟨zv66, List.forall_mem_cons.mpr ⟨zv67, List.forall_mem_cons.mpr ⟨zv68, List.forall_mem_cons.mpr ⟨zv69, List.forall_mem_cons.mpr ⟨zv70, List.forall_mem_cons.mpr ⟨zv71, List.forall_mem_cons.mpr ⟨zv72, List.forall_mem_cons.mpr ⟨zv73, List.forall_mem_cons.mpr ⟨zv74, List.forall_mem_cons.mpr ⟨zv75, List.forall_mem_cons.mpr ⟨zv76, List.forall_mem_cons.mpr ⟨zv77, List.forall_mem_cons.mpr ⟨zv78, List.forall_mem_cons.mpr ⟨zv79, fun _ h => absurd h List.not_mem_nil⟩⟩⟩⟩⟩⟩⟩⟩⟩⟩⟩⟩⟩⟩⟩⟩
theorem zvr5 : ∀ q ∈ [80, 81, 82, 83], zMv q = true := List.forall_mem_cons.mpr ⟨zv80, List.forall_mem_cons.mpr ⟨zv81, List.forall_mem_cons.mpr ⟨zv82, List.forall_mem_cons.mpr ⟨zv83, fun _ h => absurd h List.not_mem_nil⟩⟩⟩⟩
theorem zvs : ∀ q ∈ [0, 1, 2, 3, 4, 5, 6, 7, 8, 9, 10, 11, 12, 13, 14, 15] ++ ([16, 17, 18, 19, 20, 21, 22, 23, 24, 25, 26, 27, 28, 29, 30, 31] ++ ([32, 33, 34, 35, 36, 37, 38, 39, 40, 41, 42, 43, 44, 45, 46, 47] ++ ([48, 49, 50, 51, 52, 53, 54, 55, 56, 57, 58, 59, 60, 61, 62, 63] ++ ([64, 65, 66, 67, 68, 69, 70, 71, 72, 73, 74, 75, 76, 77, 78, 79] ++ ([80, 81, 82, 83]))))), zMv q = true := (List.forall_mem_append.mpr ⟨zvr0, (List.forall_mem_append.mpr ⟨zvr1, (List.forall_mem_append.mpr ⟨zvr2, (List.forall_mem_append.mpr ⟨zvr3, (List.forall_mem_append.mpr ⟨zvr4, zvr5⟩)⟩)⟩)⟩)⟩)
theorem zMv_all : ∀ mi, mi < 85 → mi ≠ nL_law → zMv mi = true := fun mi h h2 => zvs mi (of_decide_eq_true (List.all_eq_true.mp (by decide +kernel : ((List.range 85).all fun k => decide (k ≠ nL_law → k ∈ [0, 1, 2, 3, 4, 5, 6, 7, 8, 9, 10, 11, 12, 13, 14, 15] ++ ([16, 17, 18, 19, 20, 21, 22, 23, 24, 25, 26, 27, 28, 29, 30, 31] ++ ([32, 33, 34, 35, 36, 37, 38, 39, 40, 41, 42, 43, 44, 45, 46, 47] ++ ([48, 49, 50, 51, 52, 53, 54, 55, 56, 57, 58, 59, 60, 61, 62, 63] ++ ([64, 65, 66, 67, 68, 69, 70, 71, 72, 73, 74, 75, 76, 77, 78, 79] ++ ([80, 81, 82, 83]))))))) = true) mi (List.mem_range.mpr h)) h2)
set_option maxRecDepth 100000 in
theorem zCv_all : vwCl.all zCv = true := by decide +kernel
set_option maxRecDepth 100000 in
theorem zIn_max : lw_tbl.contains (.static Lib.Math.max.name) && lw_tbl.contains (.code Lib.Math.max.name Lib.Math.max.code 2 (some .int)) && lw_tbl.contains (.static Lib.Math.min.name) && lw_tbl.contains (.code Lib.Math.min.name Lib.Math.min.code 2 (some .int)) && lw_tbl.contains (.static Lib.Math.abs.name) && lw_tbl.contains (.code Lib.Math.abs.name Lib.Math.abs.code 1 (some .int)) && lw_tbl.contains (.initialized "java/lang/Math") = true := by decide +kernel
end
section
/-! A SMALL MACHINE: what a method's code does to numbers alone. A reference is a role (a place in zSh); the world's numbers are a pair of functions. -/
abbrev zF : Type := Nat → Nat → Int32
abbrev zL : Type := Nat → Nat → Int64
abbrev zS : Type := zF × zL
/-- an instruction, read ahead: (instr, next pc, a, b, c, e, place of its word, int, long, targets) -/
abbrev zOp : Type := Instr × Nat × Nat × Nat × Nat × Nat × Nat × Int32 × Int64 × List (Int32 × Nat)
abbrev zLo : Type := List (Option Value)
abbrev zPo : Type := Option Value → zS → Prop
abbrev zCa : Type := Nat → List Value → zS → zPo → Prop
abbrev zX : Type := Nat → zLo → List Value → zS → Prop
def zK (r : Nat) : zKd := zSh.getD r (9, 0, [])
def zIsO (r ci : Nat) : Bool := Nat.beq (zK r).1 0 && Nat.beq (zK r).2.1 ci
def zSl (r j : Nat) : Nat × Nat := (zK r).2.2.getD j (9, 0)
def zTo (r j : Nat) : Nat := (zSl r j).2
def zIsI (r : Nat) : Bool := Nat.beq (zK r).1 1
def zIsJ (r : Nat) : Bool := Nat.beq (zK r).1 2
def zN (r : Nat) : Nat := (zK r).2.1
def zG (b : Bool) (P : Prop) : Prop := match b with
  | true => P
  | false => False
def zSI (σ : zS) (r j : Nat) (x : Int32) : zS := (fun a => if a = r then upd (σ.1 a) j x else σ.1 a, σ.2)
def zSJ (σ : zS) (r j : Nat) (x : Int64) : zS := (σ.1, fun a => if a = r then vp_updL (σ.2 a) j x else σ.2 a)
def zSR (σ : zS) (r : Nat) (f : Nat → Int32) : zS := (fun a => if a = r then f else σ.1 a, σ.2)
-- what is taken off the stack
def zI (st : List Value) (k : Int32 → List Value → Prop) : Prop := match st with
  | .int x :: r => k x r
  | _ => False
def zJ (st : List Value) (k : Int64 → List Value → Prop) : Prop := match st with
  | .long x :: r => k x r
  | _ => False
def zA (st : List Value) (k : Nat → List Value → Prop) : Prop := match st with
  | .ref x :: r => k x r
  | _ => False
def zII (st : List Value) (k : Int32 → Int32 → List Value → Prop) : Prop := zI st fun y r => zI r fun x r => k x y r
def zJJ (st : List Value) (k : Int64 → Int64 → List Value → Prop) : Prop := zJ st fun y r => zJ r fun x r => k x y r
def zAI (st : List Value) (k : Nat → Int32 → List Value → Prop) : Prop := zI st fun i r => zA r fun a r => k a i r
def zCat : Value → Nat
  | .long _ => 2
  | .double _ => 2
  | _ => 1
def zV1 (st : List Value) (k : Value → List Value → Prop) : Prop := match st with
  | v :: r => zG (Nat.beq (zCat v) 1) (k v r)
  | _ => False
def zLg (ls : zLo) (i : Nat) (k : Value → Prop) : Prop := match ls.getD i none with
  | some v => k v
  | none => False
def zLi (ls : zLo) (i : Nat) (k : Int32 → Prop) : Prop := zLg ls i fun v => match v with
  | .int x => k x
  | _ => False
def zLj (ls : zLo) (i : Nat) (k : Int64 → Prop) : Prop := zLg ls i fun v => match v with
  | .long x => k x
  | _ => False
def zLa (ls : zLo) (i : Nat) (k : Nat → Prop) : Prop := zLg ls i fun v => match v with
  | .ref x => k x
  | _ => False
def zNo2 : Option Value → Option Value
  | some (.long _) => none
  | some (.double _) => none
  | o => o
def zS1 (v : Value) : zLo → Nat → zLo
  | [], _ => []
  | _ :: r, 0 => some v :: r
  | o :: r, 1 => zNo2 o :: zS1 v r 0
  | o :: r, i + 2 => o :: zS1 v r (i + 1)
def zS2 (v : Value) : zLo → Nat → zLo
  | [], _ => []
  | [_], _ => [none]
  | _ :: _ :: r, 0 => some v :: none :: r
  | o :: r, 1 => zNo2 o :: zS2 v r 0
  | o :: r, i + 2 => o :: zS2 v r (i + 1)
def zAr : List Value → zLo
  | [] => []
  | v :: r => match zCat v with
    | 2 => some v :: none :: zAr r
    | _ => some v :: zAr r
def zPn : Nat → List Value → List Value → (List Value → List Value → Prop) → Prop
  | 0, acc, st, k => k acc st
  | _ + 1, _, [], _ => False
  | n + 1, acc, v :: st, k => zPn n (v :: acc) st k
def zRc (av : List Value) (ci : Nat) : Bool := match av with
  | .ref r :: _ => zIsO r ci
  | _ => false
def zW8 : List Value → Nat
  | [] => 0
  | v :: r => zCat v + zW8 r
-- what a call hands back
def zPI (k : Int32 → zS → Prop) : zPo := fun r σ => ∃ x : Int32, r = some (.int x) ∧ k x σ
def zPJ (k : Int64 → zS → Prop) : zPo := fun r σ => ∃ x : Int64, r = some (.long x) ∧ k x σ
def zPV (k : zS → Prop) : zPo := fun r σ => r = none ∧ k σ
def zTb (x : Int32) (X : Nat → Prop) (d : Nat) : List (Int32 × Nat) → Prop
  | [] => X d
  | q :: r => (x = q.1 → X q.2) ∧ (¬ x = q.1 → zTb x X d r)
def zRI (st : List Value) (k : Int32 → Prop) : Prop := match st with
  | [.int x] => k x
  | _ => False
def zRJ (st : List Value) (k : Int64 → Prop) : Prop := match st with
  | [.long x] => k x
  | _ => False
def zRV (st : List Value) (k : Prop) : Prop := match st with
  | [] => k
  | _ => False
def zIf (c : Prop) (A B : Prop) : Prop := (c → A) ∧ (¬ c → B)
def zIl (sc : Option (Nat × (Nat → Int32))) (σ : zS) (q : Nat) (i : Int32) (k : Int32 → Prop) : Prop := match zIsI q with
  | true => vp_in i (zN q) ∧ k (σ.1 q i.toNatClampNeg)
  | false => match sc with
    | some s => zG (Nat.beq q 80) (vp_in i s.1 ∧ k (s.2 i.toNatClampNeg))
    | none => False
def zLe (sc : Option (Nat × (Nat → Int32))) (q : Nat) (k : Int32 → Prop) : Prop := match zIsI q || zIsJ q with
  | true => k (nI (zN q))
  | false => match sc with
    | some s => zG (Nat.beq q 80) (k (nI s.1))
    | none => False
/-- one instruction -/
def zEx (sc : Option (Nat × (Nat → Int32))) (C : zCa) (post : zPo) (X : zX) (o : zOp) (ls : zLo) (st : List Value) (σ : zS) : Prop := match o with
  | (i, n, a, b, c, e, _, v, w, tb) => match i with
    | .iconst _ => X n ls (.int v :: st) σ
    | .bipush _ => X n ls (.int v :: st) σ
    | .sipush _ => X n ls (.int v :: st) σ
    | .ldc _ => X n ls (.int v :: st) σ
    | .lconst _ => X n ls (.long w :: st) σ
    | .ldc2_w _ => X n ls (.long w :: st) σ
    | .iload_n _ => zLi ls a fun x => X n ls (.int x :: st) σ
    | .iload _ => zLi ls a fun x => X n ls (.int x :: st) σ
    | .lload_n _ => zLj ls a fun x => X n ls (.long x :: st) σ
    | .lload _ => zLj ls a fun x => X n ls (.long x :: st) σ
    | .aload_n _ => zLa ls a fun x => X n ls (.ref x :: st) σ
    | .aload _ => zLa ls a fun x => X n ls (.ref x :: st) σ
    | .istore_n _ => zI st fun x r => zG (Nat.blt a ls.length) (X n (zS1 (.int x) ls a) r σ)
    | .istore _ => zI st fun x r => zG (Nat.blt a ls.length) (X n (zS1 (.int x) ls a) r σ)
    | .lstore_n _ => zJ st fun x r => zG (Nat.blt (a + 1) ls.length) (X n (zS2 (.long x) ls a) r σ)
    | .lstore _ => zJ st fun x r => zG (Nat.blt (a + 1) ls.length) (X n (zS2 (.long x) ls a) r σ)
    | .astore_n _ => zA st fun x r => zG (Nat.blt a ls.length) (X n (zS1 (.ref x) ls a) r σ)
    | .iinc _ _ => zLi ls a fun x => X n (zS1 (.int (x + v)) ls a) st σ
    | .iadd => zII st fun x y r => X n ls (.int (x + y) :: r) σ
    | .isub => zII st fun x y r => X n ls (.int (x - y) :: r) σ
    | .imul => zII st fun x y r => X n ls (.int (x * y) :: r) σ
    | .iand => zII st fun x y r => X n ls (.int (x &&& y) :: r) σ
    | .ishl => zII st fun x y r => X n ls (.int (x <<< (y &&& 31)) :: r) σ
    | .ishr => zII st fun x y r => X n ls (.int (x >>> (y &&& 31)) :: r) σ
    | .idiv => zII st fun x y r => ¬ y = 0 ∧ X n ls (.int (x / y) :: r) σ
    | .irem => zII st fun x y r => ¬ y = 0 ∧ X n ls (.int (x - x / y * y) :: r) σ
    | .ineg => zI st fun x r => X n ls (.int (-x) :: r) σ
    | .ladd => zJJ st fun x y r => X n ls (.long (x + y) :: r) σ
    | .lsub => zJJ st fun x y r => X n ls (.long (x - y) :: r) σ
    | .lmul => zJJ st fun x y r => X n ls (.long (x * y) :: r) σ
    | .ldiv => zJJ st fun x y r => ¬ y = 0 ∧ X n ls (.long (x / y) :: r) σ
    | .lcmp => zJJ st fun x y r => X n ls (.int (lg_cmp x y) :: r) σ
    | .i2l => zI st fun x r => X n ls (.long x.toInt64 :: r) σ
    | .l2i => zJ st fun x r => X n ls (.int x.toInt32 :: r) σ
    | .dup => zV1 st fun v r => X n ls (v :: v :: r) σ
    | .pop => zV1 st fun _ r => X n ls r σ
    | .dup2 => zV1 st fun v r => zV1 r fun u r => X n ls (v :: u :: v :: u :: r) σ
    | .ifCond .eq _ => zI st fun x r => zIf (x = 0) (X a ls r σ) (X n ls r σ)
    | .ifCond .ne _ => zI st fun x r => zIf (x = 0) (X n ls r σ) (X a ls r σ)
    | .ifCond .lt _ => zI st fun x r => zIf (x < 0) (X a ls r σ) (X n ls r σ)
    | .ifCond .ge _ => zI st fun x r => zIf (x < 0) (X n ls r σ) (X a ls r σ)
    | .ifCond .gt _ => zI st fun x r => zIf (x ≤ 0) (X n ls r σ) (X a ls r σ)
    | .ifCond .le _ => zI st fun x r => zIf (x ≤ 0) (X a ls r σ) (X n ls r σ)
    | .if_icmp .eq _ => zII st fun x y r => zIf (x = y) (X a ls r σ) (X n ls r σ)
    | .if_icmp .ne _ => zII st fun x y r => zIf (x = y) (X n ls r σ) (X a ls r σ)
    | .if_icmp .lt _ => zII st fun x y r => zIf (x < y) (X a ls r σ) (X n ls r σ)
    | .if_icmp .ge _ => zII st fun x y r => zIf (x < y) (X n ls r σ) (X a ls r σ)
    | .if_icmp .gt _ => zII st fun x y r => zIf (x ≤ y) (X n ls r σ) (X a ls r σ)
    | .if_icmp .le _ => zII st fun x y r => zIf (x ≤ y) (X a ls r σ) (X n ls r σ)
    | .goto _ => X a ls st σ
    | .tableswitch _ _ _ _ => zI st fun x r => zTb x (fun p => X p ls r σ) a tb
    | .lookupswitch _ _ => zI st fun x r => zTb x (fun p => X p ls r σ) a tb
    | .getfield _ => zA st fun q r => zG (zIsO q a && Nat.beq (zSl q b).1 c) (match c with
      | 0 => X n ls (.ref (zTo q b) :: r) σ
      | 1 => X n ls (.int (σ.1 q b) :: r) σ
      | 2 => X n ls (.int (σ.1 q b) :: r) σ
      | 3 => X n ls (.long (σ.2 q b) :: r) σ
      | _ => False)
    | .putfield _ => match c with
      | 1 => zI st fun x r => zA r fun q r => zG (zIsO q a && Nat.beq (zSl q b).1 1) (X n ls r (zSI σ q b x))
      | 2 => zI st fun x r => zA r fun q r => zG (zIsO q a && Nat.beq (zSl q b).1 2) (zG (x == 0 || x == 1) (X n ls r (zSI σ q b x)))
      | 3 => zJ st fun x r => zA r fun q r => zG (zIsO q a && Nat.beq (zSl q b).1 3) (X n ls r (zSJ σ q b x))
      | _ => False
    | .iaload => zAI st fun q i r => zIl sc σ q i fun x => X n ls (.int x :: r) σ
    | .laload => zAI st fun q i r => zG (zIsJ q) (vp_in i (zN q) ∧ X n ls (.long (σ.2 q i.toNatClampNeg) :: r) σ)
    | .iastore => zI st fun x r => zAI r fun q i r => zG (zIsI q) (vp_in i (zN q) ∧ X n ls r (zSI σ q i.toNatClampNeg x))
    | .lastore => zJ st fun x r => zAI r fun q i r => zG (zIsJ q) (vp_in i (zN q) ∧ X n ls r (zSJ σ q i.toNatClampNeg x))
    | .arraylength => zA st fun q r => zLe sc q fun x => X n ls (.int x :: r) σ
    | .invokevirtual _ => zPn b [] st fun av r => zG (zRc av e && Nat.ble (zW8 r) 8) (match c with
      | 0 => C a av σ (zPV fun σ => X n ls r σ)
      | 1 => C a av σ (zPI fun x σ => X n ls (.int x :: r) σ)
      | _ => C a av σ (zPJ fun x σ => X n ls (.long x :: r) σ))
    | .invokestatic _ => match e with
      | 0 => zPn b [] st fun av r => zG (Nat.ble (zW8 r) 8) (match c with
        | 0 => C a av σ (zPV fun σ => X n ls r σ)
        | 1 => C a av σ (zPI fun x σ => X n ls (.int x :: r) σ)
        | _ => C a av σ (zPJ fun x σ => X n ls (.long x :: r) σ))
      | 1 => zII st fun x y r => zG (Nat.ble (zW8 r) 8) (X n ls (.int (if x < y then y else x) :: r) σ)
      | 2 => zII st fun x y r => zG (Nat.ble (zW8 r) 8) (X n ls (.int (if y < x then y else x) :: r) σ)
      | 3 => zI st fun x r => zG (Nat.ble (zW8 r) 8) (X n ls (.int (if 0 ≤ x then x else 0 - x) :: r) σ)
      | _ => False
    | .ireturn => zRI st fun x => match c with
      | 1 => zG (x == 0 || x == 1) (post (some (.int x)) σ)
      | _ => post (some (.int x)) σ
    | .lreturn => zRJ st fun x => post (some (.long x)) σ
    | .return_ => zRV st (post none σ)
    | _ => False
/-! what a program checks of the code -/
def zTbOk (pc : Nat) : Int → List Int → List (Int32 × Nat) → Bool
  | _, [], [] => true
  | k, o :: os, q :: tb => decide (q.1.toInt = k) && decide ((pc : Int) + o = (q.2 : Int)) && zTbOk pc (k + 1) os tb
  | _, _, _ => false
def zLkOk (pc : Nat) : List (Int × Int) → List (Int32 × Nat) → Bool
  | [], [] => true
  | o :: os, q :: tb => decide (q.1.toInt = o.1) && decide ((pc : Int) + o.2 = (q.2 : Int)) && zLkOk pc os tb
  | _, _ => false
def zRk (r : Option FieldType) (c : Nat) : Bool := match r, c with
  | none, 0 => true
  | some .int, 1 => true
  | some .boolean, 1 => true
  | some .long, 2 => true
  | _, _ => false
def zKt : Nat → FieldType
  | 1 => .int
  | 2 => .boolean
  | _ => .long
def zFl (own : String) (idx a b g : Nat) : Bool := decide (lw_tbl[g]? = some (.fieldLink own idx ((zCl a).2.1 b).1 ((zCl a).2.1 b).2.1 ((zCl a).2.1 b).2.2.1))
def zFn (own : String) (idx a b g : Nat) : Bool := decide (lw_tbl[g]? = some (.fieldLinkNest own idx ((zCl a).2.1 b).1 ((zCl a).2.1 b).2.1 ((zCl a).2.1 b).2.2.1 "RatePlanner"))
/-- the code at a place is this instruction, read ahead -/
def zOk (mi pc : Nat) (o : zOp) : Bool := match o with
  | (i, n, a, b, c, e, g, v, w, tb) => Nat.blt pc n && decide (decode (zBy mi) pc = .ok (i, n - pc)) && (match i with
    | .iconst z => Nat.beq (n - pc) 1 && decide (Int32.ofInt z = v)
    | .bipush z => Nat.beq (n - pc) 2 && decide ((Int8.ofInt z).toInt32 = v)
    | .sipush z => Nat.beq (n - pc) 3 && decide ((Int16.ofInt z).toInt32 = v)
    | .ldc idx => Nat.beq (n - pc) 2 && decide (lw_tbl[g]? = some (.constant (zY mi).cls idx v))
    | .lconst z => Nat.beq (n - pc) 1 && decide (Int64.ofNat (z : Nat) = w)
    | .ldc2_w idx => Nat.beq (n - pc) 3 && decide (lw_tbl[g]? = some (.constantLong (zY mi).cls idx w))
    | .iload_n k => Nat.beq (n - pc) 1 && Nat.beq k.val a
    | .iload k => Nat.beq (n - pc) 2 && Nat.beq k a
    | .lload_n k => Nat.beq (n - pc) 1 && Nat.beq k.val a
    | .lload k => Nat.beq (n - pc) 2 && Nat.beq k a
    | .aload_n k => Nat.beq (n - pc) 1 && Nat.beq k.val a
    | .aload k => Nat.beq (n - pc) 2 && Nat.beq k a
    | .istore_n k => Nat.beq (n - pc) 1 && Nat.beq k.val a
    | .istore k => Nat.beq (n - pc) 2 && Nat.beq k a
    | .lstore_n k => Nat.beq (n - pc) 1 && Nat.beq k.val a
    | .lstore k => Nat.beq (n - pc) 2 && Nat.beq k a
    | .astore_n k => Nat.beq (n - pc) 1 && Nat.beq k.val a
    | .iinc k z => Nat.beq (n - pc) 3 && Nat.beq k a && decide (Int32.ofInt z = v)
    | .ifCond _ off => Nat.beq (n - pc) 3 && decide ((pc : Int) + off = (a : Int))
    | .if_icmp _ off => Nat.beq (n - pc) 3 && decide ((pc : Int) + off = (a : Int))
    | .goto off => Nat.beq (n - pc) 3 && decide ((pc : Int) + off = (a : Int))
    | .tableswitch d lo hi offs => decide ((pc : Int) + d = (a : Int)) && decide (hi = lo + (offs.toList.length : Int) - 1) && zTbOk pc lo offs.toList tb
    | .lookupswitch d ps => decide ((pc : Int) + d = (a : Int)) && (ps.toList.zip (ps.toList.drop 1)).all (fun (x, y) => x.1 < y.1) && zLkOk pc ps.toList tb
    | .getfield idx => Nat.beq (n - pc) 3 && Nat.blt a 12 && Nat.blt b (zCl a).2.2 && (zFl (zY mi).cls idx a b g || zFn (zY mi).cls idx a b g)
    | .putfield idx => Nat.beq (n - pc) 3 && Nat.blt a 12 && Nat.blt b (zCl a).2.2 && zFl (zY mi).cls idx a b g && !((zCl a).2.1 b).2.2.2 && decide (parseFieldDescriptor ((zCl a).2.1 b).2.2.1 = some (zKt c))
    | .invokevirtual idx => Nat.beq (n - pc) 3 && Nat.blt a 85 && !(Nat.beq a nL_law) && !(zMs a) && Nat.beq e (zMc a) && !(decide ((zY a).name = "<init>")) && Nat.blt 0 b && decide ((parseMethodDescriptor (zY a).desc).map (fun d => d.parameters.length) = some (b - 1)) && zRk (zRt a) c &&
      (decide (lw_tbl[g]? = some (.methodLink (zY mi).cls idx (zY a))) || decide (lw_tbl[g]? = some (.methodLinkNest (zY mi).cls idx (zY a) "RatePlanner")))
    | .invokestatic idx => Nat.beq (n - pc) 3 && (match e with
      | 0 => Nat.blt a 85 && !(Nat.beq a nL_law) && zMs a && decide ((parseMethodDescriptor (zY a).desc).map (fun d => d.parameters.length) = some b) && zRk (zRt a) c &&
        (decide (lw_tbl[g]? = some (.methodLink (zY mi).cls idx (zY a))) || decide (lw_tbl[g]? = some (.methodLinkNest (zY mi).cls idx (zY a) "RatePlanner")))
      | 1 => decide (lw_tbl[g]? = some (.methodLink (zY mi).cls idx Lib.Math.max.name))
      | 2 => decide (lw_tbl[g]? = some (.methodLink (zY mi).cls idx Lib.Math.min.name))
      | 3 => decide (lw_tbl[g]? = some (.methodLink (zY mi).cls idx Lib.Math.abs.name))
      | _ => false)
    | .ireturn => Nat.beq (n - pc) 1 && (match zRt mi, c with
      | some .int, 0 => true
      | some .boolean, 1 => true
      | _, _ => false)
    | .lreturn => Nat.beq (n - pc) 1 && decide (zRt mi = some .long)
    | .return_ => Nat.beq (n - pc) 1 && decide (zRt mi = none)
    | _ => Nat.beq (n - pc) 1)
def zOks (mi : Nat) : List zOp → Nat → Bool
  | [], _ => true
  | o :: r, p => zOk mi p o && zOks mi r o.2.1
end
section
/-! the world of a pair of functions, as the kit's cells; locals; what is taken off the stack -/
def zR (ad : Nat → Nat) : Value → Value
  | .ref r => .ref (ad r)
  | v => v
def zFs (ad : Nat → Nat) (σ : zS) (r : Nat) : Nat → List (Nat × Nat) → List Value
  | _, [] => []
  | j, s :: t => (match s.1 with
    | 0 => .ref (ad s.2)
    | 3 => .long (σ.2 r j)
    | _ => .int (σ.1 r j)) :: zFs ad σ r (j + 1) t
def zEn (ad : Nat → Nat) (cI cJ : ClassId) (σ : zS) (r : Nat) (kd : zKd) : va_E := match kd.1 with
  | 0 => .inr (kd.2.1, zFs ad σ r 0 kd.2.2)
  | 1 => .inl (cI, kd.2.1, .inl (σ.1 r))
  | _ => .inl (cJ, kd.2.1, .inr (.inl (σ.2 r)))
def zWA (ad : Nat → Nat) (cI cJ : ClassId) (σ : zS) : Nat → List zKd → va_W
  | _, [] => []
  | r, kd :: t => (ad r, zEn ad cI cJ σ r kd) :: zWA ad cI cJ σ (r + 1) t
def zW (ad : Nat → Nat) (cI cJ : ClassId) (σ : zS) : va_W := zWA ad cI cJ σ 0 zSh
theorem zFs_len (ad : Nat → Nat) (σ : zS) (r : Nat) : ∀ (sl : List (Nat × Nat)) (j : Nat), (zFs ad σ r j sl).length = sl.length
  | [], _ => rfl
  | _ :: t, j => by simp only [zFs, List.length_cons, zFs_len ad σ r t (j + 1)]
theorem zFs_get (ad : Nat → Nat) (σ : zS) (r : Nat) : ∀ (sl : List (Nat × Nat)) (j k : Nat) (s : Nat × Nat), sl[k]? = some s → (zFs ad σ r j sl)[k]? = some (match s.1 with
    | 0 => .ref (ad s.2)
    | 3 => .long (σ.2 r (j + k))
    | _ => .int (σ.1 r (j + k)))
  | [], _, _, _, h => by simp at h
  | q :: t, j, 0, s, h => by
    simp only [List.getElem?_cons_zero, Option.some.injEq] at h
    subst h
    simp only [zFs, List.getElem?_cons_zero, Nat.add_zero]
  | q :: t, j, k + 1, s, h => by
    simp only [List.getElem?_cons_succ] at h
    have e := zFs_get ad σ r t (j + 1) k s h
    simp only [zFs, List.getElem?_cons_succ, e, show j + 1 + k = j + (k + 1) by omega]
theorem zFs_cong (ad : Nat → Nat) {σ τ : zS} (r : Nat) (h1 : τ.1 r = σ.1 r) (h2 : τ.2 r = σ.2 r) : ∀ (sl : List (Nat × Nat)) (j : Nat), zFs ad τ r j sl = zFs ad σ r j sl
  | [], _ => rfl
  | q :: t, j => by simp only [zFs, h1, h2, zFs_cong ad r h1 h2 t (j + 1)]
theorem zFs_far (ad : Nat → Nat) {σ τ : zS} (r k : Nat) (h1 : ∀ j, j ≠ k → τ.1 r j = σ.1 r j) (h2 : ∀ j, j ≠ k → τ.2 r j = σ.2 r j) : ∀ (sl : List (Nat × Nat)) (j : Nat), k < j → zFs ad τ r j sl = zFs ad σ r j sl
  | [], _, _ => rfl
  | q :: t, j, h => by simp only [zFs, h1 j (by omega), h2 j (by omega), zFs_far ad r k h1 h2 t (j + 1) (by omega)]
theorem zFs_setI (ad : Nat → Nat) (σ : zS) (r : Nat) (x : Int32) : ∀ (sl : List (Nat × Nat)) (j k : Nat) (s : Nat × Nat), sl[k]? = some s → (s.1 = 1 ∨ s.1 = 2) → (zFs ad σ r j sl).set k (.int x) = zFs ad (zSI σ r (j + k) x) r j sl
  | [], _, _, _, h, _ => by simp at h
  | q :: t, j, 0, s, h, hs => by
    simp only [List.getElem?_cons_zero, Option.some.injEq] at h
    subst h
    have e : zFs ad (zSI σ r (j + 0) x) r (j + 1) t = zFs ad σ r (j + 1) t := zFs_far ad (τ := zSI σ r (j + 0) x) (σ := σ) r j (fun i hi => by simp [zSI, upd, hi]) (fun i hi => rfl) t (j + 1) (by omega)
    simp only [zFs, List.set_cons_zero, e]
    rcases hs with hs | hs <;> simp [hs, zSI, upd]
  | q :: t, j, k + 1, s, h, hs => by
    simp only [List.getElem?_cons_succ] at h
    have e := zFs_setI ad σ r x t (j + 1) k s h hs
    rw [show j + 1 + k = j + (k + 1) by omega] at e
    simp only [zFs, List.set_cons_succ, e]
    have h1 : (zSI σ r (j + (k + 1)) x).1 r j = σ.1 r j := by
      have : ¬ j = j + (k + 1) := by omega
      simp [zSI, upd, this]
    simp only [h1]
    rfl
theorem zFs_setJ (ad : Nat → Nat) (σ : zS) (r : Nat) (x : Int64) : ∀ (sl : List (Nat × Nat)) (j k : Nat) (s : Nat × Nat), sl[k]? = some s → s.1 = 3 → (zFs ad σ r j sl).set k (.long x) = zFs ad (zSJ σ r (j + k) x) r j sl
  | [], _, _, _, h, _ => by simp at h
  | q :: t, j, 0, s, h, hs => by
    simp only [List.getElem?_cons_zero, Option.some.injEq] at h
    subst h
    have e : zFs ad (zSJ σ r (j + 0) x) r (j + 1) t = zFs ad σ r (j + 1) t := zFs_far ad (τ := zSJ σ r (j + 0) x) (σ := σ) r j (fun i hi => rfl) (fun i hi => by simp [zSJ, vp_updL, hi]) t (j + 1) (by omega)
    simp only [zFs, List.set_cons_zero, e]
    simp [hs, zSJ, vp_updL]
  | q :: t, j, k + 1, s, h, hs => by
    simp only [List.getElem?_cons_succ] at h
    have e := zFs_setJ ad σ r x t (j + 1) k s h hs
    rw [show j + 1 + k = j + (k + 1) by omega] at e
    simp only [zFs, List.set_cons_succ, e]
    have h1 : (zSJ σ r (j + (k + 1)) x).2 r j = σ.2 r j := by
      have : ¬ j = j + (k + 1) := by omega
      simp [zSJ, vp_updL, this]
    simp only [h1]
    rfl
theorem zEn_cong (ad : Nat → Nat) (cI cJ : ClassId) {σ τ : zS} (r : Nat) (h1 : τ.1 r = σ.1 r) (h2 : τ.2 r = σ.2 r) (kd : zKd) : zEn ad cI cJ τ r kd = zEn ad cI cJ σ r kd := by
  unfold zEn
  rw [zFs_cong ad r h1 h2, h1, h2]
theorem zWA_get (ad : Nat → Nat) (cI cJ : ClassId) (σ : zS) : ∀ (l : List zKd) (r k : Nat) (kd : zKd), l[k]? = some kd → (zWA ad cI cJ σ r l)[k]? = some (ad (r + k), zEn ad cI cJ σ (r + k) kd)
  | [], _, _, _, h => by simp at h
  | q :: t, r, 0, kd, h => by
    simp only [List.getElem?_cons_zero, Option.some.injEq] at h
    subst h
    rfl
  | q :: t, r, k + 1, kd, h => by
    simp only [List.getElem?_cons_succ] at h
    have e := zWA_get ad cI cJ σ t (r + 1) k kd h
    simp only [zWA, List.getElem?_cons_succ, e, show r + 1 + k = r + (k + 1) by omega]
theorem zWA_len (ad : Nat → Nat) (cI cJ : ClassId) (σ : zS) : ∀ (l : List zKd) (r : Nat), (zWA ad cI cJ σ r l).length = l.length
  | [], _ => rfl
  | _ :: t, r => by simp only [zWA, List.length_cons, zWA_len ad cI cJ σ t (r + 1)]
theorem zWA_far (ad : Nat → Nat) (cI cJ : ClassId) {σ τ : zS} (k : Nat) (h : ∀ r kd, r ≠ k → zEn ad cI cJ τ r kd = zEn ad cI cJ σ r kd) : ∀ (l : List zKd) (r : Nat), k < r → zWA ad cI cJ τ r l = zWA ad cI cJ σ r l
  | [], _, _ => rfl
  | q :: t, r, hr => by simp only [zWA, h r q (by omega), zWA_far ad cI cJ k h t (r + 1) (by omega)]
theorem zWA_set (ad : Nat → Nat) (cI cJ : ClassId) {σ τ : zS} : ∀ (l : List zKd) (r k : Nat) (kd : zKd), (∀ a kd, a ≠ r + k → zEn ad cI cJ τ a kd = zEn ad cI cJ σ a kd) → l[k]? = some kd → (zWA ad cI cJ σ r l).set k (ad (r + k), zEn ad cI cJ τ (r + k) kd) = zWA ad cI cJ τ r l
  | [], _, _, _, _, h => by simp at h
  | q :: t, r, 0, kd, hc, h => by
    simp only [List.getElem?_cons_zero, Option.some.injEq] at h
    subst h
    simp only [zWA, List.set_cons_zero, Nat.add_zero, zWA_far ad cI cJ r (fun a kd ha => hc a kd (by omega)) t (r + 1) (by omega)]
  | q :: t, r, k + 1, kd, hc, h => by
    simp only [List.getElem?_cons_succ] at h
    have e := zWA_set ad cI cJ (τ := τ) (σ := σ) t (r + 1) k kd (fun a kd ha => hc a kd (by omega)) h
    rw [show r + 1 + k = r + (k + 1) by omega] at e
    simp only [zWA, List.set_cons_succ, e, hc r q (by omega)]
theorem zW_get (ad : Nat → Nat) (cI cJ : ClassId) (σ : zS) {r : Nat} {kd : zKd} (h : zSh[r]? = some kd) : (zW ad cI cJ σ)[r]? = some (ad r, zEn ad cI cJ σ r kd) := by
  have e := zWA_get ad cI cJ σ zSh 0 r kd h
  rwa [Nat.zero_add] at e
theorem zW_set (ad : Nat → Nat) (cI cJ : ClassId) {σ τ : zS} {r : Nat} {kd : zKd} (h : zSh[r]? = some kd) (h1 : ∀ a, a ≠ r → τ.1 a = σ.1 a) (h2 : ∀ a, a ≠ r → τ.2 a = σ.2 a) : (zW ad cI cJ σ).set r (ad r, zEn ad cI cJ τ r kd) = zW ad cI cJ τ := by
  have e := zWA_set ad cI cJ (τ := τ) (σ := σ) zSh 0 r kd (fun a k ha => zEn_cong ad cI cJ a (h1 a (by omega)) (h2 a (by omega)) k) h
  rwa [Nat.zero_add] at e
theorem zSI_1 {σ : zS} {r j : Nat} {x : Int32} {a : Nat} (h : a ≠ r) : (zSI σ r j x).1 a = σ.1 a := by simp [zSI, h]
theorem zSI_s {σ : zS} {r j : Nat} {x : Int32} : (zSI σ r j x).1 r = upd (σ.1 r) j x := by simp [zSI]
theorem zSJ_1 {σ : zS} {r j : Nat} {x : Int64} {a : Nat} (h : a ≠ r) : (zSJ σ r j x).2 a = σ.2 a := by simp [zSJ, h]
theorem zSJ_s {σ : zS} {r j : Nat} {x : Int64} : (zSJ σ r j x).2 r = vp_updL (σ.2 r) j x := by simp [zSJ]
theorem zSR_1 {σ : zS} {r : Nat} {f : Nat → Int32} {a : Nat} (h : a ≠ r) : (zSR σ r f).1 a = σ.1 a := by simp [zSR, h]
theorem zSR_s {σ : zS} {r : Nat} {f : Nat → Int32} : (zSR σ r f).1 r = f := by simp [zSR]
-- the shape
theorem zK_some {r : Nat} (h : ¬ (zK r).1 = 9) : zSh[r]? = some (zK r) := by
  unfold zK at h ⊢
  rw [List.getD_eq_getElem?_getD] at h ⊢
  cases e : zSh[r]? with
  | none => rw [e] at h; exact absurd rfl h
  | some q => rfl
theorem zIsO_spec {r ci : Nat} (h : zIsO r ci = true) : ∃ sl, zSh[r]? = some (0, ci, sl) ∧ ∀ j, zSl r j = sl.getD j (9, 0) := by
  simp only [zIsO, Bool.and_eq_true] at h
  have h1 := Nat.eq_of_beq_eq_true h.1
  have h2 := Nat.eq_of_beq_eq_true h.2
  have e := zK_some (r := r) (by omega)
  refine ⟨(zK r).2.2, ?_, fun j => rfl⟩
  rw [e, ← h1, ← h2]
theorem zIsI_spec {r : Nat} (h : zIsI r = true) : ∃ sl, zSh[r]? = some (1, zN r, sl) := by
  have h1 := Nat.eq_of_beq_eq_true h
  have e := zK_some (r := r) (by omega)
  exact ⟨(zK r).2.2, by rw [e, ← h1]; rfl⟩
theorem zIsJ_spec {r : Nat} (h : zIsJ r = true) : ∃ sl, zSh[r]? = some (2, zN r, sl) := by
  have h1 := Nat.eq_of_beq_eq_true h
  have e := zK_some (r := r) (by omega)
  exact ⟨(zK r).2.2, by rw [e, ← h1]; rfl⟩
theorem zGetD_some {sl : List (Nat × Nat)} {j : Nat} (h : ¬ (sl.getD j (9, 0)).1 = 9) : sl[j]? = some (sl.getD j (9, 0)) := by
  rw [List.getD_eq_getElem?_getD] at h ⊢
  cases e : sl[j]? with
  | none => rw [e] at h; exact absurd rfl h
  | some q => rfl
-- off the stack
theorem zG_inv {b : Bool} {P : Prop} (h : zG b P) : b = true ∧ P := by
  cases b with
  | true => exact ⟨rfl, h⟩
  | false => exact False.elim h
theorem zI_inv {st : List Value} {k : Int32 → List Value → Prop} (h : zI st k) : ∃ x r, st = .int x :: r ∧ k x r := by
  cases st with
  | nil => exact False.elim h
  | cons v r => cases v <;> first | exact ⟨_, _, rfl, h⟩ | exact False.elim h
theorem zJ_inv {st : List Value} {k : Int64 → List Value → Prop} (h : zJ st k) : ∃ x r, st = .long x :: r ∧ k x r := by
  cases st with
  | nil => exact False.elim h
  | cons v r => cases v <;> first | exact ⟨_, _, rfl, h⟩ | exact False.elim h
theorem zA_inv {st : List Value} {k : Nat → List Value → Prop} (h : zA st k) : ∃ x r, st = .ref x :: r ∧ k x r := by
  cases st with
  | nil => exact False.elim h
  | cons v r => cases v <;> first | exact ⟨_, _, rfl, h⟩ | exact False.elim h
theorem zII_inv {st : List Value} {k : Int32 → Int32 → List Value → Prop} (h : zII st k) : ∃ x y r, st = .int y :: .int x :: r ∧ k x y r := by
  obtain ⟨y, r, rfl, h1⟩ := zI_inv h
  obtain ⟨x, r2, rfl, h2⟩ := zI_inv h1
  exact ⟨x, y, r2, rfl, h2⟩
theorem zJJ_inv {st : List Value} {k : Int64 → Int64 → List Value → Prop} (h : zJJ st k) : ∃ x y r, st = .long y :: .long x :: r ∧ k x y r := by
  obtain ⟨y, r, rfl, h1⟩ := zJ_inv h
  obtain ⟨x, r2, rfl, h2⟩ := zJ_inv h1
  exact ⟨x, y, r2, rfl, h2⟩
theorem zAI_inv {st : List Value} {k : Nat → Int32 → List Value → Prop} (h : zAI st k) : ∃ a i r, st = .int i :: .ref a :: r ∧ k a i r := by
  obtain ⟨y, r, rfl, h1⟩ := zI_inv h
  obtain ⟨x, r2, rfl, h2⟩ := zA_inv h1
  exact ⟨x, y, r2, rfl, h2⟩
theorem zCat_R (ad : Nat → Nat) (v : Value) : (zR ad v).category = zCat v := by cases v <;> rfl
theorem zV1_inv {st : List Value} {k : Value → List Value → Prop} (h : zV1 st k) : ∃ v r, st = v :: r ∧ zCat v = 1 ∧ k v r := by
  cases st with
  | nil => exact False.elim h
  | cons v r =>
    obtain ⟨h1, h2⟩ := zG_inv h
    exact ⟨v, r, rfl, Nat.eq_of_beq_eq_true h1, h2⟩
theorem zLg_inv {ls : zLo} {i : Nat} {k : Value → Prop} (h : zLg ls i k) : ∃ v, ls.getD i none = some v ∧ k v := by
  unfold zLg at h
  cases e : ls.getD i none with
  | none => rw [e] at h; exact False.elim h
  | some v => rw [e] at h; exact ⟨v, rfl, h⟩
theorem zLi_inv {ls : zLo} {i : Nat} {k : Int32 → Prop} (h : zLi ls i k) : ∃ x, ls.getD i none = some (.int x) ∧ k x := by
  obtain ⟨v, e, h⟩ := zLg_inv h
  cases v <;> first | exact ⟨_, e, h⟩ | exact False.elim h
theorem zLj_inv {ls : zLo} {i : Nat} {k : Int64 → Prop} (h : zLj ls i k) : ∃ x, ls.getD i none = some (.long x) ∧ k x := by
  obtain ⟨v, e, h⟩ := zLg_inv h
  cases v <;> first | exact ⟨_, e, h⟩ | exact False.elim h
theorem zLa_inv {ls : zLo} {i : Nat} {k : Nat → Prop} (h : zLa ls i k) : ∃ x, ls.getD i none = some (.ref x) ∧ k x := by
  obtain ⟨v, e, h⟩ := zLg_inv h
  cases v <;> first | exact ⟨_, e, h⟩ | exact False.elim h
theorem zW8_R (ad : Nat → Nat) : ∀ r : List Value, ((r.map (zR ad)).map fun v => v.category).sum = zW8 r
  | [] => rfl
  | v :: r => by simp only [List.map_cons, List.sum_cons, zCat_R, zW8_R ad r, zW8]
theorem zPn_inv : ∀ (n : Nat) (acc st : List Value) (k : List Value → List Value → Prop), zPn n acc st k → ∃ av r, av.length = n ∧ st = av ++ r ∧ k (av.reverse ++ acc) r
  | 0, acc, st, k, h => ⟨[], st, rfl, rfl, h⟩
  | n + 1, acc, [], k, h => False.elim h
  | n + 1, acc, v :: st, k, h => by
    obtain ⟨av, r, h1, h2, h3⟩ := zPn_inv n (v :: acc) st k h
    exact ⟨v :: av, r, by simp [h1], by simp [h2], by simpa using h3⟩
theorem zTb_inv {x : Int32} {X : Nat → Prop} {d : Nat} : ∀ {tb : List (Int32 × Nat)}, zTb x X d tb → (∃ (k : Nat) (q : Int32 × Nat), tb[k]? = some q ∧ x = q.1 ∧ X q.2 ∧ ∀ (j : Nat) (p : Int32 × Nat), j < k → tb[j]? = some p → ¬ x = p.1) ∨ ((∀ (k : Nat) (q : Int32 × Nat), tb[k]? = some q → ¬ x = q.1) ∧ X d)
  | [], h => Or.inr ⟨fun k q e => by simp at e, h⟩
  | q :: r, h => by
    by_cases e : x = q.1
    · exact Or.inl ⟨0, q, rfl, e, h.1 e, fun j p hj => absurd hj (Nat.not_lt_zero j)⟩
    · rcases zTb_inv (h.2 e) with ⟨k, p, h1, h2, h3, h4⟩ | ⟨h1, h2⟩
      · refine Or.inl ⟨k + 1, p, h1, h2, h3, fun j p' hj hp => ?_⟩
        cases j with
        | zero =>
          simp only [List.getElem?_cons_zero, Option.some.injEq] at hp
          rw [← hp]; exact e
        | succ j => exact h4 j p' (by omega) hp
      · refine Or.inr ⟨fun k p hp => ?_, h2⟩
        cases k with
        | zero =>
          simp only [List.getElem?_cons_zero, Option.some.injEq] at hp
          rw [← hp]; exact e
        | succ j => exact h1 j p hp
-- the locals
def zAs (ad : Nat → Nat) : Nat → zLo → List (Nat × Value)
  | _, [] => []
  | i, none :: r => zAs ad (i + 1) r
  | i, some v :: r => (i, zR ad v) :: zAs ad (i + 1) r
theorem zAs_mem (ad : Nat → Nat) : ∀ (lv : zLo) (k : Nat) (q : Nat × Value), q ∈ zAs ad k lv ↔ ∃ j v, lv[j]? = some (some v) ∧ q = (k + j, zR ad v)
  | [], k, q => by simp [zAs]
  | none :: r, k, q => by
    simp only [zAs]
    rw [zAs_mem ad r (k + 1) q]
    constructor
    · rintro ⟨j, v, h1, h2⟩
      exact ⟨j + 1, v, h1, by rw [h2, show k + 1 + j = k + (j + 1) by omega]⟩
    · rintro ⟨j, v, h1, h2⟩
      cases j with
      | zero => simp at h1
      | succ j => exact ⟨j, v, h1, by rw [h2, show k + 1 + j = k + (j + 1) by omega]⟩
  | some u :: r, k, q => by
    simp only [zAs, List.mem_cons]
    rw [zAs_mem ad r (k + 1) q]
    constructor
    · rintro (h | ⟨j, v, h1, h2⟩)
      · exact ⟨0, u, rfl, h⟩
      · exact ⟨j + 1, v, h1, by rw [h2, show k + 1 + j = k + (j + 1) by omega]⟩
    · rintro ⟨j, v, h1, h2⟩
      cases j with
      | zero =>
        simp only [List.getElem?_cons_zero, Option.some.injEq] at h1
        exact Or.inl (by rw [h2, h1]; rfl)
      | succ j => exact Or.inr ⟨j, v, h1, by rw [h2, show k + 1 + j = k + (j + 1) by omega]⟩
def zHas (ad : Nat → Nat) (ls : Array Slot) (nL : Nat) (lv : zLo) : Prop := lv_has ls nL (zAs ad 0 lv) ∧ lv.length ≤ nL
theorem zHas.at {ad : Nat → Nat} {ls : Array Slot} {nL : Nat} {lv : zLo} (h : zHas ad ls nL lv) {i : Nat} {v : Value} (e : lv.getD i none = some v) : ls[i]? = some (.val (zR ad v)) := by
  have e2 : lv[i]? = some (some v) := by
    rw [List.getD_eq_getElem?_getD] at e
    cases e3 : lv[i]? with
    | none => rw [e3] at e; simp at e
    | some o => rw [e3] at e; simp at e; rw [e]
  exact h.1.2.2 (i, zR ad v) ((zAs_mem ad lv 0 _).mpr ⟨i, v, e2, by rw [Nat.zero_add]⟩)
theorem zHas.lt {ad : Nat → Nat} {ls : Array Slot} {nL : Nat} {lv : zLo} (h : zHas ad ls nL lv) {i : Nat} {v : Value} (e : lv.getD i none = some v) : i < nL := by
  have h1 := (Array.getElem?_eq_some_iff.mp (h.at e)).1
  rw [h.1.1] at h1
  exact h1
theorem zNo2_some {o : Option Value} {u : Value} (h : zNo2 o = some u) : o = some u ∧ ¬ zCat u = 2 := by
  cases o with
  | none => cases h
  | some v => cases v <;> first | (cases h; done) | (simp only [zNo2, Option.some.injEq] at h; subst h; exact ⟨rfl, by simp [zCat]⟩)
theorem zS1_len (v : Value) : ∀ (lv : zLo) (i : Nat), (zS1 v lv i).length = lv.length
  | [], _ => rfl
  | _ :: r, 0 => rfl
  | o :: r, 1 => by simp only [zS1, List.length_cons, zS1_len v r 0]
  | o :: r, i + 2 => by simp only [zS1, List.length_cons, zS1_len v r (i + 1)]
theorem zS1_get (v : Value) : ∀ (lv : zLo) (i j : Nat) (u : Value), (zS1 v lv i)[j]? = some (some u) → (j = i ∧ u = v) ∨ (j ≠ i ∧ lv[j]? = some (some u) ∧ ¬ (j + 1 = i ∧ zCat u = 2))
  | [], _, _, _, h => by simp [zS1] at h
  | o :: r, 0, j, u, h => by
    cases j with
    | zero => simp only [zS1, List.getElem?_cons_zero, Option.some.injEq] at h; exact Or.inl ⟨rfl, h.symm⟩
    | succ j => exact Or.inr ⟨by omega, h, by omega⟩
  | o :: r, 1, j, u, h => by
    cases j with
    | zero =>
      simp only [zS1, List.getElem?_cons_zero, Option.some.injEq] at h
      obtain ⟨e, h2⟩ := zNo2_some h
      exact Or.inr ⟨by omega, by rw [e]; rfl, fun q => h2 q.2⟩
    | succ j =>
      rcases zS1_get v r 0 j u h with ⟨h1, h2⟩ | ⟨h1, h2, h3⟩
      · exact Or.inl ⟨by omega, h2⟩
      · exact Or.inr ⟨by omega, h2, by omega⟩
  | o :: r, i + 2, j, u, h => by
    cases j with
    | zero => exact Or.inr ⟨by omega, h, by omega⟩
    | succ j =>
      rcases zS1_get v r (i + 1) j u h with ⟨h1, h2⟩ | ⟨h1, h2, h3⟩
      · exact Or.inl ⟨by omega, h2⟩
      · exact Or.inr ⟨by omega, h2, fun q => h3 ⟨by omega, q.2⟩⟩
theorem zS2_len (v : Value) : ∀ (lv : zLo) (i : Nat), (zS2 v lv i).length = lv.length
  | [], _ => rfl
  | [_], _ => rfl
  | _ :: _ :: r, 0 => rfl
  | o :: p :: r, 1 => by simp only [zS2, List.length_cons, zS2_len v (p :: r) 0]
  | o :: p :: r, i + 2 => by simp only [zS2, List.length_cons, zS2_len v (p :: r) (i + 1)]
theorem zS2_get (v : Value) : ∀ (lv : zLo) (i j : Nat) (u : Value), (zS2 v lv i)[j]? = some (some u) → (j = i ∧ u = v) ∨ (j ≠ i ∧ j ≠ i + 1 ∧ lv[j]? = some (some u) ∧ ¬ (j + 1 = i ∧ zCat u = 2))
  | [], _, _, _, h => by simp [zS2] at h
  | [o], i, j, u, h => by
    cases j <;> simp [zS2] at h
  | o :: p :: r, 0, j, u, h => by
    cases j with
    | zero => simp only [zS2, List.getElem?_cons_zero, Option.some.injEq] at h; exact Or.inl ⟨rfl, h.symm⟩
    | succ j =>
      cases j with
      | zero => simp [zS2] at h
      | succ j => exact Or.inr ⟨by omega, by omega, h, by omega⟩
  | o :: p :: r, 1, j, u, h => by
    cases j with
    | zero =>
      simp only [zS2, List.getElem?_cons_zero, Option.some.injEq] at h
      obtain ⟨e, h2⟩ := zNo2_some h
      exact Or.inr ⟨by omega, by omega, by rw [e]; rfl, fun q => h2 q.2⟩
    | succ j =>
      rcases zS2_get v (p :: r) 0 j u h with ⟨h1, h2⟩ | ⟨h1, h2, h3, h4⟩
      · exact Or.inl ⟨by omega, h2⟩
      · exact Or.inr ⟨by omega, by omega, h3, by omega⟩
  | o :: p :: r, i + 2, j, u, h => by
    cases j with
    | zero => exact Or.inr ⟨by omega, by omega, h, by omega⟩
    | succ j =>
      rcases zS2_get v (p :: r) (i + 1) j u h with ⟨h1, h2⟩ | ⟨h1, h2, h3, h4⟩
      · exact Or.inl ⟨by omega, h2⟩
      · exact Or.inr ⟨by omega, by omega, h3, fun q => h4 ⟨by omega, q.2⟩⟩
theorem zHas.st1 {ad : Nat → Nat} {ls : Array Slot} {nL : Nat} {lv : zLo} (h : zHas ad ls nL lv) {i : Nat} {v : Value} {ls' : Array Slot} (h' : lv_has ls' nL ((i, zR ad v) :: (zAs ad 0 lv).filter (fun q => !(q.1 == i) && !(q.1 + 1 == i && q.2.category == 2)))) : zHas ad ls' nL (zS1 v lv i) := by
  refine ⟨⟨h'.1, h'.2.1, fun q hq => h'.2.2 q ?_⟩, by rw [zS1_len]; exact h.2⟩
  obtain ⟨j, u, h1, rfl⟩ := (zAs_mem ad _ 0 q).mp hq
  rw [Nat.zero_add]
  rcases zS1_get v lv i j u h1 with ⟨rfl, rfl⟩ | ⟨h2, h3, h4⟩
  · exact List.mem_cons_self
  · refine List.mem_cons_of_mem _ (List.mem_filter.mpr ⟨(zAs_mem ad lv 0 _).mpr ⟨j, u, h3, by rw [Nat.zero_add]⟩, ?_⟩)
    simp only [zCat_R]
    simp only [Bool.and_eq_true, Bool.not_eq_true', beq_eq_false_iff_ne, ne_eq, Bool.and_eq_false_iff]
    exact ⟨h2, by by_cases e : j + 1 = i
                  · exact Or.inr (fun e2 => h4 ⟨e, e2⟩)
                  · exact Or.inl e⟩
theorem zHas.st2 {ad : Nat → Nat} {ls : Array Slot} {nL : Nat} {lv : zLo} (h : zHas ad ls nL lv) {i : Nat} {v : Value} {ls' : Array Slot} (h' : lv_has ls' nL ((i, zR ad v) :: (zAs ad 0 lv).filter (fun q => !(q.1 == i) && (!(q.1 == i + 1) && !(q.1 + 1 == i && q.2.category == 2))))) : zHas ad ls' nL (zS2 v lv i) := by
  refine ⟨⟨h'.1, h'.2.1, fun q hq => h'.2.2 q ?_⟩, by rw [zS2_len]; exact h.2⟩
  obtain ⟨j, u, h1, rfl⟩ := (zAs_mem ad _ 0 q).mp hq
  rw [Nat.zero_add]
  rcases zS2_get v lv i j u h1 with ⟨rfl, rfl⟩ | ⟨h2, h2', h3, h4⟩
  · exact List.mem_cons_self
  · refine List.mem_cons_of_mem _ (List.mem_filter.mpr ⟨(zAs_mem ad lv 0 _).mpr ⟨j, u, h3, by rw [Nat.zero_add]⟩, ?_⟩)
    simp only [zCat_R]
    simp only [Bool.and_eq_true, Bool.not_eq_true', beq_eq_false_iff_ne, ne_eq, Bool.and_eq_false_iff]
    exact ⟨h2, h2', by by_cases e : j + 1 = i
                       · exact Or.inr (fun e2 => h4 ⟨e, e2⟩)
                       · exact Or.inl e⟩
theorem zAr_len (ad : Nat → Nat) : ∀ av : List Value, (lg_sl (av.map (zR ad))).length = (zAr av).length
  | [] => rfl
  | v :: r => by
    have e := zAr_len ad r
    simp only [lg_sl] at e
    rcases (show zCat v = 2 ∨ zCat v = 1 by cases v <;> simp [zCat]) with h | h
    · simp [lg_sl, zAr, h, zCat_R, e]
    · simp [lg_sl, zAr, h, zCat_R, e]
theorem zAr_args (ad : Nat → Nat) : ∀ (av : List Value) (k n : Nat) (q : Nat × Value), q ∈ zAs ad k (zAr av ++ List.replicate n none) → q ∈ lv_args k (av.map (zR ad))
  | [], k, n, q, h => by
    obtain ⟨j, v, h1, -⟩ := (zAs_mem ad _ k q).mp h
    simp only [zAr, List.nil_append] at h1
    have := List.eq_of_mem_replicate (List.mem_of_getElem? h1)
    cases this
  | v :: r, k, n, q, h => by
    rcases (show zCat v = 2 ∨ zCat v = 1 by cases v <;> simp [zCat]) with e | e
    · simp only [zAr, e, List.cons_append, zAs, List.mem_cons] at h
      simp only [List.map_cons, lv_args, zCat_R, e, if_true, List.mem_cons]
      rcases h with h | h
      · exact Or.inl h
      · exact Or.inr (zAr_args ad r (k + 2) n q h)
    · simp only [zAr, e, List.cons_append, zAs, List.mem_cons] at h
      simp only [List.map_cons, lv_args, zCat_R, e, List.mem_cons]
      rcases h with h | h
      · exact Or.inl h
      · exact Or.inr (zAr_args ad r (k + 1) n q h)
theorem zHas.entry (ad : Nat → Nat) (av : List Value) (n : Nat) (h : (zAr av).length ≤ n) : zHas ad ((lg_sl (av.map (zR ad)) ++ List.replicate (n - (lg_sl (av.map (zR ad))).length) Slot.unset).toArray) n (zAr av ++ List.replicate (n - (zAr av).length) none) := by
  have e := lv_entry (av.map (zR ad)) (n := n) (by rw [zAr_len]; exact h)
  exact ⟨⟨e.1, e.2.1, fun q hq => e.2.2 q (zAr_args ad av 0 _ q hq)⟩, by simp; omega⟩
-- fewer locals
def zMb : List Bool → zLo → zLo
  | true :: b, o :: r => o :: zMb b r
  | false :: b, _ :: r => none :: zMb b r
  | _, _ => []
def zMk : List (Nat × List Bool) → Nat → zLo → zLo
  | [], _, ls => ls
  | q :: r, pc, ls => match Nat.beq q.1 pc with
    | true => zMb q.2 ls
    | false => zMk r pc ls
theorem zMb_get : ∀ (b : List Bool) (lv : zLo) (j : Nat) (u : Value), (zMb b lv)[j]? = some (some u) → lv[j]? = some (some u)
  | true :: b, o :: r, 0, u, h => h
  | true :: b, o :: r, j + 1, u, h => zMb_get b r j u h
  | false :: b, o :: r, 0, u, h => by simp [zMb] at h
  | false :: b, o :: r, j + 1, u, h => zMb_get b r j u h
  | [], lv, j, u, h => by simp [zMb] at h
  | true :: b, [], j, u, h => by simp [zMb] at h
  | false :: b, [], j, u, h => by simp [zMb] at h
theorem zMb_len : ∀ (b : List Bool) (lv : zLo), (zMb b lv).length ≤ lv.length
  | true :: b, o :: r => by simp only [zMb, List.length_cons]; have := zMb_len b r; omega
  | false :: b, o :: r => by simp only [zMb, List.length_cons]; have := zMb_len b r; omega
  | [], lv => by simp [zMb]
  | true :: b, [] => by simp [zMb]
  | false :: b, [] => by simp [zMb]
theorem zMk_get : ∀ (ms : List (Nat × List Bool)) (pc : Nat) (lv : zLo), (∀ (j : Nat) (u : Value), (zMk ms pc lv)[j]? = some (some u) → lv[j]? = some (some u)) ∧ (zMk ms pc lv).length ≤ lv.length
  | [], pc, lv => ⟨fun _ _ h => h, Nat.le_refl _⟩
  | q :: r, pc, lv => by
    unfold zMk
    cases Nat.beq q.1 pc with
    | true => exact ⟨zMb_get q.2 lv, zMb_len q.2 lv⟩
    | false => exact zMk_get r pc lv
theorem zHas.mk {ad : Nat → Nat} {ls : Array Slot} {nL : Nat} {lv : zLo} (h : zHas ad ls nL lv) (ms : List (Nat × List Bool)) (pc : Nat) : zHas ad ls nL (zMk ms pc lv) := by
  obtain ⟨h1, h2⟩ := zMk_get ms pc lv
  refine ⟨⟨h.1.1, h.1.2.1, fun q hq => h.1.2.2 q ?_⟩, Nat.le_trans h2 h.2⟩
  obtain ⟨j, v, e1, e2⟩ := (zAs_mem ad _ 0 q).mp hq
  exact (zAs_mem ad lv 0 q).mpr ⟨j, v, h1 j v e1, e2⟩
end
section
/-! the small machine is the machine: one instruction -/
def zClosed (sc : Option (Nat × (Nat → Int32))) (C : zCa) (post : zPo) (mi : Nat) (X : zX) : Prop :=
  (∀ (Z : zX) (pc : Nat) (o : zOp) (ls : zLo) (st : List Value) (σ : zS), (∀ (pc : Nat) (ls : zLo) (st : List Value) (σ : zS), Z pc ls st σ → X pc ls st σ) → zOk mi pc o = true → zEx sc C post Z o ls st σ → X pc ls st σ) ∧
  ∀ (ms : List (Nat × List Bool)) (pc : Nat) (ls : zLo) (st : List Value) (σ : zS), X pc (zMk ms pc ls) st σ → X pc ls st σ
def zCall : Nat → zCa
  | 0 => fun _ _ _ _ => False
  | d + 1 => fun mi av σ post => zG (Nat.ble (zAr av).length (zMl mi)) (∀ X : zX, zClosed none (zCall d) post mi X → X 0 (zAr av ++ List.replicate (zMl mi - (zAr av).length) none) [] σ)
/-- the same, of the law's own methods, which see the script -/
def zCallS (sc : Option (Nat × (Nat → Int32))) : Nat → zCa
  | 0 => fun _ _ _ _ => False
  | d + 1 => fun mi av σ post => zG (Nat.ble (zAr av).length (zMl mi)) (∀ X : zX, zClosed sc (zCallS sc d) post mi X → X 0 (zAr av ++ List.replicate (zMl mi - (zAr av).length) none) [] σ)
theorem zPn_mono : ∀ (n : Nat) (acc st : List Value) (k k2 : List Value → List Value → Prop), (∀ av r, k av r → k2 av r) → zPn n acc st k → zPn n acc st k2
  | 0, _, _, _, _, hk, h => hk _ _ h
  | _ + 1, _, [], _, _, _, h => False.elim h
  | n + 1, acc, v :: st, k, k2, hk, h => zPn_mono n (v :: acc) st k k2 hk h
theorem zG_imp2 {b : Bool} {P Q : Prop} (f : P → Q) (h : zG b P) : zG b Q := by
  obtain ⟨rfl, h2⟩ := zG_inv h
  exact f h2
theorem zEx_mono {sc : Option (Nat × (Nat → Int32))} {C C2 : zCa} (hC : ∀ a av σ po, C a av σ po → C2 a av σ po) {post : zPo} {Z : zX} {o : zOp} {lv : zLo} {st : List Value} {σ : zS} (h : zEx none C post Z o lv st σ) : zEx sc C2 post Z o lv st σ := by
  obtain ⟨i, n, a, b, c, e, g, v, w, tb⟩ := o
  cases i with
  | iaload =>
    obtain ⟨q, i, r, rfl, h0⟩ := zAI_inv (show zAI st fun q i r => zIl none σ q i fun x => Z n lv (.int x :: r) σ from h)
    show zIl sc σ q i fun x => Z n lv (.int x :: r) σ
    unfold zIl at h0 ⊢
    cases hz : zIsI q with
    | true => rw [hz] at h0; exact h0
    | false => rw [hz] at h0; exact False.elim h0
  | arraylength =>
    obtain ⟨q, r, rfl, h0⟩ := zA_inv (show zA st fun q r => zLe none q fun x => Z n lv (.int x :: r) σ from h)
    show zLe sc q fun x => Z n lv (.int x :: r) σ
    unfold zLe at h0 ⊢
    cases hz : (zIsI q || zIsJ q) with
    | true => rw [hz] at h0; exact h0
    | false => rw [hz] at h0; exact False.elim h0
  | invokevirtual z => exact zPn_mono b [] st _ _ (fun av r hq => zG_imp2 (fun q => by
    match c, q with
    | 0, q => exact hC _ _ _ _ q
    | 1, q => exact hC _ _ _ _ q
    | k + 2, q => exact hC _ _ _ _ q) hq) h
  | invokestatic z =>
    match e, h with
    | 0, h => exact zPn_mono b [] st _ _ (fun av r hq => zG_imp2 (fun q => by
      match c, q with
      | 0, q => exact hC _ _ _ _ q
      | 1, q => exact hC _ _ _ _ q
      | k + 2, q => exact hC _ _ _ _ q) hq) h
    | 1, h => exact h
    | 2, h => exact h
    | 3, h => exact h
    | k + 4, h => exact False.elim h
  | ifCond cd z => cases cd <;> exact h
  | if_icmp cd z => cases cd <;> exact h
  | getfield z => exact h
  | putfield z => exact h
  | _ => first | exact h | exact False.elim h
/-- what a method does that never sees the script, it does beside it -/
theorem zUp {sc : Option (Nat × (Nat → Int32))} : ∀ {d a : Nat} {av : List Value} {σ : zS} {post : zPo}, zCall d a av σ post → zCallS sc d a av σ post
  | 0, _, _, _, _, h => False.elim h
  | d + 1, a, av, σ, post, h => zG_imp2 (fun hr X hX => hr X ⟨fun Z pc o ls st σ hZ hk hx => hX.1 Z pc o ls st σ hZ hk (zEx_mono (fun _ _ _ _ q => zUp q) hx), hX.2⟩) h
def zSeq (sc : Option (Nat × (Nat → Int32))) (C : zCa) (post : zPo) (X : zX) (ms : List (Nat × List Bool)) : List zOp → Nat → zX
  | [], _ => fun pc ls st σ => X pc (zMk ms pc ls) st σ
  | o :: r, p => fun pc ls st σ => match Nat.beq pc p with
    | true => zEx sc C post (zSeq sc C post X ms r o.2.1) o ls st σ
    | false => zSeq sc C post X ms r o.2.1 pc ls st σ
theorem zSeq_ok {sc : Option (Nat × (Nat → Int32))} {C : zCa} {post : zPo} {mi : Nat} {X : zX} (hX : zClosed sc C post mi X) (ms : List (Nat × List Bool)) : ∀ (is : List zOp) (p pc : Nat) (ls : zLo) (st : List Value) (σ : zS), zOks mi is p = true → zSeq sc C post X ms is p pc ls st σ → X pc ls st σ
  | [], p, pc, ls, st, σ, _, h => hX.2 ms pc ls st σ h
  | o :: r, p, pc, ls, st, σ, hk, h => by
    simp only [zOks, Bool.and_eq_true] at hk
    simp only [zSeq] at h
    cases e : Nat.beq pc p with
    | true =>
      rw [e] at h
      have e2 := Nat.eq_of_beq_eq_true e
      subst e2
      exact hX.1 _ pc o ls st σ (fun pc ls st σ h => zSeq_ok hX ms r o.2.1 pc ls st σ hk.2 h) hk.1 h
    | false =>
      rw [e] at h
      exact zSeq_ok hX ms r o.2.1 pc ls st σ hk.2 h
def zWs (mi : Nat) : List Cond := .code (zY mi) (zBy mi) (zMl mi) (zRt mi) :: zTg
def zRm (d : Nat) : Room := { frames := d, cells := 0, slots := 0, locals := 32 * d }
def zA0 (ad : Nat → Nat) (sz : Nat) : Nat → Prop := fun q => (∃ k, k < zSh.length ∧ ad k = q) ∨ sz ≤ q
def zQ (D : va_G) (cI cJ : ClassId) (ad : Nat → Nat) (sz : Nat) (post : zPo) : Array Value → State → Outcome → State → Prop := fun _ st oc t => (∃ (r : Option Value) (σ : zS), oc = .returned r ∧ post r σ ∧ va_P D vwCl (zW ad cI cJ σ) t.heap) ∧ va_F (zA0 ad sz) st t
def zB (sc : Option (Nat × (Nat → Int32))) (D : va_G) (cI cJ : ClassId) (ad : Nat → Nat) (sz : Nat) (σ : zS) : State → Prop := fun U => U.heap.size = sz ∧ va_P D vwCl (zW ad cI cJ σ) U.heap ∧ va_K D vwCl [(cI, .int), (cJ, .long)] U ∧ (∀ w ∈ zNw, va_Nw w U) ∧ ∀ t, sc = some t → va_X (ad 80) t.1 t.2 U U.heap ∧ ad 80 < sz ∧ ∀ k, k < zSh.length → ad k ≠ ad 80
def zCon (sc : Option (Nat × (Nat → Int32))) (l : Launch) (D : va_G) (cI cJ : ClassId) (ad : Nat → Nat) (d : Nat) (mi : Nat) (av : List Value) (σ : zS) (post : zPo) : Prop :=
  ∀ sz : Nat, Met l (zY mi) (zWs mi) (zRm d) (va_Pc (av.map (zR ad)) (zB sc D cI cJ ad sz σ)) (zQ D cI cJ ad sz post) 0 0 (zA0 ad sz)
theorem zLen {bs : ByteArray} {pc n k : Nat} {i : Instr} (h1 : Nat.blt pc n = true) (h2 : decode bs pc = .ok (i, n - pc)) (h3 : Nat.beq (n - pc) k = true) : n = pc + k ∧ decode bs pc = .ok (i, k) := by
  have a := Nat.le_of_ble_eq_true h1
  have b := Nat.eq_of_beq_eq_true h3
  exact ⟨by omega, by rw [← b]; exact h2⟩
theorem zW_inv {ad : Nat → Nat} {cI cJ : ClassId} {σ : zS} {k : Nat} {q : Nat × va_E} (h : (zW ad cI cJ σ)[k]? = some q) : k < zSh.length ∧ q.1 = ad k := by
  have hl : k < (zW ad cI cJ σ).length := (List.getElem?_eq_some_iff.mp h).1
  have hz : (zW ad cI cJ σ).length = zSh.length := zWA_len ad cI cJ σ zSh 0
  rw [hz] at hl
  have e := zW_get ad cI cJ σ (List.getElem?_eq_getElem hl)
  rw [h] at e
  exact ⟨hl, congrArg Prod.fst (Option.some.inj e)⟩
theorem zD_of {ad : Nat → Nat} {cI cJ : ClassId} {A : Nat → Prop} (hi : ∀ i j, i < zSh.length → j < zSh.length → ad i = ad j → i = j) (hA : ∀ k, k < zSh.length → A (ad k)) (σ : zS) : va_D A (zW ad cI cJ σ) := by
  refine ⟨fun i j x y hx hy e => ?_, fun k q h => ?_⟩
  · obtain ⟨h1, h2⟩ := zW_inv hx
    obtain ⟨h3, h4⟩ := zW_inv hy
    exact hi i j h1 h3 (by rw [← h2, ← h4, e])
  · obtain ⟨h1, h2⟩ := zW_inv h
    rw [h2]
    exact hA k h1
section ZS
variable {p : Program} {l : Launch} {e : Env} {R : Room} {s : State} {m : MethodId} {args : Array Value} {below : List Frame} {meth : Method} {c : Code} {H : Heap} {locs : List Loc} {cells slots : Nat} {Q : State → Prop}
theorem z_callG {pc : Nat} {ls : Array Slot} {rest st0 : List Value} {Qa : State → Outcome → State → Prop} {free : Addr → Prop} (hr : va_Run p l e R s m args below meth c H locs cells slots 0 0 (F0 m pc ls st0) rest Qa free)
    (kk : ∀ (v : Option Value) (st₀ t : State) (H1 : Heap) (L : List Loc), st₀.heap = H → t.heap = H1 → Qa st₀ (.returned v) t → (∀ q ∈ L, free q.base) → W p l e R s m args below meth c H1 (locs ++ L) cells slots Q (F0 m (pc + 3) ls (v.toList ++ rest))) : W p l e R s m args below meth c H locs cells slots Q (F0 m pc ls st0) := by
  intro T hT X
  obtain ⟨v, st₀, t, T', L, h0, X', hL, e1, e2, hq, st⟩ := hr T hT X
  obtain ⟨t2, a1, b1⟩ := kk v st₀ t T'.heap L h0 e1.symm hq hL T' rfl X'
  exact ⟨t2, st t2 a1, b1⟩
theorem zS_call {ad : Nat → Nat} {A : Nat → Prop} {H0 H1 : Heap} {st₀ t : State} {L : List Loc} (hS : va_S A H0 H locs) (hAd : ∀ k, k < zSh.length → A (ad k)) (hA : ∀ q, H0.size ≤ q → A q) (h0 : st₀.heap = H) (hF : va_F (zA0 ad H.size) st₀ t) (ht : t.heap = H1) (hL : ∀ q ∈ L, zA0 ad H.size q.base) : va_S A H0 H1 (locs ++ L) := by
  subst h0; subst ht
  have hz : ∀ q, zA0 ad st₀.heap.size q → A q := by
    intro q h
    rcases h with ⟨k, h1, h2⟩ | h
    · rw [← h2]; exact hAd k h1
    · exact hA q (Nat.le_trans hS.1 h)
  refine ⟨Nat.le_trans hS.1 hF.1, fun q h1 h2 => ?_, fun q hq => ?_⟩
  · rw [hF.2 q (Nat.lt_of_lt_of_le h1 hS.1) (fun z => h2 (hz q z))]
    exact hS.2.1 q h1 h2
  · rcases List.mem_append.mp hq with h | h
    · exact hS.2.2 q h
    · exact hz _ (hL q h)
end ZS
theorem zTg_GoodIn {ws : List Cond} (h : ∀ w ∈ ws, w ∈ zTg) : GoodIn zTg ws := fun w hw => ⟨h w hw, (zTg_good (h w hw)).2⟩
theorem zMv_spec {a : Nat} (h : a < 85) (h2 : a ≠ nL_law) : (Cond.code (zY a) (zBy a) (zMl a) (zRt a) ∈ zTg) ∧ (Cond.initialized (zY a).cls ∈ zTg) ∧ ((zY a).cls ≠ "java/lang/invoke/MethodHandle" ∧ (zY a).cls ≠ "java/lang/invoke/VarHandle") ∧ plainName (zY a).cls = true ∧ zMl a ≤ 13 ∧
    (zMs a = true → Cond.static (zY a) ∈ zTg) ∧ (zMs a = false → Cond.instanceMethod (zY a) ∈ zTg ∧ ((zY a).name = "<init>" ∨ Cond.selects (zY a).cls (zY a) (zY a) ∈ zTg) ∧ zMc a < 12 ∧ (zCl (zMc a)).1 = (zY a).cls) := by
  have h3 := zMv_all a h h2
  simp only [zMv, zNoH, Bool.and_eq_true, decide_eq_true_eq] at h3
  obtain ⟨⟨⟨⟨⟨h4, h5⟩, h6⟩, h7⟩, h8⟩, h9⟩ := h3
  refine ⟨zin _ h4 rfl, zin _ h5 rfl, h6, h7, Nat.le_of_ble_eq_true h8, fun q => ?_, fun q => ?_⟩
  · rw [q] at h9
    exact zin _ (of_decide_eq_true h9) rfl
  · rw [q] at h9
    simp only [Bool.and_eq_true, Bool.or_eq_true, decide_eq_true_eq] at h9
    obtain ⟨⟨⟨g1, g2⟩, g3⟩, g4⟩ := h9
    exact ⟨zin _ g1 rfl, g2.imp id (fun z => zin _ z rfl), Nat.le_of_ble_eq_true g3, g4⟩
theorem zCl_get {a : Nat} (h : a < 12) : vwCl[a]? = some ((zCl a).1, (zCl a).2.1, (zCl a).2.2) ∧ zCv (zCl a) = true := by
  have hl : a < vwCl.length := h
  have e : vwCl[a]? = some (zCl a) := by
    unfold zCl
    rw [List.getD_eq_getElem?_getD, List.getElem?_eq_getElem hl]
    rfl
  exact ⟨e, List.all_eq_true.mp zCv_all _ (List.mem_of_getElem? e)⟩
theorem zCv_spec {q : vw_C} (h : zCv q = true) : (∀ w ∈ u_ws q.1 q.2.1 q.2.2, w ∈ zTg) ∧ (∀ k, k < q.2.2 → parseFieldDescriptor (q.2.1 k).2.2.1 = some ((parseFieldDescriptor (q.2.1 k).2.2.1).getD .int)) ∧ (∀ a, a < q.2.2 → ∀ b, b < q.2.2 → a ≠ b → (q.2.1 a).2.1 ≠ (q.2.1 b).2.1) := by
  simp only [zCv, Bool.and_eq_true] at h
  obtain ⟨h1, h2⟩ := h
  refine ⟨fun w hw => ?_, fun k hk => ?_, fun a ha b hb hab => ?_⟩
  · have e := List.all_eq_true.mp h1 w hw
    simp only [Bool.and_eq_true, decide_eq_true_eq] at e
    exact List.mem_filter.mpr e
  · have e := List.all_eq_true.mp h2 k (List.mem_range.mpr hk)
    simp only [Bool.and_eq_true] at e
    obtain ⟨v, hv⟩ := Option.isSome_iff_exists.mp e.1
    rw [hv]; rfl
  · have e := List.all_eq_true.mp h2 b (List.mem_range.mpr hb)
    simp only [Bool.and_eq_true] at e
    have e2 := List.all_eq_true.mp e.2 a (List.mem_range.mpr ha)
    simp only [Bool.or_eq_true, decide_eq_true_eq] at e2
    rcases e2 with e2 | e2
    · exact absurd (Nat.eq_of_beq_eq_true e2) hab
    · exact e2
theorem zNw_kind {w : Cond} (h : w ∈ zNw) : zNst w = true := (List.mem_filter.mp h).2
theorem zNw_same {w : Cond} (h : w ∈ zNw) {u U : State} (hv : u.vm = U.vm) (hZ : va_Nw w u) : va_Nw w U := by
  have hk := zNw_kind h
  cases w <;> first | (exact va_Nw.same rfl hv hZ) | (exact absurd hk (by simp [zNst]))
theorem zNw_warm {w : Cond} (h : w ∈ zNw) {s U : State} (hW : s.WarmedH U.vm) (hZ : va_Nw w s) : va_Nw w U := by
  have hk := zNw_kind h
  cases w <;> first | (exact va_Nw.warmF hW hZ) | (exact va_Nw.warmM hW hZ) | (exact absurd hk (by simp [zNst]))
theorem zB_blind (sc : Option (Nat × (Nat → Int32))) (D : va_G) (cI cJ : ClassId) (ad : Nat → Nat) (sz : Nat) (σ : zS) (av : List Value) : FrameBlind (va_Pc av (zB sc D cI cJ ad sz σ)) := by
  intro a U g mk q
  obtain ⟨q0, q1, qP, qK, qN, qX⟩ := q
  exact ⟨q0, q1, qP, va_K.moved (u := U) (U := U.calling g mk a) (Vm.Alike.refl U.vm) qK, fun w hw => zNw_same hw (u := U) (U := U.calling g mk a) rfl (qN w hw), fun t ht => ⟨va_X.moved (u := U) (U := U.calling g mk a) (Vm.Alike.refl U.vm) (qX t ht).1, (qX t ht).2⟩⟩
end
section
/-! the small machine's instruction is the machine's -/
/-- what holds in a method's frame -/
def zCx (p : Program) (l : Launch) (R : Room) (s : State) (m : MethodId) (args : Array Value) (meth : Method) (c : Code) (cells slots : Nat) (D : va_G) (cI cJ : ClassId) (ad : Nat → Nat) (A : Nat → Prop) (d mi : Nat) : Prop :=
  p.tables.exec = Jvm.exec ∧ c.code = zBy mi ∧ c.maxLocals = zMl mi ∧ s.vm.findClass (zY mi).cls = some m.cls ∧ (∀ w ∈ zTg, w.before args s = true) ∧ (∀ w ∈ zNw, va_Nw w s) ∧ va_K D vwCl [(cI, .int), (cJ, .long)] s ∧ (∀ i j, i < zSh.length → j < zSh.length → ad i = ad j → i = j) ∧ (∀ k, k < zSh.length → A (ad k)) ∧ (∀ q, s.heap.size ≤ q → A q) ∧ cells ≤ R.cells ∧ slots ≤ R.slots ∧ d + 1 ≤ R.frames ∧ 32 * (d + 1) ≤ R.locals
theorem z01_nar {x : Int32} (h : (x == 0 || x == 1) = true) : narrow .boolean (.int x) = .int x := by
  simp only [Bool.or_eq_true, beq_iff_eq] at h
  rcases h with rfl | rfl <;> rfl
section ZX
variable {p : Program} {l : Launch} {e : Env} {R : Room} {s : State} {m : MethodId} {args : Array Value} {below : List Frame} {meth : Method} {c : Code} {cells slots : Nat} {Q : State → Prop} {D : va_G} {cI cJ : ClassId} {ad : Nat → Nat} {A : Nat → Prop} {d mi : Nat}
def zXs (p : Program) (l : Launch) (e : Env) (R : Room) (s : State) (m : MethodId) (args : Array Value) (below : List Frame) (meth : Method) (c : Code) (cells slots : Nat) (Q : State → Prop) (D : va_G) (cI cJ : ClassId) (ad : Nat → Nat) (A : Nat → Prop) (mi : Nat) : zX := fun pc lv st σ =>
  ∀ (H : Heap) (locs : List Loc) (ls : Array Slot), va_P D vwCl (zW ad cI cJ σ) H → va_S A s.heap H locs → zHas ad ls (zMl mi) lv → W p l e R s m args below meth c H locs cells slots Q (F0 m pc ls (st.map (zR ad)))
variable {sc : Option (Nat × (Nat → Int32))} {C : zCa} {post : zPo} {Z : zX} {pc n a b k1 e1 g : Nat} {v : Int32} {w : Int64} {tb : List (Int32 × Nat)} {lv : zLo} {st : List Value} {σ : zS}
abbrev zZX (p : Program) (l : Launch) (e : Env) (R : Room) (s : State) (m : MethodId) (args : Array Value) (below : List Frame) (meth : Method) (c : Code) (cells slots : Nat) (Q : State → Prop) (D : va_G) (cI cJ : ClassId) (ad : Nat → Nat) (A : Nat → Prop) (mi : Nat) (Z : zX) : Prop := ∀ (pc : Nat) (ls : zLo) (st : List Value) (σ : zS), Z pc ls st σ → zXs p l e R s m args below meth c cells slots Q D cI cJ ad A mi pc ls st σ
theorem zo_iconst {z : Int} (K : zCx p l R s m args meth c cells slots D cI cJ ad A d mi) (hZ : zZX p l e R s m args below meth c cells slots Q D cI cJ ad A mi Z) (hk : zOk mi pc (.iconst z, n, a, b, k1, e1, g, v, w, tb) = true) (h : zEx sc C post Z (.iconst z, n, a, b, k1, e1, g, v, w, tb) lv st σ) : zXs p l e R s m args below meth c cells slots Q D cI cJ ad A mi pc lv st σ := by
  obtain ⟨hx, hb, hml, hown, hts, hnw, hK, hinj, hAd, hA, hcl, hsl, hfr, hlo⟩ := K
  intro H locs ls hP hS hl
  simp only [zOk, Bool.and_eq_true, decide_eq_true_eq] at hk
  simp only [zEx] at h
  obtain ⟨⟨hn, hdg⟩, hk⟩ := hk
  obtain ⟨rfl, hd2⟩ := zLen hn hdg hk.1
  exact lv_iconst hx hb hd2 hk.2 (hZ _ _ _ _ h H locs ls hP hS hl)
theorem zo_bipush {z : Int} (K : zCx p l R s m args meth c cells slots D cI cJ ad A d mi) (hZ : zZX p l e R s m args below meth c cells slots Q D cI cJ ad A mi Z) (hk : zOk mi pc (.bipush z, n, a, b, k1, e1, g, v, w, tb) = true) (h : zEx sc C post Z (.bipush z, n, a, b, k1, e1, g, v, w, tb) lv st σ) : zXs p l e R s m args below meth c cells slots Q D cI cJ ad A mi pc lv st σ := by
  obtain ⟨hx, hb, hml, hown, hts, hnw, hK, hinj, hAd, hA, hcl, hsl, hfr, hlo⟩ := K
  intro H locs ls hP hS hl
  simp only [zOk, Bool.and_eq_true, decide_eq_true_eq] at hk
  simp only [zEx] at h
  obtain ⟨⟨hn, hdg⟩, hk⟩ := hk
  obtain ⟨rfl, hd2⟩ := zLen hn hdg hk.1
  exact lv_bipush hx hb hd2 hk.2 (hZ _ _ _ _ h H locs ls hP hS hl)
theorem zo_sipush {z : Int} (K : zCx p l R s m args meth c cells slots D cI cJ ad A d mi) (hZ : zZX p l e R s m args below meth c cells slots Q D cI cJ ad A mi Z) (hk : zOk mi pc (.sipush z, n, a, b, k1, e1, g, v, w, tb) = true) (h : zEx sc C post Z (.sipush z, n, a, b, k1, e1, g, v, w, tb) lv st σ) : zXs p l e R s m args below meth c cells slots Q D cI cJ ad A mi pc lv st σ := by
  obtain ⟨hx, hb, hml, hown, hts, hnw, hK, hinj, hAd, hA, hcl, hsl, hfr, hlo⟩ := K
  intro H locs ls hP hS hl
  simp only [zOk, Bool.and_eq_true, decide_eq_true_eq] at hk
  simp only [zEx] at h
  obtain ⟨⟨hn, hdg⟩, hk⟩ := hk
  obtain ⟨rfl, hd2⟩ := zLen hn hdg hk.1
  exact lv_sipush hx hb hd2 hk.2 (hZ _ _ _ _ h H locs ls hP hS hl)
theorem zo_lconst {z : Fin 2} (K : zCx p l R s m args meth c cells slots D cI cJ ad A d mi) (hZ : zZX p l e R s m args below meth c cells slots Q D cI cJ ad A mi Z) (hk : zOk mi pc (.lconst z, n, a, b, k1, e1, g, v, w, tb) = true) (h : zEx sc C post Z (.lconst z, n, a, b, k1, e1, g, v, w, tb) lv st σ) : zXs p l e R s m args below meth c cells slots Q D cI cJ ad A mi pc lv st σ := by
  obtain ⟨hx, hb, hml, hown, hts, hnw, hK, hinj, hAd, hA, hcl, hsl, hfr, hlo⟩ := K
  intro H locs ls hP hS hl
  simp only [zOk, Bool.and_eq_true, decide_eq_true_eq] at hk
  simp only [zEx] at h
  obtain ⟨⟨hn, hdg⟩, hk⟩ := hk
  obtain ⟨rfl, hd2⟩ := zLen hn hdg hk.1
  exact lv_lconst hx hb hd2 hk.2 (hZ _ _ _ _ h H locs ls hP hS hl)
theorem zo_ldc {idx : Nat} (K : zCx p l R s m args meth c cells slots D cI cJ ad A d mi) (hZ : zZX p l e R s m args below meth c cells slots Q D cI cJ ad A mi Z) (hk : zOk mi pc (.ldc idx, n, a, b, k1, e1, g, v, w, tb) = true) (h : zEx sc C post Z (.ldc idx, n, a, b, k1, e1, g, v, w, tb) lv st σ) : zXs p l e R s m args below meth c cells slots Q D cI cJ ad A mi pc lv st σ := by
  obtain ⟨hx, hb, hml, hown, hts, hnw, hK, hinj, hAd, hA, hcl, hsl, hfr, hlo⟩ := K
  intro H locs ls hP hS hl
  simp only [zOk, Bool.and_eq_true, decide_eq_true_eq] at hk
  simp only [zEx] at h
  obtain ⟨⟨hn, hdg⟩, hk⟩ := hk
  obtain ⟨rfl, hd2⟩ := zLen hn hdg hk.1
  exact lv_ldc hx hb hown (hts _ (zin _ hk.2 rfl)) hd2 (hZ _ _ _ _ h H locs ls hP hS hl)
theorem zo_ldc2 {idx : Nat} (K : zCx p l R s m args meth c cells slots D cI cJ ad A d mi) (hZ : zZX p l e R s m args below meth c cells slots Q D cI cJ ad A mi Z) (hk : zOk mi pc (.ldc2_w idx, n, a, b, k1, e1, g, v, w, tb) = true) (h : zEx sc C post Z (.ldc2_w idx, n, a, b, k1, e1, g, v, w, tb) lv st σ) : zXs p l e R s m args below meth c cells slots Q D cI cJ ad A mi pc lv st σ := by
  obtain ⟨hx, hb, hml, hown, hts, hnw, hK, hinj, hAd, hA, hcl, hsl, hfr, hlo⟩ := K
  intro H locs ls hP hS hl
  simp only [zOk, Bool.and_eq_true, decide_eq_true_eq] at hk
  simp only [zEx] at h
  obtain ⟨⟨hn, hdg⟩, hk⟩ := hk
  obtain ⟨rfl, hd2⟩ := zLen hn hdg hk.1
  exact lv_ldc2 hx hb hown (hts _ (zin _ hk.2 rfl)) hd2 (hZ _ _ _ _ h H locs ls hP hS hl)
theorem zo_iload_n {z : Fin 4} (K : zCx p l R s m args meth c cells slots D cI cJ ad A d mi) (hZ : zZX p l e R s m args below meth c cells slots Q D cI cJ ad A mi Z) (hk : zOk mi pc (.iload_n z, n, a, b, k1, e1, g, v, w, tb) = true) (h : zEx sc C post Z (.iload_n z, n, a, b, k1, e1, g, v, w, tb) lv st σ) : zXs p l e R s m args below meth c cells slots Q D cI cJ ad A mi pc lv st σ := by
  obtain ⟨hx, hb, hml, hown, hts, hnw, hK, hinj, hAd, hA, hcl, hsl, hfr, hlo⟩ := K
  intro H locs ls hP hS hl
  simp only [zOk, Bool.and_eq_true, decide_eq_true_eq] at hk
  simp only [zEx] at h
  obtain ⟨⟨hn, hdg⟩, hk⟩ := hk
  obtain ⟨rfl, hd2⟩ := zLen hn hdg hk.1
  obtain ⟨x, hg, h⟩ := zLi_inv h
  exact lv_iload_n hx hb hd2 (Nat.eq_of_beq_eq_true hk.2) (hl.at hg) (hZ _ _ _ _ h H locs ls hP hS hl)
theorem zo_iload {z : Nat} (K : zCx p l R s m args meth c cells slots D cI cJ ad A d mi) (hZ : zZX p l e R s m args below meth c cells slots Q D cI cJ ad A mi Z) (hk : zOk mi pc (.iload z, n, a, b, k1, e1, g, v, w, tb) = true) (h : zEx sc C post Z (.iload z, n, a, b, k1, e1, g, v, w, tb) lv st σ) : zXs p l e R s m args below meth c cells slots Q D cI cJ ad A mi pc lv st σ := by
  obtain ⟨hx, hb, hml, hown, hts, hnw, hK, hinj, hAd, hA, hcl, hsl, hfr, hlo⟩ := K
  intro H locs ls hP hS hl
  simp only [zOk, Bool.and_eq_true, decide_eq_true_eq] at hk
  simp only [zEx] at h
  obtain ⟨⟨hn, hdg⟩, hk⟩ := hk
  obtain ⟨rfl, hd2⟩ := zLen hn hdg hk.1
  have hz := Nat.eq_of_beq_eq_true hk.2
  subst hz
  obtain ⟨x, hg, h5⟩ := zLi_inv h
  exact lv_iload hx hb hd2 (hl.at hg) (hZ _ _ _ _ h5 H locs ls hP hS hl)
theorem zo_lload_n {z : Fin 4} (K : zCx p l R s m args meth c cells slots D cI cJ ad A d mi) (hZ : zZX p l e R s m args below meth c cells slots Q D cI cJ ad A mi Z) (hk : zOk mi pc (.lload_n z, n, a, b, k1, e1, g, v, w, tb) = true) (h : zEx sc C post Z (.lload_n z, n, a, b, k1, e1, g, v, w, tb) lv st σ) : zXs p l e R s m args below meth c cells slots Q D cI cJ ad A mi pc lv st σ := by
  obtain ⟨hx, hb, hml, hown, hts, hnw, hK, hinj, hAd, hA, hcl, hsl, hfr, hlo⟩ := K
  intro H locs ls hP hS hl
  simp only [zOk, Bool.and_eq_true, decide_eq_true_eq] at hk
  simp only [zEx] at h
  obtain ⟨⟨hn, hdg⟩, hk⟩ := hk
  obtain ⟨rfl, hd2⟩ := zLen hn hdg hk.1
  obtain ⟨x, hg, h⟩ := zLj_inv h
  exact lv_lload_n hx hb hd2 (Nat.eq_of_beq_eq_true hk.2) (hl.at hg) (hZ _ _ _ _ h H locs ls hP hS hl)
theorem zo_lload {z : Nat} (K : zCx p l R s m args meth c cells slots D cI cJ ad A d mi) (hZ : zZX p l e R s m args below meth c cells slots Q D cI cJ ad A mi Z) (hk : zOk mi pc (.lload z, n, a, b, k1, e1, g, v, w, tb) = true) (h : zEx sc C post Z (.lload z, n, a, b, k1, e1, g, v, w, tb) lv st σ) : zXs p l e R s m args below meth c cells slots Q D cI cJ ad A mi pc lv st σ := by
  obtain ⟨hx, hb, hml, hown, hts, hnw, hK, hinj, hAd, hA, hcl, hsl, hfr, hlo⟩ := K
  intro H locs ls hP hS hl
  simp only [zOk, Bool.and_eq_true, decide_eq_true_eq] at hk
  simp only [zEx] at h
  obtain ⟨⟨hn, hdg⟩, hk⟩ := hk
  obtain ⟨rfl, hd2⟩ := zLen hn hdg hk.1
  have hz := Nat.eq_of_beq_eq_true hk.2
  subst hz
  obtain ⟨x, hg, h5⟩ := zLj_inv h
  exact lv_lload hx hb hd2 (hl.at hg) (hZ _ _ _ _ h5 H locs ls hP hS hl)
theorem zo_aload_n {z : Fin 4} (K : zCx p l R s m args meth c cells slots D cI cJ ad A d mi) (hZ : zZX p l e R s m args below meth c cells slots Q D cI cJ ad A mi Z) (hk : zOk mi pc (.aload_n z, n, a, b, k1, e1, g, v, w, tb) = true) (h : zEx sc C post Z (.aload_n z, n, a, b, k1, e1, g, v, w, tb) lv st σ) : zXs p l e R s m args below meth c cells slots Q D cI cJ ad A mi pc lv st σ := by
  obtain ⟨hx, hb, hml, hown, hts, hnw, hK, hinj, hAd, hA, hcl, hsl, hfr, hlo⟩ := K
  intro H locs ls hP hS hl
  simp only [zOk, Bool.and_eq_true, decide_eq_true_eq] at hk
  simp only [zEx] at h
  obtain ⟨⟨hn, hdg⟩, hk⟩ := hk
  obtain ⟨rfl, hd2⟩ := zLen hn hdg hk.1
  obtain ⟨x, hg, h⟩ := zLa_inv h
  exact lv_aload_n hx hb hd2 (Nat.eq_of_beq_eq_true hk.2) (hl.at hg) (hZ _ _ _ _ h H locs ls hP hS hl)
theorem zo_aload {z : Nat} (K : zCx p l R s m args meth c cells slots D cI cJ ad A d mi) (hZ : zZX p l e R s m args below meth c cells slots Q D cI cJ ad A mi Z) (hk : zOk mi pc (.aload z, n, a, b, k1, e1, g, v, w, tb) = true) (h : zEx sc C post Z (.aload z, n, a, b, k1, e1, g, v, w, tb) lv st σ) : zXs p l e R s m args below meth c cells slots Q D cI cJ ad A mi pc lv st σ := by
  obtain ⟨hx, hb, hml, hown, hts, hnw, hK, hinj, hAd, hA, hcl, hsl, hfr, hlo⟩ := K
  intro H locs ls hP hS hl
  simp only [zOk, Bool.and_eq_true, decide_eq_true_eq] at hk
  simp only [zEx] at h
  obtain ⟨⟨hn, hdg⟩, hk⟩ := hk
  obtain ⟨rfl, hd2⟩ := zLen hn hdg hk.1
  have hz := Nat.eq_of_beq_eq_true hk.2
  subst hz
  obtain ⟨x, hg, h5⟩ := zLa_inv h
  exact lv_aload hx hb hd2 (hl.at hg) (hZ _ _ _ _ h5 H locs ls hP hS hl)
theorem zo_istore_n {z : Fin 4} (K : zCx p l R s m args meth c cells slots D cI cJ ad A d mi) (hZ : zZX p l e R s m args below meth c cells slots Q D cI cJ ad A mi Z) (hk : zOk mi pc (.istore_n z, n, a, b, k1, e1, g, v, w, tb) = true) (h : zEx sc C post Z (.istore_n z, n, a, b, k1, e1, g, v, w, tb) lv st σ) : zXs p l e R s m args below meth c cells slots Q D cI cJ ad A mi pc lv st σ := by
  obtain ⟨hx, hb, hml, hown, hts, hnw, hK, hinj, hAd, hA, hcl, hsl, hfr, hlo⟩ := K
  intro H locs ls hP hS hl
  simp only [zOk, Bool.and_eq_true, decide_eq_true_eq] at hk
  simp only [zEx] at h
  obtain ⟨⟨hn, hdg⟩, hk⟩ := hk
  obtain ⟨rfl, hd2⟩ := zLen hn hdg hk.1
  obtain ⟨x, r, rfl, h⟩ := zI_inv h
  obtain ⟨hlt, h⟩ := zG_inv h
  exact lv_istore_n hx hb hd2 (Nat.eq_of_beq_eq_true hk.2) hl.1 (Nat.lt_of_lt_of_le (Nat.le_of_ble_eq_true hlt) hl.2) rfl (fun ls2 hl2 => hZ _ _ _ _ h H locs ls2 hP hS (hl.st1 (v := .int x) hl2))
theorem zo_istore {z : Nat} (K : zCx p l R s m args meth c cells slots D cI cJ ad A d mi) (hZ : zZX p l e R s m args below meth c cells slots Q D cI cJ ad A mi Z) (hk : zOk mi pc (.istore z, n, a, b, k1, e1, g, v, w, tb) = true) (h : zEx sc C post Z (.istore z, n, a, b, k1, e1, g, v, w, tb) lv st σ) : zXs p l e R s m args below meth c cells slots Q D cI cJ ad A mi pc lv st σ := by
  obtain ⟨hx, hb, hml, hown, hts, hnw, hK, hinj, hAd, hA, hcl, hsl, hfr, hlo⟩ := K
  intro H locs ls hP hS hl
  simp only [zOk, Bool.and_eq_true, decide_eq_true_eq] at hk
  simp only [zEx] at h
  obtain ⟨⟨hn, hdg⟩, hk⟩ := hk
  obtain ⟨rfl, hd2⟩ := zLen hn hdg hk.1
  obtain ⟨x, r, rfl, h⟩ := zI_inv h
  obtain ⟨hlt, h⟩ := zG_inv h
  have hz := Nat.eq_of_beq_eq_true hk.2
  subst hz
  exact lv_istore hx hb hd2 hl.1 (Nat.lt_of_lt_of_le (Nat.le_of_ble_eq_true hlt) hl.2) rfl (fun ls2 hl2 => hZ _ _ _ _ h H locs ls2 hP hS (hl.st1 (v := .int x) hl2))
theorem zo_astore_n {z : Fin 4} (K : zCx p l R s m args meth c cells slots D cI cJ ad A d mi) (hZ : zZX p l e R s m args below meth c cells slots Q D cI cJ ad A mi Z) (hk : zOk mi pc (.astore_n z, n, a, b, k1, e1, g, v, w, tb) = true) (h : zEx sc C post Z (.astore_n z, n, a, b, k1, e1, g, v, w, tb) lv st σ) : zXs p l e R s m args below meth c cells slots Q D cI cJ ad A mi pc lv st σ := by
  obtain ⟨hx, hb, hml, hown, hts, hnw, hK, hinj, hAd, hA, hcl, hsl, hfr, hlo⟩ := K
  intro H locs ls hP hS hl
  simp only [zOk, Bool.and_eq_true, decide_eq_true_eq] at hk
  simp only [zEx] at h
  obtain ⟨⟨hn, hdg⟩, hk⟩ := hk
  obtain ⟨rfl, hd2⟩ := zLen hn hdg hk.1
  obtain ⟨x, r, rfl, h⟩ := zA_inv h
  obtain ⟨hlt, h⟩ := zG_inv h
  exact lv_astore_n hx hb hd2 (Nat.eq_of_beq_eq_true hk.2) hl.1 (Nat.lt_of_lt_of_le (Nat.le_of_ble_eq_true hlt) hl.2) rfl (fun ls2 hl2 => hZ _ _ _ _ h H locs ls2 hP hS (hl.st1 (v := .ref x) hl2))
theorem zo_lstore_n {z : Fin 4} (K : zCx p l R s m args meth c cells slots D cI cJ ad A d mi) (hZ : zZX p l e R s m args below meth c cells slots Q D cI cJ ad A mi Z) (hk : zOk mi pc (.lstore_n z, n, a, b, k1, e1, g, v, w, tb) = true) (h : zEx sc C post Z (.lstore_n z, n, a, b, k1, e1, g, v, w, tb) lv st σ) : zXs p l e R s m args below meth c cells slots Q D cI cJ ad A mi pc lv st σ := by
  obtain ⟨hx, hb, hml, hown, hts, hnw, hK, hinj, hAd, hA, hcl, hsl, hfr, hlo⟩ := K
  intro H locs ls hP hS hl
  simp only [zOk, Bool.and_eq_true, decide_eq_true_eq] at hk
  simp only [zEx] at h
  obtain ⟨⟨hn, hdg⟩, hk⟩ := hk
  obtain ⟨rfl, hd2⟩ := zLen hn hdg hk.1
  obtain ⟨x, r, rfl, h⟩ := zJ_inv h
  obtain ⟨hlt, h⟩ := zG_inv h
  exact lv_lstore_n hx hb hd2 (Nat.eq_of_beq_eq_true hk.2) hl.1 (Nat.lt_of_lt_of_le (Nat.le_of_ble_eq_true hlt) hl.2) rfl (fun ls2 hl2 => hZ _ _ _ _ h H locs ls2 hP hS (hl.st2 (v := .long x) hl2))
theorem zo_lstore {z : Nat} (K : zCx p l R s m args meth c cells slots D cI cJ ad A d mi) (hZ : zZX p l e R s m args below meth c cells slots Q D cI cJ ad A mi Z) (hk : zOk mi pc (.lstore z, n, a, b, k1, e1, g, v, w, tb) = true) (h : zEx sc C post Z (.lstore z, n, a, b, k1, e1, g, v, w, tb) lv st σ) : zXs p l e R s m args below meth c cells slots Q D cI cJ ad A mi pc lv st σ := by
  obtain ⟨hx, hb, hml, hown, hts, hnw, hK, hinj, hAd, hA, hcl, hsl, hfr, hlo⟩ := K
  intro H locs ls hP hS hl
  simp only [zOk, Bool.and_eq_true, decide_eq_true_eq] at hk
  simp only [zEx] at h
  obtain ⟨⟨hn, hdg⟩, hk⟩ := hk
  obtain ⟨rfl, hd2⟩ := zLen hn hdg hk.1
  obtain ⟨x, r, rfl, h⟩ := zJ_inv h
  obtain ⟨hlt, h⟩ := zG_inv h
  have hz := Nat.eq_of_beq_eq_true hk.2
  subst hz
  exact lv_lstore hx hb hd2 hl.1 (Nat.lt_of_lt_of_le (Nat.le_of_ble_eq_true hlt) hl.2) rfl (fun ls2 hl2 => hZ _ _ _ _ h H locs ls2 hP hS (hl.st2 (v := .long x) hl2))
theorem zo_iinc {z : Nat} {y : Int} (K : zCx p l R s m args meth c cells slots D cI cJ ad A d mi) (hZ : zZX p l e R s m args below meth c cells slots Q D cI cJ ad A mi Z) (hk : zOk mi pc (.iinc z y, n, a, b, k1, e1, g, v, w, tb) = true) (h : zEx sc C post Z (.iinc z y, n, a, b, k1, e1, g, v, w, tb) lv st σ) : zXs p l e R s m args below meth c cells slots Q D cI cJ ad A mi pc lv st σ := by
  obtain ⟨hx, hb, hml, hown, hts, hnw, hK, hinj, hAd, hA, hcl, hsl, hfr, hlo⟩ := K
  intro H locs ls hP hS hl
  simp only [zOk, Bool.and_eq_true, decide_eq_true_eq] at hk
  simp only [zEx] at h
  obtain ⟨⟨hn, hdg⟩, ⟨hk0, hk1⟩, hk2⟩ := hk
  obtain ⟨rfl, hd2⟩ := zLen hn hdg hk0
  have hz := Nat.eq_of_beq_eq_true hk1
  subst hz
  obtain ⟨x, hg, h⟩ := zLi_inv h
  obtain ⟨k, hkk⟩ := List.getElem?_of_mem ((zAs_mem ad lv 0 (z, zR ad (.int x))).mpr ⟨z, .int x, by rw [List.getD_eq_getElem?_getD] at hg; cases e3 : lv[z]? with | none => rw [e3] at hg; simp at hg | some o => (rw [e3] at hg; simp at hg; rw [hg]), by rw [Nat.zero_add]⟩)
  exact lv_iinc (v := x + v) hx hb hd2 hl.1 (k := k) hkk (by rw [hk2]) (hl.lt hg) rfl (fun ls2 hl2 => hZ _ _ _ _ h H locs ls2 hP hS (hl.st1 (v := .int (x + v)) hl2))
theorem zo_iadd (K : zCx p l R s m args meth c cells slots D cI cJ ad A d mi) (hZ : zZX p l e R s m args below meth c cells slots Q D cI cJ ad A mi Z) (hk : zOk mi pc (.iadd, n, a, b, k1, e1, g, v, w, tb) = true) (h : zEx sc C post Z (.iadd, n, a, b, k1, e1, g, v, w, tb) lv st σ) : zXs p l e R s m args below meth c cells slots Q D cI cJ ad A mi pc lv st σ := by
  obtain ⟨hx, hb, hml, hown, hts, hnw, hK, hinj, hAd, hA, hcl, hsl, hfr, hlo⟩ := K
  intro H locs ls hP hS hl
  simp only [zOk, Bool.and_eq_true, decide_eq_true_eq] at hk
  simp only [zEx] at h
  obtain ⟨⟨hn, hdg⟩, hk⟩ := hk
  obtain ⟨rfl, hd2⟩ := zLen hn hdg hk
  obtain ⟨x, y, r, rfl, h⟩ := zII_inv h
  exact lv_iadd hx hb hd2 (hZ _ _ _ _ h H locs ls hP hS hl)
theorem zo_isub (K : zCx p l R s m args meth c cells slots D cI cJ ad A d mi) (hZ : zZX p l e R s m args below meth c cells slots Q D cI cJ ad A mi Z) (hk : zOk mi pc (.isub, n, a, b, k1, e1, g, v, w, tb) = true) (h : zEx sc C post Z (.isub, n, a, b, k1, e1, g, v, w, tb) lv st σ) : zXs p l e R s m args below meth c cells slots Q D cI cJ ad A mi pc lv st σ := by
  obtain ⟨hx, hb, hml, hown, hts, hnw, hK, hinj, hAd, hA, hcl, hsl, hfr, hlo⟩ := K
  intro H locs ls hP hS hl
  simp only [zOk, Bool.and_eq_true, decide_eq_true_eq] at hk
  simp only [zEx] at h
  obtain ⟨⟨hn, hdg⟩, hk⟩ := hk
  obtain ⟨rfl, hd2⟩ := zLen hn hdg hk
  obtain ⟨x, y, r, rfl, h⟩ := zII_inv h
  exact lv_isub hx hb hd2 (hZ _ _ _ _ h H locs ls hP hS hl)
theorem zo_imul (K : zCx p l R s m args meth c cells slots D cI cJ ad A d mi) (hZ : zZX p l e R s m args below meth c cells slots Q D cI cJ ad A mi Z) (hk : zOk mi pc (.imul, n, a, b, k1, e1, g, v, w, tb) = true) (h : zEx sc C post Z (.imul, n, a, b, k1, e1, g, v, w, tb) lv st σ) : zXs p l e R s m args below meth c cells slots Q D cI cJ ad A mi pc lv st σ := by
  obtain ⟨hx, hb, hml, hown, hts, hnw, hK, hinj, hAd, hA, hcl, hsl, hfr, hlo⟩ := K
  intro H locs ls hP hS hl
  simp only [zOk, Bool.and_eq_true, decide_eq_true_eq] at hk
  simp only [zEx] at h
  obtain ⟨⟨hn, hdg⟩, hk⟩ := hk
  obtain ⟨rfl, hd2⟩ := zLen hn hdg hk
  obtain ⟨x, y, r, rfl, h⟩ := zII_inv h
  exact lv_imul hx hb hd2 (hZ _ _ _ _ h H locs ls hP hS hl)
theorem zo_iand (K : zCx p l R s m args meth c cells slots D cI cJ ad A d mi) (hZ : zZX p l e R s m args below meth c cells slots Q D cI cJ ad A mi Z) (hk : zOk mi pc (.iand, n, a, b, k1, e1, g, v, w, tb) = true) (h : zEx sc C post Z (.iand, n, a, b, k1, e1, g, v, w, tb) lv st σ) : zXs p l e R s m args below meth c cells slots Q D cI cJ ad A mi pc lv st σ := by
  obtain ⟨hx, hb, hml, hown, hts, hnw, hK, hinj, hAd, hA, hcl, hsl, hfr, hlo⟩ := K
  intro H locs ls hP hS hl
  simp only [zOk, Bool.and_eq_true, decide_eq_true_eq] at hk
  simp only [zEx] at h
  obtain ⟨⟨hn, hdg⟩, hk⟩ := hk
  obtain ⟨rfl, hd2⟩ := zLen hn hdg hk
  obtain ⟨x, y, r, rfl, h⟩ := zII_inv h
  exact lv_iand hx hb hd2 (hZ _ _ _ _ h H locs ls hP hS hl)
theorem zo_ishl (K : zCx p l R s m args meth c cells slots D cI cJ ad A d mi) (hZ : zZX p l e R s m args below meth c cells slots Q D cI cJ ad A mi Z) (hk : zOk mi pc (.ishl, n, a, b, k1, e1, g, v, w, tb) = true) (h : zEx sc C post Z (.ishl, n, a, b, k1, e1, g, v, w, tb) lv st σ) : zXs p l e R s m args below meth c cells slots Q D cI cJ ad A mi pc lv st σ := by
  obtain ⟨hx, hb, hml, hown, hts, hnw, hK, hinj, hAd, hA, hcl, hsl, hfr, hlo⟩ := K
  intro H locs ls hP hS hl
  simp only [zOk, Bool.and_eq_true, decide_eq_true_eq] at hk
  simp only [zEx] at h
  obtain ⟨⟨hn, hdg⟩, hk⟩ := hk
  obtain ⟨rfl, hd2⟩ := zLen hn hdg hk
  obtain ⟨x, y, r, rfl, h⟩ := zII_inv h
  exact lv_ishl hx hb hd2 (hZ _ _ _ _ h H locs ls hP hS hl)
theorem zo_ishr (K : zCx p l R s m args meth c cells slots D cI cJ ad A d mi) (hZ : zZX p l e R s m args below meth c cells slots Q D cI cJ ad A mi Z) (hk : zOk mi pc (.ishr, n, a, b, k1, e1, g, v, w, tb) = true) (h : zEx sc C post Z (.ishr, n, a, b, k1, e1, g, v, w, tb) lv st σ) : zXs p l e R s m args below meth c cells slots Q D cI cJ ad A mi pc lv st σ := by
  obtain ⟨hx, hb, hml, hown, hts, hnw, hK, hinj, hAd, hA, hcl, hsl, hfr, hlo⟩ := K
  intro H locs ls hP hS hl
  simp only [zOk, Bool.and_eq_true, decide_eq_true_eq] at hk
  simp only [zEx] at h
  obtain ⟨⟨hn, hdg⟩, hk⟩ := hk
  obtain ⟨rfl, hd2⟩ := zLen hn hdg hk
  obtain ⟨x, y, r, rfl, h⟩ := zII_inv h
  exact lv_ishr hx hb hd2 (hZ _ _ _ _ h H locs ls hP hS hl)
theorem zo_idiv (K : zCx p l R s m args meth c cells slots D cI cJ ad A d mi) (hZ : zZX p l e R s m args below meth c cells slots Q D cI cJ ad A mi Z) (hk : zOk mi pc (.idiv, n, a, b, k1, e1, g, v, w, tb) = true) (h : zEx sc C post Z (.idiv, n, a, b, k1, e1, g, v, w, tb) lv st σ) : zXs p l e R s m args below meth c cells slots Q D cI cJ ad A mi pc lv st σ := by
  obtain ⟨hx, hb, hml, hown, hts, hnw, hK, hinj, hAd, hA, hcl, hsl, hfr, hlo⟩ := K
  intro H locs ls hP hS hl
  simp only [zOk, Bool.and_eq_true, decide_eq_true_eq] at hk
  simp only [zEx] at h
  obtain ⟨⟨hn, hdg⟩, hk⟩ := hk
  obtain ⟨rfl, hd2⟩ := zLen hn hdg hk
  obtain ⟨x, y, r, rfl, h0, h⟩ := zII_inv h
  exact lv_idiv hx hb hd2 h0 (hZ _ _ _ _ h H locs ls hP hS hl)
theorem zo_irem (K : zCx p l R s m args meth c cells slots D cI cJ ad A d mi) (hZ : zZX p l e R s m args below meth c cells slots Q D cI cJ ad A mi Z) (hk : zOk mi pc (.irem, n, a, b, k1, e1, g, v, w, tb) = true) (h : zEx sc C post Z (.irem, n, a, b, k1, e1, g, v, w, tb) lv st σ) : zXs p l e R s m args below meth c cells slots Q D cI cJ ad A mi pc lv st σ := by
  obtain ⟨hx, hb, hml, hown, hts, hnw, hK, hinj, hAd, hA, hcl, hsl, hfr, hlo⟩ := K
  intro H locs ls hP hS hl
  simp only [zOk, Bool.and_eq_true, decide_eq_true_eq] at hk
  simp only [zEx] at h
  obtain ⟨⟨hn, hdg⟩, hk⟩ := hk
  obtain ⟨rfl, hd2⟩ := zLen hn hdg hk
  obtain ⟨x, y, r, rfl, h0, h⟩ := zII_inv h
  exact lv_irem hx hb hd2 h0 (hZ _ _ _ _ h H locs ls hP hS hl)
theorem zo_ladd (K : zCx p l R s m args meth c cells slots D cI cJ ad A d mi) (hZ : zZX p l e R s m args below meth c cells slots Q D cI cJ ad A mi Z) (hk : zOk mi pc (.ladd, n, a, b, k1, e1, g, v, w, tb) = true) (h : zEx sc C post Z (.ladd, n, a, b, k1, e1, g, v, w, tb) lv st σ) : zXs p l e R s m args below meth c cells slots Q D cI cJ ad A mi pc lv st σ := by
  obtain ⟨hx, hb, hml, hown, hts, hnw, hK, hinj, hAd, hA, hcl, hsl, hfr, hlo⟩ := K
  intro H locs ls hP hS hl
  simp only [zOk, Bool.and_eq_true, decide_eq_true_eq] at hk
  simp only [zEx] at h
  obtain ⟨⟨hn, hdg⟩, hk⟩ := hk
  obtain ⟨rfl, hd2⟩ := zLen hn hdg hk
  obtain ⟨x, y, r, rfl, h⟩ := zJJ_inv h
  exact lv_ladd hx hb hd2 (hZ _ _ _ _ h H locs ls hP hS hl)
theorem zo_lsub (K : zCx p l R s m args meth c cells slots D cI cJ ad A d mi) (hZ : zZX p l e R s m args below meth c cells slots Q D cI cJ ad A mi Z) (hk : zOk mi pc (.lsub, n, a, b, k1, e1, g, v, w, tb) = true) (h : zEx sc C post Z (.lsub, n, a, b, k1, e1, g, v, w, tb) lv st σ) : zXs p l e R s m args below meth c cells slots Q D cI cJ ad A mi pc lv st σ := by
  obtain ⟨hx, hb, hml, hown, hts, hnw, hK, hinj, hAd, hA, hcl, hsl, hfr, hlo⟩ := K
  intro H locs ls hP hS hl
  simp only [zOk, Bool.and_eq_true, decide_eq_true_eq] at hk
  simp only [zEx] at h
  obtain ⟨⟨hn, hdg⟩, hk⟩ := hk
  obtain ⟨rfl, hd2⟩ := zLen hn hdg hk
  obtain ⟨x, y, r, rfl, h⟩ := zJJ_inv h
  exact lv_lsub hx hb hd2 (hZ _ _ _ _ h H locs ls hP hS hl)
theorem zo_lmul (K : zCx p l R s m args meth c cells slots D cI cJ ad A d mi) (hZ : zZX p l e R s m args below meth c cells slots Q D cI cJ ad A mi Z) (hk : zOk mi pc (.lmul, n, a, b, k1, e1, g, v, w, tb) = true) (h : zEx sc C post Z (.lmul, n, a, b, k1, e1, g, v, w, tb) lv st σ) : zXs p l e R s m args below meth c cells slots Q D cI cJ ad A mi pc lv st σ := by
  obtain ⟨hx, hb, hml, hown, hts, hnw, hK, hinj, hAd, hA, hcl, hsl, hfr, hlo⟩ := K
  intro H locs ls hP hS hl
  simp only [zOk, Bool.and_eq_true, decide_eq_true_eq] at hk
  simp only [zEx] at h
  obtain ⟨⟨hn, hdg⟩, hk⟩ := hk
  obtain ⟨rfl, hd2⟩ := zLen hn hdg hk
  obtain ⟨x, y, r, rfl, h⟩ := zJJ_inv h
  exact lv_lmul hx hb hd2 (hZ _ _ _ _ h H locs ls hP hS hl)
theorem zo_ldiv (K : zCx p l R s m args meth c cells slots D cI cJ ad A d mi) (hZ : zZX p l e R s m args below meth c cells slots Q D cI cJ ad A mi Z) (hk : zOk mi pc (.ldiv, n, a, b, k1, e1, g, v, w, tb) = true) (h : zEx sc C post Z (.ldiv, n, a, b, k1, e1, g, v, w, tb) lv st σ) : zXs p l e R s m args below meth c cells slots Q D cI cJ ad A mi pc lv st σ := by
  obtain ⟨hx, hb, hml, hown, hts, hnw, hK, hinj, hAd, hA, hcl, hsl, hfr, hlo⟩ := K
  intro H locs ls hP hS hl
  simp only [zOk, Bool.and_eq_true, decide_eq_true_eq] at hk
  simp only [zEx] at h
  obtain ⟨⟨hn, hdg⟩, hk⟩ := hk
  obtain ⟨rfl, hd2⟩ := zLen hn hdg hk
  obtain ⟨x, y, r, rfl, h0, h⟩ := zJJ_inv h
  exact lv_ldiv hx hb hd2 h0 (hZ _ _ _ _ h H locs ls hP hS hl)
theorem zo_lcmp (K : zCx p l R s m args meth c cells slots D cI cJ ad A d mi) (hZ : zZX p l e R s m args below meth c cells slots Q D cI cJ ad A mi Z) (hk : zOk mi pc (.lcmp, n, a, b, k1, e1, g, v, w, tb) = true) (h : zEx sc C post Z (.lcmp, n, a, b, k1, e1, g, v, w, tb) lv st σ) : zXs p l e R s m args below meth c cells slots Q D cI cJ ad A mi pc lv st σ := by
  obtain ⟨hx, hb, hml, hown, hts, hnw, hK, hinj, hAd, hA, hcl, hsl, hfr, hlo⟩ := K
  intro H locs ls hP hS hl
  simp only [zOk, Bool.and_eq_true, decide_eq_true_eq] at hk
  simp only [zEx] at h
  obtain ⟨⟨hn, hdg⟩, hk⟩ := hk
  obtain ⟨rfl, hd2⟩ := zLen hn hdg hk
  obtain ⟨x, y, r, rfl, h⟩ := zJJ_inv h
  exact W.lcmp hx hb hd2 (hZ _ _ _ _ h H locs ls hP hS hl)
theorem zo_ineg (K : zCx p l R s m args meth c cells slots D cI cJ ad A d mi) (hZ : zZX p l e R s m args below meth c cells slots Q D cI cJ ad A mi Z) (hk : zOk mi pc (.ineg, n, a, b, k1, e1, g, v, w, tb) = true) (h : zEx sc C post Z (.ineg, n, a, b, k1, e1, g, v, w, tb) lv st σ) : zXs p l e R s m args below meth c cells slots Q D cI cJ ad A mi pc lv st σ := by
  obtain ⟨hx, hb, hml, hown, hts, hnw, hK, hinj, hAd, hA, hcl, hsl, hfr, hlo⟩ := K
  intro H locs ls hP hS hl
  simp only [zOk, Bool.and_eq_true, decide_eq_true_eq] at hk
  simp only [zEx] at h
  obtain ⟨⟨hn, hdg⟩, hk⟩ := hk
  obtain ⟨rfl, hd2⟩ := zLen hn hdg hk
  obtain ⟨x, r, rfl, h⟩ := zI_inv h
  exact lv_ineg hx hb hd2 (hZ _ _ _ _ h H locs ls hP hS hl)
theorem zo_i2l (K : zCx p l R s m args meth c cells slots D cI cJ ad A d mi) (hZ : zZX p l e R s m args below meth c cells slots Q D cI cJ ad A mi Z) (hk : zOk mi pc (.i2l, n, a, b, k1, e1, g, v, w, tb) = true) (h : zEx sc C post Z (.i2l, n, a, b, k1, e1, g, v, w, tb) lv st σ) : zXs p l e R s m args below meth c cells slots Q D cI cJ ad A mi pc lv st σ := by
  obtain ⟨hx, hb, hml, hown, hts, hnw, hK, hinj, hAd, hA, hcl, hsl, hfr, hlo⟩ := K
  intro H locs ls hP hS hl
  simp only [zOk, Bool.and_eq_true, decide_eq_true_eq] at hk
  simp only [zEx] at h
  obtain ⟨⟨hn, hdg⟩, hk⟩ := hk
  obtain ⟨rfl, hd2⟩ := zLen hn hdg hk
  obtain ⟨x, r, rfl, h⟩ := zI_inv h
  exact lv_i2l hx hb hd2 rfl (hZ _ _ _ _ h H locs ls hP hS hl)
theorem zo_l2i (K : zCx p l R s m args meth c cells slots D cI cJ ad A d mi) (hZ : zZX p l e R s m args below meth c cells slots Q D cI cJ ad A mi Z) (hk : zOk mi pc (.l2i, n, a, b, k1, e1, g, v, w, tb) = true) (h : zEx sc C post Z (.l2i, n, a, b, k1, e1, g, v, w, tb) lv st σ) : zXs p l e R s m args below meth c cells slots Q D cI cJ ad A mi pc lv st σ := by
  obtain ⟨hx, hb, hml, hown, hts, hnw, hK, hinj, hAd, hA, hcl, hsl, hfr, hlo⟩ := K
  intro H locs ls hP hS hl
  simp only [zOk, Bool.and_eq_true, decide_eq_true_eq] at hk
  simp only [zEx] at h
  obtain ⟨⟨hn, hdg⟩, hk⟩ := hk
  obtain ⟨rfl, hd2⟩ := zLen hn hdg hk
  obtain ⟨x, r, rfl, h⟩ := zJ_inv h
  exact lv_l2i hx hb hd2 rfl (hZ _ _ _ _ h H locs ls hP hS hl)
theorem zo_dup (K : zCx p l R s m args meth c cells slots D cI cJ ad A d mi) (hZ : zZX p l e R s m args below meth c cells slots Q D cI cJ ad A mi Z) (hk : zOk mi pc (.dup, n, a, b, k1, e1, g, v, w, tb) = true) (h : zEx sc C post Z (.dup, n, a, b, k1, e1, g, v, w, tb) lv st σ) : zXs p l e R s m args below meth c cells slots Q D cI cJ ad A mi pc lv st σ := by
  obtain ⟨hx, hb, hml, hown, hts, hnw, hK, hinj, hAd, hA, hcl, hsl, hfr, hlo⟩ := K
  intro H locs ls hP hS hl
  simp only [zOk, Bool.and_eq_true, decide_eq_true_eq] at hk
  simp only [zEx] at h
  obtain ⟨⟨hn, hdg⟩, hk⟩ := hk
  obtain ⟨rfl, hd2⟩ := zLen hn hdg hk
  obtain ⟨x, r, rfl, h0, h⟩ := zV1_inv h
  exact lv_dup hx hb hd2 (by rw [zCat_R]; exact h0) (hZ _ _ _ _ h H locs ls hP hS hl)
theorem zo_pop (K : zCx p l R s m args meth c cells slots D cI cJ ad A d mi) (hZ : zZX p l e R s m args below meth c cells slots Q D cI cJ ad A mi Z) (hk : zOk mi pc (.pop, n, a, b, k1, e1, g, v, w, tb) = true) (h : zEx sc C post Z (.pop, n, a, b, k1, e1, g, v, w, tb) lv st σ) : zXs p l e R s m args below meth c cells slots Q D cI cJ ad A mi pc lv st σ := by
  obtain ⟨hx, hb, hml, hown, hts, hnw, hK, hinj, hAd, hA, hcl, hsl, hfr, hlo⟩ := K
  intro H locs ls hP hS hl
  simp only [zOk, Bool.and_eq_true, decide_eq_true_eq] at hk
  simp only [zEx] at h
  obtain ⟨⟨hn, hdg⟩, hk⟩ := hk
  obtain ⟨rfl, hd2⟩ := zLen hn hdg hk
  obtain ⟨x, r, rfl, h0, h⟩ := zV1_inv h
  exact lv_pop hx hb hd2 (by rw [zCat_R]; exact h0) (hZ _ _ _ _ h H locs ls hP hS hl)
theorem zo_dup2 (K : zCx p l R s m args meth c cells slots D cI cJ ad A d mi) (hZ : zZX p l e R s m args below meth c cells slots Q D cI cJ ad A mi Z) (hk : zOk mi pc (.dup2, n, a, b, k1, e1, g, v, w, tb) = true) (h : zEx sc C post Z (.dup2, n, a, b, k1, e1, g, v, w, tb) lv st σ) : zXs p l e R s m args below meth c cells slots Q D cI cJ ad A mi pc lv st σ := by
  obtain ⟨hx, hb, hml, hown, hts, hnw, hK, hinj, hAd, hA, hcl, hsl, hfr, hlo⟩ := K
  intro H locs ls hP hS hl
  simp only [zOk, Bool.and_eq_true, decide_eq_true_eq] at hk
  simp only [zEx] at h
  obtain ⟨⟨hn, hdg⟩, hk⟩ := hk
  obtain ⟨rfl, hd2⟩ := zLen hn hdg hk
  obtain ⟨x, r, rfl, h0, h1⟩ := zV1_inv h
  obtain ⟨y, r2, rfl, h2, h⟩ := zV1_inv h1
  exact lv_dup2_11 hx hb hd2 (by rw [zCat_R]; exact h0) (by rw [zCat_R]; exact h2) (hZ _ _ _ _ h H locs ls hP hS hl)
theorem zo_if_eq {off : Int} (K : zCx p l R s m args meth c cells slots D cI cJ ad A d mi) (hZ : zZX p l e R s m args below meth c cells slots Q D cI cJ ad A mi Z) (hk : zOk mi pc (.ifCond .eq off, n, a, b, k1, e1, g, v, w, tb) = true) (h : zEx sc C post Z (.ifCond .eq off, n, a, b, k1, e1, g, v, w, tb) lv st σ) : zXs p l e R s m args below meth c cells slots Q D cI cJ ad A mi pc lv st σ := by
  obtain ⟨hx, hb, hml, hown, hts, hnw, hK, hinj, hAd, hA, hcl, hsl, hfr, hlo⟩ := K
  intro H locs ls hP hS hl
  simp only [zOk, Bool.and_eq_true, decide_eq_true_eq] at hk
  simp only [zEx] at h
  obtain ⟨⟨hn, hdg⟩, hk⟩ := hk
  obtain ⟨rfl, hd2⟩ := zLen hn hdg hk.1
  obtain ⟨x, r, rfl, h⟩ := zI_inv h
  exact lv_if_eq hx hb hd2 hk.2 (fun q => hZ _ _ _ _ (h.1 q) H locs ls hP hS hl) (fun q => hZ _ _ _ _ (h.2 q) H locs ls hP hS hl)
theorem zo_icmp_eq {off : Int} (K : zCx p l R s m args meth c cells slots D cI cJ ad A d mi) (hZ : zZX p l e R s m args below meth c cells slots Q D cI cJ ad A mi Z) (hk : zOk mi pc (.if_icmp .eq off, n, a, b, k1, e1, g, v, w, tb) = true) (h : zEx sc C post Z (.if_icmp .eq off, n, a, b, k1, e1, g, v, w, tb) lv st σ) : zXs p l e R s m args below meth c cells slots Q D cI cJ ad A mi pc lv st σ := by
  obtain ⟨hx, hb, hml, hown, hts, hnw, hK, hinj, hAd, hA, hcl, hsl, hfr, hlo⟩ := K
  intro H locs ls hP hS hl
  simp only [zOk, Bool.and_eq_true, decide_eq_true_eq] at hk
  simp only [zEx] at h
  obtain ⟨⟨hn, hdg⟩, hk⟩ := hk
  obtain ⟨rfl, hd2⟩ := zLen hn hdg hk.1
  obtain ⟨x, y, r, rfl, h⟩ := zII_inv h
  exact lv_icmp_eq hx hb hd2 hk.2 (fun q => hZ _ _ _ _ (h.1 q) H locs ls hP hS hl) (fun q => hZ _ _ _ _ (h.2 q) H locs ls hP hS hl)
theorem zo_if_ne {off : Int} (K : zCx p l R s m args meth c cells slots D cI cJ ad A d mi) (hZ : zZX p l e R s m args below meth c cells slots Q D cI cJ ad A mi Z) (hk : zOk mi pc (.ifCond .ne off, n, a, b, k1, e1, g, v, w, tb) = true) (h : zEx sc C post Z (.ifCond .ne off, n, a, b, k1, e1, g, v, w, tb) lv st σ) : zXs p l e R s m args below meth c cells slots Q D cI cJ ad A mi pc lv st σ := by
  obtain ⟨hx, hb, hml, hown, hts, hnw, hK, hinj, hAd, hA, hcl, hsl, hfr, hlo⟩ := K
  intro H locs ls hP hS hl
  simp only [zOk, Bool.and_eq_true, decide_eq_true_eq] at hk
  simp only [zEx] at h
  obtain ⟨⟨hn, hdg⟩, hk⟩ := hk
  obtain ⟨rfl, hd2⟩ := zLen hn hdg hk.1
  obtain ⟨x, r, rfl, h⟩ := zI_inv h
  exact lv_if_ne hx hb hd2 hk.2 (fun q => hZ _ _ _ _ (h.2 q) H locs ls hP hS hl) (fun q => hZ _ _ _ _ (h.1 q) H locs ls hP hS hl)
theorem zo_icmp_ne {off : Int} (K : zCx p l R s m args meth c cells slots D cI cJ ad A d mi) (hZ : zZX p l e R s m args below meth c cells slots Q D cI cJ ad A mi Z) (hk : zOk mi pc (.if_icmp .ne off, n, a, b, k1, e1, g, v, w, tb) = true) (h : zEx sc C post Z (.if_icmp .ne off, n, a, b, k1, e1, g, v, w, tb) lv st σ) : zXs p l e R s m args below meth c cells slots Q D cI cJ ad A mi pc lv st σ := by
  obtain ⟨hx, hb, hml, hown, hts, hnw, hK, hinj, hAd, hA, hcl, hsl, hfr, hlo⟩ := K
  intro H locs ls hP hS hl
  simp only [zOk, Bool.and_eq_true, decide_eq_true_eq] at hk
  simp only [zEx] at h
  obtain ⟨⟨hn, hdg⟩, hk⟩ := hk
  obtain ⟨rfl, hd2⟩ := zLen hn hdg hk.1
  obtain ⟨x, y, r, rfl, h⟩ := zII_inv h
  exact lv_icmp_ne hx hb hd2 hk.2 (fun q => hZ _ _ _ _ (h.2 q) H locs ls hP hS hl) (fun q => hZ _ _ _ _ (h.1 q) H locs ls hP hS hl)
theorem zo_if_lt {off : Int} (K : zCx p l R s m args meth c cells slots D cI cJ ad A d mi) (hZ : zZX p l e R s m args below meth c cells slots Q D cI cJ ad A mi Z) (hk : zOk mi pc (.ifCond .lt off, n, a, b, k1, e1, g, v, w, tb) = true) (h : zEx sc C post Z (.ifCond .lt off, n, a, b, k1, e1, g, v, w, tb) lv st σ) : zXs p l e R s m args below meth c cells slots Q D cI cJ ad A mi pc lv st σ := by
  obtain ⟨hx, hb, hml, hown, hts, hnw, hK, hinj, hAd, hA, hcl, hsl, hfr, hlo⟩ := K
  intro H locs ls hP hS hl
  simp only [zOk, Bool.and_eq_true, decide_eq_true_eq] at hk
  simp only [zEx] at h
  obtain ⟨⟨hn, hdg⟩, hk⟩ := hk
  obtain ⟨rfl, hd2⟩ := zLen hn hdg hk.1
  obtain ⟨x, r, rfl, h⟩ := zI_inv h
  exact lv_if_lt hx hb hd2 hk.2 (fun q => hZ _ _ _ _ (h.1 q) H locs ls hP hS hl) (fun q => hZ _ _ _ _ (h.2 q) H locs ls hP hS hl)
theorem zo_icmp_lt {off : Int} (K : zCx p l R s m args meth c cells slots D cI cJ ad A d mi) (hZ : zZX p l e R s m args below meth c cells slots Q D cI cJ ad A mi Z) (hk : zOk mi pc (.if_icmp .lt off, n, a, b, k1, e1, g, v, w, tb) = true) (h : zEx sc C post Z (.if_icmp .lt off, n, a, b, k1, e1, g, v, w, tb) lv st σ) : zXs p l e R s m args below meth c cells slots Q D cI cJ ad A mi pc lv st σ := by
  obtain ⟨hx, hb, hml, hown, hts, hnw, hK, hinj, hAd, hA, hcl, hsl, hfr, hlo⟩ := K
  intro H locs ls hP hS hl
  simp only [zOk, Bool.and_eq_true, decide_eq_true_eq] at hk
  simp only [zEx] at h
  obtain ⟨⟨hn, hdg⟩, hk⟩ := hk
  obtain ⟨rfl, hd2⟩ := zLen hn hdg hk.1
  obtain ⟨x, y, r, rfl, h⟩ := zII_inv h
  exact lv_icmp_lt hx hb hd2 hk.2 (fun q => hZ _ _ _ _ (h.1 q) H locs ls hP hS hl) (fun q => hZ _ _ _ _ (h.2 q) H locs ls hP hS hl)
theorem zo_if_le {off : Int} (K : zCx p l R s m args meth c cells slots D cI cJ ad A d mi) (hZ : zZX p l e R s m args below meth c cells slots Q D cI cJ ad A mi Z) (hk : zOk mi pc (.ifCond .le off, n, a, b, k1, e1, g, v, w, tb) = true) (h : zEx sc C post Z (.ifCond .le off, n, a, b, k1, e1, g, v, w, tb) lv st σ) : zXs p l e R s m args below meth c cells slots Q D cI cJ ad A mi pc lv st σ := by
  obtain ⟨hx, hb, hml, hown, hts, hnw, hK, hinj, hAd, hA, hcl, hsl, hfr, hlo⟩ := K
  intro H locs ls hP hS hl
  simp only [zOk, Bool.and_eq_true, decide_eq_true_eq] at hk
  simp only [zEx] at h
  obtain ⟨⟨hn, hdg⟩, hk⟩ := hk
  obtain ⟨rfl, hd2⟩ := zLen hn hdg hk.1
  obtain ⟨x, r, rfl, h⟩ := zI_inv h
  exact lv_if_le hx hb hd2 hk.2 (fun q => hZ _ _ _ _ (h.1 q) H locs ls hP hS hl) (fun q => hZ _ _ _ _ (h.2 q) H locs ls hP hS hl)
theorem zo_icmp_le {off : Int} (K : zCx p l R s m args meth c cells slots D cI cJ ad A d mi) (hZ : zZX p l e R s m args below meth c cells slots Q D cI cJ ad A mi Z) (hk : zOk mi pc (.if_icmp .le off, n, a, b, k1, e1, g, v, w, tb) = true) (h : zEx sc C post Z (.if_icmp .le off, n, a, b, k1, e1, g, v, w, tb) lv st σ) : zXs p l e R s m args below meth c cells slots Q D cI cJ ad A mi pc lv st σ := by
  obtain ⟨hx, hb, hml, hown, hts, hnw, hK, hinj, hAd, hA, hcl, hsl, hfr, hlo⟩ := K
  intro H locs ls hP hS hl
  simp only [zOk, Bool.and_eq_true, decide_eq_true_eq] at hk
  simp only [zEx] at h
  obtain ⟨⟨hn, hdg⟩, hk⟩ := hk
  obtain ⟨rfl, hd2⟩ := zLen hn hdg hk.1
  obtain ⟨x, y, r, rfl, h⟩ := zII_inv h
  exact lv_icmp_le hx hb hd2 hk.2 (fun q => hZ _ _ _ _ (h.1 q) H locs ls hP hS hl) (fun q => hZ _ _ _ _ (h.2 q) H locs ls hP hS hl)
theorem zo_if_ge {off : Int} (K : zCx p l R s m args meth c cells slots D cI cJ ad A d mi) (hZ : zZX p l e R s m args below meth c cells slots Q D cI cJ ad A mi Z) (hk : zOk mi pc (.ifCond .ge off, n, a, b, k1, e1, g, v, w, tb) = true) (h : zEx sc C post Z (.ifCond .ge off, n, a, b, k1, e1, g, v, w, tb) lv st σ) : zXs p l e R s m args below meth c cells slots Q D cI cJ ad A mi pc lv st σ := by
  obtain ⟨hx, hb, hml, hown, hts, hnw, hK, hinj, hAd, hA, hcl, hsl, hfr, hlo⟩ := K
  intro H locs ls hP hS hl
  simp only [zOk, Bool.and_eq_true, decide_eq_true_eq] at hk
  simp only [zEx] at h
  obtain ⟨⟨hn, hdg⟩, hk⟩ := hk
  obtain ⟨rfl, hd2⟩ := zLen hn hdg hk.1
  obtain ⟨x, r, rfl, h⟩ := zI_inv h
  exact lv_if_ge hx hb hd2 hk.2 (fun q => hZ _ _ _ _ (h.2 (Int32.not_lt.mpr q)) H locs ls hP hS hl) (fun q => hZ _ _ _ _ (h.1 (Int32.not_le.mp q)) H locs ls hP hS hl)
theorem zo_icmp_ge {off : Int} (K : zCx p l R s m args meth c cells slots D cI cJ ad A d mi) (hZ : zZX p l e R s m args below meth c cells slots Q D cI cJ ad A mi Z) (hk : zOk mi pc (.if_icmp .ge off, n, a, b, k1, e1, g, v, w, tb) = true) (h : zEx sc C post Z (.if_icmp .ge off, n, a, b, k1, e1, g, v, w, tb) lv st σ) : zXs p l e R s m args below meth c cells slots Q D cI cJ ad A mi pc lv st σ := by
  obtain ⟨hx, hb, hml, hown, hts, hnw, hK, hinj, hAd, hA, hcl, hsl, hfr, hlo⟩ := K
  intro H locs ls hP hS hl
  simp only [zOk, Bool.and_eq_true, decide_eq_true_eq] at hk
  simp only [zEx] at h
  obtain ⟨⟨hn, hdg⟩, hk⟩ := hk
  obtain ⟨rfl, hd2⟩ := zLen hn hdg hk.1
  obtain ⟨x, y, r, rfl, h⟩ := zII_inv h
  exact lv_icmp_ge hx hb hd2 hk.2 (fun q => hZ _ _ _ _ (h.2 (Int32.not_lt.mpr q)) H locs ls hP hS hl) (fun q => hZ _ _ _ _ (h.1 (Int32.not_le.mp q)) H locs ls hP hS hl)
theorem zo_if_gt {off : Int} (K : zCx p l R s m args meth c cells slots D cI cJ ad A d mi) (hZ : zZX p l e R s m args below meth c cells slots Q D cI cJ ad A mi Z) (hk : zOk mi pc (.ifCond .gt off, n, a, b, k1, e1, g, v, w, tb) = true) (h : zEx sc C post Z (.ifCond .gt off, n, a, b, k1, e1, g, v, w, tb) lv st σ) : zXs p l e R s m args below meth c cells slots Q D cI cJ ad A mi pc lv st σ := by
  obtain ⟨hx, hb, hml, hown, hts, hnw, hK, hinj, hAd, hA, hcl, hsl, hfr, hlo⟩ := K
  intro H locs ls hP hS hl
  simp only [zOk, Bool.and_eq_true, decide_eq_true_eq] at hk
  simp only [zEx] at h
  obtain ⟨⟨hn, hdg⟩, hk⟩ := hk
  obtain ⟨rfl, hd2⟩ := zLen hn hdg hk.1
  obtain ⟨x, r, rfl, h⟩ := zI_inv h
  exact lv_if_gt hx hb hd2 hk.2 (fun q => hZ _ _ _ _ (h.2 (Int32.not_le.mpr q)) H locs ls hP hS hl) (fun q => hZ _ _ _ _ (h.1 (Int32.not_lt.mp q)) H locs ls hP hS hl)
theorem zo_icmp_gt {off : Int} (K : zCx p l R s m args meth c cells slots D cI cJ ad A d mi) (hZ : zZX p l e R s m args below meth c cells slots Q D cI cJ ad A mi Z) (hk : zOk mi pc (.if_icmp .gt off, n, a, b, k1, e1, g, v, w, tb) = true) (h : zEx sc C post Z (.if_icmp .gt off, n, a, b, k1, e1, g, v, w, tb) lv st σ) : zXs p l e R s m args below meth c cells slots Q D cI cJ ad A mi pc lv st σ := by
  obtain ⟨hx, hb, hml, hown, hts, hnw, hK, hinj, hAd, hA, hcl, hsl, hfr, hlo⟩ := K
  intro H locs ls hP hS hl
  simp only [zOk, Bool.and_eq_true, decide_eq_true_eq] at hk
  simp only [zEx] at h
  obtain ⟨⟨hn, hdg⟩, hk⟩ := hk
  obtain ⟨rfl, hd2⟩ := zLen hn hdg hk.1
  obtain ⟨x, y, r, rfl, h⟩ := zII_inv h
  exact lv_icmp_gt hx hb hd2 hk.2 (fun q => hZ _ _ _ _ (h.2 (Int32.not_le.mpr q)) H locs ls hP hS hl) (fun q => hZ _ _ _ _ (h.1 (Int32.not_lt.mp q)) H locs ls hP hS hl)
theorem zo_goto {off : Int} (K : zCx p l R s m args meth c cells slots D cI cJ ad A d mi) (hZ : zZX p l e R s m args below meth c cells slots Q D cI cJ ad A mi Z) (hk : zOk mi pc (.goto off, n, a, b, k1, e1, g, v, w, tb) = true) (h : zEx sc C post Z (.goto off, n, a, b, k1, e1, g, v, w, tb) lv st σ) : zXs p l e R s m args below meth c cells slots Q D cI cJ ad A mi pc lv st σ := by
  obtain ⟨hx, hb, hml, hown, hts, hnw, hK, hinj, hAd, hA, hcl, hsl, hfr, hlo⟩ := K
  intro H locs ls hP hS hl
  simp only [zOk, Bool.and_eq_true, decide_eq_true_eq] at hk
  simp only [zEx] at h
  obtain ⟨⟨hn, hdg⟩, hk⟩ := hk
  obtain ⟨rfl, hd2⟩ := zLen hn hdg hk.1
  exact lv_goto hx hb hd2 hk.2 (hZ _ _ _ _ h H locs ls hP hS hl)
theorem zTbOk_get {pc : Nat} : ∀ (k : Int) (os : List Int) (tb : List (Int32 × Nat)), zTbOk pc k os tb = true → os.length = tb.length ∧ ∀ (j : Nat) (q : Int32 × Nat), tb[j]? = some q → q.1.toInt = k + (j : Int) ∧ ∃ o, os[j]? = some o ∧ (pc : Int) + o = (q.2 : Int)
  | k, [], [], _ => ⟨rfl, fun j q h => by simp at h⟩
  | k, [], q :: tb, h => by simp [zTbOk] at h
  | k, o :: os, [], h => by simp [zTbOk] at h
  | k, o :: os, q :: tb, h => by
    simp only [zTbOk, Bool.and_eq_true, decide_eq_true_eq] at h
    obtain ⟨⟨h1, h2⟩, h3⟩ := h
    obtain ⟨g1, g2⟩ := zTbOk_get (k + 1) os tb h3
    refine ⟨by simp [g1], fun j q2 hq => ?_⟩
    cases j with
    | zero =>
      simp only [List.getElem?_cons_zero, Option.some.injEq] at hq
      subst hq
      exact ⟨by omega, o, rfl, h2⟩
    | succ j =>
      obtain ⟨a1, o2, a2, a3⟩ := g2 j q2 hq
      exact ⟨by omega, o2, a2, a3⟩
theorem zLkOk_get {pc : Nat} {x : Int32} {d : Int} {X : Nat → Prop} {dt : Nat} (hd : (pc : Int) + d = (dt : Int)) : ∀ (os : List (Int × Int)) (tb : List (Int32 × Nat)), zLkOk pc os tb = true → zTb x X dt tb → ∃ t : Nat, (pc : Int) + Op.lookupswitch.offset os d x.toInt = (t : Int) ∧ X t
  | [], [], _, h => ⟨dt, by simpa [Op.lookupswitch.offset] using hd, h⟩
  | [], q :: tb, hk, _ => by simp [zLkOk] at hk
  | o :: os, [], hk, _ => by simp [zLkOk] at hk
  | o :: os, q :: tb, hk, h => by
    simp only [zLkOk, Bool.and_eq_true, decide_eq_true_eq] at hk
    obtain ⟨⟨h1, h2⟩, h3⟩ := hk
    obtain ⟨oa, ob⟩ := o
    by_cases e : x = q.1
    · refine ⟨q.2, ?_, h.1 e⟩
      rw [Op.lookupswitch.offset_cons, if_pos (by rw [e]; exact h1.symm)]
      exact h2
    · obtain ⟨t, a1, a2⟩ := zLkOk_get hd os tb h3 (h.2 e)
      exact ⟨t, by rw [lv_osw e h1]; exact a1, a2⟩
theorem zo_tableswitch {df lo hi : Int} {offs : Array Int} (K : zCx p l R s m args meth c cells slots D cI cJ ad A d mi) (hZ : zZX p l e R s m args below meth c cells slots Q D cI cJ ad A mi Z) (hk : zOk mi pc (.tableswitch df lo hi offs, n, a, b, k1, e1, g, v, w, tb) = true) (h : zEx sc C post Z (.tableswitch df lo hi offs, n, a, b, k1, e1, g, v, w, tb) lv st σ) : zXs p l e R s m args below meth c cells slots Q D cI cJ ad A mi pc lv st σ := by
  obtain ⟨hx, hb, hml, hown, hts, hnw, hK, hinj, hAd, hA, hcl, hsl, hfr, hlo⟩ := K
  intro H locs ls hP hS hl
  simp only [zOk, Bool.and_eq_true, decide_eq_true_eq] at hk
  simp only [zEx] at h
  obtain ⟨⟨hn, hdg⟩, ⟨h1, h2⟩, h3⟩ := hk
  obtain ⟨x, r, rfl, h⟩ := zI_inv h
  obtain ⟨g1, g2⟩ := zTbOk_get lo _ tb h3
  rcases zTb_inv h with ⟨k, q, e1, e2, e3, -⟩ | ⟨e1, e2⟩
  · obtain ⟨a1, o, a2, a3⟩ := g2 k q e1
    have hkl : k < tb.length := (List.getElem?_eq_some_iff.mp e1).1
    rw [← e2] at a1
    refine lv_tableIn hx hb hdg (by omega) (by omega) (off := o) ?_ a3 (hZ _ _ _ _ e3 H locs ls hP hS hl)
    rw [show (x.toInt - lo).toNat = k by omega, ← Array.getElem?_toList]
    exact a2
  · refine lv_tableOut hx hb hdg ?_ h1 (hZ _ _ _ _ e2 H locs ls hP hS hl)
    by_cases z1 : x.toInt < lo
    · exact Or.inl z1
    · by_cases z2 : hi < x.toInt
      · exact Or.inr z2
      · exfalso
        have hj : (x.toInt - lo).toNat < tb.length := by omega
        have e3 := List.getElem?_eq_getElem hj
        obtain ⟨a1, -⟩ := g2 _ _ e3
        refine e1 _ _ e3 ?_
        rw [← Int32.toInt_inj, a1]
        omega
theorem zo_lookupswitch {df : Int} {ps : Array (Int × Int)} (K : zCx p l R s m args meth c cells slots D cI cJ ad A d mi) (hZ : zZX p l e R s m args below meth c cells slots Q D cI cJ ad A mi Z) (hk : zOk mi pc (.lookupswitch df ps, n, a, b, k1, e1, g, v, w, tb) = true) (h : zEx sc C post Z (.lookupswitch df ps, n, a, b, k1, e1, g, v, w, tb) lv st σ) : zXs p l e R s m args below meth c cells slots Q D cI cJ ad A mi pc lv st σ := by
  obtain ⟨hx, hb, hml, hown, hts, hnw, hK, hinj, hAd, hA, hcl, hsl, hfr, hlo⟩ := K
  intro H locs ls hP hS hl
  simp only [zOk, Bool.and_eq_true, decide_eq_true_eq] at hk
  simp only [zEx] at h
  obtain ⟨⟨hn, hdg⟩, ⟨h1, h2⟩, h3⟩ := hk
  obtain ⟨x, r, rfl, h⟩ := zI_inv h
  obtain ⟨t, a1, a2⟩ := zLkOk_get h1 _ tb h3 h
  exact lv_lookup hx hb hdg h2 rfl a1 (hZ _ _ _ _ a2 H locs ls hP hS hl)
theorem zFl_spec {own : String} {idx a b g : Nat} (h : zFl own idx a b g = true) : Cond.fieldLink own idx ((zCl a).2.1 b).1 ((zCl a).2.1 b).2.1 ((zCl a).2.1 b).2.2.1 ∈ zTg := zin _ (of_decide_eq_true h) rfl
theorem zFn_spec {own : String} {idx a b g : Nat} (h : zFn own idx a b g = true) : Cond.fieldLinkNest own idx ((zCl a).2.1 b).1 ((zCl a).2.1 b).2.1 ((zCl a).2.1 b).2.2.1 "RatePlanner" ∈ zNw := zinN _ (of_decide_eq_true h) rfl
theorem zo_getfield {idx : Nat} (K : zCx p l R s m args meth c cells slots D cI cJ ad A d mi) (hZ : zZX p l e R s m args below meth c cells slots Q D cI cJ ad A mi Z) (hk : zOk mi pc (.getfield idx, n, a, b, k1, e1, g, v, w, tb) = true) (h : zEx sc C post Z (.getfield idx, n, a, b, k1, e1, g, v, w, tb) lv st σ) : zXs p l e R s m args below meth c cells slots Q D cI cJ ad A mi pc lv st σ := by
  obtain ⟨hx, hb, hml, hown, hts, hnw, hK, hinj, hAd, hA, hcl, hsl, hfr, hlo⟩ := K
  intro H locs ls hP hS hl
  simp only [zOk, Bool.and_eq_true, decide_eq_true_eq] at hk
  simp only [zEx] at h
  obtain ⟨⟨hn, hdg⟩, ⟨⟨h1, h2⟩, h3⟩, h4⟩ := hk
  obtain ⟨rfl, hd2⟩ := zLen hn hdg h1
  have h2 := Nat.le_of_ble_eq_true h2
  have h3 := Nat.le_of_ble_eq_true h3
  obtain ⟨q, r, rfl, h⟩ := zA_inv h
  obtain ⟨hg, h⟩ := zG_inv h
  simp only [Bool.and_eq_true] at hg
  obtain ⟨sl, hq, hs⟩ := zIsO_spec hg.1
  have hkd := Nat.eq_of_beq_eq_true hg.2
  obtain ⟨hcl2, hcv⟩ := zCl_get h2
  obtain ⟨hin, -, -⟩ := zCv_spec hcv
  have go : ∀ val : Value, (zFs ad σ q 0 sl)[b]? = some val → W p l e R s m args below meth c H locs cells slots Q (F0 m (pc + 3) ls (val :: r.map (zR ad))) → W p l e R s m args below meth c H locs cells slots Q (F0 m pc ls (.ref (ad q) :: r.map (zR ad))) := by
    intro val hv hw
    have he := zW_get ad cI cJ σ hq
    simp only [Bool.or_eq_true] at h4
    rcases h4 with h4 | h4
    · exact va_get (D := D) hx hb hts hin hown hK hP q he hcl2 b h3 (hts _ (zFl_spec h4)) (fun _ h9 => h9) hv hd2 hw
    · exact va_getN (D := D) hx hb hts hin hown hK hP q he hcl2 b h3 (va_Nw.use rfl (hnw _ (zFn_spec h4))) (fun _ h9 => h9) hv hd2 hw
  have hsl : (zSl q b).1 ≠ 9 → sl[b]? = some (zSl q b) := fun z => by rw [hs b] at z ⊢; exact zGetD_some z
  match k1, hkd, h with
  | 0, hkd, h =>
    have e2 := zFs_get ad σ q sl 0 b _ (hsl (by rw [hkd]; decide))
    rw [hkd] at e2
    exact go _ e2 (hZ _ _ _ _ h H locs ls hP hS hl)
  | 1, hkd, h =>
    have e2 := zFs_get ad σ q sl 0 b _ (hsl (by rw [hkd]; decide))
    rw [hkd, Nat.zero_add] at e2
    exact go _ e2 (hZ _ _ _ _ h H locs ls hP hS hl)
  | 2, hkd, h =>
    have e2 := zFs_get ad σ q sl 0 b _ (hsl (by rw [hkd]; decide))
    rw [hkd, Nat.zero_add] at e2
    exact go _ e2 (hZ _ _ _ _ h H locs ls hP hS hl)
  | 3, hkd, h =>
    have e2 := zFs_get ad σ q sl 0 b _ (hsl (by rw [hkd]; decide))
    rw [hkd, Nat.zero_add] at e2
    exact go _ e2 (hZ _ _ _ _ h H locs ls hP hS hl)
  | k + 4, _, h => exact False.elim h
theorem zo_putfield {idx : Nat} (K : zCx p l R s m args meth c cells slots D cI cJ ad A d mi) (hZ : zZX p l e R s m args below meth c cells slots Q D cI cJ ad A mi Z) (hk : zOk mi pc (.putfield idx, n, a, b, k1, e1, g, v, w, tb) = true) (h : zEx sc C post Z (.putfield idx, n, a, b, k1, e1, g, v, w, tb) lv st σ) : zXs p l e R s m args below meth c cells slots Q D cI cJ ad A mi pc lv st σ := by
  obtain ⟨hx, hb, hml, hown, hts, hnw, hK, hinj, hAd, hA, hcl, hsl, hfr, hlo⟩ := K
  intro H locs ls hP hS hl
  simp only [zOk, Bool.and_eq_true, decide_eq_true_eq] at hk
  simp only [zEx] at h
  obtain ⟨⟨hn, hdg⟩, ⟨⟨⟨⟨h1, h2⟩, h3⟩, h4⟩, h5⟩, h6⟩ := hk
  obtain ⟨rfl, hd2⟩ := zLen hn hdg h1
  have h2 := Nat.le_of_ble_eq_true h2
  have h3 := Nat.le_of_ble_eq_true h3
  obtain ⟨hcl2, hcv⟩ := zCl_get h2
  obtain ⟨hin, hty, hnm⟩ := zCv_spec hcv
  have hfin : ((zCl a).2.1 b).2.2.2 = false := by simpa using h5
  match k1, h, h6 with
  | 0, h, _ => exact False.elim h
  | 1, h, h6 =>
    obtain ⟨x, r, rfl, h7⟩ := zI_inv h
    obtain ⟨q, r2, rfl, h8⟩ := zA_inv h7
    obtain ⟨hg, h9⟩ := zG_inv h8
    simp only [Bool.and_eq_true] at hg
    obtain ⟨sl, hq, hs⟩ := zIsO_spec hg.1
    have hkd := Nat.eq_of_beq_eq_true hg.2
    have hsl : sl[b]? = some (zSl q b) := by rw [hs b]; exact zGetD_some (by rw [← hs b, hkd]; decide)
    have he : (zW ad cI cJ σ)[q]? = some (ad q, .inr (a, zFs ad σ q 0 sl)) := zW_get ad cI cJ σ hq
    have e1 : (zW ad cI cJ σ).set q (ad q, .inr (a, (zFs ad σ q 0 sl).set b (.int x))) = zW ad cI cJ (zSI σ q b x) := by
      rw [zFs_setI ad σ q x sl 0 b _ hsl (Or.inl hkd), Nat.zero_add]
      exact zW_set ad cI cJ hq (fun a h => zSI_1 h) (fun a h => rfl)
    exact va_put (D := D) (ty := .int) (v := .int x) hx hb hts hin _ hty hnm hown hK hP (zD_of hinj hAd σ) hS q he hcl2 b h3 (hts _ (zFl_spec h4)) (fun _ h9 => h9) hfin h6 rfl rfl (by rw [zFs_len]; exact (List.getElem?_eq_some_iff.mp hsl).1) hd2 (fun H1 locs1 hP1 hD1 hS1 => hZ _ _ _ _ h9 H1 locs1 ls (by rw [e1] at hP1; exact hP1) hS1 hl)
  | 2, h, h6 =>
    obtain ⟨x, r, rfl, h7⟩ := zI_inv h
    obtain ⟨q, r2, rfl, h8⟩ := zA_inv h7
    obtain ⟨hg, h9⟩ := zG_inv h8
    obtain ⟨hg2, h10⟩ := zG_inv h9
    simp only [Bool.and_eq_true] at hg
    obtain ⟨sl, hq, hs⟩ := zIsO_spec hg.1
    have hkd := Nat.eq_of_beq_eq_true hg.2
    have hsl : sl[b]? = some (zSl q b) := by rw [hs b]; exact zGetD_some (by rw [← hs b, hkd]; decide)
    have he : (zW ad cI cJ σ)[q]? = some (ad q, .inr (a, zFs ad σ q 0 sl)) := zW_get ad cI cJ σ hq
    have e1 : (zW ad cI cJ σ).set q (ad q, .inr (a, (zFs ad σ q 0 sl).set b (.int x))) = zW ad cI cJ (zSI σ q b x) := by
      rw [zFs_setI ad σ q x sl 0 b _ hsl (Or.inr hkd), Nat.zero_add]
      exact zW_set ad cI cJ hq (fun a h => zSI_1 h) (fun a h => rfl)
    exact va_put (D := D) (ty := .boolean) (v := .int x) hx hb hts hin _ hty hnm hown hK hP (zD_of hinj hAd σ) hS q he hcl2 b h3 (hts _ (zFl_spec h4)) (fun _ h9 => h9) hfin h6 (z01_nar hg2) hg2 (by rw [zFs_len]; exact (List.getElem?_eq_some_iff.mp hsl).1) hd2 (fun H1 locs1 hP1 hD1 hS1 => hZ _ _ _ _ h10 H1 locs1 ls (by rw [e1] at hP1; exact hP1) hS1 hl)
  | 3, h, h6 =>
    obtain ⟨x, r, rfl, h7⟩ := zJ_inv h
    obtain ⟨q, r2, rfl, h8⟩ := zA_inv h7
    obtain ⟨hg, h9⟩ := zG_inv h8
    simp only [Bool.and_eq_true] at hg
    obtain ⟨sl, hq, hs⟩ := zIsO_spec hg.1
    have hkd := Nat.eq_of_beq_eq_true hg.2
    have hsl : sl[b]? = some (zSl q b) := by rw [hs b]; exact zGetD_some (by rw [← hs b, hkd]; decide)
    have he : (zW ad cI cJ σ)[q]? = some (ad q, .inr (a, zFs ad σ q 0 sl)) := zW_get ad cI cJ σ hq
    have e1 : (zW ad cI cJ σ).set q (ad q, .inr (a, (zFs ad σ q 0 sl).set b (.long x))) = zW ad cI cJ (zSJ σ q b x) := by
      rw [zFs_setJ ad σ q x sl 0 b _ hsl hkd, Nat.zero_add]
      exact zW_set ad cI cJ hq (fun a h => rfl) (fun a h => zSJ_1 h)
    exact va_put (D := D) (ty := .long) (v := .long x) hx hb hts hin _ hty hnm hown hK hP (zD_of hinj hAd σ) hS q he hcl2 b h3 (hts _ (zFl_spec h4)) (fun _ h9 => h9) hfin h6 rfl rfl (by rw [zFs_len]; exact (List.getElem?_eq_some_iff.mp hsl).1) hd2 (fun H1 locs1 hP1 hD1 hS1 => hZ _ _ _ _ h9 H1 locs1 ls (by rw [e1] at hP1; exact hP1) hS1 hl)
  | k + 4, h, _ => exact False.elim h
theorem zo_iaload (hsc : ∀ t, sc = some t → va_X (ad 80) t.1 t.2 s s.heap ∧ ad 80 < s.heap.size ∧ ¬ A (ad 80)) (K : zCx p l R s m args meth c cells slots D cI cJ ad A d mi) (hZ : zZX p l e R s m args below meth c cells slots Q D cI cJ ad A mi Z) (hk : zOk mi pc (.iaload, n, a, b, k1, e1, g, v, w, tb) = true) (h : zEx sc C post Z (.iaload, n, a, b, k1, e1, g, v, w, tb) lv st σ) : zXs p l e R s m args below meth c cells slots Q D cI cJ ad A mi pc lv st σ := by
  obtain ⟨hx, hb, hml, hown, hts, hnw, hK, hinj, hAd, hA, hcl, hsl, hfr, hlo⟩ := K
  intro H locs ls hP hS hl
  simp only [zOk, Bool.and_eq_true, decide_eq_true_eq] at hk
  simp only [zEx] at h
  obtain ⟨⟨hn, hdg⟩, hk⟩ := hk
  obtain ⟨rfl, hd2⟩ := zLen hn hdg hk
  obtain ⟨q, i, r, rfl, h0⟩ := zAI_inv h
  unfold zIl at h0
  cases hz : zIsI q with
  | true =>
    rw [hz] at h0
    obtain ⟨sl, hq⟩ := zIsI_spec hz
    exact va_iald (D := D) hx hb hK hP q 0 (cA := cI) (n := zN q) (f := σ.1 q) (zW_get ad cI cJ σ hq) rfl h0.1 hd2 (hZ _ _ _ _ h0.2 H locs ls hP hS hl)
  | false =>
    rw [hz] at h0
    cases sc with
    | none => exact False.elim h0
    | some t =>
      obtain ⟨h1, h2⟩ := zG_inv h0
      have e := Nat.eq_of_beq_eq_true h1
      subst e
      obtain ⟨g1, g2, g3⟩ := hsc t rfl
      exact va_sld hx hb g1 g2 g3 hS h2.1 hd2 (hZ _ _ _ _ h2.2 H locs ls hP hS hl)
theorem zo_laload (K : zCx p l R s m args meth c cells slots D cI cJ ad A d mi) (hZ : zZX p l e R s m args below meth c cells slots Q D cI cJ ad A mi Z) (hk : zOk mi pc (.laload, n, a, b, k1, e1, g, v, w, tb) = true) (h : zEx sc C post Z (.laload, n, a, b, k1, e1, g, v, w, tb) lv st σ) : zXs p l e R s m args below meth c cells slots Q D cI cJ ad A mi pc lv st σ := by
  obtain ⟨hx, hb, hml, hown, hts, hnw, hK, hinj, hAd, hA, hcl, hsl, hfr, hlo⟩ := K
  intro H locs ls hP hS hl
  simp only [zOk, Bool.and_eq_true, decide_eq_true_eq] at hk
  simp only [zEx] at h
  obtain ⟨⟨hn, hdg⟩, hk⟩ := hk
  obtain ⟨rfl, hd2⟩ := zLen hn hdg hk
  obtain ⟨q, i, r, rfl, h⟩ := zAI_inv h
  obtain ⟨hz, h⟩ := zG_inv h
  obtain ⟨sl, hq⟩ := zIsJ_spec hz
  exact va_lald (D := D) hx hb hK hP q 1 (cA := cJ) (n := zN q) (f := σ.2 q) (zW_get ad cI cJ σ hq) rfl h.1 hd2 (hZ _ _ _ _ h.2 H locs ls hP hS hl)
theorem zo_iastore (K : zCx p l R s m args meth c cells slots D cI cJ ad A d mi) (hZ : zZX p l e R s m args below meth c cells slots Q D cI cJ ad A mi Z) (hk : zOk mi pc (.iastore, n, a, b, k1, e1, g, v, w, tb) = true) (h : zEx sc C post Z (.iastore, n, a, b, k1, e1, g, v, w, tb) lv st σ) : zXs p l e R s m args below meth c cells slots Q D cI cJ ad A mi pc lv st σ := by
  obtain ⟨hx, hb, hml, hown, hts, hnw, hK, hinj, hAd, hA, hcl, hsl, hfr, hlo⟩ := K
  intro H locs ls hP hS hl
  simp only [zOk, Bool.and_eq_true, decide_eq_true_eq] at hk
  simp only [zEx] at h
  obtain ⟨⟨hn, hdg⟩, hk⟩ := hk
  obtain ⟨rfl, hd2⟩ := zLen hn hdg hk
  obtain ⟨x, r0, rfl, h1⟩ := zI_inv h
  obtain ⟨q, i, r, rfl, h2⟩ := zAI_inv h1
  obtain ⟨hz, h3⟩ := zG_inv h2
  obtain ⟨sl, hq⟩ := zIsI_spec hz
  have e1 := zW_set ad cI cJ (σ := σ) (τ := zSI σ q i.toNatClampNeg x) hq (fun a h => zSI_1 h) (fun a h => rfl)
  rw [show zEn ad cI cJ (zSI σ q i.toNatClampNeg x) q (1, zN q, sl) = .inl (cI, zN q, .inl (upd (σ.1 q) i.toNatClampNeg x)) from by rw [← zSI_s]; rfl] at e1
  exact va_iast (D := D) hx hb hK hP (zD_of hinj hAd σ) hS q 0 (cA := cI) (n := zN q) (f := σ.1 q) (zW_get ad cI cJ σ hq) rfl h3.1 hd2 (fun H1 locs1 hP1 hD1 hS1 => hZ _ _ _ _ h3.2 H1 locs1 ls (by rw [e1] at hP1; exact hP1) hS1 hl)
theorem zo_lastore (K : zCx p l R s m args meth c cells slots D cI cJ ad A d mi) (hZ : zZX p l e R s m args below meth c cells slots Q D cI cJ ad A mi Z) (hk : zOk mi pc (.lastore, n, a, b, k1, e1, g, v, w, tb) = true) (h : zEx sc C post Z (.lastore, n, a, b, k1, e1, g, v, w, tb) lv st σ) : zXs p l e R s m args below meth c cells slots Q D cI cJ ad A mi pc lv st σ := by
  obtain ⟨hx, hb, hml, hown, hts, hnw, hK, hinj, hAd, hA, hcl, hsl, hfr, hlo⟩ := K
  intro H locs ls hP hS hl
  simp only [zOk, Bool.and_eq_true, decide_eq_true_eq] at hk
  simp only [zEx] at h
  obtain ⟨⟨hn, hdg⟩, hk⟩ := hk
  obtain ⟨rfl, hd2⟩ := zLen hn hdg hk
  obtain ⟨x, r0, rfl, h1⟩ := zJ_inv h
  obtain ⟨q, i, r, rfl, h2⟩ := zAI_inv h1
  obtain ⟨hz, h3⟩ := zG_inv h2
  obtain ⟨sl, hq⟩ := zIsJ_spec hz
  have e1 := zW_set ad cI cJ (σ := σ) (τ := zSJ σ q i.toNatClampNeg x) hq (fun a h => rfl) (fun a h => zSJ_1 h)
  rw [show zEn ad cI cJ (zSJ σ q i.toNatClampNeg x) q (2, zN q, sl) = .inl (cJ, zN q, .inr (.inl (vp_updL (σ.2 q) i.toNatClampNeg x))) from by rw [← zSJ_s]; rfl] at e1
  exact va_last (D := D) hx hb hK hP (zD_of hinj hAd σ) hS q 1 (cA := cJ) (n := zN q) (f := σ.2 q) (zW_get ad cI cJ σ hq) rfl h3.1 hd2 (fun H1 locs1 hP1 hD1 hS1 => hZ _ _ _ _ h3.2 H1 locs1 ls (by rw [e1] at hP1; exact hP1) hS1 hl)
theorem zo_arraylength (hsc : ∀ t, sc = some t → va_X (ad 80) t.1 t.2 s s.heap ∧ ad 80 < s.heap.size ∧ ¬ A (ad 80)) (K : zCx p l R s m args meth c cells slots D cI cJ ad A d mi) (hZ : zZX p l e R s m args below meth c cells slots Q D cI cJ ad A mi Z) (hk : zOk mi pc (.arraylength, n, a, b, k1, e1, g, v, w, tb) = true) (h : zEx sc C post Z (.arraylength, n, a, b, k1, e1, g, v, w, tb) lv st σ) : zXs p l e R s m args below meth c cells slots Q D cI cJ ad A mi pc lv st σ := by
  obtain ⟨hx, hb, hml, hown, hts, hnw, hK, hinj, hAd, hA, hcl, hsl, hfr, hlo⟩ := K
  intro H locs ls hP hS hl
  simp only [zOk, Bool.and_eq_true, decide_eq_true_eq] at hk
  simp only [zEx] at h
  obtain ⟨⟨hn, hdg⟩, hk⟩ := hk
  obtain ⟨rfl, hd2⟩ := zLen hn hdg hk
  obtain ⟨q, r, rfl, h1⟩ := zA_inv h
  unfold zLe at h1
  cases hz : zIsI q with
  | true =>
    rw [hz] at h1
    obtain ⟨sl, hq⟩ := zIsI_spec hz
    exact va_alen (D := D) hx hb hK hP q 0 (cA := cI) (zW_get ad cI cJ σ hq) rfl rfl hd2 (hZ _ _ _ _ h1 H locs ls hP hS hl)
  | false =>
    cases hz2 : zIsJ q with
    | true =>
      rw [hz, hz2] at h1
      obtain ⟨sl, hq⟩ := zIsJ_spec hz2
      exact va_alen (D := D) hx hb hK hP q 1 (cA := cJ) (zW_get ad cI cJ σ hq) rfl rfl hd2 (hZ _ _ _ _ h1 H locs ls hP hS hl)
    | false =>
      rw [hz, hz2] at h1
      cases sc with
      | none => exact False.elim h1
      | some t =>
        obtain ⟨h2, h3⟩ := zG_inv h1
        have e := Nat.eq_of_beq_eq_true h2
        subst e
        obtain ⟨g1, g2, g3⟩ := hsc t rfl
        exact va_slen hx hb g1 g2 g3 hS hd2 (hZ _ _ _ _ h3 H locs ls hP hS hl)
end ZX
end
section
/-! calls and ends of the small machine; then all of it -/
section ZC
variable {p : Program} {l : Launch} {e : Env} {R : Room} {s : State} {m : MethodId} {args : Array Value} {below : List Frame} {meth : Method} {c : Code} {cells slots : Nat} {Q : State → Prop} {D : va_G} {cI cJ : ClassId} {ad : Nat → Nat} {A : Nat → Prop} {d mi : Nat}
variable {sc : Option (Nat × (Nat → Int32))} {C : zCa} {post : zPo} {Z : zX} {pc n a b k1 e1 g : Nat} {v : Int32} {w : Int64} {tb : List (Int32 × Nat)} {lv : zLo} {st : List Value} {σ : zS}
/-- behind a call -/
theorem z_go {H : Heap} {locs : List Loc} {ls : Array Slot} {st0 r : List Value} {po : zPo} {av : Array Value} (K : zCx p l R s m args meth c cells slots D cI cJ ad A d mi) (hS : va_S A s.heap H locs) (hl : zHas ad ls (zMl mi) lv)
    (hrun : va_Run p l e R s m args below meth c H locs cells slots 0 0 (F0 m pc ls st0) (r.map (zR ad)) (zQ D cI cJ ad H.size po av) (zA0 ad H.size))
    (hk : ∀ (v : Option Value) (σ2 : zS), po v σ2 → v.toList.map (zR ad) = v.toList ∧ zXs p l e R s m args below meth c cells slots Q D cI cJ ad A mi (pc + 3) lv (v.toList ++ r) σ2) : W p l e R s m args below meth c H locs cells slots Q (F0 m pc ls st0) := by
  obtain ⟨hx, hb, hml, hown, hts, hnw, hK, hinj, hAd, hA, hcl, hsl, hfr, hlo⟩ := K
  refine z_callG hrun (fun v st₀ t H1 L h0 ht hQa hL => ?_)
  obtain ⟨⟨r2, σ2, hr, hp, hP1⟩, hF⟩ := hQa
  cases hr
  obtain ⟨g1, g2⟩ := hk v σ2 hp
  have e3 := g2 H1 (locs ++ L) ls (by rw [← ht]; exact hP1) (zS_call hS hAd hA h0 hF ht hL) hl
  rw [List.map_append, g1] at e3
  exact e3
/-- what a call's room and words ask -/
theorem z_room (K : zCx p l R s m args meth c cells slots D cI cJ ad A d mi) {a : Nat} (ha : zMl a ≤ 13) : (zRm d).frames + 1 ≤ R.frames ∧ 8 + (zMl a + 11) + (zRm d).locals ≤ R.locals := by
  obtain ⟨hx, hb, hml, hown, hts, hnw, hK, hinj, hAd, hA, hcl, hsl, hfr, hlo⟩ := K
  refine ⟨hfr, ?_⟩
  show 8 + (zMl a + 11) + 32 * d ≤ R.locals
  omega
theorem z_pre (hsc : ∀ t, sc = some t → va_X (ad 80) t.1 t.2 s s.heap ∧ ad 80 < s.heap.size ∧ ¬ A (ad 80)) (K : zCx p l R s m args meth c cells slots D cI cJ ad A d mi) {H : Heap} {locs : List Loc} (hS : va_S A s.heap H locs) (hP : va_P D vwCl (zW ad cI cJ σ) H) {U : State} (hU : U.heap = H) (hW : s.WarmedH U.vm) : zB sc D cI cJ ad H.size σ U := by
  obtain ⟨hx, hb, hml, hown, hts, hnw, hK, hinj, hAd, hA, hcl, hsl, hfr, hlo⟩ := K
  exact ⟨by rw [hU], by rw [hU]; exact hP, va_K.moved hW.alike hK, fun w hw => zNw_warm hw hW (hnw w hw), fun t ht => ⟨by rw [hU]; exact va_X.moved hW.alike (va_X.kept (hsc t ht).1 (hS.2.1 _ (hsc t ht).2.1 (hsc t ht).2.2)), Nat.lt_of_lt_of_le (hsc t ht).2.1 hS.1, fun k hk e => (hsc t ht).2.2 (by rw [← e]; exact hAd k hk)⟩⟩
theorem z_res {av : List Value} {cc : Nat} {X : zX} {r : List Value} {pc : Nat} {lv : zLo} {hC : zCa} {a : Nat} (h : match cc with
    | 0 => hC a av σ (zPV fun σ => X pc lv r σ)
    | 1 => hC a av σ (zPI fun x σ => X pc lv (.int x :: r) σ)
    | _ => hC a av σ (zPJ fun x σ => X pc lv (.long x :: r) σ)) : ∃ po : zPo, hC a av σ po ∧ ∀ (v : Option Value) (σ2 : zS), po v σ2 → (∀ ad : Nat → Nat, v.toList.map (zR ad) = v.toList) ∧ X pc lv (v.toList ++ r) σ2 := by
  match cc, h with
  | 0, h => exact ⟨_, h, fun v σ2 hp => by obtain ⟨rfl, hp⟩ := hp; exact ⟨fun _ => rfl, hp⟩⟩
  | 1, h => exact ⟨_, h, fun v σ2 hp => by obtain ⟨x, rfl, hp⟩ := hp; exact ⟨fun _ => rfl, hp⟩⟩
  | k + 2, h => exact ⟨_, h, fun v σ2 hp => by obtain ⟨x, rfl, hp⟩ := hp; exact ⟨fun _ => rfl, hp⟩⟩
theorem zo_invokevirtual {idx : Nat} (hsc : ∀ t, sc = some t → va_X (ad 80) t.1 t.2 s s.heap ∧ ad 80 < s.heap.size ∧ ¬ A (ad 80)) (hC : ∀ (a : Nat) (av : List Value) (σ : zS) (po : zPo), a < 85 → a ≠ nL_law → C a av σ po → zCon sc l D cI cJ ad d a av σ po) (K : zCx p l R s m args meth c cells slots D cI cJ ad A d mi) (hZ : zZX p l e R s m args below meth c cells slots Q D cI cJ ad A mi Z) (hk : zOk mi pc (.invokevirtual idx, n, a, b, k1, e1, g, v, w, tb) = true) (h : zEx sc C post Z (.invokevirtual idx, n, a, b, k1, e1, g, v, w, tb) lv st σ) : zXs p l e R s m args below meth c cells slots Q D cI cJ ad A mi pc lv st σ := by
  have K0 := K
  obtain ⟨hx, hb, hml, hown, hts, hnw, hK, hinj, hAd, hA, hcl, hsl, hfr, hlo⟩ := K
  intro H locs ls hP hS hl
  simp only [zOk, Bool.and_eq_true, decide_eq_true_eq] at hk
  simp only [zEx] at h
  obtain ⟨⟨hn, hdg⟩, ⟨⟨⟨⟨⟨⟨⟨⟨h1, h2⟩, h3⟩, h4⟩, h5⟩, h6⟩, h7⟩, h8⟩, h9⟩, h10⟩ := hk
  obtain ⟨rfl, hd2⟩ := zLen hn hdg h1
  have h2 := Nat.le_of_ble_eq_true h2
  have h3 : a ≠ nL_law := by
    intro q
    rw [q] at h3
    simp at h3
  have h4 : zMs a = false := by simpa using h4
  have h5 := Nat.eq_of_beq_eq_true h5
  have h6 : ¬ (zY a).name = "<init>" := by simpa using h6
  have h7 := Nat.le_of_ble_eq_true h7
  obtain ⟨av0, r, hlen, rfl, hq⟩ := zPn_inv b [] st _ h
  rw [List.append_nil] at hq
  obtain ⟨hg, hq2⟩ := zG_inv hq
  simp only [Bool.and_eq_true] at hg
  obtain ⟨hrc, hw8⟩ := hg
  have hw8 := Nat.le_of_ble_eq_true hw8
  obtain ⟨m1, m2, m3, m4, m5, m6, m7⟩ := zMv_spec h2 h3
  obtain ⟨n1, n2, n3, n4⟩ := m7 h4
  have n2 := n2.resolve_left h6
  obtain ⟨po, hca, hpo⟩ := z_res hq2
  have hM := hC a av0.reverse σ po h2 h3 hca H.size
  -- the receiver
  cases hav : av0.reverse with
  | nil => rw [hav] at hrc; exact absurd hrc (by simp [zRc])
  | cons rv as =>
    rw [hav] at hrc hM
    cases rv with
    | ref q =>
      obtain ⟨sl, hq3, -⟩ := zIsO_spec (show zIsO q e1 = true from hrc)
      have hav2 : av0 = as.reverse ++ [.ref q] := by
        have := congrArg List.reverse hav
        simpa using this
      subst h5
      have hn1 : (as.map (zR ad)).length = b - 1 := by
        have : av0.length = as.length + 1 := by rw [hav2]; simp
        rw [List.length_map]; omega
      have hst : (List.map (zR ad) (av0 ++ r)) = (as.map (zR ad)).reverse ++ .ref (ad q) :: r.map (zR ad) := by
        rw [hav2]; simp [zR]
      obtain ⟨hcl2, hcv⟩ := zCl_get n3
      have hrecv := va_recv hK hP hcl2 (zW_get ad cI cJ σ hq3)
      have hpre : PreV s H (zY a).cls (ad q) (va_Pc ((Value.ref q :: as).map (zR ad)) (zB sc D cI cJ ad H.size σ)) (as.map (zR ad)) :=
        ⟨zB_blind sc D cI cJ ad H.size σ _, by rw [← n4]; exact hrecv, fun U hU hW => ⟨rfl, z_pre hsc K0 hS hP hU hW⟩⟩
      have hsum : ((r.map (zR ad)).map fun v => v.category).sum ≤ 8 := by rw [zW8_R]; exact hw8
      rw [hst]
      simp only [Bool.or_eq_true, decide_eq_true_eq] at h10
      rcases h10 with h10 | h10
      · refine z_go K0 hS hl (va_runV (Ts := zTg) (own := (zY mi).cls) (C := (zY a).cls) (index := idx) (n := b - 1) ⟨hx, hb, hml, hown, hts⟩ hM (cwV (b - 1) hts (zTg_GoodIn fun w hw => ?_) rfl rfl rfl ⟨rfl, m3.1, m3.2, h8⟩ (z_room K0 m5)) hpre rfl hn1 hl.1.1 rfl (lv_room hsum) hd2 ⟨hcl, hsl⟩) (fun v σ2 hp => ⟨(hpo v σ2 hp).1 ad, hZ _ _ _ _ (hpo v σ2 hp).2⟩)
        rcases List.mem_append.mp hw with hw | hw
        · simp only [List.mem_cons, List.not_mem_nil, or_false] at hw
          rcases hw with rfl | rfl | rfl | rfl
          · exact zin _ h10 rfl
          · exact n1
          · exact n2
          · exact m2
        · rcases List.mem_cons.mp hw with rfl | hw
          · exact m1
          · exact hw
      · refine z_go K0 hS hl (va_runVN (Ts := zTg) (own := (zY mi).cls) (C := (zY a).cls) (host := "RatePlanner") (index := idx) (n := b - 1) ⟨hx, hb, hml, hown, hts⟩ hM ⟨va_cnB (b - 1) hts (zTg_GoodIn fun w hw => ?_) rfl rfl rfl (hnw _ (zinN _ h10 rfl)) (hts _ m2) ⟨m3.1, m3.2, h8⟩ (z_room K0 m5), hts _ n1, hts _ n2⟩ hpre rfl hn1 hl.1.1 rfl (lv_room hsum) hd2 ⟨hcl, hsl⟩) (fun v σ2 hp => ⟨(hpo v σ2 hp).1 ad, hZ _ _ _ _ (hpo v σ2 hp).2⟩)
        rcases List.mem_cons.mp hw with rfl | hw
        · exact m1
        · exact hw
    | _ => exact absurd hrc (by simp [zRc])
theorem zo_invokestatic {idx : Nat} (hsc : ∀ t, sc = some t → va_X (ad 80) t.1 t.2 s s.heap ∧ ad 80 < s.heap.size ∧ ¬ A (ad 80)) (hC : ∀ (a : Nat) (av : List Value) (σ : zS) (po : zPo), a < 85 → a ≠ nL_law → C a av σ po → zCon sc l D cI cJ ad d a av σ po) (K : zCx p l R s m args meth c cells slots D cI cJ ad A d mi) (hZ : zZX p l e R s m args below meth c cells slots Q D cI cJ ad A mi Z) (hk : zOk mi pc (.invokestatic idx, n, a, b, k1, e1, g, v, w, tb) = true) (h : zEx sc C post Z (.invokestatic idx, n, a, b, k1, e1, g, v, w, tb) lv st σ) : zXs p l e R s m args below meth c cells slots Q D cI cJ ad A mi pc lv st σ := by
  have K0 := K
  obtain ⟨hx, hb, hml, hown, hts, hnw, hK, hinj, hAd, hA, hcl, hsl, hfr, hlo⟩ := K
  intro H locs ls hP hS hl
  simp only [zOk, Bool.and_eq_true, decide_eq_true_eq] at hk
  simp only [zEx] at h
  obtain ⟨⟨hn, hdg⟩, h1, hk⟩ := hk
  obtain ⟨rfl, hd2⟩ := zLen hn hdg h1
  have zmem : ∀ w : Cond, lw_tbl.contains w = true → goodWord w = true → w ∈ zTg := fun w h1 h2 => List.mem_filter.mpr ⟨List.contains_iff_mem.mp h1, h2⟩
  have hmx := zIn_max
  simp only [Bool.and_eq_true] at hmx
  obtain ⟨⟨⟨⟨⟨⟨x1, x2⟩, x3⟩, x4⟩, x5⟩, x6⟩, x7⟩ := hmx
  have hml2 : c.maxLocals = ls.size := by rw [hml]; exact hl.1.1.symm
  match e1, h, hk with
  | 0, h, hk =>
    simp only [Bool.and_eq_true, decide_eq_true_eq] at hk
    obtain ⟨⟨⟨⟨⟨h2, h3⟩, h4⟩, h8⟩, h9⟩, h10⟩ := hk
    have h2 := Nat.le_of_ble_eq_true h2
    have h3 : a ≠ nL_law := by
      intro q
      rw [q] at h3
      simp at h3
    obtain ⟨av0, r, hlen, rfl, hq⟩ := zPn_inv b [] st _ h
    rw [List.append_nil] at hq
    obtain ⟨hw8, hq2⟩ := zG_inv hq
    have hw8 := Nat.le_of_ble_eq_true hw8
    obtain ⟨m1, m2, m3, m4, m5, m6, m7⟩ := zMv_spec h2 h3
    have n1 := m6 h4
    obtain ⟨po, hca, hpo⟩ := z_res hq2
    have hM := hC a av0.reverse σ po h2 h3 hca H.size
    have hn1 : (av0.reverse.map (zR ad)).length = b := by rw [List.length_map, List.length_reverse]; exact hlen
    have hst : (List.map (zR ad) (av0 ++ r)) = (av0.reverse.map (zR ad)).reverse ++ r.map (zR ad) := by simp
    have hpre : PreS s H (va_Pc (av0.reverse.map (zR ad)) (zB sc D cI cJ ad H.size σ)) (av0.reverse.map (zR ad)) :=
      ⟨zB_blind sc D cI cJ ad H.size σ _, fun U hU hW => ⟨rfl, z_pre hsc K0 hS hP hU hW⟩⟩
    have hsum : ((r.map (zR ad)).map fun v => v.category).sum ≤ 8 := by rw [zW8_R]; exact hw8
    rw [hst]
    simp only [Bool.or_eq_true, decide_eq_true_eq] at h10
    rcases h10 with h10 | h10
    · refine z_go K0 hS hl (va_runS (Ts := zTg) (own := (zY mi).cls) (index := idx) (n := b) ⟨hx, hb, hml, hown, hts⟩ hM ⟨callB_of b hts (zTg_GoodIn fun w hw => ?_) rfl rfl rfl (hts _ m2) (hts _ (zin _ h10 rfl)) ⟨m3.1, m3.2, h8⟩ (z_room K0 m5), hts _ n1⟩ hpre rfl hn1 hl.1.1 rfl (lv_room hsum) hd2 ⟨hcl, hsl⟩) (fun v σ2 hp => ⟨(hpo v σ2 hp).1 ad, hZ _ _ _ _ (hpo v σ2 hp).2⟩)
      rcases List.mem_cons.mp hw with rfl | hw
      · exact m1
      · exact hw
    · refine z_go K0 hS hl (va_runSN (Ts := zTg) (own := (zY mi).cls) (host := "RatePlanner") (index := idx) (n := b) ⟨hx, hb, hml, hown, hts⟩ hM ⟨va_cnB b hts (zTg_GoodIn fun w hw => ?_) rfl rfl rfl (hnw _ (zinN _ h10 rfl)) (hts _ m2) ⟨m3.1, m3.2, h8⟩ (z_room K0 m5), hts _ n1, trivial⟩ hpre rfl hn1 hl.1.1 rfl (lv_room hsum) hd2 ⟨hcl, hsl⟩) (fun v σ2 hp => ⟨(hpo v σ2 hp).1 ad, hZ _ _ _ _ (hpo v σ2 hp).2⟩)
      rcases List.mem_cons.mp hw with rfl | hw
      · exact m1
      · exact hw
  | 1, h, hk =>
    obtain ⟨x, y, r, rfl, h0⟩ := zII_inv h
    obtain ⟨hw8, h5⟩ := zG_inv h0
    have hw8 := Nat.le_of_ble_eq_true hw8
    exact va_mmax hx hb hml2 hown (hts _ (zin _ (of_decide_eq_true hk) rfl)) (hts _ (zmem _ x1 rfl)) (hts _ (zmem _ x7 rfl)) (hts _ (zmem _ x2 rfl)) (by omega) (by rw [zW8_R]; omega) hcl hsl hd2 (hZ _ _ _ _ h5 H locs ls hP hS hl)
  | 2, h, hk =>
    obtain ⟨x, y, r, rfl, h0⟩ := zII_inv h
    obtain ⟨hw8, h5⟩ := zG_inv h0
    have hw8 := Nat.le_of_ble_eq_true hw8
    exact va_mmin hx hb hml2 hown (hts _ (zin _ (of_decide_eq_true hk) rfl)) (hts _ (zmem _ x3 rfl)) (hts _ (zmem _ x7 rfl)) (hts _ (zmem _ x4 rfl)) (by omega) (by rw [zW8_R]; omega) hcl hsl hd2 (hZ _ _ _ _ h5 H locs ls hP hS hl)
  | 3, h, hk =>
    obtain ⟨x, r, rfl, h0⟩ := zI_inv h
    obtain ⟨hw8, h5⟩ := zG_inv h0
    have hw8 := Nat.le_of_ble_eq_true hw8
    exact va_mabs hx hb hml2 hown (hts _ (zin _ (of_decide_eq_true hk) rfl)) (hts _ (zmem _ x5 rfl)) (hts _ (zmem _ x7 rfl)) (hts _ (zmem _ x6 rfl)) (by omega) (by rw [zW8_R]; omega) hcl hsl hd2 (hZ _ _ _ _ h5 H locs ls hP hS hl)
  | j + 4, h, hk => exact False.elim h
end ZC
end
section
/-! one instruction, whichever; a method of any depth -/
theorem zRI_inv {st : List Value} {k : Int32 → Prop} (h : zRI st k) : ∃ x, st = [.int x] ∧ k x := by
  unfold zRI at h
  split at h
  · exact ⟨_, rfl, h⟩
  · exact False.elim h
theorem zRJ_inv {st : List Value} {k : Int64 → Prop} (h : zRJ st k) : ∃ x, st = [.long x] ∧ k x := by
  unfold zRJ at h
  split at h
  · exact ⟨_, rfl, h⟩
  · exact False.elim h
theorem zRV_inv {st : List Value} {k : Prop} (h : zRV st k) : st = [] ∧ k := by
  unfold zRV at h
  split at h
  · exact ⟨rfl, h⟩
  · exact False.elim h
section ZE
variable {p : Program} {l : Launch} {e : Env} {R : Room} {s : State} {m : MethodId} {args : Array Value} {below : List Frame} {meth : Method} {c : Code} {cells slots : Nat} {Q : State → Prop} {D : va_G} {cI cJ : ClassId} {ad : Nat → Nat} {A : Nat → Prop} {d mi : Nat}
variable {sc : Option (Nat × (Nat → Int32))} {C : zCa} {post : zPo} {Z : zX}
theorem zEx_ok (K : zCx p l R s m args meth c cells slots D cI cJ ad A d mi)
    (hsc : ∀ t, sc = some t → va_X (ad 80) t.1 t.2 s s.heap ∧ ad 80 < s.heap.size ∧ ¬ A (ad 80))
    (hC : ∀ (a : Nat) (av : List Value) (σ : zS) (po : zPo), a < 85 → a ≠ nL_law → C a av σ po → zCon sc l D cI cJ ad d a av σ po)
    (hRi : ∀ (x : Int32) (σ : zS) (H : Heap) (locs : List Loc) (ls : Array Slot) (pc : Nat), post (some (.int x)) σ → va_P D vwCl (zW ad cI cJ σ) H → va_S A s.heap H locs → decode (zBy mi) pc = .ok (.ireturn, 1) → (zRt mi = some .int ∨ (zRt mi = some .boolean ∧ (x == 0 || x == 1) = true)) → W p l e R s m args below meth c H locs cells slots Q (F0 m pc ls [.int x]))
    (hRl : ∀ (x : Int64) (σ : zS) (H : Heap) (locs : List Loc) (ls : Array Slot) (pc : Nat), post (some (.long x)) σ → va_P D vwCl (zW ad cI cJ σ) H → va_S A s.heap H locs → decode (zBy mi) pc = .ok (.lreturn, 1) → zRt mi = some .long → W p l e R s m args below meth c H locs cells slots Q (F0 m pc ls [.long x]))
    (hRv : ∀ (σ : zS) (H : Heap) (locs : List Loc) (ls : Array Slot) (pc : Nat), post none σ → va_P D vwCl (zW ad cI cJ σ) H → va_S A s.heap H locs → decode (zBy mi) pc = .ok (.return_, 1) → zRt mi = none → W p l e R s m args below meth c H locs cells slots Q (F0 m pc ls []))
    (hZ : zZX p l e R s m args below meth c cells slots Q D cI cJ ad A mi Z) {pc : Nat} {o : zOp} {lv : zLo} {st : List Value} {σ : zS} (hk : zOk mi pc o = true) (h : zEx sc C post Z o lv st σ) : zXs p l e R s m args below meth c cells slots Q D cI cJ ad A mi pc lv st σ := by
  obtain ⟨i, n, a, b, k1, e1, g, v, w, tb⟩ := o
  cases i with
  | iconst z => exact zo_iconst K hZ hk h
  | bipush z => exact zo_bipush K hZ hk h
  | sipush z => exact zo_sipush K hZ hk h
  | ldc z => exact zo_ldc K hZ hk h
  | lconst z => exact zo_lconst K hZ hk h
  | ldc2_w z => exact zo_ldc2 K hZ hk h
  | iload_n z => exact zo_iload_n K hZ hk h
  | iload z => exact zo_iload K hZ hk h
  | lload_n z => exact zo_lload_n K hZ hk h
  | lload z => exact zo_lload K hZ hk h
  | aload_n z => exact zo_aload_n K hZ hk h
  | aload z => exact zo_aload K hZ hk h
  | istore_n z => exact zo_istore_n K hZ hk h
  | istore z => exact zo_istore K hZ hk h
  | lstore_n z => exact zo_lstore_n K hZ hk h
  | lstore z => exact zo_lstore K hZ hk h
  | astore_n z => exact zo_astore_n K hZ hk h
  | iinc z y => exact zo_iinc K hZ hk h
  | iadd => exact zo_iadd K hZ hk h
  | isub => exact zo_isub K hZ hk h
  | imul => exact zo_imul K hZ hk h
  | iand => exact zo_iand K hZ hk h
  | ishl => exact zo_ishl K hZ hk h
  | ishr => exact zo_ishr K hZ hk h
  | idiv => exact zo_idiv K hZ hk h
  | irem => exact zo_irem K hZ hk h
  | ladd => exact zo_ladd K hZ hk h
  | lsub => exact zo_lsub K hZ hk h
  | lmul => exact zo_lmul K hZ hk h
  | ldiv => exact zo_ldiv K hZ hk h
  | lcmp => exact zo_lcmp K hZ hk h
  | ineg => exact zo_ineg K hZ hk h
  | i2l => exact zo_i2l K hZ hk h
  | l2i => exact zo_l2i K hZ hk h
  | dup => exact zo_dup K hZ hk h
  | pop => exact zo_pop K hZ hk h
  | dup2 => exact zo_dup2 K hZ hk h
  | laload => exact zo_laload K hZ hk h
  | iastore => exact zo_iastore K hZ hk h
  | lastore => exact zo_lastore K hZ hk h
  | iaload => exact zo_iaload hsc K hZ hk h
  | arraylength => exact zo_arraylength hsc K hZ hk h
  | goto z => exact zo_goto K hZ hk h
  | tableswitch x y z t => exact zo_tableswitch K hZ hk h
  | lookupswitch x y => exact zo_lookupswitch K hZ hk h
  | getfield z => exact zo_getfield K hZ hk h
  | putfield z => exact zo_putfield K hZ hk h
  | invokevirtual z => exact zo_invokevirtual hsc hC K hZ hk h
  | invokestatic z => exact zo_invokestatic hsc hC K hZ hk h
  | ifCond cd z => cases cd with
    | eq => exact zo_if_eq K hZ hk h
    | ne => exact zo_if_ne K hZ hk h
    | lt => exact zo_if_lt K hZ hk h
    | ge => exact zo_if_ge K hZ hk h
    | gt => exact zo_if_gt K hZ hk h
    | le => exact zo_if_le K hZ hk h
  | if_icmp cd z => cases cd with
    | eq => exact zo_icmp_eq K hZ hk h
    | ne => exact zo_icmp_ne K hZ hk h
    | lt => exact zo_icmp_lt K hZ hk h
    | ge => exact zo_icmp_ge K hZ hk h
    | gt => exact zo_icmp_gt K hZ hk h
    | le => exact zo_icmp_le K hZ hk h
  | ireturn =>
    intro H locs ls hP hS hl
    simp only [zOk, Bool.and_eq_true, decide_eq_true_eq] at hk
    simp only [zEx] at h
    obtain ⟨⟨hn, hdg⟩, h1, h2⟩ := hk
    obtain ⟨rfl, hd2⟩ := zLen hn hdg h1
    obtain ⟨x, rfl, h3⟩ := zRI_inv h
    refine hRi x σ H locs ls pc ?_ hP hS hd2 ?_
    · match k1, h3 with
      | 0, h3 => exact h3
      | 1, h3 => exact (zG_inv h3).2
      | k + 2, h3 => exact h3
    · match zRt mi, k1, h2, h3 with
      | some .int, _, _, _ => exact Or.inl rfl
      | some .boolean, 1, _, h3 => exact Or.inr ⟨rfl, (zG_inv h3).1⟩
      | some .boolean, 0, h2, _ => exact absurd h2 (by simp)
      | some .boolean, k + 2, h2, _ => exact absurd h2 (by simp)
  | lreturn =>
    intro H locs ls hP hS hl
    simp only [zOk, Bool.and_eq_true, decide_eq_true_eq] at hk
    simp only [zEx] at h
    obtain ⟨⟨hn, hdg⟩, h1, h2⟩ := hk
    obtain ⟨rfl, hd2⟩ := zLen hn hdg h1
    obtain ⟨x, rfl, h3⟩ := zRJ_inv h
    exact hRl x σ H locs ls pc h3 hP hS hd2 h2
  | return_ =>
    intro H locs ls hP hS hl
    simp only [zOk, Bool.and_eq_true, decide_eq_true_eq] at hk
    simp only [zEx] at h
    obtain ⟨⟨hn, hdg⟩, h1, h2⟩ := hk
    obtain ⟨rfl, hd2⟩ := zLen hn hdg h1
    obtain ⟨rfl, h3⟩ := zRV_inv h
    exact hRv σ H locs ls pc h3 hP hS hd2 h2
  | _ => exact False.elim h
theorem zClosed_of (K : zCx p l R s m args meth c cells slots D cI cJ ad A d mi)
    (hsc : ∀ t, sc = some t → va_X (ad 80) t.1 t.2 s s.heap ∧ ad 80 < s.heap.size ∧ ¬ A (ad 80))
    (hC : ∀ (a : Nat) (av : List Value) (σ : zS) (po : zPo), a < 85 → a ≠ nL_law → C a av σ po → zCon sc l D cI cJ ad d a av σ po)
    (hRi : ∀ (x : Int32) (σ : zS) (H : Heap) (locs : List Loc) (ls : Array Slot) (pc : Nat), post (some (.int x)) σ → va_P D vwCl (zW ad cI cJ σ) H → va_S A s.heap H locs → decode (zBy mi) pc = .ok (.ireturn, 1) → (zRt mi = some .int ∨ (zRt mi = some .boolean ∧ (x == 0 || x == 1) = true)) → W p l e R s m args below meth c H locs cells slots Q (F0 m pc ls [.int x]))
    (hRl : ∀ (x : Int64) (σ : zS) (H : Heap) (locs : List Loc) (ls : Array Slot) (pc : Nat), post (some (.long x)) σ → va_P D vwCl (zW ad cI cJ σ) H → va_S A s.heap H locs → decode (zBy mi) pc = .ok (.lreturn, 1) → zRt mi = some .long → W p l e R s m args below meth c H locs cells slots Q (F0 m pc ls [.long x]))
    (hRv : ∀ (σ : zS) (H : Heap) (locs : List Loc) (ls : Array Slot) (pc : Nat), post none σ → va_P D vwCl (zW ad cI cJ σ) H → va_S A s.heap H locs → decode (zBy mi) pc = .ok (.return_, 1) → zRt mi = none → W p l e R s m args below meth c H locs cells slots Q (F0 m pc ls [])) : zClosed sc C post mi (zXs p l e R s m args below meth c cells slots Q D cI cJ ad A mi) :=
  ⟨fun Z pc o ls st σ hZ hk h => zEx_ok K hsc hC hRi hRl hRv hZ hk h, fun ms pc ls st σ h H locs ls2 hP hS hl => h H locs ls2 hP hS (hl.mk ms pc)⟩
end ZE
theorem zSound (sc : Option (Nat × (Nat → Int32))) (l : Launch) (D : va_G) (cI cJ : ClassId) (ad : Nat → Nat) (hinj : ∀ i j, i < zSh.length → j < zSh.length → ad i = ad j → i = j) : ∀ (d a : Nat) (av : List Value) (σ : zS) (post : zPo), a < 85 → a ≠ nL_law → zCallS sc d a av σ post → zCon sc l D cI cJ ad d a av σ post
  | 0, a, av, σ, post, _, _, h => False.elim h
  | d + 1, a, av, σ, post, ha, hna, h => by
    intro sz
    obtain ⟨hb0, hrun⟩ := zG_inv h
    obtain ⟨m1, m2, m3, m4, m5, m6, m7⟩ := zMv_spec ha hna
    refine Met.ofW (cc := zBy a) (maxL := zMl a) (ret := zRt a) m4 rfl ?_
    intro p e s m args below meth c s₁ B hml hv
    obtain ⟨rfl, hsz, hP, hK, hN, hX⟩ := hv
    subst hsz
    have hts0 := atoms_spec (ws := zWs a) B.pre
    have hts : ∀ w ∈ zTg, w.before _ s = true := fun w hw => hts0 w (List.mem_cons_of_mem _ hw)
    have hown : s.vm.findClass (zY a).cls = some m.cls := findClass_of_methodNamed B.named
    have hx := B.exec
    have hbb := B.bytes
    have hr := B.returns
    have hlocks := B.notSynchronized
    have K : zCx p l (headSpec (zWs a) (zRm (d + 1))).room s m _ meth c 0 0 D cI cJ ad (zA0 ad s.heap.size) d a := ⟨hx, hbb, hml, hown, hts, hN, hK, hinj, fun k hk => Or.inl ⟨k, hk, rfl⟩, fun q hq => Or.inr hq, Nat.zero_le _, Nat.zero_le _, Nat.le_refl _, Nat.le_refl _⟩
    rw [lg_entry_eq]
    exact hrun _ (zClosed_of (e := e) (below := below) (Q := MQ below (zQ D cI cJ ad s.heap.size post) (av.map (zR ad)).toArray s 0 0 (zA0 ad s.heap.size)) K (fun t ht => ⟨(hX t ht).1, (hX t ht).2.1, fun z => z.elim (fun ⟨k, h1, h2⟩ => (hX t ht).2.2 k h1 h2) (fun z => absurd (hX t ht).2.1 (Nat.not_lt.mpr z))⟩) (fun a av σ po h1 h2 h3 => zSound sc l D cI cJ ad hinj d a av σ po h1 h2 h3)
      (fun x σ H locs ls pc hp hP hS hdg ht => by
        rcases ht with ht | ⟨ht, hb⟩
        · exact W.iret hx hbb (hr.trans ht) (fun t ht hW => ⟨⟨_, σ, rfl, hp, by rw [ht]; exact hP⟩, hS.F ht⟩) hS.2.2 hdg
        · exact W.zret (ty := .boolean) hx hbb (hr.trans ht) (z01_nar hb) (fun t ht hW => ⟨⟨_, σ, rfl, hp, by rw [ht]; exact hP⟩, hS.F ht⟩) hS.2.2 hdg)
      (fun x σ H locs ls pc hp hP hS hdg ht => W.lret hx hbb (hr.trans ht) (fun t ht hW => ⟨⟨_, σ, rfl, hp, by rw [ht]; exact hP⟩, hS.F ht⟩) hS.2.2 hdg)
      (fun σ H locs ls pc hp hP hS hdg ht => W.vret hx hbb (hr.trans ht) (fun t ht hW => ⟨⟨_, σ, rfl, hp, by rw [ht]; exact hP⟩, hS.F ht⟩) hS.2.2 hdg)) s.heap [] _ hP va_S.rf (zHas.entry ad av (zMl a) (Nat.le_of_ble_eq_true hb0))
end
section
/-! the code of the methods read ahead, and a theorem a region: printed by wip/whole/sym.py -/
-- X6_bitsOf(24,) depth 2
def zo_X6_bitsOf_0 : List zOp := [(.bipush 40, 2, 0, 0, 0, 0, 0, 40, 0, []), (.aload_n 0, 3, 0, 0, 0, 0, 0, 0, 0, []), (.getfield 15, 6, 6, 0, 0, 0, 219, 0, 0, []), (.getfield 30, 9, 3, 7, 0, 0, 180, 0, 0, []), (.iload_n 1, 10, 1, 0, 0, 0, 0, 0, 0, []), (.invokestatic 26, 13, 66, 2, 1, 0, 216, 0, 0, []), (.sipush 200, 16, 0, 0, 0, 0, 0, 200, 0, []), (.imul, 17, 0, 0, 0, 0, 0, 0, 0, []), (.i2l, 18, 0, 0, 0, 0, 0, 0, 0, []), (.aload_n 0, 19, 0, 0, 0, 0, 0, 0, 0, []), (.getfield 9, 22, 6, 2, 0, 0, 229, 0, 0, []), (.iload_n 2, 23, 2, 0, 0, 0, 0, 0, 0, []), (.invokestatic 26, 26, 66, 2, 1, 0, 216, 0, 0, []), (.i2l, 27, 0, 0, 0, 0, 0, 0, 0, []), (.invokestatic 35, 30, 68, 2, 2, 0, 559, 0, 0, []), (.l2i, 31, 0, 0, 0, 0, 0, 0, 0, []), (.iadd, 32, 0, 0, 0, 0, 0, 0, 0, []), (.ireturn, 33, 0, 0, 0, 0, 0, 0, 0, [])]
set_option maxRecDepth 100000 in
theorem zk_X6_bitsOf_0 : zOks nX6_bitsOf zo_X6_bitsOf_0 0 = true := by decide +kernel
def zm_X6_bitsOf : List (Nat × List Bool) := [(0, [true, true, true])]
set_option maxRecDepth 100000 in
set_option maxHeartbeats 4000000 in
theorem zr_X6_bitsOf_0 {C : zCa} {post : zPo} {X : zX} (hX : zClosed none C post nX6_bitsOf X) (p0 : Int32) (p1 : Int32) (σ : zS) (h : C nX11_at [.ref 21, .int p0] σ (zPI fun x2 σ1 => C nX11_at [.ref 25, .int p1] σ1 (zPI fun x4 σ3 => C nX11_ratio [.long (Int32.toInt64 (x2 * 200)), .long (Int32.toInt64 x4)] σ3 (zPJ fun x6 σ5 => post (some (.int (40 + (Int64.toInt32 x6)))) σ5)))) : X 0 [some (.ref 24), some (.int p0), some (.int p1)] [] σ := zSeq_ok hX zm_X6_bitsOf zo_X6_bitsOf_0 0 0 _ _ _ zk_X6_bitsOf_0 h
theorem ze_X6_bitsOf {d : Nat} {post : zPo} (p0 : Int32) (p1 : Int32) (σ : zS) (h : ∀ X : zX, zClosed none (zCall d) post nX6_bitsOf X → X 0 [some (.ref 24), some (.int p0), some (.int p1)] [] σ) : zCall (d + 1) nX6_bitsOf [.ref 24, .int p0, .int p1] σ post := h
-- X3_framesOfScene(16,) depth 2
def zo_X3_framesOfScene_0 : List zOp := [(.iconst 0, 1, 0, 0, 0, 0, 0, 0, 0, []), (.istore_n 2, 2, 2, 0, 0, 0, 0, 0, 0, []), (.iconst 0, 3, 0, 0, 0, 0, 0, 0, 0, []), (.istore_n 3, 4, 3, 0, 0, 0, 0, 0, 0, [])]
set_option maxRecDepth 100000 in
theorem zk_X3_framesOfScene_0 : zOks nX3_framesOfScene zo_X3_framesOfScene_0 0 = true := by decide +kernel
def zo_X3_framesOfScene_4 : List zOp := [(.iload_n 3, 5, 3, 0, 0, 0, 0, 0, 0, []), (.aload_n 0, 6, 0, 0, 0, 0, 0, 0, 0, []), (.getfield 39, 9, 3, 0, 1, 0, 161, 0, 0, []), (.if_icmp .ge 24, 12, 33, 0, 0, 0, 0, 0, 0, []), (.aload_n 0, 13, 0, 0, 0, 0, 0, 0, 0, []), (.getfield 15, 16, 3, 4, 0, 0, 172, 0, 0, []), (.iload_n 3, 17, 3, 0, 0, 0, 0, 0, 0, []), (.invokestatic 80, 20, 66, 2, 1, 0, 456, 0, 0, []), (.iload_n 1, 21, 1, 0, 0, 0, 0, 0, 0, []), (.if_icmp .ne 6, 24, 27, 0, 0, 0, 0, 0, 0, []), (.iinc 2 1, 27, 2, 0, 0, 0, 0, 1, 0, []), (.iinc 3 1, 30, 3, 0, 0, 0, 0, 1, 0, []), (.goto (-26), 33, 4, 0, 0, 0, 0, 0, 0, []), (.iload_n 2, 34, 2, 0, 0, 0, 0, 0, 0, []), (.ireturn, 35, 0, 0, 0, 0, 0, 0, 0, [])]
set_option maxRecDepth 100000 in
theorem zk_X3_framesOfScene_4 : zOks nX3_framesOfScene zo_X3_framesOfScene_4 4 = true := by decide +kernel
def zm_X3_framesOfScene : List (Nat × List Bool) := [(0, [true, true, false, false]), (4, [true, true, true, true])]
set_option maxRecDepth 100000 in
set_option maxHeartbeats 4000000 in
theorem zr_X3_framesOfScene_0 {C : zCa} {post : zPo} {X : zX} (hX : zClosed none C post nX3_framesOfScene X) (p0 : Int32) (σ : zS) (h : X 4 [some (.ref 16), some (.int p0), some (.int 0), some (.int 0)] [] σ) : X 0 [some (.ref 16), some (.int p0), none, none] [] σ := zSeq_ok hX zm_X3_framesOfScene zo_X3_framesOfScene_0 0 0 _ _ _ zk_X3_framesOfScene_0 h
set_option maxRecDepth 100000 in
set_option maxHeartbeats 4000000 in
theorem zr_X3_framesOfScene_4 {C : zCa} {post : zPo} {X : zX} (hX : zClosed none C post nX3_framesOfScene X) (v1 : Int32) (v2 : Int32) (v3 : Int32) (σ : zS) (h : zIf ((v3 : Int32) < (σ.1 16 0)) (C nX11_at [.ref 18, .int v3] σ (zPI fun x2 σ1 => zIf ((x2 : Int32) = v1) (X 4 [some (.ref 16), some (.int v1), some (.int (v2 + 1)), some (.int (v3 + 1))] [] σ1) (X 4 [some (.ref 16), some (.int v1), some (.int v2), some (.int (v3 + 1))] [] σ1))) (post (some (.int v2)) σ)) : X 4 [some (.ref 16), some (.int v1), some (.int v2), some (.int v3)] [] σ := zSeq_ok hX zm_X3_framesOfScene zo_X3_framesOfScene_4 4 4 _ _ _ zk_X3_framesOfScene_4 h
theorem ze_X3_framesOfScene {d : Nat} {post : zPo} (p0 : Int32) (σ : zS) (h : ∀ X : zX, zClosed none (zCall d) post nX3_framesOfScene X → X 0 [some (.ref 16), some (.int p0), none, none] [] σ) : zCall (d + 1) nX3_framesOfScene [.ref 16, .int p0] σ post := h
-- X3_firstOfScene(16,) depth 2
def zo_X3_firstOfScene_0 : List zOp := [(.iconst 0, 1, 0, 0, 0, 0, 0, 0, 0, []), (.istore_n 2, 2, 2, 0, 0, 0, 0, 0, 0, [])]
set_option maxRecDepth 100000 in
theorem zk_X3_firstOfScene_0 : zOks nX3_firstOfScene zo_X3_firstOfScene_0 0 = true := by decide +kernel
def zo_X3_firstOfScene_2 : List zOp := [(.iload_n 2, 3, 2, 0, 0, 0, 0, 0, 0, []), (.aload_n 0, 4, 0, 0, 0, 0, 0, 0, 0, []), (.getfield 39, 7, 3, 0, 1, 0, 161, 0, 0, []), (.if_icmp .ge 23, 10, 30, 0, 0, 0, 0, 0, 0, []), (.aload_n 0, 11, 0, 0, 0, 0, 0, 0, 0, []), (.getfield 15, 14, 3, 4, 0, 0, 172, 0, 0, []), (.iload_n 2, 15, 2, 0, 0, 0, 0, 0, 0, []), (.invokestatic 80, 18, 66, 2, 1, 0, 456, 0, 0, []), (.iload_n 1, 19, 1, 0, 0, 0, 0, 0, 0, []), (.if_icmp .ne 5, 22, 24, 0, 0, 0, 0, 0, 0, []), (.iload_n 2, 23, 2, 0, 0, 0, 0, 0, 0, []), (.ireturn, 24, 0, 0, 0, 0, 0, 0, 0, []), (.iinc 2 1, 27, 2, 0, 0, 0, 0, 1, 0, []), (.goto (-25), 30, 2, 0, 0, 0, 0, 0, 0, []), (.iconst (-1), 31, 0, 0, 0, 0, 0, (-1), 0, []), (.ireturn, 32, 0, 0, 0, 0, 0, 0, 0, [])]
set_option maxRecDepth 100000 in
theorem zk_X3_firstOfScene_2 : zOks nX3_firstOfScene zo_X3_firstOfScene_2 2 = true := by decide +kernel
def zm_X3_firstOfScene : List (Nat × List Bool) := [(0, [true, true, false]), (2, [true, true, true])]
set_option maxRecDepth 100000 in
set_option maxHeartbeats 4000000 in
theorem zr_X3_firstOfScene_0 {C : zCa} {post : zPo} {X : zX} (hX : zClosed none C post nX3_firstOfScene X) (p0 : Int32) (σ : zS) (h : X 2 [some (.ref 16), some (.int p0), some (.int 0)] [] σ) : X 0 [some (.ref 16), some (.int p0), none] [] σ := zSeq_ok hX zm_X3_firstOfScene zo_X3_firstOfScene_0 0 0 _ _ _ zk_X3_firstOfScene_0 h
set_option maxRecDepth 100000 in
set_option maxHeartbeats 4000000 in
theorem zr_X3_firstOfScene_2 {C : zCa} {post : zPo} {X : zX} (hX : zClosed none C post nX3_firstOfScene X) (v1 : Int32) (v2 : Int32) (σ : zS) (h : zIf ((v2 : Int32) < (σ.1 16 0)) (C nX11_at [.ref 18, .int v2] σ (zPI fun x2 σ1 => zIf ((x2 : Int32) = v1) (post (some (.int v2)) σ1) (X 2 [some (.ref 16), some (.int v1), some (.int (v2 + 1))] [] σ1))) (post (some (.int (-1))) σ)) : X 2 [some (.ref 16), some (.int v1), some (.int v2)] [] σ := zSeq_ok hX zm_X3_firstOfScene zo_X3_firstOfScene_2 2 2 _ _ _ zk_X3_firstOfScene_2 h
theorem ze_X3_firstOfScene {d : Nat} {post : zPo} (p0 : Int32) (σ : zS) (h : ∀ X : zX, zClosed none (zCall d) post nX3_firstOfScene X → X 0 [some (.ref 16), some (.int p0), none] [] σ) : zCall (d + 1) nX3_firstOfScene [.ref 16, .int p0] σ post := h
-- X3_groupsOfScene(16,) depth 2
def zo_X3_groupsOfScene_0 : List zOp := [(.iconst 0, 1, 0, 0, 0, 0, 0, 0, 0, []), (.istore_n 2, 2, 2, 0, 0, 0, 0, 0, 0, []), (.iconst 0, 3, 0, 0, 0, 0, 0, 0, 0, []), (.istore_n 3, 4, 3, 0, 0, 0, 0, 0, 0, [])]
set_option maxRecDepth 100000 in
theorem zk_X3_groupsOfScene_0 : zOks nX3_groupsOfScene zo_X3_groupsOfScene_0 0 = true := by decide +kernel
def zo_X3_groupsOfScene_4 : List zOp := [(.iload_n 3, 5, 3, 0, 0, 0, 0, 0, 0, []), (.aload_n 0, 6, 0, 0, 0, 0, 0, 0, 0, []), (.getfield 39, 9, 3, 0, 1, 0, 161, 0, 0, []), (.if_icmp .ge 35, 12, 44, 0, 0, 0, 0, 0, 0, []), (.aload_n 0, 13, 0, 0, 0, 0, 0, 0, 0, []), (.getfield 15, 16, 3, 4, 0, 0, 172, 0, 0, []), (.iload_n 3, 17, 3, 0, 0, 0, 0, 0, 0, []), (.invokestatic 80, 20, 66, 2, 1, 0, 456, 0, 0, []), (.iload_n 1, 21, 1, 0, 0, 0, 0, 0, 0, []), (.if_icmp .ne 17, 24, 38, 0, 0, 0, 0, 0, 0, []), (.aload_n 0, 25, 0, 0, 0, 0, 0, 0, 0, []), (.getfield 9, 28, 3, 3, 0, 0, 168, 0, 0, []), (.iload_n 3, 29, 3, 0, 0, 0, 0, 0, 0, []), (.invokestatic 80, 32, 66, 2, 1, 0, 456, 0, 0, []), (.ifCond .ne 6, 35, 38, 0, 0, 0, 0, 0, 0, []), (.iinc 2 1, 38, 2, 0, 0, 0, 0, 1, 0, []), (.iinc 3 1, 41, 3, 0, 0, 0, 0, 1, 0, []), (.goto (-37), 44, 4, 0, 0, 0, 0, 0, 0, []), (.iload_n 2, 45, 2, 0, 0, 0, 0, 0, 0, []), (.ireturn, 46, 0, 0, 0, 0, 0, 0, 0, [])]
set_option maxRecDepth 100000 in
theorem zk_X3_groupsOfScene_4 : zOks nX3_groupsOfScene zo_X3_groupsOfScene_4 4 = true := by decide +kernel
def zm_X3_groupsOfScene : List (Nat × List Bool) := [(0, [true, true, false, false]), (4, [true, true, true, true])]
set_option maxRecDepth 100000 in
set_option maxHeartbeats 4000000 in
theorem zr_X3_groupsOfScene_0 {C : zCa} {post : zPo} {X : zX} (hX : zClosed none C post nX3_groupsOfScene X) (p0 : Int32) (σ : zS) (h : X 4 [some (.ref 16), some (.int p0), some (.int 0), some (.int 0)] [] σ) : X 0 [some (.ref 16), some (.int p0), none, none] [] σ := zSeq_ok hX zm_X3_groupsOfScene zo_X3_groupsOfScene_0 0 0 _ _ _ zk_X3_groupsOfScene_0 h
set_option maxRecDepth 100000 in
set_option maxHeartbeats 4000000 in
theorem zr_X3_groupsOfScene_4 {C : zCa} {post : zPo} {X : zX} (hX : zClosed none C post nX3_groupsOfScene X) (v1 : Int32) (v2 : Int32) (v3 : Int32) (σ : zS) (h : zIf ((v3 : Int32) < (σ.1 16 0)) (C nX11_at [.ref 18, .int v3] σ (zPI fun x2 σ1 => zIf ((x2 : Int32) = v1) (C nX11_at [.ref 17, .int v3] σ1 (zPI fun x4 σ3 => zIf ((x4 : Int32) = 0) (X 4 [some (.ref 16), some (.int v1), some (.int (v2 + 1)), some (.int (v3 + 1))] [] σ3) (X 4 [some (.ref 16), some (.int v1), some (.int v2), some (.int (v3 + 1))] [] σ3))) (X 4 [some (.ref 16), some (.int v1), some (.int v2), some (.int (v3 + 1))] [] σ1))) (post (some (.int v2)) σ)) : X 4 [some (.ref 16), some (.int v1), some (.int v2), some (.int v3)] [] σ := zSeq_ok hX zm_X3_groupsOfScene zo_X3_groupsOfScene_4 4 4 _ _ _ zk_X3_groupsOfScene_4 h
theorem ze_X3_groupsOfScene {d : Nat} {post : zPo} (p0 : Int32) (σ : zS) (h : ∀ X : zX, zClosed none (zCall d) post nX3_groupsOfScene X → X 0 [some (.ref 16), some (.int p0), none, none] [] σ) : zCall (d + 1) nX3_groupsOfScene [.ref 16, .int p0] σ post := h
-- X0_add(1,) depth 2
def zo_X0_add_1_0 : List zOp := [(.aload_n 0, 1, 0, 0, 0, 0, 0, 0, 0, []), (.getfield 9, 4, 0, 1, 0, 0, 46, 0, 0, []), (.aload_n 0, 5, 0, 0, 0, 0, 0, 0, 0, []), (.getfield 18, 8, 0, 0, 1, 0, 44, 0, 0, []), (.iload_n 1, 9, 1, 0, 0, 0, 0, 0, 0, []), (.invokestatic 22, 12, 67, 3, 0, 0, 431, 0, 0, []), (.aload_n 0, 13, 0, 0, 0, 0, 0, 0, 0, []), (.getfield 15, 16, 0, 2, 0, 0, 49, 0, 0, []), (.aload_n 0, 17, 0, 0, 0, 0, 0, 0, 0, []), (.getfield 18, 20, 0, 0, 1, 0, 44, 0, 0, []), (.iload_n 2, 21, 2, 0, 0, 0, 0, 0, 0, []), (.invokestatic 22, 24, 67, 3, 0, 0, 431, 0, 0, []), (.aload_n 0, 25, 0, 0, 0, 0, 0, 0, 0, []), (.dup, 26, 0, 0, 0, 0, 0, 0, 0, []), (.getfield 18, 29, 0, 0, 1, 0, 44, 0, 0, []), (.iconst 1, 30, 0, 0, 0, 0, 0, 1, 0, []), (.iadd, 31, 0, 0, 0, 0, 0, 0, 0, []), (.putfield 18, 34, 0, 0, 1, 0, 44, 0, 0, []), (.return_, 35, 0, 0, 0, 0, 0, 0, 0, [])]
set_option maxRecDepth 100000 in
theorem zk_X0_add_1_0 : zOks nX0_add zo_X0_add_1_0 0 = true := by decide +kernel
def zm_X0_add_1 : List (Nat × List Bool) := [(0, [true, true, true])]
set_option maxRecDepth 100000 in
set_option maxHeartbeats 4000000 in
theorem zr_X0_add_1_0 {C : zCa} {post : zPo} {X : zX} (hX : zClosed none C post nX0_add X) (p0 : Int32) (p1 : Int32) (σ : zS) (h : C nX11_put [.ref 2, .int (σ.1 1 0), .int p0] σ (zPV fun σ1 => C nX11_put [.ref 3, .int (σ1.1 1 0), .int p1] σ1 (zPV fun σ2 => post none (zSI σ2 1 0 ((σ2.1 1 0) + 1))))) : X 0 [some (.ref 1), some (.int p0), some (.int p1)] [] σ := zSeq_ok hX zm_X0_add_1 zo_X0_add_1_0 0 0 _ _ _ zk_X0_add_1_0 h
theorem ze_X0_add_1 {d : Nat} {post : zPo} (p0 : Int32) (p1 : Int32) (σ : zS) (h : ∀ X : zX, zClosed none (zCall d) post nX0_add X → X 0 [some (.ref 1), some (.int p0), some (.int p1)] [] σ) : zCall (d + 1) nX0_add [.ref 1, .int p0, .int p1] σ post := h
-- X3_isMultiple() depth 1
def zo_X3_isMultiple_0 : List zOp := [(.iload_n 1, 1, 1, 0, 0, 0, 0, 0, 0, []), (.ifCond .eq 13, 4, 14, 0, 0, 0, 0, 0, 0, []), (.iload_n 0, 5, 0, 0, 0, 0, 0, 0, 0, []), (.iload_n 1, 6, 1, 0, 0, 0, 0, 0, 0, []), (.irem, 7, 0, 0, 0, 0, 0, 0, 0, []), (.ifCond .ne 7, 10, 14, 0, 0, 0, 0, 0, 0, []), (.iconst 1, 11, 0, 0, 0, 0, 0, 1, 0, []), (.goto 4, 14, 15, 0, 0, 0, 0, 0, 0, []), (.iconst 0, 15, 0, 0, 0, 0, 0, 0, 0, []), (.ireturn, 16, 0, 0, 1, 0, 0, 0, 0, [])]
set_option maxRecDepth 100000 in
theorem zk_X3_isMultiple_0 : zOks nX3_isMultiple zo_X3_isMultiple_0 0 = true := by decide +kernel
def zm_X3_isMultiple : List (Nat × List Bool) := [(0, [true, true])]
set_option maxRecDepth 100000 in
set_option maxHeartbeats 4000000 in
theorem zr_X3_isMultiple_0 {C : zCa} {post : zPo} {X : zX} (hX : zClosed none C post nX3_isMultiple X) (p0 : Int32) (p1 : Int32) (σ : zS) (h : zIf ((p1 : Int32) = 0) (post (some (.int 0)) σ) (¬ (p1 : Int32) = 0 ∧ (zIf ((p0 - p0 / p1 * p1 : Int32) = 0) (post (some (.int 1)) σ) (post (some (.int 0)) σ)))) : X 0 [some (.int p0), some (.int p1)] [] σ := zSeq_ok hX zm_X3_isMultiple zo_X3_isMultiple_0 0 0 _ _ _ zk_X3_isMultiple_0 h
theorem ze_X3_isMultiple {d : Nat} {post : zPo} (p0 : Int32) (p1 : Int32) (σ : zS) (h : ∀ X : zX, zClosed none (zCall d) post nX3_isMultiple X → X 0 [some (.int p0), some (.int p1)] [] σ) : zCall (d + 1) nX3_isMultiple [.int p0, .int p1] σ post := h
-- X3_chooseTypes(16,) depth 2
def zo_X3_chooseTypes_0 : List zOp := [(.iconst 0, 1, 0, 0, 0, 0, 0, 0, 0, []), (.istore_n 2, 2, 2, 0, 0, 0, 0, 0, 0, [])]
set_option maxRecDepth 100000 in
theorem zk_X3_chooseTypes_0 : zOks nX3_chooseTypes zo_X3_chooseTypes_0 0 = true := by decide +kernel
def zo_X3_chooseTypes_2 : List zOp := [(.iload_n 2, 3, 2, 0, 0, 0, 0, 0, 0, []), (.aload_n 0, 4, 0, 0, 0, 0, 0, 0, 0, []), (.getfield 39, 7, 3, 0, 1, 0, 161, 0, 0, []), (.if_icmp .ge 93, 10, 100, 0, 0, 0, 0, 0, 0, []), (.iload_n 2, 11, 2, 0, 0, 0, 0, 0, 0, []), (.aload_n 0, 12, 0, 0, 0, 0, 0, 0, 0, []), (.getfield 18, 15, 3, 5, 0, 0, 175, 0, 0, []), (.iload_n 2, 16, 2, 0, 0, 0, 0, 0, 0, []), (.invokestatic 80, 19, 66, 2, 1, 0, 456, 0, 0, []), (.isub, 20, 0, 0, 0, 0, 0, 0, 0, []), (.istore_n 3, 21, 3, 0, 0, 0, 0, 0, 0, []), (.iload_n 3, 22, 3, 0, 0, 0, 0, 0, 0, []), (.aload_n 0, 23, 0, 0, 0, 0, 0, 0, 0, []), (.getfield 21, 26, 3, 6, 0, 0, 177, 0, 0, []), (.iload_n 2, 27, 2, 0, 0, 0, 0, 0, 0, []), (.invokestatic 80, 30, 66, 2, 1, 0, 456, 0, 0, []), (.iconst 1, 31, 0, 0, 0, 0, 0, 1, 0, []), (.isub, 32, 0, 0, 0, 0, 0, 0, 0, []), (.if_icmp .ne 7, 35, 39, 0, 0, 0, 0, 0, 0, []), (.iconst 1, 36, 0, 0, 0, 0, 0, 1, 0, []), (.goto 4, 39, 40, 0, 0, 0, 0, 0, 0, []), (.iconst 0, 40, 0, 0, 0, 0, 0, 0, 0, []), (.istore 4, 42, 4, 0, 0, 0, 0, 0, 0, []), (.iload_n 3, 43, 3, 0, 0, 0, 0, 0, 0, []), (.ifCond .ne 15, 46, 58, 0, 0, 0, 0, 0, 0, []), (.aload_n 0, 47, 0, 0, 0, 0, 0, 0, 0, []), (.getfield 9, 50, 3, 3, 0, 0, 168, 0, 0, []), (.iload_n 2, 51, 2, 0, 0, 0, 0, 0, 0, []), (.iconst 0, 52, 0, 0, 0, 0, 0, 0, 0, []), (.invokestatic 76, 55, 67, 3, 0, 0, 451, 0, 0, []), (.goto 39, 58, 94, 0, 0, 0, 0, 0, 0, []), (.iload 4, 60, 4, 0, 0, 0, 0, 0, 0, []), (.ifCond .ne 13, 63, 73, 0, 0, 0, 0, 0, 0, []), (.iload_n 3, 64, 3, 0, 0, 0, 0, 0, 0, []), (.iload_n 1, 65, 1, 0, 0, 0, 0, 0, 0, []), (.iconst 1, 66, 0, 0, 0, 0, 0, 1, 0, []), (.iadd, 67, 0, 0, 0, 0, 0, 0, 0, []), (.invokestatic 84, 70, 17, 2, 1, 0, 461, 0, 0, []), (.ifCond .eq 15, 73, 85, 0, 0, 0, 0, 0, 0, []), (.aload_n 0, 74, 0, 0, 0, 0, 0, 0, 0, []), (.getfield 9, 77, 3, 3, 0, 0, 168, 0, 0, []), (.iload_n 2, 78, 2, 0, 0, 0, 0, 0, 0, []), (.iconst 1, 79, 0, 0, 0, 0, 0, 1, 0, []), (.invokestatic 76, 82, 67, 3, 0, 0, 451, 0, 0, []), (.goto 12, 85, 94, 0, 0, 0, 0, 0, 0, []), (.aload_n 0, 86, 0, 0, 0, 0, 0, 0, 0, []), (.getfield 9, 89, 3, 3, 0, 0, 168, 0, 0, []), (.iload_n 2, 90, 2, 0, 0, 0, 0, 0, 0, []), (.iconst 2, 91, 0, 0, 0, 0, 0, 2, 0, []), (.invokestatic 76, 94, 67, 3, 0, 0, 451, 0, 0, []), (.iinc 2 1, 97, 2, 0, 0, 0, 0, 1, 0, []), (.goto (-95), 100, 2, 0, 0, 0, 0, 0, 0, []), (.return_, 101, 0, 0, 0, 0, 0, 0, 0, [])]
set_option maxRecDepth 100000 in
theorem zk_X3_chooseTypes_2 : zOks nX3_chooseTypes zo_X3_chooseTypes_2 2 = true := by decide +kernel
def zm_X3_chooseTypes : List (Nat × List Bool) := [(0, [true, true, false, false, false]), (2, [true, true, true, false, false])]
set_option maxRecDepth 100000 in
set_option maxHeartbeats 4000000 in
theorem zr_X3_chooseTypes_0 {C : zCa} {post : zPo} {X : zX} (hX : zClosed none C post nX3_chooseTypes X) (p0 : Int32) (σ : zS) (h : X 2 [some (.ref 16), some (.int p0), some (.int 0), none, none] [] σ) : X 0 [some (.ref 16), some (.int p0), none, none, none] [] σ := zSeq_ok hX zm_X3_chooseTypes zo_X3_chooseTypes_0 0 0 _ _ _ zk_X3_chooseTypes_0 h
set_option maxRecDepth 100000 in
set_option maxHeartbeats 4000000 in
theorem zr_X3_chooseTypes_2 {C : zCa} {post : zPo} {X : zX} (hX : zClosed none C post nX3_chooseTypes X) (v1 : Int32) (v2 : Int32) (σ : zS) (h : zIf ((v2 : Int32) < (σ.1 16 0)) (C nX11_at [.ref 19, .int v2] σ (zPI fun x2 σ1 => C nX11_at [.ref 20, .int v2] σ1 (zPI fun x4 σ3 => zIf ((v2 - x2 : Int32) = (x4 - 1)) (zIf ((v2 - x2 : Int32) = 0) (C nX11_put [.ref 17, .int v2, .int 0] σ3 (zPV fun σ5 => X 2 [some (.ref 16), some (.int v1), some (.int (v2 + 1)), none, none] [] σ5)) (zIf ((1 : Int32) = 0) (C nX3_isMultiple [.int (v2 - x2), .int (v1 + 1)] σ3 (zPI fun x7 σ6 => zIf ((x7 : Int32) = 0) (C nX11_put [.ref 17, .int v2, .int 2] σ6 (zPV fun σ8 => X 2 [some (.ref 16), some (.int v1), some (.int (v2 + 1)), none, none] [] σ8)) (C nX11_put [.ref 17, .int v2, .int 1] σ6 (zPV fun σ9 => X 2 [some (.ref 16), some (.int v1), some (.int (v2 + 1)), none, none] [] σ9)))) (C nX11_put [.ref 17, .int v2, .int 1] σ3 (zPV fun σ10 => X 2 [some (.ref 16), some (.int v1), some (.int (v2 + 1)), none, none] [] σ10)))) (zIf ((v2 - x2 : Int32) = 0) (C nX11_put [.ref 17, .int v2, .int 0] σ3 (zPV fun σ11 => X 2 [some (.ref 16), some (.int v1), some (.int (v2 + 1)), none, none] [] σ11)) (zIf ((0 : Int32) = 0) (C nX3_isMultiple [.int (v2 - x2), .int (v1 + 1)] σ3 (zPI fun x13 σ12 => zIf ((x13 : Int32) = 0) (C nX11_put [.ref 17, .int v2, .int 2] σ12 (zPV fun σ14 => X 2 [some (.ref 16), some (.int v1), some (.int (v2 + 1)), none, none] [] σ14)) (C nX11_put [.ref 17, .int v2, .int 1] σ12 (zPV fun σ15 => X 2 [some (.ref 16), some (.int v1), some (.int (v2 + 1)), none, none] [] σ15)))) (C nX11_put [.ref 17, .int v2, .int 1] σ3 (zPV fun σ16 => X 2 [some (.ref 16), some (.int v1), some (.int (v2 + 1)), none, none] [] σ16))))))) (post none σ)) : X 2 [some (.ref 16), some (.int v1), some (.int v2), none, none] [] σ := zSeq_ok hX zm_X3_chooseTypes zo_X3_chooseTypes_2 2 2 _ _ _ zk_X3_chooseTypes_2 h
theorem ze_X3_chooseTypes {d : Nat} {post : zPo} (p0 : Int32) (σ : zS) (h : ∀ X : zX, zClosed none (zCall d) post nX3_chooseTypes X → X 0 [some (.ref 16), some (.int p0), none, none, none] [] σ) : zCall (d + 1) nX3_chooseTypes [.ref 16, .int p0] σ post := h
-- X0_isCut(1,) depth 2
def zo_X0_isCut_0 : List zOp := [(.iload_n 1, 1, 1, 0, 0, 0, 0, 0, 0, []), (.ifCond .le 30, 4, 31, 0, 0, 0, 0, 0, 0, []), (.iconst 2, 5, 0, 0, 0, 0, 0, 2, 0, []), (.aload_n 0, 6, 0, 0, 0, 0, 0, 0, 0, []), (.getfield 15, 9, 0, 2, 0, 0, 49, 0, 0, []), (.iload_n 1, 10, 1, 0, 0, 0, 0, 0, 0, []), (.invokestatic 26, 13, 66, 2, 1, 0, 450, 0, 0, []), (.imul, 14, 0, 0, 0, 0, 0, 0, 0, []), (.iconst 3, 15, 0, 0, 0, 0, 0, 3, 0, []), (.aload_n 0, 16, 0, 0, 0, 0, 0, 0, 0, []), (.getfield 9, 19, 0, 1, 0, 0, 46, 0, 0, []), (.iload_n 1, 20, 1, 0, 0, 0, 0, 0, 0, []), (.invokestatic 26, 23, 66, 2, 1, 0, 450, 0, 0, []), (.imul, 24, 0, 0, 0, 0, 0, 0, 0, []), (.if_icmp .le 7, 27, 31, 0, 0, 0, 0, 0, 0, []), (.iconst 1, 28, 0, 0, 0, 0, 0, 1, 0, []), (.goto 4, 31, 32, 0, 0, 0, 0, 0, 0, []), (.iconst 0, 32, 0, 0, 0, 0, 0, 0, 0, []), (.ireturn, 33, 0, 0, 1, 0, 0, 0, 0, [])]
set_option maxRecDepth 100000 in
theorem zk_X0_isCut_0 : zOks nX0_isCut zo_X0_isCut_0 0 = true := by decide +kernel
def zm_X0_isCut : List (Nat × List Bool) := [(0, [true, true])]
set_option maxRecDepth 100000 in
set_option maxHeartbeats 4000000 in
theorem zr_X0_isCut_0 {C : zCa} {post : zPo} {X : zX} (hX : zClosed none C post nX0_isCut X) (p0 : Int32) (σ : zS) (h : zIf ((p0 : Int32) ≤ 0) (post (some (.int 0)) σ) (C nX11_at [.ref 3, .int p0] σ (zPI fun x2 σ1 => C nX11_at [.ref 2, .int p0] σ1 (zPI fun x4 σ3 => zIf ((2 * x2 : Int32) ≤ (3 * x4)) (post (some (.int 0)) σ3) (post (some (.int 1)) σ3))))) : X 0 [some (.ref 1), some (.int p0)] [] σ := zSeq_ok hX zm_X0_isCut zo_X0_isCut_0 0 0 _ _ _ zk_X0_isCut_0 h
theorem ze_X0_isCut {d : Nat} {post : zPo} (p0 : Int32) (σ : zS) (h : ∀ X : zX, zClosed none (zCall d) post nX0_isCut X → X 0 [some (.ref 1), some (.int p0)] [] σ) : zCall (d + 1) nX0_isCut [.ref 1, .int p0] σ post := h
-- X3_findStarts(16, 1) depth 3
def zo_X3_findStarts_0 : List zOp := [(.aload_n 0, 1, 0, 0, 0, 0, 0, 0, 0, []), (.iconst 0, 2, 0, 0, 0, 0, 0, 0, 0, []), (.putfield 66, 5, 3, 1, 1, 0, 164, 0, 0, []), (.aload_n 0, 6, 0, 0, 0, 0, 0, 0, 0, []), (.iconst 0, 7, 0, 0, 0, 0, 0, 0, 0, []), (.putfield 69, 10, 3, 2, 1, 0, 166, 0, 0, []), (.iconst 0, 11, 0, 0, 0, 0, 0, 0, 0, []), (.istore_n 3, 12, 3, 0, 0, 0, 0, 0, 0, []), (.iconst 0, 13, 0, 0, 0, 0, 0, 0, 0, []), (.istore 4, 15, 4, 0, 0, 0, 0, 0, 0, [])]
set_option maxRecDepth 100000 in
theorem zk_X3_findStarts_0 : zOks nX3_findStarts zo_X3_findStarts_0 0 = true := by decide +kernel
def zo_X3_findStarts_15 : List zOp := [(.iload 4, 17, 4, 0, 0, 0, 0, 0, 0, []), (.aload_n 0, 18, 0, 0, 0, 0, 0, 0, 0, []), (.getfield 39, 21, 3, 0, 1, 0, 161, 0, 0, []), (.if_icmp .ge 96, 24, 117, 0, 0, 0, 0, 0, 0, []), (.iload 4, 26, 4, 0, 0, 0, 0, 0, 0, []), (.ifCond .eq 12, 29, 38, 0, 0, 0, 0, 0, 0, []), (.aload_n 1, 30, 1, 0, 0, 0, 0, 0, 0, []), (.iload 4, 32, 4, 0, 0, 0, 0, 0, 0, []), (.invokevirtual 72, 35, 2, 2, 1, 0, 446, 0, 0, []), (.ifCond .eq 7, 38, 42, 0, 0, 0, 0, 0, 0, []), (.iconst 1, 39, 0, 0, 0, 0, 0, 1, 0, []), (.goto 4, 42, 43, 0, 0, 0, 0, 0, 0, []), (.iconst 0, 43, 0, 0, 0, 0, 0, 0, 0, []), (.istore 5, 45, 5, 0, 0, 0, 0, 0, 0, []), (.iload 5, 47, 5, 0, 0, 0, 0, 0, 0, []), (.ifCond .eq 13, 50, 60, 0, 0, 0, 0, 0, 0, []), (.aload_n 0, 51, 0, 0, 0, 0, 0, 0, 0, []), (.dup, 52, 0, 0, 0, 0, 0, 0, 0, []), (.getfield 66, 55, 3, 1, 1, 0, 164, 0, 0, []), (.iconst 1, 56, 0, 0, 0, 0, 0, 1, 0, []), (.iadd, 57, 0, 0, 0, 0, 0, 0, 0, []), (.putfield 66, 60, 3, 1, 1, 0, 164, 0, 0, []), (.iload 5, 62, 5, 0, 0, 0, 0, 0, 0, []), (.ifCond .ne 11, 65, 73, 0, 0, 0, 0, 0, 0, []), (.iload 4, 67, 4, 0, 0, 0, 0, 0, 0, []), (.iload_n 3, 68, 3, 0, 0, 0, 0, 0, 0, []), (.isub, 69, 0, 0, 0, 0, 0, 0, 0, []), (.iload_n 2, 70, 2, 0, 0, 0, 0, 0, 0, []), (.if_icmp .lt 16, 73, 86, 0, 0, 0, 0, 0, 0, []), (.aload_n 0, 74, 0, 0, 0, 0, 0, 0, 0, []), (.dup, 75, 0, 0, 0, 0, 0, 0, 0, []), (.getfield 69, 78, 3, 2, 1, 0, 166, 0, 0, []), (.iconst 1, 79, 0, 0, 0, 0, 0, 1, 0, []), (.iadd, 80, 0, 0, 0, 0, 0, 0, 0, []), (.putfield 69, 83, 3, 2, 1, 0, 166, 0, 0, []), (.iload 4, 85, 4, 0, 0, 0, 0, 0, 0, []), (.istore_n 3, 86, 3, 0, 0, 0, 0, 0, 0, []), (.aload_n 0, 87, 0, 0, 0, 0, 0, 0, 0, []), (.getfield 15, 90, 3, 4, 0, 0, 172, 0, 0, []), (.iload 4, 92, 4, 0, 0, 0, 0, 0, 0, []), (.aload_n 0, 93, 0, 0, 0, 0, 0, 0, 0, []), (.getfield 66, 96, 3, 1, 1, 0, 164, 0, 0, []), (.iconst 1, 97, 0, 0, 0, 0, 0, 1, 0, []), (.isub, 98, 0, 0, 0, 0, 0, 0, 0, []), (.invokestatic 76, 101, 67, 3, 0, 0, 451, 0, 0, []), (.aload_n 0, 102, 0, 0, 0, 0, 0, 0, 0, []), (.getfield 18, 105, 3, 5, 0, 0, 175, 0, 0, []), (.iload 4, 107, 4, 0, 0, 0, 0, 0, 0, []), (.iload_n 3, 108, 3, 0, 0, 0, 0, 0, 0, []), (.invokestatic 76, 111, 67, 3, 0, 0, 451, 0, 0, []), (.iinc 4 1, 114, 4, 0, 0, 0, 0, 1, 0, []), (.goto (-99), 117, 15, 0, 0, 0, 0, 0, 0, []), (.return_, 118, 0, 0, 0, 0, 0, 0, 0, [])]
set_option maxRecDepth 100000 in
theorem zk_X3_findStarts_15 : zOks nX3_findStarts zo_X3_findStarts_15 15 = true := by decide +kernel
def zm_X3_findStarts : List (Nat × List Bool) := [(0, [true, true, true, false, false, false]), (15, [true, true, true, true, true, false])]
set_option maxRecDepth 100000 in
set_option maxHeartbeats 4000000 in
theorem zr_X3_findStarts_0 {C : zCa} {post : zPo} {X : zX} (hX : zClosed none C post nX3_findStarts X) (p1 : Int32) (σ : zS) (h : X 15 [some (.ref 16), some (.ref 1), some (.int p1), some (.int 0), some (.int 0), none] [] (zSI (zSI σ 16 1 0) 16 2 0)) : X 0 [some (.ref 16), some (.ref 1), some (.int p1), none, none, none] [] σ := zSeq_ok hX zm_X3_findStarts zo_X3_findStarts_0 0 0 _ _ _ zk_X3_findStarts_0 h
set_option maxRecDepth 100000 in
set_option maxHeartbeats 4000000 in
theorem zr_X3_findStarts_15 {C : zCa} {post : zPo} {X : zX} (hX : zClosed none C post nX3_findStarts X) (v2 : Int32) (v3 : Int32) (v4 : Int32) (σ : zS) (h : zIf ((v4 : Int32) < (σ.1 16 0)) (zIf ((v4 : Int32) = 0) (zIf ((1 : Int32) = 0) (zIf ((1 : Int32) = 0) (zIf ((v4 - v3 : Int32) < v2) (C nX11_put [.ref 18, .int v4, .int ((σ.1 16 1) - 1)] σ (zPV fun σ1 => C nX11_put [.ref 19, .int v4, .int v3] σ1 (zPV fun σ2 => X 15 [some (.ref 16), some (.ref 1), some (.int v2), some (.int v3), some (.int (v4 + 1)), none] [] σ2))) (C nX11_put [.ref 18, .int v4, .int (((zSI σ 16 2 ((σ.1 16 2) + 1)).1 16 1) - 1)] (zSI σ 16 2 ((σ.1 16 2) + 1)) (zPV fun σ3 => C nX11_put [.ref 19, .int v4, .int v4] σ3 (zPV fun σ4 => X 15 [some (.ref 16), some (.ref 1), some (.int v2), some (.int v4), some (.int (v4 + 1)), none] [] σ4)))) (C nX11_put [.ref 18, .int v4, .int (((zSI σ 16 2 ((σ.1 16 2) + 1)).1 16 1) - 1)] (zSI σ 16 2 ((σ.1 16 2) + 1)) (zPV fun σ5 => C nX11_put [.ref 19, .int v4, .int v4] σ5 (zPV fun σ6 => X 15 [some (.ref 16), some (.ref 1), some (.int v2), some (.int v4), some (.int (v4 + 1)), none] [] σ6)))) (zIf ((1 : Int32) = 0) (zIf ((v4 - v3 : Int32) < v2) (C nX11_put [.ref 18, .int v4, .int (((zSI σ 16 1 ((σ.1 16 1) + 1)).1 16 1) - 1)] (zSI σ 16 1 ((σ.1 16 1) + 1)) (zPV fun σ7 => C nX11_put [.ref 19, .int v4, .int v3] σ7 (zPV fun σ8 => X 15 [some (.ref 16), some (.ref 1), some (.int v2), some (.int v3), some (.int (v4 + 1)), none] [] σ8))) (C nX11_put [.ref 18, .int v4, .int (((zSI (zSI σ 16 1 ((σ.1 16 1) + 1)) 16 2 (((zSI σ 16 1 ((σ.1 16 1) + 1)).1 16 2) + 1)).1 16 1) - 1)] (zSI (zSI σ 16 1 ((σ.1 16 1) + 1)) 16 2 (((zSI σ 16 1 ((σ.1 16 1) + 1)).1 16 2) + 1)) (zPV fun σ9 => C nX11_put [.ref 19, .int v4, .int v4] σ9 (zPV fun σ10 => X 15 [some (.ref 16), some (.ref 1), some (.int v2), some (.int v4), some (.int (v4 + 1)), none] [] σ10)))) (C nX11_put [.ref 18, .int v4, .int (((zSI (zSI σ 16 1 ((σ.1 16 1) + 1)) 16 2 (((zSI σ 16 1 ((σ.1 16 1) + 1)).1 16 2) + 1)).1 16 1) - 1)] (zSI (zSI σ 16 1 ((σ.1 16 1) + 1)) 16 2 (((zSI σ 16 1 ((σ.1 16 1) + 1)).1 16 2) + 1)) (zPV fun σ11 => C nX11_put [.ref 19, .int v4, .int v4] σ11 (zPV fun σ12 => X 15 [some (.ref 16), some (.ref 1), some (.int v2), some (.int v4), some (.int (v4 + 1)), none] [] σ12))))) (C nX0_isCut [.ref 1, .int v4] σ (zPI fun x14 σ13 => zIf ((x14 : Int32) = 0) (zIf ((0 : Int32) = 0) (zIf ((0 : Int32) = 0) (zIf ((v4 - v3 : Int32) < v2) (C nX11_put [.ref 18, .int v4, .int ((σ13.1 16 1) - 1)] σ13 (zPV fun σ15 => C nX11_put [.ref 19, .int v4, .int v3] σ15 (zPV fun σ16 => X 15 [some (.ref 16), some (.ref 1), some (.int v2), some (.int v3), some (.int (v4 + 1)), none] [] σ16))) (C nX11_put [.ref 18, .int v4, .int (((zSI σ13 16 2 ((σ13.1 16 2) + 1)).1 16 1) - 1)] (zSI σ13 16 2 ((σ13.1 16 2) + 1)) (zPV fun σ17 => C nX11_put [.ref 19, .int v4, .int v4] σ17 (zPV fun σ18 => X 15 [some (.ref 16), some (.ref 1), some (.int v2), some (.int v4), some (.int (v4 + 1)), none] [] σ18)))) (C nX11_put [.ref 18, .int v4, .int (((zSI σ13 16 2 ((σ13.1 16 2) + 1)).1 16 1) - 1)] (zSI σ13 16 2 ((σ13.1 16 2) + 1)) (zPV fun σ19 => C nX11_put [.ref 19, .int v4, .int v4] σ19 (zPV fun σ20 => X 15 [some (.ref 16), some (.ref 1), some (.int v2), some (.int v4), some (.int (v4 + 1)), none] [] σ20)))) (zIf ((0 : Int32) = 0) (zIf ((v4 - v3 : Int32) < v2) (C nX11_put [.ref 18, .int v4, .int (((zSI σ13 16 1 ((σ13.1 16 1) + 1)).1 16 1) - 1)] (zSI σ13 16 1 ((σ13.1 16 1) + 1)) (zPV fun σ21 => C nX11_put [.ref 19, .int v4, .int v3] σ21 (zPV fun σ22 => X 15 [some (.ref 16), some (.ref 1), some (.int v2), some (.int v3), some (.int (v4 + 1)), none] [] σ22))) (C nX11_put [.ref 18, .int v4, .int (((zSI (zSI σ13 16 1 ((σ13.1 16 1) + 1)) 16 2 (((zSI σ13 16 1 ((σ13.1 16 1) + 1)).1 16 2) + 1)).1 16 1) - 1)] (zSI (zSI σ13 16 1 ((σ13.1 16 1) + 1)) 16 2 (((zSI σ13 16 1 ((σ13.1 16 1) + 1)).1 16 2) + 1)) (zPV fun σ23 => C nX11_put [.ref 19, .int v4, .int v4] σ23 (zPV fun σ24 => X 15 [some (.ref 16), some (.ref 1), some (.int v2), some (.int v4), some (.int (v4 + 1)), none] [] σ24)))) (C nX11_put [.ref 18, .int v4, .int (((zSI (zSI σ13 16 1 ((σ13.1 16 1) + 1)) 16 2 (((zSI σ13 16 1 ((σ13.1 16 1) + 1)).1 16 2) + 1)).1 16 1) - 1)] (zSI (zSI σ13 16 1 ((σ13.1 16 1) + 1)) 16 2 (((zSI σ13 16 1 ((σ13.1 16 1) + 1)).1 16 2) + 1)) (zPV fun σ25 => C nX11_put [.ref 19, .int v4, .int v4] σ25 (zPV fun σ26 => X 15 [some (.ref 16), some (.ref 1), some (.int v2), some (.int v4), some (.int (v4 + 1)), none] [] σ26))))) (zIf ((1 : Int32) = 0) (zIf ((1 : Int32) = 0) (zIf ((v4 - v3 : Int32) < v2) (C nX11_put [.ref 18, .int v4, .int ((σ13.1 16 1) - 1)] σ13 (zPV fun σ27 => C nX11_put [.ref 19, .int v4, .int v3] σ27 (zPV fun σ28 => X 15 [some (.ref 16), some (.ref 1), some (.int v2), some (.int v3), some (.int (v4 + 1)), none] [] σ28))) (C nX11_put [.ref 18, .int v4, .int (((zSI σ13 16 2 ((σ13.1 16 2) + 1)).1 16 1) - 1)] (zSI σ13 16 2 ((σ13.1 16 2) + 1)) (zPV fun σ29 => C nX11_put [.ref 19, .int v4, .int v4] σ29 (zPV fun σ30 => X 15 [some (.ref 16), some (.ref 1), some (.int v2), some (.int v4), some (.int (v4 + 1)), none] [] σ30)))) (C nX11_put [.ref 18, .int v4, .int (((zSI σ13 16 2 ((σ13.1 16 2) + 1)).1 16 1) - 1)] (zSI σ13 16 2 ((σ13.1 16 2) + 1)) (zPV fun σ31 => C nX11_put [.ref 19, .int v4, .int v4] σ31 (zPV fun σ32 => X 15 [some (.ref 16), some (.ref 1), some (.int v2), some (.int v4), some (.int (v4 + 1)), none] [] σ32)))) (zIf ((1 : Int32) = 0) (zIf ((v4 - v3 : Int32) < v2) (C nX11_put [.ref 18, .int v4, .int (((zSI σ13 16 1 ((σ13.1 16 1) + 1)).1 16 1) - 1)] (zSI σ13 16 1 ((σ13.1 16 1) + 1)) (zPV fun σ33 => C nX11_put [.ref 19, .int v4, .int v3] σ33 (zPV fun σ34 => X 15 [some (.ref 16), some (.ref 1), some (.int v2), some (.int v3), some (.int (v4 + 1)), none] [] σ34))) (C nX11_put [.ref 18, .int v4, .int (((zSI (zSI σ13 16 1 ((σ13.1 16 1) + 1)) 16 2 (((zSI σ13 16 1 ((σ13.1 16 1) + 1)).1 16 2) + 1)).1 16 1) - 1)] (zSI (zSI σ13 16 1 ((σ13.1 16 1) + 1)) 16 2 (((zSI σ13 16 1 ((σ13.1 16 1) + 1)).1 16 2) + 1)) (zPV fun σ35 => C nX11_put [.ref 19, .int v4, .int v4] σ35 (zPV fun σ36 => X 15 [some (.ref 16), some (.ref 1), some (.int v2), some (.int v4), some (.int (v4 + 1)), none] [] σ36)))) (C nX11_put [.ref 18, .int v4, .int (((zSI (zSI σ13 16 1 ((σ13.1 16 1) + 1)) 16 2 (((zSI σ13 16 1 ((σ13.1 16 1) + 1)).1 16 2) + 1)).1 16 1) - 1)] (zSI (zSI σ13 16 1 ((σ13.1 16 1) + 1)) 16 2 (((zSI σ13 16 1 ((σ13.1 16 1) + 1)).1 16 2) + 1)) (zPV fun σ37 => C nX11_put [.ref 19, .int v4, .int v4] σ37 (zPV fun σ38 => X 15 [some (.ref 16), some (.ref 1), some (.int v2), some (.int v4), some (.int (v4 + 1)), none] [] σ38)))))))) (post none σ)) : X 15 [some (.ref 16), some (.ref 1), some (.int v2), some (.int v3), some (.int v4), none] [] σ := zSeq_ok hX zm_X3_findStarts zo_X3_findStarts_15 15 15 _ _ _ zk_X3_findStarts_15 h
theorem ze_X3_findStarts {d : Nat} {post : zPo} (p1 : Int32) (σ : zS) (h : ∀ X : zX, zClosed none (zCall d) post nX3_findStarts X → X 0 [some (.ref 16), some (.ref 1), some (.int p1), none, none, none] [] σ) : zCall (d + 1) nX3_findStarts [.ref 16, .ref 1, .int p1] σ post := h
-- X3_measureGroups(16,) depth 2
def zo_X3_measureGroups_0 : List zOp := [(.aload_n 0, 1, 0, 0, 0, 0, 0, 0, 0, []), (.getfield 39, 4, 3, 0, 1, 0, 161, 0, 0, []), (.istore_n 1, 5, 1, 0, 0, 0, 0, 0, 0, []), (.aload_n 0, 6, 0, 0, 0, 0, 0, 0, 0, []), (.getfield 39, 9, 3, 0, 1, 0, 161, 0, 0, []), (.iconst 1, 10, 0, 0, 0, 0, 0, 1, 0, []), (.isub, 11, 0, 0, 0, 0, 0, 0, 0, []), (.istore_n 2, 12, 2, 0, 0, 0, 0, 0, 0, [])]
set_option maxRecDepth 100000 in
theorem zk_X3_measureGroups_0 : zOks nX3_measureGroups zo_X3_measureGroups_0 0 = true := by decide +kernel
def zo_X3_measureGroups_12 : List zOp := [(.iload_n 2, 13, 2, 0, 0, 0, 0, 0, 0, []), (.ifCond .lt 36, 16, 49, 0, 0, 0, 0, 0, 0, []), (.aload_n 0, 17, 0, 0, 0, 0, 0, 0, 0, []), (.getfield 18, 20, 3, 5, 0, 0, 175, 0, 0, []), (.iload_n 2, 21, 2, 0, 0, 0, 0, 0, 0, []), (.invokestatic 80, 24, 66, 2, 1, 0, 456, 0, 0, []), (.istore_n 3, 25, 3, 0, 0, 0, 0, 0, 0, []), (.aload_n 0, 26, 0, 0, 0, 0, 0, 0, 0, []), (.getfield 21, 29, 3, 6, 0, 0, 177, 0, 0, []), (.iload_n 2, 30, 2, 0, 0, 0, 0, 0, 0, []), (.iload_n 1, 31, 1, 0, 0, 0, 0, 0, 0, []), (.iload_n 3, 32, 3, 0, 0, 0, 0, 0, 0, []), (.isub, 33, 0, 0, 0, 0, 0, 0, 0, []), (.invokestatic 76, 36, 67, 3, 0, 0, 451, 0, 0, []), (.iload_n 2, 37, 2, 0, 0, 0, 0, 0, 0, []), (.iload_n 3, 38, 3, 0, 0, 0, 0, 0, 0, []), (.if_icmp .ne 5, 41, 43, 0, 0, 0, 0, 0, 0, []), (.iload_n 2, 42, 2, 0, 0, 0, 0, 0, 0, []), (.istore_n 1, 43, 1, 0, 0, 0, 0, 0, 0, []), (.iinc 2 (-1), 46, 2, 0, 0, 0, 0, (-1), 0, []), (.goto (-34), 49, 12, 0, 0, 0, 0, 0, 0, []), (.return_, 50, 0, 0, 0, 0, 0, 0, 0, [])]
set_option maxRecDepth 100000 in
theorem zk_X3_measureGroups_12 : zOks nX3_measureGroups zo_X3_measureGroups_12 12 = true := by decide +kernel
def zm_X3_measureGroups : List (Nat × List Bool) := [(0, [true, false, false, false]), (12, [true, true, true, false])]
set_option maxRecDepth 100000 in
set_option maxHeartbeats 4000000 in
theorem zr_X3_measureGroups_0 {C : zCa} {post : zPo} {X : zX} (hX : zClosed none C post nX3_measureGroups X) (σ : zS) (h : X 12 [some (.ref 16), some (.int (σ.1 16 0)), some (.int ((σ.1 16 0) - 1)), none] [] σ) : X 0 [some (.ref 16), none, none, none] [] σ := zSeq_ok hX zm_X3_measureGroups zo_X3_measureGroups_0 0 0 _ _ _ zk_X3_measureGroups_0 h
set_option maxRecDepth 100000 in
set_option maxHeartbeats 4000000 in
theorem zr_X3_measureGroups_12 {C : zCa} {post : zPo} {X : zX} (hX : zClosed none C post nX3_measureGroups X) (v1 : Int32) (v2 : Int32) (σ : zS) (h : zIf ((v2 : Int32) < 0) (post none σ) (C nX11_at [.ref 19, .int v2] σ (zPI fun x2 σ1 => C nX11_put [.ref 20, .int v2, .int (v1 - x2)] σ1 (zPV fun σ3 => zIf ((v2 : Int32) = x2) (X 12 [some (.ref 16), some (.int v2), some (.int (v2 + (-1))), none] [] σ3) (X 12 [some (.ref 16), some (.int v1), some (.int (v2 + (-1))), none] [] σ3))))) : X 12 [some (.ref 16), some (.int v1), some (.int v2), none] [] σ := zSeq_ok hX zm_X3_measureGroups zo_X3_measureGroups_12 12 12 _ _ _ zk_X3_measureGroups_12 h
theorem ze_X3_measureGroups {d : Nat} {post : zPo} (σ : zS) (h : ∀ X : zX, zClosed none (zCall d) post nX3_measureGroups X → X 0 [some (.ref 16), none, none, none] [] σ) : zCall (d + 1) nX3_measureGroups [.ref 16] σ post := h
-- X3_putAt(16,) depth 2
def zo_X3_putAt_0 : List zOp := [(.aload_n 0, 1, 0, 0, 0, 0, 0, 0, 0, []), (.getfield 30, 4, 3, 9, 0, 0, 184, 0, 0, []), (.iload_n 1, 5, 1, 0, 0, 0, 0, 0, 0, []), (.iload_n 2, 6, 2, 0, 0, 0, 0, 0, 0, []), (.invokestatic 76, 9, 67, 3, 0, 0, 451, 0, 0, []), (.aload_n 0, 10, 0, 0, 0, 0, 0, 0, 0, []), (.getfield 27, 13, 3, 8, 0, 0, 182, 0, 0, []), (.iload_n 2, 14, 2, 0, 0, 0, 0, 0, 0, []), (.iload_n 1, 15, 1, 0, 0, 0, 0, 0, 0, []), (.invokestatic 76, 18, 67, 3, 0, 0, 451, 0, 0, []), (.return_, 19, 0, 0, 0, 0, 0, 0, 0, [])]
set_option maxRecDepth 100000 in
theorem zk_X3_putAt_0 : zOks nX3_putAt zo_X3_putAt_0 0 = true := by decide +kernel
def zm_X3_putAt : List (Nat × List Bool) := [(0, [true, true, true])]
set_option maxRecDepth 100000 in
set_option maxHeartbeats 4000000 in
theorem zr_X3_putAt_0 {C : zCa} {post : zPo} {X : zX} (hX : zClosed none C post nX3_putAt X) (p0 : Int32) (p1 : Int32) (σ : zS) (h : C nX11_put [.ref 23, .int p0, .int p1] σ (zPV fun σ1 => C nX11_put [.ref 22, .int p1, .int p0] σ1 (zPV fun σ2 => post none σ2))) : X 0 [some (.ref 16), some (.int p0), some (.int p1)] [] σ := zSeq_ok hX zm_X3_putAt zo_X3_putAt_0 0 0 _ _ _ zk_X3_putAt_0 h
theorem ze_X3_putAt {d : Nat} {post : zPo} (p0 : Int32) (p1 : Int32) (σ : zS) (h : ∀ X : zX, zClosed none (zCall d) post nX3_putAt X → X 0 [some (.ref 16), some (.int p0), some (.int p1)] [] σ) : zCall (d + 1) nX3_putAt [.ref 16, .int p0, .int p1] σ post := h
-- X3_putInOrder(16,) depth 3
def zo_X3_putInOrder_0 : List zOp := [(.iconst 0, 1, 0, 0, 0, 0, 0, 0, 0, []), (.istore_n 1, 2, 1, 0, 0, 0, 0, 0, 0, []), (.iconst 0, 3, 0, 0, 0, 0, 0, 0, 0, []), (.istore_n 2, 4, 2, 0, 0, 0, 0, 0, 0, []), (.iconst 0, 5, 0, 0, 0, 0, 0, 0, 0, []), (.istore_n 3, 6, 3, 0, 0, 0, 0, 0, 0, [])]
set_option maxRecDepth 100000 in
theorem zk_X3_putInOrder_0 : zOks nX3_putInOrder zo_X3_putInOrder_0 0 = true := by decide +kernel
def zo_X3_putInOrder_6 : List zOp := [(.iload_n 3, 7, 3, 0, 0, 0, 0, 0, 0, []), (.aload_n 0, 8, 0, 0, 0, 0, 0, 0, 0, []), (.getfield 39, 11, 3, 0, 1, 0, 161, 0, 0, []), (.if_icmp .ge 59, 14, 70, 0, 0, 0, 0, 0, 0, []), (.aload_n 0, 15, 0, 0, 0, 0, 0, 0, 0, []), (.getfield 9, 18, 3, 3, 0, 0, 168, 0, 0, []), (.iload_n 3, 19, 3, 0, 0, 0, 0, 0, 0, []), (.invokestatic 80, 22, 66, 2, 1, 0, 456, 0, 0, []), (.iconst 2, 23, 0, 0, 0, 0, 0, 2, 0, []), (.if_icmp .eq 41, 26, 64, 0, 0, 0, 0, 0, 0, []), (.aload_n 0, 27, 0, 0, 0, 0, 0, 0, 0, []), (.iload_n 1, 28, 1, 0, 0, 0, 0, 0, 0, []), (.iload_n 3, 29, 3, 0, 0, 0, 0, 0, 0, []), (.invokevirtual 88, 32, 19, 3, 0, 3, 468, 0, 0, []), (.iinc 1 1, 35, 1, 0, 0, 0, 0, 1, 0, []), (.iload_n 2, 36, 2, 0, 0, 0, 0, 0, 0, []), (.istore 4, 38, 4, 0, 0, 0, 0, 0, 0, [])]
set_option maxRecDepth 100000 in
theorem zk_X3_putInOrder_6 : zOks nX3_putInOrder zo_X3_putInOrder_6 6 = true := by decide +kernel
def zo_X3_putInOrder_38 : List zOp := [(.iload 4, 40, 4, 0, 0, 0, 0, 0, 0, []), (.iload_n 3, 41, 3, 0, 0, 0, 0, 0, 0, []), (.if_icmp .ge 19, 44, 60, 0, 0, 0, 0, 0, 0, []), (.aload_n 0, 45, 0, 0, 0, 0, 0, 0, 0, []), (.iload_n 1, 46, 1, 0, 0, 0, 0, 0, 0, []), (.iload 4, 48, 4, 0, 0, 0, 0, 0, 0, []), (.invokevirtual 88, 51, 19, 3, 0, 3, 468, 0, 0, []), (.iinc 1 1, 54, 1, 0, 0, 0, 0, 1, 0, []), (.iinc 4 1, 57, 4, 0, 0, 0, 0, 1, 0, []), (.goto (-19), 60, 38, 0, 0, 0, 0, 0, 0, []), (.iload_n 3, 61, 3, 0, 0, 0, 0, 0, 0, []), (.iconst 1, 62, 0, 0, 0, 0, 0, 1, 0, []), (.iadd, 63, 0, 0, 0, 0, 0, 0, 0, []), (.istore_n 2, 64, 2, 0, 0, 0, 0, 0, 0, []), (.iinc 3 1, 67, 3, 0, 0, 0, 0, 1, 0, []), (.goto (-61), 70, 6, 0, 0, 0, 0, 0, 0, []), (.return_, 71, 0, 0, 0, 0, 0, 0, 0, [])]
set_option maxRecDepth 100000 in
theorem zk_X3_putInOrder_38 : zOks nX3_putInOrder zo_X3_putInOrder_38 38 = true := by decide +kernel
def zm_X3_putInOrder : List (Nat × List Bool) := [(0, [true, false, false, false, false]), (6, [true, true, true, true, false]), (38, [true, true, false, true, true]), (64, [true, true, true, true, false]), (70, [false, false, false, false, false])]
set_option maxRecDepth 100000 in
set_option maxHeartbeats 4000000 in
theorem zr_X3_putInOrder_0 {C : zCa} {post : zPo} {X : zX} (hX : zClosed none C post nX3_putInOrder X) (σ : zS) (h : X 6 [some (.ref 16), some (.int 0), some (.int 0), some (.int 0), none] [] σ) : X 0 [some (.ref 16), none, none, none, none] [] σ := zSeq_ok hX zm_X3_putInOrder zo_X3_putInOrder_0 0 0 _ _ _ zk_X3_putInOrder_0 h
set_option maxRecDepth 100000 in
set_option maxHeartbeats 4000000 in
theorem zr_X3_putInOrder_6 {C : zCa} {post : zPo} {X : zX} (hX : zClosed none C post nX3_putInOrder X) (v1 : Int32) (v2 : Int32) (v3 : Int32) (σ : zS) (h : zIf ((v3 : Int32) < (σ.1 16 0)) (C nX11_at [.ref 17, .int v3] σ (zPI fun x2 σ1 => zIf ((x2 : Int32) = 2) (X 64 [some (.ref 16), some (.int v1), some (.int v2), some (.int v3), none] [] σ1) (C nX3_putAt [.ref 16, .int v1, .int v3] σ1 (zPV fun σ3 => X 38 [some (.ref 16), some (.int (v1 + 1)), none, some (.int v3), some (.int v2)] [] σ3)))) (X 70 [none, none, none, none, none] [] σ)) : X 6 [some (.ref 16), some (.int v1), some (.int v2), some (.int v3), none] [] σ := zSeq_ok hX zm_X3_putInOrder zo_X3_putInOrder_6 6 6 _ _ _ zk_X3_putInOrder_6 h
set_option maxRecDepth 100000 in
set_option maxHeartbeats 4000000 in
theorem zr_X3_putInOrder_64 {C : zCa} {post : zPo} {X : zX} (hX : zClosed none C post nX3_putInOrder X) (v1 : Int32) (v2 : Int32) (v3 : Int32) (σ : zS) (h : X 6 [some (.ref 16), some (.int v1), some (.int v2), some (.int (v3 + 1)), none] [] σ) : X 64 [some (.ref 16), some (.int v1), some (.int v2), some (.int v3), none] [] σ := zSeq_ok hX zm_X3_putInOrder zo_X3_putInOrder_38 38 64 _ _ _ zk_X3_putInOrder_38 h
set_option maxRecDepth 100000 in
set_option maxHeartbeats 4000000 in
theorem zr_X3_putInOrder_38 {C : zCa} {post : zPo} {X : zX} (hX : zClosed none C post nX3_putInOrder X) (v1 : Int32) (v3 : Int32) (v4 : Int32) (σ : zS) (h : zIf ((v4 : Int32) < v3) (C nX3_putAt [.ref 16, .int v1, .int v4] σ (zPV fun σ1 => X 38 [some (.ref 16), some (.int (v1 + 1)), none, some (.int v3), some (.int (v4 + 1))] [] σ1)) (X 6 [some (.ref 16), some (.int v1), some (.int (v3 + 1)), some (.int (v3 + 1)), none] [] σ)) : X 38 [some (.ref 16), some (.int v1), none, some (.int v3), some (.int v4)] [] σ := zSeq_ok hX zm_X3_putInOrder zo_X3_putInOrder_38 38 38 _ _ _ zk_X3_putInOrder_38 h
set_option maxRecDepth 100000 in
set_option maxHeartbeats 4000000 in
theorem zr_X3_putInOrder_70 {C : zCa} {post : zPo} {X : zX} (hX : zClosed none C post nX3_putInOrder X) (σ : zS) (h : post none σ) : X 70 [none, none, none, none, none] [] σ := zSeq_ok hX zm_X3_putInOrder zo_X3_putInOrder_38 38 70 _ _ _ zk_X3_putInOrder_38 h
theorem ze_X3_putInOrder {d : Nat} {post : zPo} (σ : zS) (h : ∀ X : zX, zClosed none (zCall d) post nX3_putInOrder X → X 0 [some (.ref 16), none, none, none, none] [] σ) : zCall (d + 1) nX3_putInOrder [.ref 16] σ post := h
-- X3_workOf() depth 1
def zo_X3_workOf_0 : List zOp := [(.iload_n 0, 1, 0, 0, 0, 0, 0, 0, 0, []), (.lookupswitch 37 #[(0, 27), (1, 31)], 28, 38, 0, 0, 0, 0, 0, 0, [(0, 28), (1, 32)]), (.iconst 4, 29, 0, 0, 0, 0, 0, 4, 0, []), (.iload_n 1, 30, 1, 0, 0, 0, 0, 0, 0, []), (.imul, 31, 0, 0, 0, 0, 0, 0, 0, []), (.ireturn, 32, 0, 0, 0, 0, 0, 0, 0, []), (.iload_n 1, 33, 1, 0, 0, 0, 0, 0, 0, []), (.iconst 2, 34, 0, 0, 0, 0, 0, 2, 0, []), (.iload_n 2, 35, 2, 0, 0, 0, 0, 0, 0, []), (.imul, 36, 0, 0, 0, 0, 0, 0, 0, []), (.iadd, 37, 0, 0, 0, 0, 0, 0, 0, []), (.ireturn, 38, 0, 0, 0, 0, 0, 0, 0, []), (.iload_n 1, 39, 1, 0, 0, 0, 0, 0, 0, []), (.iconst 2, 40, 0, 0, 0, 0, 0, 2, 0, []), (.idiv, 41, 0, 0, 0, 0, 0, 0, 0, []), (.iload_n 2, 42, 2, 0, 0, 0, 0, 0, 0, []), (.iadd, 43, 0, 0, 0, 0, 0, 0, 0, []), (.ireturn, 44, 0, 0, 0, 0, 0, 0, 0, [])]
set_option maxRecDepth 100000 in
theorem zk_X3_workOf_0 : zOks nX3_workOf zo_X3_workOf_0 0 = true := by decide +kernel
def zm_X3_workOf : List (Nat × List Bool) := [(0, [true, true, true])]
set_option maxRecDepth 100000 in
set_option maxHeartbeats 4000000 in
theorem zr_X3_workOf_0 {C : zCa} {post : zPo} {X : zX} (hX : zClosed none C post nX3_workOf X) (p0 : Int32) (p1 : Int32) (p2 : Int32) (σ : zS) (h : ((p0 : Int32) = 0 → (post (some (.int (4 * p1))) σ)) ∧ (¬ (p0 : Int32) = 0 → ((p0 : Int32) = 1 → (post (some (.int (p1 + (2 * p2)))) σ)) ∧ (¬ (p0 : Int32) = 1 → ¬ (2 : Int32) = 0 ∧ (post (some (.int ((p1 / 2) + p2))) σ)))) : X 0 [some (.int p0), some (.int p1), some (.int p2)] [] σ := zSeq_ok hX zm_X3_workOf zo_X3_workOf_0 0 0 _ _ _ zk_X3_workOf_0 h
theorem ze_X3_workOf {d : Nat} {post : zPo} (p0 : Int32) (p1 : Int32) (p2 : Int32) (σ : zS) (h : ∀ X : zX, zClosed none (zCall d) post nX3_workOf X → X 0 [some (.int p0), some (.int p1), some (.int p2)] [] σ) : zCall (d + 1) nX3_workOf [.int p0, .int p1, .int p2] σ post := h
-- X3_weighWorks(16, 1) depth 2
def zo_X3_weighWorks_0 : List zOp := [(.iconst 0, 1, 0, 0, 0, 0, 0, 0, 0, []), (.istore_n 2, 2, 2, 0, 0, 0, 0, 0, 0, [])]
set_option maxRecDepth 100000 in
theorem zk_X3_weighWorks_0 : zOks nX3_weighWorks zo_X3_weighWorks_0 0 = true := by decide +kernel
def zo_X3_weighWorks_2 : List zOp := [(.iload_n 2, 3, 2, 0, 0, 0, 0, 0, 0, []), (.aload_n 0, 4, 0, 0, 0, 0, 0, 0, 0, []), (.getfield 39, 7, 3, 0, 1, 0, 161, 0, 0, []), (.if_icmp .ge 44, 10, 51, 0, 0, 0, 0, 0, 0, []), (.aload_n 0, 11, 0, 0, 0, 0, 0, 0, 0, []), (.getfield 24, 14, 3, 7, 0, 0, 179, 0, 0, []), (.iload_n 2, 15, 2, 0, 0, 0, 0, 0, 0, []), (.aload_n 0, 16, 0, 0, 0, 0, 0, 0, 0, []), (.getfield 9, 19, 3, 3, 0, 0, 168, 0, 0, []), (.iload_n 2, 20, 2, 0, 0, 0, 0, 0, 0, []), (.invokestatic 80, 23, 66, 2, 1, 0, 456, 0, 0, []), (.aload_n 1, 24, 1, 0, 0, 0, 0, 0, 0, []), (.getfield 92, 27, 0, 1, 0, 0, 48, 0, 0, []), (.iload_n 2, 28, 2, 0, 0, 0, 0, 0, 0, []), (.invokestatic 80, 31, 66, 2, 1, 0, 456, 0, 0, []), (.aload_n 1, 32, 1, 0, 0, 0, 0, 0, 0, []), (.getfield 95, 35, 0, 2, 0, 0, 51, 0, 0, []), (.iload_n 2, 36, 2, 0, 0, 0, 0, 0, 0, []), (.invokestatic 80, 39, 66, 2, 1, 0, 456, 0, 0, []), (.invokestatic 98, 42, 21, 3, 1, 0, 476, 0, 0, []), (.invokestatic 76, 45, 67, 3, 0, 0, 451, 0, 0, []), (.iinc 2 1, 48, 2, 0, 0, 0, 0, 1, 0, []), (.goto (-46), 51, 2, 0, 0, 0, 0, 0, 0, []), (.return_, 52, 0, 0, 0, 0, 0, 0, 0, [])]
set_option maxRecDepth 100000 in
theorem zk_X3_weighWorks_2 : zOks nX3_weighWorks zo_X3_weighWorks_2 2 = true := by decide +kernel
def zm_X3_weighWorks : List (Nat × List Bool) := [(0, [true, true, false]), (2, [true, true, true])]
set_option maxRecDepth 100000 in
set_option maxHeartbeats 4000000 in
theorem zr_X3_weighWorks_0 {C : zCa} {post : zPo} {X : zX} (hX : zClosed none C post nX3_weighWorks X) (σ : zS) (h : X 2 [some (.ref 16), some (.ref 1), some (.int 0)] [] σ) : X 0 [some (.ref 16), some (.ref 1), none] [] σ := zSeq_ok hX zm_X3_weighWorks zo_X3_weighWorks_0 0 0 _ _ _ zk_X3_weighWorks_0 h
set_option maxRecDepth 100000 in
set_option maxHeartbeats 4000000 in
theorem zr_X3_weighWorks_2 {C : zCa} {post : zPo} {X : zX} (hX : zClosed none C post nX3_weighWorks X) (v2 : Int32) (σ : zS) (h : zIf ((v2 : Int32) < (σ.1 16 0)) (C nX11_at [.ref 17, .int v2] σ (zPI fun x2 σ1 => C nX11_at [.ref 2, .int v2] σ1 (zPI fun x4 σ3 => C nX11_at [.ref 3, .int v2] σ3 (zPI fun x6 σ5 => C nX3_workOf [.int x2, .int x4, .int x6] σ5 (zPI fun x8 σ7 => C nX11_put [.ref 21, .int v2, .int x8] σ7 (zPV fun σ9 => X 2 [some (.ref 16), some (.ref 1), some (.int (v2 + 1))] [] σ9)))))) (post none σ)) : X 2 [some (.ref 16), some (.ref 1), some (.int v2)] [] σ := zSeq_ok hX zm_X3_weighWorks zo_X3_weighWorks_2 2 2 _ _ _ zk_X3_weighWorks_2 h
theorem ze_X3_weighWorks {d : Nat} {post : zPo} (σ : zS) (h : ∀ X : zX, zClosed none (zCall d) post nX3_weighWorks X → X 0 [some (.ref 16), some (.ref 1), none] [] σ) : zCall (d + 1) nX3_weighWorks [.ref 16, .ref 1] σ post := h
-- X3_arrange(16, 1, 4) depth 4
def zo_X3_arrange_0 : List zOp := [(.aload_n 0, 1, 0, 0, 0, 0, 0, 0, 0, []), (.aload_n 1, 2, 1, 0, 0, 0, 0, 0, 0, []), (.getfield 33, 5, 0, 0, 1, 0, 43, 0, 0, []), (.putfield 39, 8, 3, 0, 1, 0, 161, 0, 0, []), (.aload_n 0, 9, 0, 0, 0, 0, 0, 0, 0, []), (.aload_n 1, 10, 1, 0, 0, 0, 0, 0, 0, []), (.aload_n 2, 11, 2, 0, 0, 0, 0, 0, 0, []), (.getfield 40, 14, 8, 0, 1, 0, 68, 0, 0, []), (.invokevirtual 45, 17, 14, 3, 0, 3, 442, 0, 0, []), (.aload_n 0, 18, 0, 0, 0, 0, 0, 0, 0, []), (.invokevirtual 49, 21, 15, 1, 0, 3, 452, 0, 0, []), (.aload_n 0, 22, 0, 0, 0, 0, 0, 0, 0, []), (.aload_n 2, 23, 2, 0, 0, 0, 0, 0, 0, []), (.getfield 52, 26, 8, 1, 1, 0, 71, 0, 0, []), (.invokevirtual 55, 29, 16, 2, 0, 3, 457, 0, 0, []), (.aload_n 0, 30, 0, 0, 0, 0, 0, 0, 0, []), (.invokevirtual 59, 33, 18, 1, 0, 3, 464, 0, 0, []), (.aload_n 0, 34, 0, 0, 0, 0, 0, 0, 0, []), (.aload_n 1, 35, 1, 0, 0, 0, 0, 0, 0, []), (.invokevirtual 62, 38, 20, 2, 0, 3, 472, 0, 0, []), (.return_, 39, 0, 0, 0, 0, 0, 0, 0, [])]
set_option maxRecDepth 100000 in
theorem zk_X3_arrange_0 : zOks nX3_arrange zo_X3_arrange_0 0 = true := by decide +kernel
def zm_X3_arrange : List (Nat × List Bool) := [(0, [true, true, true])]
set_option maxRecDepth 100000 in
set_option maxHeartbeats 4000000 in
theorem zr_X3_arrange_0 {C : zCa} {post : zPo} {X : zX} (hX : zClosed none C post nX3_arrange X) (σ : zS) (h : C nX3_findStarts [.ref 16, .ref 1, .int ((zSI σ 16 0 (σ.1 1 0)).1 4 0)] (zSI σ 16 0 (σ.1 1 0)) (zPV fun σ1 => C nX3_measureGroups [.ref 16] σ1 (zPV fun σ2 => C nX3_chooseTypes [.ref 16, .int (σ2.1 4 1)] σ2 (zPV fun σ3 => C nX3_putInOrder [.ref 16] σ3 (zPV fun σ4 => C nX3_weighWorks [.ref 16, .ref 1] σ4 (zPV fun σ5 => post none σ5)))))) : X 0 [some (.ref 16), some (.ref 1), some (.ref 4)] [] σ := zSeq_ok hX zm_X3_arrange zo_X3_arrange_0 0 0 _ _ _ zk_X3_arrange_0 h
theorem ze_X3_arrange {d : Nat} {post : zPo} (σ : zS) (h : ∀ X : zX, zClosed none (zCall d) post nX3_arrange X → X 0 [some (.ref 16), some (.ref 1), some (.ref 4)] [] σ) : zCall (d + 1) nX3_arrange [.ref 16, .ref 1, .ref 4] σ post := h
-- X6_weightOf(24,) depth 2
def zo_X6_weightOf_0 : List zOp := [(.aload_n 0, 1, 0, 0, 0, 0, 0, 0, 0, []), (.getfield 19, 4, 6, 1, 0, 0, 225, 0, 0, []), (.getfield 46, 7, 8, 8, 0, 0, 87, 0, 0, []), (.aload_n 0, 8, 0, 0, 0, 0, 0, 0, 0, []), (.getfield 15, 11, 6, 0, 0, 0, 219, 0, 0, []), (.getfield 51, 14, 3, 4, 0, 0, 173, 0, 0, []), (.iload_n 1, 15, 1, 0, 0, 0, 0, 0, 0, []), (.invokestatic 26, 18, 66, 2, 1, 0, 216, 0, 0, []), (.invokestatic 26, 21, 66, 2, 1, 0, 216, 0, 0, []), (.ireturn, 22, 0, 0, 0, 0, 0, 0, 0, [])]
set_option maxRecDepth 100000 in
theorem zk_X6_weightOf_0 : zOks nX6_weightOf zo_X6_weightOf_0 0 = true := by decide +kernel
def zm_X6_weightOf : List (Nat × List Bool) := [(0, [true, true])]
set_option maxRecDepth 100000 in
set_option maxHeartbeats 4000000 in
theorem zr_X6_weightOf_0 {C : zCa} {post : zPo} {X : zX} (hX : zClosed none C post nX6_weightOf X) (p0 : Int32) (σ : zS) (h : C nX11_at [.ref 18, .int p0] σ (zPI fun x2 σ1 => C nX11_at [.ref 5, .int x2] σ1 (zPI fun x4 σ3 => post (some (.int x4)) σ3))) : X 0 [some (.ref 24), some (.int p0)] [] σ := zSeq_ok hX zm_X6_weightOf zo_X6_weightOf_0 0 0 _ _ _ zk_X6_weightOf_0 h
theorem ze_X6_weightOf {d : Nat} {post : zPo} (p0 : Int32) (σ : zS) (h : ∀ X : zX, zClosed none (zCall d) post nX6_weightOf X → X 0 [some (.ref 24), some (.int p0)] [] σ) : zCall (d + 1) nX6_weightOf [.ref 24, .int p0] σ post := h
-- X6_lossOf(24,) depth 3
def zo_X6_lossOf_0 : List zOp := [(.aload_n 0, 1, 0, 0, 0, 0, 0, 0, 0, []), (.getfield 9, 4, 6, 2, 0, 0, 229, 0, 0, []), (.iload_n 2, 5, 2, 0, 0, 0, 0, 0, 0, []), (.invokestatic 26, 8, 66, 2, 1, 0, 216, 0, 0, []), (.istore_n 3, 9, 3, 0, 0, 0, 0, 0, 0, []), (.iconst 3, 10, 0, 0, 0, 0, 0, 3, 0, []), (.aload_n 0, 11, 0, 0, 0, 0, 0, 0, 0, []), (.getfield 15, 14, 6, 0, 0, 0, 219, 0, 0, []), (.getfield 39, 17, 3, 3, 0, 0, 169, 0, 0, []), (.iload_n 1, 18, 1, 0, 0, 0, 0, 0, 0, []), (.invokestatic 26, 21, 66, 2, 1, 0, 216, 0, 0, []), (.isub, 22, 0, 0, 0, 0, 0, 0, 0, []), (.istore 4, 24, 4, 0, 0, 0, 0, 0, 0, []), (.aload_n 0, 25, 0, 0, 0, 0, 0, 0, 0, []), (.iload_n 1, 26, 1, 0, 0, 0, 0, 0, 0, []), (.invokevirtual 42, 29, 32, 2, 1, 6, 597, 0, 0, []), (.iload 4, 31, 4, 0, 0, 0, 0, 0, 0, []), (.imul, 32, 0, 0, 0, 0, 0, 0, 0, []), (.iload_n 3, 33, 3, 0, 0, 0, 0, 0, 0, []), (.imul, 34, 0, 0, 0, 0, 0, 0, 0, []), (.iload_n 3, 35, 3, 0, 0, 0, 0, 0, 0, []), (.imul, 36, 0, 0, 0, 0, 0, 0, 0, []), (.bipush 16, 38, 0, 0, 0, 0, 0, 16, 0, []), (.idiv, 39, 0, 0, 0, 0, 0, 0, 0, []), (.ireturn, 40, 0, 0, 0, 0, 0, 0, 0, [])]
set_option maxRecDepth 100000 in
theorem zk_X6_lossOf_0 : zOks nX6_lossOf zo_X6_lossOf_0 0 = true := by decide +kernel
def zm_X6_lossOf : List (Nat × List Bool) := [(0, [true, true, true, false, false])]
set_option maxRecDepth 100000 in
set_option maxHeartbeats 4000000 in
theorem zr_X6_lossOf_0 {C : zCa} {post : zPo} {X : zX} (hX : zClosed none C post nX6_lossOf X) (p0 : Int32) (p1 : Int32) (σ : zS) (h : C nX11_at [.ref 25, .int p1] σ (zPI fun x2 σ1 => C nX11_at [.ref 17, .int p0] σ1 (zPI fun x4 σ3 => C nX6_weightOf [.ref 24, .int p0] σ3 (zPI fun x6 σ5 => ¬ (16 : Int32) = 0 ∧ (post (some (.int ((((x6 * (3 - x4)) * x2) * x2) / 16))) σ5))))) : X 0 [some (.ref 24), some (.int p0), some (.int p1), none, none] [] σ := zSeq_ok hX zm_X6_lossOf zo_X6_lossOf_0 0 0 _ _ _ zk_X6_lossOf_0 h
theorem ze_X6_lossOf {d : Nat} {post : zPo} (p0 : Int32) (p1 : Int32) (σ : zS) (h : ∀ X : zX, zClosed none (zCall d) post nX6_lossOf X → X 0 [some (.ref 24), some (.int p0), some (.int p1), none, none] [] σ) : zCall (d + 1) nX6_lossOf [.ref 24, .int p0, .int p1] σ post := h
-- X1_begin(26,) depth 1
def zo_X1_begin_0 : List zOp := [(.aload_n 0, 1, 0, 0, 0, 0, 0, 0, 0, []), (.iload_n 1, 2, 1, 0, 0, 0, 0, 0, 0, []), (.putfield 95, 5, 1, 7, 1, 0, 256, 0, 0, []), (.aload_n 0, 6, 0, 0, 0, 0, 0, 0, 0, []), (.iload_n 3, 7, 3, 0, 0, 0, 0, 0, 0, []), (.putfield 96, 10, 1, 8, 1, 0, 257, 0, 0, []), (.aload_n 0, 11, 0, 0, 0, 0, 0, 0, 0, []), (.iload_n 1, 12, 1, 0, 0, 0, 0, 0, 0, []), (.iload_n 2, 13, 2, 0, 0, 0, 0, 0, 0, []), (.imul, 14, 0, 0, 0, 0, 0, 0, 0, []), (.bipush 100, 16, 0, 0, 0, 0, 0, 100, 0, []), (.idiv, 17, 0, 0, 0, 0, 0, 0, 0, []), (.putfield 97, 20, 1, 9, 1, 0, 258, 0, 0, []), (.aload_n 0, 21, 0, 0, 0, 0, 0, 0, 0, []), (.iconst 0, 22, 0, 0, 0, 0, 0, 0, 0, []), (.putfield 100, 25, 1, 0, 1, 0, 243, 0, 0, []), (.return_, 26, 0, 0, 0, 0, 0, 0, 0, [])]
set_option maxRecDepth 100000 in
theorem zk_X1_begin_0 : zOks nX1_begin zo_X1_begin_0 0 = true := by decide +kernel
def zm_X1_begin : List (Nat × List Bool) := [(0, [true, true, true, true])]
set_option maxRecDepth 100000 in
set_option maxHeartbeats 4000000 in
theorem zr_X1_begin_0 {C : zCa} {post : zPo} {X : zX} (hX : zClosed none C post nX1_begin X) (p0 : Int32) (p1 : Int32) (p2 : Int32) (σ : zS) (h : ¬ (100 : Int32) = 0 ∧ (post none (zSI (zSI (zSI (zSI σ 26 7 p0) 26 8 p2) 26 9 ((p0 * p1) / 100)) 26 0 0))) : X 0 [some (.ref 26), some (.int p0), some (.int p1), some (.int p2)] [] σ := zSeq_ok hX zm_X1_begin zo_X1_begin_0 0 0 _ _ _ zk_X1_begin_0 h
theorem ze_X1_begin {d : Nat} {post : zPo} (p0 : Int32) (p1 : Int32) (p2 : Int32) (σ : zS) (h : ∀ X : zX, zClosed none (zCall d) post nX1_begin X → X 0 [some (.ref 26), some (.int p0), some (.int p1), some (.int p2)] [] σ) : zCall (d + 1) nX1_begin [.ref 26, .int p0, .int p1, .int p2] σ post := h
-- X1_fillBefore(26,) depth 2
def zo_X1_fillBefore_0 : List zOp := [(.iload_n 1, 1, 1, 0, 0, 0, 0, 0, 0, []), (.ifCond .ne 10, 4, 11, 0, 0, 0, 0, 0, 0, []), (.aload_n 0, 5, 0, 0, 0, 0, 0, 0, 0, []), (.getfield 97, 8, 1, 9, 1, 0, 258, 0, 0, []), (.goto 12, 11, 20, 0, 0, 0, 0, 0, 0, []), (.aload_n 0, 12, 0, 0, 0, 0, 0, 0, 0, []), (.getfield 97, 15, 1, 9, 1, 0, 258, 0, 0, []), (.aload_n 0, 16, 0, 0, 0, 0, 0, 0, 0, []), (.getfield 96, 19, 1, 8, 1, 0, 257, 0, 0, []), (.iadd, 20, 0, 0, 0, 0, 0, 0, 0, []), (.istore_n 2, 21, 2, 0, 0, 0, 0, 0, 0, []), (.aload_n 0, 22, 0, 0, 0, 0, 0, 0, 0, []), (.iload_n 2, 23, 2, 0, 0, 0, 0, 0, 0, []), (.aload_n 0, 24, 0, 0, 0, 0, 0, 0, 0, []), (.getfield 95, 27, 1, 7, 1, 0, 256, 0, 0, []), (.invokestatic 103, 30, 0, 0, 0, 2, 579, 0, 0, []), (.putfield 97, 33, 1, 9, 1, 0, 258, 0, 0, []), (.aload_n 0, 34, 0, 0, 0, 0, 0, 0, 0, []), (.getfield 15, 37, 1, 2, 0, 0, 247, 0, 0, []), (.iload_n 1, 38, 1, 0, 0, 0, 0, 0, 0, []), (.aload_n 0, 39, 0, 0, 0, 0, 0, 0, 0, []), (.getfield 97, 42, 1, 9, 1, 0, 258, 0, 0, []), (.invokestatic 61, 45, 67, 3, 0, 0, 562, 0, 0, []), (.aload_n 0, 46, 0, 0, 0, 0, 0, 0, 0, []), (.getfield 24, 49, 1, 5, 0, 0, 253, 0, 0, []), (.iload_n 1, 50, 1, 0, 0, 0, 0, 0, 0, []), (.iload_n 2, 51, 2, 0, 0, 0, 0, 0, 0, []), (.aload_n 0, 52, 0, 0, 0, 0, 0, 0, 0, []), (.getfield 97, 55, 1, 9, 1, 0, 258, 0, 0, []), (.isub, 56, 0, 0, 0, 0, 0, 0, 0, []), (.invokestatic 61, 59, 67, 3, 0, 0, 562, 0, 0, []), (.aload_n 0, 60, 0, 0, 0, 0, 0, 0, 0, []), (.getfield 97, 63, 1, 9, 1, 0, 258, 0, 0, []), (.ireturn, 64, 0, 0, 0, 0, 0, 0, 0, [])]
set_option maxRecDepth 100000 in
theorem zk_X1_fillBefore_0 : zOks nX1_fillBefore zo_X1_fillBefore_0 0 = true := by decide +kernel
def zm_X1_fillBefore : List (Nat × List Bool) := [(0, [true, true, false])]
set_option maxRecDepth 100000 in
set_option maxHeartbeats 4000000 in
theorem zr_X1_fillBefore_0 {C : zCa} {post : zPo} {X : zX} (hX : zClosed none C post nX1_fillBefore X) (p0 : Int32) (σ : zS) (h : zIf ((p0 : Int32) = 0) (C nX11_put [.ref 28, .int p0, .int ((zSI σ 26 9 (if ((σ.1 26 7 : Int32) < (σ.1 26 9)) then σ.1 26 7 else σ.1 26 9)).1 26 9)] (zSI σ 26 9 (if ((σ.1 26 7 : Int32) < (σ.1 26 9)) then σ.1 26 7 else σ.1 26 9)) (zPV fun σ1 => C nX11_put [.ref 31, .int p0, .int ((σ.1 26 9) - (σ1.1 26 9))] σ1 (zPV fun σ2 => post (some (.int (σ2.1 26 9))) σ2))) (C nX11_put [.ref 28, .int p0, .int ((zSI σ 26 9 (if ((σ.1 26 7 : Int32) < ((σ.1 26 9) + (σ.1 26 8))) then σ.1 26 7 else (σ.1 26 9) + (σ.1 26 8))).1 26 9)] (zSI σ 26 9 (if ((σ.1 26 7 : Int32) < ((σ.1 26 9) + (σ.1 26 8))) then σ.1 26 7 else (σ.1 26 9) + (σ.1 26 8))) (zPV fun σ3 => C nX11_put [.ref 31, .int p0, .int (((σ.1 26 9) + (σ.1 26 8)) - (σ3.1 26 9))] σ3 (zPV fun σ4 => post (some (.int (σ4.1 26 9))) σ4)))) : X 0 [some (.ref 26), some (.int p0), none] [] σ := zSeq_ok hX zm_X1_fillBefore zo_X1_fillBefore_0 0 0 _ _ _ zk_X1_fillBefore_0 h
theorem ze_X1_fillBefore {d : Nat} {post : zPo} (p0 : Int32) (σ : zS) (h : ∀ X : zX, zClosed none (zCall d) post nX1_fillBefore X → X 0 [some (.ref 26), some (.int p0), none] [] σ) : zCall (d + 1) nX1_fillBefore [.ref 26, .int p0] σ post := h
-- X1_takeOut(26,) depth 2
def zo_X1_takeOut_0 : List zOp := [(.iconst 0, 1, 0, 0, 0, 0, 0, 0, 0, []), (.iload_n 2, 2, 2, 0, 0, 0, 0, 0, 0, []), (.aload_n 0, 3, 0, 0, 0, 0, 0, 0, 0, []), (.getfield 97, 6, 1, 9, 1, 0, 258, 0, 0, []), (.isub, 7, 0, 0, 0, 0, 0, 0, 0, []), (.invokestatic 108, 10, 0, 0, 0, 1, 584, 0, 0, []), (.istore_n 3, 11, 3, 0, 0, 0, 0, 0, 0, []), (.iload_n 3, 12, 3, 0, 0, 0, 0, 0, 0, []), (.ifCond .le 13, 15, 25, 0, 0, 0, 0, 0, 0, []), (.aload_n 0, 16, 0, 0, 0, 0, 0, 0, 0, []), (.dup, 17, 0, 0, 0, 0, 0, 0, 0, []), (.getfield 100, 20, 1, 0, 1, 0, 243, 0, 0, []), (.iconst 1, 21, 0, 0, 0, 0, 0, 1, 0, []), (.iadd, 22, 0, 0, 0, 0, 0, 0, 0, []), (.putfield 100, 25, 1, 0, 1, 0, 243, 0, 0, []), (.aload_n 0, 26, 0, 0, 0, 0, 0, 0, 0, []), (.iconst 0, 27, 0, 0, 0, 0, 0, 0, 0, []), (.aload_n 0, 28, 0, 0, 0, 0, 0, 0, 0, []), (.getfield 97, 31, 1, 9, 1, 0, 258, 0, 0, []), (.iload_n 2, 32, 2, 0, 0, 0, 0, 0, 0, []), (.isub, 33, 0, 0, 0, 0, 0, 0, 0, []), (.invokestatic 108, 36, 0, 0, 0, 1, 584, 0, 0, []), (.putfield 97, 39, 1, 9, 1, 0, 258, 0, 0, []), (.aload_n 0, 40, 0, 0, 0, 0, 0, 0, 0, []), (.getfield 21, 43, 1, 4, 0, 0, 251, 0, 0, []), (.iload_n 1, 44, 1, 0, 0, 0, 0, 0, 0, []), (.iload_n 3, 45, 3, 0, 0, 0, 0, 0, 0, []), (.invokestatic 61, 48, 67, 3, 0, 0, 562, 0, 0, []), (.aload_n 0, 49, 0, 0, 0, 0, 0, 0, 0, []), (.getfield 18, 52, 1, 3, 0, 0, 249, 0, 0, []), (.iload_n 1, 53, 1, 0, 0, 0, 0, 0, 0, []), (.aload_n 0, 54, 0, 0, 0, 0, 0, 0, 0, []), (.getfield 97, 57, 1, 9, 1, 0, 258, 0, 0, []), (.invokestatic 61, 60, 67, 3, 0, 0, 562, 0, 0, []), (.return_, 61, 0, 0, 0, 0, 0, 0, 0, [])]
set_option maxRecDepth 100000 in
theorem zk_X1_takeOut_0 : zOks nX1_takeOut zo_X1_takeOut_0 0 = true := by decide +kernel
def zm_X1_takeOut : List (Nat × List Bool) := [(0, [true, true, true, false])]
set_option maxRecDepth 100000 in
set_option maxHeartbeats 4000000 in
theorem zr_X1_takeOut_0 {C : zCa} {post : zPo} {X : zX} (hX : zClosed none C post nX1_takeOut X) (p0 : Int32) (p1 : Int32) (σ : zS) (h : zIf ((if ((0 : Int32) < (p1 - (σ.1 26 9))) then p1 - (σ.1 26 9) else 0 : Int32) ≤ 0) (C nX11_put [.ref 30, .int p0, .int (if ((0 : Int32) < (p1 - (σ.1 26 9))) then p1 - (σ.1 26 9) else 0)] (zSI σ 26 9 (if ((0 : Int32) < ((σ.1 26 9) - p1)) then (σ.1 26 9) - p1 else 0)) (zPV fun σ1 => C nX11_put [.ref 29, .int p0, .int (σ1.1 26 9)] σ1 (zPV fun σ2 => post none σ2))) (C nX11_put [.ref 30, .int p0, .int (if ((0 : Int32) < (p1 - (σ.1 26 9))) then p1 - (σ.1 26 9) else 0)] (zSI (zSI σ 26 0 ((σ.1 26 0) + 1)) 26 9 (if ((0 : Int32) < (((zSI σ 26 0 ((σ.1 26 0) + 1)).1 26 9) - p1)) then ((zSI σ 26 0 ((σ.1 26 0) + 1)).1 26 9) - p1 else 0)) (zPV fun σ3 => C nX11_put [.ref 29, .int p0, .int (σ3.1 26 9)] σ3 (zPV fun σ4 => post none σ4)))) : X 0 [some (.ref 26), some (.int p0), some (.int p1), none] [] σ := zSeq_ok hX zm_X1_takeOut zo_X1_takeOut_0 0 0 _ _ _ zk_X1_takeOut_0 h
theorem ze_X1_takeOut {d : Nat} {post : zPo} (p0 : Int32) (p1 : Int32) (σ : zS) (h : ∀ X : zX, zClosed none (zCall d) post nX1_takeOut X → X 0 [some (.ref 26), some (.int p0), some (.int p1), none] [] σ) : zCall (d + 1) nX1_takeOut [.ref 26, .int p0, .int p1] σ post := h
-- X1_pass(26,) depth 3
def zo_X1_pass_0 : List zOp := [(.aload_n 0, 1, 0, 0, 0, 0, 0, 0, 0, []), (.iload_n 1, 2, 1, 0, 0, 0, 0, 0, 0, []), (.iload_n 2, 3, 2, 0, 0, 0, 0, 0, 0, []), (.iload_n 3, 4, 3, 0, 0, 0, 0, 0, 0, []), (.invokevirtual 84, 7, 8, 4, 0, 1, 571, 0, 0, []), (.iconst 0, 8, 0, 0, 0, 0, 0, 0, 0, []), (.istore 4, 10, 4, 0, 0, 0, 0, 0, 0, [])]
set_option maxRecDepth 100000 in
theorem zk_X1_pass_0 : zOks nX1_pass zo_X1_pass_0 0 = true := by decide +kernel
def zo_X1_pass_10 : List zOp := [(.iload 4, 12, 4, 0, 0, 0, 0, 0, 0, []), (.aload_n 0, 13, 0, 0, 0, 0, 0, 0, 0, []), (.getfield 27, 16, 1, 6, 0, 0, 255, 0, 0, []), (.getfield 38, 19, 6, 0, 0, 0, 223, 0, 0, []), (.getfield 44, 22, 3, 0, 1, 0, 163, 0, 0, []), (.if_icmp .ge 31, 25, 53, 0, 0, 0, 0, 0, 0, []), (.aload_n 0, 26, 0, 0, 0, 0, 0, 0, 0, []), (.iload 4, 28, 4, 0, 0, 0, 0, 0, 0, []), (.invokevirtual 87, 31, 9, 2, 1, 1, 575, 0, 0, []), (.pop, 32, 0, 0, 0, 0, 0, 0, 0, []), (.aload_n 0, 33, 0, 0, 0, 0, 0, 0, 0, []), (.iload 4, 35, 4, 0, 0, 0, 0, 0, 0, []), (.aload_n 0, 36, 0, 0, 0, 0, 0, 0, 0, []), (.getfield 9, 39, 1, 1, 0, 0, 245, 0, 0, []), (.iload 4, 41, 4, 0, 0, 0, 0, 0, 0, []), (.invokestatic 53, 44, 66, 2, 1, 0, 554, 0, 0, []), (.invokevirtual 91, 47, 10, 3, 0, 1, 580, 0, 0, []), (.iinc 4 1, 50, 4, 0, 0, 0, 0, 1, 0, []), (.goto (-40), 53, 10, 0, 0, 0, 0, 0, 0, []), (.return_, 54, 0, 0, 0, 0, 0, 0, 0, [])]
set_option maxRecDepth 100000 in
theorem zk_X1_pass_10 : zOks nX1_pass zo_X1_pass_10 10 = true := by decide +kernel
def zm_X1_pass : List (Nat × List Bool) := [(0, [true, true, true, true, false]), (10, [true, false, false, false, true])]
set_option maxRecDepth 100000 in
set_option maxHeartbeats 4000000 in
theorem zr_X1_pass_0 {C : zCa} {post : zPo} {X : zX} (hX : zClosed none C post nX1_pass X) (p0 : Int32) (p1 : Int32) (p2 : Int32) (σ : zS) (h : C nX1_begin [.ref 26, .int p0, .int p1, .int p2] σ (zPV fun σ1 => X 10 [some (.ref 26), none, none, none, some (.int 0)] [] σ1)) : X 0 [some (.ref 26), some (.int p0), some (.int p1), some (.int p2), none] [] σ := zSeq_ok hX zm_X1_pass zo_X1_pass_0 0 0 _ _ _ zk_X1_pass_0 h
set_option maxRecDepth 100000 in
set_option maxHeartbeats 4000000 in
theorem zr_X1_pass_10 {C : zCa} {post : zPo} {X : zX} (hX : zClosed none C post nX1_pass X) (v4 : Int32) (σ : zS) (h : zIf ((v4 : Int32) < (σ.1 16 0)) (C nX1_fillBefore [.ref 26, .int v4] σ (zPI fun x2 σ1 => C nX11_at [.ref 27, .int v4] σ1 (zPI fun x4 σ3 => C nX1_takeOut [.ref 26, .int v4, .int x4] σ3 (zPV fun σ5 => X 10 [some (.ref 26), none, none, none, some (.int (v4 + 1))] [] σ5)))) (post none σ)) : X 10 [some (.ref 26), none, none, none, some (.int v4)] [] σ := zSeq_ok hX zm_X1_pass zo_X1_pass_10 10 10 _ _ _ zk_X1_pass_10 h
theorem ze_X1_pass {d : Nat} {post : zPo} (p0 : Int32) (p1 : Int32) (p2 : Int32) (σ : zS) (h : ∀ X : zX, zClosed none (zCall d) post nX1_pass X → X 0 [some (.ref 26), some (.int p0), some (.int p1), some (.int p2), none] [] σ) : zCall (d + 1) nX1_pass [.ref 26, .int p0, .int p1, .int p2] σ post := h
-- X1_passAsSet(26,) depth 4
def zo_X1_passAsSet_0 : List zOp := [(.aload_n 0, 1, 0, 0, 0, 0, 0, 0, 0, []), (.aload_n 0, 2, 0, 0, 0, 0, 0, 0, 0, []), (.getfield 27, 5, 1, 6, 0, 0, 255, 0, 0, []), (.getfield 65, 8, 6, 1, 0, 0, 228, 0, 0, []), (.getfield 69, 11, 8, 4, 1, 0, 76, 0, 0, []), (.aload_n 0, 12, 0, 0, 0, 0, 0, 0, 0, []), (.getfield 27, 15, 1, 6, 0, 0, 255, 0, 0, []), (.getfield 65, 18, 6, 1, 0, 0, 228, 0, 0, []), (.getfield 74, 21, 8, 5, 1, 0, 79, 0, 0, []), (.aload_n 0, 22, 0, 0, 0, 0, 0, 0, 0, []), (.getfield 27, 25, 1, 6, 0, 0, 255, 0, 0, []), (.getfield 65, 28, 6, 1, 0, 0, 228, 0, 0, []), (.getfield 77, 31, 8, 6, 1, 0, 82, 0, 0, []), (.invokevirtual 80, 34, 7, 4, 0, 1, 567, 0, 0, []), (.return_, 35, 0, 0, 0, 0, 0, 0, 0, [])]
set_option maxRecDepth 100000 in
theorem zk_X1_passAsSet_0 : zOks nX1_passAsSet zo_X1_passAsSet_0 0 = true := by decide +kernel
def zm_X1_passAsSet : List (Nat × List Bool) := [(0, [true])]
set_option maxRecDepth 100000 in
set_option maxHeartbeats 4000000 in
theorem zr_X1_passAsSet_0 {C : zCa} {post : zPo} {X : zX} (hX : zClosed none C post nX1_passAsSet X) (σ : zS) (h : C nX1_pass [.ref 26, .int (σ.1 4 4), .int (σ.1 4 5), .int (σ.1 4 6)] σ (zPV fun σ1 => post none σ1)) : X 0 [some (.ref 26)] [] σ := zSeq_ok hX zm_X1_passAsSet zo_X1_passAsSet_0 0 0 _ _ _ zk_X1_passAsSet_0 h
theorem ze_X1_passAsSet {d : Nat} {post : zPo} (σ : zS) (h : ∀ X : zX, zClosed none (zCall d) post nX1_passAsSet X → X 0 [some (.ref 26)] [] σ) : zCall (d + 1) nX1_passAsSet [.ref 26] σ post := h
-- X1_takeBits(26, None) depth 3
def zo_X1_takeBits_0 : List zOp := [(.iconst 0, 1, 0, 0, 0, 0, 0, 0, 0, []), (.istore_n 2, 2, 2, 0, 0, 0, 0, 0, 0, [])]
set_option maxRecDepth 100000 in
theorem zk_X1_takeBits_0 : zOks nX1_takeBits zo_X1_takeBits_0 0 = true := by decide +kernel
def zo_X1_takeBits_2 : List zOp := [(.iload_n 2, 3, 2, 0, 0, 0, 0, 0, 0, []), (.aload_n 0, 4, 0, 0, 0, 0, 0, 0, 0, []), (.getfield 27, 7, 1, 6, 0, 0, 255, 0, 0, []), (.getfield 38, 10, 6, 0, 0, 0, 223, 0, 0, []), (.getfield 44, 13, 3, 0, 1, 0, 163, 0, 0, []), (.if_icmp .ge 45, 16, 58, 0, 0, 0, 0, 0, 0, []), (.aload_n 0, 17, 0, 0, 0, 0, 0, 0, 0, []), (.getfield 27, 20, 1, 6, 0, 0, 255, 0, 0, []), (.getfield 38, 23, 6, 0, 0, 0, 223, 0, 0, []), (.getfield 50, 26, 3, 9, 0, 0, 185, 0, 0, []), (.iload_n 2, 27, 2, 0, 0, 0, 0, 0, 0, []), (.invokestatic 53, 30, 66, 2, 1, 0, 554, 0, 0, []), (.istore_n 3, 31, 3, 0, 0, 0, 0, 0, 0, []), (.aload_n 0, 32, 0, 0, 0, 0, 0, 0, 0, []), (.getfield 9, 35, 1, 1, 0, 0, 245, 0, 0, []), (.iload_n 2, 36, 2, 0, 0, 0, 0, 0, 0, []), (.aload_n 0, 37, 0, 0, 0, 0, 0, 0, 0, []), (.getfield 27, 40, 1, 6, 0, 0, 255, 0, 0, []), (.iload_n 3, 41, 3, 0, 0, 0, 0, 0, 0, []), (.aload_n 1, 42, 1, 0, 0, 0, 0, 0, 0, []), (.iload_n 3, 43, 3, 0, 0, 0, 0, 0, 0, []), (.invokestatic 53, 46, 66, 2, 1, 0, 554, 0, 0, []), (.invokevirtual 57, 49, 30, 3, 1, 6, 555, 0, 0, []), (.invokestatic 61, 52, 67, 3, 0, 0, 562, 0, 0, []), (.iinc 2 1, 55, 2, 0, 0, 0, 0, 1, 0, []), (.goto (-53), 58, 2, 0, 0, 0, 0, 0, 0, []), (.return_, 59, 0, 0, 0, 0, 0, 0, 0, [])]
set_option maxRecDepth 100000 in
theorem zk_X1_takeBits_2 : zOks nX1_takeBits zo_X1_takeBits_2 2 = true := by decide +kernel
def zm_X1_takeBits : List (Nat × List Bool) := [(0, [true, true, false, false]), (2, [true, true, true, false])]
set_option maxRecDepth 100000 in
set_option maxHeartbeats 4000000 in
theorem zr_X1_takeBits_0 {C : zCa} {post : zPo} {X : zX} (hX : zClosed none C post nX1_takeBits X) (p0 : Nat) (σ : zS) (h : X 2 [some (.ref 26), some (.ref p0), some (.int 0), none] [] σ) : X 0 [some (.ref 26), some (.ref p0), none, none] [] σ := zSeq_ok hX zm_X1_takeBits zo_X1_takeBits_0 0 0 _ _ _ zk_X1_takeBits_0 h
set_option maxRecDepth 100000 in
set_option maxHeartbeats 4000000 in
theorem zr_X1_takeBits_2 {C : zCa} {post : zPo} {X : zX} (hX : zClosed none C post nX1_takeBits X) (p0 : Nat) (v2 : Int32) (σ : zS) (h : zIf ((v2 : Int32) < (σ.1 16 0)) (C nX11_at [.ref 23, .int v2] σ (zPI fun x2 σ1 => C nX11_at [.ref p0, .int x2] σ1 (zPI fun x4 σ3 => C nX6_bitsOf [.ref 24, .int x2, .int x4] σ3 (zPI fun x6 σ5 => C nX11_put [.ref 27, .int v2, .int x6] σ5 (zPV fun σ7 => X 2 [some (.ref 26), some (.ref p0), some (.int (v2 + 1)), none] [] σ7))))) (post none σ)) : X 2 [some (.ref 26), some (.ref p0), some (.int v2), none] [] σ := zSeq_ok hX zm_X1_takeBits zo_X1_takeBits_2 2 2 _ _ _ zk_X1_takeBits_2 h
theorem ze_X1_takeBits {d : Nat} {post : zPo} (p0 : Nat) (σ : zS) (h : ∀ X : zX, zClosed none (zCall d) post nX1_takeBits X → X 0 [some (.ref 26), some (.ref p0), none, none] [] σ) : zCall (d + 1) nX1_takeBits [.ref 26, .ref p0] σ post := h
-- X1_follow(26, None) depth 5
def zo_X1_follow_0 : List zOp := [(.aload_n 0, 1, 0, 0, 0, 0, 0, 0, 0, []), (.aload_n 1, 2, 1, 0, 0, 0, 0, 0, 0, []), (.invokevirtual 31, 5, 5, 2, 0, 1, 550, 0, 0, []), (.aload_n 0, 6, 0, 0, 0, 0, 0, 0, 0, []), (.invokevirtual 35, 9, 6, 1, 0, 1, 563, 0, 0, []), (.return_, 10, 0, 0, 0, 0, 0, 0, 0, [])]
set_option maxRecDepth 100000 in
theorem zk_X1_follow_0 : zOks nX1_follow zo_X1_follow_0 0 = true := by decide +kernel
def zm_X1_follow : List (Nat × List Bool) := [(0, [true, true])]
set_option maxRecDepth 100000 in
set_option maxHeartbeats 4000000 in
theorem zr_X1_follow_0 {C : zCa} {post : zPo} {X : zX} (hX : zClosed none C post nX1_follow X) (p0 : Nat) (σ : zS) (h : C nX1_takeBits [.ref 26, .ref p0] σ (zPV fun σ1 => C nX1_passAsSet [.ref 26] σ1 (zPV fun σ2 => post none σ2))) : X 0 [some (.ref 26), some (.ref p0)] [] σ := zSeq_ok hX zm_X1_follow zo_X1_follow_0 0 0 _ _ _ zk_X1_follow_0 h
theorem ze_X1_follow {d : Nat} {post : zPo} (p0 : Nat) (σ : zS) (h : ∀ X : zX, zClosed none (zCall d) post nX1_follow X → X 0 [some (.ref 26), some (.ref p0)] [] σ) : zCall (d + 1) nX1_follow [.ref 26, .ref p0] σ post := h
-- X4_offsetOf(32,) depth 2
def zo_X4_offsetOf_0 : List zOp := [(.aload_n 0, 1, 0, 0, 0, 0, 0, 0, 0, []), (.getfield 30, 4, 4, 2, 0, 0, 288, 0, 0, []), (.getfield 91, 7, 3, 3, 0, 0, 170, 0, 0, []), (.iload_n 1, 8, 1, 0, 0, 0, 0, 0, 0, []), (.invokestatic 73, 11, 66, 2, 1, 0, 525, 0, 0, []), (.lookupswitch 30 #[(0, 25), (1, 28)], 36, 41, 0, 0, 0, 0, 0, 0, [(0, 36), (1, 39)]), (.bipush (-3), 38, 0, 0, 0, 0, 0, (-3), 0, []), (.ireturn, 39, 0, 0, 0, 0, 0, 0, 0, []), (.iconst 0, 40, 0, 0, 0, 0, 0, 0, 0, []), (.ireturn, 41, 0, 0, 0, 0, 0, 0, 0, []), (.iconst 2, 42, 0, 0, 0, 0, 0, 2, 0, []), (.ireturn, 43, 0, 0, 0, 0, 0, 0, 0, [])]
set_option maxRecDepth 100000 in
theorem zk_X4_offsetOf_0 : zOks nX4_offsetOf zo_X4_offsetOf_0 0 = true := by decide +kernel
def zm_X4_offsetOf : List (Nat × List Bool) := [(0, [true, true])]
set_option maxRecDepth 100000 in
set_option maxHeartbeats 4000000 in
theorem zr_X4_offsetOf_0 {C : zCa} {post : zPo} {X : zX} (hX : zClosed none C post nX4_offsetOf X) (p0 : Int32) (σ : zS) (h : C nX11_at [.ref 17, .int p0] σ (zPI fun x2 σ1 => ((x2 : Int32) = 0 → (post (some (.int (-3))) σ1)) ∧ (¬ (x2 : Int32) = 0 → ((x2 : Int32) = 1 → (post (some (.int 0)) σ1)) ∧ (¬ (x2 : Int32) = 1 → post (some (.int 2)) σ1)))) : X 0 [some (.ref 32), some (.int p0)] [] σ := zSeq_ok hX zm_X4_offsetOf zo_X4_offsetOf_0 0 0 _ _ _ zk_X4_offsetOf_0 h
theorem ze_X4_offsetOf {d : Nat} {post : zPo} (p0 : Int32) (σ : zS) (h : ∀ X : zX, zClosed none (zCall d) post nX4_offsetOf X → X 0 [some (.ref 32), some (.int p0)] [] σ) : zCall (d + 1) nX4_offsetOf [.ref 32, .int p0] σ post := h
-- X8_settle(4,) depth 2
def zo_X8_settle_0 : List zOp := [(.iload_n 2, 1, 2, 0, 0, 0, 0, 0, 0, []), (.istore_n 3, 2, 3, 0, 0, 0, 0, 0, 0, []), (.iconst 0, 3, 0, 0, 0, 0, 0, 0, 0, []), (.istore 4, 5, 4, 0, 0, 0, 0, 0, 0, [])]
set_option maxRecDepth 100000 in
theorem zk_X8_settle_0 : zOks nX8_settle zo_X8_settle_0 0 = true := by decide +kernel
def zo_X8_settle_5 : List zOp := [(.iload 4, 7, 4, 0, 0, 0, 0, 0, 0, []), (.aload_n 0, 8, 0, 0, 0, 0, 0, 0, 0, []), (.getfield 47, 11, 8, 7, 1, 0, 84, 0, 0, []), (.if_icmp .ge 46, 14, 57, 0, 0, 0, 0, 0, 0, []), (.iload_n 1, 15, 1, 0, 0, 0, 0, 0, 0, []), (.aload_n 0, 16, 0, 0, 0, 0, 0, 0, 0, []), (.getfield 38, 19, 8, 9, 0, 0, 89, 0, 0, []), (.iload 4, 21, 4, 0, 0, 0, 0, 0, 0, []), (.invokestatic 54, 24, 66, 2, 1, 0, 530, 0, 0, []), (.aload_n 0, 25, 0, 0, 0, 0, 0, 0, 0, []), (.getfield 41, 28, 8, 10, 0, 0, 90, 0, 0, []), (.iload 4, 30, 4, 0, 0, 0, 0, 0, 0, []), (.invokestatic 54, 33, 66, 2, 1, 0, 530, 0, 0, []), (.invokestatic 58, 36, 64, 3, 1, 0, 531, 0, 0, []), (.ifCond .eq 15, 39, 51, 0, 0, 0, 0, 0, 0, []), (.iload_n 3, 40, 3, 0, 0, 0, 0, 0, 0, []), (.aload_n 0, 41, 0, 0, 0, 0, 0, 0, 0, []), (.getfield 44, 44, 8, 11, 0, 0, 91, 0, 0, []), (.iload 4, 46, 4, 0, 0, 0, 0, 0, 0, []), (.invokestatic 54, 49, 66, 2, 1, 0, 530, 0, 0, []), (.iadd, 50, 0, 0, 0, 0, 0, 0, 0, []), (.istore_n 3, 51, 3, 0, 0, 0, 0, 0, 0, []), (.iinc 4 1, 54, 4, 0, 0, 0, 0, 1, 0, []), (.goto (-49), 57, 5, 0, 0, 0, 0, 0, 0, []), (.iload_n 3, 58, 3, 0, 0, 0, 0, 0, 0, []), (.aload_n 0, 59, 0, 0, 0, 0, 0, 0, 0, []), (.getfield 18, 62, 8, 2, 1, 0, 73, 0, 0, []), (.aload_n 0, 63, 0, 0, 0, 0, 0, 0, 0, []), (.getfield 21, 66, 8, 3, 1, 0, 74, 0, 0, []), (.invokestatic 62, 69, 65, 3, 1, 0, 532, 0, 0, []), (.ireturn, 70, 0, 0, 0, 0, 0, 0, 0, [])]
set_option maxRecDepth 100000 in
theorem zk_X8_settle_5 : zOks nX8_settle zo_X8_settle_5 5 = true := by decide +kernel
def zm_X8_settle : List (Nat × List Bool) := [(0, [true, true, true, false, false]), (5, [true, true, false, true, true])]
set_option maxRecDepth 100000 in
set_option maxHeartbeats 4000000 in
theorem zr_X8_settle_0 {C : zCa} {post : zPo} {X : zX} (hX : zClosed none C post nX8_settle X) (p0 : Int32) (p1 : Int32) (σ : zS) (h : X 5 [some (.ref 4), some (.int p0), none, some (.int p1), some (.int 0)] [] σ) : X 0 [some (.ref 4), some (.int p0), some (.int p1), none, none] [] σ := zSeq_ok hX zm_X8_settle zo_X8_settle_0 0 0 _ _ _ zk_X8_settle_0 h
set_option maxRecDepth 100000 in
set_option maxHeartbeats 4000000 in
theorem zr_X8_settle_5 {C : zCa} {post : zPo} {X : zX} (hX : zClosed none C post nX8_settle X) (v1 : Int32) (v3 : Int32) (v4 : Int32) (σ : zS) (h : zIf ((v4 : Int32) < (σ.1 4 7)) (C nX11_at [.ref 6, .int v4] σ (zPI fun x2 σ1 => C nX11_at [.ref 7, .int v4] σ1 (zPI fun x4 σ3 => C nX11_within [.int v1, .int x2, .int x4] σ3 (zPI fun x6 σ5 => zIf ((x6 : Int32) = 0) (X 5 [some (.ref 4), some (.int v1), none, some (.int v3), some (.int (v4 + 1))] [] σ5) (C nX11_at [.ref 8, .int v4] σ5 (zPI fun x8 σ7 => X 5 [some (.ref 4), some (.int v1), none, some (.int (v3 + x8)), some (.int (v4 + 1))] [] σ7)))))) (C nX11_limit [.int v3, .int (σ.1 4 2), .int (σ.1 4 3)] σ (zPI fun x10 σ9 => post (some (.int x10)) σ9))) : X 5 [some (.ref 4), some (.int v1), none, some (.int v3), some (.int v4)] [] σ := zSeq_ok hX zm_X8_settle zo_X8_settle_5 5 5 _ _ _ zk_X8_settle_5 h
theorem ze_X8_settle {d : Nat} {post : zPo} (p0 : Int32) (p1 : Int32) (σ : zS) (h : ∀ X : zX, zClosed none (zCall d) post nX8_settle X → X 0 [some (.ref 4), some (.int p0), some (.int p1), none, none] [] σ) : zCall (d + 1) nX8_settle [.ref 4, .int p0, .int p1] σ post := h
-- X4_planConstant(32, None) depth 3
def zo_X4_planConstant_0 : List zOp := [(.iconst 0, 1, 0, 0, 0, 0, 0, 0, 0, []), (.istore_n 3, 2, 3, 0, 0, 0, 0, 0, 0, [])]
set_option maxRecDepth 100000 in
theorem zk_X4_planConstant_0 : zOks nX4_planConstant zo_X4_planConstant_0 0 = true := by decide +kernel
def zo_X4_planConstant_2 : List zOp := [(.iload_n 3, 3, 3, 0, 0, 0, 0, 0, 0, []), (.aload_n 0, 4, 0, 0, 0, 0, 0, 0, 0, []), (.getfield 30, 7, 4, 2, 0, 0, 288, 0, 0, []), (.getfield 35, 10, 3, 0, 1, 0, 162, 0, 0, []), (.if_icmp .ge 29, 13, 39, 0, 0, 0, 0, 0, 0, []), (.aload_n 1, 14, 1, 0, 0, 0, 0, 0, 0, []), (.iload_n 3, 15, 3, 0, 0, 0, 0, 0, 0, []), (.aload_n 0, 16, 0, 0, 0, 0, 0, 0, 0, []), (.getfield 25, 19, 4, 1, 0, 0, 287, 0, 0, []), (.iload_n 3, 20, 3, 0, 0, 0, 0, 0, 0, []), (.iload_n 2, 21, 2, 0, 0, 0, 0, 0, 0, []), (.aload_n 0, 22, 0, 0, 0, 0, 0, 0, 0, []), (.iload_n 3, 23, 3, 0, 0, 0, 0, 0, 0, []), (.invokevirtual 41, 26, 27, 2, 1, 4, 521, 0, 0, []), (.iadd, 27, 0, 0, 0, 0, 0, 0, 0, []), (.invokevirtual 45, 30, 35, 3, 1, 8, 526, 0, 0, []), (.invokestatic 51, 33, 67, 3, 0, 0, 541, 0, 0, []), (.iinc 3 1, 36, 3, 0, 0, 0, 0, 1, 0, []), (.goto (-34), 39, 2, 0, 0, 0, 0, 0, 0, []), (.return_, 40, 0, 0, 0, 0, 0, 0, 0, [])]
set_option maxRecDepth 100000 in
theorem zk_X4_planConstant_2 : zOks nX4_planConstant zo_X4_planConstant_2 2 = true := by decide +kernel
def zm_X4_planConstant : List (Nat × List Bool) := [(0, [true, true, true, false]), (2, [true, true, true, true])]
set_option maxRecDepth 100000 in
set_option maxHeartbeats 4000000 in
theorem zr_X4_planConstant_0 {C : zCa} {post : zPo} {X : zX} (hX : zClosed none C post nX4_planConstant X) (p0 : Nat) (p1 : Int32) (σ : zS) (h : X 2 [some (.ref 32), some (.ref p0), some (.int p1), some (.int 0)] [] σ) : X 0 [some (.ref 32), some (.ref p0), some (.int p1), none] [] σ := zSeq_ok hX zm_X4_planConstant zo_X4_planConstant_0 0 0 _ _ _ zk_X4_planConstant_0 h
set_option maxRecDepth 100000 in
set_option maxHeartbeats 4000000 in
theorem zr_X4_planConstant_2 {C : zCa} {post : zPo} {X : zX} (hX : zClosed none C post nX4_planConstant X) (p0 : Nat) (v2 : Int32) (v3 : Int32) (σ : zS) (h : zIf ((v3 : Int32) < (σ.1 16 0)) (C nX4_offsetOf [.ref 32, .int v3] σ (zPI fun x2 σ1 => C nX8_settle [.ref 4, .int v3, .int (v2 + x2)] σ1 (zPI fun x4 σ3 => C nX11_put [.ref p0, .int v3, .int x4] σ3 (zPV fun σ5 => X 2 [some (.ref 32), some (.ref p0), some (.int v2), some (.int (v3 + 1))] [] σ5)))) (post none σ)) : X 2 [some (.ref 32), some (.ref p0), some (.int v2), some (.int v3)] [] σ := zSeq_ok hX zm_X4_planConstant zo_X4_planConstant_2 2 2 _ _ _ zk_X4_planConstant_2 h
theorem ze_X4_planConstant {d : Nat} {post : zPo} (p0 : Nat) (p1 : Int32) (σ : zS) (h : ∀ X : zX, zClosed none (zCall d) post nX4_planConstant X → X 0 [some (.ref 32), some (.ref p0), some (.int p1), none] [] σ) : zCall (d + 1) nX4_planConstant [.ref 32, .ref p0, .int p1] σ post := h
end
section
/-! the code of the methods read ahead, and a theorem a region: printed by wip/whole/sym.py -/
-- X11_count(0,) depth 1
def zo_X11_count_0 : List zOp := [(.iload_n 1, 1, 1, 0, 0, 0, 0, 0, 0, []), (.tableswitch 155 0 10 #[59, 67, 75, 83, 99, 107, 115, 123, 131, 139, 147], 60, 156, 0, 0, 0, 0, 0, 0, [(0, 60), (1, 68), (2, 76), (3, 84), (4, 100), (5, 108), (6, 116), (7, 124), (8, 132), (9, 140), (10, 148)]), (.aload_n 0, 61, 0, 0, 0, 0, 0, 0, 0, []), (.getfield 10, 64, 11, 0, 0, 0, 380, 0, 0, []), (.getfield 101, 67, 0, 0, 1, 0, 45, 0, 0, []), (.ireturn, 68, 0, 0, 0, 0, 0, 0, 0, []), (.aload_n 0, 69, 0, 0, 0, 0, 0, 0, 0, []), (.getfield 40, 72, 11, 4, 0, 0, 384, 0, 0, []), (.getfield 263, 75, 3, 1, 1, 0, 165, 0, 0, []), (.ireturn, 76, 0, 0, 0, 0, 0, 0, 0, []), (.aload_n 0, 77, 0, 0, 0, 0, 0, 0, 0, []), (.getfield 40, 80, 11, 4, 0, 0, 384, 0, 0, []), (.getfield 310, 83, 3, 2, 1, 0, 167, 0, 0, []), (.ireturn, 84, 0, 0, 0, 0, 0, 0, 0, []), (.aload_n 0, 85, 0, 0, 0, 0, 0, 0, 0, []), (.getfield 26, 88, 11, 2, 0, 0, 382, 0, 0, []), (.getfield 234, 91, 7, 0, 2, 0, 123, 0, 0, []), (.ifCond .eq 7, 94, 98, 0, 0, 0, 0, 0, 0, []), (.iconst 1, 95, 0, 0, 0, 0, 0, 1, 0, []), (.goto 4, 98, 99, 0, 0, 0, 0, 0, 0, []), (.iconst 0, 99, 0, 0, 0, 0, 0, 0, 0, []), (.ireturn, 100, 0, 0, 0, 0, 0, 0, 0, []), (.aload_n 0, 101, 0, 0, 0, 0, 0, 0, 0, []), (.getfield 19, 104, 11, 1, 0, 0, 381, 0, 0, []), (.getfield 203, 107, 8, 7, 1, 0, 85, 0, 0, []), (.ireturn, 108, 0, 0, 0, 0, 0, 0, 0, []), (.aload_n 0, 109, 0, 0, 0, 0, 0, 0, 0, []), (.getfield 19, 112, 11, 1, 0, 0, 381, 0, 0, []), (.getfield 174, 115, 8, 0, 1, 0, 69, 0, 0, []), (.ireturn, 116, 0, 0, 0, 0, 0, 0, 0, []), (.aload_n 0, 117, 0, 0, 0, 0, 0, 0, 0, []), (.getfield 19, 120, 11, 1, 0, 0, 381, 0, 0, []), (.getfield 177, 123, 8, 1, 1, 0, 72, 0, 0, []), (.ireturn, 124, 0, 0, 0, 0, 0, 0, 0, []), (.aload_n 0, 125, 0, 0, 0, 0, 0, 0, 0, []), (.getfield 19, 128, 11, 1, 0, 0, 381, 0, 0, []), (.getfield 193, 131, 8, 4, 1, 0, 77, 0, 0, []), (.ireturn, 132, 0, 0, 0, 0, 0, 0, 0, []), (.aload_n 0, 133, 0, 0, 0, 0, 0, 0, 0, []), (.getfield 19, 136, 11, 1, 0, 0, 381, 0, 0, []), (.getfield 196, 139, 8, 5, 1, 0, 80, 0, 0, []), (.ireturn, 140, 0, 0, 0, 0, 0, 0, 0, []), (.aload_n 0, 141, 0, 0, 0, 0, 0, 0, 0, []), (.getfield 19, 144, 11, 1, 0, 0, 381, 0, 0, []), (.getfield 200, 147, 8, 6, 1, 0, 83, 0, 0, []), (.ireturn, 148, 0, 0, 0, 0, 0, 0, 0, []), (.aload_n 0, 149, 0, 0, 0, 0, 0, 0, 0, []), (.getfield 33, 152, 11, 3, 0, 0, 383, 0, 0, []), (.getfield 134, 155, 10, 0, 1, 0, 139, 0, 0, []), (.ireturn, 156, 0, 0, 0, 0, 0, 0, 0, []), (.bipush (-2), 158, 0, 0, 0, 0, 0, (-2), 0, []), (.ireturn, 159, 0, 0, 0, 0, 0, 0, 0, [])]
set_option maxRecDepth 100000 in
theorem zk_X11_count_0 : zOks nX11_count zo_X11_count_0 0 = true := by decide +kernel
def zm_X11_count : List (Nat × List Bool) := [(0, [true, true])]
set_option maxRecDepth 100000 in
set_option maxHeartbeats 4000000 in
theorem zr_X11_count_0 {C : zCa} {post : zPo} {X : zX} (hX : zClosed none C post nX11_count X) (p0 : Int32) (σ : zS) (h : ((p0 : Int32) = 0 → (post (some (.int (σ.1 1 0))) σ)) ∧ (¬ (p0 : Int32) = 0 → ((p0 : Int32) = 1 → (post (some (.int (σ.1 16 1))) σ)) ∧ (¬ (p0 : Int32) = 1 → ((p0 : Int32) = 2 → (post (some (.int (σ.1 16 2))) σ)) ∧ (¬ (p0 : Int32) = 2 → ((p0 : Int32) = 3 → (zIf ((σ.1 9 0 : Int32) = 0) (post (some (.int 0)) σ) (post (some (.int 1)) σ))) ∧ (¬ (p0 : Int32) = 3 → ((p0 : Int32) = 4 → (post (some (.int (σ.1 4 7))) σ)) ∧ (¬ (p0 : Int32) = 4 → ((p0 : Int32) = 5 → (post (some (.int (σ.1 4 0))) σ)) ∧ (¬ (p0 : Int32) = 5 → ((p0 : Int32) = 6 → (post (some (.int (σ.1 4 1))) σ)) ∧ (¬ (p0 : Int32) = 6 → ((p0 : Int32) = 7 → (post (some (.int (σ.1 4 4))) σ)) ∧ (¬ (p0 : Int32) = 7 → ((p0 : Int32) = 8 → (post (some (.int (σ.1 4 5))) σ)) ∧ (¬ (p0 : Int32) = 8 → ((p0 : Int32) = 9 → (post (some (.int (σ.1 4 6))) σ)) ∧ (¬ (p0 : Int32) = 9 → ((p0 : Int32) = 10 → (post (some (.int (σ.1 11 0))) σ)) ∧ (¬ (p0 : Int32) = 10 → post (some (.int (-2))) σ)))))))))))) : X 0 [some (.ref 0), some (.int p0)] [] σ := zSeq_ok hX zm_X11_count zo_X11_count_0 0 0 _ _ _ zk_X11_count_0 h
theorem ze_X11_count {d : Nat} {post : zPo} (p0 : Int32) (σ : zS) (h : ∀ X : zX, zClosed none (zCall d) post nX11_count X → X 0 [some (.ref 0), some (.int p0)] [] σ) : zCall (d + 1) nX11_count [.ref 0, .int p0] σ post := h
-- X11_at(None,) depth 1
def zo_X11_at_0 : List zOp := [(.iload_n 1, 1, 1, 0, 0, 0, 0, 0, 0, []), (.ifCond .lt 15, 4, 16, 0, 0, 0, 0, 0, 0, []), (.iload_n 1, 5, 1, 0, 0, 0, 0, 0, 0, []), (.aload_n 0, 6, 0, 0, 0, 0, 0, 0, 0, []), (.arraylength, 7, 0, 0, 0, 0, 0, 0, 0, []), (.if_icmp .ge 9, 10, 16, 0, 0, 0, 0, 0, 0, []), (.aload_n 0, 11, 0, 0, 0, 0, 0, 0, 0, []), (.iload_n 1, 12, 1, 0, 0, 0, 0, 0, 0, []), (.iaload, 13, 0, 0, 0, 0, 0, 0, 0, []), (.goto 4, 16, 17, 0, 0, 0, 0, 0, 0, []), (.iconst 0, 17, 0, 0, 0, 0, 0, 0, 0, []), (.ireturn, 18, 0, 0, 0, 0, 0, 0, 0, [])]
set_option maxRecDepth 100000 in
theorem zk_X11_at_0 : zOks nX11_at zo_X11_at_0 0 = true := by decide +kernel
def zm_X11_at : List (Nat × List Bool) := [(0, [true, true])]
set_option maxRecDepth 100000 in
set_option maxHeartbeats 4000000 in
theorem zr_X11_at_0 {C : zCa} {post : zPo} {X : zX} (hX : zClosed none C post nX11_at X) (p0 : Nat) (p1 : Int32) (σ : zS) (h : zIf ((p1 : Int32) < 0) (post (some (.int 0)) σ) (zLe none p0 (fun x1 => zIf ((p1 : Int32) < x1) (zIl none σ p0 p1 (fun x2 => post (some (.int x2)) σ)) (post (some (.int 0)) σ)))) : X 0 [some (.ref p0), some (.int p1)] [] σ := zSeq_ok hX zm_X11_at zo_X11_at_0 0 0 _ _ _ zk_X11_at_0 h
theorem ze_X11_at {d : Nat} {post : zPo} (p0 : Nat) (p1 : Int32) (σ : zS) (h : ∀ X : zX, zClosed none (zCall d) post nX11_at X → X 0 [some (.ref p0), some (.int p1)] [] σ) : zCall (d + 1) nX11_at [.ref p0, .int p1] σ post := h
-- X11_ratio() depth 1
def zo_X11_ratio_0 : List zOp := [(.lload_n 2, 1, 2, 0, 0, 0, 0, 0, 0, []), (.lconst 0, 2, 0, 0, 0, 0, 0, 0, 0, []), (.lcmp, 3, 0, 0, 0, 0, 0, 0, 0, []), (.ifCond .ne 7, 6, 10, 0, 0, 0, 0, 0, 0, []), (.lconst 0, 7, 0, 0, 0, 0, 0, 0, 0, []), (.goto 6, 10, 13, 0, 0, 0, 0, 0, 0, []), (.lload_n 0, 11, 0, 0, 0, 0, 0, 0, 0, []), (.lload_n 2, 12, 2, 0, 0, 0, 0, 0, 0, []), (.ldiv, 13, 0, 0, 0, 0, 0, 0, 0, []), (.lreturn, 14, 0, 0, 0, 0, 0, 0, 0, [])]
set_option maxRecDepth 100000 in
theorem zk_X11_ratio_0 : zOks nX11_ratio zo_X11_ratio_0 0 = true := by decide +kernel
def zm_X11_ratio : List (Nat × List Bool) := [(0, [true, false, true, false])]
set_option maxRecDepth 100000 in
set_option maxHeartbeats 4000000 in
theorem zr_X11_ratio_0 {C : zCa} {post : zPo} {X : zX} (hX : zClosed none C post nX11_ratio X) (p0 : Int64) (p1 : Int64) (σ : zS) (h : zIf ((lg_cmp p1 0 : Int32) = 0) (post (some (.long 0)) σ) (¬ (p1 : Int64) = 0 ∧ (post (some (.long (p0 / p1))) σ))) : X 0 [some (.long p0), none, some (.long p1), none] [] σ := zSeq_ok hX zm_X11_ratio zo_X11_ratio_0 0 0 _ _ _ zk_X11_ratio_0 h
theorem ze_X11_ratio {d : Nat} {post : zPo} (p0 : Int64) (p1 : Int64) (σ : zS) (h : ∀ X : zX, zClosed none (zCall d) post nX11_ratio X → X 0 [some (.long p0), none, some (.long p1), none] [] σ) : zCall (d + 1) nX11_ratio [.long p0, .long p1] σ post := h
-- X11_bitsOfScene(0,) depth 3
def zo_X11_bitsOfScene_0 : List zOp := [(.iconst 0, 1, 0, 0, 0, 0, 0, 0, 0, []), (.istore_n 2, 2, 2, 0, 0, 0, 0, 0, 0, []), (.iconst 0, 3, 0, 0, 0, 0, 0, 0, 0, []), (.istore_n 3, 4, 3, 0, 0, 0, 0, 0, 0, [])]
set_option maxRecDepth 100000 in
theorem zk_X11_bitsOfScene_0 : zOks nX11_bitsOfScene zo_X11_bitsOfScene_0 0 = true := by decide +kernel
def zo_X11_bitsOfScene_4 : List zOp := [(.iload_n 3, 5, 3, 0, 0, 0, 0, 0, 0, []), (.aload_n 0, 6, 0, 0, 0, 0, 0, 0, 0, []), (.getfield 10, 9, 11, 0, 0, 0, 380, 0, 0, []), (.getfield 101, 12, 0, 0, 1, 0, 45, 0, 0, []), (.if_icmp .ge 46, 15, 58, 0, 0, 0, 0, 0, 0, []), (.aload_n 0, 16, 0, 0, 0, 0, 0, 0, 0, []), (.getfield 40, 19, 11, 4, 0, 0, 384, 0, 0, []), (.getfield 156, 22, 3, 4, 0, 0, 174, 0, 0, []), (.iload_n 3, 23, 3, 0, 0, 0, 0, 0, 0, []), (.invokestatic 149, 26, 66, 2, 1, 0, 497, 0, 0, []), (.iload_n 1, 27, 1, 0, 0, 0, 0, 0, 0, []), (.if_icmp .ne 25, 30, 52, 0, 0, 0, 0, 0, 0, []), (.iload_n 2, 31, 2, 0, 0, 0, 0, 0, 0, []), (.aload_n 0, 32, 0, 0, 0, 0, 0, 0, 0, []), (.getfield 49, 35, 11, 5, 0, 0, 385, 0, 0, []), (.iload_n 3, 36, 3, 0, 0, 0, 0, 0, 0, []), (.aload_n 0, 37, 0, 0, 0, 0, 0, 0, 0, []), (.getfield 26, 40, 11, 2, 0, 0, 382, 0, 0, []), (.getfield 217, 43, 7, 1, 0, 0, 125, 0, 0, []), (.iload_n 3, 44, 3, 0, 0, 0, 0, 0, 0, []), (.invokestatic 149, 47, 66, 2, 1, 0, 497, 0, 0, []), (.invokevirtual 210, 50, 30, 3, 1, 6, 634, 0, 0, []), (.iadd, 51, 0, 0, 0, 0, 0, 0, 0, []), (.istore_n 2, 52, 2, 0, 0, 0, 0, 0, 0, []), (.iinc 3 1, 55, 3, 0, 0, 0, 0, 1, 0, []), (.goto (-51), 58, 4, 0, 0, 0, 0, 0, 0, []), (.iload_n 2, 59, 2, 0, 0, 0, 0, 0, 0, []), (.ireturn, 60, 0, 0, 0, 0, 0, 0, 0, [])]
set_option maxRecDepth 100000 in
theorem zk_X11_bitsOfScene_4 : zOks nX11_bitsOfScene zo_X11_bitsOfScene_4 4 = true := by decide +kernel
def zm_X11_bitsOfScene : List (Nat × List Bool) := [(0, [true, true, false, false]), (4, [true, true, true, true])]
set_option maxRecDepth 100000 in
set_option maxHeartbeats 4000000 in
theorem zr_X11_bitsOfScene_0 {C : zCa} {post : zPo} {X : zX} (hX : zClosed none C post nX11_bitsOfScene X) (p0 : Int32) (σ : zS) (h : X 4 [some (.ref 0), some (.int p0), some (.int 0), some (.int 0)] [] σ) : X 0 [some (.ref 0), some (.int p0), none, none] [] σ := zSeq_ok hX zm_X11_bitsOfScene zo_X11_bitsOfScene_0 0 0 _ _ _ zk_X11_bitsOfScene_0 h
set_option maxRecDepth 100000 in
set_option maxHeartbeats 4000000 in
theorem zr_X11_bitsOfScene_4 {C : zCa} {post : zPo} {X : zX} (hX : zClosed none C post nX11_bitsOfScene X) (v1 : Int32) (v2 : Int32) (v3 : Int32) (σ : zS) (h : zIf ((v3 : Int32) < (σ.1 1 0)) (C nX11_at [.ref 18, .int v3] σ (zPI fun x2 σ1 => zIf ((x2 : Int32) = v1) (C nX11_at [.ref 10, .int v3] σ1 (zPI fun x4 σ3 => C nX6_bitsOf [.ref 24, .int v3, .int x4] σ3 (zPI fun x6 σ5 => X 4 [some (.ref 0), some (.int v1), some (.int (v2 + x6)), some (.int (v3 + 1))] [] σ5))) (X 4 [some (.ref 0), some (.int v1), some (.int v2), some (.int (v3 + 1))] [] σ1))) (post (some (.int v2)) σ)) : X 4 [some (.ref 0), some (.int v1), some (.int v2), some (.int v3)] [] σ := zSeq_ok hX zm_X11_bitsOfScene zo_X11_bitsOfScene_4 4 4 _ _ _ zk_X11_bitsOfScene_4 h
theorem ze_X11_bitsOfScene {d : Nat} {post : zPo} (p0 : Int32) (σ : zS) (h : ∀ X : zX, zClosed none (zCall d) post nX11_bitsOfScene X → X 0 [some (.ref 0), some (.int p0), none, none] [] σ) : zCall (d + 1) nX11_bitsOfScene [.ref 0, .int p0] σ post := h
-- X11_meanOfScene(0,) depth 3
def zo_X11_meanOfScene_0 : List zOp := [(.iconst 0, 1, 0, 0, 0, 0, 0, 0, 0, []), (.istore_n 2, 2, 2, 0, 0, 0, 0, 0, 0, []), (.iconst 0, 3, 0, 0, 0, 0, 0, 0, 0, []), (.istore_n 3, 4, 3, 0, 0, 0, 0, 0, 0, [])]
set_option maxRecDepth 100000 in
theorem zk_X11_meanOfScene_0 : zOks nX11_meanOfScene zo_X11_meanOfScene_0 0 = true := by decide +kernel
def zo_X11_meanOfScene_4 : List zOp := [(.iload_n 3, 5, 3, 0, 0, 0, 0, 0, 0, []), (.aload_n 0, 6, 0, 0, 0, 0, 0, 0, 0, []), (.getfield 10, 9, 11, 0, 0, 0, 380, 0, 0, []), (.getfield 101, 12, 0, 0, 1, 0, 45, 0, 0, []), (.if_icmp .ge 38, 15, 50, 0, 0, 0, 0, 0, 0, []), (.aload_n 0, 16, 0, 0, 0, 0, 0, 0, 0, []), (.getfield 40, 19, 11, 4, 0, 0, 384, 0, 0, []), (.getfield 156, 22, 3, 4, 0, 0, 174, 0, 0, []), (.iload_n 3, 23, 3, 0, 0, 0, 0, 0, 0, []), (.invokestatic 149, 26, 66, 2, 1, 0, 497, 0, 0, []), (.iload_n 1, 27, 1, 0, 0, 0, 0, 0, 0, []), (.if_icmp .ne 17, 30, 44, 0, 0, 0, 0, 0, 0, []), (.iload_n 2, 31, 2, 0, 0, 0, 0, 0, 0, []), (.aload_n 0, 32, 0, 0, 0, 0, 0, 0, 0, []), (.getfield 26, 35, 11, 2, 0, 0, 382, 0, 0, []), (.getfield 217, 38, 7, 1, 0, 0, 125, 0, 0, []), (.iload_n 3, 39, 3, 0, 0, 0, 0, 0, 0, []), (.invokestatic 149, 42, 66, 2, 1, 0, 497, 0, 0, []), (.iadd, 43, 0, 0, 0, 0, 0, 0, 0, []), (.istore_n 2, 44, 2, 0, 0, 0, 0, 0, 0, []), (.iinc 3 1, 47, 3, 0, 0, 0, 0, 1, 0, []), (.goto (-43), 50, 4, 0, 0, 0, 0, 0, 0, []), (.bipush 10, 52, 0, 0, 0, 0, 0, 10, 0, []), (.iload_n 2, 53, 2, 0, 0, 0, 0, 0, 0, []), (.imul, 54, 0, 0, 0, 0, 0, 0, 0, []), (.i2l, 55, 0, 0, 0, 0, 0, 0, 0, []), (.aload_n 0, 56, 0, 0, 0, 0, 0, 0, 0, []), (.getfield 40, 59, 11, 4, 0, 0, 384, 0, 0, []), (.iload_n 1, 60, 1, 0, 0, 0, 0, 0, 0, []), (.invokevirtual 270, 63, 23, 2, 1, 3, 626, 0, 0, []), (.i2l, 64, 0, 0, 0, 0, 0, 0, 0, []), (.invokestatic 364, 67, 68, 2, 2, 0, 639, 0, 0, []), (.l2i, 68, 0, 0, 0, 0, 0, 0, 0, []), (.ireturn, 69, 0, 0, 0, 0, 0, 0, 0, [])]
set_option maxRecDepth 100000 in
theorem zk_X11_meanOfScene_4 : zOks nX11_meanOfScene zo_X11_meanOfScene_4 4 = true := by decide +kernel
def zm_X11_meanOfScene : List (Nat × List Bool) := [(0, [true, true, false, false]), (4, [true, true, true, true])]
set_option maxRecDepth 100000 in
set_option maxHeartbeats 4000000 in
theorem zr_X11_meanOfScene_0 {C : zCa} {post : zPo} {X : zX} (hX : zClosed none C post nX11_meanOfScene X) (p0 : Int32) (σ : zS) (h : X 4 [some (.ref 0), some (.int p0), some (.int 0), some (.int 0)] [] σ) : X 0 [some (.ref 0), some (.int p0), none, none] [] σ := zSeq_ok hX zm_X11_meanOfScene zo_X11_meanOfScene_0 0 0 _ _ _ zk_X11_meanOfScene_0 h
set_option maxRecDepth 100000 in
set_option maxHeartbeats 4000000 in
theorem zr_X11_meanOfScene_4 {C : zCa} {post : zPo} {X : zX} (hX : zClosed none C post nX11_meanOfScene X) (v1 : Int32) (v2 : Int32) (v3 : Int32) (σ : zS) (h : zIf ((v3 : Int32) < (σ.1 1 0)) (C nX11_at [.ref 18, .int v3] σ (zPI fun x2 σ1 => zIf ((x2 : Int32) = v1) (C nX11_at [.ref 10, .int v3] σ1 (zPI fun x4 σ3 => X 4 [some (.ref 0), some (.int v1), some (.int (v2 + x4)), some (.int (v3 + 1))] [] σ3)) (X 4 [some (.ref 0), some (.int v1), some (.int v2), some (.int (v3 + 1))] [] σ1))) (C nX3_framesOfScene [.ref 16, .int v1] σ (zPI fun x6 σ5 => C nX11_ratio [.long (Int32.toInt64 (10 * v2)), .long (Int32.toInt64 x6)] σ5 (zPJ fun x8 σ7 => post (some (.int (Int64.toInt32 x8))) σ7)))) : X 4 [some (.ref 0), some (.int v1), some (.int v2), some (.int v3)] [] σ := zSeq_ok hX zm_X11_meanOfScene zo_X11_meanOfScene_4 4 4 _ _ _ zk_X11_meanOfScene_4 h
theorem ze_X11_meanOfScene {d : Nat} {post : zPo} (p0 : Int32) (σ : zS) (h : ∀ X : zX, zClosed none (zCall d) post nX11_meanOfScene X → X 0 [some (.ref 0), some (.int p0), none, none] [] σ) : zCall (d + 1) nX11_meanOfScene [.ref 0, .int p0] σ post := h
-- X11_within() depth 1
def zo_X11_within_0 : List zOp := [(.iload_n 0, 1, 0, 0, 0, 0, 0, 0, 0, []), (.iload_n 1, 2, 1, 0, 0, 0, 0, 0, 0, []), (.if_icmp .lt 12, 5, 14, 0, 0, 0, 0, 0, 0, []), (.iload_n 0, 6, 0, 0, 0, 0, 0, 0, 0, []), (.iload_n 2, 7, 2, 0, 0, 0, 0, 0, 0, []), (.if_icmp .gt 7, 10, 14, 0, 0, 0, 0, 0, 0, []), (.iconst 1, 11, 0, 0, 0, 0, 0, 1, 0, []), (.goto 4, 14, 15, 0, 0, 0, 0, 0, 0, []), (.iconst 0, 15, 0, 0, 0, 0, 0, 0, 0, []), (.ireturn, 16, 0, 0, 1, 0, 0, 0, 0, [])]
set_option maxRecDepth 100000 in
theorem zk_X11_within_0 : zOks nX11_within zo_X11_within_0 0 = true := by decide +kernel
def zm_X11_within : List (Nat × List Bool) := [(0, [true, true, true])]
set_option maxRecDepth 100000 in
set_option maxHeartbeats 4000000 in
theorem zr_X11_within_0 {C : zCa} {post : zPo} {X : zX} (hX : zClosed none C post nX11_within X) (p0 : Int32) (p1 : Int32) (p2 : Int32) (σ : zS) (h : zIf ((p0 : Int32) < p1) (post (some (.int 0)) σ) (zIf ((p0 : Int32) ≤ p2) (post (some (.int 1)) σ) (post (some (.int 0)) σ))) : X 0 [some (.int p0), some (.int p1), some (.int p2)] [] σ := zSeq_ok hX zm_X11_within zo_X11_within_0 0 0 _ _ _ zk_X11_within_0 h
theorem ze_X11_within {d : Nat} {post : zPo} (p0 : Int32) (p1 : Int32) (p2 : Int32) (σ : zS) (h : ∀ X : zX, zClosed none (zCall d) post nX11_within X → X 0 [some (.int p0), some (.int p1), some (.int p2)] [] σ) : zCall (d + 1) nX11_within [.int p0, .int p1, .int p2] σ post := h
-- X11_scene(0,) depth 4
def zo_X11_scene_0 : List zOp := [(.iload_n 1, 1, 1, 0, 0, 0, 0, 0, 0, []), (.iconst 0, 2, 0, 0, 0, 0, 0, 0, 0, []), (.aload_n 0, 3, 0, 0, 0, 0, 0, 0, 0, []), (.getfield 40, 6, 11, 4, 0, 0, 384, 0, 0, []), (.getfield 263, 9, 3, 1, 1, 0, 165, 0, 0, []), (.iconst 1, 10, 0, 0, 0, 0, 0, 1, 0, []), (.isub, 11, 0, 0, 0, 0, 0, 0, 0, []), (.invokestatic 130, 14, 64, 3, 1, 0, 424, 0, 0, []), (.ifCond .eq 12, 17, 26, 0, 0, 0, 0, 0, 0, []), (.iload_n 2, 18, 2, 0, 0, 0, 0, 0, 0, []), (.iconst 0, 19, 0, 0, 0, 0, 0, 0, 0, []), (.iconst 5, 20, 0, 0, 0, 0, 0, 5, 0, []), (.invokestatic 130, 23, 64, 3, 1, 0, 424, 0, 0, []), (.ifCond .ne 6, 26, 29, 0, 0, 0, 0, 0, 0, []), (.bipush (-2), 28, 0, 0, 0, 0, 0, (-2), 0, []), (.ireturn, 29, 0, 0, 0, 0, 0, 0, 0, []), (.aload_n 0, 30, 0, 0, 0, 0, 0, 0, 0, []), (.getfield 26, 33, 11, 2, 0, 0, 382, 0, 0, []), (.getfield 234, 36, 7, 0, 2, 0, 123, 0, 0, []), (.ifCond .ne 16, 39, 52, 0, 0, 0, 0, 0, 0, []), (.iload_n 2, 40, 2, 0, 0, 0, 0, 0, 0, []), (.iconst 3, 41, 0, 0, 0, 0, 0, 3, 0, []), (.if_icmp .eq 8, 44, 49, 0, 0, 0, 0, 0, 0, []), (.iload_n 2, 45, 2, 0, 0, 0, 0, 0, 0, []), (.iconst 4, 46, 0, 0, 0, 0, 0, 4, 0, []), (.if_icmp .ne 6, 49, 52, 0, 0, 0, 0, 0, 0, []), (.bipush (-3), 51, 0, 0, 0, 0, 0, (-3), 0, []), (.ireturn, 52, 0, 0, 0, 0, 0, 0, 0, []), (.iload_n 2, 53, 2, 0, 0, 0, 0, 0, 0, []), (.tableswitch 77 0 4 #[35, 44, 53, 65, 71], 88, 130, 0, 0, 0, 0, 0, 0, [(0, 88), (1, 97), (2, 106), (3, 118), (4, 124)]), (.aload_n 0, 89, 0, 0, 0, 0, 0, 0, 0, []), (.getfield 40, 92, 11, 4, 0, 0, 384, 0, 0, []), (.iload_n 1, 93, 1, 0, 0, 0, 0, 0, 0, []), (.invokevirtual 266, 96, 22, 2, 1, 3, 622, 0, 0, []), (.ireturn, 97, 0, 0, 0, 0, 0, 0, 0, []), (.aload_n 0, 98, 0, 0, 0, 0, 0, 0, 0, []), (.getfield 40, 101, 11, 4, 0, 0, 384, 0, 0, []), (.iload_n 1, 102, 1, 0, 0, 0, 0, 0, 0, []), (.invokevirtual 270, 105, 23, 2, 1, 3, 626, 0, 0, []), (.ireturn, 106, 0, 0, 0, 0, 0, 0, 0, []), (.aload_n 0, 107, 0, 0, 0, 0, 0, 0, 0, []), (.getfield 19, 110, 11, 1, 0, 0, 381, 0, 0, []), (.getfield 180, 113, 8, 8, 0, 0, 88, 0, 0, []), (.iload_n 1, 114, 1, 0, 0, 0, 0, 0, 0, []), (.invokestatic 149, 117, 66, 2, 1, 0, 497, 0, 0, []), (.ireturn, 118, 0, 0, 0, 0, 0, 0, 0, []), (.aload_n 0, 119, 0, 0, 0, 0, 0, 0, 0, []), (.iload_n 1, 120, 1, 0, 0, 0, 0, 0, 0, []), (.invokevirtual 273, 123, 59, 2, 1, 11, 630, 0, 0, []), (.ireturn, 124, 0, 0, 0, 0, 0, 0, 0, []), (.aload_n 0, 125, 0, 0, 0, 0, 0, 0, 0, []), (.iload_n 1, 126, 1, 0, 0, 0, 0, 0, 0, []), (.invokevirtual 276, 129, 60, 2, 1, 11, 635, 0, 0, []), (.ireturn, 130, 0, 0, 0, 0, 0, 0, 0, []), (.aload_n 0, 131, 0, 0, 0, 0, 0, 0, 0, []), (.getfield 40, 134, 11, 4, 0, 0, 384, 0, 0, []), (.iload_n 1, 135, 1, 0, 0, 0, 0, 0, 0, []), (.invokevirtual 279, 138, 24, 2, 1, 3, 640, 0, 0, []), (.ireturn, 139, 0, 0, 0, 0, 0, 0, 0, [])]
set_option maxRecDepth 100000 in
theorem zk_X11_scene_0 : zOks nX11_scene zo_X11_scene_0 0 = true := by decide +kernel
def zm_X11_scene : List (Nat × List Bool) := [(0, [true, true, true])]
set_option maxRecDepth 100000 in
set_option maxHeartbeats 4000000 in
theorem zr_X11_scene_0 {C : zCa} {post : zPo} {X : zX} (hX : zClosed none C post nX11_scene X) (p0 : Int32) (p1 : Int32) (σ : zS) (h : C nX11_within [.int p0, .int 0, .int ((σ.1 16 1) - 1)] σ (zPI fun x2 σ1 => zIf ((x2 : Int32) = 0) (post (some (.int (-2))) σ1) (C nX11_within [.int p1, .int 0, .int 5] σ1 (zPI fun x4 σ3 => zIf ((x4 : Int32) = 0) (post (some (.int (-2))) σ3) (zIf ((σ3.1 9 0 : Int32) = 0) (zIf ((p1 : Int32) = 3) (post (some (.int (-3))) σ3) (zIf ((p1 : Int32) = 4) (post (some (.int (-3))) σ3) (((p1 : Int32) = 0 → (C nX3_firstOfScene [.ref 16, .int p0] σ3 (zPI fun x6 σ5 => post (some (.int x6)) σ5))) ∧ (¬ (p1 : Int32) = 0 → ((p1 : Int32) = 1 → (C nX3_framesOfScene [.ref 16, .int p0] σ3 (zPI fun x8 σ7 => post (some (.int x8)) σ7))) ∧ (¬ (p1 : Int32) = 1 → ((p1 : Int32) = 2 → (C nX11_at [.ref 5, .int p0] σ3 (zPI fun x10 σ9 => post (some (.int x10)) σ9))) ∧ (¬ (p1 : Int32) = 2 → ((p1 : Int32) = 3 → (C nX11_bitsOfScene [.ref 0, .int p0] σ3 (zPI fun x12 σ11 => post (some (.int x12)) σ11))) ∧ (¬ (p1 : Int32) = 3 → ((p1 : Int32) = 4 → (C nX11_meanOfScene [.ref 0, .int p0] σ3 (zPI fun x14 σ13 => post (some (.int x14)) σ13))) ∧ (¬ (p1 : Int32) = 4 → C nX3_groupsOfScene [.ref 16, .int p0] σ3 (zPI fun x16 σ15 => post (some (.int x16)) σ15))))))))) (((p1 : Int32) = 0 → (C nX3_firstOfScene [.ref 16, .int p0] σ3 (zPI fun x18 σ17 => post (some (.int x18)) σ17))) ∧ (¬ (p1 : Int32) = 0 → ((p1 : Int32) = 1 → (C nX3_framesOfScene [.ref 16, .int p0] σ3 (zPI fun x20 σ19 => post (some (.int x20)) σ19))) ∧ (¬ (p1 : Int32) = 1 → ((p1 : Int32) = 2 → (C nX11_at [.ref 5, .int p0] σ3 (zPI fun x22 σ21 => post (some (.int x22)) σ21))) ∧ (¬ (p1 : Int32) = 2 → ((p1 : Int32) = 3 → (C nX11_bitsOfScene [.ref 0, .int p0] σ3 (zPI fun x24 σ23 => post (some (.int x24)) σ23))) ∧ (¬ (p1 : Int32) = 3 → ((p1 : Int32) = 4 → (C nX11_meanOfScene [.ref 0, .int p0] σ3 (zPI fun x26 σ25 => post (some (.int x26)) σ25))) ∧ (¬ (p1 : Int32) = 4 → C nX3_groupsOfScene [.ref 16, .int p0] σ3 (zPI fun x28 σ27 => post (some (.int x28)) σ27)))))))))))) : X 0 [some (.ref 0), some (.int p0), some (.int p1)] [] σ := zSeq_ok hX zm_X11_scene zo_X11_scene_0 0 0 _ _ _ zk_X11_scene_0 h
theorem ze_X11_scene {d : Nat} {post : zPo} (p0 : Int32) (p1 : Int32) (σ : zS) (h : ∀ X : zX, zClosed none (zCall d) post nX11_scene X → X 0 [some (.ref 0), some (.int p0), some (.int p1)] [] σ) : zCall (d + 1) nX11_scene [.ref 0, .int p0, .int p1] σ post := h
-- X11_put(None,) depth 1
def zo_X11_put_0 : List zOp := [(.iload_n 1, 1, 1, 0, 0, 0, 0, 0, 0, []), (.ifCond .lt 13, 4, 14, 0, 0, 0, 0, 0, 0, []), (.iload_n 1, 5, 1, 0, 0, 0, 0, 0, 0, []), (.aload_n 0, 6, 0, 0, 0, 0, 0, 0, 0, []), (.arraylength, 7, 0, 0, 0, 0, 0, 0, 0, []), (.if_icmp .ge 7, 10, 14, 0, 0, 0, 0, 0, 0, []), (.aload_n 0, 11, 0, 0, 0, 0, 0, 0, 0, []), (.iload_n 1, 12, 1, 0, 0, 0, 0, 0, 0, []), (.iload_n 2, 13, 2, 0, 0, 0, 0, 0, 0, []), (.iastore, 14, 0, 0, 0, 0, 0, 0, 0, []), (.return_, 15, 0, 0, 0, 0, 0, 0, 0, [])]
set_option maxRecDepth 100000 in
theorem zk_X11_put_0 : zOks nX11_put zo_X11_put_0 0 = true := by decide +kernel
def zm_X11_put : List (Nat × List Bool) := [(0, [true, true, true])]
set_option maxRecDepth 100000 in
set_option maxHeartbeats 4000000 in
theorem zr_X11_put_0 {C : zCa} {post : zPo} {X : zX} (hX : zClosed none C post nX11_put X) (p0 : Nat) (p1 : Int32) (p2 : Int32) (σ : zS) (h : zIf ((p1 : Int32) < 0) (post none σ) (zLe none p0 (fun x1 => zIf ((p1 : Int32) < x1) (zG (zIsI p0) (vp_in p1 (zN p0) ∧ (post none (zSI σ p0 (Int32.toNatClampNeg p1) p2)))) (post none σ)))) : X 0 [some (.ref p0), some (.int p1), some (.int p2)] [] σ := zSeq_ok hX zm_X11_put zo_X11_put_0 0 0 _ _ _ zk_X11_put_0 h
theorem ze_X11_put {d : Nat} {post : zPo} (p0 : Nat) (p1 : Int32) (p2 : Int32) (σ : zS) (h : ∀ X : zX, zClosed none (zCall d) post nX11_put X → X 0 [some (.ref p0), some (.int p1), some (.int p2)] [] σ) : zCall (d + 1) nX11_put [.ref p0, .int p1, .int p2] σ post := h
-- X11_arrangeAnew(0,) depth 5
def zo_X11_arrangeAnew_0 : List zOp := [(.aload_n 0, 1, 0, 0, 0, 0, 0, 0, 0, []), (.getfield 26, 4, 11, 2, 0, 0, 382, 0, 0, []), (.iconst 0, 5, 0, 0, 0, 0, 0, 0, 0, []), (.putfield 234, 8, 7, 0, 2, 0, 123, 0, 0, []), (.aload_n 0, 9, 0, 0, 0, 0, 0, 0, 0, []), (.getfield 40, 12, 11, 4, 0, 0, 384, 0, 0, []), (.aload_n 0, 13, 0, 0, 0, 0, 0, 0, 0, []), (.getfield 10, 16, 11, 0, 0, 0, 380, 0, 0, []), (.aload_n 0, 17, 0, 0, 0, 0, 0, 0, 0, []), (.getfield 19, 20, 11, 1, 0, 0, 381, 0, 0, []), (.invokevirtual 333, 23, 13, 3, 0, 3, 438, 0, 0, []), (.return_, 24, 0, 0, 0, 0, 0, 0, 0, [])]
set_option maxRecDepth 100000 in
theorem zk_X11_arrangeAnew_0 : zOks nX11_arrangeAnew zo_X11_arrangeAnew_0 0 = true := by decide +kernel
def zm_X11_arrangeAnew : List (Nat × List Bool) := [(0, [true])]
set_option maxRecDepth 100000 in
set_option maxHeartbeats 4000000 in
theorem zr_X11_arrangeAnew_0 {C : zCa} {post : zPo} {X : zX} (hX : zClosed none C post nX11_arrangeAnew X) (σ : zS) (h : C nX3_arrange [.ref 16, .ref 1, .ref 4] (zSI σ 9 0 0) (zPV fun σ1 => post none σ1)) : X 0 [some (.ref 0)] [] σ := zSeq_ok hX zm_X11_arrangeAnew zo_X11_arrangeAnew_0 0 0 _ _ _ zk_X11_arrangeAnew_0 h
theorem ze_X11_arrangeAnew {d : Nat} {post : zPo} (σ : zS) (h : ∀ X : zX, zClosed none (zCall d) post nX11_arrangeAnew X → X 0 [some (.ref 0)] [] σ) : zCall (d + 1) nX11_arrangeAnew [.ref 0] σ post := h
-- X11_isPicture() depth 2
def zo_X11_isPicture_0 : List zOp := [(.iload_n 0, 1, 0, 0, 0, 0, 0, 0, 0, []), (.iconst 1, 2, 0, 0, 0, 0, 0, 1, 0, []), (.sipush 4000, 5, 0, 0, 0, 0, 0, 4000, 0, []), (.invokestatic 130, 8, 64, 3, 1, 0, 424, 0, 0, []), (.ifCond .eq 18, 11, 26, 0, 0, 0, 0, 0, 0, []), (.iload_n 1, 12, 1, 0, 0, 0, 0, 0, 0, []), (.iconst 0, 13, 0, 0, 0, 0, 0, 0, 0, []), (.sipush 4000, 16, 0, 0, 0, 0, 0, 4000, 0, []), (.invokestatic 130, 19, 64, 3, 1, 0, 424, 0, 0, []), (.ifCond .eq 7, 22, 26, 0, 0, 0, 0, 0, 0, []), (.iconst 1, 23, 0, 0, 0, 0, 0, 1, 0, []), (.goto 4, 26, 27, 0, 0, 0, 0, 0, 0, []), (.iconst 0, 27, 0, 0, 0, 0, 0, 0, 0, []), (.ireturn, 28, 0, 0, 1, 0, 0, 0, 0, [])]
set_option maxRecDepth 100000 in
theorem zk_X11_isPicture_0 : zOks nX11_isPicture zo_X11_isPicture_0 0 = true := by decide +kernel
def zm_X11_isPicture : List (Nat × List Bool) := [(0, [true, true])]
set_option maxRecDepth 100000 in
set_option maxHeartbeats 4000000 in
theorem zr_X11_isPicture_0 {C : zCa} {post : zPo} {X : zX} (hX : zClosed none C post nX11_isPicture X) (p0 : Int32) (p1 : Int32) (σ : zS) (h : C nX11_within [.int p0, .int 1, .int 4000] σ (zPI fun x2 σ1 => zIf ((x2 : Int32) = 0) (post (some (.int 0)) σ1) (C nX11_within [.int p1, .int 0, .int 4000] σ1 (zPI fun x4 σ3 => zIf ((x4 : Int32) = 0) (post (some (.int 0)) σ3) (post (some (.int 1)) σ3))))) : X 0 [some (.int p0), some (.int p1)] [] σ := zSeq_ok hX zm_X11_isPicture zo_X11_isPicture_0 0 0 _ _ _ zk_X11_isPicture_0 h
theorem ze_X11_isPicture {d : Nat} {post : zPo} (p0 : Int32) (p1 : Int32) (σ : zS) (h : ∀ X : zX, zClosed none (zCall d) post nX11_isPicture X → X 0 [some (.int p0), some (.int p1)] [] σ) : zCall (d + 1) nX11_isPicture [.int p0, .int p1] σ post := h
-- X11_append(0,) depth 6
def zo_X11_append_0 : List zOp := [(.iload_n 1, 1, 1, 0, 0, 0, 0, 0, 0, []), (.iload_n 2, 2, 2, 0, 0, 0, 0, 0, 0, []), (.invokestatic 97, 5, 62, 2, 1, 0, 421, 0, 0, []), (.ifCond .ne 6, 8, 11, 0, 0, 0, 0, 0, 0, []), (.bipush (-2), 10, 0, 0, 0, 0, 0, (-2), 0, []), (.ireturn, 11, 0, 0, 0, 0, 0, 0, 0, []), (.aload_n 0, 12, 0, 0, 0, 0, 0, 0, 0, []), (.getfield 10, 15, 11, 0, 0, 0, 380, 0, 0, []), (.getfield 101, 18, 0, 0, 1, 0, 45, 0, 0, []), (.bipush 60, 20, 0, 0, 0, 0, 0, 60, 0, []), (.if_icmp .lt 6, 23, 26, 0, 0, 0, 0, 0, 0, []), (.bipush (-4), 25, 0, 0, 0, 0, 0, (-4), 0, []), (.ireturn, 26, 0, 0, 0, 0, 0, 0, 0, []), (.aload_n 0, 27, 0, 0, 0, 0, 0, 0, 0, []), (.getfield 10, 30, 11, 0, 0, 0, 380, 0, 0, []), (.iload_n 1, 31, 1, 0, 0, 0, 0, 0, 0, []), (.iload_n 2, 32, 2, 0, 0, 0, 0, 0, 0, []), (.invokevirtual 105, 35, 1, 3, 0, 0, 427, 0, 0, []), (.aload_n 0, 36, 0, 0, 0, 0, 0, 0, 0, []), (.invokevirtual 109, 39, 54, 1, 0, 11, 434, 0, 0, []), (.aload_n 0, 40, 0, 0, 0, 0, 0, 0, 0, []), (.getfield 10, 43, 11, 0, 0, 0, 380, 0, 0, []), (.getfield 101, 46, 0, 0, 1, 0, 45, 0, 0, []), (.iconst 1, 47, 0, 0, 0, 0, 0, 1, 0, []), (.isub, 48, 0, 0, 0, 0, 0, 0, 0, []), (.ireturn, 49, 0, 0, 0, 0, 0, 0, 0, [])]
set_option maxRecDepth 100000 in
theorem zk_X11_append_0 : zOks nX11_append zo_X11_append_0 0 = true := by decide +kernel
def zm_X11_append : List (Nat × List Bool) := [(0, [true, true, true])]
set_option maxRecDepth 100000 in
set_option maxHeartbeats 4000000 in
theorem zr_X11_append_0 {C : zCa} {post : zPo} {X : zX} (hX : zClosed none C post nX11_append X) (p0 : Int32) (p1 : Int32) (σ : zS) (h : C nX11_isPicture [.int p0, .int p1] σ (zPI fun x2 σ1 => zIf ((x2 : Int32) = 0) (post (some (.int (-2))) σ1) (zIf ((σ1.1 1 0 : Int32) < 60) (C nX0_add [.ref 1, .int p0, .int p1] σ1 (zPV fun σ3 => C nX11_arrangeAnew [.ref 0] σ3 (zPV fun σ4 => post (some (.int ((σ4.1 1 0) - 1))) σ4))) (post (some (.int (-4))) σ1)))) : X 0 [some (.ref 0), some (.int p0), some (.int p1)] [] σ := zSeq_ok hX zm_X11_append zo_X11_append_0 0 0 _ _ _ zk_X11_append_0 h
theorem ze_X11_append {d : Nat} {post : zPo} (p0 : Int32) (p1 : Int32) (σ : zS) (h : ∀ X : zX, zClosed none (zCall d) post nX11_append X → X 0 [some (.ref 0), some (.int p0), some (.int p1)] [] σ) : zCall (d + 1) nX11_append [.ref 0, .int p0, .int p1] σ post := h
-- X11_setBridges(0,) depth 6
def zo_X11_setBridges_0 : List zOp := [(.iload_n 1, 1, 1, 0, 0, 0, 0, 0, 0, []), (.iconst 0, 2, 0, 0, 0, 0, 0, 0, 0, []), (.iconst 3, 3, 0, 0, 0, 0, 0, 3, 0, []), (.invokestatic 130, 6, 64, 3, 1, 0, 424, 0, 0, []), (.ifCond .ne 6, 9, 12, 0, 0, 0, 0, 0, 0, []), (.bipush (-2), 11, 0, 0, 0, 0, 0, (-2), 0, []), (.ireturn, 12, 0, 0, 0, 0, 0, 0, 0, []), (.aload_n 0, 13, 0, 0, 0, 0, 0, 0, 0, []), (.getfield 19, 16, 11, 1, 0, 0, 381, 0, 0, []), (.getfield 177, 19, 8, 1, 1, 0, 72, 0, 0, []), (.istore_n 2, 20, 2, 0, 0, 0, 0, 0, 0, []), (.aload_n 0, 21, 0, 0, 0, 0, 0, 0, 0, []), (.getfield 19, 24, 11, 1, 0, 0, 381, 0, 0, []), (.iload_n 1, 25, 1, 0, 0, 0, 0, 0, 0, []), (.putfield 177, 28, 8, 1, 1, 0, 72, 0, 0, []), (.aload_n 0, 29, 0, 0, 0, 0, 0, 0, 0, []), (.invokevirtual 109, 32, 54, 1, 0, 11, 434, 0, 0, []), (.iload_n 2, 33, 2, 0, 0, 0, 0, 0, 0, []), (.ireturn, 34, 0, 0, 0, 0, 0, 0, 0, [])]
set_option maxRecDepth 100000 in
theorem zk_X11_setBridges_0 : zOks nX11_setBridges zo_X11_setBridges_0 0 = true := by decide +kernel
def zm_X11_setBridges : List (Nat × List Bool) := [(0, [true, true, false])]
set_option maxRecDepth 100000 in
set_option maxHeartbeats 4000000 in
theorem zr_X11_setBridges_0 {C : zCa} {post : zPo} {X : zX} (hX : zClosed none C post nX11_setBridges X) (p0 : Int32) (σ : zS) (h : C nX11_within [.int p0, .int 0, .int 3] σ (zPI fun x2 σ1 => zIf ((x2 : Int32) = 0) (post (some (.int (-2))) σ1) (C nX11_arrangeAnew [.ref 0] (zSI σ1 4 1 p0) (zPV fun σ3 => post (some (.int (σ1.1 4 1))) σ3)))) : X 0 [some (.ref 0), some (.int p0), none] [] σ := zSeq_ok hX zm_X11_setBridges zo_X11_setBridges_0 0 0 _ _ _ zk_X11_setBridges_0 h
theorem ze_X11_setBridges {d : Nat} {post : zPo} (p0 : Int32) (σ : zS) (h : ∀ X : zX, zClosed none (zCall d) post nX11_setBridges X → X 0 [some (.ref 0), some (.int p0), none] [] σ) : zCall (d + 1) nX11_setBridges [.ref 0, .int p0] σ post := h
-- X11_setInterval(0,) depth 6
def zo_X11_setInterval_0 : List zOp := [(.iload_n 1, 1, 1, 0, 0, 0, 0, 0, 0, []), (.iconst 1, 2, 0, 0, 0, 0, 0, 1, 0, []), (.bipush 60, 4, 0, 0, 0, 0, 0, 60, 0, []), (.invokestatic 130, 7, 64, 3, 1, 0, 424, 0, 0, []), (.ifCond .ne 6, 10, 13, 0, 0, 0, 0, 0, 0, []), (.bipush (-2), 12, 0, 0, 0, 0, 0, (-2), 0, []), (.ireturn, 13, 0, 0, 0, 0, 0, 0, 0, []), (.aload_n 0, 14, 0, 0, 0, 0, 0, 0, 0, []), (.getfield 19, 17, 11, 1, 0, 0, 381, 0, 0, []), (.getfield 174, 20, 8, 0, 1, 0, 69, 0, 0, []), (.istore_n 2, 21, 2, 0, 0, 0, 0, 0, 0, []), (.aload_n 0, 22, 0, 0, 0, 0, 0, 0, 0, []), (.getfield 19, 25, 11, 1, 0, 0, 381, 0, 0, []), (.iload_n 1, 26, 1, 0, 0, 0, 0, 0, 0, []), (.putfield 174, 29, 8, 0, 1, 0, 69, 0, 0, []), (.aload_n 0, 30, 0, 0, 0, 0, 0, 0, 0, []), (.invokevirtual 109, 33, 54, 1, 0, 11, 434, 0, 0, []), (.iload_n 2, 34, 2, 0, 0, 0, 0, 0, 0, []), (.ireturn, 35, 0, 0, 0, 0, 0, 0, 0, [])]
set_option maxRecDepth 100000 in
theorem zk_X11_setInterval_0 : zOks nX11_setInterval zo_X11_setInterval_0 0 = true := by decide +kernel
def zm_X11_setInterval : List (Nat × List Bool) := [(0, [true, true, false])]
set_option maxRecDepth 100000 in
set_option maxHeartbeats 4000000 in
theorem zr_X11_setInterval_0 {C : zCa} {post : zPo} {X : zX} (hX : zClosed none C post nX11_setInterval X) (p0 : Int32) (σ : zS) (h : C nX11_within [.int p0, .int 1, .int 60] σ (zPI fun x2 σ1 => zIf ((x2 : Int32) = 0) (post (some (.int (-2))) σ1) (C nX11_arrangeAnew [.ref 0] (zSI σ1 4 0 p0) (zPV fun σ3 => post (some (.int (σ1.1 4 0))) σ3)))) : X 0 [some (.ref 0), some (.int p0), none] [] σ := zSeq_ok hX zm_X11_setInterval zo_X11_setInterval_0 0 0 _ _ _ zk_X11_setInterval_0 h
theorem ze_X11_setInterval {d : Nat} {post : zPo} (p0 : Int32) (σ : zS) (h : ∀ X : zX, zClosed none (zCall d) post nX11_setInterval X → X 0 [some (.ref 0), some (.int p0), none] [] σ) : zCall (d + 1) nX11_setInterval [.ref 0, .int p0] σ post := h
-- X11_setWeight(0,) depth 2
def zo_X11_setWeight_0 : List zOp := [(.iload_n 1, 1, 1, 0, 0, 0, 0, 0, 0, []), (.iconst 0, 2, 0, 0, 0, 0, 0, 0, 0, []), (.bipush 59, 4, 0, 0, 0, 0, 0, 59, 0, []), (.invokestatic 130, 7, 64, 3, 1, 0, 424, 0, 0, []), (.ifCond .eq 13, 10, 20, 0, 0, 0, 0, 0, 0, []), (.iload_n 2, 11, 2, 0, 0, 0, 0, 0, 0, []), (.iconst 1, 12, 0, 0, 0, 0, 0, 1, 0, []), (.bipush 8, 14, 0, 0, 0, 0, 0, 8, 0, []), (.invokestatic 130, 17, 64, 3, 1, 0, 424, 0, 0, []), (.ifCond .ne 6, 20, 23, 0, 0, 0, 0, 0, 0, []), (.bipush (-2), 22, 0, 0, 0, 0, 0, (-2), 0, []), (.ireturn, 23, 0, 0, 0, 0, 0, 0, 0, []), (.aload_n 0, 24, 0, 0, 0, 0, 0, 0, 0, []), (.getfield 19, 27, 11, 1, 0, 0, 381, 0, 0, []), (.getfield 180, 30, 8, 8, 0, 0, 88, 0, 0, []), (.iload_n 1, 31, 1, 0, 0, 0, 0, 0, 0, []), (.invokestatic 149, 34, 66, 2, 1, 0, 497, 0, 0, []), (.istore_n 3, 35, 3, 0, 0, 0, 0, 0, 0, []), (.aload_n 0, 36, 0, 0, 0, 0, 0, 0, 0, []), (.getfield 19, 39, 11, 1, 0, 0, 381, 0, 0, []), (.getfield 180, 42, 8, 8, 0, 0, 88, 0, 0, []), (.iload_n 1, 43, 1, 0, 0, 0, 0, 0, 0, []), (.iload_n 2, 44, 2, 0, 0, 0, 0, 0, 0, []), (.invokestatic 120, 47, 67, 3, 0, 0, 487, 0, 0, []), (.iload_n 3, 48, 3, 0, 0, 0, 0, 0, 0, []), (.ireturn, 49, 0, 0, 0, 0, 0, 0, 0, [])]
set_option maxRecDepth 100000 in
theorem zk_X11_setWeight_0 : zOks nX11_setWeight zo_X11_setWeight_0 0 = true := by decide +kernel
def zm_X11_setWeight : List (Nat × List Bool) := [(0, [true, true, true, false])]
set_option maxRecDepth 100000 in
set_option maxHeartbeats 4000000 in
theorem zr_X11_setWeight_0 {C : zCa} {post : zPo} {X : zX} (hX : zClosed none C post nX11_setWeight X) (p0 : Int32) (p1 : Int32) (σ : zS) (h : C nX11_within [.int p0, .int 0, .int 59] σ (zPI fun x2 σ1 => zIf ((x2 : Int32) = 0) (post (some (.int (-2))) σ1) (C nX11_within [.int p1, .int 1, .int 8] σ1 (zPI fun x4 σ3 => zIf ((x4 : Int32) = 0) (post (some (.int (-2))) σ3) (C nX11_at [.ref 5, .int p0] σ3 (zPI fun x6 σ5 => C nX11_put [.ref 5, .int p0, .int p1] σ5 (zPV fun σ7 => post (some (.int x6)) σ7))))))) : X 0 [some (.ref 0), some (.int p0), some (.int p1), none] [] σ := zSeq_ok hX zm_X11_setWeight zo_X11_setWeight_0 0 0 _ _ _ zk_X11_setWeight_0 h
theorem ze_X11_setWeight {d : Nat} {post : zPo} (p0 : Int32) (p1 : Int32) (σ : zS) (h : ∀ X : zX, zClosed none (zCall d) post nX11_setWeight X → X 0 [some (.ref 0), some (.int p0), some (.int p1), none] [] σ) : zCall (d + 1) nX11_setWeight [.ref 0, .int p0, .int p1] σ post := h
-- X11_isFrame(0,) depth 2
def zo_X11_isFrame_0 : List zOp := [(.iload_n 1, 1, 1, 0, 0, 0, 0, 0, 0, []), (.iconst 0, 2, 0, 0, 0, 0, 0, 0, 0, []), (.aload_n 0, 3, 0, 0, 0, 0, 0, 0, 0, []), (.getfield 10, 6, 11, 0, 0, 0, 380, 0, 0, []), (.getfield 101, 9, 0, 0, 1, 0, 45, 0, 0, []), (.iconst 1, 10, 0, 0, 0, 0, 0, 1, 0, []), (.isub, 11, 0, 0, 0, 0, 0, 0, 0, []), (.invokestatic 130, 14, 64, 3, 1, 0, 424, 0, 0, []), (.ireturn, 15, 0, 0, 1, 0, 0, 0, 0, [])]
set_option maxRecDepth 100000 in
theorem zk_X11_isFrame_0 : zOks nX11_isFrame zo_X11_isFrame_0 0 = true := by decide +kernel
def zm_X11_isFrame : List (Nat × List Bool) := [(0, [true, true])]
set_option maxRecDepth 100000 in
set_option maxHeartbeats 4000000 in
theorem zr_X11_isFrame_0 {C : zCa} {post : zPo} {X : zX} (hX : zClosed none C post nX11_isFrame X) (p0 : Int32) (σ : zS) (h : C nX11_within [.int p0, .int 0, .int ((σ.1 1 0) - 1)] σ (zPI fun x2 σ1 => zG ((x2 : Int32) == 0 || (x2 : Int32) == 1) (post (some (.int x2)) σ1))) : X 0 [some (.ref 0), some (.int p0)] [] σ := zSeq_ok hX zm_X11_isFrame zo_X11_isFrame_0 0 0 _ _ _ zk_X11_isFrame_0 h
theorem ze_X11_isFrame {d : Nat} {post : zPo} (p0 : Int32) (σ : zS) (h : ∀ X : zX, zClosed none (zCall d) post nX11_isFrame X → X 0 [some (.ref 0), some (.int p0)] [] σ) : zCall (d + 1) nX11_isFrame [.ref 0, .int p0] σ post := h
-- X11_isQuantizer() depth 2
def zo_X11_isQuantizer_0 : List zOp := [(.iload_n 0, 1, 0, 0, 0, 0, 0, 0, 0, []), (.iconst 0, 2, 0, 0, 0, 0, 0, 0, 0, []), (.bipush 51, 4, 0, 0, 0, 0, 0, 51, 0, []), (.invokestatic 130, 7, 64, 3, 1, 0, 424, 0, 0, []), (.ireturn, 8, 0, 0, 1, 0, 0, 0, 0, [])]
set_option maxRecDepth 100000 in
theorem zk_X11_isQuantizer_0 : zOks nX11_isQuantizer zo_X11_isQuantizer_0 0 = true := by decide +kernel
def zm_X11_isQuantizer : List (Nat × List Bool) := [(0, [true])]
set_option maxRecDepth 100000 in
set_option maxHeartbeats 4000000 in
theorem zr_X11_isQuantizer_0 {C : zCa} {post : zPo} {X : zX} (hX : zClosed none C post nX11_isQuantizer X) (p0 : Int32) (σ : zS) (h : C nX11_within [.int p0, .int 0, .int 51] σ (zPI fun x2 σ1 => zG ((x2 : Int32) == 0 || (x2 : Int32) == 1) (post (some (.int x2)) σ1))) : X 0 [some (.int p0)] [] σ := zSeq_ok hX zm_X11_isQuantizer zo_X11_isQuantizer_0 0 0 _ _ _ zk_X11_isQuantizer_0 h
theorem ze_X11_isQuantizer {d : Nat} {post : zPo} (p0 : Int32) (σ : zS) (h : ∀ X : zX, zClosed none (zCall d) post nX11_isQuantizer X → X 0 [some (.int p0)] [] σ) : zCall (d + 1) nX11_isQuantizer [.int p0] σ post := h
-- X11_bitsAt(0,) depth 3
def zo_X11_bitsAt_0 : List zOp := [(.aload_n 0, 1, 0, 0, 0, 0, 0, 0, 0, []), (.iload_n 1, 2, 1, 0, 0, 0, 0, 0, 0, []), (.invokevirtual 112, 5, 61, 2, 1, 11, 483, 0, 0, []), (.ifCond .eq 22, 8, 27, 0, 0, 0, 0, 0, 0, []), (.iload_n 2, 9, 2, 0, 0, 0, 0, 0, 0, []), (.invokestatic 183, 12, 63, 1, 1, 0, 514, 0, 0, []), (.ifCond .eq 15, 15, 27, 0, 0, 0, 0, 0, 0, []), (.aload_n 0, 16, 0, 0, 0, 0, 0, 0, 0, []), (.getfield 49, 19, 11, 5, 0, 0, 385, 0, 0, []), (.iload_n 1, 20, 1, 0, 0, 0, 0, 0, 0, []), (.iload_n 2, 21, 2, 0, 0, 0, 0, 0, 0, []), (.invokevirtual 210, 24, 30, 3, 1, 6, 634, 0, 0, []), (.goto 5, 27, 29, 0, 0, 0, 0, 0, 0, []), (.bipush (-2), 29, 0, 0, 0, 0, 0, (-2), 0, []), (.ireturn, 30, 0, 0, 0, 0, 0, 0, 0, [])]
set_option maxRecDepth 100000 in
theorem zk_X11_bitsAt_0 : zOks nX11_bitsAt zo_X11_bitsAt_0 0 = true := by decide +kernel
def zm_X11_bitsAt : List (Nat × List Bool) := [(0, [true, true, true])]
set_option maxRecDepth 100000 in
set_option maxHeartbeats 4000000 in
theorem zr_X11_bitsAt_0 {C : zCa} {post : zPo} {X : zX} (hX : zClosed none C post nX11_bitsAt X) (p0 : Int32) (p1 : Int32) (σ : zS) (h : C nX11_isFrame [.ref 0, .int p0] σ (zPI fun x2 σ1 => zIf ((x2 : Int32) = 0) (post (some (.int (-2))) σ1) (C nX11_isQuantizer [.int p1] σ1 (zPI fun x4 σ3 => zIf ((x4 : Int32) = 0) (post (some (.int (-2))) σ3) (C nX6_bitsOf [.ref 24, .int p0, .int p1] σ3 (zPI fun x6 σ5 => post (some (.int x6)) σ5)))))) : X 0 [some (.ref 0), some (.int p0), some (.int p1)] [] σ := zSeq_ok hX zm_X11_bitsAt zo_X11_bitsAt_0 0 0 _ _ _ zk_X11_bitsAt_0 h
theorem ze_X11_bitsAt {d : Nat} {post : zPo} (p0 : Int32) (p1 : Int32) (σ : zS) (h : ∀ X : zX, zClosed none (zCall d) post nX11_bitsAt X → X 0 [some (.ref 0), some (.int p0), some (.int p1)] [] σ) : zCall (d + 1) nX11_bitsAt [.ref 0, .int p0, .int p1] σ post := h
-- X11_coded(0,) depth 3
def zo_X11_coded_0 : List zOp := [(.aload_n 0, 1, 0, 0, 0, 0, 0, 0, 0, []), (.iload_n 1, 2, 1, 0, 0, 0, 0, 0, 0, []), (.invokevirtual 112, 5, 61, 2, 1, 11, 483, 0, 0, []), (.ifCond .eq 17, 8, 22, 0, 0, 0, 0, 0, 0, []), (.aload_n 0, 9, 0, 0, 0, 0, 0, 0, 0, []), (.getfield 40, 12, 11, 4, 0, 0, 384, 0, 0, []), (.getfield 171, 15, 3, 9, 0, 0, 186, 0, 0, []), (.iload_n 1, 16, 1, 0, 0, 0, 0, 0, 0, []), (.invokestatic 149, 19, 66, 2, 1, 0, 497, 0, 0, []), (.goto 5, 22, 24, 0, 0, 0, 0, 0, 0, []), (.bipush (-2), 24, 0, 0, 0, 0, 0, (-2), 0, []), (.ireturn, 25, 0, 0, 0, 0, 0, 0, 0, [])]
set_option maxRecDepth 100000 in
theorem zk_X11_coded_0 : zOks nX11_coded zo_X11_coded_0 0 = true := by decide +kernel
def zm_X11_coded : List (Nat × List Bool) := [(0, [true, true])]
set_option maxRecDepth 100000 in
set_option maxHeartbeats 4000000 in
theorem zr_X11_coded_0 {C : zCa} {post : zPo} {X : zX} (hX : zClosed none C post nX11_coded X) (p0 : Int32) (σ : zS) (h : C nX11_isFrame [.ref 0, .int p0] σ (zPI fun x2 σ1 => zIf ((x2 : Int32) = 0) (post (some (.int (-2))) σ1) (C nX11_at [.ref 23, .int p0] σ1 (zPI fun x4 σ3 => post (some (.int x4)) σ3)))) : X 0 [some (.ref 0), some (.int p0)] [] σ := zSeq_ok hX zm_X11_coded zo_X11_coded_0 0 0 _ _ _ zk_X11_coded_0 h
theorem ze_X11_coded {d : Nat} {post : zPo} (p0 : Int32) (σ : zS) (h : ∀ X : zX, zClosed none (zCall d) post nX11_coded X → X 0 [some (.ref 0), some (.int p0)] [] σ) : zCall (d + 1) nX11_coded [.ref 0, .int p0] σ post := h
-- X11_frame(0,) depth 3
def zo_X11_frame_0 : List zOp := [(.aload_n 0, 1, 0, 0, 0, 0, 0, 0, 0, []), (.iload_n 1, 2, 1, 0, 0, 0, 0, 0, 0, []), (.invokevirtual 112, 5, 61, 2, 1, 11, 483, 0, 0, []), (.ifCond .eq 13, 8, 18, 0, 0, 0, 0, 0, 0, []), (.iload_n 2, 9, 2, 0, 0, 0, 0, 0, 0, []), (.iconst 0, 10, 0, 0, 0, 0, 0, 0, 0, []), (.bipush 7, 12, 0, 0, 0, 0, 0, 7, 0, []), (.invokestatic 130, 15, 64, 3, 1, 0, 424, 0, 0, []), (.ifCond .ne 6, 18, 21, 0, 0, 0, 0, 0, 0, []), (.bipush (-2), 20, 0, 0, 0, 0, 0, (-2), 0, []), (.ireturn, 21, 0, 0, 0, 0, 0, 0, 0, []), (.iload_n 2, 22, 2, 0, 0, 0, 0, 0, 0, []), (.tableswitch 126 0 6 #[42, 54, 66, 78, 90, 102, 114], 64, 148, 0, 0, 0, 0, 0, 0, [(0, 64), (1, 76), (2, 88), (3, 100), (4, 112), (5, 124), (6, 136)]), (.aload_n 0, 65, 0, 0, 0, 0, 0, 0, 0, []), (.getfield 10, 68, 11, 0, 0, 0, 380, 0, 0, []), (.getfield 116, 71, 0, 1, 0, 0, 47, 0, 0, []), (.iload_n 1, 72, 1, 0, 0, 0, 0, 0, 0, []), (.invokestatic 149, 75, 66, 2, 1, 0, 497, 0, 0, []), (.ireturn, 76, 0, 0, 0, 0, 0, 0, 0, []), (.aload_n 0, 77, 0, 0, 0, 0, 0, 0, 0, []), (.getfield 10, 80, 11, 0, 0, 0, 380, 0, 0, []), (.getfield 124, 83, 0, 2, 0, 0, 50, 0, 0, []), (.iload_n 1, 84, 1, 0, 0, 0, 0, 0, 0, []), (.invokestatic 149, 87, 66, 2, 1, 0, 497, 0, 0, []), (.ireturn, 88, 0, 0, 0, 0, 0, 0, 0, []), (.aload_n 0, 89, 0, 0, 0, 0, 0, 0, 0, []), (.getfield 40, 92, 11, 4, 0, 0, 384, 0, 0, []), (.getfield 153, 95, 3, 3, 0, 0, 171, 0, 0, []), (.iload_n 1, 96, 1, 0, 0, 0, 0, 0, 0, []), (.invokestatic 149, 99, 66, 2, 1, 0, 497, 0, 0, []), (.ireturn, 100, 0, 0, 0, 0, 0, 0, 0, []), (.aload_n 0, 101, 0, 0, 0, 0, 0, 0, 0, []), (.getfield 40, 104, 11, 4, 0, 0, 384, 0, 0, []), (.getfield 156, 107, 3, 4, 0, 0, 174, 0, 0, []), (.iload_n 1, 108, 1, 0, 0, 0, 0, 0, 0, []), (.invokestatic 149, 111, 66, 2, 1, 0, 497, 0, 0, []), (.ireturn, 112, 0, 0, 0, 0, 0, 0, 0, []), (.aload_n 0, 113, 0, 0, 0, 0, 0, 0, 0, []), (.getfield 40, 116, 11, 4, 0, 0, 384, 0, 0, []), (.getfield 159, 119, 3, 8, 0, 0, 183, 0, 0, []), (.iload_n 1, 120, 1, 0, 0, 0, 0, 0, 0, []), (.invokestatic 149, 123, 66, 2, 1, 0, 497, 0, 0, []), (.ireturn, 124, 0, 0, 0, 0, 0, 0, 0, []), (.aload_n 0, 125, 0, 0, 0, 0, 0, 0, 0, []), (.getfield 40, 128, 11, 4, 0, 0, 384, 0, 0, []), (.getfield 162, 131, 3, 7, 0, 0, 181, 0, 0, []), (.iload_n 1, 132, 1, 0, 0, 0, 0, 0, 0, []), (.invokestatic 149, 135, 66, 2, 1, 0, 497, 0, 0, []), (.ireturn, 136, 0, 0, 0, 0, 0, 0, 0, []), (.aload_n 0, 137, 0, 0, 0, 0, 0, 0, 0, []), (.getfield 40, 140, 11, 4, 0, 0, 384, 0, 0, []), (.getfield 165, 143, 3, 5, 0, 0, 176, 0, 0, []), (.iload_n 1, 144, 1, 0, 0, 0, 0, 0, 0, []), (.invokestatic 149, 147, 66, 2, 1, 0, 497, 0, 0, []), (.ireturn, 148, 0, 0, 0, 0, 0, 0, 0, []), (.aload_n 0, 149, 0, 0, 0, 0, 0, 0, 0, []), (.getfield 40, 152, 11, 4, 0, 0, 384, 0, 0, []), (.getfield 168, 155, 3, 6, 0, 0, 178, 0, 0, []), (.iload_n 1, 156, 1, 0, 0, 0, 0, 0, 0, []), (.invokestatic 149, 159, 66, 2, 1, 0, 497, 0, 0, []), (.ireturn, 160, 0, 0, 0, 0, 0, 0, 0, [])]
set_option maxRecDepth 100000 in
theorem zk_X11_frame_0 : zOks nX11_frame zo_X11_frame_0 0 = true := by decide +kernel
def zm_X11_frame : List (Nat × List Bool) := [(0, [true, true, true])]
set_option maxRecDepth 100000 in
set_option maxHeartbeats 4000000 in
theorem zr_X11_frame_0 {C : zCa} {post : zPo} {X : zX} (hX : zClosed none C post nX11_frame X) (p0 : Int32) (p1 : Int32) (σ : zS) (h : C nX11_isFrame [.ref 0, .int p0] σ (zPI fun x2 σ1 => zIf ((x2 : Int32) = 0) (post (some (.int (-2))) σ1) (C nX11_within [.int p1, .int 0, .int 7] σ1 (zPI fun x4 σ3 => zIf ((x4 : Int32) = 0) (post (some (.int (-2))) σ3) (((p1 : Int32) = 0 → (C nX11_at [.ref 2, .int p0] σ3 (zPI fun x6 σ5 => post (some (.int x6)) σ5))) ∧ (¬ (p1 : Int32) = 0 → ((p1 : Int32) = 1 → (C nX11_at [.ref 3, .int p0] σ3 (zPI fun x8 σ7 => post (some (.int x8)) σ7))) ∧ (¬ (p1 : Int32) = 1 → ((p1 : Int32) = 2 → (C nX11_at [.ref 17, .int p0] σ3 (zPI fun x10 σ9 => post (some (.int x10)) σ9))) ∧ (¬ (p1 : Int32) = 2 → ((p1 : Int32) = 3 → (C nX11_at [.ref 18, .int p0] σ3 (zPI fun x12 σ11 => post (some (.int x12)) σ11))) ∧ (¬ (p1 : Int32) = 3 → ((p1 : Int32) = 4 → (C nX11_at [.ref 22, .int p0] σ3 (zPI fun x14 σ13 => post (some (.int x14)) σ13))) ∧ (¬ (p1 : Int32) = 4 → ((p1 : Int32) = 5 → (C nX11_at [.ref 21, .int p0] σ3 (zPI fun x16 σ15 => post (some (.int x16)) σ15))) ∧ (¬ (p1 : Int32) = 5 → ((p1 : Int32) = 6 → (C nX11_at [.ref 19, .int p0] σ3 (zPI fun x18 σ17 => post (some (.int x18)) σ17))) ∧ (¬ (p1 : Int32) = 6 → C nX11_at [.ref 20, .int p0] σ3 (zPI fun x20 σ19 => post (some (.int x20)) σ19))))))))))))) : X 0 [some (.ref 0), some (.int p0), some (.int p1)] [] σ := zSeq_ok hX zm_X11_frame zo_X11_frame_0 0 0 _ _ _ zk_X11_frame_0 h
theorem ze_X11_frame {d : Nat} {post : zPo} (p0 : Int32) (p1 : Int32) (σ : zS) (h : ∀ X : zX, zClosed none (zCall d) post nX11_frame X → X 0 [some (.ref 0), some (.int p0), some (.int p1)] [] σ) : zCall (d + 1) nX11_frame [.ref 0, .int p0, .int p1] σ post := h
-- X11_lossAt(0,) depth 4
def zo_X11_lossAt_0 : List zOp := [(.aload_n 0, 1, 0, 0, 0, 0, 0, 0, 0, []), (.iload_n 1, 2, 1, 0, 0, 0, 0, 0, 0, []), (.invokevirtual 112, 5, 61, 2, 1, 11, 483, 0, 0, []), (.ifCond .eq 22, 8, 27, 0, 0, 0, 0, 0, 0, []), (.iload_n 2, 9, 2, 0, 0, 0, 0, 0, 0, []), (.invokestatic 183, 12, 63, 1, 1, 0, 514, 0, 0, []), (.ifCond .eq 15, 15, 27, 0, 0, 0, 0, 0, 0, []), (.aload_n 0, 16, 0, 0, 0, 0, 0, 0, 0, []), (.getfield 49, 19, 11, 5, 0, 0, 385, 0, 0, []), (.iload_n 1, 20, 1, 0, 0, 0, 0, 0, 0, []), (.iload_n 2, 21, 2, 0, 0, 0, 0, 0, 0, []), (.invokevirtual 214, 24, 31, 3, 1, 6, 593, 0, 0, []), (.goto 5, 27, 29, 0, 0, 0, 0, 0, 0, []), (.bipush (-2), 29, 0, 0, 0, 0, 0, (-2), 0, []), (.ireturn, 30, 0, 0, 0, 0, 0, 0, 0, [])]
set_option maxRecDepth 100000 in
theorem zk_X11_lossAt_0 : zOks nX11_lossAt zo_X11_lossAt_0 0 = true := by decide +kernel
def zm_X11_lossAt : List (Nat × List Bool) := [(0, [true, true, true])]
set_option maxRecDepth 100000 in
set_option maxHeartbeats 4000000 in
theorem zr_X11_lossAt_0 {C : zCa} {post : zPo} {X : zX} (hX : zClosed none C post nX11_lossAt X) (p0 : Int32) (p1 : Int32) (σ : zS) (h : C nX11_isFrame [.ref 0, .int p0] σ (zPI fun x2 σ1 => zIf ((x2 : Int32) = 0) (post (some (.int (-2))) σ1) (C nX11_isQuantizer [.int p1] σ1 (zPI fun x4 σ3 => zIf ((x4 : Int32) = 0) (post (some (.int (-2))) σ3) (C nX6_lossOf [.ref 24, .int p0, .int p1] σ3 (zPI fun x6 σ5 => post (some (.int x6)) σ5)))))) : X 0 [some (.ref 0), some (.int p0), some (.int p1)] [] σ := zSeq_ok hX zm_X11_lossAt zo_X11_lossAt_0 0 0 _ _ _ zk_X11_lossAt_0 h
theorem ze_X11_lossAt {d : Nat} {post : zPo} (p0 : Int32) (p1 : Int32) (σ : zS) (h : ∀ X : zX, zClosed none (zCall d) post nX11_lossAt X → X 0 [some (.ref 0), some (.int p0), some (.int p1)] [] σ) : zCall (d + 1) nX11_lossAt [.ref 0, .int p0, .int p1] σ post := h
-- X11_changesOfPlan(0,) depth 2
def zo_X11_changesOfPlan_0 : List zOp := [(.lconst 0, 1, 0, 0, 0, 0, 0, 0, 0, []), (.lstore_n 1, 2, 1, 0, 0, 0, 0, 0, 0, []), (.iconst 1, 3, 0, 0, 0, 0, 0, 1, 0, []), (.istore_n 3, 4, 3, 0, 0, 0, 0, 0, 0, [])]
set_option maxRecDepth 100000 in
theorem zk_X11_changesOfPlan_0 : zOks nX11_changesOfPlan zo_X11_changesOfPlan_0 0 = true := by decide +kernel
def zo_X11_changesOfPlan_4 : List zOp := [(.iload_n 3, 5, 3, 0, 0, 0, 0, 0, 0, []), (.aload_n 0, 6, 0, 0, 0, 0, 0, 0, 0, []), (.getfield 10, 9, 11, 0, 0, 0, 380, 0, 0, []), (.getfield 101, 12, 0, 0, 1, 0, 45, 0, 0, []), (.if_icmp .ge 65, 15, 77, 0, 0, 0, 0, 0, 0, []), (.aload_n 0, 16, 0, 0, 0, 0, 0, 0, 0, []), (.getfield 26, 19, 11, 2, 0, 0, 382, 0, 0, []), (.getfield 217, 22, 7, 1, 0, 0, 125, 0, 0, []), (.aload_n 0, 23, 0, 0, 0, 0, 0, 0, 0, []), (.getfield 40, 26, 11, 4, 0, 0, 384, 0, 0, []), (.getfield 171, 29, 3, 9, 0, 0, 186, 0, 0, []), (.iload_n 3, 30, 3, 0, 0, 0, 0, 0, 0, []), (.iconst 1, 31, 0, 0, 0, 0, 0, 1, 0, []), (.isub, 32, 0, 0, 0, 0, 0, 0, 0, []), (.invokestatic 149, 35, 66, 2, 1, 0, 497, 0, 0, []), (.invokestatic 149, 38, 66, 2, 1, 0, 497, 0, 0, []), (.istore 4, 40, 4, 0, 0, 0, 0, 0, 0, []), (.lload_n 1, 41, 1, 0, 0, 0, 0, 0, 0, []), (.aload_n 0, 42, 0, 0, 0, 0, 0, 0, 0, []), (.getfield 26, 45, 11, 2, 0, 0, 382, 0, 0, []), (.getfield 217, 48, 7, 1, 0, 0, 125, 0, 0, []), (.aload_n 0, 49, 0, 0, 0, 0, 0, 0, 0, []), (.getfield 40, 52, 11, 4, 0, 0, 384, 0, 0, []), (.getfield 171, 55, 3, 9, 0, 0, 186, 0, 0, []), (.iload_n 3, 56, 3, 0, 0, 0, 0, 0, 0, []), (.invokestatic 149, 59, 66, 2, 1, 0, 497, 0, 0, []), (.invokestatic 149, 62, 66, 2, 1, 0, 497, 0, 0, []), (.iload 4, 64, 4, 0, 0, 0, 0, 0, 0, []), (.isub, 65, 0, 0, 0, 0, 0, 0, 0, []), (.invokestatic 359, 68, 0, 0, 0, 3, 615, 0, 0, []), (.i2l, 69, 0, 0, 0, 0, 0, 0, 0, []), (.ladd, 70, 0, 0, 0, 0, 0, 0, 0, []), (.lstore_n 1, 71, 1, 0, 0, 0, 0, 0, 0, []), (.iinc 3 1, 74, 3, 0, 0, 0, 0, 1, 0, []), (.goto (-70), 77, 4, 0, 0, 0, 0, 0, 0, []), (.lload_n 1, 78, 1, 0, 0, 0, 0, 0, 0, []), (.lreturn, 79, 0, 0, 0, 0, 0, 0, 0, [])]
set_option maxRecDepth 100000 in
theorem zk_X11_changesOfPlan_4 : zOks nX11_changesOfPlan zo_X11_changesOfPlan_4 4 = true := by decide +kernel
def zm_X11_changesOfPlan : List (Nat × List Bool) := [(0, [true, false, false, false, false]), (4, [true, true, false, true, false])]
set_option maxRecDepth 100000 in
set_option maxHeartbeats 4000000 in
theorem zr_X11_changesOfPlan_0 {C : zCa} {post : zPo} {X : zX} (hX : zClosed none C post nX11_changesOfPlan X) (σ : zS) (h : X 4 [some (.ref 0), some (.long 0), none, some (.int 1), none] [] σ) : X 0 [some (.ref 0), none, none, none, none] [] σ := zSeq_ok hX zm_X11_changesOfPlan zo_X11_changesOfPlan_0 0 0 _ _ _ zk_X11_changesOfPlan_0 h
set_option maxRecDepth 100000 in
set_option maxHeartbeats 4000000 in
theorem zr_X11_changesOfPlan_4 {C : zCa} {post : zPo} {X : zX} (hX : zClosed none C post nX11_changesOfPlan X) (v1 : Int64) (v3 : Int32) (σ : zS) (h : zIf ((v3 : Int32) < (σ.1 1 0)) (C nX11_at [.ref 23, .int (v3 - 1)] σ (zPI fun x2 σ1 => C nX11_at [.ref 10, .int x2] σ1 (zPI fun x4 σ3 => C nX11_at [.ref 23, .int v3] σ3 (zPI fun x6 σ5 => C nX11_at [.ref 10, .int x6] σ5 (zPI fun x8 σ7 => X 4 [some (.ref 0), some (.long (v1 + (Int32.toInt64 (if (0 : Int32) ≤ (x8 - x4) then x8 - x4 else 0 - (x8 - x4))))), none, some (.int (v3 + 1)), none] [] σ7))))) (post (some (.long v1)) σ)) : X 4 [some (.ref 0), some (.long v1), none, some (.int v3), none] [] σ := zSeq_ok hX zm_X11_changesOfPlan zo_X11_changesOfPlan_4 4 4 _ _ _ zk_X11_changesOfPlan_4 h
theorem ze_X11_changesOfPlan {d : Nat} {post : zPo} (σ : zS) (h : ∀ X : zX, zClosed none (zCall d) post nX11_changesOfPlan X → X 0 [some (.ref 0), none, none, none, none] [] σ) : zCall (d + 1) nX11_changesOfPlan [.ref 0] σ post := h
-- X11_underflowsOfNewPlan(0,) depth 6
def zo_X11_underflowsOfNewPlan_0 : List zOp := [(.aload_n 0, 1, 0, 0, 0, 0, 0, 0, 0, []), (.getfield 26, 4, 11, 2, 0, 0, 382, 0, 0, []), (.iconst 1, 5, 0, 0, 0, 0, 0, 1, 0, []), (.putfield 234, 8, 7, 0, 2, 0, 123, 0, 0, []), (.aload_n 0, 9, 0, 0, 0, 0, 0, 0, 0, []), (.getfield 58, 12, 11, 6, 0, 0, 386, 0, 0, []), (.aload_n 0, 13, 0, 0, 0, 0, 0, 0, 0, []), (.getfield 26, 16, 11, 2, 0, 0, 382, 0, 0, []), (.getfield 217, 19, 7, 1, 0, 0, 125, 0, 0, []), (.invokevirtual 248, 22, 4, 2, 0, 1, 546, 0, 0, []), (.aload_n 0, 23, 0, 0, 0, 0, 0, 0, 0, []), (.getfield 58, 26, 11, 6, 0, 0, 386, 0, 0, []), (.getfield 337, 29, 1, 0, 1, 0, 244, 0, 0, []), (.ireturn, 30, 0, 0, 0, 0, 0, 0, 0, [])]
set_option maxRecDepth 100000 in
theorem zk_X11_underflowsOfNewPlan_0 : zOks nX11_underflowsOfNewPlan zo_X11_underflowsOfNewPlan_0 0 = true := by decide +kernel
def zm_X11_underflowsOfNewPlan : List (Nat × List Bool) := [(0, [true])]
set_option maxRecDepth 100000 in
set_option maxHeartbeats 4000000 in
theorem zr_X11_underflowsOfNewPlan_0 {C : zCa} {post : zPo} {X : zX} (hX : zClosed none C post nX11_underflowsOfNewPlan X) (σ : zS) (h : C nX1_follow [.ref 26, .ref 10] (zSI σ 9 0 1) (zPV fun σ1 => post (some (.int (σ1.1 26 0))) σ1)) : X 0 [some (.ref 0)] [] σ := zSeq_ok hX zm_X11_underflowsOfNewPlan zo_X11_underflowsOfNewPlan_0 0 0 _ _ _ zk_X11_underflowsOfNewPlan_0 h
theorem ze_X11_underflowsOfNewPlan {d : Nat} {post : zPo} (σ : zS) (h : ∀ X : zX, zClosed none (zCall d) post nX11_underflowsOfNewPlan X → X 0 [some (.ref 0)] [] σ) : zCall (d + 1) nX11_underflowsOfNewPlan [.ref 0] σ post := h
-- X11_limit() depth 1
def zo_X11_limit_0 : List zOp := [(.iload_n 1, 1, 1, 0, 0, 0, 0, 0, 0, []), (.iload_n 2, 2, 2, 0, 0, 0, 0, 0, 0, []), (.iload_n 0, 3, 0, 0, 0, 0, 0, 0, 0, []), (.invokestatic 368, 6, 0, 0, 0, 2, 535, 0, 0, []), (.invokestatic 371, 9, 0, 0, 0, 1, 538, 0, 0, []), (.ireturn, 10, 0, 0, 0, 0, 0, 0, 0, [])]
set_option maxRecDepth 100000 in
theorem zk_X11_limit_0 : zOks nX11_limit zo_X11_limit_0 0 = true := by decide +kernel
def zm_X11_limit : List (Nat × List Bool) := [(0, [true, true, true])]
set_option maxRecDepth 100000 in
set_option maxHeartbeats 4000000 in
theorem zr_X11_limit_0 {C : zCa} {post : zPo} {X : zX} (hX : zClosed none C post nX11_limit X) (p0 : Int32) (p1 : Int32) (p2 : Int32) (σ : zS) (h : post (some (.int (if ((p1 : Int32) < (if ((p0 : Int32) < p2) then p0 else p2)) then if ((p0 : Int32) < p2) then p0 else p2 else p1))) σ) : X 0 [some (.int p0), some (.int p1), some (.int p2)] [] σ := zSeq_ok hX zm_X11_limit zo_X11_limit_0 0 0 _ _ _ zk_X11_limit_0 h
theorem ze_X11_limit {d : Nat} {post : zPo} (p0 : Int32) (p1 : Int32) (p2 : Int32) (σ : zS) (h : ∀ X : zX, zClosed none (zCall d) post nX11_limit X → X 0 [some (.int p0), some (.int p1), some (.int p2)] [] σ) : zCall (d + 1) nX11_limit [.int p0, .int p1, .int p2] σ post := h
-- X11_constant(0,) depth 7
def zo_X11_constant_0 : List zOp := [(.iload_n 1, 1, 1, 0, 0, 0, 0, 0, 0, []), (.invokestatic 183, 4, 63, 1, 1, 0, 514, 0, 0, []), (.ifCond .ne 6, 7, 10, 0, 0, 0, 0, 0, 0, []), (.bipush (-2), 9, 0, 0, 0, 0, 0, (-2), 0, []), (.ireturn, 10, 0, 0, 0, 0, 0, 0, 0, []), (.aload_n 0, 11, 0, 0, 0, 0, 0, 0, 0, []), (.getfield 10, 14, 11, 0, 0, 0, 380, 0, 0, []), (.getfield 101, 17, 0, 0, 1, 0, 45, 0, 0, []), (.ifCond .ne 6, 20, 23, 0, 0, 0, 0, 0, 0, []), (.bipush (-3), 22, 0, 0, 0, 0, 0, (-3), 0, []), (.ireturn, 23, 0, 0, 0, 0, 0, 0, 0, []), (.aload_n 0, 24, 0, 0, 0, 0, 0, 0, 0, []), (.getfield 67, 27, 11, 7, 0, 0, 387, 0, 0, []), (.aload_n 0, 28, 0, 0, 0, 0, 0, 0, 0, []), (.getfield 26, 31, 11, 2, 0, 0, 382, 0, 0, []), (.getfield 217, 34, 7, 1, 0, 0, 125, 0, 0, []), (.iload_n 1, 35, 1, 0, 0, 0, 0, 0, 0, []), (.invokevirtual 220, 38, 26, 3, 0, 4, 517, 0, 0, []), (.aload_n 0, 39, 0, 0, 0, 0, 0, 0, 0, []), (.invokevirtual 224, 42, 55, 1, 1, 11, 542, 0, 0, []), (.ireturn, 43, 0, 0, 0, 0, 0, 0, 0, [])]
set_option maxRecDepth 100000 in
theorem zk_X11_constant_0 : zOks nX11_constant zo_X11_constant_0 0 = true := by decide +kernel
def zm_X11_constant : List (Nat × List Bool) := [(0, [true, true])]
set_option maxRecDepth 100000 in
set_option maxHeartbeats 4000000 in
theorem zr_X11_constant_0 {C : zCa} {post : zPo} {X : zX} (hX : zClosed none C post nX11_constant X) (p0 : Int32) (σ : zS) (h : C nX11_isQuantizer [.int p0] σ (zPI fun x2 σ1 => zIf ((x2 : Int32) = 0) (post (some (.int (-2))) σ1) (zIf ((σ1.1 1 0 : Int32) = 0) (post (some (.int (-3))) σ1) (C nX4_planConstant [.ref 32, .ref 10, .int p0] σ1 (zPV fun σ3 => C nX11_underflowsOfNewPlan [.ref 0] σ3 (zPI fun x5 σ4 => post (some (.int x5)) σ4)))))) : X 0 [some (.ref 0), some (.int p0)] [] σ := zSeq_ok hX zm_X11_constant zo_X11_constant_0 0 0 _ _ _ zk_X11_constant_0 h
theorem ze_X11_constant {d : Nat} {post : zPo} (p0 : Int32) (σ : zS) (h : ∀ X : zX, zClosed none (zCall d) post nX11_constant X → X 0 [some (.ref 0), some (.int p0)] [] σ) : zCall (d + 1) nX11_constant [.ref 0, .int p0] σ post := h
-- X11_drop(0,) depth 6
def zo_X11_drop_0 : List zOp := [(.aload_n 0, 1, 0, 0, 0, 0, 0, 0, 0, []), (.getfield 10, 4, 11, 0, 0, 0, 380, 0, 0, []), (.getfield 101, 7, 0, 0, 1, 0, 45, 0, 0, []), (.ifCond .ne 6, 10, 13, 0, 0, 0, 0, 0, 0, []), (.bipush (-3), 12, 0, 0, 0, 0, 0, (-3), 0, []), (.ireturn, 13, 0, 0, 0, 0, 0, 0, 0, []), (.aload_n 0, 14, 0, 0, 0, 0, 0, 0, 0, []), (.getfield 10, 17, 11, 0, 0, 0, 380, 0, 0, []), (.dup, 18, 0, 0, 0, 0, 0, 0, 0, []), (.getfield 101, 21, 0, 0, 1, 0, 45, 0, 0, []), (.iconst 1, 22, 0, 0, 0, 0, 0, 1, 0, []), (.isub, 23, 0, 0, 0, 0, 0, 0, 0, []), (.putfield 101, 26, 0, 0, 1, 0, 45, 0, 0, []), (.aload_n 0, 27, 0, 0, 0, 0, 0, 0, 0, []), (.invokevirtual 109, 30, 54, 1, 0, 11, 434, 0, 0, []), (.aload_n 0, 31, 0, 0, 0, 0, 0, 0, 0, []), (.getfield 10, 34, 11, 0, 0, 0, 380, 0, 0, []), (.getfield 101, 37, 0, 0, 1, 0, 45, 0, 0, []), (.ireturn, 38, 0, 0, 0, 0, 0, 0, 0, [])]
set_option maxRecDepth 100000 in
theorem zk_X11_drop_0 : zOks nX11_drop zo_X11_drop_0 0 = true := by decide +kernel
def zm_X11_drop : List (Nat × List Bool) := [(0, [true])]
set_option maxRecDepth 100000 in
set_option maxHeartbeats 4000000 in
theorem zr_X11_drop_0 {C : zCa} {post : zPo} {X : zX} (hX : zClosed none C post nX11_drop X) (σ : zS) (h : zIf ((σ.1 1 0 : Int32) = 0) (post (some (.int (-3))) σ) (C nX11_arrangeAnew [.ref 0] (zSI σ 1 0 ((σ.1 1 0) - 1)) (zPV fun σ1 => post (some (.int (σ1.1 1 0))) σ1))) : X 0 [some (.ref 0)] [] σ := zSeq_ok hX zm_X11_drop zo_X11_drop_0 0 0 _ _ _ zk_X11_drop_0 h
theorem ze_X11_drop {d : Nat} {post : zPo} (σ : zS) (h : ∀ X : zX, zClosed none (zCall d) post nX11_drop X → X 0 [some (.ref 0)] [] σ) : zCall (d + 1) nX11_drop [.ref 0] σ post := h
-- X11_followedFrame(0,) depth 4
def zo_X11_followedFrame_0 : List zOp := [(.aload_n 0, 1, 0, 0, 0, 0, 0, 0, 0, []), (.getfield 26, 4, 11, 2, 0, 0, 382, 0, 0, []), (.getfield 217, 7, 7, 1, 0, 0, 125, 0, 0, []), (.iload_n 1, 8, 1, 0, 0, 0, 0, 0, 0, []), (.invokestatic 149, 11, 66, 2, 1, 0, 497, 0, 0, []), (.istore_n 3, 12, 3, 0, 0, 0, 0, 0, 0, []), (.aload_n 0, 13, 0, 0, 0, 0, 0, 0, 0, []), (.getfield 40, 16, 11, 4, 0, 0, 384, 0, 0, []), (.getfield 159, 19, 3, 8, 0, 0, 183, 0, 0, []), (.iload_n 1, 20, 1, 0, 0, 0, 0, 0, 0, []), (.invokestatic 149, 23, 66, 2, 1, 0, 497, 0, 0, []), (.istore 4, 25, 4, 0, 0, 0, 0, 0, 0, []), (.iload_n 2, 26, 2, 0, 0, 0, 0, 0, 0, []), (.tableswitch 102 0 5 #[38, 40, 53, 63, 76, 89], 64, 128, 0, 0, 0, 0, 0, 0, [(0, 64), (1, 66), (2, 79), (3, 89), (4, 102), (5, 115)]), (.iload_n 3, 65, 3, 0, 0, 0, 0, 0, 0, []), (.ireturn, 66, 0, 0, 0, 0, 0, 0, 0, []), (.aload_n 0, 67, 0, 0, 0, 0, 0, 0, 0, []), (.getfield 58, 70, 11, 6, 0, 0, 386, 0, 0, []), (.getfield 340, 73, 1, 1, 0, 0, 246, 0, 0, []), (.iload 4, 75, 4, 0, 0, 0, 0, 0, 0, []), (.invokestatic 149, 78, 66, 2, 1, 0, 497, 0, 0, []), (.ireturn, 79, 0, 0, 0, 0, 0, 0, 0, []), (.aload_n 0, 80, 0, 0, 0, 0, 0, 0, 0, []), (.getfield 49, 83, 11, 5, 0, 0, 385, 0, 0, []), (.iload_n 1, 84, 1, 0, 0, 0, 0, 0, 0, []), (.iload_n 3, 85, 3, 0, 0, 0, 0, 0, 0, []), (.invokevirtual 214, 88, 31, 3, 1, 6, 593, 0, 0, []), (.ireturn, 89, 0, 0, 0, 0, 0, 0, 0, []), (.aload_n 0, 90, 0, 0, 0, 0, 0, 0, 0, []), (.getfield 58, 93, 11, 6, 0, 0, 386, 0, 0, []), (.getfield 343, 96, 1, 2, 0, 0, 248, 0, 0, []), (.iload 4, 98, 4, 0, 0, 0, 0, 0, 0, []), (.invokestatic 149, 101, 66, 2, 1, 0, 497, 0, 0, []), (.ireturn, 102, 0, 0, 0, 0, 0, 0, 0, []), (.aload_n 0, 103, 0, 0, 0, 0, 0, 0, 0, []), (.getfield 58, 106, 11, 6, 0, 0, 386, 0, 0, []), (.getfield 346, 109, 1, 3, 0, 0, 250, 0, 0, []), (.iload 4, 111, 4, 0, 0, 0, 0, 0, 0, []), (.invokestatic 149, 114, 66, 2, 1, 0, 497, 0, 0, []), (.ireturn, 115, 0, 0, 0, 0, 0, 0, 0, []), (.aload_n 0, 116, 0, 0, 0, 0, 0, 0, 0, []), (.getfield 58, 119, 11, 6, 0, 0, 386, 0, 0, []), (.getfield 349, 122, 1, 4, 0, 0, 252, 0, 0, []), (.iload 4, 124, 4, 0, 0, 0, 0, 0, 0, []), (.invokestatic 149, 127, 66, 2, 1, 0, 497, 0, 0, []), (.ireturn, 128, 0, 0, 0, 0, 0, 0, 0, []), (.aload_n 0, 129, 0, 0, 0, 0, 0, 0, 0, []), (.getfield 58, 132, 11, 6, 0, 0, 386, 0, 0, []), (.getfield 352, 135, 1, 5, 0, 0, 254, 0, 0, []), (.iload 4, 137, 4, 0, 0, 0, 0, 0, 0, []), (.invokestatic 149, 140, 66, 2, 1, 0, 497, 0, 0, []), (.ireturn, 141, 0, 0, 0, 0, 0, 0, 0, [])]
set_option maxRecDepth 100000 in
theorem zk_X11_followedFrame_0 : zOks nX11_followedFrame zo_X11_followedFrame_0 0 = true := by decide +kernel
def zm_X11_followedFrame : List (Nat × List Bool) := [(0, [true, true, true, false, false])]
set_option maxRecDepth 100000 in
set_option maxHeartbeats 4000000 in
theorem zr_X11_followedFrame_0 {C : zCa} {post : zPo} {X : zX} (hX : zClosed none C post nX11_followedFrame X) (p0 : Int32) (p1 : Int32) (σ : zS) (h : C nX11_at [.ref 10, .int p0] σ (zPI fun x2 σ1 => C nX11_at [.ref 22, .int p0] σ1 (zPI fun x4 σ3 => ((p1 : Int32) = 0 → (post (some (.int x2)) σ3)) ∧ (¬ (p1 : Int32) = 0 → ((p1 : Int32) = 1 → (C nX11_at [.ref 27, .int x4] σ3 (zPI fun x6 σ5 => post (some (.int x6)) σ5))) ∧ (¬ (p1 : Int32) = 1 → ((p1 : Int32) = 2 → (C nX6_lossOf [.ref 24, .int p0, .int x2] σ3 (zPI fun x8 σ7 => post (some (.int x8)) σ7))) ∧ (¬ (p1 : Int32) = 2 → ((p1 : Int32) = 3 → (C nX11_at [.ref 28, .int x4] σ3 (zPI fun x10 σ9 => post (some (.int x10)) σ9))) ∧ (¬ (p1 : Int32) = 3 → ((p1 : Int32) = 4 → (C nX11_at [.ref 29, .int x4] σ3 (zPI fun x12 σ11 => post (some (.int x12)) σ11))) ∧ (¬ (p1 : Int32) = 4 → ((p1 : Int32) = 5 → (C nX11_at [.ref 30, .int x4] σ3 (zPI fun x14 σ13 => post (some (.int x14)) σ13))) ∧ (¬ (p1 : Int32) = 5 → C nX11_at [.ref 31, .int x4] σ3 (zPI fun x16 σ15 => post (some (.int x16)) σ15)))))))))) : X 0 [some (.ref 0), some (.int p0), some (.int p1), none, none] [] σ := zSeq_ok hX zm_X11_followedFrame zo_X11_followedFrame_0 0 0 _ _ _ zk_X11_followedFrame_0 h
theorem ze_X11_followedFrame {d : Nat} {post : zPo} (p0 : Int32) (p1 : Int32) (σ : zS) (h : ∀ X : zX, zClosed none (zCall d) post nX11_followedFrame X → X 0 [some (.ref 0), some (.int p0), some (.int p1), none, none] [] σ) : zCall (d + 1) nX11_followedFrame [.ref 0, .int p0, .int p1] σ post := h
-- X11_followedTotal(0,) depth 5
def zo_X11_followedTotal_0 : List zOp := [(.iload_n 1, 1, 1, 0, 0, 0, 0, 0, 0, []), (.iconst 4, 2, 0, 0, 0, 0, 0, 4, 0, []), (.if_icmp .ne 12, 5, 14, 0, 0, 0, 0, 0, 0, []), (.aload_n 0, 6, 0, 0, 0, 0, 0, 0, 0, []), (.getfield 58, 9, 11, 6, 0, 0, 386, 0, 0, []), (.getfield 337, 12, 1, 0, 1, 0, 244, 0, 0, []), (.i2l, 13, 0, 0, 0, 0, 0, 0, 0, []), (.lreturn, 14, 0, 0, 0, 0, 0, 0, 0, []), (.iload_n 1, 15, 1, 0, 0, 0, 0, 0, 0, []), (.bipush 6, 17, 0, 0, 0, 0, 0, 6, 0, []), (.if_icmp .ne 8, 20, 25, 0, 0, 0, 0, 0, 0, []), (.aload_n 0, 21, 0, 0, 0, 0, 0, 0, 0, []), (.invokevirtual 355, 24, 58, 1, 2, 11, 611, 0, 0, []), (.lreturn, 25, 0, 0, 0, 0, 0, 0, 0, []), (.lconst 0, 26, 0, 0, 0, 0, 0, 0, 0, []), (.lstore_n 2, 27, 2, 0, 0, 0, 0, 0, 0, []), (.iconst 0, 28, 0, 0, 0, 0, 0, 0, 0, []), (.istore 4, 30, 4, 0, 0, 0, 0, 0, 0, [])]
set_option maxRecDepth 100000 in
theorem zk_X11_followedTotal_0 : zOks nX11_followedTotal zo_X11_followedTotal_0 0 = true := by decide +kernel
def zo_X11_followedTotal_30 : List zOp := [(.iload 4, 32, 4, 0, 0, 0, 0, 0, 0, []), (.aload_n 0, 33, 0, 0, 0, 0, 0, 0, 0, []), (.getfield 10, 36, 11, 0, 0, 0, 380, 0, 0, []), (.getfield 101, 39, 0, 0, 1, 0, 45, 0, 0, []), (.if_icmp .ge 107, 42, 146, 0, 0, 0, 0, 0, 0, []), (.iload_n 1, 43, 1, 0, 0, 0, 0, 0, 0, []), (.tableswitch 86 0 3 #[29, 43, 57, 71], 72, 129, 0, 0, 0, 0, 0, 0, [(0, 72), (1, 86), (2, 100), (3, 114)]), (.lload_n 2, 73, 2, 0, 0, 0, 0, 0, 0, []), (.aload_n 0, 74, 0, 0, 0, 0, 0, 0, 0, []), (.iload 4, 76, 4, 0, 0, 0, 0, 0, 0, []), (.iconst 1, 77, 0, 0, 0, 0, 0, 1, 0, []), (.invokevirtual 252, 80, 56, 3, 1, 11, 589, 0, 0, []), (.i2l, 81, 0, 0, 0, 0, 0, 0, 0, []), (.ladd, 82, 0, 0, 0, 0, 0, 0, 0, []), (.lstore_n 2, 83, 2, 0, 0, 0, 0, 0, 0, []), (.goto 57, 86, 140, 0, 0, 0, 0, 0, 0, []), (.lload_n 2, 87, 2, 0, 0, 0, 0, 0, 0, []), (.aload_n 0, 88, 0, 0, 0, 0, 0, 0, 0, []), (.iload 4, 90, 4, 0, 0, 0, 0, 0, 0, []), (.iconst 2, 91, 0, 0, 0, 0, 0, 2, 0, []), (.invokevirtual 252, 94, 56, 3, 1, 11, 589, 0, 0, []), (.i2l, 95, 0, 0, 0, 0, 0, 0, 0, []), (.ladd, 96, 0, 0, 0, 0, 0, 0, 0, []), (.lstore_n 2, 97, 2, 0, 0, 0, 0, 0, 0, []), (.goto 43, 100, 140, 0, 0, 0, 0, 0, 0, []), (.lload_n 2, 101, 2, 0, 0, 0, 0, 0, 0, []), (.aload_n 0, 102, 0, 0, 0, 0, 0, 0, 0, []), (.iload 4, 104, 4, 0, 0, 0, 0, 0, 0, []), (.iconst 5, 105, 0, 0, 0, 0, 0, 5, 0, []), (.invokevirtual 252, 108, 56, 3, 1, 11, 589, 0, 0, []), (.i2l, 109, 0, 0, 0, 0, 0, 0, 0, []), (.ladd, 110, 0, 0, 0, 0, 0, 0, 0, []), (.lstore_n 2, 111, 2, 0, 0, 0, 0, 0, 0, []), (.goto 29, 114, 140, 0, 0, 0, 0, 0, 0, []), (.lload_n 2, 115, 2, 0, 0, 0, 0, 0, 0, []), (.aload_n 0, 116, 0, 0, 0, 0, 0, 0, 0, []), (.iload 4, 118, 4, 0, 0, 0, 0, 0, 0, []), (.bipush 6, 120, 0, 0, 0, 0, 0, 6, 0, []), (.invokevirtual 252, 123, 56, 3, 1, 11, 589, 0, 0, []), (.i2l, 124, 0, 0, 0, 0, 0, 0, 0, []), (.ladd, 125, 0, 0, 0, 0, 0, 0, 0, []), (.lstore_n 2, 126, 2, 0, 0, 0, 0, 0, 0, []), (.goto 14, 129, 140, 0, 0, 0, 0, 0, 0, []), (.lload_n 2, 130, 2, 0, 0, 0, 0, 0, 0, []), (.aload_n 0, 131, 0, 0, 0, 0, 0, 0, 0, []), (.iload 4, 133, 4, 0, 0, 0, 0, 0, 0, []), (.iconst 0, 134, 0, 0, 0, 0, 0, 0, 0, []), (.invokevirtual 252, 137, 56, 3, 1, 11, 589, 0, 0, []), (.i2l, 138, 0, 0, 0, 0, 0, 0, 0, []), (.ladd, 139, 0, 0, 0, 0, 0, 0, 0, []), (.lstore_n 2, 140, 2, 0, 0, 0, 0, 0, 0, []), (.iinc 4 1, 143, 4, 0, 0, 0, 0, 1, 0, []), (.goto (-113), 146, 30, 0, 0, 0, 0, 0, 0, []), (.lload_n 2, 147, 2, 0, 0, 0, 0, 0, 0, []), (.lreturn, 148, 0, 0, 0, 0, 0, 0, 0, [])]
set_option maxRecDepth 100000 in
theorem zk_X11_followedTotal_30 : zOks nX11_followedTotal zo_X11_followedTotal_30 30 = true := by decide +kernel
def zm_X11_followedTotal : List (Nat × List Bool) := [(0, [true, true, false, false, false]), (30, [true, true, true, false, true])]
set_option maxRecDepth 100000 in
set_option maxHeartbeats 4000000 in
theorem zr_X11_followedTotal_0 {C : zCa} {post : zPo} {X : zX} (hX : zClosed none C post nX11_followedTotal X) (p0 : Int32) (σ : zS) (h : zIf ((p0 : Int32) = 4) (post (some (.long (Int32.toInt64 (σ.1 26 0)))) σ) (zIf ((p0 : Int32) = 6) (C nX11_changesOfPlan [.ref 0] σ (zPJ fun x2 σ1 => post (some (.long x2)) σ1)) (X 30 [some (.ref 0), some (.int p0), some (.long 0), none, some (.int 0)] [] σ))) : X 0 [some (.ref 0), some (.int p0), none, none, none] [] σ := zSeq_ok hX zm_X11_followedTotal zo_X11_followedTotal_0 0 0 _ _ _ zk_X11_followedTotal_0 h
set_option maxRecDepth 100000 in
set_option maxHeartbeats 4000000 in
theorem zr_X11_followedTotal_30 {C : zCa} {post : zPo} {X : zX} (hX : zClosed none C post nX11_followedTotal X) (v1 : Int32) (v2 : Int64) (v4 : Int32) (σ : zS) (h : zIf ((v4 : Int32) < (σ.1 1 0)) (((v1 : Int32) = 0 → (C nX11_followedFrame [.ref 0, .int v4, .int 1] σ (zPI fun x2 σ1 => X 30 [some (.ref 0), some (.int v1), some (.long (v2 + (Int32.toInt64 x2))), none, some (.int (v4 + 1))] [] σ1))) ∧ (¬ (v1 : Int32) = 0 → ((v1 : Int32) = 1 → (C nX11_followedFrame [.ref 0, .int v4, .int 2] σ (zPI fun x4 σ3 => X 30 [some (.ref 0), some (.int v1), some (.long (v2 + (Int32.toInt64 x4))), none, some (.int (v4 + 1))] [] σ3))) ∧ (¬ (v1 : Int32) = 1 → ((v1 : Int32) = 2 → (C nX11_followedFrame [.ref 0, .int v4, .int 5] σ (zPI fun x6 σ5 => X 30 [some (.ref 0), some (.int v1), some (.long (v2 + (Int32.toInt64 x6))), none, some (.int (v4 + 1))] [] σ5))) ∧ (¬ (v1 : Int32) = 2 → ((v1 : Int32) = 3 → (C nX11_followedFrame [.ref 0, .int v4, .int 6] σ (zPI fun x8 σ7 => X 30 [some (.ref 0), some (.int v1), some (.long (v2 + (Int32.toInt64 x8))), none, some (.int (v4 + 1))] [] σ7))) ∧ (¬ (v1 : Int32) = 3 → C nX11_followedFrame [.ref 0, .int v4, .int 0] σ (zPI fun x10 σ9 => X 30 [some (.ref 0), some (.int v1), some (.long (v2 + (Int32.toInt64 x10))), none, some (.int (v4 + 1))] [] σ9)))))) (post (some (.long v2)) σ)) : X 30 [some (.ref 0), some (.int v1), some (.long v2), none, some (.int v4)] [] σ := zSeq_ok hX zm_X11_followedTotal zo_X11_followedTotal_30 30 30 _ _ _ zk_X11_followedTotal_30 h
theorem ze_X11_followedTotal {d : Nat} {post : zPo} (p0 : Int32) (σ : zS) (h : ∀ X : zX, zClosed none (zCall d) post nX11_followedTotal X → X 0 [some (.ref 0), some (.int p0), none, none, none] [] σ) : zCall (d + 1) nX11_followedTotal [.ref 0, .int p0] σ post := h
-- X11_planned(0,) depth 6
def zo_X11_planned_0 : List zOp := [(.aload_n 0, 1, 0, 0, 0, 0, 0, 0, 0, []), (.iload_n 1, 2, 1, 0, 0, 0, 0, 0, 0, []), (.invokevirtual 112, 5, 61, 2, 1, 11, 483, 0, 0, []), (.ifCond .eq 13, 8, 18, 0, 0, 0, 0, 0, 0, []), (.iload_n 2, 9, 2, 0, 0, 0, 0, 0, 0, []), (.iconst 0, 10, 0, 0, 0, 0, 0, 0, 0, []), (.bipush 6, 12, 0, 0, 0, 0, 0, 6, 0, []), (.invokestatic 130, 15, 64, 3, 1, 0, 424, 0, 0, []), (.ifCond .ne 6, 18, 21, 0, 0, 0, 0, 0, 0, []), (.bipush (-2), 20, 0, 0, 0, 0, 0, (-2), 0, []), (.ireturn, 21, 0, 0, 0, 0, 0, 0, 0, []), (.aload_n 0, 22, 0, 0, 0, 0, 0, 0, 0, []), (.getfield 26, 25, 11, 2, 0, 0, 382, 0, 0, []), (.getfield 234, 28, 7, 0, 2, 0, 123, 0, 0, []), (.ifCond .ne 6, 31, 34, 0, 0, 0, 0, 0, 0, []), (.bipush (-3), 33, 0, 0, 0, 0, 0, (-3), 0, []), (.ireturn, 34, 0, 0, 0, 0, 0, 0, 0, []), (.aload_n 0, 35, 0, 0, 0, 0, 0, 0, 0, []), (.getfield 58, 38, 11, 6, 0, 0, 386, 0, 0, []), (.aload_n 0, 39, 0, 0, 0, 0, 0, 0, 0, []), (.getfield 26, 42, 11, 2, 0, 0, 382, 0, 0, []), (.getfield 217, 45, 7, 1, 0, 0, 125, 0, 0, []), (.invokevirtual 248, 48, 4, 2, 0, 1, 546, 0, 0, []), (.aload_n 0, 49, 0, 0, 0, 0, 0, 0, 0, []), (.iload_n 1, 50, 1, 0, 0, 0, 0, 0, 0, []), (.iload_n 2, 51, 2, 0, 0, 0, 0, 0, 0, []), (.invokevirtual 252, 54, 56, 3, 1, 11, 589, 0, 0, []), (.ireturn, 55, 0, 0, 0, 0, 0, 0, 0, [])]
set_option maxRecDepth 100000 in
theorem zk_X11_planned_0 : zOks nX11_planned zo_X11_planned_0 0 = true := by decide +kernel
def zm_X11_planned : List (Nat × List Bool) := [(0, [true, true, true])]
set_option maxRecDepth 100000 in
set_option maxHeartbeats 4000000 in
theorem zr_X11_planned_0 {C : zCa} {post : zPo} {X : zX} (hX : zClosed none C post nX11_planned X) (p0 : Int32) (p1 : Int32) (σ : zS) (h : C nX11_isFrame [.ref 0, .int p0] σ (zPI fun x2 σ1 => zIf ((x2 : Int32) = 0) (post (some (.int (-2))) σ1) (C nX11_within [.int p1, .int 0, .int 6] σ1 (zPI fun x4 σ3 => zIf ((x4 : Int32) = 0) (post (some (.int (-2))) σ3) (zIf ((σ3.1 9 0 : Int32) = 0) (post (some (.int (-3))) σ3) (C nX1_follow [.ref 26, .ref 10] σ3 (zPV fun σ5 => C nX11_followedFrame [.ref 0, .int p0, .int p1] σ5 (zPI fun x7 σ6 => post (some (.int x7)) σ6)))))))) : X 0 [some (.ref 0), some (.int p0), some (.int p1)] [] σ := zSeq_ok hX zm_X11_planned zo_X11_planned_0 0 0 _ _ _ zk_X11_planned_0 h
theorem ze_X11_planned {d : Nat} {post : zPo} (p0 : Int32) (p1 : Int32) (σ : zS) (h : ∀ X : zX, zClosed none (zCall d) post nX11_planned X → X 0 [some (.ref 0), some (.int p0), some (.int p1)] [] σ) : zCall (d + 1) nX11_planned [.ref 0, .int p0, .int p1] σ post := h
-- X11_set(0,) depth 6
def zo_X11_set_0 : List zOp := [(.aload_n 0, 1, 0, 0, 0, 0, 0, 0, 0, []), (.iload_n 1, 2, 1, 0, 0, 0, 0, 0, 0, []), (.invokevirtual 112, 5, 61, 2, 1, 11, 483, 0, 0, []), (.ifCond .eq 11, 8, 16, 0, 0, 0, 0, 0, 0, []), (.iload_n 2, 9, 2, 0, 0, 0, 0, 0, 0, []), (.iload_n 3, 10, 3, 0, 0, 0, 0, 0, 0, []), (.invokestatic 97, 13, 62, 2, 1, 0, 421, 0, 0, []), (.ifCond .ne 6, 16, 19, 0, 0, 0, 0, 0, 0, []), (.bipush (-2), 18, 0, 0, 0, 0, 0, (-2), 0, []), (.ireturn, 19, 0, 0, 0, 0, 0, 0, 0, []), (.aload_n 0, 20, 0, 0, 0, 0, 0, 0, 0, []), (.getfield 10, 23, 11, 0, 0, 0, 380, 0, 0, []), (.getfield 116, 26, 0, 1, 0, 0, 47, 0, 0, []), (.iload_n 1, 27, 1, 0, 0, 0, 0, 0, 0, []), (.iload_n 2, 28, 2, 0, 0, 0, 0, 0, 0, []), (.invokestatic 120, 31, 67, 3, 0, 0, 487, 0, 0, []), (.aload_n 0, 32, 0, 0, 0, 0, 0, 0, 0, []), (.getfield 10, 35, 11, 0, 0, 0, 380, 0, 0, []), (.getfield 124, 38, 0, 2, 0, 0, 50, 0, 0, []), (.iload_n 1, 39, 1, 0, 0, 0, 0, 0, 0, []), (.iload_n 3, 40, 3, 0, 0, 0, 0, 0, 0, []), (.invokestatic 120, 43, 67, 3, 0, 0, 487, 0, 0, []), (.aload_n 0, 44, 0, 0, 0, 0, 0, 0, 0, []), (.invokevirtual 109, 47, 54, 1, 0, 11, 434, 0, 0, []), (.aload_n 0, 48, 0, 0, 0, 0, 0, 0, 0, []), (.getfield 10, 51, 11, 0, 0, 0, 380, 0, 0, []), (.iload_n 1, 52, 1, 0, 0, 0, 0, 0, 0, []), (.invokevirtual 127, 55, 2, 2, 1, 0, 488, 0, 0, []), (.ifCond .eq 7, 58, 62, 0, 0, 0, 0, 0, 0, []), (.iconst 1, 59, 0, 0, 0, 0, 0, 1, 0, []), (.goto 4, 62, 63, 0, 0, 0, 0, 0, 0, []), (.iconst 0, 63, 0, 0, 0, 0, 0, 0, 0, []), (.ireturn, 64, 0, 0, 0, 0, 0, 0, 0, [])]
set_option maxRecDepth 100000 in
theorem zk_X11_set_0 : zOks nX11_set zo_X11_set_0 0 = true := by decide +kernel
def zm_X11_set : List (Nat × List Bool) := [(0, [true, true, true, true])]
set_option maxRecDepth 100000 in
set_option maxHeartbeats 4000000 in
theorem zr_X11_set_0 {C : zCa} {post : zPo} {X : zX} (hX : zClosed none C post nX11_set X) (p0 : Int32) (p1 : Int32) (p2 : Int32) (σ : zS) (h : C nX11_isFrame [.ref 0, .int p0] σ (zPI fun x2 σ1 => zIf ((x2 : Int32) = 0) (post (some (.int (-2))) σ1) (C nX11_isPicture [.int p1, .int p2] σ1 (zPI fun x4 σ3 => zIf ((x4 : Int32) = 0) (post (some (.int (-2))) σ3) (C nX11_put [.ref 2, .int p0, .int p1] σ3 (zPV fun σ5 => C nX11_put [.ref 3, .int p0, .int p2] σ5 (zPV fun σ6 => C nX11_arrangeAnew [.ref 0] σ6 (zPV fun σ7 => C nX0_isCut [.ref 1, .int p0] σ7 (zPI fun x9 σ8 => zIf ((x9 : Int32) = 0) (post (some (.int 0)) σ8) (post (some (.int 1)) σ8)))))))))) : X 0 [some (.ref 0), some (.int p0), some (.int p1), some (.int p2)] [] σ := zSeq_ok hX zm_X11_set zo_X11_set_0 0 0 _ _ _ zk_X11_set_0 h
theorem ze_X11_set {d : Nat} {post : zPo} (p0 : Int32) (p1 : Int32) (p2 : Int32) (σ : zS) (h : ∀ X : zX, zClosed none (zCall d) post nX11_set X → X 0 [some (.ref 0), some (.int p0), some (.int p1), some (.int p2)] [] σ) : zCall (d + 1) nX11_set [.ref 0, .int p0, .int p1, .int p2] σ post := h
-- X11_total(0,) depth 6
def zo_X11_total_0 : List zOp := [(.iload_n 1, 1, 1, 0, 0, 0, 0, 0, 0, []), (.iconst 0, 2, 0, 0, 0, 0, 0, 0, 0, []), (.bipush 6, 4, 0, 0, 0, 0, 0, 6, 0, []), (.invokestatic 130, 7, 64, 3, 1, 0, 424, 0, 0, []), (.ifCond .ne 7, 10, 14, 0, 0, 0, 0, 0, 0, []), (.ldc2_w 255, 13, 0, 0, 0, 0, 605, 0, (-2), []), (.lreturn, 14, 0, 0, 0, 0, 0, 0, 0, []), (.aload_n 0, 15, 0, 0, 0, 0, 0, 0, 0, []), (.getfield 26, 18, 11, 2, 0, 0, 382, 0, 0, []), (.getfield 234, 21, 7, 0, 2, 0, 123, 0, 0, []), (.ifCond .ne 7, 24, 28, 0, 0, 0, 0, 0, 0, []), (.ldc2_w 257, 27, 0, 0, 0, 0, 606, 0, (-3), []), (.lreturn, 28, 0, 0, 0, 0, 0, 0, 0, []), (.aload_n 0, 29, 0, 0, 0, 0, 0, 0, 0, []), (.getfield 58, 32, 11, 6, 0, 0, 386, 0, 0, []), (.aload_n 0, 33, 0, 0, 0, 0, 0, 0, 0, []), (.getfield 26, 36, 11, 2, 0, 0, 382, 0, 0, []), (.getfield 217, 39, 7, 1, 0, 0, 125, 0, 0, []), (.invokevirtual 248, 42, 4, 2, 0, 1, 546, 0, 0, []), (.aload_n 0, 43, 0, 0, 0, 0, 0, 0, 0, []), (.iload_n 1, 44, 1, 0, 0, 0, 0, 0, 0, []), (.invokevirtual 259, 47, 57, 2, 2, 11, 607, 0, 0, []), (.lreturn, 48, 0, 0, 0, 0, 0, 0, 0, [])]
set_option maxRecDepth 100000 in
theorem zk_X11_total_0 : zOks nX11_total zo_X11_total_0 0 = true := by decide +kernel
def zm_X11_total : List (Nat × List Bool) := [(0, [true, true])]
set_option maxRecDepth 100000 in
set_option maxHeartbeats 4000000 in
theorem zr_X11_total_0 {C : zCa} {post : zPo} {X : zX} (hX : zClosed none C post nX11_total X) (p0 : Int32) (σ : zS) (h : C nX11_within [.int p0, .int 0, .int 6] σ (zPI fun x2 σ1 => zIf ((x2 : Int32) = 0) (post (some (.long (-2))) σ1) (zIf ((σ1.1 9 0 : Int32) = 0) (post (some (.long (-3))) σ1) (C nX1_follow [.ref 26, .ref 10] σ1 (zPV fun σ3 => C nX11_followedTotal [.ref 0, .int p0] σ3 (zPJ fun x5 σ4 => post (some (.long x5)) σ4)))))) : X 0 [some (.ref 0), some (.int p0)] [] σ := zSeq_ok hX zm_X11_total zo_X11_total_0 0 0 _ _ _ zk_X11_total_0 h
theorem ze_X11_total {d : Nat} {post : zPo} (p0 : Int32) (σ : zS) (h : ∀ X : zX, zClosed none (zCall d) post nX11_total X → X 0 [some (.ref 0), some (.int p0)] [] σ) : zCall (d + 1) nX11_total [.ref 0, .int p0] σ post := h
end
section
/-! the code of the methods read ahead, and a theorem a region: printed by wip/whole/sym.py -/
-- L_isCut(63,) depth 1
def zo_L_isCut_0 : List zOp := [(.iload_n 1, 1, 1, 0, 0, 0, 0, 0, 0, []), (.ifCond .le 23, 4, 24, 0, 0, 0, 0, 0, 0, []), (.iconst 2, 5, 0, 0, 0, 0, 0, 2, 0, []), (.aload_n 0, 6, 0, 0, 0, 0, 0, 0, 0, []), (.bipush 18, 8, 0, 0, 0, 0, 0, 18, 0, []), (.iload_n 1, 9, 1, 0, 0, 0, 0, 0, 0, []), (.iadd, 10, 0, 0, 0, 0, 0, 0, 0, []), (.iaload, 11, 0, 0, 0, 0, 0, 0, 0, []), (.imul, 12, 0, 0, 0, 0, 0, 0, 0, []), (.iconst 3, 13, 0, 0, 0, 0, 0, 3, 0, []), (.aload_n 0, 14, 0, 0, 0, 0, 0, 0, 0, []), (.iload_n 1, 15, 1, 0, 0, 0, 0, 0, 0, []), (.iaload, 16, 0, 0, 0, 0, 0, 0, 0, []), (.imul, 17, 0, 0, 0, 0, 0, 0, 0, []), (.if_icmp .le 7, 20, 24, 0, 0, 0, 0, 0, 0, []), (.iconst 1, 21, 0, 0, 0, 0, 0, 1, 0, []), (.goto 4, 24, 25, 0, 0, 0, 0, 0, 0, []), (.iconst 0, 25, 0, 0, 0, 0, 0, 0, 0, []), (.ireturn, 26, 0, 0, 1, 0, 0, 0, 0, [])]
set_option maxRecDepth 100000 in
theorem zk_L_isCut_0 : zOks nL_isCut zo_L_isCut_0 0 = true := by decide +kernel
def zm_L_isCut : List (Nat × List Bool) := [(0, [true, true])]
set_option maxRecDepth 100000 in
set_option maxHeartbeats 4000000 in
theorem zr_L_isCut_0 {C : zCa} {post : zPo} {X : zX} (hX : zClosed none C post nL_isCut X) (p1 : Int32) (σ : zS) (h : zIf ((p1 : Int32) ≤ 0) (post (some (.int 0)) σ) (vp_in (18 + p1) (zN 63) ∧ (vp_in p1 (zN 63) ∧ (zIf ((2 * (σ.1 63 (Int32.toNatClampNeg (18 + p1))) : Int32) ≤ (3 * (σ.1 63 (Int32.toNatClampNeg p1)))) (post (some (.int 0)) σ) (post (some (.int 1)) σ))))) : X 0 [some (.ref 63), some (.int p1)] [] σ := zSeq_ok hX zm_L_isCut zo_L_isCut_0 0 0 _ _ _ zk_L_isCut_0 h
theorem ze_L_isCut {d : Nat} {post : zPo} (p1 : Int32) (σ : zS) (h : ∀ X : zX, zClosed none (zCall d) post nL_isCut X → X 0 [some (.ref 63), some (.int p1)] [] σ) : zCall (d + 1) nL_isCut [.ref 63, .int p1] σ post := h
-- L_sceneOf(63,) depth 2
def zo_L_sceneOf_0 : List zOp := [(.iconst 0, 1, 0, 0, 0, 0, 0, 0, 0, []), (.istore_n 2, 2, 2, 0, 0, 0, 0, 0, 0, []), (.iconst 1, 3, 0, 0, 0, 0, 0, 1, 0, []), (.istore_n 3, 4, 3, 0, 0, 0, 0, 0, 0, [])]
set_option maxRecDepth 100000 in
theorem zk_L_sceneOf_0 : zOks nL_sceneOf zo_L_sceneOf_0 0 = true := by decide +kernel
def zo_L_sceneOf_4 : List zOp := [(.iload_n 3, 5, 3, 0, 0, 0, 0, 0, 0, []), (.iload_n 1, 6, 1, 0, 0, 0, 0, 0, 0, []), (.if_icmp .gt 25, 9, 31, 0, 0, 0, 0, 0, 0, []), (.iload_n 2, 10, 2, 0, 0, 0, 0, 0, 0, []), (.aload_n 0, 11, 0, 0, 0, 0, 0, 0, 0, []), (.iload_n 3, 12, 3, 0, 0, 0, 0, 0, 0, []), (.invokestatic 9, 15, 71, 2, 1, 0, 656, 0, 0, []), (.ifCond .eq 7, 18, 22, 0, 0, 0, 0, 0, 0, []), (.iconst 1, 19, 0, 0, 0, 0, 0, 1, 0, []), (.goto 4, 22, 23, 0, 0, 0, 0, 0, 0, []), (.iconst 0, 23, 0, 0, 0, 0, 0, 0, 0, []), (.iadd, 24, 0, 0, 0, 0, 0, 0, 0, []), (.istore_n 2, 25, 2, 0, 0, 0, 0, 0, 0, []), (.iinc 3 1, 28, 3, 0, 0, 0, 0, 1, 0, []), (.goto (-24), 31, 4, 0, 0, 0, 0, 0, 0, []), (.iload_n 2, 32, 2, 0, 0, 0, 0, 0, 0, []), (.ireturn, 33, 0, 0, 0, 0, 0, 0, 0, [])]
set_option maxRecDepth 100000 in
theorem zk_L_sceneOf_4 : zOks nL_sceneOf zo_L_sceneOf_4 4 = true := by decide +kernel
def zm_L_sceneOf : List (Nat × List Bool) := [(0, [true, true, false, false]), (4, [true, true, true, true])]
set_option maxRecDepth 100000 in
set_option maxHeartbeats 4000000 in
theorem zr_L_sceneOf_0 {C : zCa} {post : zPo} {X : zX} (hX : zClosed none C post nL_sceneOf X) (p1 : Int32) (σ : zS) (h : X 4 [some (.ref 63), some (.int p1), some (.int 0), some (.int 1)] [] σ) : X 0 [some (.ref 63), some (.int p1), none, none] [] σ := zSeq_ok hX zm_L_sceneOf zo_L_sceneOf_0 0 0 _ _ _ zk_L_sceneOf_0 h
set_option maxRecDepth 100000 in
set_option maxHeartbeats 4000000 in
theorem zr_L_sceneOf_4 {C : zCa} {post : zPo} {X : zX} (hX : zClosed none C post nL_sceneOf X) (v1 : Int32) (v2 : Int32) (v3 : Int32) (σ : zS) (h : zIf ((v3 : Int32) ≤ v1) (C nL_isCut [.ref 63, .int v3] σ (zPI fun x2 σ1 => zIf ((x2 : Int32) = 0) (X 4 [some (.ref 63), some (.int v1), some (.int (v2 + 0)), some (.int (v3 + 1))] [] σ1) (X 4 [some (.ref 63), some (.int v1), some (.int (v2 + 1)), some (.int (v3 + 1))] [] σ1))) (post (some (.int v2)) σ)) : X 4 [some (.ref 63), some (.int v1), some (.int v2), some (.int v3)] [] σ := zSeq_ok hX zm_L_sceneOf zo_L_sceneOf_4 4 4 _ _ _ zk_L_sceneOf_4 h
theorem ze_L_sceneOf {d : Nat} {post : zPo} (p1 : Int32) (σ : zS) (h : ∀ X : zX, zClosed none (zCall d) post nL_sceneOf X → X 0 [some (.ref 63), some (.int p1), none, none] [] σ) : zCall (d + 1) nL_sceneOf [.ref 63, .int p1] σ post := h
-- L_groupOf(63,) depth 2
def zo_L_groupOf_0 : List zOp := [(.iconst 0, 1, 0, 0, 0, 0, 0, 0, 0, []), (.istore_n 2, 2, 2, 0, 0, 0, 0, 0, 0, []), (.iconst 1, 3, 0, 0, 0, 0, 0, 1, 0, []), (.istore_n 3, 4, 3, 0, 0, 0, 0, 0, 0, [])]
set_option maxRecDepth 100000 in
theorem zk_L_groupOf_0 : zOks nL_groupOf zo_L_groupOf_0 0 = true := by decide +kernel
def zo_L_groupOf_4 : List zOp := [(.iload_n 3, 5, 3, 0, 0, 0, 0, 0, 0, []), (.iload_n 1, 6, 1, 0, 0, 0, 0, 0, 0, []), (.if_icmp .gt 33, 9, 39, 0, 0, 0, 0, 0, 0, []), (.aload_n 0, 10, 0, 0, 0, 0, 0, 0, 0, []), (.iload_n 3, 11, 3, 0, 0, 0, 0, 0, 0, []), (.invokestatic 9, 14, 71, 2, 1, 0, 656, 0, 0, []), (.ifCond .ne 13, 17, 27, 0, 0, 0, 0, 0, 0, []), (.iload_n 3, 18, 3, 0, 0, 0, 0, 0, 0, []), (.iload_n 2, 19, 2, 0, 0, 0, 0, 0, 0, []), (.aload_n 0, 20, 0, 0, 0, 0, 0, 0, 0, []), (.bipush 37, 22, 0, 0, 0, 0, 0, 37, 0, []), (.iaload, 23, 0, 0, 0, 0, 0, 0, 0, []), (.iadd, 24, 0, 0, 0, 0, 0, 0, 0, []), (.if_icmp .ne 7, 27, 31, 0, 0, 0, 0, 0, 0, []), (.iload_n 3, 28, 3, 0, 0, 0, 0, 0, 0, []), (.goto 4, 31, 32, 0, 0, 0, 0, 0, 0, []), (.iload_n 2, 32, 2, 0, 0, 0, 0, 0, 0, []), (.istore_n 2, 33, 2, 0, 0, 0, 0, 0, 0, []), (.iinc 3 1, 36, 3, 0, 0, 0, 0, 1, 0, []), (.goto (-32), 39, 4, 0, 0, 0, 0, 0, 0, []), (.iload_n 2, 40, 2, 0, 0, 0, 0, 0, 0, []), (.ireturn, 41, 0, 0, 0, 0, 0, 0, 0, [])]
set_option maxRecDepth 100000 in
theorem zk_L_groupOf_4 : zOks nL_groupOf zo_L_groupOf_4 4 = true := by decide +kernel
def zm_L_groupOf : List (Nat × List Bool) := [(0, [true, true, false, false]), (4, [true, true, true, true])]
set_option maxRecDepth 100000 in
set_option maxHeartbeats 4000000 in
theorem zr_L_groupOf_0 {C : zCa} {post : zPo} {X : zX} (hX : zClosed none C post nL_groupOf X) (p1 : Int32) (σ : zS) (h : X 4 [some (.ref 63), some (.int p1), some (.int 0), some (.int 1)] [] σ) : X 0 [some (.ref 63), some (.int p1), none, none] [] σ := zSeq_ok hX zm_L_groupOf zo_L_groupOf_0 0 0 _ _ _ zk_L_groupOf_0 h
set_option maxRecDepth 100000 in
set_option maxHeartbeats 4000000 in
theorem zr_L_groupOf_4 {C : zCa} {post : zPo} {X : zX} (hX : zClosed none C post nL_groupOf X) (v1 : Int32) (v2 : Int32) (v3 : Int32) (σ : zS) (h : zIf ((v3 : Int32) ≤ v1) (C nL_isCut [.ref 63, .int v3] σ (zPI fun x2 σ1 => zIf ((x2 : Int32) = 0) (vp_in 37 (zN 63) ∧ (zIf ((v3 : Int32) = (v2 + (σ1.1 63 (Int32.toNatClampNeg 37)))) (X 4 [some (.ref 63), some (.int v1), some (.int v3), some (.int (v3 + 1))] [] σ1) (X 4 [some (.ref 63), some (.int v1), some (.int v2), some (.int (v3 + 1))] [] σ1))) (X 4 [some (.ref 63), some (.int v1), some (.int v3), some (.int (v3 + 1))] [] σ1))) (post (some (.int v2)) σ)) : X 4 [some (.ref 63), some (.int v1), some (.int v2), some (.int v3)] [] σ := zSeq_ok hX zm_L_groupOf zo_L_groupOf_4 4 4 _ _ _ zk_L_groupOf_4 h
theorem ze_L_groupOf {d : Nat} {post : zPo} (p1 : Int32) (σ : zS) (h : ∀ X : zX, zClosed none (zCall d) post nL_groupOf X → X 0 [some (.ref 63), some (.int p1), none, none] [] σ) : zCall (d + 1) nL_groupOf [.ref 63, .int p1] σ post := h
-- L_type(63,) depth 3
def zo_L_type_0 : List zOp := [(.aload_n 0, 1, 0, 0, 0, 0, 0, 0, 0, []), (.iload_n 1, 2, 1, 0, 0, 0, 0, 0, 0, []), (.invokestatic 15, 5, 72, 2, 1, 0, 669, 0, 0, []), (.istore_n 2, 6, 2, 0, 0, 0, 0, 0, 0, []), (.iload_n 1, 7, 1, 0, 0, 0, 0, 0, 0, []), (.iload_n 2, 8, 2, 0, 0, 0, 0, 0, 0, []), (.if_icmp .ne 5, 11, 13, 0, 0, 0, 0, 0, 0, []), (.iconst 0, 12, 0, 0, 0, 0, 0, 0, 0, []), (.ireturn, 13, 0, 0, 0, 0, 0, 0, 0, []), (.iload_n 1, 14, 1, 0, 0, 0, 0, 0, 0, []), (.iconst 1, 15, 0, 0, 0, 0, 0, 1, 0, []), (.iadd, 16, 0, 0, 0, 0, 0, 0, 0, []), (.aload_n 0, 17, 0, 0, 0, 0, 0, 0, 0, []), (.bipush 36, 19, 0, 0, 0, 0, 0, 36, 0, []), (.iaload, 20, 0, 0, 0, 0, 0, 0, 0, []), (.if_icmp .eq 14, 23, 34, 0, 0, 0, 0, 0, 0, []), (.aload_n 0, 24, 0, 0, 0, 0, 0, 0, 0, []), (.iload_n 1, 25, 1, 0, 0, 0, 0, 0, 0, []), (.iconst 1, 26, 0, 0, 0, 0, 0, 1, 0, []), (.iadd, 27, 0, 0, 0, 0, 0, 0, 0, []), (.invokestatic 15, 30, 72, 2, 1, 0, 669, 0, 0, []), (.iload_n 2, 31, 2, 0, 0, 0, 0, 0, 0, []), (.if_icmp .eq 7, 34, 38, 0, 0, 0, 0, 0, 0, [])]
set_option maxRecDepth 100000 in
theorem zk_L_type_0 : zOks nL_type zo_L_type_0 0 = true := by decide +kernel
def zo_L_type_34 : List zOp := [(.iconst 1, 35, 0, 0, 0, 0, 0, 1, 0, []), (.goto 4, 38, 39, 0, 0, 0, 0, 0, 0, []), (.iconst 0, 39, 0, 0, 0, 0, 0, 0, 0, [])]
set_option maxRecDepth 100000 in
theorem zk_L_type_34 : zOks nL_type zo_L_type_34 34 = true := by decide +kernel
def zo_L_type_39 : List zOp := [(.istore_n 3, 40, 3, 0, 0, 0, 0, 0, 0, []), (.iload_n 3, 41, 3, 0, 0, 0, 0, 0, 0, []), (.ifCond .ne 16, 44, 57, 0, 0, 0, 0, 0, 0, []), (.iload_n 1, 45, 1, 0, 0, 0, 0, 0, 0, []), (.iload_n 2, 46, 2, 0, 0, 0, 0, 0, 0, []), (.isub, 47, 0, 0, 0, 0, 0, 0, 0, []), (.aload_n 0, 48, 0, 0, 0, 0, 0, 0, 0, []), (.bipush 38, 50, 0, 0, 0, 0, 0, 38, 0, []), (.iaload, 51, 0, 0, 0, 0, 0, 0, 0, []), (.iconst 1, 52, 0, 0, 0, 0, 0, 1, 0, []), (.iadd, 53, 0, 0, 0, 0, 0, 0, 0, []), (.irem, 54, 0, 0, 0, 0, 0, 0, 0, []), (.ifCond .ne 7, 57, 61, 0, 0, 0, 0, 0, 0, [])]
set_option maxRecDepth 100000 in
theorem zk_L_type_39 : zOks nL_type zo_L_type_39 39 = true := by decide +kernel
def zo_L_type_57 : List zOp := [(.iconst 1, 58, 0, 0, 0, 0, 0, 1, 0, []), (.goto 4, 61, 62, 0, 0, 0, 0, 0, 0, []), (.iconst 2, 62, 0, 0, 0, 0, 0, 2, 0, [])]
set_option maxRecDepth 100000 in
theorem zk_L_type_57 : zOks nL_type zo_L_type_57 57 = true := by decide +kernel
def zo_L_type_62 : List zOp := [(.ireturn, 63, 0, 0, 0, 0, 0, 0, 0, [])]
set_option maxRecDepth 100000 in
theorem zk_L_type_62 : zOks nL_type zo_L_type_62 62 = true := by decide +kernel
def zm_L_type : List (Nat × List Bool) := [(0, [true, true, false, false]), (34, [true, true, true, false]), (38, [true, true, true, false]), (39, [true, true, true, false]), (57, [false, false, false, false]), (61, [false, false, false, false]), (62, [false, false, false, false])]
set_option maxRecDepth 100000 in
set_option maxHeartbeats 4000000 in
theorem zr_L_type_0 {C : zCa} {post : zPo} {X : zX} (hX : zClosed none C post nL_type X) (p1 : Int32) (σ : zS) (h : C nL_groupOf [.ref 63, .int p1] σ (zPI fun x2 σ1 => zIf ((p1 : Int32) = x2) (post (some (.int 0)) σ1) (vp_in 36 (zN 63) ∧ (zIf ((p1 + 1 : Int32) = (σ1.1 63 (Int32.toNatClampNeg 36))) (X 34 [some (.ref 63), some (.int p1), some (.int x2), none] [] σ1) (C nL_groupOf [.ref 63, .int (p1 + 1)] σ1 (zPI fun x4 σ3 => zIf ((x4 : Int32) = x2) (X 38 [some (.ref 63), some (.int p1), some (.int x2), none] [] σ3) (X 34 [some (.ref 63), some (.int p1), some (.int x2), none] [] σ3))))))) : X 0 [some (.ref 63), some (.int p1), none, none] [] σ := zSeq_ok hX zm_L_type zo_L_type_0 0 0 _ _ _ zk_L_type_0 h
set_option maxRecDepth 100000 in
set_option maxHeartbeats 4000000 in
theorem zr_L_type_34 {C : zCa} {post : zPo} {X : zX} (hX : zClosed none C post nL_type X) (v1 : Int32) (v2 : Int32) (σ : zS) (h : X 39 [some (.ref 63), some (.int v1), some (.int v2), none] [.int 1] σ) : X 34 [some (.ref 63), some (.int v1), some (.int v2), none] [] σ := zSeq_ok hX zm_L_type zo_L_type_34 34 34 _ _ _ zk_L_type_34 h
set_option maxRecDepth 100000 in
set_option maxHeartbeats 4000000 in
theorem zr_L_type_38 {C : zCa} {post : zPo} {X : zX} (hX : zClosed none C post nL_type X) (v1 : Int32) (v2 : Int32) (σ : zS) (h : X 39 [some (.ref 63), some (.int v1), some (.int v2), none] [.int 0] σ) : X 38 [some (.ref 63), some (.int v1), some (.int v2), none] [] σ := zSeq_ok hX zm_L_type zo_L_type_34 34 38 _ _ _ zk_L_type_34 h
set_option maxRecDepth 100000 in
set_option maxHeartbeats 4000000 in
theorem zr_L_type_39 {C : zCa} {post : zPo} {X : zX} (hX : zClosed none C post nL_type X) (v1 : Int32) (v2 : Int32) (t0 : Int32) (σ : zS) (h : zIf ((t0 : Int32) = 0) (vp_in 38 (zN 63) ∧ (¬ ((σ.1 63 (Int32.toNatClampNeg 38)) + 1 : Int32) = 0 ∧ (zIf (((v1 - v2) - (v1 - v2) / ((σ.1 63 (Int32.toNatClampNeg 38)) + 1) * ((σ.1 63 (Int32.toNatClampNeg 38)) + 1) : Int32) = 0) (X 57 [none, none, none, none] [] σ) (X 61 [none, none, none, none] [] σ)))) (X 57 [none, none, none, none] [] σ)) : X 39 [some (.ref 63), some (.int v1), some (.int v2), none] [.int t0] σ := zSeq_ok hX zm_L_type zo_L_type_39 39 39 _ _ _ zk_L_type_39 h
set_option maxRecDepth 100000 in
set_option maxHeartbeats 4000000 in
theorem zr_L_type_57 {C : zCa} {post : zPo} {X : zX} (hX : zClosed none C post nL_type X) (σ : zS) (h : X 62 [none, none, none, none] [.int 1] σ) : X 57 [none, none, none, none] [] σ := zSeq_ok hX zm_L_type zo_L_type_57 57 57 _ _ _ zk_L_type_57 h
set_option maxRecDepth 100000 in
set_option maxHeartbeats 4000000 in
theorem zr_L_type_61 {C : zCa} {post : zPo} {X : zX} (hX : zClosed none C post nL_type X) (σ : zS) (h : X 62 [none, none, none, none] [.int 2] σ) : X 61 [none, none, none, none] [] σ := zSeq_ok hX zm_L_type zo_L_type_57 57 61 _ _ _ zk_L_type_57 h
set_option maxRecDepth 100000 in
set_option maxHeartbeats 4000000 in
theorem zr_L_type_62 {C : zCa} {post : zPo} {X : zX} (hX : zClosed none C post nL_type X) (t0 : Int32) (σ : zS) (h : post (some (.int t0)) σ) : X 62 [none, none, none, none] [.int t0] σ := zSeq_ok hX zm_L_type zo_L_type_62 62 62 _ _ _ zk_L_type_62 h
theorem ze_L_type {d : Nat} {post : zPo} (p1 : Int32) (σ : zS) (h : ∀ X : zX, zClosed none (zCall d) post nL_type X → X 0 [some (.ref 63), some (.int p1), none, none] [] σ) : zCall (d + 1) nL_type [.ref 63, .int p1] σ post := h
-- L_areScenes(0, 63) depth 5
def zo_L_areScenes_0 : List zOp := [(.aload_n 1, 1, 1, 0, 0, 0, 0, 0, 0, []), (.aload_n 1, 2, 1, 0, 0, 0, 0, 0, 0, []), (.bipush 36, 4, 0, 0, 0, 0, 0, 36, 0, []), (.iaload, 5, 0, 0, 0, 0, 0, 0, 0, []), (.iconst 1, 6, 0, 0, 0, 0, 0, 1, 0, []), (.isub, 7, 0, 0, 0, 0, 0, 0, 0, []), (.invokestatic 32, 10, 74, 2, 1, 0, 675, 0, 0, []), (.iconst 1, 11, 0, 0, 0, 0, 0, 1, 0, []), (.iadd, 12, 0, 0, 0, 0, 0, 0, 0, []), (.istore_n 2, 13, 2, 0, 0, 0, 0, 0, 0, []), (.iconst 0, 14, 0, 0, 0, 0, 0, 0, 0, []), (.istore_n 3, 15, 3, 0, 0, 0, 0, 0, 0, []), (.iconst 0, 16, 0, 0, 0, 0, 0, 0, 0, []), (.istore 4, 18, 4, 0, 0, 0, 0, 0, 0, [])]
set_option maxRecDepth 100000 in
theorem zk_L_areScenes_0 : zOks nL_areScenes zo_L_areScenes_0 0 = true := by decide +kernel
def zo_L_areScenes_18 : List zOp := [(.iload 4, 20, 4, 0, 0, 0, 0, 0, 0, []), (.aload_n 1, 21, 1, 0, 0, 0, 0, 0, 0, []), (.bipush 36, 23, 0, 0, 0, 0, 0, 36, 0, []), (.iaload, 24, 0, 0, 0, 0, 0, 0, 0, []), (.if_icmp .ge 26, 27, 50, 0, 0, 0, 0, 0, 0, []), (.iload_n 3, 28, 3, 0, 0, 0, 0, 0, 0, []), (.aload_n 1, 29, 1, 0, 0, 0, 0, 0, 0, []), (.iload 4, 31, 4, 0, 0, 0, 0, 0, 0, []), (.invokestatic 19, 34, 73, 2, 1, 0, 672, 0, 0, []), (.ifCond .ne 7, 37, 41, 0, 0, 0, 0, 0, 0, []), (.iconst 1, 38, 0, 0, 0, 0, 0, 1, 0, []), (.goto 4, 41, 42, 0, 0, 0, 0, 0, 0, []), (.iconst 0, 42, 0, 0, 0, 0, 0, 0, 0, [])]
set_option maxRecDepth 100000 in
theorem zk_L_areScenes_18 : zOks nL_areScenes zo_L_areScenes_18 18 = true := by decide +kernel
def zo_L_areScenes_42 : List zOp := [(.iadd, 43, 0, 0, 0, 0, 0, 0, 0, []), (.istore_n 3, 44, 3, 0, 0, 0, 0, 0, 0, []), (.iinc 4 1, 47, 4, 0, 0, 0, 0, 1, 0, []), (.goto (-29), 50, 18, 0, 0, 0, 0, 0, 0, []), (.iconst 0, 51, 0, 0, 0, 0, 0, 0, 0, []), (.istore 4, 53, 4, 0, 0, 0, 0, 0, 0, [])]
set_option maxRecDepth 100000 in
theorem zk_L_areScenes_42 : zOks nL_areScenes zo_L_areScenes_42 42 = true := by decide +kernel
def zo_L_areScenes_53 : List zOp := [(.iload 4, 55, 4, 0, 0, 0, 0, 0, 0, []), (.iload_n 2, 56, 2, 0, 0, 0, 0, 0, 0, []), (.if_icmp .ge 175, 59, 231, 0, 0, 0, 0, 0, 0, []), (.iconst (-1), 60, 0, 0, 0, 0, 0, (-1), 0, []), (.istore 5, 62, 5, 0, 0, 0, 0, 0, 0, []), (.iconst 0, 63, 0, 0, 0, 0, 0, 0, 0, []), (.istore 6, 65, 6, 0, 0, 0, 0, 0, 0, []), (.iconst 0, 66, 0, 0, 0, 0, 0, 0, 0, []), (.istore 7, 68, 7, 0, 0, 0, 0, 0, 0, []), (.aload_n 1, 69, 1, 0, 0, 0, 0, 0, 0, []), (.bipush 36, 71, 0, 0, 0, 0, 0, 36, 0, []), (.iaload, 72, 0, 0, 0, 0, 0, 0, 0, []), (.iconst 1, 73, 0, 0, 0, 0, 0, 1, 0, []), (.isub, 74, 0, 0, 0, 0, 0, 0, 0, []), (.istore 8, 76, 8, 0, 0, 0, 0, 0, 0, [])]
set_option maxRecDepth 100000 in
theorem zk_L_areScenes_53 : zOks nL_areScenes zo_L_areScenes_53 53 = true := by decide +kernel
def zo_L_areScenes_76 : List zOp := [(.iload 8, 78, 8, 0, 0, 0, 0, 0, 0, []), (.ifCond .lt 80, 81, 158, 0, 0, 0, 0, 0, 0, []), (.aload_n 1, 82, 1, 0, 0, 0, 0, 0, 0, []), (.iload 8, 84, 8, 0, 0, 0, 0, 0, 0, []), (.invokestatic 32, 87, 74, 2, 1, 0, 675, 0, 0, []), (.iload 4, 89, 4, 0, 0, 0, 0, 0, 0, []), (.if_icmp .ne 7, 92, 96, 0, 0, 0, 0, 0, 0, []), (.iconst 1, 93, 0, 0, 0, 0, 0, 1, 0, []), (.goto 4, 96, 97, 0, 0, 0, 0, 0, 0, []), (.iconst 0, 97, 0, 0, 0, 0, 0, 0, 0, [])]
set_option maxRecDepth 100000 in
theorem zk_L_areScenes_76 : zOks nL_areScenes zo_L_areScenes_76 76 = true := by decide +kernel
def zo_L_areScenes_97 : List zOp := [(.istore 9, 99, 9, 0, 0, 0, 0, 0, 0, []), (.iload 9, 101, 9, 0, 0, 0, 0, 0, 0, []), (.ifCond .eq 8, 104, 109, 0, 0, 0, 0, 0, 0, []), (.iload 8, 106, 8, 0, 0, 0, 0, 0, 0, []), (.goto 5, 109, 111, 0, 0, 0, 0, 0, 0, []), (.iload 5, 111, 5, 0, 0, 0, 0, 0, 0, [])]
set_option maxRecDepth 100000 in
theorem zk_L_areScenes_97 : zOks nL_areScenes zo_L_areScenes_97 97 = true := by decide +kernel
def zo_L_areScenes_111 : List zOp := [(.istore 5, 113, 5, 0, 0, 0, 0, 0, 0, []), (.iload 6, 115, 6, 0, 0, 0, 0, 0, 0, []), (.iload 9, 117, 9, 0, 0, 0, 0, 0, 0, []), (.ifCond .eq 7, 120, 124, 0, 0, 0, 0, 0, 0, []), (.iconst 1, 121, 0, 0, 0, 0, 0, 1, 0, []), (.goto 4, 124, 125, 0, 0, 0, 0, 0, 0, []), (.iconst 0, 125, 0, 0, 0, 0, 0, 0, 0, [])]
set_option maxRecDepth 100000 in
theorem zk_L_areScenes_111 : zOks nL_areScenes zo_L_areScenes_111 111 = true := by decide +kernel
def zo_L_areScenes_125 : List zOp := [(.iadd, 126, 0, 0, 0, 0, 0, 0, 0, []), (.istore 6, 128, 6, 0, 0, 0, 0, 0, 0, []), (.iload 7, 130, 7, 0, 0, 0, 0, 0, 0, []), (.iload 9, 132, 9, 0, 0, 0, 0, 0, 0, []), (.ifCond .eq 16, 135, 148, 0, 0, 0, 0, 0, 0, []), (.aload_n 1, 136, 1, 0, 0, 0, 0, 0, 0, []), (.iload 8, 138, 8, 0, 0, 0, 0, 0, 0, []), (.invokestatic 19, 141, 73, 2, 1, 0, 672, 0, 0, []), (.ifCond .ne 7, 144, 148, 0, 0, 0, 0, 0, 0, []), (.iconst 1, 145, 0, 0, 0, 0, 0, 1, 0, []), (.goto 4, 148, 149, 0, 0, 0, 0, 0, 0, [])]
set_option maxRecDepth 100000 in
theorem zk_L_areScenes_125 : zOks nL_areScenes zo_L_areScenes_125 125 = true := by decide +kernel
def zo_L_areScenes_148 : List zOp := [(.iconst 0, 149, 0, 0, 0, 0, 0, 0, 0, [])]
set_option maxRecDepth 100000 in
theorem zk_L_areScenes_148 : zOks nL_areScenes zo_L_areScenes_148 148 = true := by decide +kernel
def zo_L_areScenes_149 : List zOp := [(.iadd, 150, 0, 0, 0, 0, 0, 0, 0, []), (.istore 7, 152, 7, 0, 0, 0, 0, 0, 0, []), (.iinc 8 (-1), 155, 8, 0, 0, 0, 0, (-1), 0, []), (.goto (-79), 158, 76, 0, 0, 0, 0, 0, 0, []), (.aload_n 0, 159, 0, 0, 0, 0, 0, 0, 0, []), (.iload 4, 161, 4, 0, 0, 0, 0, 0, 0, []), (.iconst 0, 162, 0, 0, 0, 0, 0, 0, 0, []), (.invokevirtual 80, 165, 52, 3, 1, 11, 618, 0, 0, []), (.iload 5, 167, 5, 0, 0, 0, 0, 0, 0, []), (.if_icmp .ne 56, 170, 223, 0, 0, 0, 0, 0, 0, []), (.aload_n 0, 171, 0, 0, 0, 0, 0, 0, 0, []), (.iload 4, 173, 4, 0, 0, 0, 0, 0, 0, []), (.iconst 1, 174, 0, 0, 0, 0, 0, 1, 0, []), (.invokevirtual 80, 177, 52, 3, 1, 11, 618, 0, 0, []), (.iload 6, 179, 6, 0, 0, 0, 0, 0, 0, []), (.if_icmp .ne 44, 182, 223, 0, 0, 0, 0, 0, 0, []), (.aload_n 0, 183, 0, 0, 0, 0, 0, 0, 0, []), (.iload 4, 185, 4, 0, 0, 0, 0, 0, 0, []), (.iconst 2, 186, 0, 0, 0, 0, 0, 2, 0, []), (.invokevirtual 80, 189, 52, 3, 1, 11, 618, 0, 0, []), (.aload_n 1, 190, 1, 0, 0, 0, 0, 0, 0, []), (.bipush 40, 192, 0, 0, 0, 0, 0, 40, 0, []), (.iload 4, 194, 4, 0, 0, 0, 0, 0, 0, []), (.iadd, 195, 0, 0, 0, 0, 0, 0, 0, []), (.iaload, 196, 0, 0, 0, 0, 0, 0, 0, []), (.if_icmp .ne 27, 199, 223, 0, 0, 0, 0, 0, 0, []), (.aload_n 0, 200, 0, 0, 0, 0, 0, 0, 0, []), (.iload 4, 202, 4, 0, 0, 0, 0, 0, 0, []), (.iconst 5, 203, 0, 0, 0, 0, 0, 5, 0, []), (.invokevirtual 80, 206, 52, 3, 1, 11, 618, 0, 0, []), (.iload 7, 208, 7, 0, 0, 0, 0, 0, 0, []), (.if_icmp .ne 15, 211, 223, 0, 0, 0, 0, 0, 0, []), (.aload_n 0, 212, 0, 0, 0, 0, 0, 0, 0, []), (.iload 4, 214, 4, 0, 0, 0, 0, 0, 0, []), (.iconst 3, 215, 0, 0, 0, 0, 0, 3, 0, []), (.invokevirtual 80, 218, 52, 3, 1, 11, 618, 0, 0, []), (.bipush (-3), 220, 0, 0, 0, 0, 0, (-3), 0, []), (.if_icmp .eq 5, 223, 225, 0, 0, 0, 0, 0, 0, [])]
set_option maxRecDepth 100000 in
theorem zk_L_areScenes_149 : zOks nL_areScenes zo_L_areScenes_149 149 = true := by decide +kernel
def zo_L_areScenes_223 : List zOp := [(.iconst 0, 224, 0, 0, 0, 0, 0, 0, 0, []), (.ireturn, 225, 0, 0, 1, 0, 0, 0, 0, []), (.iinc 4 1, 228, 4, 0, 0, 0, 0, 1, 0, []), (.goto (-175), 231, 53, 0, 0, 0, 0, 0, 0, []), (.aload_n 0, 232, 0, 0, 0, 0, 0, 0, 0, []), (.iconst 0, 233, 0, 0, 0, 0, 0, 0, 0, []), (.invokevirtual 83, 236, 53, 2, 1, 11, 644, 0, 0, []), (.aload_n 1, 237, 1, 0, 0, 0, 0, 0, 0, []), (.bipush 36, 239, 0, 0, 0, 0, 0, 36, 0, []), (.iaload, 240, 0, 0, 0, 0, 0, 0, 0, []), (.if_icmp .ne 36, 243, 276, 0, 0, 0, 0, 0, 0, []), (.aload_n 0, 244, 0, 0, 0, 0, 0, 0, 0, []), (.iconst 1, 245, 0, 0, 0, 0, 0, 1, 0, []), (.invokevirtual 83, 248, 53, 2, 1, 11, 644, 0, 0, []), (.iload_n 2, 249, 2, 0, 0, 0, 0, 0, 0, []), (.if_icmp .ne 27, 252, 276, 0, 0, 0, 0, 0, 0, []), (.aload_n 0, 253, 0, 0, 0, 0, 0, 0, 0, []), (.iconst 2, 254, 0, 0, 0, 0, 0, 2, 0, []), (.invokevirtual 83, 257, 53, 2, 1, 11, 644, 0, 0, []), (.iload_n 3, 258, 3, 0, 0, 0, 0, 0, 0, []), (.if_icmp .ne 18, 261, 276, 0, 0, 0, 0, 0, 0, []), (.aload_n 0, 262, 0, 0, 0, 0, 0, 0, 0, []), (.iload_n 2, 263, 2, 0, 0, 0, 0, 0, 0, []), (.iconst 0, 264, 0, 0, 0, 0, 0, 0, 0, []), (.invokevirtual 80, 267, 52, 3, 1, 11, 618, 0, 0, []), (.bipush (-2), 269, 0, 0, 0, 0, 0, (-2), 0, []), (.if_icmp .ne 7, 272, 276, 0, 0, 0, 0, 0, 0, []), (.iconst 1, 273, 0, 0, 0, 0, 0, 1, 0, []), (.goto 4, 276, 277, 0, 0, 0, 0, 0, 0, [])]
set_option maxRecDepth 100000 in
theorem zk_L_areScenes_223 : zOks nL_areScenes zo_L_areScenes_223 223 = true := by decide +kernel
def zo_L_areScenes_276 : List zOp := [(.iconst 0, 277, 0, 0, 0, 0, 0, 0, 0, [])]
set_option maxRecDepth 100000 in
theorem zk_L_areScenes_276 : zOks nL_areScenes zo_L_areScenes_276 276 = true := by decide +kernel
def zo_L_areScenes_277 : List zOp := [(.ireturn, 278, 0, 0, 1, 0, 0, 0, 0, [])]
set_option maxRecDepth 100000 in
theorem zk_L_areScenes_277 : zOks nL_areScenes zo_L_areScenes_277 277 = true := by decide +kernel
def zm_L_areScenes : List (Nat × List Bool) := [(0, [true, true, false, false, false, false, false, false, false, false]), (18, [true, true, true, true, true, false, false, false, false, false]), (42, [true, true, true, false, true, false, false, false, false, false]), (50, [true, true, true, true, false, false, false, false, false, false]), (53, [true, true, true, true, true, false, false, false, false, false]), (76, [true, true, true, true, true, true, true, true, true, false]), (97, [true, true, true, true, true, true, true, true, true, false]), (111, [true, true, true, true, true, false, true, true, true, true]), (125, [true, true, true, true, true, true, false, true, true, true]), (148, [true, true, true, true, true, true, true, false, true, false]), (149, [true, true, true, true, true, true, true, false, true, false]), (158, [true, true, true, true, true, true, true, true, false, false]), (223, [false, false, false, false, false, false, false, false, false, false]), (225, [true, true, true, true, true, false, false, false, false, false]), (231, [true, true, true, true, false, false, false, false, false, false]), (276, [false, false, false, false, false, false, false, false, false, false]), (277, [false, false, false, false, false, false, false, false, false, false])]
set_option maxRecDepth 100000 in
set_option maxHeartbeats 4000000 in
theorem zr_L_areScenes_0 {C : zCa} {post : zPo} {X : zX} (hX : zClosed none C post nL_areScenes X) (σ : zS) (h : vp_in 36 (zN 63) ∧ (C nL_sceneOf [.ref 63, .int ((σ.1 63 (Int32.toNatClampNeg 36)) - 1)] σ (zPI fun x2 σ1 => X 18 [some (.ref 0), some (.ref 63), some (.int (x2 + 1)), some (.int 0), some (.int 0), none, none, none, none, none] [] σ1))) : X 0 [some (.ref 0), some (.ref 63), none, none, none, none, none, none, none, none] [] σ := zSeq_ok hX zm_L_areScenes zo_L_areScenes_0 0 0 _ _ _ zk_L_areScenes_0 h
set_option maxRecDepth 100000 in
set_option maxHeartbeats 4000000 in
theorem zr_L_areScenes_18 {C : zCa} {post : zPo} {X : zX} (hX : zClosed none C post nL_areScenes X) (v2 : Int32) (v3 : Int32) (v4 : Int32) (σ : zS) (h : vp_in 36 (zN 63) ∧ (zIf ((v4 : Int32) < (σ.1 63 (Int32.toNatClampNeg 36))) (C nL_type [.ref 63, .int v4] σ (zPI fun x2 σ1 => zIf ((x2 : Int32) = 0) (X 42 [some (.ref 0), some (.ref 63), some (.int v2), none, some (.int v4), none, none, none, none, none] [.int 1, .int v3] σ1) (X 42 [some (.ref 0), some (.ref 63), some (.int v2), none, some (.int v4), none, none, none, none, none] [.int 0, .int v3] σ1))) (X 50 [some (.ref 0), some (.ref 63), some (.int v2), some (.int v3), none, none, none, none, none, none] [] σ))) : X 18 [some (.ref 0), some (.ref 63), some (.int v2), some (.int v3), some (.int v4), none, none, none, none, none] [] σ := zSeq_ok hX zm_L_areScenes zo_L_areScenes_18 18 18 _ _ _ zk_L_areScenes_18 h
set_option maxRecDepth 100000 in
set_option maxHeartbeats 4000000 in
theorem zr_L_areScenes_42 {C : zCa} {post : zPo} {X : zX} (hX : zClosed none C post nL_areScenes X) (v2 : Int32) (v4 : Int32) (t0 : Int32) (t1 : Int32) (σ : zS) (h : X 18 [some (.ref 0), some (.ref 63), some (.int v2), some (.int (t1 + t0)), some (.int (v4 + 1)), none, none, none, none, none] [] σ) : X 42 [some (.ref 0), some (.ref 63), some (.int v2), none, some (.int v4), none, none, none, none, none] [.int t0, .int t1] σ := zSeq_ok hX zm_L_areScenes zo_L_areScenes_42 42 42 _ _ _ zk_L_areScenes_42 h
set_option maxRecDepth 100000 in
set_option maxHeartbeats 4000000 in
theorem zr_L_areScenes_50 {C : zCa} {post : zPo} {X : zX} (hX : zClosed none C post nL_areScenes X) (v2 : Int32) (v3 : Int32) (σ : zS) (h : X 53 [some (.ref 0), some (.ref 63), some (.int v2), some (.int v3), some (.int 0), none, none, none, none, none] [] σ) : X 50 [some (.ref 0), some (.ref 63), some (.int v2), some (.int v3), none, none, none, none, none, none] [] σ := zSeq_ok hX zm_L_areScenes zo_L_areScenes_42 42 50 _ _ _ zk_L_areScenes_42 h
set_option maxRecDepth 100000 in
set_option maxHeartbeats 4000000 in
theorem zr_L_areScenes_53 {C : zCa} {post : zPo} {X : zX} (hX : zClosed none C post nL_areScenes X) (v2 : Int32) (v3 : Int32) (v4 : Int32) (σ : zS) (h : zIf ((v4 : Int32) < v2) (vp_in 36 (zN 63) ∧ (X 76 [some (.ref 0), some (.ref 63), some (.int v2), some (.int v3), some (.int v4), some (.int (-1)), some (.int 0), some (.int 0), some (.int ((σ.1 63 (Int32.toNatClampNeg 36)) - 1)), none] [] σ)) (X 231 [some (.ref 0), some (.ref 63), some (.int v2), some (.int v3), none, none, none, none, none, none] [] σ)) : X 53 [some (.ref 0), some (.ref 63), some (.int v2), some (.int v3), some (.int v4), none, none, none, none, none] [] σ := zSeq_ok hX zm_L_areScenes zo_L_areScenes_53 53 53 _ _ _ zk_L_areScenes_53 h
set_option maxRecDepth 100000 in
set_option maxHeartbeats 4000000 in
theorem zr_L_areScenes_76 {C : zCa} {post : zPo} {X : zX} (hX : zClosed none C post nL_areScenes X) (v2 : Int32) (v3 : Int32) (v4 : Int32) (v5 : Int32) (v6 : Int32) (v7 : Int32) (v8 : Int32) (σ : zS) (h : zIf ((v8 : Int32) < 0) (X 158 [some (.ref 0), some (.ref 63), some (.int v2), some (.int v3), some (.int v4), some (.int v5), some (.int v6), some (.int v7), none, none] [] σ) (C nL_sceneOf [.ref 63, .int v8] σ (zPI fun x2 σ1 => zIf ((x2 : Int32) = v4) (X 97 [some (.ref 0), some (.ref 63), some (.int v2), some (.int v3), some (.int v4), some (.int v5), some (.int v6), some (.int v7), some (.int v8), none] [.int 1] σ1) (X 97 [some (.ref 0), some (.ref 63), some (.int v2), some (.int v3), some (.int v4), some (.int v5), some (.int v6), some (.int v7), some (.int v8), none] [.int 0] σ1)))) : X 76 [some (.ref 0), some (.ref 63), some (.int v2), some (.int v3), some (.int v4), some (.int v5), some (.int v6), some (.int v7), some (.int v8), none] [] σ := zSeq_ok hX zm_L_areScenes zo_L_areScenes_76 76 76 _ _ _ zk_L_areScenes_76 h
set_option maxRecDepth 100000 in
set_option maxHeartbeats 4000000 in
theorem zr_L_areScenes_231 {C : zCa} {post : zPo} {X : zX} (hX : zClosed none C post nL_areScenes X) (v2 : Int32) (v3 : Int32) (σ : zS) (h : C nX11_count [.ref 0, .int 0] σ (zPI fun x2 σ1 => vp_in 36 (zN 63) ∧ (zIf ((x2 : Int32) = (σ1.1 63 (Int32.toNatClampNeg 36))) (C nX11_count [.ref 0, .int 1] σ1 (zPI fun x4 σ3 => zIf ((x4 : Int32) = v2) (C nX11_count [.ref 0, .int 2] σ3 (zPI fun x6 σ5 => zIf ((x6 : Int32) = v3) (C nX11_scene [.ref 0, .int v2, .int 0] σ5 (zPI fun x8 σ7 => zIf ((x8 : Int32) = (-2)) (X 277 [none, none, none, none, none, none, none, none, none, none] [.int 1] σ7) (X 276 [none, none, none, none, none, none, none, none, none, none] [] σ7))) (X 276 [none, none, none, none, none, none, none, none, none, none] [] σ5))) (X 276 [none, none, none, none, none, none, none, none, none, none] [] σ3))) (X 276 [none, none, none, none, none, none, none, none, none, none] [] σ1)))) : X 231 [some (.ref 0), some (.ref 63), some (.int v2), some (.int v3), none, none, none, none, none, none] [] σ := zSeq_ok hX zm_L_areScenes zo_L_areScenes_223 223 231 _ _ _ zk_L_areScenes_223 h
set_option maxRecDepth 100000 in
set_option maxHeartbeats 4000000 in
theorem zr_L_areScenes_158 {C : zCa} {post : zPo} {X : zX} (hX : zClosed none C post nL_areScenes X) (v2 : Int32) (v3 : Int32) (v4 : Int32) (v5 : Int32) (v6 : Int32) (v7 : Int32) (σ : zS) (h : C nX11_scene [.ref 0, .int v4, .int 0] σ (zPI fun x2 σ1 => zIf ((x2 : Int32) = v5) (C nX11_scene [.ref 0, .int v4, .int 1] σ1 (zPI fun x4 σ3 => zIf ((x4 : Int32) = v6) (C nX11_scene [.ref 0, .int v4, .int 2] σ3 (zPI fun x6 σ5 => vp_in (40 + v4) (zN 63) ∧ (zIf ((x6 : Int32) = (σ5.1 63 (Int32.toNatClampNeg (40 + v4)))) (C nX11_scene [.ref 0, .int v4, .int 5] σ5 (zPI fun x8 σ7 => zIf ((x8 : Int32) = v7) (C nX11_scene [.ref 0, .int v4, .int 3] σ7 (zPI fun x10 σ9 => zIf ((x10 : Int32) = (-3)) (X 225 [some (.ref 0), some (.ref 63), some (.int v2), some (.int v3), some (.int v4), none, none, none, none, none] [] σ9) (X 223 [none, none, none, none, none, none, none, none, none, none] [] σ9))) (X 223 [none, none, none, none, none, none, none, none, none, none] [] σ7))) (X 223 [none, none, none, none, none, none, none, none, none, none] [] σ5)))) (X 223 [none, none, none, none, none, none, none, none, none, none] [] σ3))) (X 223 [none, none, none, none, none, none, none, none, none, none] [] σ1))) : X 158 [some (.ref 0), some (.ref 63), some (.int v2), some (.int v3), some (.int v4), some (.int v5), some (.int v6), some (.int v7), none, none] [] σ := zSeq_ok hX zm_L_areScenes zo_L_areScenes_149 149 158 _ _ _ zk_L_areScenes_149 h
set_option maxRecDepth 100000 in
set_option maxHeartbeats 4000000 in
theorem zr_L_areScenes_97 {C : zCa} {post : zPo} {X : zX} (hX : zClosed none C post nL_areScenes X) (v2 : Int32) (v3 : Int32) (v4 : Int32) (v5 : Int32) (v6 : Int32) (v7 : Int32) (v8 : Int32) (t0 : Int32) (σ : zS) (h : zIf ((t0 : Int32) = 0) (X 111 [some (.ref 0), some (.ref 63), some (.int v2), some (.int v3), some (.int v4), none, some (.int v6), some (.int v7), some (.int v8), some (.int t0)] [.int v5] σ) (X 111 [some (.ref 0), some (.ref 63), some (.int v2), some (.int v3), some (.int v4), none, some (.int v6), some (.int v7), some (.int v8), some (.int t0)] [.int v8] σ)) : X 97 [some (.ref 0), some (.ref 63), some (.int v2), some (.int v3), some (.int v4), some (.int v5), some (.int v6), some (.int v7), some (.int v8), none] [.int t0] σ := zSeq_ok hX zm_L_areScenes zo_L_areScenes_97 97 97 _ _ _ zk_L_areScenes_97 h
set_option maxRecDepth 100000 in
set_option maxHeartbeats 4000000 in
theorem zr_L_areScenes_277 {C : zCa} {post : zPo} {X : zX} (hX : zClosed none C post nL_areScenes X) (t0 : Int32) (σ : zS) (h : zG ((t0 : Int32) == 0 || (t0 : Int32) == 1) (post (some (.int t0)) σ)) : X 277 [none, none, none, none, none, none, none, none, none, none] [.int t0] σ := zSeq_ok hX zm_L_areScenes zo_L_areScenes_277 277 277 _ _ _ zk_L_areScenes_277 h
set_option maxRecDepth 100000 in
set_option maxHeartbeats 4000000 in
theorem zr_L_areScenes_276 {C : zCa} {post : zPo} {X : zX} (hX : zClosed none C post nL_areScenes X) (σ : zS) (h : X 277 [none, none, none, none, none, none, none, none, none, none] [.int 0] σ) : X 276 [none, none, none, none, none, none, none, none, none, none] [] σ := zSeq_ok hX zm_L_areScenes zo_L_areScenes_276 276 276 _ _ _ zk_L_areScenes_276 h
set_option maxRecDepth 100000 in
set_option maxHeartbeats 4000000 in
theorem zr_L_areScenes_225 {C : zCa} {post : zPo} {X : zX} (hX : zClosed none C post nL_areScenes X) (v2 : Int32) (v3 : Int32) (v4 : Int32) (σ : zS) (h : X 53 [some (.ref 0), some (.ref 63), some (.int v2), some (.int v3), some (.int (v4 + 1)), none, none, none, none, none] [] σ) : X 225 [some (.ref 0), some (.ref 63), some (.int v2), some (.int v3), some (.int v4), none, none, none, none, none] [] σ := zSeq_ok hX zm_L_areScenes zo_L_areScenes_223 223 225 _ _ _ zk_L_areScenes_223 h
set_option maxRecDepth 100000 in
set_option maxHeartbeats 4000000 in
theorem zr_L_areScenes_223 {C : zCa} {post : zPo} {X : zX} (hX : zClosed none C post nL_areScenes X) (σ : zS) (h : post (some (.int 0)) σ) : X 223 [none, none, none, none, none, none, none, none, none, none] [] σ := zSeq_ok hX zm_L_areScenes zo_L_areScenes_223 223 223 _ _ _ zk_L_areScenes_223 h
set_option maxRecDepth 100000 in
set_option maxHeartbeats 4000000 in
theorem zr_L_areScenes_111 {C : zCa} {post : zPo} {X : zX} (hX : zClosed none C post nL_areScenes X) (v2 : Int32) (v3 : Int32) (v4 : Int32) (v6 : Int32) (v7 : Int32) (v8 : Int32) (v9 : Int32) (t0 : Int32) (σ : zS) (h : zIf ((v9 : Int32) = 0) (X 125 [some (.ref 0), some (.ref 63), some (.int v2), some (.int v3), some (.int v4), some (.int t0), none, some (.int v7), some (.int v8), some (.int v9)] [.int 0, .int v6] σ) (X 125 [some (.ref 0), some (.ref 63), some (.int v2), some (.int v3), some (.int v4), some (.int t0), none, some (.int v7), some (.int v8), some (.int v9)] [.int 1, .int v6] σ)) : X 111 [some (.ref 0), some (.ref 63), some (.int v2), some (.int v3), some (.int v4), none, some (.int v6), some (.int v7), some (.int v8), some (.int v9)] [.int t0] σ := zSeq_ok hX zm_L_areScenes zo_L_areScenes_111 111 111 _ _ _ zk_L_areScenes_111 h
set_option maxRecDepth 100000 in
set_option maxHeartbeats 4000000 in
theorem zr_L_areScenes_125 {C : zCa} {post : zPo} {X : zX} (hX : zClosed none C post nL_areScenes X) (v2 : Int32) (v3 : Int32) (v4 : Int32) (v5 : Int32) (v7 : Int32) (v8 : Int32) (v9 : Int32) (t0 : Int32) (t1 : Int32) (σ : zS) (h : zIf ((v9 : Int32) = 0) (X 148 [some (.ref 0), some (.ref 63), some (.int v2), some (.int v3), some (.int v4), some (.int v5), some (.int (t1 + t0)), none, some (.int v8), none] [.int v7] σ) (C nL_type [.ref 63, .int v8] σ (zPI fun x2 σ1 => zIf ((x2 : Int32) = 0) (X 149 [some (.ref 0), some (.ref 63), some (.int v2), some (.int v3), some (.int v4), some (.int v5), some (.int (t1 + t0)), none, some (.int v8), none] [.int 1, .int v7] σ1) (X 148 [some (.ref 0), some (.ref 63), some (.int v2), some (.int v3), some (.int v4), some (.int v5), some (.int (t1 + t0)), none, some (.int v8), none] [.int v7] σ1)))) : X 125 [some (.ref 0), some (.ref 63), some (.int v2), some (.int v3), some (.int v4), some (.int v5), none, some (.int v7), some (.int v8), some (.int v9)] [.int t0, .int t1] σ := zSeq_ok hX zm_L_areScenes zo_L_areScenes_125 125 125 _ _ _ zk_L_areScenes_125 h
set_option maxRecDepth 100000 in
set_option maxHeartbeats 4000000 in
theorem zr_L_areScenes_148 {C : zCa} {post : zPo} {X : zX} (hX : zClosed none C post nL_areScenes X) (v2 : Int32) (v3 : Int32) (v4 : Int32) (v5 : Int32) (v6 : Int32) (v8 : Int32) (t0 : Int32) (σ : zS) (h : X 149 [some (.ref 0), some (.ref 63), some (.int v2), some (.int v3), some (.int v4), some (.int v5), some (.int v6), none, some (.int v8), none] [.int 0, .int t0] σ) : X 148 [some (.ref 0), some (.ref 63), some (.int v2), some (.int v3), some (.int v4), some (.int v5), some (.int v6), none, some (.int v8), none] [.int t0] σ := zSeq_ok hX zm_L_areScenes zo_L_areScenes_148 148 148 _ _ _ zk_L_areScenes_148 h
set_option maxRecDepth 100000 in
set_option maxHeartbeats 4000000 in
theorem zr_L_areScenes_149 {C : zCa} {post : zPo} {X : zX} (hX : zClosed none C post nL_areScenes X) (v2 : Int32) (v3 : Int32) (v4 : Int32) (v5 : Int32) (v6 : Int32) (v8 : Int32) (t0 : Int32) (t1 : Int32) (σ : zS) (h : X 76 [some (.ref 0), some (.ref 63), some (.int v2), some (.int v3), some (.int v4), some (.int v5), some (.int v6), some (.int (t1 + t0)), some (.int (v8 + (-1))), none] [] σ) : X 149 [some (.ref 0), some (.ref 63), some (.int v2), some (.int v3), some (.int v4), some (.int v5), some (.int v6), none, some (.int v8), none] [.int t0, .int t1] σ := zSeq_ok hX zm_L_areScenes zo_L_areScenes_149 149 149 _ _ _ zk_L_areScenes_149 h
theorem ze_L_areScenes {d : Nat} {post : zPo} (σ : zS) (h : ∀ X : zX, zClosed none (zCall d) post nL_areScenes X → X 0 [some (.ref 0), some (.ref 63), none, none, none, none, none, none, none, none] [] σ) : zCall (d + 1) nL_areScenes [.ref 0, .ref 63] σ post := h
-- L_step() depth 1
def zo_L_step_0 : List zOp := [(.iload_n 0, 1, 0, 0, 0, 0, 0, 0, 0, []), (.bipush 6, 3, 0, 0, 0, 0, 0, 6, 0, []), (.irem, 4, 0, 0, 0, 0, 0, 0, 0, []), (.ifCond .ne 8, 7, 12, 0, 0, 0, 0, 0, 0, []), (.bipush 10, 9, 0, 0, 0, 0, 0, 10, 0, []), (.goto 57, 12, 66, 0, 0, 0, 0, 0, 0, []), (.iload_n 0, 13, 0, 0, 0, 0, 0, 0, 0, []), (.bipush 6, 15, 0, 0, 0, 0, 0, 6, 0, []), (.irem, 16, 0, 0, 0, 0, 0, 0, 0, []), (.iconst 1, 17, 0, 0, 0, 0, 0, 1, 0, []), (.if_icmp .ne 8, 20, 25, 0, 0, 0, 0, 0, 0, []), (.bipush 11, 22, 0, 0, 0, 0, 0, 11, 0, []), (.goto 44, 25, 66, 0, 0, 0, 0, 0, 0, []), (.iload_n 0, 26, 0, 0, 0, 0, 0, 0, 0, []), (.bipush 6, 28, 0, 0, 0, 0, 0, 6, 0, []), (.irem, 29, 0, 0, 0, 0, 0, 0, 0, []), (.iconst 2, 30, 0, 0, 0, 0, 0, 2, 0, []), (.if_icmp .ne 8, 33, 38, 0, 0, 0, 0, 0, 0, []), (.bipush 13, 35, 0, 0, 0, 0, 0, 13, 0, []), (.goto 31, 38, 66, 0, 0, 0, 0, 0, 0, []), (.iload_n 0, 39, 0, 0, 0, 0, 0, 0, 0, []), (.bipush 6, 41, 0, 0, 0, 0, 0, 6, 0, []), (.irem, 42, 0, 0, 0, 0, 0, 0, 0, []), (.iconst 3, 43, 0, 0, 0, 0, 0, 3, 0, []), (.if_icmp .ne 8, 46, 51, 0, 0, 0, 0, 0, 0, []), (.bipush 14, 48, 0, 0, 0, 0, 0, 14, 0, []), (.goto 18, 51, 66, 0, 0, 0, 0, 0, 0, []), (.iload_n 0, 52, 0, 0, 0, 0, 0, 0, 0, []), (.bipush 6, 54, 0, 0, 0, 0, 0, 6, 0, []), (.irem, 55, 0, 0, 0, 0, 0, 0, 0, []), (.iconst 4, 56, 0, 0, 0, 0, 0, 4, 0, []), (.if_icmp .ne 8, 59, 64, 0, 0, 0, 0, 0, 0, []), (.bipush 16, 61, 0, 0, 0, 0, 0, 16, 0, []), (.goto 5, 64, 66, 0, 0, 0, 0, 0, 0, []), (.bipush 18, 66, 0, 0, 0, 0, 0, 18, 0, []), (.istore_n 1, 67, 1, 0, 0, 0, 0, 0, 0, []), (.iload_n 1, 68, 1, 0, 0, 0, 0, 0, 0, []), (.iload_n 0, 69, 0, 0, 0, 0, 0, 0, 0, []), (.bipush 6, 71, 0, 0, 0, 0, 0, 6, 0, []), (.idiv, 72, 0, 0, 0, 0, 0, 0, 0, []), (.ishl, 73, 0, 0, 0, 0, 0, 0, 0, []), (.ireturn, 74, 0, 0, 0, 0, 0, 0, 0, [])]
set_option maxRecDepth 100000 in
theorem zk_L_step_0 : zOks nL_step zo_L_step_0 0 = true := by decide +kernel
def zm_L_step : List (Nat × List Bool) := [(0, [true, false])]
set_option maxRecDepth 100000 in
set_option maxHeartbeats 4000000 in
theorem zr_L_step_0 {C : zCa} {post : zPo} {X : zX} (hX : zClosed none C post nL_step X) (p0 : Int32) (σ : zS) (h : ¬ (6 : Int32) = 0 ∧ (zIf ((p0 - p0 / 6 * 6 : Int32) = 0) (¬ (6 : Int32) = 0 ∧ (post (some (.int (10 <<< (((p0 / 6) : Int32) &&& 31)))) σ)) (¬ (6 : Int32) = 0 ∧ (zIf ((p0 - p0 / 6 * 6 : Int32) = 1) (¬ (6 : Int32) = 0 ∧ (post (some (.int (11 <<< (((p0 / 6) : Int32) &&& 31)))) σ)) (¬ (6 : Int32) = 0 ∧ (zIf ((p0 - p0 / 6 * 6 : Int32) = 2) (¬ (6 : Int32) = 0 ∧ (post (some (.int (13 <<< (((p0 / 6) : Int32) &&& 31)))) σ)) (¬ (6 : Int32) = 0 ∧ (zIf ((p0 - p0 / 6 * 6 : Int32) = 3) (¬ (6 : Int32) = 0 ∧ (post (some (.int (14 <<< (((p0 / 6) : Int32) &&& 31)))) σ)) (¬ (6 : Int32) = 0 ∧ (zIf ((p0 - p0 / 6 * 6 : Int32) = 4) (¬ (6 : Int32) = 0 ∧ (post (some (.int (16 <<< (((p0 / 6) : Int32) &&& 31)))) σ)) (¬ (6 : Int32) = 0 ∧ (post (some (.int (18 <<< (((p0 / 6) : Int32) &&& 31)))) σ)))))))))))) : X 0 [some (.int p0), none] [] σ := zSeq_ok hX zm_L_step zo_L_step_0 0 0 _ _ _ zk_L_step_0 h
theorem ze_L_step {d : Nat} {post : zPo} (p0 : Int32) (σ : zS) (h : ∀ X : zX, zClosed none (zCall d) post nL_step X → X 0 [some (.int p0), none] [] σ) : zCall (d + 1) nL_step [.int p0] σ post := h
-- L_work(63,) depth 4
def zo_L_work_0 : List zOp := [(.aload_n 0, 1, 0, 0, 0, 0, 0, 0, 0, []), (.iload_n 1, 2, 1, 0, 0, 0, 0, 0, 0, []), (.invokestatic 19, 5, 73, 2, 1, 0, 672, 0, 0, []), (.istore_n 2, 6, 2, 0, 0, 0, 0, 0, 0, []), (.iload_n 2, 7, 2, 0, 0, 0, 0, 0, 0, []), (.ifCond .ne 11, 10, 18, 0, 0, 0, 0, 0, 0, []), (.iconst 4, 11, 0, 0, 0, 0, 0, 4, 0, []), (.aload_n 0, 12, 0, 0, 0, 0, 0, 0, 0, []), (.iload_n 1, 13, 1, 0, 0, 0, 0, 0, 0, []), (.iaload, 14, 0, 0, 0, 0, 0, 0, 0, []), (.imul, 15, 0, 0, 0, 0, 0, 0, 0, []), (.goto 35, 18, 50, 0, 0, 0, 0, 0, 0, []), (.iload_n 2, 19, 2, 0, 0, 0, 0, 0, 0, []), (.iconst 1, 20, 0, 0, 0, 0, 0, 1, 0, []), (.if_icmp .ne 18, 23, 38, 0, 0, 0, 0, 0, 0, []), (.aload_n 0, 24, 0, 0, 0, 0, 0, 0, 0, []), (.iload_n 1, 25, 1, 0, 0, 0, 0, 0, 0, []), (.iaload, 26, 0, 0, 0, 0, 0, 0, 0, []), (.iconst 2, 27, 0, 0, 0, 0, 0, 2, 0, []), (.aload_n 0, 28, 0, 0, 0, 0, 0, 0, 0, []), (.bipush 18, 30, 0, 0, 0, 0, 0, 18, 0, []), (.iload_n 1, 31, 1, 0, 0, 0, 0, 0, 0, []), (.iadd, 32, 0, 0, 0, 0, 0, 0, 0, []), (.iaload, 33, 0, 0, 0, 0, 0, 0, 0, []), (.imul, 34, 0, 0, 0, 0, 0, 0, 0, []), (.iadd, 35, 0, 0, 0, 0, 0, 0, 0, []), (.goto 15, 38, 50, 0, 0, 0, 0, 0, 0, []), (.aload_n 0, 39, 0, 0, 0, 0, 0, 0, 0, []), (.iload_n 1, 40, 1, 0, 0, 0, 0, 0, 0, []), (.iaload, 41, 0, 0, 0, 0, 0, 0, 0, []), (.iconst 2, 42, 0, 0, 0, 0, 0, 2, 0, []), (.idiv, 43, 0, 0, 0, 0, 0, 0, 0, []), (.aload_n 0, 44, 0, 0, 0, 0, 0, 0, 0, []), (.bipush 18, 46, 0, 0, 0, 0, 0, 18, 0, []), (.iload_n 1, 47, 1, 0, 0, 0, 0, 0, 0, []), (.iadd, 48, 0, 0, 0, 0, 0, 0, 0, []), (.iaload, 49, 0, 0, 0, 0, 0, 0, 0, []), (.iadd, 50, 0, 0, 0, 0, 0, 0, 0, []), (.ireturn, 51, 0, 0, 0, 0, 0, 0, 0, [])]
set_option maxRecDepth 100000 in
theorem zk_L_work_0 : zOks nL_work zo_L_work_0 0 = true := by decide +kernel
def zm_L_work : List (Nat × List Bool) := [(0, [true, true, false])]
set_option maxRecDepth 100000 in
set_option maxHeartbeats 4000000 in
theorem zr_L_work_0 {C : zCa} {post : zPo} {X : zX} (hX : zClosed none C post nL_work X) (p1 : Int32) (σ : zS) (h : C nL_type [.ref 63, .int p1] σ (zPI fun x2 σ1 => zIf ((x2 : Int32) = 0) (vp_in p1 (zN 63) ∧ (post (some (.int (4 * (σ1.1 63 (Int32.toNatClampNeg p1))))) σ1)) (zIf ((x2 : Int32) = 1) (vp_in p1 (zN 63) ∧ (vp_in (18 + p1) (zN 63) ∧ (post (some (.int ((σ1.1 63 (Int32.toNatClampNeg p1)) + (2 * (σ1.1 63 (Int32.toNatClampNeg (18 + p1))))))) σ1))) (vp_in p1 (zN 63) ∧ (¬ (2 : Int32) = 0 ∧ (vp_in (18 + p1) (zN 63) ∧ (post (some (.int (((σ1.1 63 (Int32.toNatClampNeg p1)) / 2) + (σ1.1 63 (Int32.toNatClampNeg (18 + p1)))))) σ1))))))) : X 0 [some (.ref 63), some (.int p1), none] [] σ := zSeq_ok hX zm_L_work zo_L_work_0 0 0 _ _ _ zk_L_work_0 h
theorem ze_L_work {d : Nat} {post : zPo} (p1 : Int32) (σ : zS) (h : ∀ X : zX, zClosed none (zCall d) post nL_work X → X 0 [some (.ref 63), some (.int p1), none] [] σ) : zCall (d + 1) nL_work [.ref 63, .int p1] σ post := h
-- L_bits(63,) depth 5
def zo_L_bits_0 : List zOp := [(.bipush 40, 2, 0, 0, 0, 0, 0, 40, 0, []), (.sipush 200, 5, 0, 0, 0, 0, 0, 200, 0, []), (.aload_n 0, 6, 0, 0, 0, 0, 0, 0, 0, []), (.iload_n 1, 7, 1, 0, 0, 0, 0, 0, 0, []), (.invokestatic 25, 10, 78, 2, 1, 0, 684, 0, 0, []), (.imul, 11, 0, 0, 0, 0, 0, 0, 0, []), (.iload_n 2, 12, 2, 0, 0, 0, 0, 0, 0, []), (.invokestatic 28, 15, 77, 1, 1, 0, 694, 0, 0, []), (.idiv, 16, 0, 0, 0, 0, 0, 0, 0, []), (.iadd, 17, 0, 0, 0, 0, 0, 0, 0, []), (.ireturn, 18, 0, 0, 0, 0, 0, 0, 0, [])]
set_option maxRecDepth 100000 in
theorem zk_L_bits_0 : zOks nL_bits zo_L_bits_0 0 = true := by decide +kernel
def zm_L_bits : List (Nat × List Bool) := [(0, [true, true, true])]
set_option maxRecDepth 100000 in
set_option maxHeartbeats 4000000 in
theorem zr_L_bits_0 {C : zCa} {post : zPo} {X : zX} (hX : zClosed none C post nL_bits X) (p1 : Int32) (p2 : Int32) (σ : zS) (h : C nL_work [.ref 63, .int p1] σ (zPI fun x2 σ1 => C nL_step [.int p2] σ1 (zPI fun x4 σ3 => ¬ (x4 : Int32) = 0 ∧ (post (some (.int (40 + ((200 * x2) / x4)))) σ3)))) : X 0 [some (.ref 63), some (.int p1), some (.int p2)] [] σ := zSeq_ok hX zm_L_bits zo_L_bits_0 0 0 _ _ _ zk_L_bits_0 h
theorem ze_L_bits {d : Nat} {post : zPo} (p1 : Int32) (p2 : Int32) (σ : zS) (h : ∀ X : zX, zClosed none (zCall d) post nL_bits X → X 0 [some (.ref 63), some (.int p1), some (.int p2)] [] σ) : zCall (d + 1) nL_bits [.ref 63, .int p1, .int p2] σ post := h
-- L_bridgesBefore(63,) depth 4
def zo_L_bridgesBefore_0 : List zOp := [(.iconst 0, 1, 0, 0, 0, 0, 0, 0, 0, []), (.istore_n 2, 2, 2, 0, 0, 0, 0, 0, 0, [])]
set_option maxRecDepth 100000 in
theorem zk_L_bridgesBefore_0 : zOks nL_bridgesBefore zo_L_bridgesBefore_0 0 = true := by decide +kernel
def zo_L_bridgesBefore_2 : List zOp := [(.iload_n 1, 3, 1, 0, 0, 0, 0, 0, 0, []), (.iload_n 2, 4, 2, 0, 0, 0, 0, 0, 0, []), (.isub, 5, 0, 0, 0, 0, 0, 0, 0, []), (.ifCond .le 22, 8, 27, 0, 0, 0, 0, 0, 0, []), (.aload_n 0, 9, 0, 0, 0, 0, 0, 0, 0, []), (.iload_n 1, 10, 1, 0, 0, 0, 0, 0, 0, []), (.iload_n 2, 11, 2, 0, 0, 0, 0, 0, 0, []), (.isub, 12, 0, 0, 0, 0, 0, 0, 0, []), (.iconst 1, 13, 0, 0, 0, 0, 0, 1, 0, []), (.isub, 14, 0, 0, 0, 0, 0, 0, 0, []), (.invokestatic 19, 17, 73, 2, 1, 0, 672, 0, 0, []), (.iconst 2, 18, 0, 0, 0, 0, 0, 2, 0, []), (.if_icmp .ne 9, 21, 27, 0, 0, 0, 0, 0, 0, []), (.iinc 2 1, 24, 2, 0, 0, 0, 0, 1, 0, []), (.goto (-22), 27, 2, 0, 0, 0, 0, 0, 0, []), (.iload_n 2, 28, 2, 0, 0, 0, 0, 0, 0, []), (.ireturn, 29, 0, 0, 0, 0, 0, 0, 0, [])]
set_option maxRecDepth 100000 in
theorem zk_L_bridgesBefore_2 : zOks nL_bridgesBefore zo_L_bridgesBefore_2 2 = true := by decide +kernel
def zm_L_bridgesBefore : List (Nat × List Bool) := [(0, [true, true, false]), (2, [true, true, true])]
set_option maxRecDepth 100000 in
set_option maxHeartbeats 4000000 in
theorem zr_L_bridgesBefore_0 {C : zCa} {post : zPo} {X : zX} (hX : zClosed none C post nL_bridgesBefore X) (p1 : Int32) (σ : zS) (h : X 2 [some (.ref 63), some (.int p1), some (.int 0)] [] σ) : X 0 [some (.ref 63), some (.int p1), none] [] σ := zSeq_ok hX zm_L_bridgesBefore zo_L_bridgesBefore_0 0 0 _ _ _ zk_L_bridgesBefore_0 h
set_option maxRecDepth 100000 in
set_option maxHeartbeats 4000000 in
theorem zr_L_bridgesBefore_2 {C : zCa} {post : zPo} {X : zX} (hX : zClosed none C post nL_bridgesBefore X) (v1 : Int32) (v2 : Int32) (σ : zS) (h : zIf ((v1 - v2 : Int32) ≤ 0) (post (some (.int v2)) σ) (C nL_type [.ref 63, .int ((v1 - v2) - 1)] σ (zPI fun x2 σ1 => zIf ((x2 : Int32) = 2) (X 2 [some (.ref 63), some (.int v1), some (.int (v2 + 1))] [] σ1) (post (some (.int v2)) σ1)))) : X 2 [some (.ref 63), some (.int v1), some (.int v2)] [] σ := zSeq_ok hX zm_L_bridgesBefore zo_L_bridgesBefore_2 2 2 _ _ _ zk_L_bridgesBefore_2 h
theorem ze_L_bridgesBefore {d : Nat} {post : zPo} (p1 : Int32) (σ : zS) (h : ∀ X : zX, zClosed none (zCall d) post nL_bridgesBefore X → X 0 [some (.ref 63), some (.int p1), none] [] σ) : zCall (d + 1) nL_bridgesBefore [.ref 63, .int p1] σ post := h
-- L_cell(80,) depth 1
def zo_L_cell_0 : List zOp := [(.iload_n 1, 1, 1, 0, 0, 0, 0, 0, 0, []), (.aload_n 0, 2, 0, 0, 0, 0, 0, 0, 0, []), (.arraylength, 3, 0, 0, 0, 0, 0, 0, 0, []), (.if_icmp .ge 9, 6, 12, 0, 0, 0, 0, 0, 0, []), (.aload_n 0, 7, 0, 0, 0, 0, 0, 0, 0, []), (.iload_n 1, 8, 1, 0, 0, 0, 0, 0, 0, []), (.iaload, 9, 0, 0, 0, 0, 0, 0, 0, []), (.goto 9, 12, 18, 0, 0, 0, 0, 0, 0, []), (.ldc 7, 14, 0, 0, 0, 0, 651, 1013904223, 0, []), (.iload_n 1, 15, 1, 0, 0, 0, 0, 0, 0, []), (.iconst 1, 16, 0, 0, 0, 0, 0, 1, 0, []), (.iadd, 17, 0, 0, 0, 0, 0, 0, 0, []), (.imul, 18, 0, 0, 0, 0, 0, 0, 0, []), (.ireturn, 19, 0, 0, 0, 0, 0, 0, 0, [])]
set_option maxRecDepth 100000 in
theorem zk_L_cell_0 : zOks nL_cell zo_L_cell_0 0 = true := by decide +kernel
def zm_L_cell : List (Nat × List Bool) := [(0, [true, true])]
set_option maxRecDepth 100000 in
set_option maxHeartbeats 4000000 in
theorem zr_L_cell_0 {C : zCa} {post : zPo} {X : zX} {L : Nat} {xs : Nat → Int32} (hX : zClosed (some (L, xs)) C post nL_cell X) (p1 : Int32) (σ : zS) (h : zIf ((p1 : Int32) < (nI L)) (vp_in p1 L ∧ (post (some (.int (xs (Int32.toNatClampNeg p1)))) σ)) (post (some (.int (1013904223 * (p1 + 1)))) σ)) : X 0 [some (.ref 80), some (.int p1)] [] σ := zSeq_ok hX zm_L_cell zo_L_cell_0 0 0 _ _ _ zk_L_cell_0 h
theorem ze_L_cell {d : Nat} {post : zPo} {L : Nat} {xs : Nat → Int32} (p1 : Int32) (σ : zS) (h : ∀ X : zX, zClosed (some (L, xs)) (zCallS (some (L, xs)) d) post nL_cell X → X 0 [some (.ref 80), some (.int p1)] [] σ) : zCallS (some (L, xs)) (d + 1) nL_cell [.ref 80, .int p1] σ post := h
-- L_low() depth 1
def zo_L_low_0 : List zOp := [(.iload_n 0, 1, 0, 0, 0, 0, 0, 0, 0, []), (.ldc 8, 3, 0, 0, 0, 0, 655, 2147483647, 0, []), (.iand, 4, 0, 0, 0, 0, 0, 0, 0, []), (.iload_n 1, 5, 1, 0, 0, 0, 0, 0, 0, []), (.irem, 6, 0, 0, 0, 0, 0, 0, 0, []), (.ireturn, 7, 0, 0, 0, 0, 0, 0, 0, [])]
set_option maxRecDepth 100000 in
theorem zk_L_low_0 : zOks nL_low zo_L_low_0 0 = true := by decide +kernel
def zm_L_low : List (Nat × List Bool) := [(0, [true, true])]
set_option maxRecDepth 100000 in
set_option maxHeartbeats 4000000 in
theorem zr_L_low_0 {C : zCa} {post : zPo} {X : zX} (hX : zClosed none C post nL_low X) (p0 : Int32) (p1 : Int32) (σ : zS) (h : ¬ (p1 : Int32) = 0 ∧ (post (some (.int ((p0 &&& 2147483647) - (p0 &&& 2147483647) / p1 * p1))) σ)) : X 0 [some (.int p0), some (.int p1)] [] σ := zSeq_ok hX zm_L_low zo_L_low_0 0 0 _ _ _ zk_L_low_0 h
theorem ze_L_low {d : Nat} {post : zPo} (p0 : Int32) (p1 : Int32) (σ : zS) (h : ∀ X : zX, zClosed none (zCall d) post nL_low X → X 0 [some (.int p0), some (.int p1)] [] σ) : zCall (d + 1) nL_low [.int p0, .int p1] σ post := h
-- L_grows(0, 63, 80) depth 7
def zo_L_grows_0 : List zOp := [(.aload_n 2, 1, 2, 0, 0, 0, 0, 0, 0, []), (.iload_n 3, 2, 3, 0, 0, 0, 0, 0, 0, []), (.invokestatic 37, 5, 69, 2, 1, 0, 648, 0, 0, []), (.istore 4, 7, 4, 0, 0, 0, 0, 0, 0, []), (.aload_n 1, 8, 1, 0, 0, 0, 0, 0, 0, []), (.bipush 36, 10, 0, 0, 0, 0, 0, 36, 0, []), (.iconst 1, 11, 0, 0, 0, 0, 0, 1, 0, []), (.iload 4, 13, 4, 0, 0, 0, 0, 0, 0, []), (.bipush 12, 15, 0, 0, 0, 0, 0, 12, 0, []), (.invokestatic 40, 18, 70, 2, 1, 0, 652, 0, 0, []), (.iadd, 19, 0, 0, 0, 0, 0, 0, 0, []), (.iastore, 20, 0, 0, 0, 0, 0, 0, 0, []), (.aload_n 1, 21, 1, 0, 0, 0, 0, 0, 0, []), (.bipush 37, 23, 0, 0, 0, 0, 0, 37, 0, []), (.iconst 1, 24, 0, 0, 0, 0, 0, 1, 0, []), (.iload 4, 26, 4, 0, 0, 0, 0, 0, 0, []), (.iconst 4, 27, 0, 0, 0, 0, 0, 4, 0, []), (.ishr, 28, 0, 0, 0, 0, 0, 0, 0, []), (.bipush 9, 30, 0, 0, 0, 0, 0, 9, 0, []), (.invokestatic 40, 33, 70, 2, 1, 0, 652, 0, 0, []), (.iadd, 34, 0, 0, 0, 0, 0, 0, 0, []), (.iastore, 35, 0, 0, 0, 0, 0, 0, 0, []), (.aload_n 1, 36, 1, 0, 0, 0, 0, 0, 0, []), (.bipush 38, 38, 0, 0, 0, 0, 0, 38, 0, []), (.iload 4, 40, 4, 0, 0, 0, 0, 0, 0, []), (.bipush 8, 42, 0, 0, 0, 0, 0, 8, 0, []), (.ishr, 43, 0, 0, 0, 0, 0, 0, 0, []), (.iconst 3, 44, 0, 0, 0, 0, 0, 3, 0, []), (.iand, 45, 0, 0, 0, 0, 0, 0, 0, []), (.iastore, 46, 0, 0, 0, 0, 0, 0, 0, []), (.aload_n 0, 47, 0, 0, 0, 0, 0, 0, 0, []), (.aload_n 1, 48, 1, 0, 0, 0, 0, 0, 0, []), (.bipush 37, 50, 0, 0, 0, 0, 0, 37, 0, []), (.iaload, 51, 0, 0, 0, 0, 0, 0, 0, []), (.invokevirtual 44, 54, 44, 2, 1, 11, 502, 0, 0, []), (.bipush 12, 56, 0, 0, 0, 0, 0, 12, 0, []), (.if_icmp .ne 19, 59, 75, 0, 0, 0, 0, 0, 0, []), (.aload_n 0, 60, 0, 0, 0, 0, 0, 0, 0, []), (.aload_n 1, 61, 1, 0, 0, 0, 0, 0, 0, []), (.bipush 38, 63, 0, 0, 0, 0, 0, 38, 0, []), (.iaload, 64, 0, 0, 0, 0, 0, 0, 0, []), (.invokevirtual 49, 67, 45, 2, 1, 11, 506, 0, 0, []), (.iconst 2, 68, 0, 0, 0, 0, 0, 2, 0, []), (.if_icmp .ne 7, 71, 75, 0, 0, 0, 0, 0, 0, []), (.iconst 1, 72, 0, 0, 0, 0, 0, 1, 0, []), (.goto 4, 75, 76, 0, 0, 0, 0, 0, 0, [])]
set_option maxRecDepth 100000 in
theorem zk_L_grows_0 : zOks nL_grows zo_L_grows_0 0 = true := by decide +kernel
def zo_L_grows_75 : List zOp := [(.iconst 0, 76, 0, 0, 0, 0, 0, 0, 0, [])]
set_option maxRecDepth 100000 in
theorem zk_L_grows_75 : zOks nL_grows zo_L_grows_75 75 = true := by decide +kernel
def zo_L_grows_76 : List zOp := [(.istore 5, 78, 5, 0, 0, 0, 0, 0, 0, []), (.iconst 0, 79, 0, 0, 0, 0, 0, 0, 0, []), (.istore 6, 81, 6, 0, 0, 0, 0, 0, 0, [])]
set_option maxRecDepth 100000 in
theorem zk_L_grows_76 : zOks nL_grows zo_L_grows_76 76 = true := by decide +kernel
def zo_L_grows_81 : List zOp := [(.iload 6, 83, 6, 0, 0, 0, 0, 0, 0, []), (.bipush 18, 85, 0, 0, 0, 0, 0, 18, 0, []), (.if_icmp .ge 17, 88, 102, 0, 0, 0, 0, 0, 0, []), (.aload_n 1, 89, 1, 0, 0, 0, 0, 0, 0, []), (.bipush 40, 91, 0, 0, 0, 0, 0, 40, 0, []), (.iload 6, 93, 6, 0, 0, 0, 0, 0, 0, []), (.iadd, 94, 0, 0, 0, 0, 0, 0, 0, []), (.iconst 4, 95, 0, 0, 0, 0, 0, 4, 0, []), (.iastore, 96, 0, 0, 0, 0, 0, 0, 0, []), (.iinc 6 1, 99, 6, 0, 0, 0, 0, 1, 0, []), (.goto (-18), 102, 81, 0, 0, 0, 0, 0, 0, []), (.iconst 0, 103, 0, 0, 0, 0, 0, 0, 0, []), (.istore 6, 105, 6, 0, 0, 0, 0, 0, 0, [])]
set_option maxRecDepth 100000 in
theorem zk_L_grows_81 : zOks nL_grows zo_L_grows_81 81 = true := by decide +kernel
def zo_L_grows_105 : List zOp := [(.iload 6, 107, 6, 0, 0, 0, 0, 0, 0, []), (.aload_n 1, 108, 1, 0, 0, 0, 0, 0, 0, []), (.bipush 36, 110, 0, 0, 0, 0, 0, 36, 0, []), (.iaload, 111, 0, 0, 0, 0, 0, 0, 0, []), (.if_icmp .ge 182, 114, 293, 0, 0, 0, 0, 0, 0, []), (.aload_n 2, 115, 2, 0, 0, 0, 0, 0, 0, []), (.iload_n 3, 116, 3, 0, 0, 0, 0, 0, 0, []), (.iconst 1, 117, 0, 0, 0, 0, 0, 1, 0, []), (.iadd, 118, 0, 0, 0, 0, 0, 0, 0, []), (.iload 6, 120, 6, 0, 0, 0, 0, 0, 0, []), (.iadd, 121, 0, 0, 0, 0, 0, 0, 0, []), (.invokestatic 37, 124, 69, 2, 1, 0, 648, 0, 0, []), (.istore 7, 126, 7, 0, 0, 0, 0, 0, 0, []), (.aload_n 1, 127, 1, 0, 0, 0, 0, 0, 0, []), (.iload 6, 129, 6, 0, 0, 0, 0, 0, 0, []), (.iconst 1, 130, 0, 0, 0, 0, 0, 1, 0, []), (.iload 7, 132, 7, 0, 0, 0, 0, 0, 0, []), (.iload 7, 134, 7, 0, 0, 0, 0, 0, 0, []), (.bipush 12, 136, 0, 0, 0, 0, 0, 12, 0, []), (.ishr, 137, 0, 0, 0, 0, 0, 0, 0, []), (.iconst 4, 138, 0, 0, 0, 0, 0, 4, 0, []), (.invokestatic 40, 141, 70, 2, 1, 0, 652, 0, 0, []), (.ifCond .ne 9, 144, 150, 0, 0, 0, 0, 0, 0, []), (.sipush 4000, 147, 0, 0, 0, 0, 0, 4000, 0, []), (.goto 6, 150, 153, 0, 0, 0, 0, 0, 0, []), (.sipush 400, 153, 0, 0, 0, 0, 0, 400, 0, [])]
set_option maxRecDepth 100000 in
theorem zk_L_grows_105 : zOks nL_grows zo_L_grows_105 105 = true := by decide +kernel
def zo_L_grows_153 : List zOp := [(.invokestatic 40, 156, 70, 2, 1, 0, 652, 0, 0, []), (.iadd, 157, 0, 0, 0, 0, 0, 0, 0, []), (.iastore, 158, 0, 0, 0, 0, 0, 0, 0, []), (.aload_n 1, 159, 1, 0, 0, 0, 0, 0, 0, []), (.bipush 18, 161, 0, 0, 0, 0, 0, 18, 0, []), (.iload 6, 163, 6, 0, 0, 0, 0, 0, 0, []), (.iadd, 164, 0, 0, 0, 0, 0, 0, 0, []), (.iload 7, 166, 7, 0, 0, 0, 0, 0, 0, []), (.bipush 14, 168, 0, 0, 0, 0, 0, 14, 0, []), (.ishr, 169, 0, 0, 0, 0, 0, 0, 0, []), (.iconst 5, 170, 0, 0, 0, 0, 0, 5, 0, []), (.invokestatic 40, 173, 70, 2, 1, 0, 652, 0, 0, []), (.ifCond .ne 30, 176, 203, 0, 0, 0, 0, 0, 0, []), (.iconst 2, 177, 0, 0, 0, 0, 0, 2, 0, []), (.aload_n 1, 178, 1, 0, 0, 0, 0, 0, 0, []), (.iload 6, 180, 6, 0, 0, 0, 0, 0, 0, []), (.iaload, 181, 0, 0, 0, 0, 0, 0, 0, []), (.imul, 182, 0, 0, 0, 0, 0, 0, 0, []), (.sipush 4000, 185, 0, 0, 0, 0, 0, 4000, 0, []), (.if_icmp .le 9, 188, 194, 0, 0, 0, 0, 0, 0, []), (.sipush 4000, 191, 0, 0, 0, 0, 0, 4000, 0, []), (.goto 30, 194, 221, 0, 0, 0, 0, 0, 0, []), (.iconst 2, 195, 0, 0, 0, 0, 0, 2, 0, []), (.aload_n 1, 196, 1, 0, 0, 0, 0, 0, 0, []), (.iload 6, 198, 6, 0, 0, 0, 0, 0, 0, []), (.iaload, 199, 0, 0, 0, 0, 0, 0, 0, []), (.imul, 200, 0, 0, 0, 0, 0, 0, 0, []), (.goto 21, 203, 221, 0, 0, 0, 0, 0, 0, []), (.iload 7, 205, 7, 0, 0, 0, 0, 0, 0, []), (.bipush 17, 207, 0, 0, 0, 0, 0, 17, 0, []), (.ishr, 208, 0, 0, 0, 0, 0, 0, 0, []), (.iconst 3, 209, 0, 0, 0, 0, 0, 3, 0, []), (.aload_n 1, 210, 1, 0, 0, 0, 0, 0, 0, []), (.iload 6, 212, 6, 0, 0, 0, 0, 0, 0, []), (.iaload, 213, 0, 0, 0, 0, 0, 0, 0, []), (.imul, 214, 0, 0, 0, 0, 0, 0, 0, []), (.iconst 2, 215, 0, 0, 0, 0, 0, 2, 0, []), (.idiv, 216, 0, 0, 0, 0, 0, 0, 0, []), (.iconst 1, 217, 0, 0, 0, 0, 0, 1, 0, []), (.iadd, 218, 0, 0, 0, 0, 0, 0, 0, []), (.invokestatic 40, 221, 70, 2, 1, 0, 652, 0, 0, [])]
set_option maxRecDepth 100000 in
theorem zk_L_grows_153 : zOks nL_grows zo_L_grows_153 153 = true := by decide +kernel
def zo_L_grows_221 : List zOp := [(.iastore, 222, 0, 0, 0, 0, 0, 0, 0, []), (.aload_n 1, 223, 1, 0, 0, 0, 0, 0, 0, []), (.bipush 18, 225, 0, 0, 0, 0, 0, 18, 0, []), (.iload 6, 227, 6, 0, 0, 0, 0, 0, 0, []), (.iadd, 228, 0, 0, 0, 0, 0, 0, 0, []), (.aload_n 1, 229, 1, 0, 0, 0, 0, 0, 0, []), (.bipush 18, 231, 0, 0, 0, 0, 0, 18, 0, []), (.iload 6, 233, 6, 0, 0, 0, 0, 0, 0, []), (.iadd, 234, 0, 0, 0, 0, 0, 0, 0, []), (.iaload, 235, 0, 0, 0, 0, 0, 0, 0, []), (.sipush 4000, 238, 0, 0, 0, 0, 0, 4000, 0, []), (.if_icmp .le 9, 241, 247, 0, 0, 0, 0, 0, 0, []), (.sipush 4000, 244, 0, 0, 0, 0, 0, 4000, 0, []), (.goto 10, 247, 254, 0, 0, 0, 0, 0, 0, []), (.aload_n 1, 248, 1, 0, 0, 0, 0, 0, 0, []), (.bipush 18, 250, 0, 0, 0, 0, 0, 18, 0, []), (.iload 6, 252, 6, 0, 0, 0, 0, 0, 0, []), (.iadd, 253, 0, 0, 0, 0, 0, 0, 0, []), (.iaload, 254, 0, 0, 0, 0, 0, 0, 0, [])]
set_option maxRecDepth 100000 in
theorem zk_L_grows_221 : zOks nL_grows zo_L_grows_221 221 = true := by decide +kernel
def zo_L_grows_254 : List zOp := [(.iastore, 255, 0, 0, 0, 0, 0, 0, 0, []), (.iload 5, 257, 5, 0, 0, 0, 0, 0, 0, []), (.ifCond .eq 27, 260, 284, 0, 0, 0, 0, 0, 0, []), (.aload_n 0, 261, 0, 0, 0, 0, 0, 0, 0, []), (.aload_n 1, 262, 1, 0, 0, 0, 0, 0, 0, []), (.iload 6, 264, 6, 0, 0, 0, 0, 0, 0, []), (.iaload, 265, 0, 0, 0, 0, 0, 0, 0, []), (.aload_n 1, 266, 1, 0, 0, 0, 0, 0, 0, []), (.bipush 18, 268, 0, 0, 0, 0, 0, 18, 0, []), (.iload 6, 270, 6, 0, 0, 0, 0, 0, 0, []), (.iadd, 271, 0, 0, 0, 0, 0, 0, 0, []), (.iaload, 272, 0, 0, 0, 0, 0, 0, 0, []), (.invokevirtual 52, 275, 39, 3, 1, 11, 417, 0, 0, []), (.iload 6, 277, 6, 0, 0, 0, 0, 0, 0, []), (.if_icmp .ne 7, 280, 284, 0, 0, 0, 0, 0, 0, []), (.iconst 1, 281, 0, 0, 0, 0, 0, 1, 0, []), (.goto 4, 284, 285, 0, 0, 0, 0, 0, 0, [])]
set_option maxRecDepth 100000 in
theorem zk_L_grows_254 : zOks nL_grows zo_L_grows_254 254 = true := by decide +kernel
def zo_L_grows_284 : List zOp := [(.iconst 0, 285, 0, 0, 0, 0, 0, 0, 0, [])]
set_option maxRecDepth 100000 in
theorem zk_L_grows_284 : zOks nL_grows zo_L_grows_284 284 = true := by decide +kernel
def zo_L_grows_285 : List zOp := [(.istore 5, 287, 5, 0, 0, 0, 0, 0, 0, []), (.iinc 6 1, 290, 6, 0, 0, 0, 0, 1, 0, []), (.goto (-185), 293, 105, 0, 0, 0, 0, 0, 0, []), (.iload 4, 295, 4, 0, 0, 0, 0, 0, 0, []), (.bipush 10, 297, 0, 0, 0, 0, 0, 10, 0, []), (.ishr, 298, 0, 0, 0, 0, 0, 0, 0, []), (.bipush 6, 300, 0, 0, 0, 0, 0, 6, 0, []), (.invokestatic 40, 303, 70, 2, 1, 0, 652, 0, 0, []), (.istore 6, 305, 6, 0, 0, 0, 0, 0, 0, []), (.aload_n 1, 306, 1, 0, 0, 0, 0, 0, 0, []), (.bipush 40, 308, 0, 0, 0, 0, 0, 40, 0, []), (.iload 6, 310, 6, 0, 0, 0, 0, 0, 0, []), (.iadd, 311, 0, 0, 0, 0, 0, 0, 0, []), (.iconst 1, 312, 0, 0, 0, 0, 0, 1, 0, []), (.iload 4, 314, 4, 0, 0, 0, 0, 0, 0, []), (.bipush 13, 316, 0, 0, 0, 0, 0, 13, 0, []), (.ishr, 317, 0, 0, 0, 0, 0, 0, 0, []), (.bipush 8, 319, 0, 0, 0, 0, 0, 8, 0, []), (.invokestatic 40, 322, 70, 2, 1, 0, 652, 0, 0, []), (.iadd, 323, 0, 0, 0, 0, 0, 0, 0, []), (.iastore, 324, 0, 0, 0, 0, 0, 0, 0, []), (.iload 5, 326, 5, 0, 0, 0, 0, 0, 0, []), (.ifCond .eq 24, 329, 350, 0, 0, 0, 0, 0, 0, []), (.aload_n 0, 330, 0, 0, 0, 0, 0, 0, 0, []), (.iload 6, 332, 6, 0, 0, 0, 0, 0, 0, []), (.aload_n 1, 333, 1, 0, 0, 0, 0, 0, 0, []), (.bipush 40, 335, 0, 0, 0, 0, 0, 40, 0, []), (.iload 6, 337, 6, 0, 0, 0, 0, 0, 0, []), (.iadd, 338, 0, 0, 0, 0, 0, 0, 0, []), (.iaload, 339, 0, 0, 0, 0, 0, 0, 0, []), (.invokevirtual 55, 342, 46, 3, 1, 11, 662, 0, 0, []), (.iconst 4, 343, 0, 0, 0, 0, 0, 4, 0, []), (.if_icmp .ne 7, 346, 350, 0, 0, 0, 0, 0, 0, []), (.iconst 1, 347, 0, 0, 0, 0, 0, 1, 0, []), (.goto 4, 350, 351, 0, 0, 0, 0, 0, 0, [])]
set_option maxRecDepth 100000 in
theorem zk_L_grows_285 : zOks nL_grows zo_L_grows_285 285 = true := by decide +kernel
def zo_L_grows_350 : List zOp := [(.iconst 0, 351, 0, 0, 0, 0, 0, 0, 0, [])]
set_option maxRecDepth 100000 in
theorem zk_L_grows_350 : zOks nL_grows zo_L_grows_350 350 = true := by decide +kernel
def zo_L_grows_351 : List zOp := [(.ireturn, 352, 0, 0, 1, 0, 0, 0, 0, [])]
set_option maxRecDepth 100000 in
theorem zk_L_grows_351 : zOks nL_grows zo_L_grows_351 351 = true := by decide +kernel
def zm_L_grows : List (Nat × List Bool) := [(0, [true, true, true, true, false, false, false, false]), (75, [true, true, true, true, true, false, false, false]), (76, [true, true, true, true, true, false, false, false]), (81, [true, true, true, true, true, true, true, false]), (105, [true, true, true, true, true, true, true, false]), (153, [true, true, true, true, true, true, true, true]), (221, [true, true, true, true, true, true, true, false]), (254, [true, true, true, true, true, true, true, false]), (284, [true, true, true, true, true, false, true, false]), (285, [true, true, true, true, true, false, true, false]), (293, [true, true, false, false, true, true, false, false]), (350, [false, false, false, false, false, false, false, false]), (351, [false, false, false, false, false, false, false, false])]
set_option maxRecDepth 100000 in
set_option maxHeartbeats 4000000 in
theorem zr_L_grows_0 {C : zCa} {post : zPo} {X : zX} {L : Nat} {xs : Nat → Int32} (hX : zClosed (some (L, xs)) C post nL_grows X) (p3 : Int32) (σ : zS) (h : C nL_cell [.ref 80, .int p3] σ (zPI fun x2 σ1 => C nL_low [.int x2, .int 12] σ1 (zPI fun x4 σ3 => vp_in 36 (zN 63) ∧ (C nL_low [.int (x2 >>> ((4 : Int32) &&& 31)), .int 9] (zSI σ3 63 (Int32.toNatClampNeg 36) (1 + x4)) (zPI fun x6 σ5 => vp_in 37 (zN 63) ∧ (vp_in 38 (zN 63) ∧ (vp_in 37 (zN 63) ∧ (C nX11_setInterval [.ref 0, .int ((zSI (zSI σ5 63 (Int32.toNatClampNeg 37) (1 + x6)) 63 (Int32.toNatClampNeg 38) ((x2 >>> ((8 : Int32) &&& 31)) &&& 3)).1 63 (Int32.toNatClampNeg 37))] (zSI (zSI σ5 63 (Int32.toNatClampNeg 37) (1 + x6)) 63 (Int32.toNatClampNeg 38) ((x2 >>> ((8 : Int32) &&& 31)) &&& 3)) (zPI fun x8 σ7 => zIf ((x8 : Int32) = 12) (vp_in 38 (zN 63) ∧ (C nX11_setBridges [.ref 0, .int (σ7.1 63 (Int32.toNatClampNeg 38))] σ7 (zPI fun x10 σ9 => zIf ((x10 : Int32) = 2) (X 76 [some (.ref 0), some (.ref 63), some (.ref 80), some (.int p3), some (.int x2), none, none, none] [.int 1] σ9) (X 75 [some (.ref 0), some (.ref 63), some (.ref 80), some (.int p3), some (.int x2), none, none, none] [] σ9)))) (X 75 [some (.ref 0), some (.ref 63), some (.ref 80), some (.int p3), some (.int x2), none, none, none] [] σ7)))))))))) : X 0 [some (.ref 0), some (.ref 63), some (.ref 80), some (.int p3), none, none, none, none] [] σ := zSeq_ok hX zm_L_grows zo_L_grows_0 0 0 _ _ _ zk_L_grows_0 h
set_option maxRecDepth 100000 in
set_option maxHeartbeats 4000000 in
theorem zr_L_grows_76 {C : zCa} {post : zPo} {X : zX} {L : Nat} {xs : Nat → Int32} (hX : zClosed (some (L, xs)) C post nL_grows X) (v3 : Int32) (v4 : Int32) (t0 : Int32) (σ : zS) (h : X 81 [some (.ref 0), some (.ref 63), some (.ref 80), some (.int v3), some (.int v4), some (.int t0), some (.int 0), none] [] σ) : X 76 [some (.ref 0), some (.ref 63), some (.ref 80), some (.int v3), some (.int v4), none, none, none] [.int t0] σ := zSeq_ok hX zm_L_grows zo_L_grows_76 76 76 _ _ _ zk_L_grows_76 h
set_option maxRecDepth 100000 in
set_option maxHeartbeats 4000000 in
theorem zr_L_grows_75 {C : zCa} {post : zPo} {X : zX} {L : Nat} {xs : Nat → Int32} (hX : zClosed (some (L, xs)) C post nL_grows X) (v3 : Int32) (v4 : Int32) (σ : zS) (h : X 76 [some (.ref 0), some (.ref 63), some (.ref 80), some (.int v3), some (.int v4), none, none, none] [.int 0] σ) : X 75 [some (.ref 0), some (.ref 63), some (.ref 80), some (.int v3), some (.int v4), none, none, none] [] σ := zSeq_ok hX zm_L_grows zo_L_grows_75 75 75 _ _ _ zk_L_grows_75 h
set_option maxRecDepth 100000 in
set_option maxHeartbeats 4000000 in
theorem zr_L_grows_81 {C : zCa} {post : zPo} {X : zX} {L : Nat} {xs : Nat → Int32} (hX : zClosed (some (L, xs)) C post nL_grows X) (v3 : Int32) (v4 : Int32) (v5 : Int32) (v6 : Int32) (σ : zS) (h : zIf ((v6 : Int32) < 18) (vp_in (40 + v6) (zN 63) ∧ (X 81 [some (.ref 0), some (.ref 63), some (.ref 80), some (.int v3), some (.int v4), some (.int v5), some (.int (v6 + 1)), none] [] (zSI σ 63 (Int32.toNatClampNeg (40 + v6)) 4))) (X 105 [some (.ref 0), some (.ref 63), some (.ref 80), some (.int v3), some (.int v4), some (.int v5), some (.int 0), none] [] σ)) : X 81 [some (.ref 0), some (.ref 63), some (.ref 80), some (.int v3), some (.int v4), some (.int v5), some (.int v6), none] [] σ := zSeq_ok hX zm_L_grows zo_L_grows_81 81 81 _ _ _ zk_L_grows_81 h
set_option maxRecDepth 100000 in
set_option maxHeartbeats 4000000 in
theorem zr_L_grows_105 {C : zCa} {post : zPo} {X : zX} {L : Nat} {xs : Nat → Int32} (hX : zClosed (some (L, xs)) C post nL_grows X) (v3 : Int32) (v4 : Int32) (v5 : Int32) (v6 : Int32) (σ : zS) (h : vp_in 36 (zN 63) ∧ (zIf ((v6 : Int32) < (σ.1 63 (Int32.toNatClampNeg 36))) (C nL_cell [.ref 80, .int ((v3 + 1) + v6)] σ (zPI fun x2 σ1 => C nL_low [.int (x2 >>> ((12 : Int32) &&& 31)), .int 4] σ1 (zPI fun x4 σ3 => zIf ((x4 : Int32) = 0) (X 153 [some (.ref 0), some (.ref 63), some (.ref 80), some (.int v3), some (.int v4), some (.int v5), some (.int v6), some (.int x2)] [.int 4000, .int x2, .int 1, .int v6, .ref 63] σ3) (X 153 [some (.ref 0), some (.ref 63), some (.ref 80), some (.int v3), some (.int v4), some (.int v5), some (.int v6), some (.int x2)] [.int 400, .int x2, .int 1, .int v6, .ref 63] σ3)))) (X 293 [some (.ref 0), some (.ref 63), none, none, some (.int v4), some (.int v5), none, none] [] σ))) : X 105 [some (.ref 0), some (.ref 63), some (.ref 80), some (.int v3), some (.int v4), some (.int v5), some (.int v6), none] [] σ := zSeq_ok hX zm_L_grows zo_L_grows_105 105 105 _ _ _ zk_L_grows_105 h
set_option maxRecDepth 100000 in
set_option maxHeartbeats 4000000 in
theorem zr_L_grows_153 {C : zCa} {post : zPo} {X : zX} {L : Nat} {xs : Nat → Int32} (hX : zClosed (some (L, xs)) C post nL_grows X) (v3 : Int32) (v4 : Int32) (v5 : Int32) (v6 : Int32) (v7 : Int32) (t0 : Int32) (t1 : Int32) (t2 : Int32) (t3 : Int32) (σ : zS) (h : C nL_low [.int t1, .int t0] σ (zPI fun x2 σ1 => vp_in t3 (zN 63) ∧ (C nL_low [.int (v7 >>> ((14 : Int32) &&& 31)), .int 5] (zSI σ1 63 (Int32.toNatClampNeg t3) (t2 + x2)) (zPI fun x4 σ3 => zIf ((x4 : Int32) = 0) (vp_in v6 (zN 63) ∧ (zIf ((2 * (σ3.1 63 (Int32.toNatClampNeg v6)) : Int32) ≤ 4000) (vp_in v6 (zN 63) ∧ (X 221 [some (.ref 0), some (.ref 63), some (.ref 80), some (.int v3), some (.int v4), some (.int v5), some (.int v6), none] [.int (2 * (σ3.1 63 (Int32.toNatClampNeg v6))), .int (18 + v6), .ref 63] σ3)) (X 221 [some (.ref 0), some (.ref 63), some (.ref 80), some (.int v3), some (.int v4), some (.int v5), some (.int v6), none] [.int 4000, .int (18 + v6), .ref 63] σ3))) (vp_in v6 (zN 63) ∧ (¬ (2 : Int32) = 0 ∧ (C nL_low [.int (v7 >>> ((17 : Int32) &&& 31)), .int (((3 * (σ3.1 63 (Int32.toNatClampNeg v6))) / 2) + 1)] σ3 (zPI fun x6 σ5 => X 221 [some (.ref 0), some (.ref 63), some (.ref 80), some (.int v3), some (.int v4), some (.int v5), some (.int v6), none] [.int x6, .int (18 + v6), .ref 63] σ5)))))))) : X 153 [some (.ref 0), some (.ref 63), some (.ref 80), some (.int v3), some (.int v4), some (.int v5), some (.int v6), some (.int v7)] [.int t0, .int t1, .int t2, .int t3, .ref 63] σ := zSeq_ok hX zm_L_grows zo_L_grows_153 153 153 _ _ _ zk_L_grows_153 h
set_option maxRecDepth 100000 in
set_option maxHeartbeats 4000000 in
theorem zr_L_grows_293 {C : zCa} {post : zPo} {X : zX} {L : Nat} {xs : Nat → Int32} (hX : zClosed (some (L, xs)) C post nL_grows X) (v4 : Int32) (v5 : Int32) (σ : zS) (h : C nL_low [.int (v4 >>> ((10 : Int32) &&& 31)), .int 6] σ (zPI fun x2 σ1 => C nL_low [.int (v4 >>> ((13 : Int32) &&& 31)), .int 8] σ1 (zPI fun x4 σ3 => vp_in (40 + x2) (zN 63) ∧ (zIf ((v5 : Int32) = 0) (X 350 [none, none, none, none, none, none, none, none] [] (zSI σ3 63 (Int32.toNatClampNeg (40 + x2)) (1 + x4))) (vp_in (40 + x2) (zN 63) ∧ (C nX11_setWeight [.ref 0, .int x2, .int ((zSI σ3 63 (Int32.toNatClampNeg (40 + x2)) (1 + x4)).1 63 (Int32.toNatClampNeg (40 + x2)))] (zSI σ3 63 (Int32.toNatClampNeg (40 + x2)) (1 + x4)) (zPI fun x6 σ5 => zIf ((x6 : Int32) = 4) (X 351 [none, none, none, none, none, none, none, none] [.int 1] σ5) (X 350 [none, none, none, none, none, none, none, none] [] σ5)))))))) : X 293 [some (.ref 0), some (.ref 63), none, none, some (.int v4), some (.int v5), none, none] [] σ := zSeq_ok hX zm_L_grows zo_L_grows_285 285 293 _ _ _ zk_L_grows_285 h
set_option maxRecDepth 100000 in
set_option maxHeartbeats 4000000 in
theorem zr_L_grows_221 {C : zCa} {post : zPo} {X : zX} {L : Nat} {xs : Nat → Int32} (hX : zClosed (some (L, xs)) C post nL_grows X) (v3 : Int32) (v4 : Int32) (v5 : Int32) (v6 : Int32) (t0 : Int32) (t1 : Int32) (σ : zS) (h : vp_in t1 (zN 63) ∧ (vp_in (18 + v6) (zN 63) ∧ (zIf (((zSI σ 63 (Int32.toNatClampNeg t1) t0).1 63 (Int32.toNatClampNeg (18 + v6)) : Int32) ≤ 4000) (vp_in (18 + v6) (zN 63) ∧ (X 254 [some (.ref 0), some (.ref 63), some (.ref 80), some (.int v3), some (.int v4), some (.int v5), some (.int v6), none] [.int ((zSI σ 63 (Int32.toNatClampNeg t1) t0).1 63 (Int32.toNatClampNeg (18 + v6))), .int (18 + v6), .ref 63] (zSI σ 63 (Int32.toNatClampNeg t1) t0))) (X 254 [some (.ref 0), some (.ref 63), some (.ref 80), some (.int v3), some (.int v4), some (.int v5), some (.int v6), none] [.int 4000, .int (18 + v6), .ref 63] (zSI σ 63 (Int32.toNatClampNeg t1) t0))))) : X 221 [some (.ref 0), some (.ref 63), some (.ref 80), some (.int v3), some (.int v4), some (.int v5), some (.int v6), none] [.int t0, .int t1, .ref 63] σ := zSeq_ok hX zm_L_grows zo_L_grows_221 221 221 _ _ _ zk_L_grows_221 h
set_option maxRecDepth 100000 in
set_option maxHeartbeats 4000000 in
theorem zr_L_grows_350 {C : zCa} {post : zPo} {X : zX} {L : Nat} {xs : Nat → Int32} (hX : zClosed (some (L, xs)) C post nL_grows X) (σ : zS) (h : X 351 [none, none, none, none, none, none, none, none] [.int 0] σ) : X 350 [none, none, none, none, none, none, none, none] [] σ := zSeq_ok hX zm_L_grows zo_L_grows_350 350 350 _ _ _ zk_L_grows_350 h
set_option maxRecDepth 100000 in
set_option maxHeartbeats 4000000 in
theorem zr_L_grows_351 {C : zCa} {post : zPo} {X : zX} {L : Nat} {xs : Nat → Int32} (hX : zClosed (some (L, xs)) C post nL_grows X) (t0 : Int32) (σ : zS) (h : zG ((t0 : Int32) == 0 || (t0 : Int32) == 1) (post (some (.int t0)) σ)) : X 351 [none, none, none, none, none, none, none, none] [.int t0] σ := zSeq_ok hX zm_L_grows zo_L_grows_351 351 351 _ _ _ zk_L_grows_351 h
set_option maxRecDepth 100000 in
set_option maxHeartbeats 4000000 in
theorem zr_L_grows_254 {C : zCa} {post : zPo} {X : zX} {L : Nat} {xs : Nat → Int32} (hX : zClosed (some (L, xs)) C post nL_grows X) (v3 : Int32) (v4 : Int32) (v5 : Int32) (v6 : Int32) (t0 : Int32) (t1 : Int32) (σ : zS) (h : vp_in t1 (zN 63) ∧ (zIf ((v5 : Int32) = 0) (X 284 [some (.ref 0), some (.ref 63), some (.ref 80), some (.int v3), some (.int v4), none, some (.int v6), none] [] (zSI σ 63 (Int32.toNatClampNeg t1) t0)) (vp_in v6 (zN 63) ∧ (vp_in (18 + v6) (zN 63) ∧ (C nX11_append [.ref 0, .int ((zSI σ 63 (Int32.toNatClampNeg t1) t0).1 63 (Int32.toNatClampNeg v6)), .int ((zSI σ 63 (Int32.toNatClampNeg t1) t0).1 63 (Int32.toNatClampNeg (18 + v6)))] (zSI σ 63 (Int32.toNatClampNeg t1) t0) (zPI fun x2 σ1 => zIf ((x2 : Int32) = v6) (X 285 [some (.ref 0), some (.ref 63), some (.ref 80), some (.int v3), some (.int v4), none, some (.int v6), none] [.int 1] σ1) (X 284 [some (.ref 0), some (.ref 63), some (.ref 80), some (.int v3), some (.int v4), none, some (.int v6), none] [] σ1))))))) : X 254 [some (.ref 0), some (.ref 63), some (.ref 80), some (.int v3), some (.int v4), some (.int v5), some (.int v6), none] [.int t0, .int t1, .ref 63] σ := zSeq_ok hX zm_L_grows zo_L_grows_254 254 254 _ _ _ zk_L_grows_254 h
set_option maxRecDepth 100000 in
set_option maxHeartbeats 4000000 in
theorem zr_L_grows_284 {C : zCa} {post : zPo} {X : zX} {L : Nat} {xs : Nat → Int32} (hX : zClosed (some (L, xs)) C post nL_grows X) (v3 : Int32) (v4 : Int32) (v6 : Int32) (σ : zS) (h : X 285 [some (.ref 0), some (.ref 63), some (.ref 80), some (.int v3), some (.int v4), none, some (.int v6), none] [.int 0] σ) : X 284 [some (.ref 0), some (.ref 63), some (.ref 80), some (.int v3), some (.int v4), none, some (.int v6), none] [] σ := zSeq_ok hX zm_L_grows zo_L_grows_284 284 284 _ _ _ zk_L_grows_284 h
set_option maxRecDepth 100000 in
set_option maxHeartbeats 4000000 in
theorem zr_L_grows_285 {C : zCa} {post : zPo} {X : zX} {L : Nat} {xs : Nat → Int32} (hX : zClosed (some (L, xs)) C post nL_grows X) (v3 : Int32) (v4 : Int32) (v6 : Int32) (t0 : Int32) (σ : zS) (h : X 105 [some (.ref 0), some (.ref 63), some (.ref 80), some (.int v3), some (.int v4), some (.int t0), some (.int (v6 + 1)), none] [] σ) : X 285 [some (.ref 0), some (.ref 63), some (.ref 80), some (.int v3), some (.int v4), none, some (.int v6), none] [.int t0] σ := zSeq_ok hX zm_L_grows zo_L_grows_285 285 285 _ _ _ zk_L_grows_285 h
theorem ze_L_grows {d : Nat} {post : zPo} {L : Nat} {xs : Nat → Int32} (p3 : Int32) (σ : zS) (h : ∀ X : zX, zClosed (some (L, xs)) (zCallS (some (L, xs)) d) post nL_grows X → X 0 [some (.ref 0), some (.ref 63), some (.ref 80), some (.int p3), none, none, none, none] [] σ) : zCallS (some (L, xs)) (d + 1) nL_grows [.ref 0, .ref 63, .ref 80, .int p3] σ post := h
-- L_loss(63,) depth 4
def zo_L_loss_0 : List zOp := [(.aload_n 0, 1, 0, 0, 0, 0, 0, 0, 0, []), (.bipush 40, 3, 0, 0, 0, 0, 0, 40, 0, []), (.aload_n 0, 4, 0, 0, 0, 0, 0, 0, 0, []), (.iload_n 1, 5, 1, 0, 0, 0, 0, 0, 0, []), (.invokestatic 32, 8, 74, 2, 1, 0, 675, 0, 0, []), (.iadd, 9, 0, 0, 0, 0, 0, 0, 0, []), (.iaload, 10, 0, 0, 0, 0, 0, 0, 0, []), (.istore_n 3, 11, 3, 0, 0, 0, 0, 0, 0, []), (.iload_n 3, 12, 3, 0, 0, 0, 0, 0, 0, []), (.i2l, 13, 0, 0, 0, 0, 0, 0, 0, []), (.iconst 3, 14, 0, 0, 0, 0, 0, 3, 0, []), (.aload_n 0, 15, 0, 0, 0, 0, 0, 0, 0, []), (.iload_n 1, 16, 1, 0, 0, 0, 0, 0, 0, []), (.invokestatic 19, 19, 73, 2, 1, 0, 672, 0, 0, []), (.isub, 20, 0, 0, 0, 0, 0, 0, 0, []), (.i2l, 21, 0, 0, 0, 0, 0, 0, 0, []), (.lmul, 22, 0, 0, 0, 0, 0, 0, 0, []), (.iload_n 2, 23, 2, 0, 0, 0, 0, 0, 0, []), (.invokestatic 28, 26, 77, 1, 1, 0, 694, 0, 0, []), (.i2l, 27, 0, 0, 0, 0, 0, 0, 0, []), (.lmul, 28, 0, 0, 0, 0, 0, 0, 0, []), (.iload_n 2, 29, 2, 0, 0, 0, 0, 0, 0, []), (.invokestatic 28, 32, 77, 1, 1, 0, 694, 0, 0, []), (.i2l, 33, 0, 0, 0, 0, 0, 0, 0, []), (.lmul, 34, 0, 0, 0, 0, 0, 0, 0, []), (.ldc2_w 35, 37, 0, 0, 0, 0, 704, 0, 16, []), (.ldiv, 38, 0, 0, 0, 0, 0, 0, 0, []), (.l2i, 39, 0, 0, 0, 0, 0, 0, 0, []), (.ireturn, 40, 0, 0, 0, 0, 0, 0, 0, [])]
set_option maxRecDepth 100000 in
theorem zk_L_loss_0 : zOks nL_loss zo_L_loss_0 0 = true := by decide +kernel
def zm_L_loss : List (Nat × List Bool) := [(0, [true, true, true, false])]
set_option maxRecDepth 100000 in
set_option maxHeartbeats 4000000 in
theorem zr_L_loss_0 {C : zCa} {post : zPo} {X : zX} (hX : zClosed none C post nL_loss X) (p1 : Int32) (p2 : Int32) (σ : zS) (h : C nL_sceneOf [.ref 63, .int p1] σ (zPI fun x2 σ1 => vp_in (40 + x2) (zN 63) ∧ (C nL_type [.ref 63, .int p1] σ1 (zPI fun x4 σ3 => C nL_step [.int p2] σ3 (zPI fun x6 σ5 => C nL_step [.int p2] σ5 (zPI fun x8 σ7 => ¬ (16 : Int64) = 0 ∧ (post (some (.int (Int64.toInt32 (((((Int32.toInt64 (σ1.1 63 (Int32.toNatClampNeg (40 + x2)))) * (Int32.toInt64 (3 - x4))) * (Int32.toInt64 x6)) * (Int32.toInt64 x8)) / 16)))) σ7))))))) : X 0 [some (.ref 63), some (.int p1), some (.int p2), none] [] σ := zSeq_ok hX zm_L_loss zo_L_loss_0 0 0 _ _ _ zk_L_loss_0 h
theorem ze_L_loss {d : Nat} {post : zPo} (p1 : Int32) (p2 : Int32) (σ : zS) (h : ∀ X : zX, zClosed none (zCall d) post nL_loss X → X 0 [some (.ref 63), some (.int p1), some (.int p2), none] [] σ) : zCall (d + 1) nL_loss [.ref 63, .int p1, .int p2] σ post := h
-- L_place(63,) depth 5
def zo_L_place_0 : List zOp := [(.aload_n 0, 1, 0, 0, 0, 0, 0, 0, 0, []), (.iload_n 1, 2, 1, 0, 0, 0, 0, 0, 0, []), (.invokestatic 19, 5, 73, 2, 1, 0, 672, 0, 0, []), (.iconst 2, 6, 0, 0, 0, 0, 0, 2, 0, []), (.if_icmp .ge 11, 9, 17, 0, 0, 0, 0, 0, 0, []), (.iload_n 1, 10, 1, 0, 0, 0, 0, 0, 0, []), (.aload_n 0, 11, 0, 0, 0, 0, 0, 0, 0, []), (.iload_n 1, 12, 1, 0, 0, 0, 0, 0, 0, []), (.invokestatic 22, 15, 75, 2, 1, 0, 681, 0, 0, []), (.isub, 16, 0, 0, 0, 0, 0, 0, 0, []), (.ireturn, 17, 0, 0, 0, 0, 0, 0, 0, []), (.iload_n 1, 18, 1, 0, 0, 0, 0, 0, 0, []), (.istore_n 2, 19, 2, 0, 0, 0, 0, 0, 0, [])]
set_option maxRecDepth 100000 in
theorem zk_L_place_0 : zOks nL_place zo_L_place_0 0 = true := by decide +kernel
def zo_L_place_19 : List zOp := [(.aload_n 0, 20, 0, 0, 0, 0, 0, 0, 0, []), (.iload_n 2, 21, 2, 0, 0, 0, 0, 0, 0, []), (.invokestatic 19, 24, 73, 2, 1, 0, 672, 0, 0, []), (.iconst 2, 25, 0, 0, 0, 0, 0, 2, 0, []), (.if_icmp .ne 9, 28, 34, 0, 0, 0, 0, 0, 0, []), (.iinc 2 1, 31, 2, 0, 0, 0, 0, 1, 0, []), (.goto (-12), 34, 19, 0, 0, 0, 0, 0, 0, []), (.iload_n 2, 35, 2, 0, 0, 0, 0, 0, 0, []), (.aload_n 0, 36, 0, 0, 0, 0, 0, 0, 0, []), (.iload_n 2, 37, 2, 0, 0, 0, 0, 0, 0, []), (.invokestatic 22, 40, 75, 2, 1, 0, 681, 0, 0, []), (.isub, 41, 0, 0, 0, 0, 0, 0, 0, []), (.iconst 1, 42, 0, 0, 0, 0, 0, 1, 0, []), (.iadd, 43, 0, 0, 0, 0, 0, 0, 0, []), (.aload_n 0, 44, 0, 0, 0, 0, 0, 0, 0, []), (.iload_n 1, 45, 1, 0, 0, 0, 0, 0, 0, []), (.invokestatic 22, 48, 75, 2, 1, 0, 681, 0, 0, []), (.iadd, 49, 0, 0, 0, 0, 0, 0, 0, []), (.ireturn, 50, 0, 0, 0, 0, 0, 0, 0, [])]
set_option maxRecDepth 100000 in
theorem zk_L_place_19 : zOks nL_place zo_L_place_19 19 = true := by decide +kernel
def zm_L_place : List (Nat × List Bool) := [(0, [true, true, false]), (19, [true, true, true])]
set_option maxRecDepth 100000 in
set_option maxHeartbeats 4000000 in
theorem zr_L_place_0 {C : zCa} {post : zPo} {X : zX} (hX : zClosed none C post nL_place X) (p1 : Int32) (σ : zS) (h : C nL_type [.ref 63, .int p1] σ (zPI fun x2 σ1 => zIf ((x2 : Int32) < 2) (C nL_bridgesBefore [.ref 63, .int p1] σ1 (zPI fun x4 σ3 => post (some (.int (p1 - x4))) σ3)) (X 19 [some (.ref 63), some (.int p1), some (.int p1)] [] σ1))) : X 0 [some (.ref 63), some (.int p1), none] [] σ := zSeq_ok hX zm_L_place zo_L_place_0 0 0 _ _ _ zk_L_place_0 h
set_option maxRecDepth 100000 in
set_option maxHeartbeats 4000000 in
theorem zr_L_place_19 {C : zCa} {post : zPo} {X : zX} (hX : zClosed none C post nL_place X) (v1 : Int32) (v2 : Int32) (σ : zS) (h : C nL_type [.ref 63, .int v2] σ (zPI fun x2 σ1 => zIf ((x2 : Int32) = 2) (X 19 [some (.ref 63), some (.int v1), some (.int (v2 + 1))] [] σ1) (C nL_bridgesBefore [.ref 63, .int v2] σ1 (zPI fun x4 σ3 => C nL_bridgesBefore [.ref 63, .int v1] σ3 (zPI fun x6 σ5 => post (some (.int (((v2 - x4) + 1) + x6))) σ5))))) : X 19 [some (.ref 63), some (.int v1), some (.int v2)] [] σ := zSeq_ok hX zm_L_place zo_L_place_19 19 19 _ _ _ zk_L_place_19 h
theorem ze_L_place {d : Nat} {post : zPo} (p1 : Int32) (σ : zS) (h : ∀ X : zX, zClosed none (zCall d) post nL_place X → X 0 [some (.ref 63), some (.int p1), none] [] σ) : zCall (d + 1) nL_place [.ref 63, .int p1] σ post := h
-- L_isTold(0, 63) depth 6
def zo_L_isTold_0 : List zOp := [(.aload_n 1, 1, 1, 0, 0, 0, 0, 0, 0, []), (.iload_n 2, 2, 2, 0, 0, 0, 0, 0, 0, []), (.invokestatic 15, 5, 72, 2, 1, 0, 669, 0, 0, []), (.istore 4, 7, 4, 0, 0, 0, 0, 0, 0, []), (.iconst 0, 8, 0, 0, 0, 0, 0, 0, 0, []), (.istore 5, 10, 5, 0, 0, 0, 0, 0, 0, []), (.iconst 0, 11, 0, 0, 0, 0, 0, 0, 0, []), (.istore 6, 13, 6, 0, 0, 0, 0, 0, 0, [])]
set_option maxRecDepth 100000 in
theorem zk_L_isTold_0 : zOks nL_isTold zo_L_isTold_0 0 = true := by decide +kernel
def zo_L_isTold_13 : List zOp := [(.iload 6, 15, 6, 0, 0, 0, 0, 0, 0, []), (.aload_n 1, 16, 1, 0, 0, 0, 0, 0, 0, []), (.bipush 36, 18, 0, 0, 0, 0, 0, 36, 0, []), (.iaload, 19, 0, 0, 0, 0, 0, 0, 0, []), (.if_icmp .ge 30, 22, 49, 0, 0, 0, 0, 0, 0, []), (.iload 5, 24, 5, 0, 0, 0, 0, 0, 0, []), (.aload_n 1, 25, 1, 0, 0, 0, 0, 0, 0, []), (.iload 6, 27, 6, 0, 0, 0, 0, 0, 0, []), (.invokestatic 15, 30, 72, 2, 1, 0, 669, 0, 0, []), (.iload 4, 32, 4, 0, 0, 0, 0, 0, 0, []), (.if_icmp .ne 7, 35, 39, 0, 0, 0, 0, 0, 0, []), (.iconst 1, 36, 0, 0, 0, 0, 0, 1, 0, []), (.goto 4, 39, 40, 0, 0, 0, 0, 0, 0, []), (.iconst 0, 40, 0, 0, 0, 0, 0, 0, 0, [])]
set_option maxRecDepth 100000 in
theorem zk_L_isTold_13 : zOks nL_isTold zo_L_isTold_13 13 = true := by decide +kernel
def zo_L_isTold_40 : List zOp := [(.iadd, 41, 0, 0, 0, 0, 0, 0, 0, []), (.istore 5, 43, 5, 0, 0, 0, 0, 0, 0, []), (.iinc 6 1, 46, 6, 0, 0, 0, 0, 1, 0, []), (.goto (-33), 49, 13, 0, 0, 0, 0, 0, 0, []), (.aload_n 0, 50, 0, 0, 0, 0, 0, 0, 0, []), (.iload_n 2, 51, 2, 0, 0, 0, 0, 0, 0, []), (.iconst 0, 52, 0, 0, 0, 0, 0, 0, 0, []), (.invokevirtual 58, 55, 42, 3, 1, 11, 493, 0, 0, []), (.aload_n 1, 56, 1, 0, 0, 0, 0, 0, 0, []), (.iload_n 2, 57, 2, 0, 0, 0, 0, 0, 0, []), (.iaload, 58, 0, 0, 0, 0, 0, 0, 0, []), (.if_icmp .ne 102, 61, 160, 0, 0, 0, 0, 0, 0, []), (.aload_n 0, 62, 0, 0, 0, 0, 0, 0, 0, []), (.iload_n 2, 63, 2, 0, 0, 0, 0, 0, 0, []), (.iconst 1, 64, 0, 0, 0, 0, 0, 1, 0, []), (.invokevirtual 58, 67, 42, 3, 1, 11, 493, 0, 0, []), (.aload_n 1, 68, 1, 0, 0, 0, 0, 0, 0, []), (.bipush 18, 70, 0, 0, 0, 0, 0, 18, 0, []), (.iload_n 2, 71, 2, 0, 0, 0, 0, 0, 0, []), (.iadd, 72, 0, 0, 0, 0, 0, 0, 0, []), (.iaload, 73, 0, 0, 0, 0, 0, 0, 0, []), (.if_icmp .ne 87, 76, 160, 0, 0, 0, 0, 0, 0, []), (.aload_n 0, 77, 0, 0, 0, 0, 0, 0, 0, []), (.iload_n 2, 78, 2, 0, 0, 0, 0, 0, 0, []), (.iconst 2, 79, 0, 0, 0, 0, 0, 2, 0, []), (.invokevirtual 58, 82, 42, 3, 1, 11, 493, 0, 0, []), (.aload_n 1, 83, 1, 0, 0, 0, 0, 0, 0, []), (.iload_n 2, 84, 2, 0, 0, 0, 0, 0, 0, []), (.invokestatic 19, 87, 73, 2, 1, 0, 672, 0, 0, []), (.if_icmp .ne 73, 90, 160, 0, 0, 0, 0, 0, 0, []), (.aload_n 0, 91, 0, 0, 0, 0, 0, 0, 0, []), (.iload_n 2, 92, 2, 0, 0, 0, 0, 0, 0, []), (.iconst 3, 93, 0, 0, 0, 0, 0, 3, 0, []), (.invokevirtual 58, 96, 42, 3, 1, 11, 493, 0, 0, []), (.aload_n 1, 97, 1, 0, 0, 0, 0, 0, 0, []), (.iload_n 2, 98, 2, 0, 0, 0, 0, 0, 0, []), (.invokestatic 32, 101, 74, 2, 1, 0, 675, 0, 0, []), (.if_icmp .ne 59, 104, 160, 0, 0, 0, 0, 0, 0, []), (.aload_n 0, 105, 0, 0, 0, 0, 0, 0, 0, []), (.iload_n 2, 106, 2, 0, 0, 0, 0, 0, 0, []), (.iconst 4, 107, 0, 0, 0, 0, 0, 4, 0, []), (.invokevirtual 58, 110, 42, 3, 1, 11, 493, 0, 0, []), (.aload_n 1, 111, 1, 0, 0, 0, 0, 0, 0, []), (.iload_n 2, 112, 2, 0, 0, 0, 0, 0, 0, []), (.invokestatic 61, 115, 76, 2, 1, 0, 678, 0, 0, []), (.if_icmp .ne 45, 118, 160, 0, 0, 0, 0, 0, 0, []), (.aload_n 0, 119, 0, 0, 0, 0, 0, 0, 0, []), (.iload_n 2, 120, 2, 0, 0, 0, 0, 0, 0, []), (.iconst 5, 121, 0, 0, 0, 0, 0, 5, 0, []), (.invokevirtual 58, 124, 42, 3, 1, 11, 493, 0, 0, []), (.aload_n 1, 125, 1, 0, 0, 0, 0, 0, 0, []), (.iload_n 2, 126, 2, 0, 0, 0, 0, 0, 0, []), (.invokestatic 25, 129, 78, 2, 1, 0, 684, 0, 0, []), (.if_icmp .ne 31, 132, 160, 0, 0, 0, 0, 0, 0, []), (.aload_n 0, 133, 0, 0, 0, 0, 0, 0, 0, []), (.iload_n 2, 134, 2, 0, 0, 0, 0, 0, 0, []), (.bipush 6, 136, 0, 0, 0, 0, 0, 6, 0, []), (.invokevirtual 58, 139, 42, 3, 1, 11, 493, 0, 0, []), (.iload 4, 141, 4, 0, 0, 0, 0, 0, 0, []), (.if_icmp .ne 19, 144, 160, 0, 0, 0, 0, 0, 0, []), (.aload_n 0, 145, 0, 0, 0, 0, 0, 0, 0, []), (.iload_n 2, 146, 2, 0, 0, 0, 0, 0, 0, []), (.bipush 7, 148, 0, 0, 0, 0, 0, 7, 0, []), (.invokevirtual 58, 151, 42, 3, 1, 11, 493, 0, 0, []), (.iload 5, 153, 5, 0, 0, 0, 0, 0, 0, []), (.if_icmp .ne 7, 156, 160, 0, 0, 0, 0, 0, 0, []), (.iconst 1, 157, 0, 0, 0, 0, 0, 1, 0, []), (.goto 4, 160, 161, 0, 0, 0, 0, 0, 0, [])]
set_option maxRecDepth 100000 in
theorem zk_L_isTold_40 : zOks nL_isTold zo_L_isTold_40 40 = true := by decide +kernel
def zo_L_isTold_160 : List zOp := [(.iconst 0, 161, 0, 0, 0, 0, 0, 0, 0, [])]
set_option maxRecDepth 100000 in
theorem zk_L_isTold_160 : zOks nL_isTold zo_L_isTold_160 160 = true := by decide +kernel
def zo_L_isTold_161 : List zOp := [(.istore 6, 163, 6, 0, 0, 0, 0, 0, 0, []), (.iload 6, 165, 6, 0, 0, 0, 0, 0, 0, []), (.ifCond .eq 74, 168, 239, 0, 0, 0, 0, 0, 0, []), (.aload_n 0, 169, 0, 0, 0, 0, 0, 0, 0, []), (.aload_n 1, 170, 1, 0, 0, 0, 0, 0, 0, []), (.iload_n 2, 171, 2, 0, 0, 0, 0, 0, 0, []), (.invokestatic 61, 174, 76, 2, 1, 0, 678, 0, 0, []), (.invokevirtual 64, 177, 43, 2, 1, 11, 498, 0, 0, []), (.iload_n 2, 178, 2, 0, 0, 0, 0, 0, 0, []), (.if_icmp .ne 61, 181, 239, 0, 0, 0, 0, 0, 0, []), (.aload_n 0, 182, 0, 0, 0, 0, 0, 0, 0, []), (.iload_n 2, 183, 2, 0, 0, 0, 0, 0, 0, []), (.iload_n 3, 184, 3, 0, 0, 0, 0, 0, 0, []), (.invokevirtual 67, 187, 47, 3, 1, 11, 687, 0, 0, []), (.aload_n 1, 188, 1, 0, 0, 0, 0, 0, 0, []), (.iload_n 2, 189, 2, 0, 0, 0, 0, 0, 0, []), (.iload_n 3, 190, 3, 0, 0, 0, 0, 0, 0, []), (.invokestatic 70, 193, 79, 3, 1, 0, 691, 0, 0, []), (.if_icmp .ne 46, 196, 239, 0, 0, 0, 0, 0, 0, []), (.aload_n 0, 197, 0, 0, 0, 0, 0, 0, 0, []), (.iload_n 2, 198, 2, 0, 0, 0, 0, 0, 0, []), (.iload_n 3, 199, 3, 0, 0, 0, 0, 0, 0, []), (.invokevirtual 74, 202, 48, 3, 1, 11, 697, 0, 0, []), (.aload_n 1, 203, 1, 0, 0, 0, 0, 0, 0, []), (.iload_n 2, 204, 2, 0, 0, 0, 0, 0, 0, []), (.iload_n 3, 205, 3, 0, 0, 0, 0, 0, 0, []), (.invokestatic 77, 208, 80, 3, 1, 0, 701, 0, 0, []), (.if_icmp .ne 31, 211, 239, 0, 0, 0, 0, 0, 0, []), (.aload_n 0, 212, 0, 0, 0, 0, 0, 0, 0, []), (.iload_n 2, 213, 2, 0, 0, 0, 0, 0, 0, []), (.bipush 8, 215, 0, 0, 0, 0, 0, 8, 0, []), (.invokevirtual 58, 218, 42, 3, 1, 11, 493, 0, 0, []), (.bipush (-2), 220, 0, 0, 0, 0, 0, (-2), 0, []), (.if_icmp .ne 19, 223, 239, 0, 0, 0, 0, 0, 0, []), (.aload_n 0, 224, 0, 0, 0, 0, 0, 0, 0, []), (.iload_n 2, 225, 2, 0, 0, 0, 0, 0, 0, []), (.bipush 52, 227, 0, 0, 0, 0, 0, 52, 0, []), (.invokevirtual 67, 230, 47, 3, 1, 11, 687, 0, 0, []), (.bipush (-2), 232, 0, 0, 0, 0, 0, (-2), 0, []), (.if_icmp .ne 7, 235, 239, 0, 0, 0, 0, 0, 0, []), (.iconst 1, 236, 0, 0, 0, 0, 0, 1, 0, []), (.goto 4, 239, 240, 0, 0, 0, 0, 0, 0, [])]
set_option maxRecDepth 100000 in
theorem zk_L_isTold_161 : zOks nL_isTold zo_L_isTold_161 161 = true := by decide +kernel
def zo_L_isTold_239 : List zOp := [(.iconst 0, 240, 0, 0, 0, 0, 0, 0, 0, [])]
set_option maxRecDepth 100000 in
theorem zk_L_isTold_239 : zOks nL_isTold zo_L_isTold_239 239 = true := by decide +kernel
def zo_L_isTold_240 : List zOp := [(.ireturn, 241, 0, 0, 1, 0, 0, 0, 0, [])]
set_option maxRecDepth 100000 in
theorem zk_L_isTold_240 : zOks nL_isTold zo_L_isTold_240 240 = true := by decide +kernel
def zm_L_isTold : List (Nat × List Bool) := [(0, [true, true, true, true, false, false, false]), (13, [true, true, true, true, true, true, true]), (40, [true, true, true, true, true, false, true]), (49, [true, true, true, true, true, true, false]), (160, [true, true, true, true, false, false, false]), (161, [true, true, true, true, false, false, false]), (239, [false, false, false, false, false, false, false]), (240, [false, false, false, false, false, false, false])]
set_option maxRecDepth 100000 in
set_option maxHeartbeats 4000000 in
theorem zr_L_isTold_0 {C : zCa} {post : zPo} {X : zX} (hX : zClosed none C post nL_isTold X) (p2 : Int32) (p3 : Int32) (σ : zS) (h : C nL_groupOf [.ref 63, .int p2] σ (zPI fun x2 σ1 => X 13 [some (.ref 0), some (.ref 63), some (.int p2), some (.int p3), some (.int x2), some (.int 0), some (.int 0)] [] σ1)) : X 0 [some (.ref 0), some (.ref 63), some (.int p2), some (.int p3), none, none, none] [] σ := zSeq_ok hX zm_L_isTold zo_L_isTold_0 0 0 _ _ _ zk_L_isTold_0 h
set_option maxRecDepth 100000 in
set_option maxHeartbeats 4000000 in
theorem zr_L_isTold_13 {C : zCa} {post : zPo} {X : zX} (hX : zClosed none C post nL_isTold X) (v2 : Int32) (v3 : Int32) (v4 : Int32) (v5 : Int32) (v6 : Int32) (σ : zS) (h : vp_in 36 (zN 63) ∧ (zIf ((v6 : Int32) < (σ.1 63 (Int32.toNatClampNeg 36))) (C nL_groupOf [.ref 63, .int v6] σ (zPI fun x2 σ1 => zIf ((x2 : Int32) = v4) (X 40 [some (.ref 0), some (.ref 63), some (.int v2), some (.int v3), some (.int v4), none, some (.int v6)] [.int 1, .int v5] σ1) (X 40 [some (.ref 0), some (.ref 63), some (.int v2), some (.int v3), some (.int v4), none, some (.int v6)] [.int 0, .int v5] σ1))) (X 49 [some (.ref 0), some (.ref 63), some (.int v2), some (.int v3), some (.int v4), some (.int v5), none] [] σ))) : X 13 [some (.ref 0), some (.ref 63), some (.int v2), some (.int v3), some (.int v4), some (.int v5), some (.int v6)] [] σ := zSeq_ok hX zm_L_isTold zo_L_isTold_13 13 13 _ _ _ zk_L_isTold_13 h
set_option maxRecDepth 100000 in
set_option maxHeartbeats 4000000 in
theorem zr_L_isTold_40 {C : zCa} {post : zPo} {X : zX} (hX : zClosed none C post nL_isTold X) (v2 : Int32) (v3 : Int32) (v4 : Int32) (v6 : Int32) (t0 : Int32) (t1 : Int32) (σ : zS) (h : X 13 [some (.ref 0), some (.ref 63), some (.int v2), some (.int v3), some (.int v4), some (.int (t1 + t0)), some (.int (v6 + 1))] [] σ) : X 40 [some (.ref 0), some (.ref 63), some (.int v2), some (.int v3), some (.int v4), none, some (.int v6)] [.int t0, .int t1] σ := zSeq_ok hX zm_L_isTold zo_L_isTold_40 40 40 _ _ _ zk_L_isTold_40 h
set_option maxRecDepth 100000 in
set_option maxHeartbeats 4000000 in
theorem zr_L_isTold_49 {C : zCa} {post : zPo} {X : zX} (hX : zClosed none C post nL_isTold X) (v2 : Int32) (v3 : Int32) (v4 : Int32) (v5 : Int32) (σ : zS) (h : C nX11_frame [.ref 0, .int v2, .int 0] σ (zPI fun x2 σ1 => vp_in v2 (zN 63) ∧ (zIf ((x2 : Int32) = (σ1.1 63 (Int32.toNatClampNeg v2))) (C nX11_frame [.ref 0, .int v2, .int 1] σ1 (zPI fun x4 σ3 => vp_in (18 + v2) (zN 63) ∧ (zIf ((x4 : Int32) = (σ3.1 63 (Int32.toNatClampNeg (18 + v2)))) (C nX11_frame [.ref 0, .int v2, .int 2] σ3 (zPI fun x6 σ5 => C nL_type [.ref 63, .int v2] σ5 (zPI fun x8 σ7 => zIf ((x6 : Int32) = x8) (C nX11_frame [.ref 0, .int v2, .int 3] σ7 (zPI fun x10 σ9 => C nL_sceneOf [.ref 63, .int v2] σ9 (zPI fun x12 σ11 => zIf ((x10 : Int32) = x12) (C nX11_frame [.ref 0, .int v2, .int 4] σ11 (zPI fun x14 σ13 => C nL_place [.ref 63, .int v2] σ13 (zPI fun x16 σ15 => zIf ((x14 : Int32) = x16) (C nX11_frame [.ref 0, .int v2, .int 5] σ15 (zPI fun x18 σ17 => C nL_work [.ref 63, .int v2] σ17 (zPI fun x20 σ19 => zIf ((x18 : Int32) = x20) (C nX11_frame [.ref 0, .int v2, .int 6] σ19 (zPI fun x22 σ21 => zIf ((x22 : Int32) = v4) (C nX11_frame [.ref 0, .int v2, .int 7] σ21 (zPI fun x24 σ23 => zIf ((x24 : Int32) = v5) (X 161 [some (.ref 0), some (.ref 63), some (.int v2), some (.int v3), none, none, none] [.int 1] σ23) (X 160 [some (.ref 0), some (.ref 63), some (.int v2), some (.int v3), none, none, none] [] σ23))) (X 160 [some (.ref 0), some (.ref 63), some (.int v2), some (.int v3), none, none, none] [] σ21))) (X 160 [some (.ref 0), some (.ref 63), some (.int v2), some (.int v3), none, none, none] [] σ19)))) (X 160 [some (.ref 0), some (.ref 63), some (.int v2), some (.int v3), none, none, none] [] σ15)))) (X 160 [some (.ref 0), some (.ref 63), some (.int v2), some (.int v3), none, none, none] [] σ11)))) (X 160 [some (.ref 0), some (.ref 63), some (.int v2), some (.int v3), none, none, none] [] σ7)))) (X 160 [some (.ref 0), some (.ref 63), some (.int v2), some (.int v3), none, none, none] [] σ3)))) (X 160 [some (.ref 0), some (.ref 63), some (.int v2), some (.int v3), none, none, none] [] σ1)))) : X 49 [some (.ref 0), some (.ref 63), some (.int v2), some (.int v3), some (.int v4), some (.int v5), none] [] σ := zSeq_ok hX zm_L_isTold zo_L_isTold_40 40 49 _ _ _ zk_L_isTold_40 h
set_option maxRecDepth 100000 in
set_option maxHeartbeats 4000000 in
theorem zr_L_isTold_161 {C : zCa} {post : zPo} {X : zX} (hX : zClosed none C post nL_isTold X) (v2 : Int32) (v3 : Int32) (t0 : Int32) (σ : zS) (h : zIf ((t0 : Int32) = 0) (X 239 [none, none, none, none, none, none, none] [] σ) (C nL_place [.ref 63, .int v2] σ (zPI fun x2 σ1 => C nX11_coded [.ref 0, .int x2] σ1 (zPI fun x4 σ3 => zIf ((x4 : Int32) = v2) (C nX11_bitsAt [.ref 0, .int v2, .int v3] σ3 (zPI fun x6 σ5 => C nL_bits [.ref 63, .int v2, .int v3] σ5 (zPI fun x8 σ7 => zIf ((x6 : Int32) = x8) (C nX11_lossAt [.ref 0, .int v2, .int v3] σ7 (zPI fun x10 σ9 => C nL_loss [.ref 63, .int v2, .int v3] σ9 (zPI fun x12 σ11 => zIf ((x10 : Int32) = x12) (C nX11_frame [.ref 0, .int v2, .int 8] σ11 (zPI fun x14 σ13 => zIf ((x14 : Int32) = (-2)) (C nX11_bitsAt [.ref 0, .int v2, .int 52] σ13 (zPI fun x16 σ15 => zIf ((x16 : Int32) = (-2)) (X 240 [none, none, none, none, none, none, none] [.int 1] σ15) (X 239 [none, none, none, none, none, none, none] [] σ15))) (X 239 [none, none, none, none, none, none, none] [] σ13))) (X 239 [none, none, none, none, none, none, none] [] σ11)))) (X 239 [none, none, none, none, none, none, none] [] σ7)))) (X 239 [none, none, none, none, none, none, none] [] σ3))))) : X 161 [some (.ref 0), some (.ref 63), some (.int v2), some (.int v3), none, none, none] [.int t0] σ := zSeq_ok hX zm_L_isTold zo_L_isTold_161 161 161 _ _ _ zk_L_isTold_161 h
set_option maxRecDepth 100000 in
set_option maxHeartbeats 4000000 in
theorem zr_L_isTold_160 {C : zCa} {post : zPo} {X : zX} (hX : zClosed none C post nL_isTold X) (v2 : Int32) (v3 : Int32) (σ : zS) (h : X 161 [some (.ref 0), some (.ref 63), some (.int v2), some (.int v3), none, none, none] [.int 0] σ) : X 160 [some (.ref 0), some (.ref 63), some (.int v2), some (.int v3), none, none, none] [] σ := zSeq_ok hX zm_L_isTold zo_L_isTold_160 160 160 _ _ _ zk_L_isTold_160 h
set_option maxRecDepth 100000 in
set_option maxHeartbeats 4000000 in
theorem zr_L_isTold_239 {C : zCa} {post : zPo} {X : zX} (hX : zClosed none C post nL_isTold X) (σ : zS) (h : X 240 [none, none, none, none, none, none, none] [.int 0] σ) : X 239 [none, none, none, none, none, none, none] [] σ := zSeq_ok hX zm_L_isTold zo_L_isTold_239 239 239 _ _ _ zk_L_isTold_239 h
set_option maxRecDepth 100000 in
set_option maxHeartbeats 4000000 in
theorem zr_L_isTold_240 {C : zCa} {post : zPo} {X : zX} (hX : zClosed none C post nL_isTold X) (t0 : Int32) (σ : zS) (h : zG ((t0 : Int32) == 0 || (t0 : Int32) == 1) (post (some (.int t0)) σ)) : X 240 [none, none, none, none, none, none, none] [.int t0] σ := zSeq_ok hX zm_L_isTold zo_L_isTold_240 240 240 _ _ _ zk_L_isTold_240 h
theorem ze_L_isTold {d : Nat} {post : zPo} (p2 : Int32) (p3 : Int32) (σ : zS) (h : ∀ X : zX, zClosed none (zCall d) post nL_isTold X → X 0 [some (.ref 0), some (.ref 63), some (.int p2), some (.int p3), none, none, none] [] σ) : zCall (d + 1) nL_isTold [.ref 0, .ref 63, .int p2, .int p3] σ post := h
end
section
/-! the leaves: rows read and written with a look at the index, division with a look at the divisor, ranges -/
theorem zEx_post {sc : Option (Nat × (Nat → Int32))} {C : zCa} {po po' : zPo} {Z : zX} {o : zOp} {ls : zLo} {st : List Value} {σ : zS} (hp : ∀ r σ, po r σ → po' r σ) (h : zEx sc C po Z o ls st σ) : zEx sc C po' Z o ls st σ := by
  obtain ⟨i, n, a, b, k1, e1, g, v, w, tb⟩ := o
  cases i with
  | ireturn =>
    simp only [zEx] at h ⊢
    obtain ⟨x, rfl, h⟩ := zRI_inv h
    match k1, h with
    | 0, h => exact hp _ _ h
    | 1, h => 
      obtain ⟨h1, h2⟩ := zG_inv h
      show zG (x == 0 || x == 1) _
      rw [h1]
      exact hp _ _ h2
    | k + 2, h => exact hp _ _ h
  | ifCond cd off => cases cd <;> exact h
  | if_icmp cd off => cases cd <;> exact h
  | lreturn =>
    simp only [zEx] at h ⊢
    obtain ⟨x, rfl, h⟩ := zRJ_inv h
    exact hp _ _ h
  | return_ =>
    simp only [zEx] at h ⊢
    obtain ⟨rfl, h⟩ := zRV_inv h
    exact hp _ _ h
  | _ => exact h
theorem zCall_mono {d mi : Nat} {av : List Value} {σ : zS} {po po' : zPo} (hp : ∀ r σ, po r σ → po' r σ) (h : zCall d mi av σ po) : zCall d mi av σ po' := by
  cases d with
  | zero => exact False.elim h
  | succ d =>
    obtain ⟨h1, h2⟩ := zG_inv h
    show zG (Nat.ble (zAr av).length (zMl mi)) _
    rw [h1]
    intro X hX
    exact h2 X ⟨fun Z pc o ls st σ hZ hk he => hX.1 Z pc o ls st σ hZ hk (zEx_post hp he), hX.2⟩
theorem zc_I {d mi : Nat} {av : List Value} {σ : zS} {k k' : Int32 → zS → Prop} (hp : ∀ x σ, k x σ → k' x σ) (h : zCall d mi av σ (zPI k)) : zCall d mi av σ (zPI k') := zCall_mono (fun r σ ⟨x, h1, h2⟩ => ⟨x, h1, hp x σ h2⟩) h
theorem zc_J {d mi : Nat} {av : List Value} {σ : zS} {k k' : Int64 → zS → Prop} (hp : ∀ x σ, k x σ → k' x σ) (h : zCall d mi av σ (zPJ k)) : zCall d mi av σ (zPJ k') := zCall_mono (fun r σ ⟨x, h1, h2⟩ => ⟨x, h1, hp x σ h2⟩) h
theorem zc_V {d mi : Nat} {av : List Value} {σ : zS} {k k' : zS → Prop} (hp : ∀ σ, k σ → k' σ) (h : zCall d mi av σ (zPV k)) : zCall d mi av σ (zPV k') := zCall_mono (fun r σ ⟨h1, h2⟩ => ⟨h1, hp σ h2⟩) h
theorem zG_imp {b : Bool} {P Q : Prop} (hp : P → Q) (h : zG b P) : zG b Q := by
  cases b with
  | true => exact hp h
  | false => exact h
theorem zIl_imp {sc : Option (Nat × (Nat → Int32))} {σ : zS} {q : Nat} {i : Int32} {k k' : Int32 → Prop} (hp : ∀ x, k x → k' x) (h : zIl sc σ q i k) : zIl sc σ q i k' := by
  revert h
  unfold zIl
  cases zIsI q with
  | true => exact fun h => ⟨h.1, hp _ h.2⟩
  | false => cases sc with
    | none => exact fun h => h
    | some s => exact fun h => zG_imp (fun h => ⟨h.1, hp _ h.2⟩) h
theorem zN_lt (q : Nat) : zN q < 1000 := by
  have h : ∀ k ∈ zSh, k.2.1 < 1000 := by decide +kernel
  unfold zN zK
  rw [List.getD_eq_getElem?_getD]
  cases e : zSh[q]? with
  | none => decide
  | some k => exact h k (List.mem_of_getElem? e)
def zAt (σ : zS) (q : Nat) (i : Int32) : Int32 := if 0 ≤ i ∧ i < nI (zN q) then σ.1 q i.toNatClampNeg else 0
def zAtJ (σ : zS) (q : Nat) (i : Int32) : Int64 := if 0 ≤ i ∧ i < nI (zN q) then σ.2 q i.toNatClampNeg else 0
def zPt (σ : zS) (q : Nat) (i v : Int32) : zS := zSR σ q (if 0 ≤ i ∧ i < nI (zN q) then upd (σ.1 q) i.toNatClampNeg v else σ.1 q)
def zPtJ (σ : zS) (q : Nat) (i : Int32) (v : Int64) : zS := (σ.1, fun a => if a = q then (if 0 ≤ i ∧ i < nI (zN q) then vp_updL (σ.2 q) i.toNatClampNeg v else σ.2 q) else σ.2 a)
theorem zPt_in {σ : zS} {q : Nat} {i v : Int32} (h : 0 ≤ i ∧ i < nI (zN q)) : zPt σ q i v = zSI σ q i.toNatClampNeg v := by
  unfold zPt zSR zSI
  rw [if_pos h]
  refine Prod.ext (funext fun a => ?_) rfl
  by_cases e : a = q
  · subst e; simp
  · simp [e]
theorem zPt_out {σ : zS} {q : Nat} {i v : Int32} (h : ¬ (0 ≤ i ∧ i < nI (zN q))) : zPt σ q i v = σ := by
  unfold zPt zSR
  rw [if_neg h]
  refine Prod.ext (funext fun a => ?_) rfl
  by_cases e : a = q
  · subst e; simp
  · simp [e]
theorem zPtJ_in {σ : zS} {q : Nat} {i : Int32} {v : Int64} (h : 0 ≤ i ∧ i < nI (zN q)) : zPtJ σ q i v = zSJ σ q i.toNatClampNeg v := by
  unfold zPtJ zSJ
  rw [if_pos h]
  refine Prod.ext rfl (funext fun a => ?_)
  by_cases e : a = q
  · subst e; simp
  · simp [e]
theorem zPtJ_out {σ : zS} {q : Nat} {i : Int32} {v : Int64} (h : ¬ (0 ≤ i ∧ i < nI (zN q))) : zPtJ σ q i v = σ := by
  unfold zPtJ
  rw [if_neg h]
  refine Prod.ext rfl (funext fun a => ?_)
  by_cases e : a = q
  · subst e; simp
  · simp [e]
def zRat (a b : Int64) : Int64 := if b = 0 then 0 else a / b
theorem vin_of {i : Int32} {n : Nat} (h0 : ¬ i < 0) (h1 : i < nI n) (hn : n < 2 ^ 31) : vp_in i n := by
  rw [Int32.lt_iff_toInt_lt, nI_toInt hn] at h1
  rw [Int32.lt_iff_toInt_lt, Int32.toInt_zero] at h0
  exact vp_in_iff.mpr ⟨by omega, h1⟩
theorem zN_31 (q : Nat) : zN q < 2 ^ 31 := Nat.lt_trans (zN_lt q) (by decide)
theorem sm_at {d q : Nat} {i : Int32} {σ : zS} {k : Int32 → zS → Prop} (hq : zIsI q = true) (h : k (zAt σ q i) σ) : zCall (d + 1) nX11_at [.ref q, .int i] σ (zPI k) := by
  refine ze_X11_at q i σ (fun X hX => zr_X11_at_0 hX q i σ ⟨fun h1 => ?_, fun h1 => ?_⟩)
  · have e : zAt σ q i = 0 := if_neg (fun z => Int32.not_lt.mpr z.1 h1)
    rw [e] at h
    exact ⟨_, rfl, h⟩
  · unfold zLe
    rw [hq]
    refine ⟨fun h2 => ?_, fun h2 => ?_⟩
    · unfold zIl
      rw [hq]
      have e : zAt σ q i = σ.1 q i.toNatClampNeg := if_pos ⟨Int32.not_lt.mp h1, h2⟩
      rw [e] at h
      exact ⟨vin_of h1 h2 (zN_31 q), _, rfl, h⟩
    · have e : zAt σ q i = 0 := if_neg (fun z => h2 z.2)
      rw [e] at h
      exact ⟨_, rfl, h⟩
theorem sm_put {d q : Nat} {i v : Int32} {σ : zS} {k : zS → Prop} (hq : zIsI q = true) (h : k (zPt σ q i v)) : zCall (d + 1) nX11_put [.ref q, .int i, .int v] σ (zPV k) := by
  refine ze_X11_put q i v σ (fun X hX => zr_X11_put_0 hX q i v σ ⟨fun h1 => ?_, fun h1 => ?_⟩)
  · have e : zPt σ q i v = σ := zPt_out (fun z => Int32.not_lt.mpr z.1 h1)
    rw [e] at h
    exact ⟨rfl, h⟩
  · unfold zLe
    rw [hq]
    refine ⟨fun h2 => ?_, fun h2 => ?_⟩
    · have e : zPt σ q i v = zSI σ q i.toNatClampNeg v := zPt_in ⟨Int32.not_lt.mp h1, h2⟩
      rw [e] at h
      exact ⟨vin_of h1 h2 (zN_31 q), rfl, h⟩
    · have e : zPt σ q i v = σ := zPt_out (fun z => h2 z.2)
      rw [e] at h
      exact ⟨rfl, h⟩
theorem sm_ratio {d : Nat} {a b : Int64} {σ : zS} {k : Int64 → zS → Prop} (h : k (zRat a b) σ) : zCall (d + 1) nX11_ratio [.long a, .long b] σ (zPJ k) := by
  refine ze_X11_ratio a b σ (fun X hX => zr_X11_ratio_0 hX a b σ ⟨fun h1 => ?_, fun h1 => ?_⟩)
  · have e : zRat a b = 0 := if_pos ((lg_cmp_eq b 0).mp h1)
    rw [e] at h
    exact ⟨_, rfl, h⟩
  · have h2 : ¬ b = 0 := fun z => h1 ((lg_cmp_eq b 0).mpr z)
    have e : zRat a b = a / b := if_neg h2
    rw [e] at h
    exact ⟨h2, _, rfl, h⟩
theorem sm_within {d : Nat} {x a b : Int32} {σ : zS} {k : Int32 → zS → Prop} (h1 : a ≤ x ∧ x ≤ b → k 1 σ) (h0 : ¬ (a ≤ x ∧ x ≤ b) → k 0 σ) : zCall (d + 1) nX11_within [.int x, .int a, .int b] σ (zPI k) :=
  ze_X11_within x a b σ (fun X hX => zr_X11_within_0 hX x a b σ ⟨fun g => ⟨_, rfl, h0 (fun z => Int32.not_lt.mpr z.1 g)⟩, fun g => ⟨fun g2 => ⟨_, rfl, h1 ⟨Int32.not_lt.mp g, g2⟩⟩, fun g2 => ⟨_, rfl, h0 (fun z => g2 z.2)⟩⟩⟩)
def zLc (v a b : Int32) : Int32 := if a < (if v < b then v else b) then (if v < b then v else b) else a
theorem sm_limit {d : Nat} {v a b : Int32} {σ : zS} {k : Int32 → zS → Prop} (h : k (zLc v a b) σ) : zCall (d + 1) nX11_limit [.int v, .int a, .int b] σ (zPI k) :=
  ze_X11_limit v a b σ (fun X hX => zr_X11_limit_0 hX v a b σ ⟨_, rfl, h⟩)
def cWt (σ : zS) (f : Int32) : Int32 := zAt σ 5 (zAt σ 18 f)
theorem sm_weightOf {d : Nat} {f : Int32} {σ : zS} {k : Int32 → zS → Prop} (h : k (cWt σ f) σ) : zCall (d + 2) nX6_weightOf [.ref 24, .int f] σ (zPI k) :=
  ze_X6_weightOf f σ (fun X hX => zr_X6_weightOf_0 hX f σ (sm_at rfl (sm_at rfl ⟨_, rfl, h⟩)))
def cBits (σ : zS) (f q : Int32) : Int32 := 40 + Int64.toInt32 (zRat (Int32.toInt64 (zAt σ 21 f * 200)) (Int32.toInt64 (zAt σ 25 q)))
theorem sm_bitsOf {d : Nat} {f q : Int32} {σ : zS} {k : Int32 → zS → Prop} (h : k (cBits σ f q) σ) : zCall (d + 2) nX6_bitsOf [.ref 24, .int f, .int q] σ (zPI k) :=
  ze_X6_bitsOf f q σ (fun X hX => zr_X6_bitsOf_0 hX f q σ (sm_at rfl (sm_at rfl (sm_ratio ⟨_, rfl, h⟩))))
def cLoss (σ : zS) (f q : Int32) : Int32 := (((cWt σ f * (3 - zAt σ 17 f)) * zAt σ 25 q) * zAt σ 25 q) / 16
theorem sm_lossOf {d : Nat} {f q : Int32} {σ : zS} {k : Int32 → zS → Prop} (h : k (cLoss σ f q) σ) : zCall (d + 3) nX6_lossOf [.ref 24, .int f, .int q] σ (zPI k) :=
  ze_X6_lossOf f q σ (fun X hX => zr_X6_lossOf_0 hX f q σ (sm_at rfl (sm_at rfl (sm_weightOf ⟨by decide, _, rfl, h⟩))))
def cOff (σ : zS) (f : Int32) : Int32 := if zAt σ 17 f = 0 then -3 else if zAt σ 17 f = 1 then 0 else 2
theorem sm_offsetOf {d : Nat} {f : Int32} {σ : zS} {k : Int32 → zS → Prop} (h : k (cOff σ f) σ) : zCall (d + 2) nX4_offsetOf [.ref 32, .int f] σ (zPI k) := by
  refine ze_X4_offsetOf f σ (fun X hX => zr_X4_offsetOf_0 hX f σ (sm_at rfl ⟨fun g => ?_, fun g => ⟨fun g2 => ?_, fun g2 => ?_⟩⟩))
  · rw [show cOff σ f = -3 from if_pos g] at h
    exact ⟨_, rfl, h⟩
  · rw [show cOff σ f = 0 from by unfold cOff; rw [if_neg g, if_pos g2]] at h
    exact ⟨_, rfl, h⟩
  · rw [show cOff σ f = 2 from by unfold cOff; rw [if_neg g, if_neg g2]] at h
    exact ⟨_, rfl, h⟩
def cWk (ty tx mo : Int32) : Int32 := if ty = 0 then 4 * tx else if ty = 1 then tx + 2 * mo else tx / 2 + mo
theorem sm_workOf {d : Nat} {ty tx mo : Int32} {σ : zS} {k : Int32 → zS → Prop} (h : k (cWk ty tx mo) σ) : zCall (d + 1) nX3_workOf [.int ty, .int tx, .int mo] σ (zPI k) := by
  refine ze_X3_workOf ty tx mo σ (fun X hX => zr_X3_workOf_0 hX ty tx mo σ ⟨fun g => ?_, fun g => ⟨fun g2 => ?_, fun g2 => ?_⟩⟩)
  · rw [show cWk ty tx mo = 4 * tx from if_pos g] at h
    exact ⟨_, rfl, h⟩
  · rw [show cWk ty tx mo = tx + 2 * mo from by unfold cWk; rw [if_neg g, if_pos g2]] at h
    exact ⟨_, rfl, h⟩
  · rw [show cWk ty tx mo = tx / 2 + mo from by unfold cWk; rw [if_neg g, if_neg g2]] at h
    exact ⟨by decide, _, rfl, h⟩
theorem sm_isMultiple {d : Nat} {a b : Int32} {σ : zS} {k : Int32 → zS → Prop} (h1 : (¬ b = 0 ∧ a - a / b * b = 0) → k 1 σ) (h0 : ¬ (¬ b = 0 ∧ a - a / b * b = 0) → k 0 σ) : zCall (d + 1) nX3_isMultiple [.int a, .int b] σ (zPI k) :=
  ze_X3_isMultiple a b σ (fun X hX => zr_X3_isMultiple_0 hX a b σ ⟨fun g => ⟨_, rfl, h0 (fun z => z.1 g)⟩, fun g => ⟨g, fun g2 => ⟨_, rfl, h1 ⟨g, g2⟩⟩, fun g2 => ⟨_, rfl, h0 (fun z => g2 z.2)⟩⟩⟩)
def cCut (σ : zS) (i : Int32) : Prop := 0 < i ∧ 3 * zAt σ 2 i < 2 * zAt σ 3 i
theorem sm_isCut {d : Nat} {i : Int32} {σ : zS} {k : Int32 → zS → Prop} (h1 : cCut σ i → k 1 σ) (h0 : ¬ cCut σ i → k 0 σ) : zCall (d + 2) nX0_isCut [.ref 1, .int i] σ (zPI k) :=
  ze_X0_isCut i σ (fun X hX => zr_X0_isCut_0 hX i σ ⟨fun g => ⟨_, rfl, h0 (fun z => Int32.not_lt.mpr g z.1)⟩, fun g => sm_at rfl (sm_at rfl ⟨fun g2 => ⟨_, rfl, h0 (fun z => Int32.not_lt.mpr g2 z.2)⟩, fun g2 => ⟨_, rfl, h1 ⟨Int32.not_le.mp g, Int32.not_le.mp g2⟩⟩⟩)⟩)
theorem sm_isFrame {d : Nat} {i : Int32} {σ : zS} {k : Int32 → zS → Prop} (h1 : 0 ≤ i ∧ i ≤ σ.1 1 0 - 1 → k 1 σ) (h0 : ¬ (0 ≤ i ∧ i ≤ σ.1 1 0 - 1) → k 0 σ) : zCall (d + 2) nX11_isFrame [.ref 0, .int i] σ (zPI k) :=
  ze_X11_isFrame i σ (fun X hX => zr_X11_isFrame_0 hX i σ (sm_within (fun g => ⟨_, rfl, h1 g⟩) (fun g => ⟨_, rfl, h0 g⟩)))
theorem sm_isQuantizer {d : Nat} {i : Int32} {σ : zS} {k : Int32 → zS → Prop} (h1 : 0 ≤ i ∧ i ≤ 51 → k 1 σ) (h0 : ¬ (0 ≤ i ∧ i ≤ 51) → k 0 σ) : zCall (d + 2) nX11_isQuantizer [.int i] σ (zPI k) :=
  ze_X11_isQuantizer i σ (fun X hX => zr_X11_isQuantizer_0 hX i σ (sm_within (fun g => ⟨_, rfl, h1 g⟩) (fun g => ⟨_, rfl, h0 g⟩)))
theorem zCallS_mono {sc : Option (Nat × (Nat → Int32))} {d mi : Nat} {av : List Value} {σ : zS} {po po' : zPo} (hp : ∀ r σ, po r σ → po' r σ) (h : zCallS sc d mi av σ po) : zCallS sc d mi av σ po' := by
  cases d with
  | zero => exact False.elim h
  | succ d =>
    obtain ⟨h1, h2⟩ := zG_inv h
    show zG (Nat.ble (zAr av).length (zMl mi)) _
    rw [h1]
    intro X hX
    exact h2 X ⟨fun Z pc o ls st σ hZ hk he => hX.1 Z pc o ls st σ hZ hk (zEx_post hp he), hX.2⟩
theorem zs_I {sc : Option (Nat × (Nat → Int32))} {d mi : Nat} {av : List Value} {σ : zS} {k k' : Int32 → zS → Prop} (hp : ∀ x σ, k x σ → k' x σ) (h : zCallS sc d mi av σ (zPI k)) : zCallS sc d mi av σ (zPI k') := zCallS_mono (fun r σ ⟨x, h1, h2⟩ => ⟨x, h1, hp x σ h2⟩) h
theorem zs_J {sc : Option (Nat × (Nat → Int32))} {d mi : Nat} {av : List Value} {σ : zS} {k k' : Int64 → zS → Prop} (hp : ∀ x σ, k x σ → k' x σ) (h : zCallS sc d mi av σ (zPJ k)) : zCallS sc d mi av σ (zPJ k') := zCallS_mono (fun r σ ⟨x, h1, h2⟩ => ⟨x, h1, hp x σ h2⟩) h
theorem zs_V {sc : Option (Nat × (Nat → Int32))} {d mi : Nat} {av : List Value} {σ : zS} {k k' : zS → Prop} (hp : ∀ σ, k σ → k' σ) (h : zCallS sc d mi av σ (zPV k)) : zCallS sc d mi av σ (zPV k') := zCallS_mono (fun r σ ⟨h1, h2⟩ => ⟨h1, hp σ h2⟩) h
end
section
/-! the regions again, with what is pure in its place: printed by wip/whole/sym2.py -/
-- X3_framesOfScene(16,) depth 2
set_option maxRecDepth 100000 in
set_option maxHeartbeats 4000000 in
theorem zq_X3_framesOfScene_0 {d : Nat} {post : zPo} {X : zX} (hX : zClosed none (zCall (d + 1)) post nX3_framesOfScene X) (p0 : Int32) (σ : zS) (h : X 4 [some (.ref 16), some (.int p0), some (.int 0), some (.int 0)] [] σ) : X 0 [some (.ref 16), some (.int p0), none, none] [] σ := zr_X3_framesOfScene_0 hX p0 σ h
set_option maxRecDepth 100000 in
set_option maxHeartbeats 4000000 in
theorem zq_X3_framesOfScene_4 {d : Nat} {post : zPo} {X : zX} (hX : zClosed none (zCall (d + 1)) post nX3_framesOfScene X) (v1 : Int32) (v2 : Int32) (v3 : Int32) (σ : zS) (h : zIf ((v3 : Int32) < (σ.1 16 0)) (zIf ((zAt σ 18 v3 : Int32) = v1) (X 4 [some (.ref 16), some (.int v1), some (.int (v2 + 1)), some (.int (v3 + 1))] [] σ) (X 4 [some (.ref 16), some (.int v1), some (.int v2), some (.int (v3 + 1))] [] σ)) (post (some (.int v2)) σ)) : X 4 [some (.ref 16), some (.int v1), some (.int v2), some (.int v3)] [] σ := zr_X3_framesOfScene_4 hX v1 v2 v3 σ ⟨fun z1 => sm_at rfl ((h.1 z1)), fun z2 => (h.2 z2)⟩
-- X3_firstOfScene(16,) depth 2
set_option maxRecDepth 100000 in
set_option maxHeartbeats 4000000 in
theorem zq_X3_firstOfScene_0 {d : Nat} {post : zPo} {X : zX} (hX : zClosed none (zCall (d + 1)) post nX3_firstOfScene X) (p0 : Int32) (σ : zS) (h : X 2 [some (.ref 16), some (.int p0), some (.int 0)] [] σ) : X 0 [some (.ref 16), some (.int p0), none] [] σ := zr_X3_firstOfScene_0 hX p0 σ h
set_option maxRecDepth 100000 in
set_option maxHeartbeats 4000000 in
theorem zq_X3_firstOfScene_2 {d : Nat} {post : zPo} {X : zX} (hX : zClosed none (zCall (d + 1)) post nX3_firstOfScene X) (v1 : Int32) (v2 : Int32) (σ : zS) (h : zIf ((v2 : Int32) < (σ.1 16 0)) (zIf ((zAt σ 18 v2 : Int32) = v1) (post (some (.int v2)) σ) (X 2 [some (.ref 16), some (.int v1), some (.int (v2 + 1))] [] σ)) (post (some (.int (-1))) σ)) : X 2 [some (.ref 16), some (.int v1), some (.int v2)] [] σ := zr_X3_firstOfScene_2 hX v1 v2 σ ⟨fun z1 => sm_at rfl ((h.1 z1)), fun z2 => (h.2 z2)⟩
-- X3_groupsOfScene(16,) depth 2
set_option maxRecDepth 100000 in
set_option maxHeartbeats 4000000 in
theorem zq_X3_groupsOfScene_0 {d : Nat} {post : zPo} {X : zX} (hX : zClosed none (zCall (d + 1)) post nX3_groupsOfScene X) (p0 : Int32) (σ : zS) (h : X 4 [some (.ref 16), some (.int p0), some (.int 0), some (.int 0)] [] σ) : X 0 [some (.ref 16), some (.int p0), none, none] [] σ := zr_X3_groupsOfScene_0 hX p0 σ h
set_option maxRecDepth 100000 in
set_option maxHeartbeats 4000000 in
theorem zq_X3_groupsOfScene_4 {d : Nat} {post : zPo} {X : zX} (hX : zClosed none (zCall (d + 1)) post nX3_groupsOfScene X) (v1 : Int32) (v2 : Int32) (v3 : Int32) (σ : zS) (h : zIf ((v3 : Int32) < (σ.1 16 0)) (zIf ((zAt σ 18 v3 : Int32) = v1) (zIf ((zAt σ 17 v3 : Int32) = 0) (X 4 [some (.ref 16), some (.int v1), some (.int (v2 + 1)), some (.int (v3 + 1))] [] σ) (X 4 [some (.ref 16), some (.int v1), some (.int v2), some (.int (v3 + 1))] [] σ)) (X 4 [some (.ref 16), some (.int v1), some (.int v2), some (.int (v3 + 1))] [] σ)) (post (some (.int v2)) σ)) : X 4 [some (.ref 16), some (.int v1), some (.int v2), some (.int v3)] [] σ := zr_X3_groupsOfScene_4 hX v1 v2 v3 σ ⟨fun z1 => sm_at rfl (⟨fun z3 => sm_at rfl (((h.1 z1).1 z3)), fun z4 => ((h.1 z1).2 z4)⟩), fun z2 => (h.2 z2)⟩
-- X0_add(1,) depth 2
set_option maxRecDepth 100000 in
set_option maxHeartbeats 4000000 in
theorem zq_X0_add_1_0 {d : Nat} {post : zPo} {X : zX} (hX : zClosed none (zCall (d + 1)) post nX0_add X) (p0 : Int32) (p1 : Int32) (σ : zS) (h : post none (zSI (zPt (zPt σ 2 (σ.1 1 0) p0) 3 (σ.1 1 0) p1) 1 0 ((σ.1 1 0) + 1))) : X 0 [some (.ref 1), some (.int p0), some (.int p1)] [] σ := zr_X0_add_1_0 hX p0 p1 σ (sm_put rfl (sm_put rfl (h)))
-- X3_chooseTypes(16,) depth 2
set_option maxRecDepth 100000 in
set_option maxHeartbeats 4000000 in
theorem zq_X3_chooseTypes_0 {d : Nat} {post : zPo} {X : zX} (hX : zClosed none (zCall (d + 1)) post nX3_chooseTypes X) (p0 : Int32) (σ : zS) (h : X 2 [some (.ref 16), some (.int p0), some (.int 0), none, none] [] σ) : X 0 [some (.ref 16), some (.int p0), none, none, none] [] σ := zr_X3_chooseTypes_0 hX p0 σ h
set_option maxRecDepth 100000 in
set_option maxHeartbeats 4000000 in
theorem zq_X3_chooseTypes_2 {d : Nat} {post : zPo} {X : zX} (hX : zClosed none (zCall (d + 1)) post nX3_chooseTypes X) (v1 : Int32) (v2 : Int32) (σ : zS) (h : zIf ((v2 : Int32) < (σ.1 16 0)) (zIf ((v2 - (zAt σ 19 v2) : Int32) = ((zAt σ 20 v2) - 1)) (zIf ((v2 - (zAt σ 19 v2) : Int32) = 0) (X 2 [some (.ref 16), some (.int v1), some (.int (v2 + 1)), none, none] [] (zPt σ 17 v2 0)) (X 2 [some (.ref 16), some (.int v1), some (.int (v2 + 1)), none, none] [] (zPt σ 17 v2 1))) (zIf ((v2 - (zAt σ 19 v2) : Int32) = 0) (X 2 [some (.ref 16), some (.int v1), some (.int (v2 + 1)), none, none] [] (zPt σ 17 v2 0)) (zIf (¬ (v1 + 1 : Int32) = 0 ∧ (v2 - (zAt σ 19 v2)) - (v2 - (zAt σ 19 v2)) / (v1 + 1) * (v1 + 1) = 0) (X 2 [some (.ref 16), some (.int v1), some (.int (v2 + 1)), none, none] [] (zPt σ 17 v2 1)) (X 2 [some (.ref 16), some (.int v1), some (.int (v2 + 1)), none, none] [] (zPt σ 17 v2 2))))) (post none σ)) : X 2 [some (.ref 16), some (.int v1), some (.int v2), none, none] [] σ := zr_X3_chooseTypes_2 hX v1 v2 σ ⟨fun z1 => sm_at rfl (sm_at rfl (⟨fun z3 => ⟨fun z5 => sm_put rfl ((((h.1 z1).1 z3).1 z5)), fun z6 => ⟨fun z => absurd z (by decide), fun _ => sm_put rfl ((((h.1 z1).1 z3).2 z6))⟩⟩, fun z4 => ⟨fun z7 => sm_put rfl ((((h.1 z1).2 z4).1 z7)), fun z8 => ⟨fun _ => sm_isMultiple (fun z9 => ⟨fun z => absurd z (by decide), fun _ => sm_put rfl (((((h.1 z1).2 z4).2 z8).1 z9))⟩) (fun z10 => ⟨fun _ => sm_put rfl (((((h.1 z1).2 z4).2 z8).2 z10)), fun z => absurd (by decide) z⟩), fun z => absurd (by decide) z⟩⟩⟩)), fun z2 => (h.2 z2)⟩
-- X3_findStarts(16, 1) depth 3
set_option maxRecDepth 100000 in
set_option maxHeartbeats 4000000 in
theorem zq_X3_findStarts_0 {d : Nat} {post : zPo} {X : zX} (hX : zClosed none (zCall (d + 2)) post nX3_findStarts X) (p1 : Int32) (σ : zS) (h : X 15 [some (.ref 16), some (.ref 1), some (.int p1), some (.int 0), some (.int 0), none] [] (zSI (zSI σ 16 1 0) 16 2 0)) : X 0 [some (.ref 16), some (.ref 1), some (.int p1), none, none, none] [] σ := zr_X3_findStarts_0 hX p1 σ h
set_option maxRecDepth 100000 in
set_option maxHeartbeats 4000000 in
theorem zq_X3_findStarts_15 {d : Nat} {post : zPo} {X : zX} (hX : zClosed none (zCall (d + 2)) post nX3_findStarts X) (v2 : Int32) (v3 : Int32) (v4 : Int32) (σ : zS) (h : zIf ((v4 : Int32) < (σ.1 16 0)) (zIf ((v4 : Int32) = 0) (X 15 [some (.ref 16), some (.ref 1), some (.int v2), some (.int v4), some (.int (v4 + 1)), none] [] (zPt (zPt (zSI (zSI σ 16 1 ((σ.1 16 1) + 1)) 16 2 ((σ.1 16 2) + 1)) 18 v4 (((σ.1 16 1) + 1) - 1)) 19 v4 v4)) (zIf (cCut σ v4) (X 15 [some (.ref 16), some (.ref 1), some (.int v2), some (.int v4), some (.int (v4 + 1)), none] [] (zPt (zPt (zSI (zSI σ 16 1 ((σ.1 16 1) + 1)) 16 2 ((σ.1 16 2) + 1)) 18 v4 (((σ.1 16 1) + 1) - 1)) 19 v4 v4)) (zIf ((v4 - v3 : Int32) < v2) (X 15 [some (.ref 16), some (.ref 1), some (.int v2), some (.int v3), some (.int (v4 + 1)), none] [] (zPt (zPt σ 18 v4 ((σ.1 16 1) - 1)) 19 v4 v3)) (X 15 [some (.ref 16), some (.ref 1), some (.int v2), some (.int v4), some (.int (v4 + 1)), none] [] (zPt (zPt (zSI σ 16 2 ((σ.1 16 2) + 1)) 18 v4 ((σ.1 16 1) - 1)) 19 v4 v4))))) (post none σ)) : X 15 [some (.ref 16), some (.ref 1), some (.int v2), some (.int v3), some (.int v4), none] [] σ := zr_X3_findStarts_15 hX v2 v3 v4 σ ⟨fun z1 => ⟨fun z3 => ⟨fun z => absurd z (by decide), fun _ => ⟨fun z => absurd z (by decide), fun _ => sm_put rfl (sm_put rfl (((h.1 z1).1 z3)))⟩⟩, fun z4 => sm_isCut (fun z5 => ⟨fun z => absurd z (by decide), fun _ => ⟨fun z => absurd z (by decide), fun _ => ⟨fun z => absurd z (by decide), fun _ => sm_put rfl (sm_put rfl ((((h.1 z1).2 z4).1 z5)))⟩⟩⟩) (fun z6 => ⟨fun _ => ⟨fun _ => ⟨fun _ => ⟨fun z7 => sm_put rfl (sm_put rfl (((((h.1 z1).2 z4).2 z6).1 z7))), fun z8 => sm_put rfl (sm_put rfl (((((h.1 z1).2 z4).2 z6).2 z8)))⟩, fun z => absurd (by decide) z⟩, fun z => absurd (by decide) z⟩, fun z => absurd (by decide) z⟩)⟩, fun z2 => (h.2 z2)⟩
-- X3_measureGroups(16,) depth 2
set_option maxRecDepth 100000 in
set_option maxHeartbeats 4000000 in
theorem zq_X3_measureGroups_0 {d : Nat} {post : zPo} {X : zX} (hX : zClosed none (zCall (d + 1)) post nX3_measureGroups X) (σ : zS) (h : X 12 [some (.ref 16), some (.int (σ.1 16 0)), some (.int ((σ.1 16 0) - 1)), none] [] σ) : X 0 [some (.ref 16), none, none, none] [] σ := zr_X3_measureGroups_0 hX  σ h
set_option maxRecDepth 100000 in
set_option maxHeartbeats 4000000 in
theorem zq_X3_measureGroups_12 {d : Nat} {post : zPo} {X : zX} (hX : zClosed none (zCall (d + 1)) post nX3_measureGroups X) (v1 : Int32) (v2 : Int32) (σ : zS) (h : zIf ((v2 : Int32) < 0) (post none σ) (zIf ((v2 : Int32) = (zAt σ 19 v2)) (X 12 [some (.ref 16), some (.int v2), some (.int (v2 + (-1))), none] [] (zPt σ 20 v2 (v1 - (zAt σ 19 v2)))) (X 12 [some (.ref 16), some (.int v1), some (.int (v2 + (-1))), none] [] (zPt σ 20 v2 (v1 - (zAt σ 19 v2)))))) : X 12 [some (.ref 16), some (.int v1), some (.int v2), none] [] σ := zr_X3_measureGroups_12 hX v1 v2 σ ⟨fun z1 => (h.1 z1), fun z2 => sm_at rfl (sm_put rfl ((h.2 z2)))⟩
-- X3_putAt(16,) depth 2
set_option maxRecDepth 100000 in
set_option maxHeartbeats 4000000 in
theorem zq_X3_putAt_0 {d : Nat} {post : zPo} {X : zX} (hX : zClosed none (zCall (d + 1)) post nX3_putAt X) (p0 : Int32) (p1 : Int32) (σ : zS) (h : post none (zPt (zPt σ 23 p0 p1) 22 p1 p0)) : X 0 [some (.ref 16), some (.int p0), some (.int p1)] [] σ := zr_X3_putAt_0 hX p0 p1 σ (sm_put rfl (sm_put rfl (h)))
-- X3_putInOrder(16,) depth 3
set_option maxRecDepth 100000 in
set_option maxHeartbeats 4000000 in
theorem zq_X3_putInOrder_0 {d : Nat} {post : zPo} {X : zX} (hX : zClosed none (zCall (d + 2)) post nX3_putInOrder X) (σ : zS) (h : X 6 [some (.ref 16), some (.int 0), some (.int 0), some (.int 0), none] [] σ) : X 0 [some (.ref 16), none, none, none, none] [] σ := zr_X3_putInOrder_0 hX  σ h
set_option maxRecDepth 100000 in
set_option maxHeartbeats 4000000 in
theorem zq_X3_putInOrder_6 {d : Nat} {post : zPo} {X : zX} (hX : zClosed none (zCall (d + 2)) post nX3_putInOrder X) (v1 : Int32) (v2 : Int32) (v3 : Int32) (σ : zS) (h : zIf ((v3 : Int32) < (σ.1 16 0)) (zIf ((zAt σ 17 v3 : Int32) = 2) (X 6 [some (.ref 16), some (.int v1), some (.int v2), some (.int (v3 + 1)), none] [] σ) (zCall (d + 2) nX3_putAt [.ref 16, .int v1, .int v3] σ (zPV fun σ1 => X 38 [some (.ref 16), some (.int (v1 + 1)), none, some (.int v3), some (.int v2)] [] σ1))) (post none σ)) : X 6 [some (.ref 16), some (.int v1), some (.int v2), some (.int v3), none] [] σ := zr_X3_putInOrder_6 hX v1 v2 v3 σ ⟨fun z1 => sm_at rfl (⟨fun z3 => zr_X3_putInOrder_64 hX v1 v2 v3 σ (((h.1 z1).1 z3)), fun z4 => ((h.1 z1).2 z4)⟩), fun z2 => zr_X3_putInOrder_70 hX  σ ((h.2 z2))⟩
set_option maxRecDepth 100000 in
set_option maxHeartbeats 4000000 in
theorem zq_X3_putInOrder_38 {d : Nat} {post : zPo} {X : zX} (hX : zClosed none (zCall (d + 2)) post nX3_putInOrder X) (v1 : Int32) (v3 : Int32) (v4 : Int32) (σ : zS) (h : zIf ((v4 : Int32) < v3) (zCall (d + 2) nX3_putAt [.ref 16, .int v1, .int v4] σ (zPV fun σ1 => X 38 [some (.ref 16), some (.int (v1 + 1)), none, some (.int v3), some (.int (v4 + 1))] [] σ1)) (X 6 [some (.ref 16), some (.int v1), some (.int (v3 + 1)), some (.int (v3 + 1)), none] [] σ)) : X 38 [some (.ref 16), some (.int v1), none, some (.int v3), some (.int v4)] [] σ := zr_X3_putInOrder_38 hX v1 v3 v4 σ h
-- X3_weighWorks(16, 1) depth 2
set_option maxRecDepth 100000 in
set_option maxHeartbeats 4000000 in
theorem zq_X3_weighWorks_0 {d : Nat} {post : zPo} {X : zX} (hX : zClosed none (zCall (d + 1)) post nX3_weighWorks X) (σ : zS) (h : X 2 [some (.ref 16), some (.ref 1), some (.int 0)] [] σ) : X 0 [some (.ref 16), some (.ref 1), none] [] σ := zr_X3_weighWorks_0 hX  σ h
set_option maxRecDepth 100000 in
set_option maxHeartbeats 4000000 in
theorem zq_X3_weighWorks_2 {d : Nat} {post : zPo} {X : zX} (hX : zClosed none (zCall (d + 1)) post nX3_weighWorks X) (v2 : Int32) (σ : zS) (h : zIf ((v2 : Int32) < (σ.1 16 0)) (X 2 [some (.ref 16), some (.ref 1), some (.int (v2 + 1))] [] (zPt σ 21 v2 (cWk (zAt σ 17 v2) (zAt σ 2 v2) (zAt σ 3 v2)))) (post none σ)) : X 2 [some (.ref 16), some (.ref 1), some (.int v2)] [] σ := zr_X3_weighWorks_2 hX v2 σ ⟨fun z1 => sm_at rfl (sm_at rfl (sm_at rfl (sm_workOf (sm_put rfl ((h.1 z1)))))), fun z2 => (h.2 z2)⟩
-- X3_arrange(16, 1, 4) depth 4
set_option maxRecDepth 100000 in
set_option maxHeartbeats 4000000 in
theorem zq_X3_arrange_0 {d : Nat} {post : zPo} {X : zX} (hX : zClosed none (zCall (d + 3)) post nX3_arrange X) (σ : zS) (h : zCall (d + 3) nX3_findStarts [.ref 16, .ref 1, .int (σ.1 4 0)] (zSI σ 16 0 (σ.1 1 0)) (zPV fun σ1 => zCall (d + 3) nX3_measureGroups [.ref 16] σ1 (zPV fun σ2 => zCall (d + 3) nX3_chooseTypes [.ref 16, .int (σ2.1 4 1)] σ2 (zPV fun σ3 => zCall (d + 3) nX3_putInOrder [.ref 16] σ3 (zPV fun σ4 => zCall (d + 3) nX3_weighWorks [.ref 16, .ref 1] σ4 (zPV fun σ5 => post none σ5)))))) : X 0 [some (.ref 16), some (.ref 1), some (.ref 4)] [] σ := zr_X3_arrange_0 hX  σ h
-- X1_begin(26,) depth 1
set_option maxRecDepth 100000 in
set_option maxHeartbeats 4000000 in
theorem zq_X1_begin_0 {d : Nat} {post : zPo} {X : zX} (hX : zClosed none (zCall (d + 0)) post nX1_begin X) (p0 : Int32) (p1 : Int32) (p2 : Int32) (σ : zS) (h : post none (zSI (zSI (zSI (zSI σ 26 7 p0) 26 8 p2) 26 9 ((p0 * p1) / 100)) 26 0 0)) : X 0 [some (.ref 26), some (.int p0), some (.int p1), some (.int p2)] [] σ := zr_X1_begin_0 hX p0 p1 p2 σ ⟨(by decide), h⟩
-- X1_fillBefore(26,) depth 2
set_option maxRecDepth 100000 in
set_option maxHeartbeats 4000000 in
theorem zq_X1_fillBefore_0 {d : Nat} {post : zPo} {X : zX} (hX : zClosed none (zCall (d + 1)) post nX1_fillBefore X) (p0 : Int32) (σ : zS) (h : zIf ((p0 : Int32) = 0) (post (some (.int (if ((σ.1 26 7 : Int32) < (σ.1 26 9)) then σ.1 26 7 else σ.1 26 9))) (zPt (zPt (zSI σ 26 9 (if ((σ.1 26 7 : Int32) < (σ.1 26 9)) then σ.1 26 7 else σ.1 26 9)) 28 p0 (if ((σ.1 26 7 : Int32) < (σ.1 26 9)) then σ.1 26 7 else σ.1 26 9)) 31 p0 ((σ.1 26 9) - (if ((σ.1 26 7 : Int32) < (σ.1 26 9)) then σ.1 26 7 else σ.1 26 9)))) (post (some (.int (if ((σ.1 26 7 : Int32) < ((σ.1 26 9) + (σ.1 26 8))) then σ.1 26 7 else (σ.1 26 9) + (σ.1 26 8)))) (zPt (zPt (zSI σ 26 9 (if ((σ.1 26 7 : Int32) < ((σ.1 26 9) + (σ.1 26 8))) then σ.1 26 7 else (σ.1 26 9) + (σ.1 26 8))) 28 p0 (if ((σ.1 26 7 : Int32) < ((σ.1 26 9) + (σ.1 26 8))) then σ.1 26 7 else (σ.1 26 9) + (σ.1 26 8))) 31 p0 (((σ.1 26 9) + (σ.1 26 8)) - (if ((σ.1 26 7 : Int32) < ((σ.1 26 9) + (σ.1 26 8))) then σ.1 26 7 else (σ.1 26 9) + (σ.1 26 8)))))) : X 0 [some (.ref 26), some (.int p0), none] [] σ := zr_X1_fillBefore_0 hX p0 σ ⟨fun z1 => sm_put rfl (sm_put rfl ((h.1 z1))), fun z2 => sm_put rfl (sm_put rfl ((h.2 z2)))⟩
-- X1_takeOut(26,) depth 2
set_option maxRecDepth 100000 in
set_option maxHeartbeats 4000000 in
theorem zq_X1_takeOut_0 {d : Nat} {post : zPo} {X : zX} (hX : zClosed none (zCall (d + 1)) post nX1_takeOut X) (p0 : Int32) (p1 : Int32) (σ : zS) (h : zIf ((if ((0 : Int32) < (p1 - (σ.1 26 9))) then p1 - (σ.1 26 9) else 0 : Int32) ≤ 0) (post none (zPt (zPt (zSI σ 26 9 (if ((0 : Int32) < ((σ.1 26 9) - p1)) then (σ.1 26 9) - p1 else 0)) 30 p0 (if ((0 : Int32) < (p1 - (σ.1 26 9))) then p1 - (σ.1 26 9) else 0)) 29 p0 (if ((0 : Int32) < ((σ.1 26 9) - p1)) then (σ.1 26 9) - p1 else 0))) (post none (zPt (zPt (zSI (zSI σ 26 0 ((σ.1 26 0) + 1)) 26 9 (if ((0 : Int32) < ((σ.1 26 9) - p1)) then (σ.1 26 9) - p1 else 0)) 30 p0 (if ((0 : Int32) < (p1 - (σ.1 26 9))) then p1 - (σ.1 26 9) else 0)) 29 p0 (if ((0 : Int32) < ((σ.1 26 9) - p1)) then (σ.1 26 9) - p1 else 0)))) : X 0 [some (.ref 26), some (.int p0), some (.int p1), none] [] σ := zr_X1_takeOut_0 hX p0 p1 σ ⟨fun z1 => sm_put rfl (sm_put rfl ((h.1 z1))), fun z2 => sm_put rfl (sm_put rfl ((h.2 z2)))⟩
-- X1_pass(26,) depth 3
set_option maxRecDepth 100000 in
set_option maxHeartbeats 4000000 in
theorem zq_X1_pass_0 {d : Nat} {post : zPo} {X : zX} (hX : zClosed none (zCall (d + 2)) post nX1_pass X) (p0 : Int32) (p1 : Int32) (p2 : Int32) (σ : zS) (h : zCall (d + 2) nX1_begin [.ref 26, .int p0, .int p1, .int p2] σ (zPV fun σ1 => X 10 [some (.ref 26), none, none, none, some (.int 0)] [] σ1)) : X 0 [some (.ref 26), some (.int p0), some (.int p1), some (.int p2), none] [] σ := zr_X1_pass_0 hX p0 p1 p2 σ h
set_option maxRecDepth 100000 in
set_option maxHeartbeats 4000000 in
theorem zq_X1_pass_10 {d : Nat} {post : zPo} {X : zX} (hX : zClosed none (zCall (d + 2)) post nX1_pass X) (v4 : Int32) (σ : zS) (h : zIf ((v4 : Int32) < (σ.1 16 0)) (zCall (d + 2) nX1_fillBefore [.ref 26, .int v4] σ (zPI fun x2 σ1 => zCall (d + 2) nX1_takeOut [.ref 26, .int v4, .int (zAt σ1 27 v4)] σ1 (zPV fun σ3 => X 10 [some (.ref 26), none, none, none, some (.int (v4 + 1))] [] σ3))) (post none σ)) : X 10 [some (.ref 26), none, none, none, some (.int v4)] [] σ := zr_X1_pass_10 hX v4 σ ⟨fun z1 => zc_I (fun x2 σ1 h3 => sm_at rfl (h3)) (h.1 z1), fun z2 => (h.2 z2)⟩
-- X1_passAsSet(26,) depth 4
set_option maxRecDepth 100000 in
set_option maxHeartbeats 4000000 in
theorem zq_X1_passAsSet_0 {d : Nat} {post : zPo} {X : zX} (hX : zClosed none (zCall (d + 3)) post nX1_passAsSet X) (σ : zS) (h : zCall (d + 3) nX1_pass [.ref 26, .int (σ.1 4 4), .int (σ.1 4 5), .int (σ.1 4 6)] σ (zPV fun σ1 => post none σ1)) : X 0 [some (.ref 26)] [] σ := zr_X1_passAsSet_0 hX  σ h
-- X1_takeBits(26, None) depth 3
set_option maxRecDepth 100000 in
set_option maxHeartbeats 4000000 in
theorem zq_X1_takeBits_0 {d : Nat} {post : zPo} {X : zX} (hX : zClosed none (zCall (d + 2)) post nX1_takeBits X) (p0 : Nat) (hq_p0 : zIsI p0 = true) (σ : zS) (h : X 2 [some (.ref 26), some (.ref p0), some (.int 0), none] [] σ) : X 0 [some (.ref 26), some (.ref p0), none, none] [] σ := zr_X1_takeBits_0 hX p0 σ h
set_option maxRecDepth 100000 in
set_option maxHeartbeats 4000000 in
theorem zq_X1_takeBits_2 {d : Nat} {post : zPo} {X : zX} (hX : zClosed none (zCall (d + 2)) post nX1_takeBits X) (p0 : Nat) (v2 : Int32) (hq_p0 : zIsI p0 = true) (σ : zS) (h : zIf ((v2 : Int32) < (σ.1 16 0)) (X 2 [some (.ref 26), some (.ref p0), some (.int (v2 + 1)), none] [] (zPt σ 27 v2 (cBits σ (zAt σ 23 v2) (zAt σ p0 (zAt σ 23 v2))))) (post none σ)) : X 2 [some (.ref 26), some (.ref p0), some (.int v2), none] [] σ := zr_X1_takeBits_2 hX p0 v2 σ ⟨fun z1 => sm_at rfl (sm_at hq_p0 (sm_bitsOf (sm_put rfl ((h.1 z1))))), fun z2 => (h.2 z2)⟩
-- X1_follow(26, None) depth 5
set_option maxRecDepth 100000 in
set_option maxHeartbeats 4000000 in
theorem zq_X1_follow_0 {d : Nat} {post : zPo} {X : zX} (hX : zClosed none (zCall (d + 4)) post nX1_follow X) (p0 : Nat) (hq_p0 : zIsI p0 = true) (σ : zS) (h : zCall (d + 4) nX1_takeBits [.ref 26, .ref p0] σ (zPV fun σ1 => zCall (d + 4) nX1_passAsSet [.ref 26] σ1 (zPV fun σ2 => post none σ2))) : X 0 [some (.ref 26), some (.ref p0)] [] σ := zr_X1_follow_0 hX p0 σ h
-- X8_settle(4,) depth 2
set_option maxRecDepth 100000 in
set_option maxHeartbeats 4000000 in
theorem zq_X8_settle_0 {d : Nat} {post : zPo} {X : zX} (hX : zClosed none (zCall (d + 1)) post nX8_settle X) (p0 : Int32) (p1 : Int32) (σ : zS) (h : X 5 [some (.ref 4), some (.int p0), none, some (.int p1), some (.int 0)] [] σ) : X 0 [some (.ref 4), some (.int p0), some (.int p1), none, none] [] σ := zr_X8_settle_0 hX p0 p1 σ h
set_option maxRecDepth 100000 in
set_option maxHeartbeats 4000000 in
theorem zq_X8_settle_5 {d : Nat} {post : zPo} {X : zX} (hX : zClosed none (zCall (d + 1)) post nX8_settle X) (v1 : Int32) (v3 : Int32) (v4 : Int32) (σ : zS) (h : zIf ((v4 : Int32) < (σ.1 4 7)) (zIf ((zAt σ 6 v4) ≤ (v1 : Int32) ∧ v1 ≤ (zAt σ 7 v4)) (X 5 [some (.ref 4), some (.int v1), none, some (.int (v3 + (zAt σ 8 v4))), some (.int (v4 + 1))] [] σ) (X 5 [some (.ref 4), some (.int v1), none, some (.int v3), some (.int (v4 + 1))] [] σ)) (post (some (.int (zLc v3 (σ.1 4 2) (σ.1 4 3)))) σ)) : X 5 [some (.ref 4), some (.int v1), none, some (.int v3), some (.int v4)] [] σ := zr_X8_settle_5 hX v1 v3 v4 σ ⟨fun z1 => sm_at rfl (sm_at rfl (sm_within (fun z3 => ⟨fun z => absurd z (by decide), fun _ => sm_at rfl (((h.1 z1).1 z3))⟩) (fun z4 => ⟨fun _ => ((h.1 z1).2 z4), fun z => absurd (by decide) z⟩))), fun z2 => sm_limit ((h.2 z2))⟩
-- X4_planConstant(32, None) depth 3
set_option maxRecDepth 100000 in
set_option maxHeartbeats 4000000 in
theorem zq_X4_planConstant_0 {d : Nat} {post : zPo} {X : zX} (hX : zClosed none (zCall (d + 2)) post nX4_planConstant X) (p0 : Nat) (p1 : Int32) (hq_p0 : zIsI p0 = true) (σ : zS) (h : X 2 [some (.ref 32), some (.ref p0), some (.int p1), some (.int 0)] [] σ) : X 0 [some (.ref 32), some (.ref p0), some (.int p1), none] [] σ := zr_X4_planConstant_0 hX p0 p1 σ h
set_option maxRecDepth 100000 in
set_option maxHeartbeats 4000000 in
theorem zq_X4_planConstant_2 {d : Nat} {post : zPo} {X : zX} (hX : zClosed none (zCall (d + 2)) post nX4_planConstant X) (p0 : Nat) (v2 : Int32) (v3 : Int32) (hq_p0 : zIsI p0 = true) (σ : zS) (h : zIf ((v3 : Int32) < (σ.1 16 0)) (zCall (d + 2) nX8_settle [.ref 4, .int v3, .int (v2 + (cOff σ v3))] σ (zPI fun x2 σ1 => X 2 [some (.ref 32), some (.ref p0), some (.int v2), some (.int (v3 + 1))] [] (zPt σ1 p0 v3 x2))) (post none σ)) : X 2 [some (.ref 32), some (.ref p0), some (.int v2), some (.int v3)] [] σ := zr_X4_planConstant_2 hX p0 v2 v3 σ ⟨fun z1 => sm_offsetOf (zc_I (fun x2 σ1 h3 => sm_put hq_p0 (h3)) (h.1 z1)), fun z2 => (h.2 z2)⟩
end
section
/-! the regions again, with what is pure in its place: printed by wip/whole/sym2.py -/
-- X11_count(0,) depth 1
set_option maxRecDepth 100000 in
set_option maxHeartbeats 4000000 in
theorem zq_X11_count_0 {d : Nat} {post : zPo} {X : zX} (hX : zClosed none (zCall (d + 0)) post nX11_count X) (p0 : Int32) (σ : zS) (h : zIf ((p0 : Int32) = 0) (post (some (.int (σ.1 1 0))) σ) (zIf ((p0 : Int32) = 1) (post (some (.int (σ.1 16 1))) σ) (zIf ((p0 : Int32) = 2) (post (some (.int (σ.1 16 2))) σ) (zIf ((p0 : Int32) = 3) (zIf ((σ.1 9 0 : Int32) = 0) (post (some (.int 0)) σ) (post (some (.int 1)) σ)) (zIf ((p0 : Int32) = 4) (post (some (.int (σ.1 4 7))) σ) (zIf ((p0 : Int32) = 5) (post (some (.int (σ.1 4 0))) σ) (zIf ((p0 : Int32) = 6) (post (some (.int (σ.1 4 1))) σ) (zIf ((p0 : Int32) = 7) (post (some (.int (σ.1 4 4))) σ) (zIf ((p0 : Int32) = 8) (post (some (.int (σ.1 4 5))) σ) (zIf ((p0 : Int32) = 9) (post (some (.int (σ.1 4 6))) σ) (zIf ((p0 : Int32) = 10) (post (some (.int (σ.1 11 0))) σ) (post (some (.int (-2))) σ)))))))))))) : X 0 [some (.ref 0), some (.int p0)] [] σ := zr_X11_count_0 hX p0 σ ⟨fun z23 => (h.1 z23), fun z24 => ⟨fun z21 => ((h.2 z24).1 z21), fun z22 => ⟨fun z19 => (((h.2 z24).2 z22).1 z19), fun z20 => ⟨fun z17 => ((((h.2 z24).2 z22).2 z20).1 z17), fun z18 => ⟨fun z15 => (((((h.2 z24).2 z22).2 z20).2 z18).1 z15), fun z16 => ⟨fun z13 => ((((((h.2 z24).2 z22).2 z20).2 z18).2 z16).1 z13), fun z14 => ⟨fun z11 => (((((((h.2 z24).2 z22).2 z20).2 z18).2 z16).2 z14).1 z11), fun z12 => ⟨fun z9 => ((((((((h.2 z24).2 z22).2 z20).2 z18).2 z16).2 z14).2 z12).1 z9), fun z10 => ⟨fun z7 => (((((((((h.2 z24).2 z22).2 z20).2 z18).2 z16).2 z14).2 z12).2 z10).1 z7), fun z8 => ⟨fun z5 => ((((((((((h.2 z24).2 z22).2 z20).2 z18).2 z16).2 z14).2 z12).2 z10).2 z8).1 z5), fun z6 => ⟨fun z3 => (((((((((((h.2 z24).2 z22).2 z20).2 z18).2 z16).2 z14).2 z12).2 z10).2 z8).2 z6).1 z3), fun z4 => (((((((((((h.2 z24).2 z22).2 z20).2 z18).2 z16).2 z14).2 z12).2 z10).2 z8).2 z6).2 z4)⟩⟩⟩⟩⟩⟩⟩⟩⟩⟩⟩
-- X11_bitsOfScene(0,) depth 3
set_option maxRecDepth 100000 in
set_option maxHeartbeats 4000000 in
theorem zq_X11_bitsOfScene_0 {d : Nat} {post : zPo} {X : zX} (hX : zClosed none (zCall (d + 2)) post nX11_bitsOfScene X) (p0 : Int32) (σ : zS) (h : X 4 [some (.ref 0), some (.int p0), some (.int 0), some (.int 0)] [] σ) : X 0 [some (.ref 0), some (.int p0), none, none] [] σ := zr_X11_bitsOfScene_0 hX p0 σ h
set_option maxRecDepth 100000 in
set_option maxHeartbeats 4000000 in
theorem zq_X11_bitsOfScene_4 {d : Nat} {post : zPo} {X : zX} (hX : zClosed none (zCall (d + 2)) post nX11_bitsOfScene X) (v1 : Int32) (v2 : Int32) (v3 : Int32) (σ : zS) (h : zIf ((v3 : Int32) < (σ.1 1 0)) (zIf ((zAt σ 18 v3 : Int32) = v1) (X 4 [some (.ref 0), some (.int v1), some (.int (v2 + (cBits σ v3 (zAt σ 10 v3)))), some (.int (v3 + 1))] [] σ) (X 4 [some (.ref 0), some (.int v1), some (.int v2), some (.int (v3 + 1))] [] σ)) (post (some (.int v2)) σ)) : X 4 [some (.ref 0), some (.int v1), some (.int v2), some (.int v3)] [] σ := zr_X11_bitsOfScene_4 hX v1 v2 v3 σ ⟨fun z1 => sm_at rfl (⟨fun z3 => sm_at rfl (sm_bitsOf (((h.1 z1).1 z3))), fun z4 => ((h.1 z1).2 z4)⟩), fun z2 => (h.2 z2)⟩
-- X11_meanOfScene(0,) depth 3
set_option maxRecDepth 100000 in
set_option maxHeartbeats 4000000 in
theorem zq_X11_meanOfScene_0 {d : Nat} {post : zPo} {X : zX} (hX : zClosed none (zCall (d + 2)) post nX11_meanOfScene X) (p0 : Int32) (σ : zS) (h : X 4 [some (.ref 0), some (.int p0), some (.int 0), some (.int 0)] [] σ) : X 0 [some (.ref 0), some (.int p0), none, none] [] σ := zr_X11_meanOfScene_0 hX p0 σ h
set_option maxRecDepth 100000 in
set_option maxHeartbeats 4000000 in
theorem zq_X11_meanOfScene_4 {d : Nat} {post : zPo} {X : zX} (hX : zClosed none (zCall (d + 2)) post nX11_meanOfScene X) (v1 : Int32) (v2 : Int32) (v3 : Int32) (σ : zS) (h : zIf ((v3 : Int32) < (σ.1 1 0)) (zIf ((zAt σ 18 v3 : Int32) = v1) (X 4 [some (.ref 0), some (.int v1), some (.int (v2 + (zAt σ 10 v3))), some (.int (v3 + 1))] [] σ) (X 4 [some (.ref 0), some (.int v1), some (.int v2), some (.int (v3 + 1))] [] σ)) (zCall (d + 2) nX3_framesOfScene [.ref 16, .int v1] σ (zPI fun x2 σ1 => post (some (.int (Int64.toInt32 (zRat (Int32.toInt64 (10 * v2)) (Int32.toInt64 x2))))) σ1))) : X 4 [some (.ref 0), some (.int v1), some (.int v2), some (.int v3)] [] σ := zr_X11_meanOfScene_4 hX v1 v2 v3 σ ⟨fun z1 => sm_at rfl (⟨fun z3 => sm_at rfl (((h.1 z1).1 z3)), fun z4 => ((h.1 z1).2 z4)⟩), fun z2 => zc_I (fun x2 σ1 h5 => sm_ratio (h5)) (h.2 z2)⟩
-- X11_scene(0,) depth 4
set_option maxRecDepth 100000 in
set_option maxHeartbeats 4000000 in
theorem zq_X11_scene_0 {d : Nat} {post : zPo} {X : zX} (hX : zClosed none (zCall (d + 3)) post nX11_scene X) (p0 : Int32) (p1 : Int32) (σ : zS) (h : zIf (0 ≤ (p0 : Int32) ∧ p0 ≤ ((σ.1 16 1) - 1)) (zIf (0 ≤ (p1 : Int32) ∧ p1 ≤ 5) (zIf ((σ.1 9 0 : Int32) = 0) (zIf ((p1 : Int32) = 3) (post (some (.int (-3))) σ) (zIf ((p1 : Int32) = 4) (post (some (.int (-3))) σ) (zIf ((p1 : Int32) = 0) (zCall (d + 3) nX3_firstOfScene [.ref 16, .int p0] σ (zPI fun x2 σ1 => post (some (.int x2)) σ1)) (zIf ((p1 : Int32) = 1) (zCall (d + 3) nX3_framesOfScene [.ref 16, .int p0] σ (zPI fun x4 σ3 => post (some (.int x4)) σ3)) (zIf ((p1 : Int32) = 2) (post (some (.int (zAt σ 5 p0))) σ) (zIf ((p1 : Int32) = 3) (zCall (d + 3) nX11_bitsOfScene [.ref 0, .int p0] σ (zPI fun x6 σ5 => post (some (.int x6)) σ5)) (zIf ((p1 : Int32) = 4) (zCall (d + 3) nX11_meanOfScene [.ref 0, .int p0] σ (zPI fun x8 σ7 => post (some (.int x8)) σ7)) (zCall (d + 3) nX3_groupsOfScene [.ref 16, .int p0] σ (zPI fun x10 σ9 => post (some (.int x10)) σ9))))))))) (zIf ((p1 : Int32) = 0) (zCall (d + 3) nX3_firstOfScene [.ref 16, .int p0] σ (zPI fun x12 σ11 => post (some (.int x12)) σ11)) (zIf ((p1 : Int32) = 1) (zCall (d + 3) nX3_framesOfScene [.ref 16, .int p0] σ (zPI fun x14 σ13 => post (some (.int x14)) σ13)) (zIf ((p1 : Int32) = 2) (post (some (.int (zAt σ 5 p0))) σ) (zIf ((p1 : Int32) = 3) (zCall (d + 3) nX11_bitsOfScene [.ref 0, .int p0] σ (zPI fun x16 σ15 => post (some (.int x16)) σ15)) (zIf ((p1 : Int32) = 4) (zCall (d + 3) nX11_meanOfScene [.ref 0, .int p0] σ (zPI fun x18 σ17 => post (some (.int x18)) σ17)) (zCall (d + 3) nX3_groupsOfScene [.ref 16, .int p0] σ (zPI fun x20 σ19 => post (some (.int x20)) σ19)))))))) (post (some (.int (-2))) σ)) (post (some (.int (-2))) σ)) : X 0 [some (.ref 0), some (.int p0), some (.int p1)] [] σ := zr_X11_scene_0 hX p0 p1 σ (sm_within (fun z1 => ⟨fun z => absurd z (by decide), fun _ => sm_within (fun z3 => ⟨fun z => absurd z (by decide), fun _ => ⟨fun z5 => ⟨fun z7 => ((((h.1 z1).1 z3).1 z5).1 z7), fun z8 => ⟨fun z9 => (((((h.1 z1).1 z3).1 z5).2 z8).1 z9), fun z10 => ⟨fun z19 => ((((((h.1 z1).1 z3).1 z5).2 z8).2 z10).1 z19), fun z20 => ⟨fun z17 => (((((((h.1 z1).1 z3).1 z5).2 z8).2 z10).2 z20).1 z17), fun z18 => ⟨fun z15 => sm_at rfl (((((((((h.1 z1).1 z3).1 z5).2 z8).2 z10).2 z20).2 z18).1 z15)), fun z16 => ⟨fun z13 => (((((((((h.1 z1).1 z3).1 z5).2 z8).2 z10).2 z20).2 z18).2 z16).1 z13), fun z14 => ⟨fun z11 => ((((((((((h.1 z1).1 z3).1 z5).2 z8).2 z10).2 z20).2 z18).2 z16).2 z14).1 z11), fun z12 => ((((((((((h.1 z1).1 z3).1 z5).2 z8).2 z10).2 z20).2 z18).2 z16).2 z14).2 z12)⟩⟩⟩⟩⟩⟩⟩, fun z6 => ⟨fun z29 => ((((h.1 z1).1 z3).2 z6).1 z29), fun z30 => ⟨fun z27 => (((((h.1 z1).1 z3).2 z6).2 z30).1 z27), fun z28 => ⟨fun z25 => sm_at rfl (((((((h.1 z1).1 z3).2 z6).2 z30).2 z28).1 z25)), fun z26 => ⟨fun z23 => (((((((h.1 z1).1 z3).2 z6).2 z30).2 z28).2 z26).1 z23), fun z24 => ⟨fun z21 => ((((((((h.1 z1).1 z3).2 z6).2 z30).2 z28).2 z26).2 z24).1 z21), fun z22 => ((((((((h.1 z1).1 z3).2 z6).2 z30).2 z28).2 z26).2 z24).2 z22)⟩⟩⟩⟩⟩⟩⟩) (fun z4 => ⟨fun _ => ((h.1 z1).2 z4), fun z => absurd (by decide) z⟩)⟩) (fun z2 => ⟨fun _ => (h.2 z2), fun z => absurd (by decide) z⟩))
-- X11_arrangeAnew(0,) depth 5
set_option maxRecDepth 100000 in
set_option maxHeartbeats 4000000 in
theorem zq_X11_arrangeAnew_0 {d : Nat} {post : zPo} {X : zX} (hX : zClosed none (zCall (d + 4)) post nX11_arrangeAnew X) (σ : zS) (h : zCall (d + 4) nX3_arrange [.ref 16, .ref 1, .ref 4] (zSI σ 9 0 0) (zPV fun σ1 => post none σ1)) : X 0 [some (.ref 0)] [] σ := zr_X11_arrangeAnew_0 hX  σ h
-- X11_isPicture() depth 2
set_option maxRecDepth 100000 in
set_option maxHeartbeats 4000000 in
theorem zq_X11_isPicture_0 {d : Nat} {post : zPo} {X : zX} (hX : zClosed none (zCall (d + 1)) post nX11_isPicture X) (p0 : Int32) (p1 : Int32) (σ : zS) (h : zIf (1 ≤ (p0 : Int32) ∧ p0 ≤ 4000) (zIf (0 ≤ (p1 : Int32) ∧ p1 ≤ 4000) (post (some (.int 1)) σ) (post (some (.int 0)) σ)) (post (some (.int 0)) σ)) : X 0 [some (.int p0), some (.int p1)] [] σ := zr_X11_isPicture_0 hX p0 p1 σ (sm_within (fun z1 => ⟨fun z => absurd z (by decide), fun _ => sm_within (fun z3 => ⟨fun z => absurd z (by decide), fun _ => ((h.1 z1).1 z3)⟩) (fun z4 => ⟨fun _ => ((h.1 z1).2 z4), fun z => absurd (by decide) z⟩)⟩) (fun z2 => ⟨fun _ => (h.2 z2), fun z => absurd (by decide) z⟩))
-- X11_append(0,) depth 6
set_option maxRecDepth 100000 in
set_option maxHeartbeats 4000000 in
theorem zq_X11_append_0 {d : Nat} {post : zPo} {X : zX} (hX : zClosed none (zCall (d + 5)) post nX11_append X) (p0 : Int32) (p1 : Int32) (σ : zS) (h : zCall (d + 5) nX11_isPicture [.int p0, .int p1] σ (zPI fun x2 σ1 => zIf ((x2 : Int32) = 0) (post (some (.int (-2))) σ1) (zIf ((σ1.1 1 0 : Int32) < 60) (zCall (d + 5) nX0_add [.ref 1, .int p0, .int p1] σ1 (zPV fun σ3 => zCall (d + 5) nX11_arrangeAnew [.ref 0] σ3 (zPV fun σ4 => post (some (.int ((σ4.1 1 0) - 1))) σ4))) (post (some (.int (-4))) σ1)))) : X 0 [some (.ref 0), some (.int p0), some (.int p1)] [] σ := zr_X11_append_0 hX p0 p1 σ h
-- X11_setBridges(0,) depth 6
set_option maxRecDepth 100000 in
set_option maxHeartbeats 4000000 in
theorem zq_X11_setBridges_0 {d : Nat} {post : zPo} {X : zX} (hX : zClosed none (zCall (d + 5)) post nX11_setBridges X) (p0 : Int32) (σ : zS) (h : zIf (0 ≤ (p0 : Int32) ∧ p0 ≤ 3) (zCall (d + 5) nX11_arrangeAnew [.ref 0] (zSI σ 4 1 p0) (zPV fun σ1 => post (some (.int (σ.1 4 1))) σ1)) (post (some (.int (-2))) σ)) : X 0 [some (.ref 0), some (.int p0), none] [] σ := zr_X11_setBridges_0 hX p0 σ (sm_within (fun z1 => ⟨fun z => absurd z (by decide), fun _ => (h.1 z1)⟩) (fun z2 => ⟨fun _ => (h.2 z2), fun z => absurd (by decide) z⟩))
-- X11_setInterval(0,) depth 6
set_option maxRecDepth 100000 in
set_option maxHeartbeats 4000000 in
theorem zq_X11_setInterval_0 {d : Nat} {post : zPo} {X : zX} (hX : zClosed none (zCall (d + 5)) post nX11_setInterval X) (p0 : Int32) (σ : zS) (h : zIf (1 ≤ (p0 : Int32) ∧ p0 ≤ 60) (zCall (d + 5) nX11_arrangeAnew [.ref 0] (zSI σ 4 0 p0) (zPV fun σ1 => post (some (.int (σ.1 4 0))) σ1)) (post (some (.int (-2))) σ)) : X 0 [some (.ref 0), some (.int p0), none] [] σ := zr_X11_setInterval_0 hX p0 σ (sm_within (fun z1 => ⟨fun z => absurd z (by decide), fun _ => (h.1 z1)⟩) (fun z2 => ⟨fun _ => (h.2 z2), fun z => absurd (by decide) z⟩))
-- X11_setWeight(0,) depth 2
set_option maxRecDepth 100000 in
set_option maxHeartbeats 4000000 in
theorem zq_X11_setWeight_0 {d : Nat} {post : zPo} {X : zX} (hX : zClosed none (zCall (d + 1)) post nX11_setWeight X) (p0 : Int32) (p1 : Int32) (σ : zS) (h : zIf (0 ≤ (p0 : Int32) ∧ p0 ≤ 59) (zIf (1 ≤ (p1 : Int32) ∧ p1 ≤ 8) (post (some (.int (zAt σ 5 p0))) (zPt σ 5 p0 p1)) (post (some (.int (-2))) σ)) (post (some (.int (-2))) σ)) : X 0 [some (.ref 0), some (.int p0), some (.int p1), none] [] σ := zr_X11_setWeight_0 hX p0 p1 σ (sm_within (fun z1 => ⟨fun z => absurd z (by decide), fun _ => sm_within (fun z3 => ⟨fun z => absurd z (by decide), fun _ => sm_at rfl (sm_put rfl (((h.1 z1).1 z3)))⟩) (fun z4 => ⟨fun _ => ((h.1 z1).2 z4), fun z => absurd (by decide) z⟩)⟩) (fun z2 => ⟨fun _ => (h.2 z2), fun z => absurd (by decide) z⟩))
-- X11_bitsAt(0,) depth 3
set_option maxRecDepth 100000 in
set_option maxHeartbeats 4000000 in
theorem zq_X11_bitsAt_0 {d : Nat} {post : zPo} {X : zX} (hX : zClosed none (zCall (d + 2)) post nX11_bitsAt X) (p0 : Int32) (p1 : Int32) (σ : zS) (h : zIf (0 ≤ (p0 : Int32) ∧ p0 ≤ (σ.1 1 0) - 1) (zIf (0 ≤ (p1 : Int32) ∧ p1 ≤ 51) (post (some (.int (cBits σ p0 p1))) σ) (post (some (.int (-2))) σ)) (post (some (.int (-2))) σ)) : X 0 [some (.ref 0), some (.int p0), some (.int p1)] [] σ := zr_X11_bitsAt_0 hX p0 p1 σ (sm_isFrame (fun z1 => ⟨fun z => absurd z (by decide), fun _ => sm_isQuantizer (fun z3 => ⟨fun z => absurd z (by decide), fun _ => sm_bitsOf (((h.1 z1).1 z3))⟩) (fun z4 => ⟨fun _ => ((h.1 z1).2 z4), fun z => absurd (by decide) z⟩)⟩) (fun z2 => ⟨fun _ => (h.2 z2), fun z => absurd (by decide) z⟩))
-- X11_coded(0,) depth 3
set_option maxRecDepth 100000 in
set_option maxHeartbeats 4000000 in
theorem zq_X11_coded_0 {d : Nat} {post : zPo} {X : zX} (hX : zClosed none (zCall (d + 2)) post nX11_coded X) (p0 : Int32) (σ : zS) (h : zIf (0 ≤ (p0 : Int32) ∧ p0 ≤ (σ.1 1 0) - 1) (post (some (.int (zAt σ 23 p0))) σ) (post (some (.int (-2))) σ)) : X 0 [some (.ref 0), some (.int p0)] [] σ := zr_X11_coded_0 hX p0 σ (sm_isFrame (fun z1 => ⟨fun z => absurd z (by decide), fun _ => sm_at rfl ((h.1 z1))⟩) (fun z2 => ⟨fun _ => (h.2 z2), fun z => absurd (by decide) z⟩))
-- X11_frame(0,) depth 3
set_option maxRecDepth 100000 in
set_option maxHeartbeats 4000000 in
theorem zq_X11_frame_0 {d : Nat} {post : zPo} {X : zX} (hX : zClosed none (zCall (d + 2)) post nX11_frame X) (p0 : Int32) (p1 : Int32) (σ : zS) (h : zIf (0 ≤ (p0 : Int32) ∧ p0 ≤ (σ.1 1 0) - 1) (zIf (0 ≤ (p1 : Int32) ∧ p1 ≤ 7) (zIf ((p1 : Int32) = 0) (post (some (.int (zAt σ 2 p0))) σ) (zIf ((p1 : Int32) = 1) (post (some (.int (zAt σ 3 p0))) σ) (zIf ((p1 : Int32) = 2) (post (some (.int (zAt σ 17 p0))) σ) (zIf ((p1 : Int32) = 3) (post (some (.int (zAt σ 18 p0))) σ) (zIf ((p1 : Int32) = 4) (post (some (.int (zAt σ 22 p0))) σ) (zIf ((p1 : Int32) = 5) (post (some (.int (zAt σ 21 p0))) σ) (zIf ((p1 : Int32) = 6) (post (some (.int (zAt σ 19 p0))) σ) (post (some (.int (zAt σ 20 p0))) σ)))))))) (post (some (.int (-2))) σ)) (post (some (.int (-2))) σ)) : X 0 [some (.ref 0), some (.int p0), some (.int p1)] [] σ := zr_X11_frame_0 hX p0 p1 σ (sm_isFrame (fun z1 => ⟨fun z => absurd z (by decide), fun _ => sm_within (fun z3 => ⟨fun z => absurd z (by decide), fun _ => ⟨fun z17 => sm_at rfl ((((h.1 z1).1 z3).1 z17)), fun z18 => ⟨fun z15 => sm_at rfl (((((h.1 z1).1 z3).2 z18).1 z15)), fun z16 => ⟨fun z13 => sm_at rfl ((((((h.1 z1).1 z3).2 z18).2 z16).1 z13)), fun z14 => ⟨fun z11 => sm_at rfl (((((((h.1 z1).1 z3).2 z18).2 z16).2 z14).1 z11)), fun z12 => ⟨fun z9 => sm_at rfl ((((((((h.1 z1).1 z3).2 z18).2 z16).2 z14).2 z12).1 z9)), fun z10 => ⟨fun z7 => sm_at rfl (((((((((h.1 z1).1 z3).2 z18).2 z16).2 z14).2 z12).2 z10).1 z7)), fun z8 => ⟨fun z5 => sm_at rfl ((((((((((h.1 z1).1 z3).2 z18).2 z16).2 z14).2 z12).2 z10).2 z8).1 z5)), fun z6 => sm_at rfl ((((((((((h.1 z1).1 z3).2 z18).2 z16).2 z14).2 z12).2 z10).2 z8).2 z6))⟩⟩⟩⟩⟩⟩⟩⟩) (fun z4 => ⟨fun _ => ((h.1 z1).2 z4), fun z => absurd (by decide) z⟩)⟩) (fun z2 => ⟨fun _ => (h.2 z2), fun z => absurd (by decide) z⟩))
-- X11_lossAt(0,) depth 4
set_option maxRecDepth 100000 in
set_option maxHeartbeats 4000000 in
theorem zq_X11_lossAt_0 {d : Nat} {post : zPo} {X : zX} (hX : zClosed none (zCall (d + 3)) post nX11_lossAt X) (p0 : Int32) (p1 : Int32) (σ : zS) (h : zIf (0 ≤ (p0 : Int32) ∧ p0 ≤ (σ.1 1 0) - 1) (zIf (0 ≤ (p1 : Int32) ∧ p1 ≤ 51) (post (some (.int (cLoss σ p0 p1))) σ) (post (some (.int (-2))) σ)) (post (some (.int (-2))) σ)) : X 0 [some (.ref 0), some (.int p0), some (.int p1)] [] σ := zr_X11_lossAt_0 hX p0 p1 σ (sm_isFrame (fun z1 => ⟨fun z => absurd z (by decide), fun _ => sm_isQuantizer (fun z3 => ⟨fun z => absurd z (by decide), fun _ => sm_lossOf (((h.1 z1).1 z3))⟩) (fun z4 => ⟨fun _ => ((h.1 z1).2 z4), fun z => absurd (by decide) z⟩)⟩) (fun z2 => ⟨fun _ => (h.2 z2), fun z => absurd (by decide) z⟩))
-- X11_changesOfPlan(0,) depth 2
set_option maxRecDepth 100000 in
set_option maxHeartbeats 4000000 in
theorem zq_X11_changesOfPlan_0 {d : Nat} {post : zPo} {X : zX} (hX : zClosed none (zCall (d + 1)) post nX11_changesOfPlan X) (σ : zS) (h : X 4 [some (.ref 0), some (.long 0), none, some (.int 1), none] [] σ) : X 0 [some (.ref 0), none, none, none, none] [] σ := zr_X11_changesOfPlan_0 hX  σ h
set_option maxRecDepth 100000 in
set_option maxHeartbeats 4000000 in
theorem zq_X11_changesOfPlan_4 {d : Nat} {post : zPo} {X : zX} (hX : zClosed none (zCall (d + 1)) post nX11_changesOfPlan X) (v1 : Int64) (v3 : Int32) (σ : zS) (h : zIf ((v3 : Int32) < (σ.1 1 0)) (X 4 [some (.ref 0), some (.long (v1 + (Int32.toInt64 (if (0 : Int32) ≤ ((zAt σ 10 (zAt σ 23 v3)) - (zAt σ 10 (zAt σ 23 (v3 - 1)))) then (zAt σ 10 (zAt σ 23 v3)) - (zAt σ 10 (zAt σ 23 (v3 - 1))) else 0 - ((zAt σ 10 (zAt σ 23 v3)) - (zAt σ 10 (zAt σ 23 (v3 - 1)))))))), none, some (.int (v3 + 1)), none] [] σ) (post (some (.long v1)) σ)) : X 4 [some (.ref 0), some (.long v1), none, some (.int v3), none] [] σ := zr_X11_changesOfPlan_4 hX v1 v3 σ ⟨fun z1 => sm_at rfl (sm_at rfl (sm_at rfl (sm_at rfl ((h.1 z1))))), fun z2 => (h.2 z2)⟩
-- X11_underflowsOfNewPlan(0,) depth 6
set_option maxRecDepth 100000 in
set_option maxHeartbeats 4000000 in
theorem zq_X11_underflowsOfNewPlan_0 {d : Nat} {post : zPo} {X : zX} (hX : zClosed none (zCall (d + 5)) post nX11_underflowsOfNewPlan X) (σ : zS) (h : zCall (d + 5) nX1_follow [.ref 26, .ref 10] (zSI σ 9 0 1) (zPV fun σ1 => post (some (.int (σ1.1 26 0))) σ1)) : X 0 [some (.ref 0)] [] σ := zr_X11_underflowsOfNewPlan_0 hX  σ h
-- X11_constant(0,) depth 7
set_option maxRecDepth 100000 in
set_option maxHeartbeats 4000000 in
theorem zq_X11_constant_0 {d : Nat} {post : zPo} {X : zX} (hX : zClosed none (zCall (d + 6)) post nX11_constant X) (p0 : Int32) (σ : zS) (h : zIf (0 ≤ (p0 : Int32) ∧ p0 ≤ 51) (zIf ((σ.1 1 0 : Int32) = 0) (post (some (.int (-3))) σ) (zCall (d + 6) nX4_planConstant [.ref 32, .ref 10, .int p0] σ (zPV fun σ1 => zCall (d + 6) nX11_underflowsOfNewPlan [.ref 0] σ1 (zPI fun x3 σ2 => post (some (.int x3)) σ2)))) (post (some (.int (-2))) σ)) : X 0 [some (.ref 0), some (.int p0)] [] σ := zr_X11_constant_0 hX p0 σ (sm_isQuantizer (fun z1 => ⟨fun z => absurd z (by decide), fun _ => (h.1 z1)⟩) (fun z2 => ⟨fun _ => (h.2 z2), fun z => absurd (by decide) z⟩))
-- X11_drop(0,) depth 6
set_option maxRecDepth 100000 in
set_option maxHeartbeats 4000000 in
theorem zq_X11_drop_0 {d : Nat} {post : zPo} {X : zX} (hX : zClosed none (zCall (d + 5)) post nX11_drop X) (σ : zS) (h : zIf ((σ.1 1 0 : Int32) = 0) (post (some (.int (-3))) σ) (zCall (d + 5) nX11_arrangeAnew [.ref 0] (zSI σ 1 0 ((σ.1 1 0) - 1)) (zPV fun σ1 => post (some (.int (σ1.1 1 0))) σ1))) : X 0 [some (.ref 0)] [] σ := zr_X11_drop_0 hX  σ h
-- X11_followedFrame(0,) depth 4
set_option maxRecDepth 100000 in
set_option maxHeartbeats 4000000 in
theorem zq_X11_followedFrame_0 {d : Nat} {post : zPo} {X : zX} (hX : zClosed none (zCall (d + 3)) post nX11_followedFrame X) (p0 : Int32) (p1 : Int32) (σ : zS) (h : zIf ((p1 : Int32) = 0) (post (some (.int (zAt σ 10 p0))) σ) (zIf ((p1 : Int32) = 1) (post (some (.int (zAt σ 27 (zAt σ 22 p0)))) σ) (zIf ((p1 : Int32) = 2) (post (some (.int (cLoss σ p0 (zAt σ 10 p0)))) σ) (zIf ((p1 : Int32) = 3) (post (some (.int (zAt σ 28 (zAt σ 22 p0)))) σ) (zIf ((p1 : Int32) = 4) (post (some (.int (zAt σ 29 (zAt σ 22 p0)))) σ) (zIf ((p1 : Int32) = 5) (post (some (.int (zAt σ 30 (zAt σ 22 p0)))) σ) (post (some (.int (zAt σ 31 (zAt σ 22 p0)))) σ))))))) : X 0 [some (.ref 0), some (.int p0), some (.int p1), none, none] [] σ := zr_X11_followedFrame_0 hX p0 p1 σ (sm_at rfl (sm_at rfl (⟨fun z11 => (h.1 z11), fun z12 => ⟨fun z9 => sm_at rfl (((h.2 z12).1 z9)), fun z10 => ⟨fun z7 => sm_lossOf ((((h.2 z12).2 z10).1 z7)), fun z8 => ⟨fun z5 => sm_at rfl (((((h.2 z12).2 z10).2 z8).1 z5)), fun z6 => ⟨fun z3 => sm_at rfl ((((((h.2 z12).2 z10).2 z8).2 z6).1 z3)), fun z4 => ⟨fun z1 => sm_at rfl (((((((h.2 z12).2 z10).2 z8).2 z6).2 z4).1 z1)), fun z2 => sm_at rfl (((((((h.2 z12).2 z10).2 z8).2 z6).2 z4).2 z2))⟩⟩⟩⟩⟩⟩)))
-- X11_followedTotal(0,) depth 5
set_option maxRecDepth 100000 in
set_option maxHeartbeats 4000000 in
theorem zq_X11_followedTotal_0 {d : Nat} {post : zPo} {X : zX} (hX : zClosed none (zCall (d + 4)) post nX11_followedTotal X) (p0 : Int32) (σ : zS) (h : zIf ((p0 : Int32) = 4) (post (some (.long (Int32.toInt64 (σ.1 26 0)))) σ) (zIf ((p0 : Int32) = 6) (zCall (d + 4) nX11_changesOfPlan [.ref 0] σ (zPJ fun x2 σ1 => post (some (.long x2)) σ1)) (X 30 [some (.ref 0), some (.int p0), some (.long 0), none, some (.int 0)] [] σ))) : X 0 [some (.ref 0), some (.int p0), none, none, none] [] σ := zr_X11_followedTotal_0 hX p0 σ h
set_option maxRecDepth 100000 in
set_option maxHeartbeats 4000000 in
theorem zq_X11_followedTotal_30 {d : Nat} {post : zPo} {X : zX} (hX : zClosed none (zCall (d + 4)) post nX11_followedTotal X) (v1 : Int32) (v2 : Int64) (v4 : Int32) (σ : zS) (h : zIf ((v4 : Int32) < (σ.1 1 0)) (zIf ((v1 : Int32) = 0) (zCall (d + 4) nX11_followedFrame [.ref 0, .int v4, .int 1] σ (zPI fun x2 σ1 => X 30 [some (.ref 0), some (.int v1), some (.long (v2 + (Int32.toInt64 x2))), none, some (.int (v4 + 1))] [] σ1)) (zIf ((v1 : Int32) = 1) (zCall (d + 4) nX11_followedFrame [.ref 0, .int v4, .int 2] σ (zPI fun x4 σ3 => X 30 [some (.ref 0), some (.int v1), some (.long (v2 + (Int32.toInt64 x4))), none, some (.int (v4 + 1))] [] σ3)) (zIf ((v1 : Int32) = 2) (zCall (d + 4) nX11_followedFrame [.ref 0, .int v4, .int 5] σ (zPI fun x6 σ5 => X 30 [some (.ref 0), some (.int v1), some (.long (v2 + (Int32.toInt64 x6))), none, some (.int (v4 + 1))] [] σ5)) (zIf ((v1 : Int32) = 3) (zCall (d + 4) nX11_followedFrame [.ref 0, .int v4, .int 6] σ (zPI fun x8 σ7 => X 30 [some (.ref 0), some (.int v1), some (.long (v2 + (Int32.toInt64 x8))), none, some (.int (v4 + 1))] [] σ7)) (zCall (d + 4) nX11_followedFrame [.ref 0, .int v4, .int 0] σ (zPI fun x10 σ9 => X 30 [some (.ref 0), some (.int v1), some (.long (v2 + (Int32.toInt64 x10))), none, some (.int (v4 + 1))] [] σ9)))))) (post (some (.long v2)) σ)) : X 30 [some (.ref 0), some (.int v1), some (.long v2), none, some (.int v4)] [] σ := zr_X11_followedTotal_30 hX v1 v2 v4 σ ⟨fun z1 => ⟨fun z9 => ((h.1 z1).1 z9), fun z10 => ⟨fun z7 => (((h.1 z1).2 z10).1 z7), fun z8 => ⟨fun z5 => ((((h.1 z1).2 z10).2 z8).1 z5), fun z6 => ⟨fun z3 => (((((h.1 z1).2 z10).2 z8).2 z6).1 z3), fun z4 => (((((h.1 z1).2 z10).2 z8).2 z6).2 z4)⟩⟩⟩⟩, fun z2 => (h.2 z2)⟩
-- X11_planned(0,) depth 6
set_option maxRecDepth 100000 in
set_option maxHeartbeats 4000000 in
theorem zq_X11_planned_0 {d : Nat} {post : zPo} {X : zX} (hX : zClosed none (zCall (d + 5)) post nX11_planned X) (p0 : Int32) (p1 : Int32) (σ : zS) (h : zIf (0 ≤ (p0 : Int32) ∧ p0 ≤ (σ.1 1 0) - 1) (zIf (0 ≤ (p1 : Int32) ∧ p1 ≤ 6) (zIf ((σ.1 9 0 : Int32) = 0) (post (some (.int (-3))) σ) (zCall (d + 5) nX1_follow [.ref 26, .ref 10] σ (zPV fun σ1 => zCall (d + 5) nX11_followedFrame [.ref 0, .int p0, .int p1] σ1 (zPI fun x3 σ2 => post (some (.int x3)) σ2)))) (post (some (.int (-2))) σ)) (post (some (.int (-2))) σ)) : X 0 [some (.ref 0), some (.int p0), some (.int p1)] [] σ := zr_X11_planned_0 hX p0 p1 σ (sm_isFrame (fun z1 => ⟨fun z => absurd z (by decide), fun _ => sm_within (fun z3 => ⟨fun z => absurd z (by decide), fun _ => ((h.1 z1).1 z3)⟩) (fun z4 => ⟨fun _ => ((h.1 z1).2 z4), fun z => absurd (by decide) z⟩)⟩) (fun z2 => ⟨fun _ => (h.2 z2), fun z => absurd (by decide) z⟩))
-- X11_set(0,) depth 6
set_option maxRecDepth 100000 in
set_option maxHeartbeats 4000000 in
theorem zq_X11_set_0 {d : Nat} {post : zPo} {X : zX} (hX : zClosed none (zCall (d + 5)) post nX11_set X) (p0 : Int32) (p1 : Int32) (p2 : Int32) (σ : zS) (h : zIf (0 ≤ (p0 : Int32) ∧ p0 ≤ (σ.1 1 0) - 1) (zCall (d + 5) nX11_isPicture [.int p1, .int p2] σ (zPI fun x2 σ1 => zIf ((x2 : Int32) = 0) (post (some (.int (-2))) σ1) (zCall (d + 5) nX11_arrangeAnew [.ref 0] (zPt (zPt σ1 2 p0 p1) 3 p0 p2) (zPV fun σ3 => zIf (cCut σ3 p0) (post (some (.int 1)) σ3) (post (some (.int 0)) σ3))))) (post (some (.int (-2))) σ)) : X 0 [some (.ref 0), some (.int p0), some (.int p1), some (.int p2)] [] σ := zr_X11_set_0 hX p0 p1 p2 σ (sm_isFrame (fun z1 => ⟨fun z => absurd z (by decide), fun _ => zc_I (fun x2 σ1 h7 => ⟨fun z3 => (h7.1 z3), fun z4 => sm_put rfl (sm_put rfl (zc_V (fun σ3 h8 => sm_isCut (fun z5 => ⟨fun z => absurd z (by decide), fun _ => (h8.1 z5)⟩) (fun z6 => ⟨fun _ => (h8.2 z6), fun z => absurd (by decide) z⟩)) (h7.2 z4)))⟩) (h.1 z1)⟩) (fun z2 => ⟨fun _ => (h.2 z2), fun z => absurd (by decide) z⟩))
-- X11_total(0,) depth 6
set_option maxRecDepth 100000 in
set_option maxHeartbeats 4000000 in
theorem zq_X11_total_0 {d : Nat} {post : zPo} {X : zX} (hX : zClosed none (zCall (d + 5)) post nX11_total X) (p0 : Int32) (σ : zS) (h : zIf (0 ≤ (p0 : Int32) ∧ p0 ≤ 6) (zIf ((σ.1 9 0 : Int32) = 0) (post (some (.long (-3))) σ) (zCall (d + 5) nX1_follow [.ref 26, .ref 10] σ (zPV fun σ1 => zCall (d + 5) nX11_followedTotal [.ref 0, .int p0] σ1 (zPJ fun x3 σ2 => post (some (.long x3)) σ2)))) (post (some (.long (-2))) σ)) : X 0 [some (.ref 0), some (.int p0)] [] σ := zr_X11_total_0 hX p0 σ (sm_within (fun z1 => ⟨fun z => absurd z (by decide), fun _ => (h.1 z1)⟩) (fun z2 => ⟨fun _ => (h.2 z2), fun z => absurd (by decide) z⟩))
end
section
/-! the regions again, with what is pure in its place: printed by wip/whole/sym2.py -/
-- L_isCut(63,) depth 1
set_option maxRecDepth 100000 in
set_option maxHeartbeats 4000000 in
theorem zq_L_isCut_0 {d : Nat} {post : zPo} {X : zX} (hX : zClosed none (zCall (d + 0)) post nL_isCut X) (p1 : Int32) (σ : zS) (h : zIf ((p1 : Int32) ≤ 0) (post (some (.int 0)) σ) (vp_in (18 + p1) (zN 63) ∧ (vp_in p1 (zN 63) ∧ (zIf ((2 * (σ.1 63 (Int32.toNatClampNeg (18 + p1))) : Int32) ≤ (3 * (σ.1 63 (Int32.toNatClampNeg p1)))) (post (some (.int 0)) σ) (post (some (.int 1)) σ))))) : X 0 [some (.ref 63), some (.int p1)] [] σ := zr_L_isCut_0 hX p1 σ h
-- L_sceneOf(63,) depth 2
set_option maxRecDepth 100000 in
set_option maxHeartbeats 4000000 in
theorem zq_L_sceneOf_0 {d : Nat} {post : zPo} {X : zX} (hX : zClosed none (zCall (d + 1)) post nL_sceneOf X) (p1 : Int32) (σ : zS) (h : X 4 [some (.ref 63), some (.int p1), some (.int 0), some (.int 1)] [] σ) : X 0 [some (.ref 63), some (.int p1), none, none] [] σ := zr_L_sceneOf_0 hX p1 σ h
set_option maxRecDepth 100000 in
set_option maxHeartbeats 4000000 in
theorem zq_L_sceneOf_4 {d : Nat} {post : zPo} {X : zX} (hX : zClosed none (zCall (d + 1)) post nL_sceneOf X) (v1 : Int32) (v2 : Int32) (v3 : Int32) (σ : zS) (h : zIf ((v3 : Int32) ≤ v1) (zCall (d + 1) nL_isCut [.ref 63, .int v3] σ (zPI fun x2 σ1 => zIf ((x2 : Int32) = 0) (X 4 [some (.ref 63), some (.int v1), some (.int (v2 + 0)), some (.int (v3 + 1))] [] σ1) (X 4 [some (.ref 63), some (.int v1), some (.int (v2 + 1)), some (.int (v3 + 1))] [] σ1))) (post (some (.int v2)) σ)) : X 4 [some (.ref 63), some (.int v1), some (.int v2), some (.int v3)] [] σ := zr_L_sceneOf_4 hX v1 v2 v3 σ h
-- L_groupOf(63,) depth 2
set_option maxRecDepth 100000 in
set_option maxHeartbeats 4000000 in
theorem zq_L_groupOf_0 {d : Nat} {post : zPo} {X : zX} (hX : zClosed none (zCall (d + 1)) post nL_groupOf X) (p1 : Int32) (σ : zS) (h : X 4 [some (.ref 63), some (.int p1), some (.int 0), some (.int 1)] [] σ) : X 0 [some (.ref 63), some (.int p1), none, none] [] σ := zr_L_groupOf_0 hX p1 σ h
set_option maxRecDepth 100000 in
set_option maxHeartbeats 4000000 in
theorem zq_L_groupOf_4 {d : Nat} {post : zPo} {X : zX} (hX : zClosed none (zCall (d + 1)) post nL_groupOf X) (v1 : Int32) (v2 : Int32) (v3 : Int32) (σ : zS) (h : zIf ((v3 : Int32) ≤ v1) (zCall (d + 1) nL_isCut [.ref 63, .int v3] σ (zPI fun x2 σ1 => zIf ((x2 : Int32) = 0) (zIf ((v3 : Int32) = (v2 + (σ1.1 63 37))) (X 4 [some (.ref 63), some (.int v1), some (.int v3), some (.int (v3 + 1))] [] σ1) (X 4 [some (.ref 63), some (.int v1), some (.int v2), some (.int (v3 + 1))] [] σ1)) (X 4 [some (.ref 63), some (.int v1), some (.int v3), some (.int (v3 + 1))] [] σ1))) (post (some (.int v2)) σ)) : X 4 [some (.ref 63), some (.int v1), some (.int v2), some (.int v3)] [] σ := zr_L_groupOf_4 hX v1 v2 v3 σ ⟨fun z1 => zc_I (fun x2 σ1 h7 => ⟨fun z3 => ⟨vin_of (by decide) (by decide) (by decide), (h7.1 z3)⟩, fun z4 => (h7.2 z4)⟩) (h.1 z1), fun z2 => (h.2 z2)⟩
-- L_type(63,) depth 3
set_option maxRecDepth 100000 in
set_option maxHeartbeats 4000000 in
theorem zq_L_type_0 {d : Nat} {post : zPo} {X : zX} (hX : zClosed none (zCall (d + 2)) post nL_type X) (p1 : Int32) (σ : zS) (h : zCall (d + 2) nL_groupOf [.ref 63, .int p1] σ (zPI fun x2 σ1 => zIf ((p1 : Int32) = x2) (post (some (.int 0)) σ1) (zIf ((p1 + 1 : Int32) = (σ1.1 63 36)) (post (some (.int 1)) σ1) (zCall (d + 2) nL_groupOf [.ref 63, .int (p1 + 1)] σ1 (zPI fun x4 σ3 => zIf ((x4 : Int32) = x2) (¬ ((σ3.1 63 38) + 1 : Int32) = 0 ∧ (zIf (((p1 - x2) - (p1 - x2) / ((σ3.1 63 38) + 1) * ((σ3.1 63 38) + 1) : Int32) = 0) (post (some (.int 1)) σ3) (post (some (.int 2)) σ3))) (post (some (.int 1)) σ3)))))) : X 0 [some (.ref 63), some (.int p1), none, none] [] σ := zr_L_type_0 hX p1 σ (zc_I (fun x2 σ1 h9 => ⟨fun z1 => (h9.1 z1), fun z2 => ⟨vin_of (by decide) (by decide) (by decide), ⟨fun z3 => zr_L_type_34 hX p1 x2 σ1 (zr_L_type_39 hX p1 x2 1 σ1 (⟨fun z => absurd z (by decide), fun _ => zr_L_type_57 hX  σ1 (zr_L_type_62 hX 1 σ1 (((h9.2 z2).1 z3)))⟩)), fun z4 => zc_I (fun x4 σ3 h10 => ⟨fun z5 => zr_L_type_38 hX p1 x2 σ3 (zr_L_type_39 hX p1 x2 0 σ3 (⟨fun _ => ⟨vin_of (by decide) (by decide) (by decide), ⟨(h10.1 z5).1, ⟨fun z7 => zr_L_type_57 hX  σ3 (zr_L_type_62 hX 1 σ3 (((h10.1 z5).2.1 z7))), fun z8 => zr_L_type_61 hX  σ3 (zr_L_type_62 hX 2 σ3 (((h10.1 z5).2.2 z8)))⟩⟩⟩, fun z => absurd (by decide) z⟩)), fun z6 => zr_L_type_34 hX p1 x2 σ3 (zr_L_type_39 hX p1 x2 1 σ3 (⟨fun z => absurd z (by decide), fun _ => zr_L_type_57 hX  σ3 (zr_L_type_62 hX 1 σ3 ((h10.2 z6)))⟩))⟩) ((h9.2 z2).2 z4)⟩⟩⟩) h)
-- L_areScenes(0, 63) depth 5
set_option maxRecDepth 100000 in
set_option maxHeartbeats 4000000 in
theorem zq_L_areScenes_0 {d : Nat} {post : zPo} {X : zX} (hX : zClosed none (zCall (d + 4)) post nL_areScenes X) (σ : zS) (h : zCall (d + 4) nL_sceneOf [.ref 63, .int ((σ.1 63 36) - 1)] σ (zPI fun x2 σ1 => X 18 [some (.ref 0), some (.ref 63), some (.int (x2 + 1)), some (.int 0), some (.int 0), none, none, none, none, none] [] σ1)) : X 0 [some (.ref 0), some (.ref 63), none, none, none, none, none, none, none, none] [] σ := zr_L_areScenes_0 hX  σ ⟨vin_of (by decide) (by decide) (by decide), h⟩
set_option maxRecDepth 100000 in
set_option maxHeartbeats 4000000 in
theorem zq_L_areScenes_18 {d : Nat} {post : zPo} {X : zX} (hX : zClosed none (zCall (d + 4)) post nL_areScenes X) (v2 : Int32) (v3 : Int32) (v4 : Int32) (σ : zS) (h : zIf ((v4 : Int32) < (σ.1 63 36)) (zCall (d + 4) nL_type [.ref 63, .int v4] σ (zPI fun x2 σ1 => zIf ((x2 : Int32) = 0) (X 18 [some (.ref 0), some (.ref 63), some (.int v2), some (.int (v3 + 1)), some (.int (v4 + 1)), none, none, none, none, none] [] σ1) (X 18 [some (.ref 0), some (.ref 63), some (.int v2), some (.int (v3 + 0)), some (.int (v4 + 1)), none, none, none, none, none] [] σ1))) (X 53 [some (.ref 0), some (.ref 63), some (.int v2), some (.int v3), some (.int 0), none, none, none, none, none] [] σ)) : X 18 [some (.ref 0), some (.ref 63), some (.int v2), some (.int v3), some (.int v4), none, none, none, none, none] [] σ := zr_L_areScenes_18 hX v2 v3 v4 σ ⟨vin_of (by decide) (by decide) (by decide), ⟨fun z1 => zc_I (fun x2 σ1 h5 => ⟨fun z3 => zr_L_areScenes_42 hX v2 v4 1 v3 σ1 ((h5.1 z3)), fun z4 => zr_L_areScenes_42 hX v2 v4 0 v3 σ1 ((h5.2 z4))⟩) (h.1 z1), fun z2 => zr_L_areScenes_50 hX v2 v3 σ ((h.2 z2))⟩⟩
set_option maxRecDepth 100000 in
set_option maxHeartbeats 4000000 in
theorem zq_L_areScenes_53 {d : Nat} {post : zPo} {X : zX} (hX : zClosed none (zCall (d + 4)) post nL_areScenes X) (v2 : Int32) (v3 : Int32) (v4 : Int32) (σ : zS) (h : zIf ((v4 : Int32) < v2) (X 76 [some (.ref 0), some (.ref 63), some (.int v2), some (.int v3), some (.int v4), some (.int (-1)), some (.int 0), some (.int 0), some (.int ((σ.1 63 36) - 1)), none] [] σ) (zCall (d + 4) nX11_count [.ref 0, .int 0] σ (zPI fun x2 σ1 => zIf ((x2 : Int32) = (σ1.1 63 36)) (zCall (d + 4) nX11_count [.ref 0, .int 1] σ1 (zPI fun x4 σ3 => zIf ((x4 : Int32) = v2) (zCall (d + 4) nX11_count [.ref 0, .int 2] σ3 (zPI fun x6 σ5 => zIf ((x6 : Int32) = v3) (zCall (d + 4) nX11_scene [.ref 0, .int v2, .int 0] σ5 (zPI fun x8 σ7 => zIf ((x8 : Int32) = (-2)) (post (some (.int 1)) σ7) (post (some (.int 0)) σ7))) (post (some (.int 0)) σ5))) (post (some (.int 0)) σ3))) (post (some (.int 0)) σ1)))) : X 53 [some (.ref 0), some (.ref 63), some (.int v2), some (.int v3), some (.int v4), none, none, none, none, none] [] σ := zr_L_areScenes_53 hX v2 v3 v4 σ ⟨fun z1 => ⟨vin_of (by decide) (by decide) (by decide), (h.1 z1)⟩, fun z2 => zr_L_areScenes_231 hX v2 v3 σ (zc_I (fun x2 σ1 h11 => ⟨vin_of (by decide) (by decide) (by decide), ⟨fun z3 => zc_I (fun x4 σ3 h12 => ⟨fun z5 => zc_I (fun x6 σ5 h13 => ⟨fun z7 => zc_I (fun x8 σ7 h14 => ⟨fun z9 => zr_L_areScenes_277 hX 1 σ7 ((h14.1 z9)), fun z10 => zr_L_areScenes_276 hX  σ7 (zr_L_areScenes_277 hX 0 σ7 ((h14.2 z10)))⟩) (h13.1 z7), fun z8 => zr_L_areScenes_276 hX  σ5 (zr_L_areScenes_277 hX 0 σ5 ((h13.2 z8)))⟩) (h12.1 z5), fun z6 => zr_L_areScenes_276 hX  σ3 (zr_L_areScenes_277 hX 0 σ3 ((h12.2 z6)))⟩) (h11.1 z3), fun z4 => zr_L_areScenes_276 hX  σ1 (zr_L_areScenes_277 hX 0 σ1 ((h11.2 z4)))⟩⟩) (h.2 z2))⟩
set_option maxRecDepth 100000 in
set_option maxHeartbeats 4000000 in
theorem zq_L_areScenes_76 {d : Nat} {post : zPo} {X : zX} (hX : zClosed none (zCall (d + 4)) post nL_areScenes X) (v2 : Int32) (v3 : Int32) (v4 : Int32) (v5 : Int32) (v6 : Int32) (v7 : Int32) (v8 : Int32) (σ : zS) (h : zIf ((v8 : Int32) < 0) (zCall (d + 4) nX11_scene [.ref 0, .int v4, .int 0] σ (zPI fun x2 σ1 => zIf ((x2 : Int32) = v5) (zCall (d + 4) nX11_scene [.ref 0, .int v4, .int 1] σ1 (zPI fun x4 σ3 => zIf ((x4 : Int32) = v6) (zCall (d + 4) nX11_scene [.ref 0, .int v4, .int 2] σ3 (zPI fun x6 σ5 => vp_in (40 + v4) (zN 63) ∧ (zIf ((x6 : Int32) = (σ5.1 63 (Int32.toNatClampNeg (40 + v4)))) (zCall (d + 4) nX11_scene [.ref 0, .int v4, .int 5] σ5 (zPI fun x8 σ7 => zIf ((x8 : Int32) = v7) (zCall (d + 4) nX11_scene [.ref 0, .int v4, .int 3] σ7 (zPI fun x10 σ9 => zIf ((x10 : Int32) = (-3)) (X 53 [some (.ref 0), some (.ref 63), some (.int v2), some (.int v3), some (.int (v4 + 1)), none, none, none, none, none] [] σ9) (post (some (.int 0)) σ9))) (post (some (.int 0)) σ7))) (post (some (.int 0)) σ5)))) (post (some (.int 0)) σ3))) (post (some (.int 0)) σ1))) (zCall (d + 4) nL_sceneOf [.ref 63, .int v8] σ (zPI fun x12 σ11 => zIf ((x12 : Int32) = v4) (zCall (d + 4) nL_type [.ref 63, .int v8] σ11 (zPI fun x14 σ13 => zIf ((x14 : Int32) = 0) (X 76 [some (.ref 0), some (.ref 63), some (.int v2), some (.int v3), some (.int v4), some (.int v8), some (.int (v6 + 1)), some (.int (v7 + 1)), some (.int (v8 + (-1))), none] [] σ13) (X 76 [some (.ref 0), some (.ref 63), some (.int v2), some (.int v3), some (.int v4), some (.int v8), some (.int (v6 + 1)), some (.int (v7 + 0)), some (.int (v8 + (-1))), none] [] σ13))) (X 76 [some (.ref 0), some (.ref 63), some (.int v2), some (.int v3), some (.int v4), some (.int v5), some (.int (v6 + 0)), some (.int (v7 + 0)), some (.int (v8 + (-1))), none] [] σ11)))) : X 76 [some (.ref 0), some (.ref 63), some (.int v2), some (.int v3), some (.int v4), some (.int v5), some (.int v6), some (.int v7), some (.int v8), none] [] σ := zr_L_areScenes_76 hX v2 v3 v4 v5 v6 v7 v8 σ ⟨fun z1 => zr_L_areScenes_158 hX v2 v3 v4 v5 v6 v7 σ (zc_I (fun x2 σ1 h17 => ⟨fun z3 => zc_I (fun x4 σ3 h18 => ⟨fun z5 => zc_I (fun x6 σ5 h19 => ⟨h19.1, ⟨fun z7 => zc_I (fun x8 σ7 h20 => ⟨fun z9 => zc_I (fun x10 σ9 h21 => ⟨fun z11 => zr_L_areScenes_225 hX v2 v3 v4 σ9 ((h21.1 z11)), fun z12 => zr_L_areScenes_223 hX  σ9 ((h21.2 z12))⟩) (h20.1 z9), fun z10 => zr_L_areScenes_223 hX  σ7 ((h20.2 z10))⟩) (h19.2.1 z7), fun z8 => zr_L_areScenes_223 hX  σ5 ((h19.2.2 z8))⟩⟩) (h18.1 z5), fun z6 => zr_L_areScenes_223 hX  σ3 ((h18.2 z6))⟩) (h17.1 z3), fun z4 => zr_L_areScenes_223 hX  σ1 ((h17.2 z4))⟩) (h.1 z1)), fun z2 => zc_I (fun x12 σ11 h22 => ⟨fun z13 => zr_L_areScenes_97 hX v2 v3 v4 v5 v6 v7 v8 1 σ11 (⟨fun z => absurd z (by decide), fun _ => zr_L_areScenes_111 hX v2 v3 v4 v6 v7 v8 1 v8 σ11 (⟨fun z => absurd z (by decide), fun _ => zr_L_areScenes_125 hX v2 v3 v4 v8 v7 v8 1 1 v6 σ11 (⟨fun z => absurd z (by decide), fun _ => zc_I (fun x14 σ13 h23 => ⟨fun z15 => zr_L_areScenes_149 hX v2 v3 v4 v8 (v6 + 1) v8 1 v7 σ13 ((h23.1 z15)), fun z16 => zr_L_areScenes_148 hX v2 v3 v4 v8 (v6 + 1) v8 v7 σ13 (zr_L_areScenes_149 hX v2 v3 v4 v8 (v6 + 1) v8 0 v7 σ13 ((h23.2 z16)))⟩) (h22.1 z13)⟩)⟩)⟩), fun z14 => zr_L_areScenes_97 hX v2 v3 v4 v5 v6 v7 v8 0 σ11 (⟨fun _ => zr_L_areScenes_111 hX v2 v3 v4 v6 v7 v8 0 v5 σ11 (⟨fun _ => zr_L_areScenes_125 hX v2 v3 v4 v5 v7 v8 0 0 v6 σ11 (⟨fun _ => zr_L_areScenes_148 hX v2 v3 v4 v5 (v6 + 0) v8 v7 σ11 (zr_L_areScenes_149 hX v2 v3 v4 v5 (v6 + 0) v8 0 v7 σ11 ((h22.2 z14))), fun z => absurd (by decide) z⟩), fun z => absurd (by decide) z⟩), fun z => absurd (by decide) z⟩)⟩) (h.2 z2)⟩
-- L_step() depth 1
set_option maxRecDepth 100000 in
set_option maxHeartbeats 4000000 in
theorem zq_L_step_0 {d : Nat} {post : zPo} {X : zX} (hX : zClosed none (zCall (d + 0)) post nL_step X) (p0 : Int32) (σ : zS) (h : zIf ((p0 - p0 / 6 * 6 : Int32) = 0) (post (some (.int (10 <<< (((p0 / 6) : Int32) &&& 31)))) σ) (zIf ((p0 - p0 / 6 * 6 : Int32) = 1) (post (some (.int (11 <<< (((p0 / 6) : Int32) &&& 31)))) σ) (zIf ((p0 - p0 / 6 * 6 : Int32) = 2) (post (some (.int (13 <<< (((p0 / 6) : Int32) &&& 31)))) σ) (zIf ((p0 - p0 / 6 * 6 : Int32) = 3) (post (some (.int (14 <<< (((p0 / 6) : Int32) &&& 31)))) σ) (zIf ((p0 - p0 / 6 * 6 : Int32) = 4) (post (some (.int (16 <<< (((p0 / 6) : Int32) &&& 31)))) σ) (post (some (.int (18 <<< (((p0 / 6) : Int32) &&& 31)))) σ)))))) : X 0 [some (.int p0), none] [] σ := zr_L_step_0 hX p0 σ ⟨(by decide), ⟨fun z1 => ⟨(by decide), (h.1 z1)⟩, fun z2 => ⟨(by decide), ⟨fun z3 => ⟨(by decide), ((h.2 z2).1 z3)⟩, fun z4 => ⟨(by decide), ⟨fun z5 => ⟨(by decide), (((h.2 z2).2 z4).1 z5)⟩, fun z6 => ⟨(by decide), ⟨fun z7 => ⟨(by decide), ((((h.2 z2).2 z4).2 z6).1 z7)⟩, fun z8 => ⟨(by decide), ⟨fun z9 => ⟨(by decide), (((((h.2 z2).2 z4).2 z6).2 z8).1 z9)⟩, fun z10 => ⟨(by decide), (((((h.2 z2).2 z4).2 z6).2 z8).2 z10)⟩⟩⟩⟩⟩⟩⟩⟩⟩⟩⟩
-- L_work(63,) depth 4
set_option maxRecDepth 100000 in
set_option maxHeartbeats 4000000 in
theorem zq_L_work_0 {d : Nat} {post : zPo} {X : zX} (hX : zClosed none (zCall (d + 3)) post nL_work X) (p1 : Int32) (σ : zS) (h : zCall (d + 3) nL_type [.ref 63, .int p1] σ (zPI fun x2 σ1 => zIf ((x2 : Int32) = 0) (vp_in p1 (zN 63) ∧ (post (some (.int (4 * (σ1.1 63 (Int32.toNatClampNeg p1))))) σ1)) (zIf ((x2 : Int32) = 1) (vp_in p1 (zN 63) ∧ (vp_in (18 + p1) (zN 63) ∧ (post (some (.int ((σ1.1 63 (Int32.toNatClampNeg p1)) + (2 * (σ1.1 63 (Int32.toNatClampNeg (18 + p1))))))) σ1))) (vp_in p1 (zN 63) ∧ (vp_in (18 + p1) (zN 63) ∧ (post (some (.int (((σ1.1 63 (Int32.toNatClampNeg p1)) / 2) + (σ1.1 63 (Int32.toNatClampNeg (18 + p1)))))) σ1)))))) : X 0 [some (.ref 63), some (.int p1), none] [] σ := zr_L_work_0 hX p1 σ (zc_I (fun x2 σ1 h5 => ⟨fun z1 => (h5.1 z1), fun z2 => ⟨fun z3 => ((h5.2 z2).1 z3), fun z4 => ⟨((h5.2 z2).2 z4).1, ⟨(by decide), ((h5.2 z2).2 z4).2⟩⟩⟩⟩) h)
-- L_bits(63,) depth 5
set_option maxRecDepth 100000 in
set_option maxHeartbeats 4000000 in
theorem zq_L_bits_0 {d : Nat} {post : zPo} {X : zX} (hX : zClosed none (zCall (d + 4)) post nL_bits X) (p1 : Int32) (p2 : Int32) (σ : zS) (h : zCall (d + 4) nL_work [.ref 63, .int p1] σ (zPI fun x2 σ1 => zCall (d + 4) nL_step [.int p2] σ1 (zPI fun x4 σ3 => ¬ (x4 : Int32) = 0 ∧ (post (some (.int (40 + ((200 * x2) / x4)))) σ3)))) : X 0 [some (.ref 63), some (.int p1), some (.int p2)] [] σ := zr_L_bits_0 hX p1 p2 σ h
-- L_bridgesBefore(63,) depth 4
set_option maxRecDepth 100000 in
set_option maxHeartbeats 4000000 in
theorem zq_L_bridgesBefore_0 {d : Nat} {post : zPo} {X : zX} (hX : zClosed none (zCall (d + 3)) post nL_bridgesBefore X) (p1 : Int32) (σ : zS) (h : X 2 [some (.ref 63), some (.int p1), some (.int 0)] [] σ) : X 0 [some (.ref 63), some (.int p1), none] [] σ := zr_L_bridgesBefore_0 hX p1 σ h
set_option maxRecDepth 100000 in
set_option maxHeartbeats 4000000 in
theorem zq_L_bridgesBefore_2 {d : Nat} {post : zPo} {X : zX} (hX : zClosed none (zCall (d + 3)) post nL_bridgesBefore X) (v1 : Int32) (v2 : Int32) (σ : zS) (h : zIf ((v1 - v2 : Int32) ≤ 0) (post (some (.int v2)) σ) (zCall (d + 3) nL_type [.ref 63, .int ((v1 - v2) - 1)] σ (zPI fun x2 σ1 => zIf ((x2 : Int32) = 2) (X 2 [some (.ref 63), some (.int v1), some (.int (v2 + 1))] [] σ1) (post (some (.int v2)) σ1)))) : X 2 [some (.ref 63), some (.int v1), some (.int v2)] [] σ := zr_L_bridgesBefore_2 hX v1 v2 σ h
-- L_cell(80,) depth 1
set_option maxRecDepth 100000 in
set_option maxHeartbeats 4000000 in
theorem zq_L_cell_0 {d : Nat} {post : zPo} {X : zX} {L : Nat} {xs : Nat → Int32} (hX : zClosed (some (L, xs)) (zCallS (some (L, xs)) (d + 0)) post nL_cell X) (p1 : Int32) (σ : zS) (h : zIf ((p1 : Int32) < (nI L)) (vp_in p1 L ∧ (post (some (.int (xs (Int32.toNatClampNeg p1)))) σ)) (post (some (.int (1013904223 * (p1 + 1)))) σ)) : X 0 [some (.ref 80), some (.int p1)] [] σ := zr_L_cell_0 hX p1 σ h
-- L_low() depth 1
set_option maxRecDepth 100000 in
set_option maxHeartbeats 4000000 in
theorem zq_L_low_0 {d : Nat} {post : zPo} {X : zX} (hX : zClosed none (zCall (d + 0)) post nL_low X) (p0 : Int32) (p1 : Int32) (σ : zS) (h : ¬ (p1 : Int32) = 0 ∧ (post (some (.int ((p0 &&& 2147483647) - (p0 &&& 2147483647) / p1 * p1))) σ)) : X 0 [some (.int p0), some (.int p1)] [] σ := zr_L_low_0 hX p0 p1 σ h
-- L_grows(0, 63, 80) depth 7
set_option maxRecDepth 100000 in
set_option maxHeartbeats 4000000 in
theorem zq_L_grows_0 {d : Nat} {post : zPo} {X : zX} {L : Nat} {xs : Nat → Int32} (hX : zClosed (some (L, xs)) (zCallS (some (L, xs)) (d + 6)) post nL_grows X) (p3 : Int32) (σ : zS) (h : zCallS (some (L, xs)) (d + 6) nL_cell [.ref 80, .int p3] σ (zPI fun x2 σ1 => zCallS (some (L, xs)) (d + 6) nL_low [.int x2, .int 12] σ1 (zPI fun x4 σ3 => zCallS (some (L, xs)) (d + 6) nL_low [.int (x2 >>> ((4 : Int32) &&& 31)), .int 9] (zSI σ3 63 36 (1 + x4)) (zPI fun x6 σ5 => zCallS (some (L, xs)) (d + 6) nX11_setInterval [.ref 0, .int (1 + x6)] (zSI (zSI σ5 63 37 (1 + x6)) 63 38 ((x2 >>> ((8 : Int32) &&& 31)) &&& 3)) (zPI fun x8 σ7 => zIf ((x8 : Int32) = 12) (zCallS (some (L, xs)) (d + 6) nX11_setBridges [.ref 0, .int (σ7.1 63 38)] σ7 (zPI fun x10 σ9 => zIf ((x10 : Int32) = 2) (X 76 [some (.ref 0), some (.ref 63), some (.ref 80), some (.int p3), some (.int x2), none, none, none] [.int 1] σ9) (X 75 [some (.ref 0), some (.ref 63), some (.ref 80), some (.int p3), some (.int x2), none, none, none] [] σ9))) (X 75 [some (.ref 0), some (.ref 63), some (.ref 80), some (.int p3), some (.int x2), none, none, none] [] σ7)))))) : X 0 [some (.ref 0), some (.ref 63), some (.ref 80), some (.int p3), none, none, none, none] [] σ := zr_L_grows_0 hX p3 σ (zs_I (fun x2 σ1 h5 => zs_I (fun x4 σ3 h6 => ⟨vin_of (by decide) (by decide) (by decide), zs_I (fun x6 σ5 h7 => ⟨vin_of (by decide) (by decide) (by decide), ⟨vin_of (by decide) (by decide) (by decide), ⟨vin_of (by decide) (by decide) (by decide), zs_I (fun x8 σ7 h8 => ⟨fun z1 => ⟨vin_of (by decide) (by decide) (by decide), (h8.1 z1)⟩, fun z2 => (h8.2 z2)⟩) h7⟩⟩⟩) h6⟩) h5) h)
set_option maxRecDepth 100000 in
set_option maxHeartbeats 4000000 in
theorem zq_L_grows_76 {d : Nat} {post : zPo} {X : zX} {L : Nat} {xs : Nat → Int32} (hX : zClosed (some (L, xs)) (zCallS (some (L, xs)) (d + 6)) post nL_grows X) (v3 : Int32) (v4 : Int32) (t0 : Int32) (σ : zS) (h : X 81 [some (.ref 0), some (.ref 63), some (.ref 80), some (.int v3), some (.int v4), some (.int t0), some (.int 0), none] [] σ) : X 76 [some (.ref 0), some (.ref 63), some (.ref 80), some (.int v3), some (.int v4), none, none, none] [.int t0] σ := zr_L_grows_76 hX v3 v4 t0 σ h
set_option maxRecDepth 100000 in
set_option maxHeartbeats 4000000 in
theorem zq_L_grows_75 {d : Nat} {post : zPo} {X : zX} {L : Nat} {xs : Nat → Int32} (hX : zClosed (some (L, xs)) (zCallS (some (L, xs)) (d + 6)) post nL_grows X) (v3 : Int32) (v4 : Int32) (σ : zS) (h : X 76 [some (.ref 0), some (.ref 63), some (.ref 80), some (.int v3), some (.int v4), none, none, none] [.int 0] σ) : X 75 [some (.ref 0), some (.ref 63), some (.ref 80), some (.int v3), some (.int v4), none, none, none] [] σ := zr_L_grows_75 hX v3 v4 σ h
set_option maxRecDepth 100000 in
set_option maxHeartbeats 4000000 in
theorem zq_L_grows_81 {d : Nat} {post : zPo} {X : zX} {L : Nat} {xs : Nat → Int32} (hX : zClosed (some (L, xs)) (zCallS (some (L, xs)) (d + 6)) post nL_grows X) (v3 : Int32) (v4 : Int32) (v5 : Int32) (v6 : Int32) (σ : zS) (h : zIf ((v6 : Int32) < 18) (vp_in (40 + v6) (zN 63) ∧ (X 81 [some (.ref 0), some (.ref 63), some (.ref 80), some (.int v3), some (.int v4), some (.int v5), some (.int (v6 + 1)), none] [] (zSI σ 63 (Int32.toNatClampNeg (40 + v6)) 4))) (X 105 [some (.ref 0), some (.ref 63), some (.ref 80), some (.int v3), some (.int v4), some (.int v5), some (.int 0), none] [] σ)) : X 81 [some (.ref 0), some (.ref 63), some (.ref 80), some (.int v3), some (.int v4), some (.int v5), some (.int v6), none] [] σ := zr_L_grows_81 hX v3 v4 v5 v6 σ h
set_option maxRecDepth 100000 in
set_option maxHeartbeats 4000000 in
theorem zq_L_grows_105 {d : Nat} {post : zPo} {X : zX} {L : Nat} {xs : Nat → Int32} (hX : zClosed (some (L, xs)) (zCallS (some (L, xs)) (d + 6)) post nL_grows X) (v3 : Int32) (v4 : Int32) (v5 : Int32) (v6 : Int32) (σ : zS) (h : zIf ((v6 : Int32) < (σ.1 63 36)) (zCallS (some (L, xs)) (d + 6) nL_cell [.ref 80, .int ((v3 + 1) + v6)] σ (zPI fun x2 σ1 => zCallS (some (L, xs)) (d + 6) nL_low [.int (x2 >>> ((12 : Int32) &&& 31)), .int 4] σ1 (zPI fun x4 σ3 => zIf ((x4 : Int32) = 0) (X 153 [some (.ref 0), some (.ref 63), some (.ref 80), some (.int v3), some (.int v4), some (.int v5), some (.int v6), some (.int x2)] [.int 4000, .int x2, .int 1, .int v6, .ref 63] σ3) (X 153 [some (.ref 0), some (.ref 63), some (.ref 80), some (.int v3), some (.int v4), some (.int v5), some (.int v6), some (.int x2)] [.int 400, .int x2, .int 1, .int v6, .ref 63] σ3)))) (X 293 [some (.ref 0), some (.ref 63), none, none, some (.int v4), some (.int v5), none, none] [] σ)) : X 105 [some (.ref 0), some (.ref 63), some (.ref 80), some (.int v3), some (.int v4), some (.int v5), some (.int v6), none] [] σ := zr_L_grows_105 hX v3 v4 v5 v6 σ ⟨vin_of (by decide) (by decide) (by decide), h⟩
set_option maxRecDepth 100000 in
set_option maxHeartbeats 4000000 in
theorem zq_L_grows_153 {d : Nat} {post : zPo} {X : zX} {L : Nat} {xs : Nat → Int32} (hX : zClosed (some (L, xs)) (zCallS (some (L, xs)) (d + 6)) post nL_grows X) (v3 : Int32) (v4 : Int32) (v5 : Int32) (v6 : Int32) (v7 : Int32) (t0 : Int32) (t1 : Int32) (t2 : Int32) (t3 : Int32) (σ : zS) (h : zCallS (some (L, xs)) (d + 6) nL_low [.int t1, .int t0] σ (zPI fun x2 σ1 => vp_in t3 (zN 63) ∧ (zCallS (some (L, xs)) (d + 6) nL_low [.int (v7 >>> ((14 : Int32) &&& 31)), .int 5] (zSI σ1 63 (Int32.toNatClampNeg t3) (t2 + x2)) (zPI fun x4 σ3 => zIf ((x4 : Int32) = 0) (vp_in v6 (zN 63) ∧ (zIf ((2 * (σ3.1 63 (Int32.toNatClampNeg v6)) : Int32) ≤ 4000) (X 221 [some (.ref 0), some (.ref 63), some (.ref 80), some (.int v3), some (.int v4), some (.int v5), some (.int v6), none] [.int (2 * (σ3.1 63 (Int32.toNatClampNeg v6))), .int (18 + v6), .ref 63] σ3) (X 221 [some (.ref 0), some (.ref 63), some (.ref 80), some (.int v3), some (.int v4), some (.int v5), some (.int v6), none] [.int 4000, .int (18 + v6), .ref 63] σ3))) (vp_in v6 (zN 63) ∧ (zCallS (some (L, xs)) (d + 6) nL_low [.int (v7 >>> ((17 : Int32) &&& 31)), .int (((3 * (σ3.1 63 (Int32.toNatClampNeg v6))) / 2) + 1)] σ3 (zPI fun x6 σ5 => X 221 [some (.ref 0), some (.ref 63), some (.ref 80), some (.int v3), some (.int v4), some (.int v5), some (.int v6), none] [.int x6, .int (18 + v6), .ref 63] σ5))))))) : X 153 [some (.ref 0), some (.ref 63), some (.ref 80), some (.int v3), some (.int v4), some (.int v5), some (.int v6), some (.int v7)] [.int t0, .int t1, .int t2, .int t3, .ref 63] σ := zr_L_grows_153 hX v3 v4 v5 v6 v7 t0 t1 t2 t3 σ (zs_I (fun x2 σ1 h5 => ⟨h5.1, zs_I (fun x4 σ3 h6 => ⟨fun z1 => ⟨(h6.1 z1).1, ⟨fun z3 => ⟨(h6.1 z1).1, ((h6.1 z1).2.1 z3)⟩, fun z4 => ((h6.1 z1).2.2 z4)⟩⟩, fun z2 => ⟨(h6.2 z2).1, ⟨(by decide), (h6.2 z2).2⟩⟩⟩) h5.2⟩) h)
set_option maxRecDepth 100000 in
set_option maxHeartbeats 4000000 in
theorem zq_L_grows_293 {d : Nat} {post : zPo} {X : zX} {L : Nat} {xs : Nat → Int32} (hX : zClosed (some (L, xs)) (zCallS (some (L, xs)) (d + 6)) post nL_grows X) (v4 : Int32) (v5 : Int32) (σ : zS) (h : zCallS (some (L, xs)) (d + 6) nL_low [.int (v4 >>> ((10 : Int32) &&& 31)), .int 6] σ (zPI fun x2 σ1 => zCallS (some (L, xs)) (d + 6) nL_low [.int (v4 >>> ((13 : Int32) &&& 31)), .int 8] σ1 (zPI fun x4 σ3 => vp_in (40 + x2) (zN 63) ∧ (zIf ((v5 : Int32) = 0) (X 350 [none, none, none, none, none, none, none, none] [] (zSI σ3 63 (Int32.toNatClampNeg (40 + x2)) (1 + x4))) (zCallS (some (L, xs)) (d + 6) nX11_setWeight [.ref 0, .int x2, .int ((zSI σ3 63 (Int32.toNatClampNeg (40 + x2)) (1 + x4)).1 63 (Int32.toNatClampNeg (40 + x2)))] (zSI σ3 63 (Int32.toNatClampNeg (40 + x2)) (1 + x4)) (zPI fun x6 σ5 => zIf ((x6 : Int32) = 4) (X 351 [none, none, none, none, none, none, none, none] [.int 1] σ5) (X 350 [none, none, none, none, none, none, none, none] [] σ5))))))) : X 293 [some (.ref 0), some (.ref 63), none, none, some (.int v4), some (.int v5), none, none] [] σ := zr_L_grows_293 hX v4 v5 σ (zs_I (fun x2 σ1 h5 => zs_I (fun x4 σ3 h6 => ⟨h6.1, ⟨fun z1 => (h6.2.1 z1), fun z2 => ⟨h6.1, (h6.2.2 z2)⟩⟩⟩) h5) h)
set_option maxRecDepth 100000 in
set_option maxHeartbeats 4000000 in
theorem zq_L_grows_221 {d : Nat} {post : zPo} {X : zX} {L : Nat} {xs : Nat → Int32} (hX : zClosed (some (L, xs)) (zCallS (some (L, xs)) (d + 6)) post nL_grows X) (v3 : Int32) (v4 : Int32) (v5 : Int32) (v6 : Int32) (t0 : Int32) (t1 : Int32) (σ : zS) (h : vp_in t1 (zN 63) ∧ (vp_in (18 + v6) (zN 63) ∧ (zIf (((zSI σ 63 (Int32.toNatClampNeg t1) t0).1 63 (Int32.toNatClampNeg (18 + v6)) : Int32) ≤ 4000) (X 254 [some (.ref 0), some (.ref 63), some (.ref 80), some (.int v3), some (.int v4), some (.int v5), some (.int v6), none] [.int ((zSI σ 63 (Int32.toNatClampNeg t1) t0).1 63 (Int32.toNatClampNeg (18 + v6))), .int (18 + v6), .ref 63] (zSI σ 63 (Int32.toNatClampNeg t1) t0)) (X 254 [some (.ref 0), some (.ref 63), some (.ref 80), some (.int v3), some (.int v4), some (.int v5), some (.int v6), none] [.int 4000, .int (18 + v6), .ref 63] (zSI σ 63 (Int32.toNatClampNeg t1) t0))))) : X 221 [some (.ref 0), some (.ref 63), some (.ref 80), some (.int v3), some (.int v4), some (.int v5), some (.int v6), none] [.int t0, .int t1, .ref 63] σ := zr_L_grows_221 hX v3 v4 v5 v6 t0 t1 σ ⟨h.1, ⟨h.2.1, ⟨fun z1 => ⟨h.2.1, (h.2.2.1 z1)⟩, fun z2 => (h.2.2.2 z2)⟩⟩⟩
set_option maxRecDepth 100000 in
set_option maxHeartbeats 4000000 in
theorem zq_L_grows_350 {d : Nat} {post : zPo} {X : zX} {L : Nat} {xs : Nat → Int32} (hX : zClosed (some (L, xs)) (zCallS (some (L, xs)) (d + 6)) post nL_grows X) (σ : zS) (h : X 351 [none, none, none, none, none, none, none, none] [.int 0] σ) : X 350 [none, none, none, none, none, none, none, none] [] σ := zr_L_grows_350 hX  σ h
set_option maxRecDepth 100000 in
set_option maxHeartbeats 4000000 in
theorem zq_L_grows_351 {d : Nat} {post : zPo} {X : zX} {L : Nat} {xs : Nat → Int32} (hX : zClosed (some (L, xs)) (zCallS (some (L, xs)) (d + 6)) post nL_grows X) (t0 : Int32) (σ : zS) (h : zG ((t0 : Int32) == 0 || (t0 : Int32) == 1) (post (some (.int t0)) σ)) : X 351 [none, none, none, none, none, none, none, none] [.int t0] σ := zr_L_grows_351 hX t0 σ h
set_option maxRecDepth 100000 in
set_option maxHeartbeats 4000000 in
theorem zq_L_grows_254 {d : Nat} {post : zPo} {X : zX} {L : Nat} {xs : Nat → Int32} (hX : zClosed (some (L, xs)) (zCallS (some (L, xs)) (d + 6)) post nL_grows X) (v3 : Int32) (v4 : Int32) (v5 : Int32) (v6 : Int32) (t0 : Int32) (t1 : Int32) (σ : zS) (h : vp_in t1 (zN 63) ∧ (zIf ((v5 : Int32) = 0) (X 284 [some (.ref 0), some (.ref 63), some (.ref 80), some (.int v3), some (.int v4), none, some (.int v6), none] [] (zSI σ 63 (Int32.toNatClampNeg t1) t0)) (vp_in v6 (zN 63) ∧ (vp_in (18 + v6) (zN 63) ∧ (zCallS (some (L, xs)) (d + 6) nX11_append [.ref 0, .int ((zSI σ 63 (Int32.toNatClampNeg t1) t0).1 63 (Int32.toNatClampNeg v6)), .int ((zSI σ 63 (Int32.toNatClampNeg t1) t0).1 63 (Int32.toNatClampNeg (18 + v6)))] (zSI σ 63 (Int32.toNatClampNeg t1) t0) (zPI fun x2 σ1 => zIf ((x2 : Int32) = v6) (X 285 [some (.ref 0), some (.ref 63), some (.ref 80), some (.int v3), some (.int v4), none, some (.int v6), none] [.int 1] σ1) (X 284 [some (.ref 0), some (.ref 63), some (.ref 80), some (.int v3), some (.int v4), none, some (.int v6), none] [] σ1))))))) : X 254 [some (.ref 0), some (.ref 63), some (.ref 80), some (.int v3), some (.int v4), some (.int v5), some (.int v6), none] [.int t0, .int t1, .ref 63] σ := zr_L_grows_254 hX v3 v4 v5 v6 t0 t1 σ h
set_option maxRecDepth 100000 in
set_option maxHeartbeats 4000000 in
theorem zq_L_grows_284 {d : Nat} {post : zPo} {X : zX} {L : Nat} {xs : Nat → Int32} (hX : zClosed (some (L, xs)) (zCallS (some (L, xs)) (d + 6)) post nL_grows X) (v3 : Int32) (v4 : Int32) (v6 : Int32) (σ : zS) (h : X 285 [some (.ref 0), some (.ref 63), some (.ref 80), some (.int v3), some (.int v4), none, some (.int v6), none] [.int 0] σ) : X 284 [some (.ref 0), some (.ref 63), some (.ref 80), some (.int v3), some (.int v4), none, some (.int v6), none] [] σ := zr_L_grows_284 hX v3 v4 v6 σ h
set_option maxRecDepth 100000 in
set_option maxHeartbeats 4000000 in
theorem zq_L_grows_285 {d : Nat} {post : zPo} {X : zX} {L : Nat} {xs : Nat → Int32} (hX : zClosed (some (L, xs)) (zCallS (some (L, xs)) (d + 6)) post nL_grows X) (v3 : Int32) (v4 : Int32) (v6 : Int32) (t0 : Int32) (σ : zS) (h : X 105 [some (.ref 0), some (.ref 63), some (.ref 80), some (.int v3), some (.int v4), some (.int t0), some (.int (v6 + 1)), none] [] σ) : X 285 [some (.ref 0), some (.ref 63), some (.ref 80), some (.int v3), some (.int v4), none, some (.int v6), none] [.int t0] σ := zr_L_grows_285 hX v3 v4 v6 t0 σ h
-- L_loss(63,) depth 4
set_option maxRecDepth 100000 in
set_option maxHeartbeats 4000000 in
theorem zq_L_loss_0 {d : Nat} {post : zPo} {X : zX} (hX : zClosed none (zCall (d + 3)) post nL_loss X) (p1 : Int32) (p2 : Int32) (σ : zS) (h : zCall (d + 3) nL_sceneOf [.ref 63, .int p1] σ (zPI fun x2 σ1 => vp_in (40 + x2) (zN 63) ∧ (zCall (d + 3) nL_type [.ref 63, .int p1] σ1 (zPI fun x4 σ3 => zCall (d + 3) nL_step [.int p2] σ3 (zPI fun x6 σ5 => zCall (d + 3) nL_step [.int p2] σ5 (zPI fun x8 σ7 => post (some (.int (Int64.toInt32 (((((Int32.toInt64 (σ1.1 63 (Int32.toNatClampNeg (40 + x2)))) * (Int32.toInt64 (3 - x4))) * (Int32.toInt64 x6)) * (Int32.toInt64 x8)) / 16)))) σ7)))))) : X 0 [some (.ref 63), some (.int p1), some (.int p2), none] [] σ := zr_L_loss_0 hX p1 p2 σ (zc_I (fun x2 σ1 h1 => ⟨h1.1, zc_I (fun x4 σ3 h2 => zc_I (fun x6 σ5 h3 => zc_I (fun x8 σ7 h4 => ⟨(by decide), h4⟩) h3) h2) h1.2⟩) h)
-- L_place(63,) depth 5
set_option maxRecDepth 100000 in
set_option maxHeartbeats 4000000 in
theorem zq_L_place_0 {d : Nat} {post : zPo} {X : zX} (hX : zClosed none (zCall (d + 4)) post nL_place X) (p1 : Int32) (σ : zS) (h : zCall (d + 4) nL_type [.ref 63, .int p1] σ (zPI fun x2 σ1 => zIf ((x2 : Int32) < 2) (zCall (d + 4) nL_bridgesBefore [.ref 63, .int p1] σ1 (zPI fun x4 σ3 => post (some (.int (p1 - x4))) σ3)) (X 19 [some (.ref 63), some (.int p1), some (.int p1)] [] σ1))) : X 0 [some (.ref 63), some (.int p1), none] [] σ := zr_L_place_0 hX p1 σ h
set_option maxRecDepth 100000 in
set_option maxHeartbeats 4000000 in
theorem zq_L_place_19 {d : Nat} {post : zPo} {X : zX} (hX : zClosed none (zCall (d + 4)) post nL_place X) (v1 : Int32) (v2 : Int32) (σ : zS) (h : zCall (d + 4) nL_type [.ref 63, .int v2] σ (zPI fun x2 σ1 => zIf ((x2 : Int32) = 2) (X 19 [some (.ref 63), some (.int v1), some (.int (v2 + 1))] [] σ1) (zCall (d + 4) nL_bridgesBefore [.ref 63, .int v2] σ1 (zPI fun x4 σ3 => zCall (d + 4) nL_bridgesBefore [.ref 63, .int v1] σ3 (zPI fun x6 σ5 => post (some (.int (((v2 - x4) + 1) + x6))) σ5))))) : X 19 [some (.ref 63), some (.int v1), some (.int v2)] [] σ := zr_L_place_19 hX v1 v2 σ h
-- L_isTold(0, 63) depth 6
set_option maxRecDepth 100000 in
set_option maxHeartbeats 4000000 in
theorem zq_L_isTold_0 {d : Nat} {post : zPo} {X : zX} (hX : zClosed none (zCall (d + 5)) post nL_isTold X) (p2 : Int32) (p3 : Int32) (σ : zS) (h : zCall (d + 5) nL_groupOf [.ref 63, .int p2] σ (zPI fun x2 σ1 => X 13 [some (.ref 0), some (.ref 63), some (.int p2), some (.int p3), some (.int x2), some (.int 0), some (.int 0)] [] σ1)) : X 0 [some (.ref 0), some (.ref 63), some (.int p2), some (.int p3), none, none, none] [] σ := zr_L_isTold_0 hX p2 p3 σ h
set_option maxRecDepth 100000 in
set_option maxHeartbeats 4000000 in
theorem zq_L_isTold_13 {d : Nat} {post : zPo} {X : zX} (hX : zClosed none (zCall (d + 5)) post nL_isTold X) (v2 : Int32) (v3 : Int32) (v4 : Int32) (v5 : Int32) (v6 : Int32) (σ : zS) (h : zIf ((v6 : Int32) < (σ.1 63 36)) (zCall (d + 5) nL_groupOf [.ref 63, .int v6] σ (zPI fun x2 σ1 => zIf ((x2 : Int32) = v4) (X 13 [some (.ref 0), some (.ref 63), some (.int v2), some (.int v3), some (.int v4), some (.int (v5 + 1)), some (.int (v6 + 1))] [] σ1) (X 13 [some (.ref 0), some (.ref 63), some (.int v2), some (.int v3), some (.int v4), some (.int (v5 + 0)), some (.int (v6 + 1))] [] σ1))) (zCall (d + 5) nX11_frame [.ref 0, .int v2, .int 0] σ (zPI fun x4 σ3 => vp_in v2 (zN 63) ∧ (zIf ((x4 : Int32) = (σ3.1 63 (Int32.toNatClampNeg v2))) (zCall (d + 5) nX11_frame [.ref 0, .int v2, .int 1] σ3 (zPI fun x6 σ5 => vp_in (18 + v2) (zN 63) ∧ (zIf ((x6 : Int32) = (σ5.1 63 (Int32.toNatClampNeg (18 + v2)))) (zCall (d + 5) nX11_frame [.ref 0, .int v2, .int 2] σ5 (zPI fun x8 σ7 => zCall (d + 5) nL_type [.ref 63, .int v2] σ7 (zPI fun x10 σ9 => zIf ((x8 : Int32) = x10) (zCall (d + 5) nX11_frame [.ref 0, .int v2, .int 3] σ9 (zPI fun x12 σ11 => zCall (d + 5) nL_sceneOf [.ref 63, .int v2] σ11 (zPI fun x14 σ13 => zIf ((x12 : Int32) = x14) (zCall (d + 5) nX11_frame [.ref 0, .int v2, .int 4] σ13 (zPI fun x16 σ15 => zCall (d + 5) nL_place [.ref 63, .int v2] σ15 (zPI fun x18 σ17 => zIf ((x16 : Int32) = x18) (zCall (d + 5) nX11_frame [.ref 0, .int v2, .int 5] σ17 (zPI fun x20 σ19 => zCall (d + 5) nL_work [.ref 63, .int v2] σ19 (zPI fun x22 σ21 => zIf ((x20 : Int32) = x22) (zCall (d + 5) nX11_frame [.ref 0, .int v2, .int 6] σ21 (zPI fun x24 σ23 => zIf ((x24 : Int32) = v4) (zCall (d + 5) nX11_frame [.ref 0, .int v2, .int 7] σ23 (zPI fun x26 σ25 => zIf ((x26 : Int32) = v5) (zCall (d + 5) nL_place [.ref 63, .int v2] σ25 (zPI fun x28 σ27 => zCall (d + 5) nX11_coded [.ref 0, .int x28] σ27 (zPI fun x30 σ29 => zIf ((x30 : Int32) = v2) (zCall (d + 5) nX11_bitsAt [.ref 0, .int v2, .int v3] σ29 (zPI fun x32 σ31 => zCall (d + 5) nL_bits [.ref 63, .int v2, .int v3] σ31 (zPI fun x34 σ33 => zIf ((x32 : Int32) = x34) (zCall (d + 5) nX11_lossAt [.ref 0, .int v2, .int v3] σ33 (zPI fun x36 σ35 => zCall (d + 5) nL_loss [.ref 63, .int v2, .int v3] σ35 (zPI fun x38 σ37 => zIf ((x36 : Int32) = x38) (zCall (d + 5) nX11_frame [.ref 0, .int v2, .int 8] σ37 (zPI fun x40 σ39 => zIf ((x40 : Int32) = (-2)) (zCall (d + 5) nX11_bitsAt [.ref 0, .int v2, .int 52] σ39 (zPI fun x42 σ41 => zIf ((x42 : Int32) = (-2)) (post (some (.int 1)) σ41) (post (some (.int 0)) σ41))) (post (some (.int 0)) σ39))) (post (some (.int 0)) σ37)))) (post (some (.int 0)) σ33)))) (post (some (.int 0)) σ29)))) (post (some (.int 0)) σ25))) (post (some (.int 0)) σ23))) (post (some (.int 0)) σ21)))) (post (some (.int 0)) σ17)))) (post (some (.int 0)) σ13)))) (post (some (.int 0)) σ9)))) (post (some (.int 0)) σ5)))) (post (some (.int 0)) σ3))))) : X 13 [some (.ref 0), some (.ref 63), some (.int v2), some (.int v3), some (.int v4), some (.int v5), some (.int v6)] [] σ := zr_L_isTold_13 hX v2 v3 v4 v5 v6 σ ⟨vin_of (by decide) (by decide) (by decide), ⟨fun z1 => zc_I (fun x2 σ1 h31 => ⟨fun z3 => zr_L_isTold_40 hX v2 v3 v4 v6 1 v5 σ1 ((h31.1 z3)), fun z4 => zr_L_isTold_40 hX v2 v3 v4 v6 0 v5 σ1 ((h31.2 z4))⟩) (h.1 z1), fun z2 => zr_L_isTold_49 hX v2 v3 v4 v5 σ (zc_I (fun x4 σ3 h32 => ⟨h32.1, ⟨fun z5 => zc_I (fun x6 σ5 h33 => ⟨h33.1, ⟨fun z7 => zc_I (fun x8 σ7 h34 => zc_I (fun x10 σ9 h35 => ⟨fun z9 => zc_I (fun x12 σ11 h36 => zc_I (fun x14 σ13 h37 => ⟨fun z11 => zc_I (fun x16 σ15 h38 => zc_I (fun x18 σ17 h39 => ⟨fun z13 => zc_I (fun x20 σ19 h40 => zc_I (fun x22 σ21 h41 => ⟨fun z15 => zc_I (fun x24 σ23 h42 => ⟨fun z17 => zc_I (fun x26 σ25 h43 => ⟨fun z19 => zr_L_isTold_161 hX v2 v3 1 σ25 (⟨fun z => absurd z (by decide), fun _ => zc_I (fun x28 σ27 h44 => zc_I (fun x30 σ29 h45 => ⟨fun z21 => zc_I (fun x32 σ31 h46 => zc_I (fun x34 σ33 h47 => ⟨fun z23 => zc_I (fun x36 σ35 h48 => zc_I (fun x38 σ37 h49 => ⟨fun z25 => zc_I (fun x40 σ39 h50 => ⟨fun z27 => zc_I (fun x42 σ41 h51 => ⟨fun z29 => zr_L_isTold_240 hX 1 σ41 ((h51.1 z29)), fun z30 => zr_L_isTold_239 hX  σ41 (zr_L_isTold_240 hX 0 σ41 ((h51.2 z30)))⟩) (h50.1 z27), fun z28 => zr_L_isTold_239 hX  σ39 (zr_L_isTold_240 hX 0 σ39 ((h50.2 z28)))⟩) (h49.1 z25), fun z26 => zr_L_isTold_239 hX  σ37 (zr_L_isTold_240 hX 0 σ37 ((h49.2 z26)))⟩) h48) (h47.1 z23), fun z24 => zr_L_isTold_239 hX  σ33 (zr_L_isTold_240 hX 0 σ33 ((h47.2 z24)))⟩) h46) (h45.1 z21), fun z22 => zr_L_isTold_239 hX  σ29 (zr_L_isTold_240 hX 0 σ29 ((h45.2 z22)))⟩) h44) (h43.1 z19)⟩), fun z20 => zr_L_isTold_160 hX v2 v3 σ25 (zr_L_isTold_161 hX v2 v3 0 σ25 (⟨fun _ => zr_L_isTold_239 hX  σ25 (zr_L_isTold_240 hX 0 σ25 ((h43.2 z20))), fun z => absurd (by decide) z⟩))⟩) (h42.1 z17), fun z18 => zr_L_isTold_160 hX v2 v3 σ23 (zr_L_isTold_161 hX v2 v3 0 σ23 (⟨fun _ => zr_L_isTold_239 hX  σ23 (zr_L_isTold_240 hX 0 σ23 ((h42.2 z18))), fun z => absurd (by decide) z⟩))⟩) (h41.1 z15), fun z16 => zr_L_isTold_160 hX v2 v3 σ21 (zr_L_isTold_161 hX v2 v3 0 σ21 (⟨fun _ => zr_L_isTold_239 hX  σ21 (zr_L_isTold_240 hX 0 σ21 ((h41.2 z16))), fun z => absurd (by decide) z⟩))⟩) h40) (h39.1 z13), fun z14 => zr_L_isTold_160 hX v2 v3 σ17 (zr_L_isTold_161 hX v2 v3 0 σ17 (⟨fun _ => zr_L_isTold_239 hX  σ17 (zr_L_isTold_240 hX 0 σ17 ((h39.2 z14))), fun z => absurd (by decide) z⟩))⟩) h38) (h37.1 z11), fun z12 => zr_L_isTold_160 hX v2 v3 σ13 (zr_L_isTold_161 hX v2 v3 0 σ13 (⟨fun _ => zr_L_isTold_239 hX  σ13 (zr_L_isTold_240 hX 0 σ13 ((h37.2 z12))), fun z => absurd (by decide) z⟩))⟩) h36) (h35.1 z9), fun z10 => zr_L_isTold_160 hX v2 v3 σ9 (zr_L_isTold_161 hX v2 v3 0 σ9 (⟨fun _ => zr_L_isTold_239 hX  σ9 (zr_L_isTold_240 hX 0 σ9 ((h35.2 z10))), fun z => absurd (by decide) z⟩))⟩) h34) (h33.2.1 z7), fun z8 => zr_L_isTold_160 hX v2 v3 σ5 (zr_L_isTold_161 hX v2 v3 0 σ5 (⟨fun _ => zr_L_isTold_239 hX  σ5 (zr_L_isTold_240 hX 0 σ5 ((h33.2.2 z8))), fun z => absurd (by decide) z⟩))⟩⟩) (h32.2.1 z5), fun z6 => zr_L_isTold_160 hX v2 v3 σ3 (zr_L_isTold_161 hX v2 v3 0 σ3 (⟨fun _ => zr_L_isTold_239 hX  σ3 (zr_L_isTold_240 hX 0 σ3 ((h32.2.2 z6))), fun z => absurd (by decide) z⟩))⟩⟩) (h.2 z2))⟩⟩
end
section
/-! plain facts to paste, each family by itself; over the kit's nI, lN and upd -/
/-! ===== drawers: more things than places ===== -/
theorem fb_holes : ∀ (m n : Nat) (f : Nat → Nat), (∀ i, i < n → f i < m) → (∀ i j, i < j → j < n → f i ≠ f j) → n ≤ m := by
  intro m
  induction m with
  | zero =>
    intro n f h1 _
    rcases Nat.eq_zero_or_pos n with h | h
    · omega
    · exact absurd (h1 0 h) (Nat.not_lt_zero _)
  | succ m ih =>
    intro n f h1 h2
    by_cases hx : ∃ i, i < n ∧ f i = m
    · obtain ⟨a, ha, hfa⟩ := hx
      have hg := ih (n - 1) (fun i => if i < a then f i else f (i + 1)) (by
        intro i hi
        by_cases q : i < a
        · simp only [if_pos q]
          have b1 := h1 i (by omega)
          have b2 := h2 i a q ha
          omega
        · simp only [if_neg q]
          have b1 := h1 (i + 1) (by omega)
          have b2 := h2 a (i + 1) (by omega) (by omega)
          omega) (by
        intro i j hij hj
        by_cases q : i < a
        · by_cases r : j < a
          · simp only [if_pos q, if_pos r]
            exact h2 i j hij (by omega)
          · simp only [if_pos q, if_neg r]
            exact h2 i (j + 1) (by omega) (by omega)
        · have r : ¬ j < a := by omega
          simp only [if_neg q, if_neg r]
          exact h2 (i + 1) (j + 1) (by omega) (by omega))
      omega
    · have hg := ih n f (fun i hi => by
        have b1 := h1 i hi
        have b2 : f i ≠ m := fun e => hx ⟨i, hi, e⟩
        omega) h2
      omega
/-- two of them in one place -/
theorem fb_twice {m n : Nat} {f : Nat → Nat} (h : ∀ i, i < n → f i < m) (hm : m < n) : ∃ i j, i < j ∧ j < n ∧ f i = f j := by
  refine Classical.byContradiction fun hx => ?_
  have := fb_holes m n f h (fun i j hij hj e => hx ⟨i, j, hij, hj, e⟩)
  omega
/-- as many as places, none twice: each place is taken -/
theorem fb_onto {n : Nat} {f : Nat → Nat} (h : ∀ i, i < n → f i < n) (h2 : ∀ i j, i < j → j < n → f i ≠ f j) {y : Nat} (hy : y < n) : ∃ i, i < n ∧ f i = y := by
  refine Classical.byContradiction fun hx => ?_
  have hne : ∀ i, i < n → f i ≠ y := fun i hi e => hx ⟨i, hi, e⟩
  have := fb_holes (n - 1) n (fun i => if f i < y then f i else f i - 1) (by
    intro i hi
    have b1 := h i hi
    have b2 := hne i hi
    by_cases q : f i < y
    · simp only [if_pos q]; omega
    · simp only [if_neg q]; omega) (by
    intro i j hij hj
    have b1 := hne i (by omega)
    have b2 := hne j hj
    have b3 := h2 i j hij hj
    by_cases q : f i < y
    · by_cases r : f j < y
      · simp only [if_pos q, if_pos r]; exact b3
      · simp only [if_pos q, if_neg r]; omega
    · by_cases r : f j < y
      · simp only [if_neg q, if_pos r]; omega
      · simp only [if_neg q, if_neg r]; omega)
  omega
/-! ===== how many places have a property ===== -/
def fb_ct (p : Nat → Bool) : Nat → Nat
  | 0 => 0
  | n + 1 => fb_ct p n + (if p n then 1 else 0)
theorem fb_ct_succ (p : Nat → Bool) (n : Nat) : fb_ct p (n + 1) = fb_ct p n + (if p n then 1 else 0) := rfl
theorem fb_ct_le (p : Nat → Bool) : ∀ n, fb_ct p n ≤ n
  | 0 => Nat.le_refl _
  | n + 1 => by
    have h := fb_ct_le p n
    rw [fb_ct_succ]
    split <;> omega
theorem fb_ct_step (p : Nat → Bool) (m : Nat) : ∀ n, fb_ct p m ≤ fb_ct p (m + n)
  | 0 => Nat.le_refl _
  | n + 1 => by
    have h := fb_ct_step p m n
    show fb_ct p m ≤ fb_ct p (m + n + 1)
    rw [fb_ct_succ]
    omega
theorem fb_ct_mono (p : Nat → Bool) {m n : Nat} (h : m ≤ n) : fb_ct p m ≤ fb_ct p n := by
  have := fb_ct_step p m (n - m)
  rwa [Nat.add_sub_cancel' h] at this
theorem fb_ct_cong {p q : Nat → Bool} : ∀ {n : Nat}, (∀ k, k < n → p k = q k) → fb_ct p n = fb_ct q n
  | 0, _ => rfl
  | n + 1, h => by
    rw [fb_ct_succ, fb_ct_succ, fb_ct_cong (fun k hk => h k (by omega)), h n (by omega)]
/-- one place changed -/
theorem fb_ct_out (p : Nat → Bool) (b : Bool) {i n : Nat} (h : n ≤ i) : fb_ct (fun k => if k = i then b else p k) n = fb_ct p n :=
  fb_ct_cong fun k hk => if_neg (by omega)
theorem fb_ct_upd (p : Nat → Bool) (b : Bool) {i : Nat} : ∀ {n : Nat}, i < n → fb_ct (fun k => if k = i then b else p k) n + (if p i then 1 else 0) = fb_ct p n + (if b then 1 else 0)
  | 0, h => absurd h (Nat.not_lt_zero i)
  | n + 1, h => by
    rw [fb_ct_succ, fb_ct_succ]
    rcases Nat.lt_or_ge i n with q | q
    · have := fb_ct_upd p b q
      have e : (if n = i then b else p n) = p n := if_neg (by omega)
      rw [e]
      omega
    · have e : i = n := by omega
      subst e
      rw [fb_ct_out p b (Nat.le_refl _)]
      simp only [if_true]
      omega
theorem fb_ct_sub {p q : Nat → Bool} : ∀ {n : Nat}, (∀ k, k < n → p k = true → q k = true) → fb_ct p n ≤ fb_ct q n
  | 0, _ => Nat.le_refl _
  | n + 1, h => by
    have h1 := fb_ct_sub (n := n) (p := p) (q := q) (fun k hk => h k (by omega))
    have h2 := h n (by omega)
    rw [fb_ct_succ, fb_ct_succ]
    cases hp : p n <;> cases hq : q n <;> simp_all <;> omega
theorem fb_ct_or {p q : Nat → Bool} : ∀ {n : Nat}, (∀ k, k < n → ¬ (p k = true ∧ q k = true)) → fb_ct (fun k => p k || q k) n = fb_ct p n + fb_ct q n
  | 0, _ => rfl
  | n + 1, h => by
    have h1 := fb_ct_or (n := n) (p := p) (q := q) (fun k hk => h k (by omega))
    have h2 := h n (by omega)
    rw [fb_ct_succ, fb_ct_succ, fb_ct_succ, h1]
    cases hp : p n <;> cases hq : q n <;> simp_all <;> omega
theorem fb_ct_not (p : Nat → Bool) : ∀ n, fb_ct p n + fb_ct (fun k => !p k) n = n
  | 0 => rfl
  | n + 1 => by
    have h := fb_ct_not p n
    rw [fb_ct_succ, fb_ct_succ]
    cases p n <;> simp <;> omega
theorem fb_ct_split (p : Nat → Bool) (m : Nat) : ∀ n, fb_ct p (m + n) = fb_ct p m + fb_ct (fun k => p (m + k)) n
  | 0 => rfl
  | n + 1 => by
    have h := fb_ct_split p m n
    show fb_ct p (m + n + 1) = _
    rw [fb_ct_succ, fb_ct_succ, h, Nat.add_assoc]
theorem fb_ct_zero {p : Nat → Bool} : ∀ {n : Nat}, fb_ct p n = 0 ↔ ∀ k, k < n → p k = false
  | 0 => ⟨fun _ k hk => absurd hk (Nat.not_lt_zero k), fun _ => rfl⟩
  | n + 1 => by
    have h := fb_ct_zero (p := p) (n := n)
    rw [fb_ct_succ]
    constructor
    · intro e k hk
      have e1 : fb_ct p n = 0 := by omega
      rcases Nat.lt_or_ge k n with q | q
      · exact h.mp e1 k q
      · have ek : k = n := by omega
        subst ek
        cases hp : p k
        · rfl
        · simp [hp] at e
    · intro a
      rw [h.mpr (fun k hk => a k (by omega)), a n (by omega)]
      rfl
theorem fb_ct_pos {p : Nat → Bool} {n : Nat} : 0 < fb_ct p n ↔ ∃ k, k < n ∧ p k = true := by
  constructor
  · intro h
    refine Classical.byContradiction fun hx => ?_
    have := fb_ct_zero.mpr (fun k hk => by
      cases hp : p k
      · rfl
      · exact absurd ⟨k, hk, hp⟩ hx : ∀ k, k < n → p k = false)
    omega
  · rintro ⟨k, hk, hp⟩
    rcases Nat.eq_zero_or_pos (fb_ct p n) with e | e
    · have := fb_ct_zero.mp e k hk
      rw [this] at hp
      cases hp
    · exact e
theorem fb_ct_all {p : Nat → Bool} {n : Nat} : fb_ct p n = n ↔ ∀ k, k < n → p k = true := by
  have h := fb_ct_not p n
  constructor
  · intro e k hk
    have z : fb_ct (fun k => !p k) n = 0 := by omega
    have := fb_ct_zero.mp z k hk
    cases hp : p k
    · simp [hp] at this
    · rfl
  · intro a
    have z : fb_ct (fun k => !p k) n = 0 := fb_ct_zero.mpr (fun k hk => by simp [a k hk])
    omega
/-- the k-th place with the property -/
theorem fb_ct_kth {p : Nat → Bool} {k : Nat} : ∀ {n : Nat}, k < fb_ct p n → ∃ i, i < n ∧ p i = true ∧ fb_ct p i = k
  | 0, h => absurd h (Nat.not_lt_zero k)
  | n + 1, h => by
    rcases Nat.lt_or_ge k (fb_ct p n) with q | q
    · obtain ⟨i, h1, h2⟩ := fb_ct_kth q
      exact ⟨i, by omega, h2⟩
    · rw [fb_ct_succ] at h
      cases hp : p n
      · simp [hp] at h; omega
      · simp [hp] at h
        exact ⟨n, by omega, hp, by omega⟩
theorem fb_ct_kth_one {p : Nat → Bool} {i j : Nat} (hi : p i = true) (hj : p j = true) (e : fb_ct p i = fb_ct p j) : i = j := by
  have key : ∀ a b : Nat, a < b → p a = true → fb_ct p a < fb_ct p b := by
    intro a b hab ha
    have h := fb_ct_mono p (show a + 1 ≤ b from hab)
    rw [fb_ct_succ, ha] at h
    simp at h
    omega
  rcases Nat.lt_trichotomy i j with q | q | q
  · have := key i j q hi; omega
  · exact q
  · have := key j i q hj; omega
/-! ===== sums over a range: one place changed, parts, bounds ===== -/
def fb_sm (f : Nat → Nat) : Nat → Nat
  | 0 => 0
  | n + 1 => fb_sm f n + f n
theorem fb_sm_succ (f : Nat → Nat) (n : Nat) : fb_sm f (n + 1) = fb_sm f n + f n := rfl
theorem fb_sm_cong {f g : Nat → Nat} : ∀ {n : Nat}, (∀ k, k < n → f k = g k) → fb_sm f n = fb_sm g n
  | 0, _ => rfl
  | n + 1, h => by rw [fb_sm_succ, fb_sm_succ, fb_sm_cong (fun k hk => h k (by omega)), h n (by omega)]
theorem fb_sm_out (f : Nat → Nat) (v : Nat) {i n : Nat} (h : n ≤ i) : fb_sm (fun k => if k = i then v else f k) n = fb_sm f n :=
  fb_sm_cong fun k hk => if_neg (by omega)
theorem fb_sm_upd (f : Nat → Nat) (v : Nat) {i : Nat} : ∀ {n : Nat}, i < n → fb_sm (fun k => if k = i then v else f k) n + f i = fb_sm f n + v
  | 0, h => absurd h (Nat.not_lt_zero i)
  | n + 1, h => by
    rw [fb_sm_succ, fb_sm_succ]
    rcases Nat.lt_or_ge i n with q | q
    · have := fb_sm_upd f v q
      have e : (if n = i then v else f n) = f n := if_neg (by omega)
      rw [e]
      omega
    · have e : i = n := by omega
      subst e
      rw [fb_sm_out f v (Nat.le_refl _)]
      simp only [if_true]
      omega
theorem fb_sm_add (f g : Nat → Nat) : ∀ n, fb_sm (fun k => f k + g k) n = fb_sm f n + fb_sm g n
  | 0 => rfl
  | n + 1 => by
    have h := fb_sm_add f g n
    rw [fb_sm_succ, fb_sm_succ, fb_sm_succ, h]
    omega
theorem fb_sm_le {f g : Nat → Nat} : ∀ {n : Nat}, (∀ k, k < n → f k ≤ g k) → fb_sm f n ≤ fb_sm g n
  | 0, _ => Nat.le_refl _
  | n + 1, h => by
    have h1 := fb_sm_le (n := n) (f := f) (g := g) (fun k hk => h k (by omega))
    have h2 := h n (by omega)
    rw [fb_sm_succ, fb_sm_succ]
    omega
theorem fb_sm_const (c : Nat) : ∀ n, fb_sm (fun _ => c) n = n * c
  | 0 => by rw [Nat.zero_mul]; rfl
  | n + 1 => by rw [fb_sm_succ, fb_sm_const c n, Nat.succ_mul]
theorem fb_sm_bound {f : Nat → Nat} {c n : Nat} (h : ∀ k, k < n → f k ≤ c) : fb_sm f n ≤ n * c := by
  rw [← fb_sm_const c n]
  exact fb_sm_le h
theorem fb_sm_mono (f : Nat → Nat) (m : Nat) : ∀ n, fb_sm f m ≤ fb_sm f (m + n)
  | 0 => Nat.le_refl _
  | n + 1 => by
    have h := fb_sm_mono f m n
    show fb_sm f m ≤ fb_sm f (m + n + 1)
    rw [fb_sm_succ]
    omega
theorem fb_sm_part (f : Nat → Nat) {i n : Nat} (h : i < n) : fb_sm f i + f i ≤ fb_sm f n := by
  have := fb_sm_mono f (i + 1) (n - (i + 1))
  rw [fb_sm_succ, show i + 1 + (n - (i + 1)) = n by omega] at this
  exact this
theorem fb_sm_split (f : Nat → Nat) (m : Nat) : ∀ n, fb_sm f (m + n) = fb_sm f m + fb_sm (fun k => f (m + k)) n
  | 0 => rfl
  | n + 1 => by
    have h := fb_sm_split f m n
    show fb_sm f (m + n + 1) = _
    rw [fb_sm_succ, fb_sm_succ, h, Nat.add_assoc]
theorem fb_sm_zero {f : Nat → Nat} {n : Nat} (h : fb_sm f n = 0) : ∀ k, k < n → f k = 0 := fun k hk => by
  have := fb_sm_part f hk
  omega
/-- the same over whole numbers -/
def fb_si (f : Nat → Int) : Nat → Int
  | 0 => 0
  | n + 1 => fb_si f n + f n
theorem fb_si_succ (f : Nat → Int) (n : Nat) : fb_si f (n + 1) = fb_si f n + f n := rfl
theorem fb_si_cong {f g : Nat → Int} : ∀ {n : Nat}, (∀ k, k < n → f k = g k) → fb_si f n = fb_si g n
  | 0, _ => rfl
  | n + 1, h => by rw [fb_si_succ, fb_si_succ, fb_si_cong (fun k hk => h k (by omega)), h n (by omega)]
theorem fb_si_out (f : Nat → Int) (v : Int) {i n : Nat} (h : n ≤ i) : fb_si (fun k => if k = i then v else f k) n = fb_si f n :=
  fb_si_cong fun k hk => if_neg (by omega)
theorem fb_si_upd (f : Nat → Int) (v : Int) {i : Nat} : ∀ {n : Nat}, i < n → fb_si (fun k => if k = i then v else f k) n = fb_si f n - f i + v
  | 0, h => absurd h (Nat.not_lt_zero i)
  | n + 1, h => by
    rw [fb_si_succ, fb_si_succ]
    rcases Nat.lt_or_ge i n with q | q
    · have := fb_si_upd f v q
      have e : (if n = i then v else f n) = f n := if_neg (by omega)
      rw [e]
      omega
    · have e : i = n := by omega
      subst e
      rw [fb_si_out f v (Nat.le_refl _)]
      simp only [if_true]
      omega
theorem fb_si_add (f g : Nat → Int) : ∀ n, fb_si (fun k => f k + g k) n = fb_si f n + fb_si g n
  | 0 => rfl
  | n + 1 => by
    have h := fb_si_add f g n
    rw [fb_si_succ, fb_si_succ, fb_si_succ, h]
    omega
theorem fb_si_sub (f g : Nat → Int) : ∀ n, fb_si (fun k => f k - g k) n = fb_si f n - fb_si g n
  | 0 => rfl
  | n + 1 => by
    have h := fb_si_sub f g n
    rw [fb_si_succ, fb_si_succ, fb_si_succ, h]
    omega
theorem fb_si_mul (c : Int) (f : Nat → Int) : ∀ n, fb_si (fun k => c * f k) n = c * fb_si f n
  | 0 => (Int.mul_zero c).symm
  | n + 1 => by
    have h := fb_si_mul c f n
    rw [fb_si_succ, fb_si_succ, h, Int.mul_add]
theorem fb_si_split (f : Nat → Int) (m : Nat) : ∀ n, fb_si f (m + n) = fb_si f m + fb_si (fun k => f (m + k)) n
  | 0 => (Int.add_zero _).symm
  | n + 1 => by
    have h := fb_si_split f m n
    show fb_si f (m + n + 1) = _
    rw [fb_si_succ, fb_si_succ, h, Int.add_assoc]
theorem fb_si_nat (f : Nat → Nat) : ∀ n, fb_si (fun k => (f k : Int)) n = (fb_sm f n : Int)
  | 0 => rfl
  | n + 1 => by
    have h := fb_si_nat f n
    rw [fb_si_succ, fb_sm_succ, h]
    omega
theorem fb_si_bound {f : Nat → Int} {c : Int} (hc : 0 ≤ c) : ∀ {n : Nat}, (∀ k, k < n → -c ≤ f k ∧ f k ≤ c) → -(n * c) ≤ fb_si f n ∧ fb_si f n ≤ n * c
  | 0, _ => by simp [fb_si]
  | n + 1, h => by
    have h1 := fb_si_bound (n := n) (f := f) hc (fun k hk => h k (by omega))
    have h2 := h n (by omega)
    have e : ((n + 1 : Nat) : Int) * c = n * c + c := by rw [Int.natCast_add, Int.add_mul]; simp
    rw [fb_si_succ, e]
    omega
end
section
/-! numbers of 32 bits as integers -/
def iI (z : Int) : Int32 := Int32.ofInt z
def lI (z : Int) : Int64 := Int64.ofInt z
theorem iI_n (n : Nat) : nI n = iI n := Int32.ofInt_eq_ofNat.symm
theorem iI_add (a b : Int) : iI a + iI b = iI (a + b) := (Int32.ofInt_add a b).symm
theorem iI_sub (a b : Int) : iI a - iI b = iI (a - b) := by
  unfold iI
  rw [Int.sub_eq_add_neg, Int32.ofInt_add, Int32.ofInt_neg, Int32.sub_eq_add_neg]
theorem iI_mul (a b : Int) : iI a * iI b = iI (a * b) := by
  unfold iI
  refine Int32.toInt_inj.1 ?_
  rw [Int32.toInt_mul, Int32.toInt_ofInt, Int32.toInt_ofInt, Int32.toInt_ofInt]
  show (a.bmod 4294967296 * b.bmod 4294967296).bmod 4294967296 = (a * b).bmod 4294967296
  rw [Int.bmod_mul_bmod, Int.mul_bmod_bmod]
theorem iI_neg (a : Int) : -iI a = iI (-a) := (Int32.ofInt_neg a).symm
theorem iI_toInt {z : Int} (h1 : -2147483648 ≤ z) (h2 : z < 2147483648) : (iI z).toInt = z := Int32.toInt_ofInt_of_le h1 h2
theorem iI_lt {a b : Int} (h1 : -2147483648 ≤ a) (h2 : a < 2147483648) (h3 : -2147483648 ≤ b) (h4 : b < 2147483648) : iI a < iI b ↔ a < b := by
  rw [Int32.lt_iff_toInt_lt, iI_toInt h1 h2, iI_toInt h3 h4]
theorem iI_le {a b : Int} (h1 : -2147483648 ≤ a) (h2 : a < 2147483648) (h3 : -2147483648 ≤ b) (h4 : b < 2147483648) : iI a ≤ iI b ↔ a ≤ b := by
  rw [Int32.le_iff_toInt_le, iI_toInt h1 h2, iI_toInt h3 h4]
theorem iI_eq {a b : Int} (h1 : -2147483648 ≤ a) (h2 : a < 2147483648) (h3 : -2147483648 ≤ b) (h4 : b < 2147483648) : iI a = iI b ↔ a = b := by
  rw [← Int32.toInt_inj, iI_toInt h1 h2, iI_toInt h3 h4]
theorem iI_nat {z : Int} (h1 : -2147483648 ≤ z) (h2 : z < 2147483648) : (iI z).toNatClampNeg = z.toNat := Int32.toNatClampNeg_ofInt_of_le h1 h2
theorem iI_k {k : Nat} (h : k < 2147483648) : (iI (k : Int)).toNatClampNeg = k := by
  rw [iI_nat (by omega) (by omega)]
  rfl
theorem iI_div {a b : Int} (h1 : -2147483648 ≤ a) (h2 : a < 2147483648) (h3 : 0 < b) (h4 : b < 2147483648) : iI a / iI b = iI (a.tdiv b) := by
  refine Int32.toInt_inj.1 ?_
  have hb : iI b ≠ -1 := by
    intro e
    have e2 := congrArg Int32.toInt e
    rw [iI_toInt (by omega) h4] at e2
    have : ((-1 : Int32)).toInt = -1 := by decide
    omega
  rw [Int32.toInt_div_of_ne_right _ _ hb, iI_toInt h1 h2, iI_toInt (by omega) h4]
  have hh : (a.tdiv b).natAbs ≤ a.natAbs := by
    rw [Int.natAbs_tdiv]
    exact Nat.div_le_self _ _
  by_cases h0 : 0 ≤ a
  · have := Int.tdiv_nonneg h0 (Int.le_of_lt h3)
    rw [iI_toInt (by omega) (by omega)]
  · by_cases h5 : a = -2147483648
    · have : (a.tdiv b).natAbs ≤ 2147483648 := by omega
      have h6 : a.tdiv b ≤ 0 := by
        have := Int.tdiv_nonneg (a := -a) (by omega) (Int.le_of_lt h3)
        rw [Int.neg_tdiv] at this
        omega
      rw [iI_toInt (by omega) (by omega)]
    · rw [iI_toInt (by omega) (by omega)]
theorem iI_divN {a b : Int} (h1 : 0 ≤ a) (h2 : a < 2147483648) (h3 : 0 < b) (h4 : b < 2147483648) : iI a / iI b = iI (a / b) := by
  rw [iI_div (by omega) h2 h3 h4, Int.tdiv_eq_ediv_of_nonneg h1]
theorem iI_rem {a b : Int} (h1 : 0 ≤ a) (h2 : a < 2147483648) (h3 : 0 < b) (h4 : b < 2147483648) : iI a - iI a / iI b * iI b = iI (a % b) := by
  rw [iI_divN h1 h2 h3 h4, iI_mul, iI_sub, Int.emod_def, Int.mul_comm]
theorem lI_add (a b : Int) : lI a + lI b = lI (a + b) := by
  unfold lI
  exact (Int64.ofInt_add a b).symm
theorem lI_sub (a b : Int) : lI a - lI b = lI (a - b) := by
  unfold lI
  rw [Int.sub_eq_add_neg, Int64.ofInt_add, Int64.ofInt_neg, Int64.sub_eq_add_neg]
theorem lI_mul (a b : Int) : lI a * lI b = lI (a * b) := by
  unfold lI
  refine Int64.toInt_inj.1 ?_
  rw [Int64.toInt_mul, Int64.toInt_ofInt, Int64.toInt_ofInt, Int64.toInt_ofInt]
  show (a.bmod 18446744073709551616 * b.bmod 18446744073709551616).bmod 18446744073709551616 = (a * b).bmod 18446744073709551616
  rw [Int.bmod_mul_bmod, Int.mul_bmod_bmod]
theorem lI_toInt {z : Int} (h1 : -9223372036854775808 ≤ z) (h2 : z < 9223372036854775808) : (lI z).toInt = z := Int64.toInt_ofInt_of_le h1 h2
theorem lI_lt {a b : Int} (h1 : -9223372036854775808 ≤ a) (h2 : a < 9223372036854775808) (h3 : -9223372036854775808 ≤ b) (h4 : b < 9223372036854775808) : lI a < lI b ↔ a < b := by
  rw [Int64.lt_iff_toInt_lt, lI_toInt h1 h2, lI_toInt h3 h4]
theorem lI_le {a b : Int} (h1 : -9223372036854775808 ≤ a) (h2 : a < 9223372036854775808) (h3 : -9223372036854775808 ≤ b) (h4 : b < 9223372036854775808) : lI a ≤ lI b ↔ a ≤ b := by
  rw [Int64.le_iff_toInt_le, lI_toInt h1 h2, lI_toInt h3 h4]
theorem lI_eq {a b : Int} (h1 : -9223372036854775808 ≤ a) (h2 : a < 9223372036854775808) (h3 : -9223372036854775808 ≤ b) (h4 : b < 9223372036854775808) : lI a = lI b ↔ a = b := by
  rw [← Int64.toInt_inj, lI_toInt h1 h2, lI_toInt h3 h4]
theorem iI_l {z : Int} (h1 : -2147483648 ≤ z) (h2 : z < 2147483648) : (iI z).toInt64 = lI z := by
  refine Int64.toInt_inj.1 ?_
  rw [Int32.toInt_toInt64, iI_toInt h1 h2, lI_toInt (by omega) (by omega)]
theorem lI_i (z : Int) : (lI z).toInt32 = iI z := Int64.toInt32_ofInt
theorem lI_div {a b : Int} (h1 : -9223372036854775808 < a) (h2 : a < 9223372036854775808) (h3 : 0 < b) (h4 : b < 9223372036854775808) : lI a / lI b = lI (a.tdiv b) := by
  refine Int64.toInt_inj.1 ?_
  have hb : lI b ≠ -1 := by
    intro e
    have e2 := congrArg Int64.toInt e
    rw [lI_toInt (by omega) h4] at e2
    have : ((-1 : Int64)).toInt = -1 := by decide
    omega
  rw [Int64.toInt_div_of_ne_right _ _ hb, lI_toInt (by omega) h2, lI_toInt (by omega) h4]
  have hh : (a.tdiv b).natAbs ≤ a.natAbs := by
    rw [Int.natAbs_tdiv]
    exact Nat.div_le_self _ _
  rw [lI_toInt (by omega) (by omega)]
theorem zRat_lI {a b : Int} (h1 : -9223372036854775808 < a) (h2 : a < 9223372036854775808) (h3 : 0 < b) (h4 : b < 9223372036854775808) : zRat (lI a) (lI b) = lI (a.tdiv b) := by
  unfold zRat
  rw [if_neg, lI_div h1 h2 h3 h4]
  intro e
  have := (lI_eq (a := b) (b := 0) (by omega) h4 (by omega) (by omega)).mp e
  omega
-- conditions
theorem zIf_t {c A B : Prop} (h : c) (a : A) : zIf c A B := ⟨fun _ => a, fun z => absurd h z⟩
theorem zIf_f {c A B : Prop} (h : ¬ c) (b : B) : zIf c A B := ⟨fun z => absurd z h, fun _ => b⟩
theorem vin_k {k n : Nat} (h : k < n) (hn : n < 2147483648) : vp_in (iI (k : Int)) n := by
  rw [← iI_n]
  exact vp_in_nI h hn
theorem vin_z {z : Int} {n : Nat} (h0 : 0 ≤ z) (h : z < (n : Int)) (hn : n < 2147483648) : vp_in (iI z) n := by
  obtain ⟨k, rfl⟩ := Int.eq_ofNat_of_zero_le h0
  exact vin_k (by omega) hn
theorem iI_s (k : Nat) : iI (k : Int) + 1 = iI ((k + 1 : Nat) : Int) := by
  show iI (k : Int) + iI 1 = _
  rw [iI_add]
  rfl
-- reading what was written
theorem zAt_k {σ : zS} {q k : Nat} (h : k < zN q) : zAt σ q (iI (k : Int)) = σ.1 q k := by
  have h2 := zN_lt q
  unfold zAt
  rw [if_pos, iI_k (by omega)]
  rw [← iI_n]
  exact ⟨nI_le (Nat.zero_le k) (by omega), nI_lt h (by omega)⟩
theorem zAt_z {σ : zS} {q : Nat} {z : Int} (h0 : 0 ≤ z) (h : z < (zN q : Int)) : zAt σ q (iI z) = σ.1 q z.toNat := by
  obtain ⟨k, rfl⟩ := Int.eq_ofNat_of_zero_le h0
  exact zAt_k (by omega)
theorem zAtJ_k {σ : zS} {q k : Nat} (h : k < zN q) : zAtJ σ q (iI (k : Int)) = σ.2 q k := by
  have h2 := zN_lt q
  unfold zAtJ
  rw [if_pos, iI_k (by omega)]
  rw [← iI_n]
  exact ⟨nI_le (Nat.zero_le k) (by omega), nI_lt h (by omega)⟩
theorem zPt_k {σ : zS} {q k : Nat} {v : Int32} (h : k < zN q) : zPt σ q (iI (k : Int)) v = zSI σ q k v := by
  have h2 := zN_lt q
  rw [zPt_in, iI_k (by omega)]
  rw [← iI_n]
  exact ⟨nI_le (Nat.zero_le k) (by omega), nI_lt h (by omega)⟩
theorem zPtJ_k {σ : zS} {q k : Nat} {v : Int64} (h : k < zN q) : zPtJ σ q (iI (k : Int)) v = zSJ σ q k v := by
  have h2 := zN_lt q
  rw [zPtJ_in, iI_k (by omega)]
  rw [← iI_n]
  exact ⟨nI_le (Nat.zero_le k) (by omega), nI_lt h (by omega)⟩
theorem zSI_at (σ : zS) (r j : Nat) (x : Int32) (a b : Nat) : (zSI σ r j x).1 a b = if a = r ∧ b = j then x else σ.1 a b := by
  by_cases h : a = r
  · subst h
    by_cases h2 : b = j <;> simp [zSI, upd, h2]
  · simp [zSI, h]
theorem zSI_2 (σ : zS) (r j : Nat) (x : Int32) : (zSI σ r j x).2 = σ.2 := rfl
theorem zSJ_at (σ : zS) (r j : Nat) (x : Int64) (a b : Nat) : (zSJ σ r j x).2 a b = if a = r ∧ b = j then x else σ.2 a b := by
  by_cases h : a = r
  · subst h
    by_cases h2 : b = j <;> simp [zSJ, vp_updL, h2]
  · simp [zSJ, h]
theorem zSJ_i (σ : zS) (r j : Nat) (x : Int64) : (zSJ σ r j x).1 = σ.1 := rfl
theorem zSR_at (σ : zS) (r : Nat) (f : Nat → Int32) (a b : Nat) : (zSR σ r f).1 a b = if a = r then f b else σ.1 a b := by
  by_cases h : a = r <;> simp [zSR, h]
theorem zSR_2 (σ : zS) (r : Nat) (f : Nat → Int32) : (zSR σ r f).2 = σ.2 := rfl
theorem zSI_ne {σ : zS} {r j : Nat} {x : Int32} {a : Nat} (h : ¬ a = r) : (zSI σ r j x).1 a = σ.1 a := zSI_1 h
/-- nothing but these rows has changed -/
def zFr (L : List Nat) (σ τ : zS) : Prop := (∀ a, a ∉ L → τ.1 a = σ.1 a) ∧ τ.2 = σ.2
theorem zFr.rf (L : List Nat) (σ : zS) : zFr L σ σ := ⟨fun _ _ => rfl, rfl⟩
theorem zFr.si {L : List Nat} {σ τ : zS} (h : zFr L σ τ) {r : Nat} (hr : r ∈ L) (j : Nat) (x : Int32) : zFr L σ (zSI τ r j x) := ⟨fun a ha => (zSI_1 (fun e => ha (by rw [e]; exact hr))).trans (h.1 a ha), h.2⟩
theorem zFr.sr {L : List Nat} {σ τ : zS} (h : zFr L σ τ) {r : Nat} (hr : r ∈ L) (f : Nat → Int32) : zFr L σ (zSR τ r f) := ⟨fun a ha => (zSR_1 (fun e => ha (by rw [e]; exact hr))).trans (h.1 a ha), h.2⟩
theorem zFr.tr {L M : List Nat} {σ τ υ : zS} (h : zFr L σ τ) (h2 : zFr M τ υ) (hM : ∀ a, a ∈ M → a ∈ L) : zFr L σ υ := ⟨fun a ha => (h2.1 a (fun z => ha (hM a z))).trans (h.1 a ha), h2.2.trans h.2⟩
theorem zFr.wd {L M : List Nat} {σ τ : zS} (h : zFr M σ τ) (hM : ∀ a, a ∈ M → a ∈ L) : zFr L σ τ := ⟨fun a ha => h.1 a (fun z => ha (hM a z)), h.2⟩
end
section
/-! what follows from a clip: scenes, groups, types, the coding order, in plain numbers -/
def mOp (cut : Nat → Bool) (i : Nat) : Bool := decide (i = 0) || cut i
/-- the first frame of the group that is open when frame i comes -/
def mF (iv : Nat) (cut : Nat → Bool) : Nat → Nat
  | 0 => 0
  | i + 1 => if mOp cut i = true ∨ iv ≤ i - mF iv cut i then i else mF iv cut i
def mIt (iv : Nat) (cut : Nat → Bool) (i : Nat) : Bool := mOp cut i || decide (iv ≤ i - mF iv cut i)
/-- scenes, groups among the frames before i -/
def mS (cut : Nat → Bool) (i : Nat) : Nat := fb_ct (mOp cut) i
def mG (iv : Nat) (cut : Nat → Bool) (i : Nat) : Nat := fb_ct (mIt iv cut) i
theorem mF_succ (iv : Nat) (cut : Nat → Bool) (i : Nat) : mF iv cut (i + 1) = if mIt iv cut i = true then i else mF iv cut i := by
  show (if mOp cut i = true ∨ iv ≤ i - mF iv cut i then i else mF iv cut i) = _
  by_cases h : mOp cut i = true ∨ iv ≤ i - mF iv cut i
  · rw [if_pos h, if_pos (by simpa [mIt] using h)]
  · rw [if_neg h, if_neg (by simpa [mIt] using h)]
theorem mF_le (iv : Nat) (cut : Nat → Bool) : ∀ i, mF iv cut i ≤ i
  | 0 => Nat.le_refl 0
  | i + 1 => by
    rw [mF_succ]
    have := mF_le iv cut i
    by_cases h : mIt iv cut i = true
    · rw [if_pos h]; omega
    · rw [if_neg h]; omega
theorem mF_lt (iv : Nat) (cut : Nat → Bool) (i : Nat) : mF iv cut (i + 1) < i + 1 := by
  rw [mF_succ]
  have := mF_le iv cut i
  by_cases h : mIt iv cut i = true
  · rw [if_pos h]; omega
  · rw [if_neg h]; omega
theorem mIt_0 (iv : Nat) (cut : Nat → Bool) : mIt iv cut 0 = true := by simp [mIt, mOp]
/-- no group is longer than the interval -/
theorem mF_near {iv : Nat} (h1 : 1 ≤ iv) (cut : Nat → Bool) : ∀ i, i - mF iv cut i ≤ iv
  | 0 => by omega
  | i + 1 => by
    rw [mF_succ]
    have := mF_near h1 cut i
    by_cases h : mIt iv cut i = true
    · rw [if_pos h]; omega
    · rw [if_neg h]
      have h2 : ¬ iv ≤ i - mF iv cut i := fun z => h (by simp [mIt, z])
      omega
theorem mS_pos {cut : Nat → Bool} {i : Nat} (h : 0 < i) : 1 ≤ mS cut i := by
  have : mS cut 1 ≤ mS cut i := fb_ct_mono _ h
  have h2 : mS cut 1 = 1 := by simp [mS, fb_ct, mOp]
  omega
theorem mS_le (cut : Nat → Bool) (i : Nat) : mS cut i ≤ i := fb_ct_le _ i
/-- the frame is the first of its group exactly if it opens one -/
theorem mF_it {iv : Nat} {cut : Nat → Bool} {i : Nat} : mF iv cut (i + 1) = i ↔ mIt iv cut i = true := by
  rw [mF_succ]
  by_cases h : mIt iv cut i = true
  · simp [h]
  · rw [if_neg h]
    have := mF_le iv cut i
    refine ⟨fun e => ?_, fun z => absurd z h⟩
    cases i with
    | zero => exact absurd (mIt_0 iv cut) h
    | succ j =>
      have := mF_lt iv cut j
      omega
theorem mF_mono (iv : Nat) (cut : Nat → Bool) {i : Nat} : ∀ {j : Nat}, i ≤ j → mF iv cut (i + 1) ≤ mF iv cut (j + 1)
  | 0, h => by
    have : i = 0 := by omega
    subst this; exact Nat.le_refl _
  | j + 1, h => by
    by_cases e : i = j + 1
    · subst e; exact Nat.le_refl _
    · have h2 := mF_mono iv cut (i := i) (j := j) (by omega)
      rw [mF_succ iv cut (j + 1)]
      have := mF_lt iv cut j
      by_cases h3 : mIt iv cut (j + 1) = true
      · rw [if_pos h3]; omega
      · rw [if_neg h3]; exact h2
theorem mF_first {iv : Nat} {cut : Nat → Bool} : ∀ i, mIt iv cut (mF iv cut (i + 1)) = true
  | 0 => by
    rw [mF_succ, if_pos (mIt_0 iv cut)]
    exact mIt_0 iv cut
  | i + 1 => by
    rw [mF_succ]
    by_cases h : mIt iv cut (i + 1) = true
    · rw [if_pos h]; exact h
    · rw [if_neg h]; exact mF_first i
/-- how many frames a group has -/
def mGl (n iv : Nat) (cut : Nat → Bool) (f : Nat) : Nat := fb_ct (fun j => decide (mF iv cut (j + 1) = f)) n
/-- the end of the group that is open, read from the far end: behind d frames -/
def mEd (n iv : Nat) (cut : Nat → Bool) : Nat → Nat
  | 0 => n
  | d + 1 => if mIt iv cut (n - 1 - d) = true then n - 1 - d else mEd n iv cut d
theorem mEd_spec {n iv : Nat} {cut : Nat → Bool} : ∀ d, d < n → n - d ≤ mEd n iv cut d ∧ mEd n iv cut d ≤ n ∧ (∀ j, n - d ≤ j → j < mEd n iv cut d → mIt iv cut j = false) ∧ (mEd n iv cut d < n → mIt iv cut (mEd n iv cut d) = true)
  | 0, h => by
    simp only [mEd]
    exact ⟨by omega, Nat.le_refl n, fun j h1 h2 => by omega, fun h => absurd h (Nat.lt_irrefl n)⟩
  | d + 1, h => by
    obtain ⟨h1, h2, h3, h4⟩ := mEd_spec (n := n) (iv := iv) (cut := cut) d (by omega)
    simp only [mEd]
    by_cases e : mIt iv cut (n - 1 - d) = true
    · rw [if_pos e]
      exact ⟨by omega, by omega, fun j a b => by omega, fun _ => e⟩
    · rw [if_neg e]
      refine ⟨by omega, h2, fun j a b => ?_, h4⟩
      by_cases z : j = n - 1 - d
      · rw [z]; simpa using e
      · exact h3 j (by omega) b
/-- the same first frame from one opening to the next -/
theorem mF_same {iv : Nat} {cut : Nat → Bool} {f : Nat} : ∀ {j : Nat}, f ≤ j → (∀ k, f < k → k ≤ j → mIt iv cut k = false) → mF iv cut (j + 1) = mF iv cut (f + 1)
  | 0, h, _ => by
    have : f = 0 := by omega
    rw [this]
  | j + 1, h, hk => by
    by_cases e : f = j + 1
    · rw [e]
    · rw [mF_succ iv cut (j + 1), if_neg (by rw [hk (j + 1) (by omega) (Nat.le_refl _)]; decide)]
      exact mF_same (by omega) (fun k a b => hk k a (by omega))
theorem mGl_spec {n iv : Nat} {cut : Nat → Bool} {f : Nat} (h : f < n) : mGl n iv cut (mF iv cut (f + 1)) = mEd n iv cut (n - 1 - f) - mF iv cut (f + 1) := by
  have hf := mF_lt iv cut f
  obtain ⟨h1, h2, h3, h4⟩ := mEd_spec (n := n) (iv := iv) (cut := cut) (n - 1 - f) (by omega)
  have key : ∀ j, j < n → (mF iv cut (j + 1) = mF iv cut (f + 1) ↔ mF iv cut (f + 1) ≤ j ∧ j < mEd n iv cut (n - 1 - f)) := by
    intro j hj
    constructor
    · intro e
      refine ⟨by have := mF_lt iv cut j; omega, Classical.byContradiction fun z => ?_⟩
      have h5 := h4 (by omega)
      have h6 := mF_mono iv cut (i := mEd n iv cut (n - 1 - f)) (j := j) (by omega)
      rw [mF_it.mpr h5] at h6
      omega
    · rintro ⟨a, b⟩
      by_cases z : f ≤ j
      · exact mF_same z (fun k x y => h3 k (by omega) (by omega))
      · have e1 : mF iv cut (mF iv cut (f + 1) + 1) = mF iv cut (f + 1) := mF_it.mpr (mF_first f)
        have e2 := mF_mono iv cut a
        have e3 := mF_mono iv cut (show j ≤ f by omega)
        omega
  have gen : ∀ (lo hi n : Nat) (p : Nat → Bool), lo ≤ hi → hi ≤ n → (∀ j, j < n → (p j = true ↔ lo ≤ j ∧ j < hi)) → fb_ct p n = hi - lo := by
    intro lo hi n
    induction n with
    | zero =>
      intro p a b _
      simp only [fb_ct]; omega
    | succ n ih =>
      intro p a b hp
      rw [fb_ct_succ]
      by_cases z : hi = n + 1
      · by_cases z2 : lo = n + 1
        · have : fb_ct p n = 0 := fb_ct_zero.mpr (fun k hk => by
            have := hp k (by omega)
            cases hpk : p k with
            | false => rfl
            | true => have := this.mp hpk; omega)
          have h5 : p n = false := by
            cases hpk : p n with
            | false => rfl
            | true => have := (hp n (by omega)).mp hpk; omega
          rw [this, h5]; simp; omega
        · have e1 : fb_ct p n = n - lo := by
            have := ih p (by omega : lo ≤ hi) 
            have e := ih (fun j => p j) a
            have e5 : ∀ (q : Nat → Bool), lo ≤ n → n ≤ n → (∀ j, j < n → (q j = true ↔ lo ≤ j ∧ j < n)) → fb_ct q n = n - lo := by
              clear ih this e hp
              intro q
              have : ∀ (m : Nat), lo ≤ m → (∀ j, j < m → (q j = true ↔ lo ≤ j)) → fb_ct q m = m - lo := by
                intro m
                induction m with
                | zero => intro a _; simp [fb_ct]
                | succ m ihm =>
                  intro a hq
                  rw [fb_ct_succ]
                  by_cases y : lo = m + 1
                  · have e6 : fb_ct q m = 0 := fb_ct_zero.mpr (fun k hk => by
                      cases hpk : q k with
                      | false => rfl
                      | true => have := (hq k (by omega)).mp hpk; omega)
                    have e7 : q m = false := by
                      cases hpk : q m with
                      | false => rfl
                      | true => have := (hq m (by omega)).mp hpk; omega
                    rw [e6, e7]; simp; omega
                  · rw [ihm (by omega) (fun j hj => hq j (by omega)), (hq m (by omega)).mpr (by omega)]
                    simp; omega
              intro a _ hq
              exact this n a (fun j hj => ⟨fun z => ((hq j hj).mp z).1, fun z => (hq j hj).mpr ⟨z, hj⟩⟩)
            exact e5 p (by omega) (Nat.le_refl n) (fun j hj => ⟨fun y => by have := (hp j (by omega)).mp y; omega, fun y => (hp j (by omega)).mpr (by omega)⟩)
          rw [e1, (hp n (by omega)).mpr (by omega)]
          simp; omega
      · have e1 := ih p a (by omega) (fun j hj => hp j (by omega))
        have h5 : p n = false := by
          cases hpk : p n with
          | false => rfl
          | true => have := (hp n (by omega)).mp hpk; omega
        rw [e1, h5]; simp
  exact gen _ _ n _ (by omega) h2 (fun j hj => by rw [decide_eq_true_eq]; exact key j hj)
/-- types: 0 intra, 1 forward, 2 bridge -/
def mTy (n iv br : Nat) (cut : Nat → Bool) (i : Nat) : Nat :=
  if i - mF iv cut (i + 1) = 0 then 0 else if i - mF iv cut (i + 1) = mGl n iv cut (mF iv cut (i + 1)) - 1 ∨ (i - mF iv cut (i + 1)) % (br + 1) = 0 then 1 else 2
theorem mTy_lt (n iv br : Nat) (cut : Nat → Bool) (i : Nat) : mTy n iv br cut i ≤ 2 := by
  unfold mTy
  repeat' split
  all_goals omega
theorem mTy_last {n iv br : Nat} {cut : Nat → Bool} (h : 0 < n) : mTy n iv br cut (n - 1) ≠ 2 := by
  have e := mGl_spec (n := n) (iv := iv) (cut := cut) (f := n - 1) (by omega)
  rw [show n - 1 - (n - 1) = 0 by omega] at e
  simp only [mEd] at e
  unfold mTy
  rw [e]
  have := mF_lt iv cut (n - 1)
  rw [show n - 1 + 1 = n by omega] at this ⊢
  by_cases z : n - 1 - mF iv cut n = 0
  · rw [if_pos z]; omega
  · rw [if_neg z, if_pos (Or.inl (by omega))]; omega
-- the coding order
def mW (ty : Nat → Nat) : Nat → Nat
  | 0 => 0
  | i + 1 => if ty i = 2 then mW ty i else i + 1
def mPl (ty : Nat → Nat) (g : Nat) : Nat := if ty g = 2 then g + 1 else mW ty g
def mOr (ty : Nat → Nat) : Nat → Nat → Nat
  | 0, _ => 0
  | n + 1, p => if mPl ty n = p then n else mOr ty n p
theorem mW_le (ty : Nat → Nat) : ∀ i, mW ty i ≤ i
  | 0 => Nat.le_refl 0
  | i + 1 => by
    simp only [mW]
    have := mW_le ty i
    split <;> omega
theorem mW_step (ty : Nat → Nat) {i : Nat} : ∀ {j : Nat}, i < j → ty i ≠ 2 → i + 1 ≤ mW ty j
  | 0, h, _ => by omega
  | j + 1, h, ht => by
    simp only [mW]
    by_cases e : i = j
    · subst e; rw [if_neg ht]; omega
    · have := mW_step ty (j := j) (by omega) ht
      split <;> omega
/-- between the frame that waits first and i all are bridges -/
theorem mW_br (ty : Nat → Nat) : ∀ {i g : Nat}, mW ty i ≤ g → g < i → ty g = 2
  | 0, g, _, h => by omega
  | i + 1, g, h1, h2 => by
    simp only [mW] at h1
    by_cases e : ty i = 2
    · rw [if_pos e] at h1
      by_cases z : g = i
      · rw [z]; exact e
      · exact mW_br ty h1 (by omega)
    · rw [if_neg e] at h1; omega
/-- the frame before the one that waits first is no bridge -/
theorem mW_at (ty : Nat → Nat) : ∀ i, mW ty i = 0 ∨ ∃ k, mW ty i = k + 1 ∧ ty k ≠ 2
  | 0 => Or.inl rfl
  | i + 1 => by
    simp only [mW]
    by_cases e : ty i = 2
    · rw [if_pos e]; exact mW_at ty i
    · rw [if_neg e]; exact Or.inr ⟨i, rfl, e⟩
theorem mPl_in (ty : Nat → Nat) {i g : Nat} (h : g < mW ty i) : mPl ty g < mW ty i := by
  unfold mPl
  by_cases e : ty g = 2
  · rw [if_pos e]
    rcases mW_at ty i with z | ⟨k, z, hk⟩
    · omega
    · have : g ≠ k := fun q => hk (q ▸ e)
      omega
  · rw [if_neg e]
    have := mW_le ty g
    omega
theorem mPl_inj (ty : Nat → Nat) {g f : Nat} (h : g < f) : mPl ty g ≠ mPl ty f := by
  unfold mPl
  by_cases e : ty g = 2
  · rw [if_pos e]
    by_cases e2 : ty f = 2
    · rw [if_pos e2]; omega
    · rw [if_neg e2]
      intro z
      rcases mW_at ty f with y | ⟨k, y, hk⟩
      · omega
      · exact hk (by rw [show k = g by omega]; exact e)
  · rw [if_neg e]
    have h1 := mW_le ty g
    by_cases e2 : ty f = 2
    · rw [if_pos e2]; omega
    · rw [if_neg e2]
      have := mW_step ty h e
      omega
theorem mPl_lt {ty : Nat → Nat} {n g : Nat} (hl : 0 < n → ty (n - 1) ≠ 2) (h : g < n) : mPl ty g < n := by
  have e : mW ty n = n := by
    cases n with
    | zero => rfl
    | succ n =>
      simp only [mW]
      rw [if_neg]
      exact hl (by omega)
  have := mPl_in ty (i := n) (g := g) (by rw [e]; exact h)
  omega
theorem mOr_pl {ty : Nat → Nat} : ∀ {n g : Nat}, g < n → mOr ty n (mPl ty g) = g
  | 0, g, h => by omega
  | n + 1, g, h => by
    simp only [mOr]
    by_cases e : g = n
    · rw [e, if_pos rfl]
    · rw [if_neg (fun z => mPl_inj ty (show g < n by omega) z.symm)]
      exact mOr_pl (by omega)
theorem mPl_onto {ty : Nat → Nat} {n p : Nat} (hl : 0 < n → ty (n - 1) ≠ 2) (h : p < n) : ∃ g, g < n ∧ mPl ty g = p :=
  fb_onto (fun _ hi => mPl_lt hl hi) (fun _ _ hij _ => mPl_inj ty hij) h
theorem mOr_lt {ty : Nat → Nat} {n p : Nat} (hl : 0 < n → ty (n - 1) ≠ 2) (h : p < n) : mOr ty n p < n ∧ mPl ty (mOr ty n p) = p := by
  obtain ⟨g, h1, rfl⟩ := mPl_onto hl h
  rw [mOr_pl h1]
  exact ⟨h1, rfl⟩
theorem mOr_inj {ty : Nat → Nat} {n p q : Nat} (hl : 0 < n → ty (n - 1) ≠ 2) (hp : p < n) (hq : q < n) (e : mOr ty n p = mOr ty n q) : p = q := by
  have h1 := (mOr_lt hl hp).2
  have h2 := (mOr_lt hl hq).2
  rw [e] at h1
  exact h1.symm.trans h2
end
section
/-! the component's layout: what arrange leaves -/
def mCut (tx mo : Nat → Nat) (i : Nat) : Bool := decide (0 < i) && decide (3 * tx i < 2 * mo i)
/-- the bounds of a clip -/
def mB (n : Nat) (tx mo : Nat → Nat) : Prop := n ≤ 60 ∧ ∀ i, i < n → 1 ≤ tx i ∧ tx i ≤ 4000 ∧ mo i ≤ 4000
/-- the component's clip is this one -/
def kC (σ : zS) (n : Nat) (tx mo : Nat → Nat) : Prop := σ.1 1 0 = iI n ∧ (∀ i, i < n → σ.1 2 i = iI (tx i)) ∧ ∀ i, i < n → σ.1 3 i = iI (mo i)
theorem kC.fr {σ τ : zS} {n : Nat} {tx mo : Nat → Nat} (h : kC σ n tx mo) (h1 : τ.1 1 = σ.1 1) (h2 : τ.1 2 = σ.1 2) (h3 : τ.1 3 = σ.1 3) : kC τ n tx mo := by
  unfold kC at h ⊢
  rw [h1, h2, h3]
  exact h
theorem iI_p (z : Int) : iI z + 1 = iI (z + 1) := iI_add z 1
theorem iI_m (z : Int) : iI z - 1 = iI (z - 1) := iI_sub z 1
theorem iI_pm (z : Int) : iI z + (-1) = iI (z - 1) := by
  show iI z + iI (-1) = _
  rw [iI_add]
  rfl
theorem cCut_iff {σ : zS} {n i : Nat} {tx mo : Nat → Nat} (hb : mB n tx mo) (hc : kC σ n tx mo) (hi : i < n) : cCut σ (iI i) ↔ mCut tx mo i = true := by
  have h60 := hb.1
  obtain ⟨b1, b2, b3⟩ := hb.2 i hi
  unfold cCut mCut
  rw [zAt_k (show i < zN 2 from Nat.lt_of_lt_of_le hi h60), zAt_k (show i < zN 3 from Nat.lt_of_lt_of_le hi h60), hc.2.1 i hi, hc.2.2 i hi]
  rw [show (3 : Int32) = iI 3 from rfl, show (2 : Int32) = iI 2 from rfl, show (0 : Int32) = iI 0 from rfl, iI_mul, iI_mul, iI_lt (by omega) (by omega) (by omega) (by omega), iI_lt (by omega) (by omega) (by omega) (by omega)]
  simp only [Bool.and_eq_true, decide_eq_true_eq]
  omega
def kFs (iv n : Nat) (cut : Nat → Bool) (σ : zS) (i : Nat) (τ : zS) : Prop := zFr [16, 18, 19] σ τ ∧ τ.1 16 0 = iI n ∧ τ.1 16 1 = iI (mS cut i) ∧ τ.1 16 2 = iI (mG iv cut i) ∧ (∀ k, k < i → τ.1 18 k = iI ((mS cut (k + 1) : Nat) - 1 : Int)) ∧ ∀ k, k < i → τ.1 19 k = iI (mF iv cut (k + 1))
theorem kFs_next {iv n i : Nat} {cut : Nat → Bool} {σ τ S : zS} (h : kFs iv n cut σ i τ) (hi : i < 60) (h1 : zFr [16, 18, 19] σ S) (h2 : S.1 16 0 = iI n) (h3 : S.1 16 1 = iI (mS cut (i + 1))) (h4 : S.1 16 2 = iI (mG iv cut (i + 1))) (h5 : S.1 18 = τ.1 18) (h6 : S.1 19 = τ.1 19) {a b : Int32} (ha : a = iI ((mS cut (i + 1) : Nat) - 1 : Int)) (hb : b = iI (mF iv cut (i + 1))) : kFs iv n cut σ (i + 1) (zPt (zPt S 18 (iI i) a) 19 (iI i) b) := by
  rw [zPt_k (show i < zN 19 from hi), zPt_k (show i < zN 18 from hi)]
  obtain ⟨g1, g2, g3, g4, g5, g6⟩ := h
  refine ⟨(h1.si (by decide) _ _).si (by decide) _ _, ?_, ?_, ?_, fun k hk => ?_, fun k hk => ?_⟩
  · simpa [zSI_at] using h2
  · simpa [zSI_at] using h3
  · simpa [zSI_at] using h4
  · simp only [zSI_at]
    by_cases e : k = i
    · subst e; simp [ha]
    · simp [e]
      rw [h5]; exact g5 k (by omega)
  · simp only [zSI_at]
    by_cases e : k = i
    · subst e; simp [hb]
    · simp [e]
      rw [h6]; exact g6 k (by omega)
theorem fs_loop {d n iv : Nat} {tx mo : Nat → Nat} {σ : zS} {post : zPo} {X : zX} (hX : zClosed none (zCall (d + 2)) post nX3_findStarts X) (hb : mB n tx mo) (hc : kC σ n tx mo) (hiv : iv ≤ 60) (h : ∀ τ, kFs iv n (mCut tx mo) σ n τ → post none τ) : ∀ (m i : Nat) (τ : zS), i + m = n → kFs iv n (mCut tx mo) σ i τ → X 15 [some (.ref 16), some (.ref 1), some (.int (iI iv)), some (.int (iI (mF iv (mCut tx mo) i))), some (.int (iI i)), none] [] τ
  | 0, i, τ, hm, hk => by
    have e : i = n := by omega
    subst e
    refine zq_X3_findStarts_15 hX _ _ _ τ (zIf_f ?_ (h τ hk))
    rw [hk.2.1]
    exact Int32.lt_irrefl
  | m + 1, i, τ, hm, hk => by
    have h60 := hb.1
    have hin : i < n := by omega
    have hct : kC τ n tx mo := hc.fr (hk.1.1 1 (by decide)) (hk.1.1 2 (by decide)) (hk.1.1 3 (by decide))
    have hcut := cCut_iff hb hct hin
    have hF := mF_le iv (mCut tx mo) i
    have go : ∀ (S : zS) (a b : Int32), kFs iv n (mCut tx mo) σ (i + 1) S → b = iI (mF iv (mCut tx mo) (i + 1)) → X 15 [some (.ref 16), some (.ref 1), some (.int (iI iv)), some (.int b), some (.int (iI i + 1)), none] [] S := by
      intro S a b hS hb2
      rw [hb2, iI_s]
      exact fs_loop hX hb hc hiv h m (i + 1) S (by omega) hS
    have hk0 := hk
    obtain ⟨g1, g2, g3, g4, g5, g6⟩ := hk
    have hSs : ∀ it : Bool, mOp (mCut tx mo) i = it → mS (mCut tx mo) (i + 1) = mS (mCut tx mo) i + if it then 1 else 0 := fun it e => by rw [← e]; rfl
    have hGs : ∀ it : Bool, mIt iv (mCut tx mo) i = it → mG iv (mCut tx mo) (i + 1) = mG iv (mCut tx mo) i + if it then 1 else 0 := fun it e => by rw [← e]; rfl
    have open1 : mOp (mCut tx mo) i = true → X 15 [some (.ref 16), some (.ref 1), some (.int (iI iv)), some (.int (iI i)), some (.int (iI i + 1)), none] [] (zPt (zPt (zSI (zSI τ 16 1 (τ.1 16 1 + 1)) 16 2 (τ.1 16 2 + 1)) 18 (iI i) (τ.1 16 1 + 1 - 1)) 19 (iI i) (iI i)) := by
      intro ho
      have hit : mIt iv (mCut tx mo) i = true := by simp [mIt, ho]
      have e1 := hSs true ho
      have e2 := hGs true hit
      have e3 : mF iv (mCut tx mo) (i + 1) = i := mF_it.mpr hit
      refine go _ 0 _ (kFs_next hk0 (by omega) ((g1.si (by decide) _ _).si (by decide) _ _) ?_ ?_ ?_ ?_ ?_ ?_ (by rw [e3])) (by rw [e3])
      · simpa [zSI_at] using g2
      · simp only [zSI_at]
        simp
        rw [g3, e1, iI_p]; rfl
      · simp only [zSI_at]
        simp
        rw [g4, e2, iI_p]; rfl
      · exact (zSI_1 (by decide)).trans (zSI_1 (by decide))
      · exact (zSI_1 (by decide)).trans (zSI_1 (by decide))
      · rw [g3, iI_p, iI_m, e1]; rfl
    refine zq_X3_findStarts_15 hX _ _ _ τ (zIf_t ?_ ⟨fun h0 => ?_, fun h0 => ⟨fun h1 => ?_, fun h1 => ⟨fun h2 => ?_, fun h2 => ?_⟩⟩⟩)
    · rw [g2, iI_lt (by omega) (by omega) (by omega) (by omega)]; omega
    · have : i = 0 := by
        have := (iI_eq (a := (i : Int)) (b := 0) (by omega) (by omega) (by omega) (by omega)).mp h0
        omega
      exact open1 (by simp [mOp, this])
    · exact open1 (by simp [mOp, hcut.mp h1])
    · have hi0 : i ≠ 0 := fun e => h0 (by subst e; rfl)
      have hno : mOp (mCut tx mo) i = false := by
        cases hh : mCut tx mo i with
        | true => exact absurd (hcut.mpr hh) h1
        | false => simp [mOp, hi0, hh]
      rw [iI_sub, iI_lt (by omega) (by omega) (by omega) (by omega)] at h2
      have hit : mIt iv (mCut tx mo) i = false := by
        simp only [mIt, hno, Bool.false_or, decide_eq_false_iff_not]
        omega
      have e1 := hSs false hno
      have e2 := hGs false hit
      have e3 : mF iv (mCut tx mo) (i + 1) = mF iv (mCut tx mo) i := by rw [mF_succ, hit]; rfl
      refine go _ 0 _ (kFs_next hk0 (by omega) g1 g2 (by rw [g3, e1]; rfl) (by rw [g4, e2]; rfl) rfl rfl ?_ (by rw [e3])) (by rw [e3])
      rw [g3, iI_m, e1]; rfl
    · have hi0 : i ≠ 0 := fun e => h0 (by subst e; rfl)
      have hno : mOp (mCut tx mo) i = false := by
        cases hh : mCut tx mo i with
        | true => exact absurd (hcut.mpr hh) h1
        | false => simp [mOp, hi0, hh]
      rw [iI_sub, iI_lt (by omega) (by omega) (by omega) (by omega)] at h2
      have hit : mIt iv (mCut tx mo) i = true := by
        simp only [mIt, hno, Bool.false_or, decide_eq_true_eq]
        omega
      have e1 := hSs false hno
      have e2 := hGs true hit
      have e3 : mF iv (mCut tx mo) (i + 1) = i := mF_it.mpr hit
      refine go _ 0 _ (kFs_next hk0 (by omega) (g1.si (by decide) _ _) ?_ ?_ ?_ ?_ ?_ ?_ (by rw [e3])) (by rw [e3])
      · simpa [zSI_at] using g2
      · simp only [zSI_at]
        simp
        rw [g3, e1]; rfl
      · simp only [zSI_at]
        simp
        rw [g4, e2, iI_p]; rfl
      · exact zSI_1 (by decide)
      · exact zSI_1 (by decide)
      · rw [g3, iI_m, e1]; rfl
theorem sp_findStarts {d n iv : Nat} {tx mo : Nat → Nat} {σ : zS} {k : zS → Prop} (hb : mB n tx mo) (hc : kC σ n tx mo) (hl : σ.1 16 0 = iI n) (hiv : iv ≤ 60) (h : ∀ τ, kFs iv n (mCut tx mo) σ n τ → k τ) : zCall (d + 3) nX3_findStarts [.ref 16, .ref 1, .int (iI iv)] σ (zPV k) :=
  ze_X3_findStarts _ σ (fun X hX => zq_X3_findStarts_0 hX _ σ (fs_loop (d := d) (iv := iv) (σ := σ) hX hb hc hiv (fun τ ht => ⟨rfl, h τ ht⟩) n 0 _ (by omega)
    ⟨((zFr.rf _ _).si (by decide) _ _).si (by decide) _ _, by simpa [zSI_at] using hl, by simp [zSI_at]; rfl, by simp [zSI_at]; rfl, fun k hk => by omega, fun k hk => by omega⟩))
-- measureGroups
def kMg (iv n : Nat) (cut : Nat → Bool) (σ : zS) (d : Nat) (τ : zS) : Prop := zFr [20] σ τ ∧ ∀ k, n - d ≤ k → k < n → τ.1 20 k = iI (mGl n iv cut (mF iv cut (k + 1)))
theorem mg_loop {d n iv : Nat} {cut : Nat → Bool} {σ : zS} {post : zPo} {X : zX} (hX : zClosed none (zCall (d + 1)) post nX3_measureGroups X) (hn : n ≤ 60) (hF : ∀ k, k < n → σ.1 19 k = iI (mF iv cut (k + 1))) (h : ∀ τ, kMg iv n cut σ n τ → post none τ) : ∀ (m j : Nat) (τ : zS), j + m = n → kMg iv n cut σ j τ → X 12 [some (.ref 16), some (.int (iI (mEd n iv cut j))), some (.int (iI ((m : Int) - 1))), none] [] τ
  | 0, j, τ, hm, hk => by
    have e : j = n := by omega
    subst e
    refine zq_X3_measureGroups_12 hX _ _ τ (zIf_t ?_ (h τ hk))
    decide
  | m + 1, j, τ, hm, hk => by
    obtain ⟨g1, g2⟩ := hk
    have e0 : ((m + 1 : Nat) : Int) - 1 = ((m : Nat) : Int) := by omega
    have e1 : zAt τ 19 (iI (((m + 1 : Nat) : Int) - 1)) = iI (mF iv cut (m + 1)) := by
      rw [e0, zAt_k (show m < zN 19 from Nat.lt_of_lt_of_le (by omega) hn), g1.1 19 (by decide)]
      exact hF m (by omega)
    have hlt := mF_lt iv cut m
    obtain ⟨q1, q2, q3, q4⟩ := mEd_spec (n := n) (iv := iv) (cut := cut) j (by omega)
    have hgl := mGl_spec (n := n) (iv := iv) (cut := cut) (f := m) (by omega)
    rw [show n - 1 - m = j by omega] at hgl
    have hv : iI (mEd n iv cut j) - iI (mF iv cut (m + 1)) = iI (mGl n iv cut (mF iv cut (m + 1))) := by
      rw [iI_sub, hgl]
      congr 1
      omega
    have hnext : kMg iv n cut σ (j + 1) (zPt τ 20 (iI (((m + 1 : Nat) : Int) - 1)) (iI (mEd n iv cut j) - zAt τ 19 (iI (((m + 1 : Nat) : Int) - 1)))) := by
      rw [e1, hv, e0, zPt_k (show m < zN 20 from Nat.lt_of_lt_of_le (by omega) hn)]
      refine ⟨g1.si (by decide) _ _, fun k h1 h2 => ?_⟩
      rw [zSI_at]
      by_cases e : k = m
      · subst e; simp
      · rw [if_neg (fun z => e z.2)]
        exact g2 k (by omega) h2
    have e5 : iI (((m + 1 : Nat) : Int) - 1) + (-1) = iI ((m : Int) - 1) := by rw [e0, iI_pm]
    refine zq_X3_measureGroups_12 hX _ _ τ (zIf_f ?_ ⟨fun h1 => ?_, fun h1 => ?_⟩)
    · rw [show (0 : Int32) = iI 0 from rfl, iI_lt (by omega) (by omega) (by omega) (by omega)]; omega
    · rw [e1, iI_eq (by omega) (by omega) (by omega) (by omega)] at h1
      have h2 : mIt iv cut m = true := mF_it.mp (by omega)
      have h3 : mEd n iv cut (j + 1) = m := by
        simp only [mEd]
        rw [show n - 1 - j = m by omega, if_pos h2]
      have := mg_loop hX hn hF h m (j + 1) _ (by omega) hnext
      rw [h3] at this
      rw [e5, e0]
      rw [e0] at this
      exact this
    · rw [e1, iI_eq (by omega) (by omega) (by omega) (by omega)] at h1
      have h2 : ¬ mIt iv cut m = true := fun z => h1 (by rw [mF_it.mpr z]; omega)
      have h3 : mEd n iv cut (j + 1) = mEd n iv cut j := by
        simp only [mEd]
        rw [show n - 1 - j = m by omega, if_neg h2]
      have := mg_loop hX hn hF h m (j + 1) _ (by omega) hnext
      rw [h3] at this
      rw [e5]
      exact this
theorem sp_measureGroups {d n iv : Nat} {cut : Nat → Bool} {σ : zS} {k : zS → Prop} (hn : n ≤ 60) (hl : σ.1 16 0 = iI n) (hF : ∀ k, k < n → σ.1 19 k = iI (mF iv cut (k + 1))) (h : ∀ τ, kMg iv n cut σ n τ → k τ) : zCall (d + 2) nX3_measureGroups [.ref 16] σ (zPV k) := by
  refine ze_X3_measureGroups σ (fun X hX => zq_X3_measureGroups_0 hX σ ?_)
  rw [hl, iI_m]
  exact mg_loop hX hn hF (fun τ ht => ⟨rfl, h τ ht⟩) n 0 σ (by omega) ⟨zFr.rf _ _, fun k h1 h2 => by omega⟩
-- chooseTypes
def kCt (n : Nat) (ty : Nat → Nat) (σ : zS) (i : Nat) (τ : zS) : Prop := zFr [17] σ τ ∧ ∀ k, k < i → τ.1 17 k = iI (ty k)
theorem ct_loop {d n iv br : Nat} {cut : Nat → Bool} {σ : zS} {post : zPo} {X : zX} (hX : zClosed none (zCall (d + 1)) post nX3_chooseTypes X) (hn : n ≤ 60) (hbr : br ≤ 3) (hl : σ.1 16 0 = iI n) (hF : ∀ k, k < n → σ.1 19 k = iI (mF iv cut (k + 1))) (hG : ∀ k, k < n → σ.1 20 k = iI (mGl n iv cut (mF iv cut (k + 1)))) (h : ∀ τ, kCt n (mTy n iv br cut) σ n τ → post none τ) : ∀ (m i : Nat) (τ : zS), i + m = n → kCt n (mTy n iv br cut) σ i τ → X 2 [some (.ref 16), some (.int (iI br)), some (.int (iI i)), none, none] [] τ
  | 0, i, τ, hm, hk => by
    have e : i = n := by omega
    subst e
    refine zq_X3_chooseTypes_2 hX _ _ τ (zIf_f ?_ (h τ hk))
    rw [hk.1.1 16 (by decide), hl]
    exact Int32.lt_irrefl
  | m + 1, i, τ, hm, hk => by
    obtain ⟨g1, g2⟩ := hk
    have hin : i < n := by omega
    have e1 : zAt τ 19 (iI i) = iI (mF iv cut (i + 1)) := by
      rw [zAt_k (show i < zN 19 from Nat.lt_of_lt_of_le hin hn), g1.1 19 (by decide)]
      exact hF i hin
    have e2 : zAt τ 20 (iI i) = iI (mGl n iv cut (mF iv cut (i + 1))) := by
      rw [zAt_k (show i < zN 20 from Nat.lt_of_lt_of_le hin hn), g1.1 20 (by decide)]
      exact hG i hin
    have hlt := mF_lt iv cut i
    have hgl := fb_ct_le (fun j => decide (mF iv cut (j + 1) = mF iv cut (i + 1))) n
    have hgl2 : mGl n iv cut (mF iv cut (i + 1)) ≤ 60 := by unfold mGl; omega
    have hgl1 : 1 ≤ mGl n iv cut (mF iv cut (i + 1)) := by
      have := mGl_spec (n := n) (iv := iv) (cut := cut) hin
      obtain ⟨q1, q2, q3, q4⟩ := mEd_spec (n := n) (iv := iv) (cut := cut) (n - 1 - i) (by omega)
      omega
    have go : ∀ t : Nat, mTy n iv br cut i = t → X 2 [some (.ref 16), some (.int (iI br)), some (.int (iI i + 1)), none, none] [] (zPt τ 17 (iI i) (iI t)) := by
      intro t ht
      rw [iI_s, zPt_k (show i < zN 17 from Nat.lt_of_lt_of_le hin hn)]
      refine ct_loop hX hn hbr hl hF hG h m (i + 1) _ (by omega) ⟨g1.si (by decide) _ _, fun k hk => ?_⟩
      rw [zSI_at]
      by_cases e : k = i
      · subst e; rw [if_pos ⟨rfl, rfl⟩, ht]
      · rw [if_neg (fun z => e z.2)]; exact g2 k (by omega)
    have c1 : iI i - iI (mF iv cut (i + 1)) = iI ((i - mF iv cut (i + 1) : Nat) : Int) := by
      rw [iI_sub]; congr 1; omega
    have c2 : iI (mGl n iv cut (mF iv cut (i + 1))) - 1 = iI ((mGl n iv cut (mF iv cut (i + 1)) - 1 : Nat) : Int) := by
      rw [iI_m]; congr 1; omega
    refine zq_X3_chooseTypes_2 hX _ _ τ (zIf_t ?_ ?_)
    · rw [g1.1 16 (by decide), hl, iI_lt (by omega) (by omega) (by omega) (by omega)]; omega
    · rw [e1, e2, c1, c2]
      have z0 : ∀ x : Nat, x ≤ 60 → (iI (x : Int) = 0 ↔ x = 0) := fun x hx => by
        rw [show (0 : Int32) = iI 0 from rfl, iI_eq (by omega) (by omega) (by omega) (by omega)]; omega
      have hmod : ((i - mF iv cut (i + 1) : Nat) : Int) % ((br : Int) + 1) = (((i - mF iv cut (i + 1)) % (br + 1) : Nat) : Int) := (Int.natCast_emod _ _).symm
      have hml : (i - mF iv cut (i + 1)) % (br + 1) < br + 1 := Nat.mod_lt _ (by omega)
      refine ⟨fun a => ⟨fun b => ?_, fun b => ?_⟩, fun a => ⟨fun b => ?_, fun b => ⟨fun c => ?_, fun c => ?_⟩⟩⟩
      · rw [z0 _ (by omega)] at b
        exact go 0 (by unfold mTy; rw [if_pos b])
      · rw [z0 _ (by omega)] at b
        rw [iI_eq (by omega) (by omega) (by omega) (by omega)] at a
        exact go 1 (by unfold mTy; rw [if_neg b, if_pos (Or.inl (by omega))])
      · rw [z0 _ (by omega)] at b
        exact go 0 (by unfold mTy; rw [if_pos b])
      · rw [z0 _ (by omega)] at b
        obtain ⟨-, c⟩ := c
        rw [iI_p, iI_rem (by omega) (by omega) (by omega) (by omega), hmod, show (0 : Int32) = iI 0 from rfl, iI_eq (by omega) (by omega) (by omega) (by omega)] at c
        exact go 1 (by unfold mTy; rw [if_neg b, if_pos (Or.inr (by omega))])
      · rw [z0 _ (by omega)] at b
        rw [iI_eq (by omega) (by omega) (by omega) (by omega)] at a
        refine go 2 (by unfold mTy; rw [if_neg b, if_neg]; rintro (y | y)
                        · exact a (by omega)
                        · refine c ⟨?_, ?_⟩
                          · rw [iI_p, show (0 : Int32) = iI 0 from rfl, iI_eq (by omega) (by omega) (by omega) (by omega)]; omega
                          · rw [iI_p, iI_rem (by omega) (by omega) (by omega) (by omega), hmod, show (0 : Int32) = iI 0 from rfl, iI_eq (by omega) (by omega) (by omega) (by omega)]; omega)
theorem sp_chooseTypes {d n iv br : Nat} {cut : Nat → Bool} {σ : zS} {k : zS → Prop} (hn : n ≤ 60) (hbr : br ≤ 3) (hl : σ.1 16 0 = iI n) (hF : ∀ k, k < n → σ.1 19 k = iI (mF iv cut (k + 1))) (hG : ∀ k, k < n → σ.1 20 k = iI (mGl n iv cut (mF iv cut (k + 1)))) (h : ∀ τ, kCt n (mTy n iv br cut) σ n τ → k τ) : zCall (d + 2) nX3_chooseTypes [.ref 16, .int (iI br)] σ (zPV k) :=
  ze_X3_chooseTypes _ σ (fun X hX => zq_X3_chooseTypes_0 hX _ σ (ct_loop hX hn hbr hl hF hG (fun τ ht => ⟨rfl, h τ ht⟩) n 0 σ (by omega) ⟨zFr.rf _ _, fun k hk => by omega⟩))
end
section
/-! the component's layout: the coding order, the works, the whole -/
def kPo (ty : Nat → Nat) (σ : zS) (i : Nat) (τ : zS) : Prop := zFr [22, 23] σ τ ∧ ∀ g, g < mW ty i → τ.1 22 g = iI (mPl ty g) ∧ τ.1 23 (mPl ty g) = iI g
def kPi (ty : Nat → Nat) (σ : zS) (i j : Nat) (τ : zS) : Prop := zFr [22, 23] σ τ ∧ (∀ g, g < mW ty i → τ.1 22 g = iI (mPl ty g) ∧ τ.1 23 (mPl ty g) = iI g) ∧ (τ.1 22 i = iI (mW ty i) ∧ τ.1 23 (mW ty i) = iI i) ∧ ∀ k, k < j → τ.1 22 (mW ty i + k) = iI ((mW ty i + k + 1 : Nat)) ∧ τ.1 23 (mW ty i + k + 1) = iI ((mW ty i + k : Nat))
theorem sp_putAt {d p f : Nat} {σ : zS} {k : zS → Prop} (hp : p < 60) (hf : f < 60) (h : k (zSI (zSI σ 23 p (iI f)) 22 f (iI p))) : zCall (d + 2) nX3_putAt [.ref 16, .int (iI p), .int (iI f)] σ (zPV k) := by
  refine ze_X3_putAt _ _ σ (fun X hX => zq_X3_putAt_0 hX _ _ σ ⟨rfl, ?_⟩)
  rw [zPt_k (show f < zN 22 from hf), zPt_k (show p < zN 23 from hp)]
  exact h
theorem po_inner {d n : Nat} {ty : Nat → Nat} {σ : zS} {post : zPo} {X : zX} (hX : zClosed none (zCall (d + 2)) post nX3_putInOrder X) {i : Nat} (hi : i < 60) (h : ∀ τ, kPi ty σ i (i - mW ty i) τ → X 6 [some (.ref 16), some (.int (iI ((i + 1 : Nat) : Int))), some (.int (iI ((i + 1 : Nat) : Int))), some (.int (iI ((i + 1 : Nat) : Int))), none] [] τ) : ∀ (m j : Nat) (τ : zS), mW ty i + j + m = i → kPi ty σ i j τ → X 38 [some (.ref 16), some (.int (iI ((mW ty i + j + 1 : Nat)))), none, some (.int (iI i)), some (.int (iI ((mW ty i + j : Nat))))] [] τ
  | 0, j, τ, hm, hk => by
    have hw := mW_le ty i
    refine zq_X3_putInOrder_38 hX _ _ _ τ (zIf_f ?_ ?_)
    · rw [iI_lt (by omega) (by omega) (by omega) (by omega)]; omega
    · have := h τ (by rw [show i - mW ty i = j by omega]; exact hk)
      rw [iI_s, show mW ty i + j + 1 = i + 1 by omega]
      exact this
  | m + 1, j, τ, hm, hk => by
    have hw := mW_le ty i
    refine zq_X3_putInOrder_38 hX _ _ _ τ (zIf_t ?_ ?_)
    · rw [iI_lt (by omega) (by omega) (by omega) (by omega)]; omega
    · refine sp_putAt (d := d) (by omega) (by omega) ?_
      rw [iI_s, iI_s]
      refine po_inner (n := n) hX hi h m (j + 1) _ (by omega) ?_
      obtain ⟨g1, g2, g3, g4⟩ := hk
      refine ⟨(g1.si (by decide) _ _).si (by decide) _ _, fun g hg => ?_, ⟨?_, ?_⟩, fun k hkk => ?_⟩
      · have := mPl_in ty hg
        obtain ⟨a1, a2⟩ := g2 g hg
        simp only [zSI_at]
        rw [if_neg (by omega), if_neg (by omega), if_neg (by omega), if_neg (by omega)]
        exact ⟨a1, a2⟩
      · simp only [zSI_at]
        rw [if_neg (by omega), if_neg (by omega)]
        exact g3.1
      · simp only [zSI_at]
        rw [if_neg (by omega), if_neg (by omega)]
        exact g3.2
      · simp only [zSI_at]
        by_cases e : k = j
        · subst e
          exact ⟨by simp, by simp⟩
        · obtain ⟨a1, a2⟩ := g4 k (by omega)
          rw [if_neg (by omega), if_neg (by omega), if_neg (by omega), if_neg (by omega)]
          exact ⟨a1, a2⟩
theorem po_loop {d n : Nat} {ty : Nat → Nat} {σ : zS} {post : zPo} {X : zX} (hX : zClosed none (zCall (d + 2)) post nX3_putInOrder X) (hn : n ≤ 60) (hl : σ.1 16 0 = iI n) (ht2 : ∀ k, k < n → ty k ≤ 2) (hty : ∀ k, k < n → σ.1 17 k = iI (ty k)) (h : ∀ τ, kPo ty σ n τ → post none τ) : ∀ (m i : Nat) (τ : zS), i + m = n → kPo ty σ i τ → X 6 [some (.ref 16), some (.int (iI (mW ty i))), some (.int (iI (mW ty i))), some (.int (iI i)), none] [] τ
  | 0, i, τ, hm, hk => by
    have e : i = n := by omega
    subst e
    refine zq_X3_putInOrder_6 hX _ _ _ τ (zIf_f ?_ (h τ hk))
    rw [hk.1.1 16 (by decide), hl]
    exact Int32.lt_irrefl
  | m + 1, i, τ, hm, hk => by
    have hw := mW_le ty i
    have hin : i < n := by omega
    have e1 : zAt τ 17 (iI i) = iI (ty i) := by
      rw [zAt_k (show i < zN 17 from Nat.lt_of_lt_of_le hin hn), hk.1.1 17 (by decide)]
      exact hty i hin
    have ht := ht2 i hin
    refine zq_X3_putInOrder_6 hX _ _ _ τ (zIf_t ?_ ⟨fun a => ?_, fun a => ?_⟩)
    · rw [hk.1.1 16 (by decide), hl, iI_lt (by omega) (by omega) (by omega) (by omega)]; omega
    · rw [e1, show (2 : Int32) = iI 2 from rfl, iI_eq (by omega) (by omega) (by omega) (by omega)] at a
      have e2 : mW ty (i + 1) = mW ty i := by simp only [mW]; rw [if_pos (by omega)]
      rw [iI_s]
      have := po_loop hX hn hl ht2 hty h m (i + 1) τ (by omega) ⟨hk.1, by rw [e2]; exact hk.2⟩
      rw [e2] at this
      exact this
    · rw [e1, show (2 : Int32) = iI 2 from rfl, iI_eq (by omega) (by omega) (by omega) (by omega)] at a
      have ha : ty i ≠ 2 := by omega
      have e2 : mW ty (i + 1) = i + 1 := by simp only [mW]; rw [if_neg ha]
      refine sp_putAt (d := d) (by omega) (by omega) ?_
      rw [iI_s]
      refine po_inner (n := n) (σ := σ) hX (i := i) (by omega) (fun υ hu => ?_) (i - mW ty i) 0 _ (by omega) ?_
      · have := po_loop hX hn hl ht2 hty h m (i + 1) υ (by omega) ⟨hu.1, fun g hg => ?_⟩
        · rw [e2] at this
          exact this
        · rw [e2] at hg
          obtain ⟨g1, g2, g3, g4⟩ := hu
          by_cases z : g < mW ty i
          · exact g2 g z
          · by_cases z2 : g = i
            · subst z2
              have : mPl ty g = mW ty g := by unfold mPl; rw [if_neg ha]
              rw [this]
              exact g3
            · have hb := mW_br ty (i := i) (g := g) (by omega) (by omega)
              have : mPl ty g = g + 1 := by unfold mPl; rw [if_pos hb]
              rw [this]
              have := g4 (g - mW ty i) (by omega)
              rw [show mW ty i + (g - mW ty i) = g by omega] at this
              exact this
      · obtain ⟨g1, g2⟩ := hk
        refine ⟨(g1.si (by decide) _ _).si (by decide) _ _, fun g hg => ?_, ⟨?_, ?_⟩, fun k hkk => by omega⟩
        · have := mPl_in ty hg
          obtain ⟨a1, a2⟩ := g2 g hg
          simp only [zSI_at]
          rw [if_neg (by omega), if_neg (by omega), if_neg (by omega), if_neg (by omega)]
          exact ⟨a1, a2⟩
        · simp [zSI_at]
        · simp [zSI_at]
theorem sp_putInOrder {d n : Nat} {ty : Nat → Nat} {σ : zS} {k : zS → Prop} (hn : n ≤ 60) (hl : σ.1 16 0 = iI n) (ht2 : ∀ k, k < n → ty k ≤ 2) (hty : ∀ k, k < n → σ.1 17 k = iI (ty k)) (h : ∀ τ, kPo ty σ n τ → k τ) : zCall (d + 3) nX3_putInOrder [.ref 16] σ (zPV k) :=
  ze_X3_putInOrder σ (fun X hX => zq_X3_putInOrder_0 hX σ (po_loop hX hn hl ht2 hty (fun τ ht => ⟨rfl, h τ ht⟩) n 0 σ (by omega) ⟨zFr.rf _ _, fun g hg => by simp [mW] at hg⟩))
-- works
def mWk (ty tx mo : Nat → Nat) (k : Nat) : Nat := if ty k = 0 then 4 * tx k else if ty k = 1 then tx k + 2 * mo k else tx k / 2 + mo k
theorem mWk_le {n : Nat} {ty tx mo : Nat → Nat} (hb : mB n tx mo) {k : Nat} (hk : k < n) : mWk ty tx mo k ≤ 16000 := by
  obtain ⟨b1, b2, b3⟩ := hb.2 k hk
  unfold mWk
  repeat' split
  all_goals omega
theorem cWk_iI {t x m : Nat} (ht : t ≤ 2) (hx : x ≤ 4000) (hm : m ≤ 4000) : cWk (iI t) (iI x) (iI m) = iI ((if t = 0 then 4 * x else if t = 1 then x + 2 * m else x / 2 + m : Nat) : Int) := by
  unfold cWk
  rw [show (0 : Int32) = iI 0 from rfl, show (1 : Int32) = iI 1 from rfl, show (4 : Int32) = iI 4 from rfl, show (2 : Int32) = iI 2 from rfl, iI_mul, iI_mul, iI_add, iI_divN (by omega) (by omega) (by omega) (by omega), iI_add]
  by_cases h0 : t = 0
  · rw [if_pos (by rw [h0]; rfl), if_pos h0]
    exact congrArg iI (by omega)
  · rw [if_neg (fun z => h0 (by rw [iI_eq (by omega) (by omega) (by omega) (by omega)] at z; omega)), if_neg h0]
    by_cases h1 : t = 1
    · rw [if_pos (by rw [h1]; rfl), if_pos h1]
      exact congrArg iI (by omega)
    · rw [if_neg (fun z => h1 (by rw [iI_eq (by omega) (by omega) (by omega) (by omega)] at z; omega)), if_neg h1]
      exact congrArg iI (by omega)
def kWw (w : Nat → Nat) (σ : zS) (i : Nat) (τ : zS) : Prop := zFr [21] σ τ ∧ ∀ k, k < i → τ.1 21 k = iI (w k)
theorem ww_loop {d n : Nat} {ty tx mo : Nat → Nat} {σ : zS} {post : zPo} {X : zX} (hX : zClosed none (zCall (d + 1)) post nX3_weighWorks X) (hb : mB n tx mo) (hc : kC σ n tx mo) (hl : σ.1 16 0 = iI n) (ht2 : ∀ k, k < n → ty k ≤ 2) (hty : ∀ k, k < n → σ.1 17 k = iI (ty k)) (h : ∀ τ, kWw (mWk ty tx mo) σ n τ → post none τ) : ∀ (m i : Nat) (τ : zS), i + m = n → kWw (mWk ty tx mo) σ i τ → X 2 [some (.ref 16), some (.ref 1), some (.int (iI i))] [] τ
  | 0, i, τ, hm, hk => by
    have e : i = n := by omega
    subst e
    refine zq_X3_weighWorks_2 hX _ τ (zIf_f ?_ (h τ hk))
    rw [hk.1.1 16 (by decide), hl]
    exact Int32.lt_irrefl
  | m + 1, i, τ, hm, hk => by
    have hin : i < n := by omega
    have h60 := hb.1
    obtain ⟨b1, b2, b3⟩ := hb.2 i hin
    refine zq_X3_weighWorks_2 hX _ τ (zIf_t ?_ ?_)
    · rw [hk.1.1 16 (by decide), hl, iI_lt (by omega) (by omega) (by omega) (by omega)]; omega
    · have hi6 : i < 60 := by omega
      rw [iI_s, zPt_k (show i < zN 21 from hi6), zAt_k (show i < zN 17 from hi6), zAt_k (show i < zN 2 from hi6), zAt_k (show i < zN 3 from hi6), hk.1.1 17 (by decide), hk.1.1 2 (by decide), hk.1.1 3 (by decide), hty i hin, hc.2.1 i hin, hc.2.2 i hin, cWk_iI (ht2 i hin) b2 b3]
      refine ww_loop hX hb hc hl ht2 hty h m (i + 1) _ (by omega) ⟨hk.1.si (by decide) _ _, fun k hkk => ?_⟩
      rw [zSI_at]
      by_cases e : k = i
      · subst e; rw [if_pos ⟨rfl, rfl⟩]; rfl
      · rw [if_neg (fun z => e z.2)]; exact hk.2 k (by omega)
theorem sp_weighWorks {d n : Nat} {ty tx mo : Nat → Nat} {σ : zS} {k : zS → Prop} (hb : mB n tx mo) (hc : kC σ n tx mo) (hl : σ.1 16 0 = iI n) (ht2 : ∀ k, k < n → ty k ≤ 2) (hty : ∀ k, k < n → σ.1 17 k = iI (ty k)) (h : ∀ τ, kWw (mWk ty tx mo) σ n τ → k τ) : zCall (d + 2) nX3_weighWorks [.ref 16, .ref 1] σ (zPV k) :=
  ze_X3_weighWorks σ (fun X hX => zq_X3_weighWorks_0 hX σ (ww_loop hX hb hc hl ht2 hty (fun τ ht => ⟨rfl, h τ ht⟩) n 0 σ (by omega) ⟨zFr.rf _ _, fun g hg => by omega⟩))
/-- the component's layout is that of the clip -/
def mSc (cut : Nat → Bool) (k : Nat) : Nat := mS cut (k + 1) - 1
def kL (σ : zS) (n iv br : Nat) (tx mo : Nat → Nat) : Prop :=
  σ.1 16 0 = iI n ∧ σ.1 16 1 = iI (mS (mCut tx mo) n) ∧ σ.1 16 2 = iI (mG iv (mCut tx mo) n) ∧ (∀ k, k < n → σ.1 17 k = iI (mTy n iv br (mCut tx mo) k)) ∧ (∀ k, k < n → σ.1 18 k = iI (mSc (mCut tx mo) k)) ∧ (∀ k, k < n → σ.1 19 k = iI (mF iv (mCut tx mo) (k + 1))) ∧ (∀ k, k < n → σ.1 20 k = iI (mGl n iv (mCut tx mo) (mF iv (mCut tx mo) (k + 1)))) ∧ (∀ k, k < n → σ.1 21 k = iI (mWk (mTy n iv br (mCut tx mo)) tx mo k)) ∧ (∀ k, k < n → σ.1 22 k = iI (mPl (mTy n iv br (mCut tx mo)) k)) ∧ ∀ k, k < n → σ.1 23 k = iI (mOr (mTy n iv br (mCut tx mo)) n k)
def LR : List Nat := [16, 17, 18, 19, 20, 21, 22, 23]
theorem mW_n {n iv br : Nat} {cut : Nat → Bool} : mW (mTy n iv br cut) n = n := by
  cases n with
  | zero => rfl
  | succ n =>
    simp only [mW]
    rw [if_neg]
    have := mTy_last (n := n + 1) (iv := iv) (br := br) (cut := cut) (by omega)
    exact this
theorem sp_arrange {d n iv br : Nat} {tx mo : Nat → Nat} {σ : zS} {k : zS → Prop} (hb : mB n tx mo) (hc : kC σ n tx mo) (hiv : iv ≤ 60) (hbr : br ≤ 3) (hs0 : σ.1 4 0 = iI iv) (hs1 : σ.1 4 1 = iI br) (h : ∀ τ, zFr LR σ τ → kL τ n iv br tx mo → k τ) : zCall (d + 4) nX3_arrange [.ref 16, .ref 1, .ref 4] σ (zPV k) := by
  have h60 := hb.1
  refine ze_X3_arrange σ (fun X hX => zq_X3_arrange_0 hX σ ?_)
  rw [hs0, hc.1]
  have f0 : zFr LR σ (zSI σ 16 0 (iI n)) := (zFr.rf _ _).si (by decide) _ _
  have c0 : kC (zSI σ 16 0 (iI n)) n tx mo := hc.fr (f0.1 1 (by decide)) (f0.1 2 (by decide)) (f0.1 3 (by decide))
  refine sp_findStarts (d := d) hb c0 (by simp [zSI_at]) hiv (fun σ1 k1 => ?_)
  obtain ⟨g1, g2, g3, g4, g5, g6⟩ := k1
  have f1 := f0.tr g1 (by decide)
  refine sp_measureGroups (d := d + 1) (iv := iv) (cut := mCut tx mo) h60 g2 g6 (fun σ2 k2 => ?_)
  have f2 := f1.tr k2.1 (by decide)
  rw [f2.1 4 (by decide), hs1]
  have l2 : σ2.1 16 0 = iI n := by rw [k2.1.1 16 (by decide)]; exact g2
  have F2 : ∀ k, k < n → σ2.1 19 k = iI (mF iv (mCut tx mo) (k + 1)) := fun k hk => by rw [k2.1.1 19 (by decide)]; exact g6 k hk
  refine sp_chooseTypes (d := d + 1) (iv := iv) (br := br) (cut := mCut tx mo) h60 hbr l2 F2 (fun k hk => k2.2 k (by omega) hk) (fun σ3 k3 => ?_)
  have f3 := f2.tr k3.1 (by decide)
  have l3 : σ3.1 16 0 = iI n := by rw [k3.1.1 16 (by decide)]; exact l2
  refine sp_putInOrder (d := d) (ty := mTy n iv br (mCut tx mo)) h60 l3 (fun k _ => mTy_lt n iv br _ k) k3.2 (fun σ4 k4 => ?_)
  have f4 := f3.tr k4.1 (by decide)
  have l4 : σ4.1 16 0 = iI n := by rw [k4.1.1 16 (by decide)]; exact l3
  have t4 : ∀ k, k < n → σ4.1 17 k = iI (mTy n iv br (mCut tx mo) k) := fun k hk => by rw [k4.1.1 17 (by decide)]; exact k3.2 k hk
  refine sp_weighWorks (d := d + 1) (ty := mTy n iv br (mCut tx mo)) hb (hc.fr (f4.1 1 (by decide)) (f4.1 2 (by decide)) (f4.1 3 (by decide))) l4 (fun k _ => mTy_lt n iv br _ k) t4 (fun σ5 k5 => ?_)
  have f5 := f4.tr k5.1 (by decide)
  refine ⟨rfl, h σ5 f5 ⟨?_, ?_, ?_, fun k hk => ?_, fun k hk => ?_, fun k hk => ?_, fun k hk => ?_, k5.2, fun k hk => ?_, fun k hk => ?_⟩⟩
  · rw [k5.1.1 16 (by decide)]; exact l4
  · rw [k5.1.1 16 (by decide), k4.1.1 16 (by decide), k3.1.1 16 (by decide), k2.1.1 16 (by decide)]; exact g3
  · rw [k5.1.1 16 (by decide), k4.1.1 16 (by decide), k3.1.1 16 (by decide), k2.1.1 16 (by decide)]; exact g4
  · rw [k5.1.1 17 (by decide)]; exact t4 k hk
  · rw [k5.1.1 18 (by decide), k4.1.1 18 (by decide), k3.1.1 18 (by decide), k2.1.1 18 (by decide), g5 k hk]
    have := mS_pos (cut := mCut tx mo) (i := k + 1) (by omega)
    unfold mSc
    congr 1
    omega
  · rw [k5.1.1 19 (by decide), k4.1.1 19 (by decide), k3.1.1 19 (by decide)]; exact F2 k hk
  · rw [k5.1.1 20 (by decide), k4.1.1 20 (by decide), k3.1.1 20 (by decide)]; exact k2.2 k (by omega) hk
  · rw [k5.1.1 22 (by decide)]; exact (k4.2 k (by rw [mW_n]; exact hk)).1
  · rw [k5.1.1 23 (by decide)]
    have hlast : 0 < n → mTy n iv br (mCut tx mo) (n - 1) ≠ 2 := fun z => mTy_last z
    obtain ⟨o1, o2⟩ := mOr_lt (ty := mTy n iv br (mCut tx mo)) hlast hk
    have := (k4.2 (mOr (mTy n iv br (mCut tx mo)) n k) (by rw [mW_n]; exact o1)).2
    rw [o2] at this
    exact this
end
section
/-! the abstract state; steps, bits and losses -/
/-- frames, textures, motions, the eight settings, weights, zones (first, last, offset), is there a plan, its quantizers -/
abbrev mA : Type := Nat × (Nat → Nat) × (Nat → Nat) × (Nat → Nat) × (Nat → Nat) × (Nat → Nat) × (Nat → Nat) × (Nat → Int) × Bool × (Nat → Nat)
def an (a : mA) : Nat := a.1
def atx (a : mA) : Nat → Nat := a.2.1
def amo (a : mA) : Nat → Nat := a.2.2.1
def aS (a : mA) : Nat → Nat := a.2.2.2.1
def aw (a : mA) : Nat → Nat := a.2.2.2.2.1
def azf (a : mA) : Nat → Nat := a.2.2.2.2.2.1
def azl (a : mA) : Nat → Nat := a.2.2.2.2.2.2.1
def azo (a : mA) : Nat → Int := a.2.2.2.2.2.2.2.1
def amd (a : mA) : Bool := a.2.2.2.2.2.2.2.2.1
def aq (a : mA) : Nat → Nat := a.2.2.2.2.2.2.2.2.2
/-- the bounds of the document -/
def aB (a : mA) : Prop := mB (an a) (atx a) (amo a) ∧ (1 ≤ aS a 0 ∧ aS a 0 ≤ 60) ∧ aS a 1 ≤ 3 ∧ (aS a 2 ≤ aS a 3 ∧ aS a 3 ≤ 51) ∧ (100 ≤ aS a 4 ∧ aS a 4 ≤ 1000000) ∧ aS a 5 ≤ 100 ∧ aS a 6 ≤ 100000 ∧ aS a 7 ≤ 6 ∧ (∀ j, j < 60 → 1 ≤ aw a j ∧ aw a j ≤ 8) ∧ (∀ j, j < aS a 7 → azf a j ≤ azl a j ∧ azl a j ≤ 59 ∧ -10 ≤ azo a j ∧ azo a j ≤ 10) ∧ (∀ i, i < 60 → aq a i ≤ 51) ∧ (amd a = true → 0 < an a)
/-- the component's clip, settings and plan, at these roles, are those of a -/
def kAt (σ : zS) (c s p : Nat) (a : mA) : Prop :=
  σ.1 c 0 = iI (an a) ∧ (∀ i, i < an a → σ.1 (c + 1) i = iI (atx a i)) ∧ (∀ i, i < an a → σ.1 (c + 2) i = iI (amo a i)) ∧ (∀ j, j < 8 → σ.1 s j = iI (aS a j)) ∧ (∀ j, j < 60 → σ.1 (s + 1) j = iI (aw a j)) ∧ (∀ j, j < aS a 7 → σ.1 (s + 2) j = iI (azf a j)) ∧ (∀ j, j < aS a 7 → σ.1 (s + 3) j = iI (azl a j)) ∧ (∀ j, j < aS a 7 → σ.1 (s + 4) j = iI (azo a j)) ∧ σ.1 p 0 = (if amd a = true then 1 else 0) ∧ (amd a = true → ∀ i, i < an a → σ.1 (p + 1) i = iI (aq a i))
theorem kAt.kC {σ : zS} {a : mA} (h : kAt σ 1 4 9 a) : kC σ (an a) (atx a) (amo a) := ⟨h.1, h.2.1, h.2.2.1⟩
def mCt (a : mA) : Nat → Bool := mCut (atx a) (amo a)
def mT (a : mA) : Nat → Nat := mTy (an a) (aS a 0) (aS a 1) (mCt a)
def mK (a : mA) : Nat → Nat := mWk (mT a) (atx a) (amo a)
def mO (a : mA) : Nat → Nat := mOr (mT a) (an a)
def mP (a : mA) : Nat → Nat := mPl (mT a)
def kLa (σ : zS) (a : mA) : Prop := kL σ (an a) (aS a 0) (aS a 1) (atx a) (amo a)
-- steps
def mB6 (r : Nat) : Nat := if r = 1 then 11 else if r = 2 then 13 else if r = 3 then 14 else if r = 4 then 16 else if r = 5 then 18 else 10
def mStp (q : Nat) : Nat := mB6 (q % 6) * 2 ^ (q / 6)
theorem mStp_b : ∀ q, q < 52 → 10 ≤ mStp q ∧ mStp q ≤ 3584 := by decide +kernel
theorem mStp_mono : ∀ q, q < 52 → ∀ p, p < q → mStp p ≤ mStp q := by decide +kernel
/-- the component's table of steps -/
def kSt (σ : zS) : Prop := ∀ q, q < 52 → σ.1 25 q = iI (mStp q)
def mBi (w q : Nat) : Nat := 40 + w * 200 / mStp q
def mLo (w t q : Nat) : Nat := w * (3 - t) * mStp q * mStp q / 16
theorem mBi_le {w q : Nat} (hw : w ≤ 16000) (hq : q < 52) : 40 ≤ mBi w q ∧ mBi w q ≤ 320040 := by
  obtain ⟨h1, h2⟩ := mStp_b q hq
  unfold mBi
  have h3 : w * 200 / mStp q ≤ w * 200 / 10 := Nat.div_le_div_left h1 (by omega)
  generalize w * 200 / mStp q = x at h3 ⊢
  omega
theorem mBi_mono {w q p : Nat} (hq : q < 52) (hp : p ≤ q) : mBi w q ≤ mBi w p := by
  by_cases e : p = q
  · rw [e]; exact Nat.le_refl _
  · unfold mBi
    have h1 := (mStp_b p (by omega)).1
    have h2 := mStp_mono q hq p (by omega)
    have : w * 200 / mStp q ≤ w * 200 / mStp p := Nat.div_le_div_left h2 (by omega)
    omega
theorem mLo_b {w t q : Nat} (hw : w ≤ 8) (ht : t ≤ 2) (hq : q < 52) : w * (3 - t) ≤ 24 ∧ w * (3 - t) * mStp q ≤ 86016 ∧ w * (3 - t) * mStp q * mStp q ≤ 308281344 := by
  obtain ⟨h1, h2⟩ := mStp_b q hq
  have a1 : w * (3 - t) ≤ 8 * 3 := Nat.mul_le_mul hw (by omega)
  have a2 : w * (3 - t) * mStp q ≤ 24 * 3584 := Nat.mul_le_mul a1 h2
  have a3 : w * (3 - t) * mStp q * mStp q ≤ 86016 * 3584 := Nat.mul_le_mul a2 h2
  exact ⟨a1, a2, a3⟩
theorem mLo_le {w t q : Nat} (hw : w ≤ 8) (ht : t ≤ 2) (hq : q < 52) : mLo w t q ≤ 19267584 := by
  have := (mLo_b hw ht hq).2.2
  unfold mLo
  omega
theorem mLo_mono {w t q p : Nat} (hq : q < 52) (hp : p ≤ q) : mLo w t p ≤ mLo w t q := by
  by_cases e : p = q
  · rw [e]; exact Nat.le_refl _
  · have h2 := mStp_mono q hq p (by omega)
    unfold mLo
    exact Nat.div_le_div_right (Nat.mul_le_mul (Nat.mul_le_mul_left _ h2) h2)
theorem lI_nat (n : Nat) : lI (n : Int) = lI ((n : Nat) : Int) := rfl
theorem cBits_iI {σ : zS} {f q w : Nat} (hf : f < 60) (hq : q < 52) (hw : w ≤ 16000) (h1 : σ.1 21 f = iI w) (h2 : kSt σ) : cBits σ (iI f) (iI q) = iI (mBi w q) := by
  obtain ⟨b1, b2⟩ := mStp_b q hq
  unfold cBits
  rw [zAt_k (show f < zN 21 from hf), zAt_k (show q < zN 25 from hq), h1, h2 q hq, show (200 : Int32) = iI 200 from rfl, iI_mul, iI_l (by omega) (by omega), iI_l (by omega) (by omega), zRat_lI (by omega) (by omega) (by omega) (by omega), lI_i, show (40 : Int32) = iI 40 from rfl, iI_add, Int.tdiv_eq_ediv_of_nonneg (by omega)]
  unfold mBi
  refine congrArg iI ?_
  rw [Int.natCast_add, Int.natCast_ediv, Int.natCast_mul]
  rfl
theorem cWt_iI {σ : zS} {f s w : Nat} (hf : f < 60) (hs : s < 60) (h1 : σ.1 18 f = iI s) (h2 : σ.1 5 s = iI w) : cWt σ (iI f) = iI w := by
  unfold cWt
  rw [zAt_k (show f < zN 18 from hf), h1, zAt_k (show s < zN 5 from hs), h2]
theorem loss_iI {w t q : Nat} (hw : w ≤ 8) (ht : t ≤ 2) (hq : q < 52) : (((iI w * (3 - iI t)) * iI (mStp q)) * iI (mStp q)) / 16 = iI (mLo w t q) := by
  obtain ⟨a1, a2, a3⟩ := mLo_b hw ht hq
  have e1 : (3 : Int32) - iI t = iI ((3 - t : Nat) : Int) := by
    rw [show (3 : Int32) = iI 3 from rfl, iI_sub]
    exact congrArg iI (by omega)
  have e2 : iI (w : Int) * iI ((3 - t : Nat) : Int) * iI (mStp q : Int) * iI (mStp q : Int) = iI ((w * (3 - t) * mStp q * mStp q : Nat) : Int) := by
    rw [iI_mul, iI_mul, iI_mul, Int.natCast_mul, Int.natCast_mul, Int.natCast_mul]
  rw [e1, e2, show (16 : Int32) = iI 16 from rfl, iI_divN (by omega) (by omega) (by omega) (by omega)]
  unfold mLo
  refine congrArg iI ?_
  rw [Int.natCast_ediv]
  rfl
theorem cLoss_iI {σ : zS} {f s w t q : Nat} (hf : f < 60) (hs : s < 60) (hw : w ≤ 8) (ht : t ≤ 2) (hq : q < 52) (h1 : σ.1 18 f = iI s) (h2 : σ.1 5 s = iI w) (h3 : σ.1 17 f = iI t) (h4 : kSt σ) : cLoss σ (iI f) (iI q) = iI (mLo w t q) := by
  unfold cLoss
  rw [cWt_iI hf hs h1 h2, zAt_k (show f < zN 17 from hf), zAt_k (show q < zN 25 from hq), h3, h4 q hq]
  exact loss_iI hw ht hq
-- the reference's
end
section
/-! the reference's works, bits and losses; what settles a quantizer -/
theorem aB.n60 {a : mA} (h : aB a) : an a ≤ 60 := h.1.1
theorem mSc_lt {cut : Nat → Bool} {n k : Nat} (hn : n ≤ 60) (hk : k < n) : mSc cut k < 60 := by
  have := mS_le cut (k + 1)
  unfold mSc
  omega
end
section
/-! the state of both, abstractly -/
/-- clip and settings at these roles -/
def kA0 (σ : zS) (c s : Nat) (a : mA) : Prop :=
  σ.1 c 0 = iI (an a) ∧ (∀ i, i < an a → σ.1 (c + 1) i = iI (atx a i)) ∧ (∀ i, i < an a → σ.1 (c + 2) i = iI (amo a i)) ∧ (∀ j, j < 8 → σ.1 s j = iI (aS a j)) ∧ (∀ j, j < 60 → σ.1 (s + 1) j = iI (aw a j)) ∧ (∀ j, j < aS a 7 → σ.1 (s + 2) j = iI (azf a j)) ∧ (∀ j, j < aS a 7 → σ.1 (s + 3) j = iI (azl a j)) ∧ (∀ j, j < aS a 7 → σ.1 (s + 4) j = iI (azo a j))
def kPl (σ : zS) (p : Nat) (a : mA) : Prop := σ.1 p 0 = (if amd a = true then 1 else 0) ∧ (amd a = true → ∀ i, i < an a → σ.1 (p + 1) i = iI (aq a i))
theorem kAt_of {σ : zS} {c s p : Nat} {a : mA} (h : kA0 σ c s a) (h2 : kPl σ p a) : kAt σ c s p a := ⟨h.1, h.2.1, h.2.2.1, h.2.2.2.1, h.2.2.2.2.1, h.2.2.2.2.2.1, h.2.2.2.2.2.2.1, h.2.2.2.2.2.2.2, h2.1, h2.2⟩
theorem kAt.a0 {σ : zS} {c s p : Nat} {a : mA} (h : kAt σ c s p a) : kA0 σ c s a := ⟨h.1, h.2.1, h.2.2.1, h.2.2.2.1, h.2.2.2.2.1, h.2.2.2.2.2.1, h.2.2.2.2.2.2.1, h.2.2.2.2.2.2.2.1⟩
theorem kAt.pl {σ : zS} {c s p : Nat} {a : mA} (h : kAt σ c s p a) : kPl σ p a := h.2.2.2.2.2.2.2.2
theorem kA0.of {σ τ : zS} {c s : Nat} {a : mA} (h : kA0 σ c s a) (e : ∀ r, r ∈ [c, c + 1, c + 2, s, s + 1, s + 2, s + 3, s + 4] → τ.1 r = σ.1 r) : kA0 τ c s a := by
  unfold kA0 at h ⊢
  rw [e c (by simp), e (c + 1) (by simp), e (c + 2) (by simp), e s (by simp), e (s + 1) (by simp), e (s + 2) (by simp), e (s + 3) (by simp), e (s + 4) (by simp)]
  exact h
theorem kPl.of {σ τ : zS} {p : Nat} {a : mA} (h : kPl σ p a) (e : τ.1 p = σ.1 p) (e2 : τ.1 (p + 1) = σ.1 (p + 1)) : kPl τ p a := by
  unfold kPl at h ⊢
  rw [e, e2]
  exact h
theorem kLa.of {σ τ : zS} {a : mA} (h : kLa σ a) (e : ∀ r, r ∈ LR → τ.1 r = σ.1 r) : kLa τ a := by
  unfold kLa kL at h ⊢
  rw [e 16 (by decide), e 17 (by decide), e 18 (by decide), e 19 (by decide), e 20 (by decide), e 21 (by decide), e 22 (by decide), e 23 (by decide)]
  exact h
/-- now; two slots; the text -/
abbrev mV : Type := mA × (Bool × mA) × (Bool × mA) × Nat × (Nat → Nat)
def va (v : mV) : mA := v.1
def v0 (v : mV) : Bool × mA := v.2.1
def v1 (v : mV) : Bool × mA := v.2.2.1
def vl (v : mV) : Nat := v.2.2.2.1
def vt (v : mV) : Nat → Nat := v.2.2.2.2
def vA (v : mV) (a : mA) : mV := (a, v0 v, v1 v, vl v, vt v)
def vT (v : mV) (l : Nat) (t : Nat → Nat) : mV := (va v, v0 v, v1 v, l, t)
def vB (v : mV) : Prop := aB (va v) ∧ ((v0 v).1 = true → aB (v0 v).2) ∧ ((v1 v).1 = true → aB (v1 v).2) ∧ vl v ≤ 100 ∧ ∀ i, i < vl v → vt v i ≤ 127
/-- what of the component is neither clip, settings, plan nor layout -/
def kRest (σ : zS) (v : mV) : Prop := kSt σ ∧ σ.1 11 0 = iI (vl v) ∧ (∀ i, i < vl v → σ.1 15 i = iI (vt v i)) ∧ σ.1 41 0 = (if (v0 v).1 = true then 1 else 0) ∧ ((v0 v).1 = true → kAt σ 42 45 50 (v0 v).2) ∧ σ.1 52 0 = (if (v1 v).1 = true then 1 else 0) ∧ ((v1 v).1 = true → kAt σ 53 56 61 (v1 v).2)
def CI (σ : zS) (v : mV) : Prop := kA0 σ 1 4 (va v) ∧ kPl σ 9 (va v) ∧ kLa σ (va v) ∧ kRest σ v
def RS : List Nat := [25, 15, 41, 42, 43, 44, 45, 46, 47, 48, 49, 50, 51, 52, 53, 54, 55, 56, 57, 58, 59, 60, 61, 62]
theorem kRest.of {σ τ : zS} {v w : mV} (h : kRest σ v) (e : ∀ r, r ∈ RS → τ.1 r = σ.1 r) (e11 : τ.1 11 0 = σ.1 11 0) (w2 : v0 w = v0 v) (w3 : v1 w = v1 v) (w4 : vl w = vl v) (w5 : vt w = vt v) : kRest τ w := by
  obtain ⟨h1, h2, h3, h4, h5, h6, h7⟩ := h
  unfold kRest
  rw [w2, w3, w4, w5, e11, e 15 (by decide), e 41 (by decide), e 52 (by decide)]
  refine ⟨fun q hq => by rw [e 25 (by decide)]; exact h1 q hq, h2, h3, h4, fun z => kAt_of ((h5 z).a0.of (fun r hr => e r (by revert r; decide))) ((h5 z).pl.of (e 50 (by decide)) (e 51 (by decide))), h6, fun z => kAt_of ((h7 z).a0.of (fun r hr => e r (by revert r; decide))) ((h7 z).pl.of (e 61 (by decide)) (e 62 (by decide)))⟩
theorem CI.at {σ : zS} {v : mV} (h : CI σ v) : kAt σ 1 4 9 (va v) := kAt_of h.1 h.2.1
/-- rows on which a component's state stands -/
def CS : List Nat := [1, 2, 3, 4, 5, 6, 7, 8, 9, 10, 11, 16, 17, 18, 19, 20, 21, 22, 23] ++ RS
theorem CI.of {σ τ : zS} {v : mV} (h : CI σ v) (e : ∀ r, r ∈ CS → τ.1 r = σ.1 r) : CI τ v :=
  ⟨h.1.of (fun r hr => e r (by revert r; decide)), h.2.1.of (e 9 (by decide)) (e 10 (by decide)), h.2.2.1.of (fun r hr => e r (by revert r; decide)), h.2.2.2.of (fun r hr => e r (by revert r; decide)) (by rw [e 11 (by decide)]) rfl rfl rfl rfl⟩
theorem CI.fr {L : List Nat} {σ τ : zS} {v : mV} (h : CI σ v) (f : zFr L σ τ) (hL : ∀ r, r ∈ CS → r ∉ L) : CI τ v := h.of (fun r hr => f.1 r (hL r hr))
/-- nothing of the reference's has changed -/
def zLw (σ τ : zS) : Prop := ∀ r, 63 ≤ r → τ.1 r = σ.1 r
/-- nothing of the component's has changed -/
def zHg (σ τ : zS) : Prop := ∀ r, r < 63 → τ.1 r = σ.1 r
theorem zLw.rf (σ : zS) : zLw σ σ := fun _ _ => rfl
theorem zHg.rf (σ : zS) : zHg σ σ := fun _ _ => rfl
theorem zLw.tr {σ τ υ : zS} (h : zLw σ τ) (g : zLw τ υ) : zLw σ υ := fun r hr => (g r hr).trans (h r hr)
theorem zHg.tr {σ τ υ : zS} (h : zHg σ τ) (g : zHg τ υ) : zHg σ υ := fun r hr => (g r hr).trans (h r hr)
theorem zFr.lw {L : List Nat} {σ τ : zS} (f : zFr L σ τ) (hL : ∀ r, r ∈ L → r < 63) : zLw σ τ := fun r hr => f.1 r (fun z => by have := hL r z; omega)
theorem zFr.hg {L : List Nat} {σ τ : zS} (f : zFr L σ τ) (hL : ∀ r, r ∈ L → 63 ≤ r) : zHg σ τ := fun r hr => f.1 r (fun z => by have := hL r z; omega)
theorem zLw.si {σ τ : zS} (h : zLw σ τ) {r : Nat} (hr : r < 63) (j : Nat) (x : Int32) : zLw σ (zSI τ r j x) := fun q hq => (zSI_1 (by omega)).trans (h q hq)
theorem zHg.si {σ τ : zS} (h : zHg σ τ) {r : Nat} (hr : 63 ≤ r) (j : Nat) (x : Int32) : zHg σ (zSI τ r j x) := fun q hq => (zSI_1 (by omega)).trans (h q hq)
theorem CI.hg {σ τ : zS} {v : mV} (h : CI σ v) (f : zHg σ τ) : CI τ v := h.of (fun r hr => f r (by revert r; decide))
-- arguments
theorem iI_ti (p : Int32) : iI p.toInt = p := Int32.ofInt_toInt p
theorem rgZ {p : Int32} (lo hi : Int) (h1 : -2147483648 ≤ lo) (h2 : lo < 2147483648) (h3 : -2147483648 ≤ hi) (h4 : hi < 2147483648) (c : iI lo ≤ p ∧ p ≤ iI hi) : ∃ z : Int, p = iI z ∧ lo ≤ z ∧ z ≤ hi := by
  obtain ⟨c1, c2⟩ := c
  rw [Int32.le_iff_toInt_le, iI_toInt h1 h2] at c1
  rw [Int32.le_iff_toInt_le, iI_toInt h3 h4] at c2
  exact ⟨p.toInt, (iI_ti p).symm, c1, c2⟩
theorem rgN {p : Int32} (lo hi : Nat) (h2 : lo < 2147483648) (h4 : hi < 2147483648) (c : iI (lo : Int) ≤ p ∧ p ≤ iI (hi : Int)) : ∃ k : Nat, p = iI k ∧ lo ≤ k ∧ k ≤ hi := by
  obtain ⟨z, e, z1, z2⟩ := rgZ (lo : Int) (hi : Int) (by omega) (by omega) (by omega) (by omega) c
  obtain ⟨k, rfl⟩ := Int.eq_ofNat_of_zero_le (show 0 ≤ z by omega)
  exact ⟨k, e, by omega, by omega⟩
theorem isF {p : Int32} {n : Nat} (hn : n ≤ 60) : (0 ≤ p ∧ p ≤ iI (n : Int) - 1) ↔ ∃ f : Nat, p = iI f ∧ f < n := by
  rw [show (1 : Int32) = iI 1 from rfl, iI_sub]
  constructor
  · intro c
    obtain ⟨z, e, z1, z2⟩ := rgZ 0 ((n : Int) - 1) (by omega) (by omega) (by omega) (by omega) c
    obtain ⟨k, rfl⟩ := Int.eq_ofNat_of_zero_le z1
    exact ⟨k, e, by omega⟩
  · rintro ⟨f, rfl, hf⟩
    rw [show (0 : Int32) = iI 0 from rfl, iI_le (by omega) (by omega) (by omega) (by omega), iI_le (by omega) (by omega) (by omega) (by omega)]
    omega
theorem sp_isPicture {d : Nat} {p q : Int32} {σ : zS} {k : Int32 → zS → Prop} (h1 : (1 ≤ p ∧ p ≤ 4000) ∧ (0 ≤ q ∧ q ≤ 4000) → k 1 σ) (h0 : ¬ ((1 ≤ p ∧ p ≤ 4000) ∧ (0 ≤ q ∧ q ≤ 4000)) → k 0 σ) : zCall (d + 2) nX11_isPicture [.int p, .int q] σ (zPI k) :=
  ze_X11_isPicture _ _ σ (fun X hX => zq_X11_isPicture_0 hX _ _ σ ⟨fun c => ⟨fun c2 => ⟨_, rfl, h1 ⟨c, c2⟩⟩, fun c2 => ⟨_, rfl, h0 (fun z => c2 z.2)⟩⟩, fun c => ⟨_, rfl, h0 (fun z => c z.1)⟩⟩)
theorem sp_arrangeAnew {d : Nat} {a : mA} {σ : zS} {k : zS → Prop} (hb : aB a) (hc : kA0 σ 1 4 a) (hm : amd a = false) (h : ∀ τ, zFr (9 :: LR) σ τ → kA0 τ 1 4 a → kPl τ 9 a → kLa τ a → k τ) : zCall (d + 5) nX11_arrangeAnew [.ref 0] σ (zPV k) := by
  refine ze_X11_arrangeAnew σ (fun X hX => zq_X11_arrangeAnew_0 hX σ ?_)
  have c2 : kA0 (zSI σ 9 0 0) 1 4 a := hc.of (fun r hr => zSI_1 (by revert r; decide))
  refine sp_arrange (d := d) (n := an a) (iv := aS a 0) (br := aS a 1) (tx := atx a) (mo := amo a) hb.1 ⟨c2.1, c2.2.1, c2.2.2.1⟩ hb.2.1.2 hb.2.2.1 (c2.2.2.2.1 0 (by decide)) (c2.2.2.2.1 1 (by decide)) (fun τ hf hl => ⟨rfl, h τ ?_ ?_ ?_ hl⟩)
  · exact ((zFr.rf _ σ).si (by decide) 0 0).tr hf (by decide)
  · exact c2.of (fun r hr => hf.1 r (by revert r; decide))
  · refine ⟨?_, fun z => by rw [hm] at z; exact absurd z (by decide)⟩
    rw [hf.1 9 (by decide), hm]
    simp [zSI_at]
end
section
/-! the component's calls, where there is no plan -/
theorem iI_kk (a k : Nat) : (iI (a : Int)) + iI (k : Int) = iI ((a + k : Nat) : Int) := iI_add _ _
theorem tN_add {a k : Nat} (h : a + k < 2147483648) : Int32.toNatClampNeg (iI (a : Int) + iI (k : Int)) = a + k := by
  rw [iI_kk, iI_k h]
/-- the first place from i on, among m -/
def mFs (P : Nat → Bool) : Nat → Nat → Int
  | 0, _ => -1
  | m + 1, i => if P i = true then (i : Int) else mFs P m (i + 1)
/-- another clip: the plan is forgotten -/
def aClip (a : mA) (n : Nat) (tx mo : Nat → Nat) : mA := (n, tx, mo, aS a, aw a, azf a, azl a, azo a, false, aq a)
def aSet (a : mA) (S : Nat → Nat) (m : Bool) : mA := (an a, atx a, amo a, S, aw a, azf a, azl a, azo a, m, aq a)
def aWt (a : mA) (w : Nat → Nat) : mA := (an a, atx a, amo a, aS a, w, azf a, azl a, azo a, amd a, aq a)
theorem aB.clip {a : mA} (h : aB a) {n : Nat} {tx mo : Nat → Nat} (hm : mB n tx mo) : aB (aClip a n tx mo) := by
  obtain ⟨b1, b2, b3, b4, b5, b6, b7, b8, b9, b10, b11, b12⟩ := h
  exact ⟨hm, b2, b3, b4, b5, b6, b7, b8, b9, b10, b11, fun z => absurd (show (false : Bool) = true from z) (by decide)⟩
theorem aB.set {a : mA} (h : aB a) {S : Nat → Nat} {m : Bool} (h2 : 1 ≤ S 0 ∧ S 0 ≤ 60) (h3 : S 1 ≤ 3) (h4 : S 2 ≤ S 3 ∧ S 3 ≤ 51) (h5 : 100 ≤ S 4 ∧ S 4 ≤ 1000000) (h6 : S 5 ≤ 100) (h7 : S 6 ≤ 100000) (h8 : S 7 = aS a 7) (hm : m = true → amd a = true) : aB (aSet a S m) := by
  obtain ⟨b1, b2, b3, b4, b5, b6, b7, b8, b9, b10, b11, b12⟩ := h
  exact ⟨b1, h2, h3, h4, h5, h6, h7, (show S 7 ≤ 6 by omega), b9, fun j hj => b10 j (by rw [← h8]; exact hj), b11, fun z => b12 (hm z)⟩
theorem aB.wt {a : mA} (h : aB a) {w : Nat → Nat} (hw : ∀ j, j < 60 → 1 ≤ w j ∧ w j ≤ 8) : aB (aWt a w) := by
  obtain ⟨b1, b2, b3, b4, b5, b6, b7, b8, b9, b10, b11, b12⟩ := h
  exact ⟨b1, b2, b3, b4, b5, b6, b7, b8, hw, b10, b11, b12⟩
theorem vB.a {v : mV} (h : vB v) {a : mA} (ha : aB a) : vB (vA v a) := ⟨ha, h.2.1, h.2.2.1, h.2.2.2.1, h.2.2.2.2⟩
theorem kA0.clip {σ τ : zS} {a : mA} {n : Nat} {tx mo : Nat → Nat} (h : kA0 σ 1 4 a) (e : ∀ r, r ∈ [4, 5, 6, 7, 8] → τ.1 r = σ.1 r) (h1 : τ.1 1 0 = iI n) (h2 : ∀ i, i < n → τ.1 2 i = iI (tx i)) (h3 : ∀ i, i < n → τ.1 3 i = iI (mo i)) : kA0 τ 1 4 (aClip a n tx mo) := by
  obtain ⟨a1, a2, a3, a4, a5, a6, a7, a8⟩ := h
  refine ⟨h1, h2, h3, fun j hj => ?_, fun j hj => ?_, fun j hj => ?_, fun j hj => ?_, fun j hj => ?_⟩
  · rw [e 4 (by decide)]; exact a4 j hj
  · rw [e 5 (by decide)]; exact a5 j hj
  · rw [e 6 (by decide)]; exact a6 j hj
  · rw [e 7 (by decide)]; exact a7 j hj
  · rw [e 8 (by decide)]; exact a8 j hj
theorem kA0.set {σ τ : zS} {a : mA} {S : Nat → Nat} {m : Bool} (h : kA0 σ 1 4 a) (e : ∀ r, r ∈ [1, 2, 3, 5, 6, 7, 8] → τ.1 r = σ.1 r) (h4 : ∀ j, j < 8 → τ.1 4 j = iI (S j)) (h7 : S 7 = aS a 7) : kA0 τ 1 4 (aSet a S m) := by
  obtain ⟨a1, a2, a3, a4, a5, a6, a7, a8⟩ := h
  refine ⟨?_, fun j hj => ?_, fun j hj => ?_, h4, fun j hj => ?_, fun j hj => ?_, fun j hj => ?_, fun j hj => ?_⟩
  · rw [e 1 (by decide)]; exact a1
  · rw [e 2 (by decide)]; exact a2 j hj
  · rw [e 3 (by decide)]; exact a3 j hj
  · rw [e 5 (by decide)]; exact a5 j hj
  · rw [e 6 (by decide)]; exact a6 j (by rw [← h7]; exact hj)
  · rw [e 7 (by decide)]; exact a7 j (by rw [← h7]; exact hj)
  · rw [e 8 (by decide)]; exact a8 j (by rw [← h7]; exact hj)
theorem kLa.set {σ : zS} {a : mA} {S : Nat → Nat} {m : Bool} (h : kLa σ a) (h0 : S 0 = aS a 0) (h1 : S 1 = aS a 1) : kLa σ (aSet a S m) := by
  show kL σ (an a) (S 0) (S 1) (atx a) (amo a)
  rw [h0, h1]
  exact h
theorem sp_anew {d : Nat} {σ τ : zS} {v : mV} {a : mA} {k : zS → Prop} (hC : CI σ v) (f : zFr [1, 2, 3, 4, 5, 6, 7, 8] σ τ) (hb : aB a) (hm : amd a = false) (hc : kA0 τ 1 4 a) (h : ∀ υ, CI υ (vA v a) → zLw σ υ → zFr (9 :: LR) τ υ → k υ) : zCall (d + 5) nX11_arrangeAnew [.ref 0] τ (zPV k) :=
  sp_arrangeAnew hb hc hm (fun υ hf h1 h2 h3 => h υ ⟨h1, h2, h3, hC.2.2.2.of (fun r hr => (hf.1 r (by revert r; decide)).trans (f.1 r (by revert r; decide))) (by rw [hf.1 11 (by decide), f.1 11 (by decide)]) rfl rfl rfl rfl⟩ ((f.lw (by decide)).tr (hf.lw (by decide))) hf)
theorem CI.pa {σ τ : zS} {v : mV} {a : mA} (hC : CI σ v) (f : zFr [4, 5, 6, 7, 8, 9, 10] σ τ) (h1 : kA0 τ 1 4 a) (h2 : kPl τ 9 a) (h3 : kLa τ a) : CI τ (vA v a) :=
  ⟨h1, h2, h3, hC.2.2.2.of (fun r hr => f.1 r (by revert r; decide)) (by rw [f.1 11 (by decide)]) rfl rfl rfl rfl⟩
theorem sp_cadd {d n p q : Nat} {σ : zS} {k : zS → Prop} (hn : n < 60) (h0 : σ.1 1 0 = iI n) (h : k (zSI (zSI (zSI σ 2 n (iI p)) 3 n (iI q)) 1 0 (iI ((n + 1 : Nat) : Int)))) : zCall (d + 2) nX0_add [.ref 1, .int (iI p), .int (iI q)] σ (zPV k) := by
  refine ze_X0_add_1 _ _ σ (fun X hX => zq_X0_add_1_0 hX _ _ σ ⟨rfl, ?_⟩)
  rw [h0, zPt_k (show n < zN 2 from hn), zPt_k (show n < zN 3 from hn), iI_s]
  exact h
def nU (f : Nat → Nat) (k x : Nat) : Nat → Nat := fun i => if i = k then x else f i
theorem nU_s (f : Nat → Nat) (k x : Nat) : nU f k x k = x := if_pos rfl
theorem nU_n {f : Nat → Nat} {k x i : Nat} (h : i ≠ k) : nU f k x i = f i := if_neg h
theorem upd_n {f : Nat → Int32} {g : Nat → Nat} {k x n : Nat} (h : ∀ i, i < n → i ≠ k → f i = iI (g i)) : ∀ i, i < n → upd f k (iI x) i = iI (nU g k x i) := fun i hi => by
  by_cases e : i = k
  · rw [e, nU_s]; simp [upd]
  · rw [nU_n e]; simp only [upd, if_neg e]; exact h i hi e
def mFr (a : mA) (f w : Nat) : Nat := if w = 0 then atx a f else if w = 1 then amo a f else if w = 2 then mT a f else if w = 3 then mSc (mCt a) f else if w = 4 then mP a f else if w = 5 then mK a f else if w = 6 then mF (aS a 0) (mCt a) (f + 1) else mGl (an a) (aS a 0) (mCt a) (mF (aS a 0) (mCt a) (f + 1))
theorem sp_kFrame {d f w : Nat} {a : mA} {σ : zS} {k : Int32 → zS → Prop} (hb : aB a) (hc : kA0 σ 1 4 a) (hl : kLa σ a) (hf : f < an a) (hw : w ≤ 7) (h : k (iI (mFr a f w)) σ) : zCall (d + 3) nX11_frame [.ref 0, .int (iI f), .int (iI w)] σ (zPI k) := by
  have h60 := hb.n60
  obtain ⟨l0, l1, l2, l3, l4, l5, l6, l7, l8, l9⟩ := hl
  refine ze_X11_frame _ _ σ (fun X hX => zq_X11_frame_0 hX _ _ σ (zIf_t (by rw [hc.1]; exact (isF h60).mpr ⟨f, rfl, hf⟩) (zIf_t ?_ ?_)))
  · rw [show (0 : Int32) = iI 0 from rfl, show (7 : Int32) = iI 7 from rfl, iI_le (by omega) (by omega) (by omega) (by omega), iI_le (by omega) (by omega) (by omega) (by omega)]; omega
  · rw [zAt_k (show f < zN 2 by show f < 60; omega), zAt_k (show f < zN 3 by show f < 60; omega), zAt_k (show f < zN 17 by show f < 60; omega), zAt_k (show f < zN 18 by show f < 60; omega), zAt_k (show f < zN 22 by show f < 60; omega), zAt_k (show f < zN 21 by show f < 60; omega), zAt_k (show f < zN 19 by show f < 60; omega), zAt_k (show f < zN 20 by show f < 60; omega), hc.2.1 f hf, hc.2.2.1 f hf, l3 f hf, l4 f hf, l5 f hf, l6 f hf, l7 f hf, l8 f hf]
    have c : w = 0 ∨ w = 1 ∨ w = 2 ∨ w = 3 ∨ w = 4 ∨ w = 5 ∨ w = 6 ∨ w = 7 := by omega
    rcases c with rfl | rfl | rfl | rfl | rfl | rfl | rfl | rfl
    · exact zIf_t (by decide) ⟨_, rfl, h⟩
    · exact zIf_f (by decide) (zIf_t (by decide) ⟨_, rfl, h⟩)
    · exact zIf_f (by decide) (zIf_f (by decide) (zIf_t (by decide) ⟨_, rfl, h⟩))
    · exact zIf_f (by decide) (zIf_f (by decide) (zIf_f (by decide) (zIf_t (by decide) ⟨_, rfl, h⟩)))
    · exact zIf_f (by decide) (zIf_f (by decide) (zIf_f (by decide) (zIf_f (by decide) (zIf_t (by decide) ⟨_, rfl, h⟩))))
    · exact zIf_f (by decide) (zIf_f (by decide) (zIf_f (by decide) (zIf_f (by decide) (zIf_f (by decide) (zIf_t (by decide) ⟨_, rfl, h⟩)))))
    · exact zIf_f (by decide) (zIf_f (by decide) (zIf_f (by decide) (zIf_f (by decide) (zIf_f (by decide) (zIf_f (by decide) (zIf_t (by decide) ⟨_, rfl, h⟩))))))
    · exact zIf_f (by decide) (zIf_f (by decide) (zIf_f (by decide) (zIf_f (by decide) (zIf_f (by decide) (zIf_f (by decide) (zIf_f (by decide) ⟨_, rfl, h⟩))))))
theorem w7 {q : Int32} {m : Nat} (hm : m < 1000) : (0 ≤ q ∧ q ≤ iI (m : Int)) ↔ ∃ w : Nat, q = iI w ∧ w ≤ m := by
  constructor
  · intro c
    obtain ⟨w, e, _, w2⟩ := rgN (p := q) 0 m (by decide) (by omega) c
    exact ⟨w, e, w2⟩
  · rintro ⟨w, rfl, hw⟩
    rw [show (0 : Int32) = iI 0 from rfl, iI_le (by omega) (by omega) (by omega) (by omega), iI_le (by omega) (by omega) (by omega) (by omega)]; omega
theorem kLo {σ : zS} {v : mV} {f w : Nat} (hv : vB v) (hC : CI σ v) (hf : f < an (va v)) (hw : w ≤ 51) : cLoss σ (iI f) (iI w) = iI (mLo (aw (va v) (mSc (mCt (va v)) f)) (mT (va v) f) w) := by
  have n60 := hv.1.n60
  have hs : mSc (mCt (va v)) f < 60 := mSc_lt n60 hf
  exact cLoss_iI (by omega) hs (hv.1.2.2.2.2.2.2.2.2.1 _ hs).2 (mTy_lt _ _ _ _ _) (by omega) (hC.2.2.1.2.2.2.2.1 f hf) (hC.1.2.2.2.2.1 _ hs) (hC.2.2.1.2.2.2.1 f hf) hC.2.2.2.1
theorem kBi {σ : zS} {v : mV} {f w : Nat} (hv : vB v) (hC : CI σ v) (hf : f < an (va v)) (hw : w ≤ 51) : cBits σ (iI f) (iI w) = iI (mBi (mK (va v) f) w) := by
  have n60 := hv.1.n60
  exact cBits_iI (by omega) (by omega) (mWk_le hv.1.1 hf) (hC.2.2.1.2.2.2.2.2.2.2.1 f hf) hC.2.2.2.1
theorem kPl.m {σ : zS} {p : Nat} {a : mA} (h : kPl σ p a) : σ.1 p 0 = 0 ↔ amd a = false := by
  rw [h.1]
  cases amd a with
  | true => exact ⟨fun z => absurd z (by decide), fun z => absurd z (by decide)⟩
  | false => exact ⟨fun _ => rfl, fun _ => rfl⟩
def mCo (v : mV) (w : Nat) : Nat := if w = 0 then an (va v) else if w = 1 then mS (mCt (va v)) (an (va v)) else if w = 2 then mG (aS (va v) 0) (mCt (va v)) (an (va v)) else if w = 3 then (if amd (va v) = true then 1 else 0) else if w = 4 then aS (va v) 7 else if w = 5 then aS (va v) 0 else if w = 6 then aS (va v) 1 else if w = 7 then aS (va v) 4 else if w = 8 then aS (va v) 5 else if w = 9 then aS (va v) 6 else vl v
theorem sp_kCount {d w : Nat} {v : mV} {σ : zS} {k : Int32 → zS → Prop} (hC : CI σ v) (hw : w ≤ 10) (h : k (iI (mCo v w)) σ) : zCall (d + 1) nX11_count [.ref 0, .int (iI w)] σ (zPI k) := by
  refine ze_X11_count _ σ (fun X hX => zq_X11_count_0 hX _ σ ?_)
  have c : w = 0 ∨ w = 1 ∨ w = 2 ∨ w = 3 ∨ w = 4 ∨ w = 5 ∨ w = 6 ∨ w = 7 ∨ w = 8 ∨ w = 9 ∨ w = 10 := by omega
  rcases c with rfl | rfl | rfl | rfl | rfl | rfl | rfl | rfl | rfl | rfl | rfl
  · exact zIf_t (by decide) ⟨_, rfl, by rw [hC.1.1]; exact h⟩
  · exact zIf_f (by decide) (zIf_t (by decide) ⟨_, rfl, by rw [hC.2.2.1.2.1]; exact h⟩)
  · exact zIf_f (by decide) (zIf_f (by decide) (zIf_t (by decide) ⟨_, rfl, by rw [hC.2.2.1.2.2.1]; exact h⟩))
  · refine zIf_f (by decide) (zIf_f (by decide) (zIf_f (by decide) (zIf_t (by decide) ?_)))
    refine ⟨fun z => ⟨_, rfl, ?_⟩, fun z => ⟨_, rfl, ?_⟩⟩
    · have e : mCo v 3 = 0 := by show (if amd (va v) = true then 1 else 0) = 0; rw [hC.2.1.m.mp z]; rfl
      rw [e] at h; exact h
    · have e : amd (va v) = true := by
        cases hm : amd (va v) with
        | true => rfl
        | false => exact absurd (hC.2.1.m.mpr hm) z
      have e2 : mCo v 3 = 1 := by show (if amd (va v) = true then 1 else 0) = 1; rw [e]; rfl
      rw [e2] at h; exact h
  · exact zIf_f (by decide) (zIf_f (by decide) (zIf_f (by decide) (zIf_f (by decide) (zIf_t (by decide) ⟨_, rfl, by rw [hC.1.2.2.2.1 7 (by decide)]; exact h⟩))))
  · exact zIf_f (by decide) (zIf_f (by decide) (zIf_f (by decide) (zIf_f (by decide) (zIf_f (by decide) (zIf_t (by decide) ⟨_, rfl, by rw [hC.1.2.2.2.1 0 (by decide)]; exact h⟩)))))
  · exact zIf_f (by decide) (zIf_f (by decide) (zIf_f (by decide) (zIf_f (by decide) (zIf_f (by decide) (zIf_f (by decide) (zIf_t (by decide) ⟨_, rfl, by rw [hC.1.2.2.2.1 1 (by decide)]; exact h⟩))))))
  · exact zIf_f (by decide) (zIf_f (by decide) (zIf_f (by decide) (zIf_f (by decide) (zIf_f (by decide) (zIf_f (by decide) (zIf_f (by decide) (zIf_t (by decide) ⟨_, rfl, by rw [hC.1.2.2.2.1 4 (by decide)]; exact h⟩)))))))
  · exact zIf_f (by decide) (zIf_f (by decide) (zIf_f (by decide) (zIf_f (by decide) (zIf_f (by decide) (zIf_f (by decide) (zIf_f (by decide) (zIf_f (by decide) (zIf_t (by decide) ⟨_, rfl, by rw [hC.1.2.2.2.1 5 (by decide)]; exact h⟩))))))))
  · exact zIf_f (by decide) (zIf_f (by decide) (zIf_f (by decide) (zIf_f (by decide) (zIf_f (by decide) (zIf_f (by decide) (zIf_f (by decide) (zIf_f (by decide) (zIf_f (by decide) (zIf_t (by decide) ⟨_, rfl, by rw [hC.1.2.2.2.1 6 (by decide)]; exact h⟩)))))))))
  · exact zIf_f (by decide) (zIf_f (by decide) (zIf_f (by decide) (zIf_f (by decide) (zIf_f (by decide) (zIf_f (by decide) (zIf_f (by decide) (zIf_f (by decide) (zIf_f (by decide) (zIf_f (by decide) (zIf_t (by decide) ⟨_, rfl, by rw [hC.2.2.2.2.1]; exact h⟩))))))))))
theorem n0_iI {n : Nat} (hn : n ≤ 60) : iI (n : Int) = 0 ↔ n = 0 := by
  rw [show (0 : Int32) = iI 0 from rfl, iI_eq (by omega) (by omega) (by omega) (by omega)]; omega
def msQ (a : mA) (s f : Nat) : Bool := decide (mSc (mCt a) f = s)
def msG (a : mA) (s f : Nat) : Bool := msQ a s f && decide (mT a f = 0)
theorem msQ_iI {a : mA} {s f : Nat} (hs : s < 60) (h60 : an a ≤ 60) (hf : f < an a) : iI (mSc (mCt a) f : Nat) = iI (s : Nat) ↔ msQ a s f = true := by
  have := mSc_lt (cut := mCt a) h60 hf
  unfold msQ
  rw [decide_eq_true_eq, iI_eq (by omega) (by omega) (by omega) (by omega)]
  omega
theorem ct_iI {P : Nat → Bool} {i : Nat} (c : P i = true) : iI (fb_ct P i : Nat) + 1 = iI (fb_ct P (i + 1) : Nat) := by
  rw [iI_s, fb_ct_succ, if_pos c]
theorem ct_no {P : Nat → Bool} {i : Nat} (c : ¬ P i = true) : fb_ct P (i + 1) = fb_ct P i := by
  rw [fb_ct_succ, if_neg c, Nat.add_zero]
theorem fos_loop {d s : Nat} {v : mV} {σ : zS} {post : zPo} {X : zX} (hX : zClosed none (zCall (d + 1)) post nX3_firstOfScene X) (hv : vB v) (hC : CI σ v) (hs : s < 60) : ∀ (m i : Nat), i + m = an (va v) → post (some (.int (iI (mFs (msQ (va v) s) m i)))) σ → X 2 [some (.ref 16), some (.int (iI s)), some (.int (iI i))] [] σ
  | 0, i, hm, h => by
    have e : i = an (va v) := by omega
    subst e
    refine zq_X3_firstOfScene_2 hX _ _ σ (zIf_f ?_ h)
    rw [hC.2.2.1.1]; exact Int32.lt_irrefl
  | m + 1, i, hm, h => by
    have h60 := hv.1.n60
    have hin : i < an (va v) := by omega
    have e1 : zAt σ 18 (iI i) = iI (mSc (mCt (va v)) i) := by rw [zAt_k (show i < zN 18 by show i < 60; omega)]; exact hC.2.2.1.2.2.2.2.1 i hin
    refine zq_X3_firstOfScene_2 hX _ _ σ (zIf_t ?_ ?_)
    · rw [hC.2.2.1.1, iI_lt (by omega) (by omega) (by omega) (by omega)]; omega
    · rw [e1, iI_s]
      unfold mFs at h
      refine ⟨fun z => ?_, fun z => ?_⟩
      · rw [if_pos ((msQ_iI hs h60 hin).mp z)] at h; exact h
      · rw [if_neg (fun y => z ((msQ_iI hs h60 hin).mpr y))] at h
        exact fos_loop hX hv hC hs m (i + 1) (by omega) h
theorem frs_loop {d s : Nat} {v : mV} {σ : zS} {post : zPo} {X : zX} (hX : zClosed none (zCall (d + 1)) post nX3_framesOfScene X) (hv : vB v) (hC : CI σ v) (hs : s < 60) (h : post (some (.int (iI (fb_ct (msQ (va v) s) (an (va v)))))) σ) : ∀ (m i : Nat), i + m = an (va v) → X 4 [some (.ref 16), some (.int (iI s)), some (.int (iI (fb_ct (msQ (va v) s) i))), some (.int (iI i))] [] σ
  | 0, i, hm => by
    have e : i = an (va v) := by omega
    subst e
    refine zq_X3_framesOfScene_4 hX _ _ _ σ (zIf_f ?_ h)
    rw [hC.2.2.1.1]; exact Int32.lt_irrefl
  | m + 1, i, hm => by
    have h60 := hv.1.n60
    have hin : i < an (va v) := by omega
    have e1 : zAt σ 18 (iI i) = iI (mSc (mCt (va v)) i) := by rw [zAt_k (show i < zN 18 by show i < 60; omega)]; exact hC.2.2.1.2.2.2.2.1 i hin
    have go := frs_loop hX hv hC hs h m (i + 1) (by omega)
    refine zq_X3_framesOfScene_4 hX _ _ _ σ (zIf_t ?_ ?_)
    · rw [hC.2.2.1.1, iI_lt (by omega) (by omega) (by omega) (by omega)]; omega
    · rw [e1, iI_s i]
      refine ⟨fun z => ?_, fun z => ?_⟩
      · rw [ct_iI ((msQ_iI hs h60 hin).mp z)]; exact go
      · rw [ct_no (fun y => z ((msQ_iI hs h60 hin).mpr y))] at go; exact go
theorem grs_loop {d s : Nat} {v : mV} {σ : zS} {post : zPo} {X : zX} (hX : zClosed none (zCall (d + 1)) post nX3_groupsOfScene X) (hv : vB v) (hC : CI σ v) (hs : s < 60) (h : post (some (.int (iI (fb_ct (msG (va v) s) (an (va v)))))) σ) : ∀ (m i : Nat), i + m = an (va v) → X 4 [some (.ref 16), some (.int (iI s)), some (.int (iI (fb_ct (msG (va v) s) i))), some (.int (iI i))] [] σ
  | 0, i, hm => by
    have e : i = an (va v) := by omega
    subst e
    refine zq_X3_groupsOfScene_4 hX _ _ _ σ (zIf_f ?_ h)
    rw [hC.2.2.1.1]; exact Int32.lt_irrefl
  | m + 1, i, hm => by
    have h60 := hv.1.n60
    have hin : i < an (va v) := by omega
    have e1 : zAt σ 18 (iI i) = iI (mSc (mCt (va v)) i) := by rw [zAt_k (show i < zN 18 by show i < 60; omega)]; exact hC.2.2.1.2.2.2.2.1 i hin
    have e2 : zAt σ 17 (iI i) = iI (mT (va v) i) := by rw [zAt_k (show i < zN 17 by show i < 60; omega)]; exact hC.2.2.1.2.2.2.1 i hin
    have ht : mT (va v) i ≤ 2 := mTy_lt _ _ _ _ _
    have e3 : iI (mT (va v) i : Nat) = 0 ↔ mT (va v) i = 0 := by rw [show (0 : Int32) = iI 0 from rfl, iI_eq (by omega) (by omega) (by omega) (by omega)]; omega
    have go := grs_loop hX hv hC hs h m (i + 1) (by omega)
    refine zq_X3_groupsOfScene_4 hX _ _ _ σ (zIf_t ?_ ?_)
    · rw [hC.2.2.1.1, iI_lt (by omega) (by omega) (by omega) (by omega)]; omega
    · rw [e1, e2, iI_s i]
      refine ⟨fun z => ⟨fun y => ?_, fun y => ?_⟩, fun z => ?_⟩
      · have p : msG (va v) s i = true := by
          unfold msG
          rw [(msQ_iI hs h60 hin).mp z, decide_eq_true (e3.mp y)]
          rfl
        rw [ct_iI p]; exact go
      · rw [ct_no (P := msG (va v) s) (fun w => y (e3.mpr (by
          unfold msG at w
          rw [Bool.and_eq_true, decide_eq_true_eq] at w
          exact w.2)))] at go
        exact go
      · rw [ct_no (P := msG (va v) s) (fun w => z ((msQ_iI hs h60 hin).mpr (by
          unfold msG at w
          rw [Bool.and_eq_true] at w
          exact w.1)))] at go
        exact go
/-- the component holds a, and there is no plan -/
def KI (σ : zS) (a : mA) : Prop := ∃ v : mV, vB v ∧ CI σ v ∧ va v = a ∧ amd a = false
theorem KI.b {σ : zS} {a : mA} (h : KI σ a) : aB a := by
  obtain ⟨v, hv, hC, rfl, hm⟩ := h
  exact hv.1
theorem KI.hg {σ τ : zS} {a : mA} (h : KI σ a) (f : zHg σ τ) : KI τ a := by
  obtain ⟨v, hv, hC, e, hm⟩ := h
  exact ⟨v, hv, hC.hg f, e, hm⟩
variable {d f w p q s t m : Nat} {a : mA} {σ : zS} {k : Int32 → zS → Prop}
theorem c_frame (h : KI σ a) (hf : f < an a) (hw : w ≤ 7) (hk : k (iI (mFr a f w)) σ) : zCall (d + 3) nX11_frame [.ref 0, .int (iI f), .int (iI w)] σ (zPI k) := by
  obtain ⟨v, hv, hC, rfl, hm⟩ := h
  exact sp_kFrame hv.1 hC.1 hC.2.2.1 hf hw hk
theorem c_frame8 (h : KI σ a) (hf : f < an a) (hk : k (-2) σ) : zCall (d + 3) nX11_frame [.ref 0, .int (iI f), .int 8] σ (zPI k) := by
  obtain ⟨v, hv, hC, rfl, hm⟩ := h
  exact ze_X11_frame (d := d + 2) _ _ σ (fun X hX => zq_X11_frame_0 (d := d) hX _ _ σ (zIf_t (by rw [hC.1.1]; exact (isF hv.1.n60).mpr ⟨f, rfl, hf⟩) (zIf_f (by decide) ⟨_, rfl, hk⟩)))
theorem c_frameB (h : KI σ a) (hk : k (-2) σ) : zCall (d + 3) nX11_frame [.ref 0, .int (iI (an a)), .int 0] σ (zPI k) := by
  obtain ⟨v, hv, hC, rfl, hm⟩ := h
  have n60 := hv.1.n60
  refine ze_X11_frame (d := d + 2) _ _ σ (fun X hX => zq_X11_frame_0 (d := d) hX _ _ σ (zIf_f ?_ ⟨_, rfl, hk⟩))
  rw [hC.1.1]
  rintro ⟨-, z⟩
  rw [iI_m, iI_le (by omega) (by omega) (by omega) (by omega)] at z
  omega
theorem c_coded (h : KI σ a) (hp : p < an a) (hk : k (iI (mO a p)) σ) : zCall (d + 3) nX11_coded [.ref 0, .int (iI p)] σ (zPI k) := by
  obtain ⟨v, hv, hC, rfl, hm⟩ := h
  have n60 := hv.1.n60
  refine ze_X11_coded (d := d + 2) _ σ (fun X hX => zq_X11_coded_0 (d := d) hX _ σ (zIf_t (by rw [hC.1.1]; exact (isF n60).mpr ⟨p, rfl, hp⟩) ?_))
  rw [zAt_k (show p < zN 23 by show p < 60; omega), hC.2.2.1.2.2.2.2.2.2.2.2.2 p hp]
  exact ⟨_, rfl, hk⟩
theorem c_codedB (h : KI σ a) (h0 : an a = 0) (hk : k (-2) σ) : zCall (d + 3) nX11_coded [.ref 0, .int 0] σ (zPI k) := by
  obtain ⟨v, hv, hC, rfl, hm⟩ := h
  exact ze_X11_coded (d := d + 2) _ σ (fun X hX => zq_X11_coded_0 (d := d) hX _ σ (zIf_f (by rw [hC.1.1, h0]; decide) ⟨_, rfl, hk⟩))
theorem c_bits (h : KI σ a) (hf : f < an a) (hq : q ≤ 51) (hk : k (iI (mBi (mK a f) q)) σ) : zCall (d + 3) nX11_bitsAt [.ref 0, .int (iI f), .int (iI q)] σ (zPI k) := by
  obtain ⟨v, hv, hC, rfl, hm⟩ := h
  refine ze_X11_bitsAt (d := d + 2) _ _ σ (fun X hX => zq_X11_bitsAt_0 (d := d) hX _ _ σ (zIf_t (by rw [hC.1.1]; exact (isF hv.1.n60).mpr ⟨f, rfl, hf⟩) (zIf_t ((w7 (m := 51) (by decide)).mpr ⟨q, rfl, hq⟩) ?_)))
  rw [kBi hv hC hf hq]
  exact ⟨_, rfl, hk⟩
theorem c_bits52 (h : KI σ a) (hf : f < an a) (hk : k (-2) σ) : zCall (d + 3) nX11_bitsAt [.ref 0, .int (iI f), .int 52] σ (zPI k) := by
  obtain ⟨v, hv, hC, rfl, hm⟩ := h
  exact ze_X11_bitsAt (d := d + 2) _ _ σ (fun X hX => zq_X11_bitsAt_0 (d := d) hX _ _ σ (zIf_t (by rw [hC.1.1]; exact (isF hv.1.n60).mpr ⟨f, rfl, hf⟩) (zIf_f (by decide) ⟨_, rfl, hk⟩)))
theorem c_loss (h : KI σ a) (hf : f < an a) (hq : q ≤ 51) (hk : k (iI (mLo (aw a (mSc (mCt a) f)) (mT a f) q)) σ) : zCall (d + 4) nX11_lossAt [.ref 0, .int (iI f), .int (iI q)] σ (zPI k) := by
  obtain ⟨v, hv, hC, rfl, hm⟩ := h
  refine ze_X11_lossAt (d := d + 3) _ _ σ (fun X hX => zq_X11_lossAt_0 (d := d) hX _ _ σ (zIf_t (by rw [hC.1.1]; exact (isF hv.1.n60).mpr ⟨f, rfl, hf⟩) (zIf_t ((w7 (m := 51) (by decide)).mpr ⟨q, rfl, hq⟩) ?_)))
  rw [kLo hv hC hf hq]
  exact ⟨_, rfl, hk⟩
theorem c_count0 (h : KI σ a) (hk : k (iI (an a)) σ) : zCall (d + 1) nX11_count [.ref 0, .int 0] σ (zPI k) := by
  obtain ⟨v, hv, hC, rfl, hm⟩ := h
  exact sp_kCount (w := 0) hC (by decide) hk
theorem c_count1 (h : KI σ a) (hk : k (iI (mS (mCt a) (an a))) σ) : zCall (d + 1) nX11_count [.ref 0, .int 1] σ (zPI k) := by
  obtain ⟨v, hv, hC, rfl, hm⟩ := h
  exact sp_kCount (w := 1) hC (by decide) hk
theorem c_count2 (h : KI σ a) (hk : k (iI (mG (aS a 0) (mCt a) (an a))) σ) : zCall (d + 1) nX11_count [.ref 0, .int 2] σ (zPI k) := by
  obtain ⟨v, hv, hC, rfl, hm⟩ := h
  exact sp_kCount (w := 2) hC (by decide) hk
theorem c_count3 (h : KI σ a) (hk : k 0 σ) : zCall (d + 1) nX11_count [.ref 0, .int 3] σ (zPI k) := by
  obtain ⟨v, hv, hC, rfl, hm⟩ := h
  refine sp_kCount (w := 3) hC (by decide) ?_
  have e : mCo v 3 = 0 := by show (if amd (va v) = true then 1 else 0) = 0; rw [hm]; rfl
  rw [e]
  exact hk
/-- of a scene: its first frame, its frames, its weight, its intra frames -/
def mSn (a : mA) (s w : Nat) : Int := if w = 0 then mFs (msQ a s) (an a) 0 else if w = 1 then (fb_ct (msQ a s) (an a) : Nat) else if w = 2 then (aw a s : Nat) else (fb_ct (msG a s) (an a) : Nat)
theorem c_scene (h : KI σ a) (hs : s < mS (mCt a) (an a)) (hw : w = 0 ∨ w = 1 ∨ w = 2 ∨ w = 5) (hk : k (iI (mSn a s w)) σ) : zCall (d + 4) nX11_scene [.ref 0, .int (iI s), .int (iI w)] σ (zPI k) := by
  obtain ⟨v, hv, hC, rfl, hm⟩ := h
  have h60 := hv.1.n60
  have hs60 : mS (mCt (va v)) (an (va v)) ≤ an (va v) := mS_le _ _
  have s60 : s < 60 := by omega
  have g0 : ∀ K : Int32 → zS → Prop, K (iI (mFs (msQ (va v) s) (an (va v)) 0)) σ → zCall (d + 3) nX3_firstOfScene [.ref 16, .int (iI s)] σ (zPI K) := fun K h => ze_X3_firstOfScene (d := d + 2) _ σ (fun Y hY => zq_X3_firstOfScene_0 (d := d + 1) hY _ σ (fos_loop (d := d + 1) hY hv hC s60 (an (va v)) 0 (by omega) ⟨_, rfl, h⟩))
  have g1 : ∀ K : Int32 → zS → Prop, K (iI (fb_ct (msQ (va v) s) (an (va v)) : Nat)) σ → zCall (d + 3) nX3_framesOfScene [.ref 16, .int (iI s)] σ (zPI K) := fun K h => ze_X3_framesOfScene (d := d + 2) _ σ (fun Y hY => zq_X3_framesOfScene_0 (d := d + 1) hY _ σ (frs_loop (d := d + 1) hY hv hC s60 ⟨_, rfl, h⟩ (an (va v)) 0 (by omega)))
  have g5 : ∀ K : Int32 → zS → Prop, K (iI (fb_ct (msG (va v) s) (an (va v)) : Nat)) σ → zCall (d + 3) nX3_groupsOfScene [.ref 16, .int (iI s)] σ (zPI K) := fun K h => ze_X3_groupsOfScene (d := d + 2) _ σ (fun Y hY => zq_X3_groupsOfScene_0 (d := d + 1) hY _ σ (grs_loop (d := d + 1) hY hv hC s60 ⟨_, rfl, h⟩ (an (va v)) 0 (by omega)))
  refine ze_X11_scene _ _ σ (fun X hX => zq_X11_scene_0 hX _ _ σ (zIf_t ?_ (zIf_t ((w7 (m := 5) (by decide)).mpr ⟨w, rfl, by omega⟩) ?_)))
  · rw [hC.2.2.1.2.1]; exact (isF (Nat.le_trans hs60 h60)).mpr ⟨s, rfl, hs⟩
  · have e5 : zAt σ 5 (iI s) = iI (aw (va v) s) := by rw [zAt_k (show s < zN 5 from s60)]; exact hC.1.2.2.2.2.1 s s60
    rw [e5]
    rcases hw with rfl | rfl | rfl | rfl
    · exact ⟨fun _ => zIf_f (by decide) (zIf_f (by decide) (zIf_t (by decide) (g0 _ ⟨_, rfl, hk⟩))), fun _ => zIf_t (by decide) (g0 _ ⟨_, rfl, hk⟩)⟩
    · exact ⟨fun _ => zIf_f (by decide) (zIf_f (by decide) (zIf_f (by decide) (zIf_t (by decide) (g1 _ ⟨_, rfl, hk⟩)))), fun _ => zIf_f (by decide) (zIf_t (by decide) (g1 _ ⟨_, rfl, hk⟩))⟩
    · exact ⟨fun _ => zIf_f (by decide) (zIf_f (by decide) (zIf_f (by decide) (zIf_f (by decide) (zIf_t (by decide) ⟨_, rfl, hk⟩)))), fun _ => zIf_f (by decide) (zIf_f (by decide) (zIf_t (by decide) ⟨_, rfl, hk⟩))⟩
    · exact ⟨fun _ => zIf_f (by decide) (zIf_f (by decide) (zIf_f (by decide) (zIf_f (by decide) (zIf_f (by decide) (zIf_f (by decide) (zIf_f (by decide) (g5 _ ⟨_, rfl, hk⟩))))))), fun _ => zIf_f (by decide) (zIf_f (by decide) (zIf_f (by decide) (zIf_f (by decide) (zIf_f (by decide) (g5 _ ⟨_, rfl, hk⟩)))))⟩
theorem c_scene3 (h : KI σ a) (hs : s < mS (mCt a) (an a)) (hk : k (-3) σ) : zCall (d + 4) nX11_scene [.ref 0, .int (iI s), .int 3] σ (zPI k) := by
  obtain ⟨v, hv, hC, rfl, hm⟩ := h
  have h60 := hv.1.n60
  have hs60 : mS (mCt (va v)) (an (va v)) ≤ an (va v) := mS_le _ _
  refine ze_X11_scene _ _ σ (fun X hX => zq_X11_scene_0 hX _ _ σ (zIf_t ?_ (zIf_t (by decide) (zIf_t (hC.2.1.m.mpr hm) (zIf_t (by decide) ⟨_, rfl, hk⟩)))))
  rw [hC.2.2.1.2.1]; exact (isF (Nat.le_trans hs60 h60)).mpr ⟨s, rfl, hs⟩
theorem c_sceneB (h : KI σ a) (hk : k (-2) σ) : zCall (d + 4) nX11_scene [.ref 0, .int (iI (mS (mCt a) (an a))), .int 0] σ (zPI k) := by
  obtain ⟨v, hv, hC, rfl, hm⟩ := h
  have h60 := hv.1.n60
  have hs60 : mS (mCt (va v)) (an (va v)) ≤ an (va v) := mS_le _ _
  refine ze_X11_scene _ _ σ (fun X hX => zq_X11_scene_0 hX _ _ σ (zIf_f ?_ ⟨_, rfl, hk⟩))
  rw [hC.2.2.1.2.1]
  rintro ⟨-, z⟩
  have z : iI ((mS (mCt (va v)) (an (va v)) : Nat) : Int) ≤ iI ((mS (mCt (va v)) (an (va v)) : Nat) : Int) - 1 := z
  rw [iI_m, iI_le (by omega) (by omega) (by omega) (by omega)] at z
  omega
-- calls that change the clip or a setting
theorem c_append (h : KI σ a) (hn : an a < 60) (t1 : 1 ≤ t) (t2 : t ≤ 4000) (m2 : m ≤ 4000) (hk : ∀ τ, KI τ (aClip a (an a + 1) (nU (atx a) (an a) t) (nU (amo a) (an a) m)) → zLw σ τ → k (iI (an a)) τ) : zCall (d + 6) nX11_append [.ref 0, .int (iI t), .int (iI m)] σ (zPI k) := by
  obtain ⟨v, hv, hC, rfl, hm⟩ := h
  have n60 := hv.1.n60
  have tb : mB (an (va v) + 1) (nU (atx (va v)) (an (va v)) t) (nU (amo (va v)) (an (va v)) m) := ⟨by omega, fun i hi => by
    by_cases e : i = an (va v)
    · rw [e, nU_s, nU_s]; omega
    · rw [nU_n e, nU_n e]; exact hv.1.1.2 i (by omega)⟩
  have ab := hv.1.clip tb
  have c : (1 ≤ iI (t : Int) ∧ iI (t : Int) ≤ 4000) ∧ (0 ≤ iI (m : Int) ∧ iI (m : Int) ≤ 4000) := by
    rw [show (1 : Int32) = iI 1 from rfl, show (4000 : Int32) = iI 4000 from rfl, show (0 : Int32) = iI 0 from rfl, iI_le (by omega) (by omega) (by omega) (by omega), iI_le (by omega) (by omega) (by omega) (by omega), iI_le (by omega) (by omega) (by omega) (by omega), iI_le (by omega) (by omega) (by omega) (by omega)]
    omega
  refine ze_X11_append (d := d + 5) _ _ σ (fun X hX => zq_X11_append_0 (d := d) hX _ _ σ ?_)
  refine sp_isPicture (d := d + 3) (fun _ => ?_) (fun z => absurd c z)
  refine zIf_f (by decide) (zIf_t ?_ ?_)
  · rw [hC.1.1, show (60 : Int32) = iI 60 from rfl, iI_lt (by omega) (by omega) (by omega) (by omega)]; omega
  · refine sp_cadd (d := d + 3) (n := an (va v)) (by omega) hC.1.1 ?_
    refine sp_anew (d := d) (v := v) hC ((((zFr.rf _ σ).si (by decide) _ _).si (by decide) _ _).si (by decide) _ _) ab rfl (hC.1.clip (fun r hr => ?_) (by simp [zSI_at]) ?_ ?_) (fun υ h1 h2 h3 => ⟨_, rfl, ?_⟩)
    · rw [zSI_1 (by revert r; decide), zSI_1 (by revert r; decide), zSI_1 (by revert r; decide)]
    · rw [zSI_1 (by decide), zSI_1 (by decide), zSI_s]
      exact upd_n (fun i hi e => hC.1.2.1 i (by omega))
    · rw [zSI_1 (by decide), zSI_s, zSI_1 (by decide)]
      exact upd_n (fun i hi e => hC.1.2.2.1 i (by omega))
    · have e : υ.1 1 0 - 1 = iI (an (va v)) := by rw [h1.1.1, iI_m]; exact congrArg iI (by show (((an (va v) + 1 : Nat) : Int) - 1) = _; omega)
      rw [e]
      exact hk υ ⟨_, hv.a ab, h1, rfl, rfl⟩ h2
theorem c_appendB {x y : Int32} (h : KI σ a) (c : ¬ ((1 ≤ x ∧ x ≤ 4000) ∧ (0 ≤ y ∧ y ≤ 4000))) (hk : k (-2) σ) : zCall (d + 6) nX11_append [.ref 0, .int x, .int y] σ (zPI k) :=
  ze_X11_append (d := d + 5) _ _ σ (fun X hX => zq_X11_append_0 (d := d) hX _ _ σ (sp_isPicture (d := d + 3) (fun z => absurd z c) (fun _ => zIf_t rfl ⟨_, rfl, hk⟩)))
theorem c_drop (h : KI σ a) (c : 0 < an a) (hk : ∀ τ, KI τ (aClip a (an a - 1) (atx a) (amo a)) → zLw σ τ → k (iI ((an a - 1 : Nat) : Int)) τ) : zCall (d + 6) nX11_drop [.ref 0] σ (zPI k) := by
  obtain ⟨v, hv, hC, rfl, hm⟩ := h
  have n60 := hv.1.n60
  have tb : mB (an (va v) - 1) (atx (va v)) (amo (va v)) := ⟨by omega, fun i hi => hv.1.1.2 i (by omega)⟩
  have ab := hv.1.clip tb
  have e0 : iI (an (va v) : Int) - 1 = iI ((an (va v) - 1 : Nat) : Int) := by rw [iI_m]; exact congrArg iI (by omega)
  have ne : ¬ iI (an (va v) : Int) = 0 := by rw [show (0 : Int32) = iI 0 from rfl, iI_eq (by omega) (by omega) (by omega) (by omega)]; omega
  refine ze_X11_drop (d := d + 5) σ (fun X hX => zq_X11_drop_0 (d := d) hX σ (zIf_f (by rw [hC.1.1]; exact ne) ?_))
  rw [hC.1.1, e0]
  refine sp_anew (d := d) (v := v) hC ((zFr.rf _ σ).si (by decide) _ _) ab rfl (hC.1.clip (fun r hr => ?_) (by simp [zSI_at]) ?_ ?_) (fun υ h1 h2 h3 => ⟨_, rfl, ?_⟩)
  · rw [zSI_1 (by revert r; decide)]
  · rw [zSI_1 (by decide)]; exact fun i hi => hC.1.2.1 i (by omega)
  · rw [zSI_1 (by decide)]; exact fun i hi => hC.1.2.2.1 i (by omega)
  · rw [h1.1.1]
    exact hk υ ⟨_, hv.a ab, h1, rfl, rfl⟩ h2
theorem c_dropS (h : KI σ a) (c : an a = 0) (hk : k (-3) σ) : zCall (d + 6) nX11_drop [.ref 0] σ (zPI k) := by
  obtain ⟨v, hv, hC, rfl, hm⟩ := h
  exact ze_X11_drop (d := d + 5) σ (fun X hX => zq_X11_drop_0 (d := d) hX σ (zIf_t (by rw [hC.1.1, c]; rfl) ⟨_, rfl, hk⟩))
theorem c_set (h : KI σ a) (hf : f < an a) (t1 : 1 ≤ t) (t2 : t ≤ 4000) (m2 : m ≤ 4000) (hk : ∀ τ, KI τ (aClip a (an a) (nU (atx a) f t) (nU (amo a) f m)) → zLw σ τ → k (if mCut (nU (atx a) f t) (nU (amo a) f m) f = true then 1 else 0) τ) : zCall (d + 6) nX11_set [.ref 0, .int (iI f), .int (iI t), .int (iI m)] σ (zPI k) := by
  obtain ⟨v, hv, hC, rfl, hm⟩ := h
  have n60 := hv.1.n60
  have tb : mB (an (va v)) (nU (atx (va v)) f t) (nU (amo (va v)) f m) := ⟨by omega, fun i hi => by
    by_cases e : i = f
    · rw [e, nU_s, nU_s]; omega
    · rw [nU_n e, nU_n e]; exact hv.1.1.2 i (by omega)⟩
  have ab := hv.1.clip tb
  have c : (1 ≤ iI (t : Int) ∧ iI (t : Int) ≤ 4000) ∧ (0 ≤ iI (m : Int) ∧ iI (m : Int) ≤ 4000) := by
    rw [show (1 : Int32) = iI 1 from rfl, show (4000 : Int32) = iI 4000 from rfl, show (0 : Int32) = iI 0 from rfl, iI_le (by omega) (by omega) (by omega) (by omega), iI_le (by omega) (by omega) (by omega) (by omega), iI_le (by omega) (by omega) (by omega) (by omega), iI_le (by omega) (by omega) (by omega) (by omega)]
    omega
  refine ze_X11_set (d := d + 5) _ _ _ σ (fun X hX => zq_X11_set_0 (d := d) hX _ _ _ σ (zIf_t (by rw [hC.1.1]; exact (isF n60).mpr ⟨f, rfl, hf⟩) ?_))
  refine sp_isPicture (d := d + 3) (fun _ => ?_) (fun z => absurd c z)
  refine zIf_f (by decide) ?_
  rw [zPt_k (show f < zN 2 by show f < 60; omega), zPt_k (show f < zN 3 by show f < 60; omega)]
  refine sp_anew (d := d) (v := v) hC (((zFr.rf _ σ).si (by decide) _ _).si (by decide) _ _) ab rfl (hC.1.clip (fun r hr => ?_) ?_ ?_ ?_) (fun υ h1 h2 h3 => ?_)
  · rw [zSI_1 (by revert r; decide), zSI_1 (by revert r; decide)]
  · rw [zSI_1 (by decide), zSI_1 (by decide)]; exact hC.1.1
  · rw [zSI_1 (by decide), zSI_s]
    exact upd_n (fun i hi e => hC.1.2.1 i (by omega))
  · rw [zSI_s, zSI_1 (by decide)]
    exact upd_n (fun i hi e => hC.1.2.2.1 i (by omega))
  · have e := cCut_iff (n := an (va v)) (tx := nU (atx (va v)) f t) (mo := nU (amo (va v)) f m) tb (h1.at.kC) hf
    have hk := hk υ ⟨_, hv.a ab, h1, rfl, rfl⟩ h2
    refine ⟨fun z => ⟨_, rfl, ?_⟩, fun z => ⟨_, rfl, ?_⟩⟩
    · rw [if_pos (e.mp z)] at hk; exact hk
    · rw [if_neg (fun y => z (e.mpr y))] at hk; exact hk
theorem c_setInterval (h : KI σ a) (t1 : 1 ≤ t) (t2 : t ≤ 60) (hk : ∀ τ, KI τ (aSet a (nU (aS a) 0 t) false) → zLw σ τ → k (iI (aS a 0)) τ) : zCall (d + 6) nX11_setInterval [.ref 0, .int (iI t)] σ (zPI k) := by
  obtain ⟨v, hv, hC, rfl, hm⟩ := h
  have b := hv.1
  have ab : aB (aSet (va v) (nU (aS (va v)) 0 t) false) := b.set ⟨t1, t2⟩ b.2.2.1 b.2.2.2.1 b.2.2.2.2.1 b.2.2.2.2.2.1 b.2.2.2.2.2.2.1 rfl (fun z => absurd (show (false : Bool) = true from z) (by decide))
  have c : 1 ≤ iI (t : Int) ∧ iI (t : Int) ≤ 60 := by
    rw [show (1 : Int32) = iI 1 from rfl, show (60 : Int32) = iI 60 from rfl, iI_le (by omega) (by omega) (by omega) (by omega), iI_le (by omega) (by omega) (by omega) (by omega)]
    omega
  refine ze_X11_setInterval (d := d + 5) _ σ (fun X hX => zq_X11_setInterval_0 (d := d) hX _ σ (zIf_t c ?_))
  refine sp_anew (d := d) (v := v) hC ((zFr.rf _ σ).si (by decide) _ _) ab rfl (hC.1.set (fun r hr => zSI_1 (by revert r; decide)) ?_ rfl) (fun υ h1 h2 h3 => ⟨_, rfl, by rw [hC.1.2.2.2.1 0 (by decide)]; exact hk υ ⟨_, hv.a ab, h1, rfl, rfl⟩ h2⟩)
  rw [zSI_s]
  exact upd_n (fun i hi e => hC.1.2.2.2.1 i hi)
theorem c_setIntervalB (h : KI σ a) (hk : k (-2) σ) : zCall (d + 6) nX11_setInterval [.ref 0, .int 61] σ (zPI k) :=
  ze_X11_setInterval (d := d + 5) _ σ (fun X hX => zq_X11_setInterval_0 (d := d) hX _ σ (zIf_f (by decide) ⟨_, rfl, hk⟩))
theorem c_setBridges (h : KI σ a) (t2 : t ≤ 3) (hk : ∀ τ, KI τ (aSet a (nU (aS a) 1 t) false) → zLw σ τ → k (iI (aS a 1)) τ) : zCall (d + 6) nX11_setBridges [.ref 0, .int (iI t)] σ (zPI k) := by
  obtain ⟨v, hv, hC, rfl, hm⟩ := h
  have b := hv.1
  have ab : aB (aSet (va v) (nU (aS (va v)) 1 t) false) := b.set b.2.1 t2 b.2.2.2.1 b.2.2.2.2.1 b.2.2.2.2.2.1 b.2.2.2.2.2.2.1 rfl (fun z => absurd (show (false : Bool) = true from z) (by decide))
  have c : 0 ≤ iI (t : Int) ∧ iI (t : Int) ≤ 3 := by
    rw [show (0 : Int32) = iI 0 from rfl, show (3 : Int32) = iI 3 from rfl, iI_le (by omega) (by omega) (by omega) (by omega), iI_le (by omega) (by omega) (by omega) (by omega)]
    omega
  refine ze_X11_setBridges (d := d + 5) _ σ (fun X hX => zq_X11_setBridges_0 (d := d) hX _ σ (zIf_t c ?_))
  refine sp_anew (d := d) (v := v) hC ((zFr.rf _ σ).si (by decide) _ _) ab rfl (hC.1.set (fun r hr => zSI_1 (by revert r; decide)) ?_ rfl) (fun υ h1 h2 h3 => ⟨_, rfl, by rw [hC.1.2.2.2.1 1 (by decide)]; exact hk υ ⟨_, hv.a ab, h1, rfl, rfl⟩ h2⟩)
  rw [zSI_s]
  exact upd_n (fun i hi e => hC.1.2.2.2.1 i hi)
theorem c_setWeight (h : KI σ a) (hs : s < 60) (t1 : 1 ≤ t) (t2 : t ≤ 8) (hk : ∀ τ, KI τ (aWt a (nU (aw a) s t)) → zLw σ τ → k (iI (aw a s)) τ) : zCall (d + 2) nX11_setWeight [.ref 0, .int (iI s), .int (iI t)] σ (zPI k) := by
  obtain ⟨v, hv, hC, rfl, hm⟩ := h
  have ab : aB (aWt (va v) (nU (aw (va v)) s t)) := hv.1.wt (fun j hj => by
    by_cases e : j = s
    · rw [e, nU_s]; omega
    · rw [nU_n e]; exact hv.1.2.2.2.2.2.2.2.2.1 j hj)
  have c1 : 0 ≤ iI (s : Int) ∧ iI (s : Int) ≤ 59 := by
    rw [show (0 : Int32) = iI 0 from rfl, show (59 : Int32) = iI 59 from rfl, iI_le (by omega) (by omega) (by omega) (by omega), iI_le (by omega) (by omega) (by omega) (by omega)]
    omega
  have c2 : 1 ≤ iI (t : Int) ∧ iI (t : Int) ≤ 8 := by
    rw [show (1 : Int32) = iI 1 from rfl, show (8 : Int32) = iI 8 from rfl, iI_le (by omega) (by omega) (by omega) (by omega), iI_le (by omega) (by omega) (by omega) (by omega)]
    omega
  refine ze_X11_setWeight (d := d + 1) _ _ σ (fun X hX => zq_X11_setWeight_0 (d := d) hX _ _ σ (zIf_t c1 (zIf_t c2 ?_)))
  rw [zAt_k (show s < zN 5 from hs), zPt_k (show s < zN 5 from hs), hC.1.2.2.2.2.1 s hs]
  have fr : ∀ r, r ≠ 5 → (zSI σ 5 s (iI t)).1 r = σ.1 r := fun r hr => zSI_1 hr
  refine ⟨_, rfl, hk _ ⟨_, hv.a ab, hC.pa ((zFr.rf _ σ).si (by decide) _ _) ?_ (hC.2.1.of (fr 9 (by decide)) (fr 10 (by decide))) (hC.2.2.1.of (fun r hr => fr r (by revert r; decide))), rfl, hm⟩ ((zLw.rf σ).si (by decide) _ _)⟩
  obtain ⟨a1, a2, a3, a4, a5, a6, a7, a8⟩ := hC.1
  refine ⟨?_, fun j hj => ?_, fun j hj => ?_, fun j hj => ?_, ?_, fun j hj => ?_, fun j hj => ?_, fun j hj => ?_⟩
  · rw [fr 1 (by decide)]; exact a1
  · rw [fr 2 (by decide)]; exact a2 j hj
  · rw [fr 3 (by decide)]; exact a3 j hj
  · rw [fr 4 (by decide)]; exact a4 j hj
  · rw [zSI_s]; exact upd_n (fun i hi e => a5 i hi)
  · rw [fr 6 (by decide)]; exact a6 j hj
  · rw [fr 7 (by decide)]; exact a7 j hj
  · rw [fr 8 (by decide)]; exact a8 j hj
theorem c_constantS (h : KI σ a) (c : an a = 0) (hk : k (-3) σ) : zCall (d + 7) nX11_constant [.ref 0, .int 5] σ (zPI k) := by
  obtain ⟨v, hv, hC, rfl, hm⟩ := h
  exact ze_X11_constant (d := d + 6) _ σ (fun X hX => zq_X11_constant_0 (d := d) hX _ σ (zIf_t (by decide) (zIf_t (by rw [hC.1.1]; exact (n0_iI hv.1.n60).mpr c) ⟨_, rfl, hk⟩)))
theorem c_plannedS (h : KI σ a) (c : 0 < an a) (hk : k (-3) σ) : zCall (d + 6) nX11_planned [.ref 0, .int 0, .int 0] σ (zPI k) := by
  obtain ⟨v, hv, hC, rfl, hm⟩ := h
  exact ze_X11_planned (d := d + 5) _ _ σ (fun X hX => zq_X11_planned_0 (d := d) hX _ _ σ (zIf_t (by rw [hC.1.1]; exact (isF hv.1.n60).mpr ⟨0, rfl, c⟩) (zIf_t (by decide) (zIf_t (hC.2.1.m.mpr hm) ⟨_, rfl, hk⟩))))
theorem c_totalS {k : Int64 → zS → Prop} (h : KI σ a) (hk : k (-3) σ) : zCall (d + 6) nX11_total [.ref 0, .int 0] σ (zPJ k) := by
  obtain ⟨v, hv, hC, rfl, hm⟩ := h
  exact ze_X11_total (d := d + 5) _ σ (fun X hX => zq_X11_total_0 (d := d) hX _ σ (zIf_t (by decide) (zIf_t (hC.2.1.m.mpr hm) ⟨_, rfl, hk⟩)))
end
section
/-! what the law's own functions count, in the same plain numbers -/
theorem lF_step {iv : Nat} {cut : Nat → Bool} {k : Nat} (h1 : 1 ≤ iv) (hk : 1 ≤ k) : mF iv cut (k + 1) = if cut k = true ∨ k = mF iv cut k + iv then k else mF iv cut k := by
  rw [mF_succ]
  have a := mF_near h1 cut k
  have b := mF_le iv cut k
  have e : mIt iv cut k = true ↔ (cut k = true ∨ k = mF iv cut k + iv) := by
    unfold mIt mOp
    simp only [Bool.or_eq_true, decide_eq_true_eq]
    constructor
    · rintro ((h | h) | h)
      · omega
      · exact Or.inl h
      · exact Or.inr (by omega)
    · rintro (h | h)
      · exact Or.inl (Or.inr h)
      · exact Or.inr (by omega)
  by_cases c : mIt iv cut k = true
  · rw [if_pos c, if_pos (e.mp c)]
  · rw [if_neg c, if_neg (fun z => c (e.mpr z))]
/-- the last frame of its group -/
theorem lLast {n iv : Nat} {cut : Nat → Bool} {i : Nat} (hi : i < n) (h0 : i ≠ mF iv cut (i + 1)) : i - mF iv cut (i + 1) = mGl n iv cut (mF iv cut (i + 1)) - 1 ↔ (i + 1 = n ∨ mF iv cut (i + 2) ≠ mF iv cut (i + 1)) := by
  have hF := mF_lt iv cut i
  rw [mGl_spec hi]
  by_cases e : i + 1 = n
  · have e2 : n - 1 - i = 0 := by omega
    rw [e2]
    show i - mF iv cut (i + 1) = n - mF iv cut (i + 1) - 1 ↔ _
    exact ⟨fun _ => Or.inl e, fun _ => by omega⟩
  · have e2 : n - 1 - i = (n - 2 - i) + 1 := by omega
    have e3 : n - 1 - (n - 2 - i) = i + 1 := by omega
    rw [e2]
    have e4 : mEd n iv cut (n - 2 - i + 1) = if mIt iv cut (i + 1) = true then i + 1 else mEd n iv cut (n - 2 - i) := by
      simp only [mEd]
      rw [e3]
    rw [e4, show mF iv cut (i + 2) = _ from mF_succ iv cut (i + 1)]
    by_cases c : mIt iv cut (i + 1) = true
    · rw [if_pos c, if_pos c]
      exact ⟨fun _ => Or.inr (by omega), fun _ => by omega⟩
    · rw [if_neg c, if_neg c]
      obtain ⟨h1, -⟩ := mEd_spec (n := n) (iv := iv) (cut := cut) (n - 2 - i) (by omega)
      refine ⟨fun z => by omega, fun z => ?_⟩
      rcases z with z | z
      · exact absurd z e
      · exact absurd rfl z
theorem lTy {n iv br : Nat} {cut : Nat → Bool} {i : Nat} (hi : i < n) (h0 : i ≠ mF iv cut (i + 1)) : mTy n iv br cut i = if (i + 1 = n ∨ mF iv cut (i + 2) ≠ mF iv cut (i + 1)) ∨ (i - mF iv cut (i + 1)) % (br + 1) = 0 then 1 else 2 := by
  have hF := mF_lt iv cut i
  have key := lLast (n := n) hi h0
  unfold mTy
  rw [if_neg (by omega)]
  by_cases c : (i + 1 = n ∨ mF iv cut (i + 2) ≠ mF iv cut (i + 1)) ∨ (i - mF iv cut (i + 1)) % (br + 1) = 0
  · rw [if_pos c, if_pos (c.imp key.mpr id)]
  · rw [if_neg c, if_neg (fun z => c (z.imp key.mp id))]
theorem lTy0 {n iv br : Nat} {cut : Nat → Bool} {i : Nat} : mTy n iv br cut i = 0 ↔ i = mF iv cut (i + 1) := by
  have hF := mF_lt iv cut i
  unfold mTy
  by_cases e : i - mF iv cut (i + 1) = 0
  · rw [if_pos e]
    exact ⟨fun _ => by omega, fun _ => rfl⟩
  · rw [if_neg e]
    refine ⟨fun z => ?_, fun z => absurd z (by omega)⟩
    split at z <;> omega
theorem lTyI {n iv br : Nat} {cut : Nat → Bool} {i : Nat} : mTy n iv br cut i = 0 ↔ mIt iv cut i = true := by
  rw [lTy0, ← mF_it (iv := iv) (cut := cut)]
  exact ⟨fun h => h.symm, fun h => h.symm⟩
theorem lS_step {cut : Nat → Bool} {k : Nat} (hk : 1 ≤ k) : mS cut (k + 1) = mS cut k + if cut k = true then 1 else 0 := by
  have e : mOp cut k = cut k := by
    unfold mOp
    rw [decide_eq_false (by omega)]
    rfl
  show fb_ct (mOp cut) (k + 1) = _
  rw [fb_ct_succ, e]
  rfl
theorem lG_n {n iv br : Nat} {cut : Nat → Bool} : ∀ m, fb_ct (fun i => decide (mTy n iv br cut i = 0)) m = mG iv cut m := fun m => fb_ct_cong (fun k _ => by
  by_cases c : mIt iv cut k = true
  · rw [c]; exact decide_eq_true (lTyI.mpr c)
  · rw [decide_eq_false (fun z => c (lTyI.mp z))]
    simpa using c)
-- numbers of 32 bits that are not negative
theorem iI_tn (x : Int32) : iI ((x.toBitVec.toNat : Nat) : Int) = x := by
  unfold iI
  apply Int32.toBitVec_inj.1
  rw [Int32.toBitVec_ofInt]
  apply BitVec.eq_of_toNat_eq
  rw [BitVec.ofInt_natCast, BitVec.toNat_ofNat]
  exact Nat.mod_eq_of_lt x.toBitVec.isLt
theorem lAnd (x c : Int32) : ∃ r : Nat, r ≤ c.toBitVec.toNat ∧ x &&& c = iI (r : Int) := by
  refine ⟨(x &&& c).toBitVec.toNat, ?_, (iI_tn _).symm⟩
  rw [Int32.toBitVec_and, BitVec.toNat_and]
  exact Nat.and_le_right
theorem lAnd31 (x : Int32) : ∃ r : Nat, r < 2147483648 ∧ x &&& 2147483647 = iI (r : Int) := by
  obtain ⟨r, h, e⟩ := lAnd x 2147483647
  have h2 : (2147483647 : Int32).toBitVec.toNat = 2147483647 := by decide +kernel
  exact ⟨r, by omega, e⟩
theorem lAnd3 (x : Int32) : ∃ r : Nat, r ≤ 3 ∧ x &&& 3 = iI (r : Int) := by
  obtain ⟨r, h, e⟩ := lAnd x 3
  have h2 : (3 : Int32).toBitVec.toNat = 3 := by decide +kernel
  exact ⟨r, by omega, e⟩
theorem lShl : ∀ q, q < 52 → iI (mB6 (q % 6) : Int) <<< ((iI (q : Int) / 6) &&& 31) = iI (mStp q : Int) := by decide +kernel
theorem iI_18p (k : Nat) : (18 : Int32) + iI (k : Int) = iI ((18 + k : Nat) : Int) := by rw [show (18 : Int32) = iI ((18 : Nat) : Int) from rfl, iI_kk]
theorem iI_40p (k : Nat) : (40 : Int32) + iI (k : Int) = iI ((40 + k : Nat) : Int) := by rw [show (40 : Int32) = iI ((40 : Nat) : Int) from rfl, iI_kk]
end
section
/-! the law's own functions of its cells -/
/-- the law's cells hold a -/
def LA (σ : zS) (a : mA) : Prop := σ.1 63 36 = iI (an a) ∧ σ.1 63 37 = iI (aS a 0) ∧ σ.1 63 38 = iI (aS a 1) ∧ (∀ i, i < an a → σ.1 63 i = iI (atx a i)) ∧ (∀ i, i < an a → σ.1 63 (18 + i) = iI (amo a i)) ∧ ∀ j, j < 18 → σ.1 63 (40 + j) = iI (aw a j)
theorem LA.of {σ τ : zS} {a : mA} (h : LA σ a) (e : τ.1 63 = σ.1 63) : LA τ a := by
  unfold LA at h ⊢
  rw [e]
  exact h
theorem vin_a {k : Nat} (h : k < 64) : vp_in (iI (k : Int)) (zN 63) := vin_k h (by decide)
/-- bounds under which the law keeps its clip -/
def LB (a : mA) : Prop := aB a ∧ an a ≤ 12
theorem LB.n {a : mA} (h : LB a) : an a ≤ 12 := h.2
theorem sp_lCut {d i : Nat} {a : mA} {σ : zS} {k : Int32 → zS → Prop} (hB : LB a) (hL : LA σ a) (hi : i < an a) (h1 : mCt a i = true → k 1 σ) (h0 : ¬ mCt a i = true → k 0 σ) : zCall (d + 1) nL_isCut [.ref 63, .int (iI i)] σ (zPI k) := by
  have hn := hB.2
  obtain ⟨b1, b2, b3⟩ := hB.1.1.2 i hi
  have e : mCt a i = true ↔ 0 < i ∧ 3 * atx a i < 2 * amo a i := by
    show mCut (atx a) (amo a) i = true ↔ _
    unfold mCut
    rw [Bool.and_eq_true, decide_eq_true_eq, decide_eq_true_eq]
  refine ze_L_isCut _ σ (fun X hX => zq_L_isCut_0 hX _ σ ?_)
  rw [iI_18p, iI_k (by omega), iI_k (by omega), hL.2.2.2.1 i hi, hL.2.2.2.2.1 i hi, show (2 : Int32) = iI 2 from rfl, show (3 : Int32) = iI 3 from rfl, iI_mul, iI_mul]
  refine ⟨fun z => ⟨_, rfl, h0 (fun y => ?_)⟩, fun z => ⟨vin_a (by omega), vin_a (by omega), fun y => ⟨_, rfl, h0 (fun x => ?_)⟩, fun y => ⟨_, rfl, h1 (e.mpr ⟨?_, ?_⟩)⟩⟩⟩
  · rw [show (0 : Int32) = iI 0 from rfl, iI_le (by omega) (by omega) (by omega) (by omega)] at z
    have := (e.mp y).1
    omega
  · rw [iI_le (by omega) (by omega) (by omega) (by omega)] at y
    have := (e.mp x).2
    omega
  · rw [show (0 : Int32) = iI 0 from rfl, iI_le (by omega) (by omega) (by omega) (by omega)] at z
    omega
  · rw [iI_le (by omega) (by omega) (by omega) (by omega)] at y
    omega
theorem lg_loop {d i : Nat} {a : mA} {σ : zS} {post : zPo} {X : zX} (hX : zClosed none (zCall (d + 1)) post nL_groupOf X) (hB : LB a) (hL : LA σ a) (hi : i < an a) (h : post (some (.int (iI (mF (aS a 0) (mCt a) (i + 1) : Nat)))) σ) : ∀ (m j : Nat), j + m = i + 1 → 1 ≤ j → X 4 [some (.ref 63), some (.int (iI i)), some (.int (iI (mF (aS a 0) (mCt a) j : Nat))), some (.int (iI j))] [] σ
  | 0, j, hm, h1 => by
    have hn := hB.2
    have e : j = i + 1 := by omega
    subst e
    refine zq_L_groupOf_4 hX _ _ _ σ (zIf_f ?_ h)
    rw [iI_le (by omega) (by omega) (by omega) (by omega)]; omega
  | m + 1, j, hm, h1 => by
    have hn := hB.2
    have hiv := hB.1.2.1
    have go : ∀ v : Nat, mF (aS a 0) (mCt a) (j + 1) = v → X 4 [some (.ref 63), some (.int (iI i)), some (.int (iI (v : Nat))), some (.int (iI j + 1))] [] σ := fun v hv => by
      rw [← hv, iI_s]
      exact lg_loop hX hB hL hi h m (j + 1) (by omega) (by omega)
    have st := lF_step (iv := aS a 0) (cut := mCt a) hiv.1 h1
    have hF := mF_le (aS a 0) (mCt a) j
    refine zq_L_groupOf_4 hX _ _ _ σ (zIf_t ?_ (sp_lCut (d := d) hB hL (show j < an a by omega) (fun c => zIf_f (by decide) (go j ?_)) (fun c => zIf_t rfl ?_)))
    · rw [iI_le (by omega) (by omega) (by omega) (by omega)]; omega
    · rw [st, if_pos (Or.inl c)]
    · rw [hL.2.1, iI_kk]
      refine ⟨fun z => go j ?_, fun z => go _ ?_⟩
      · rw [iI_eq (by omega) (by omega) (by omega) (by omega)] at z
        rw [st, if_pos (Or.inr (by omega))]
      · rw [iI_eq (by omega) (by omega) (by omega) (by omega)] at z
        rw [st, if_neg]
        rintro (y | y)
        · exact c y
        · omega
theorem sp_lGroup {d i : Nat} {a : mA} {σ : zS} {k : Int32 → zS → Prop} (hB : LB a) (hL : LA σ a) (hi : i < an a) (hk : k (iI (mF (aS a 0) (mCt a) (i + 1) : Nat)) σ) : zCall (d + 2) nL_groupOf [.ref 63, .int (iI i)] σ (zPI k) := by
  refine ze_L_groupOf (d := d + 1) _ σ (fun X hX => zq_L_groupOf_0 (d := d) hX _ σ ?_)
  have := lg_loop (d := d) hX hB hL hi ⟨_, rfl, hk⟩ i 1 (by omega) (Nat.le_refl 1)
  have e : mF (aS a 0) (mCt a) 1 = 0 := by
    rw [mF_succ, if_pos (mIt_0 _ _)]
  rw [e] at this
  exact this
theorem sp_lType {d i : Nat} {a : mA} {σ : zS} {k : Int32 → zS → Prop} (hB : LB a) (hL : LA σ a) (hi : i < an a) (hk : k (iI (mT a i)) σ) : zCall (d + 3) nL_type [.ref 63, .int (iI i)] σ (zPI k) := by
  have hn := hB.2
  have hbr := hB.1.2.2.1
  have hF := mF_lt (aS a 0) (mCt a) i
  have h0 : mT a i = 0 → k 0 σ := fun e => by rw [e] at hk; exact hk
  have h1 : mT a i = 1 → k 1 σ := fun e => by rw [e] at hk; exact hk
  have h2 : mT a i = 2 → k 2 σ := fun e => by rw [e] at hk; exact hk
  refine ze_L_type (d := d + 2) _ σ (fun X hX => zq_L_type_0 (d := d) hX _ σ (sp_lGroup (d := d) hB hL hi ?_))
  by_cases e : i = mF (aS a 0) (mCt a) (i + 1)
  · refine zIf_t ?_ ⟨_, rfl, h0 (lTy0.mpr e)⟩
    rw [iI_eq (by omega) (by omega) (by omega) (by omega)]; omega
  · have ty : mT a i = _ := lTy (br := aS a 1) hi e
    refine zIf_f ?_ ?_
    · rw [iI_eq (by omega) (by omega) (by omega) (by omega)]; omega
    · rw [hL.1, iI_s]
      by_cases e1 : i + 1 = an a
      · refine zIf_t (by rw [e1]) ⟨_, rfl, h1 ?_⟩
        rw [ty, if_pos (Or.inl (Or.inl e1))]
      · refine zIf_f ?_ (sp_lGroup (d := d) hB hL (show i + 1 < an a by omega) ?_)
        · rw [iI_eq (by omega) (by omega) (by omega) (by omega)]; omega
        · have hF2 := mF_lt (aS a 0) (mCt a) (i + 1)
          by_cases e2 : mF (aS a 0) (mCt a) (i + 1 + 1) = mF (aS a 0) (mCt a) (i + 1)
          · refine zIf_t (by rw [e2]) ⟨?_, ?_⟩
            · rw [hL.2.2.1, iI_p, show (0 : Int32) = iI 0 from rfl, iI_eq (by omega) (by omega) (by omega) (by omega)]; omega
            · have c1 : iI (i : Int) - iI (mF (aS a 0) (mCt a) (i + 1) : Nat) = iI ((i - mF (aS a 0) (mCt a) (i + 1) : Nat) : Int) := by
                rw [iI_sub]; congr 1; omega
              rw [hL.2.2.1, c1, iI_p]
              have hmod : ((i - mF (aS a 0) (mCt a) (i + 1) : Nat) : Int) % ((aS a 1 : Int) + 1) = (((i - mF (aS a 0) (mCt a) (i + 1)) % (aS a 1 + 1) : Nat) : Int) := (Int.natCast_emod _ _).symm
              have hml : (i - mF (aS a 0) (mCt a) (i + 1)) % (aS a 1 + 1) < aS a 1 + 1 := Nat.mod_lt _ (by omega)
              rw [iI_rem (by omega) (by omega) (by omega) (by omega), hmod]
              refine ⟨fun z => ⟨_, rfl, h1 ?_⟩, fun z => ⟨_, rfl, h2 ?_⟩⟩
              · rw [show (0 : Int32) = iI 0 from rfl, iI_eq (by omega) (by omega) (by omega) (by omega)] at z
                rw [ty, if_pos (Or.inr (by omega))]
              · rw [show (0 : Int32) = iI 0 from rfl, iI_eq (by omega) (by omega) (by omega) (by omega)] at z
                rw [ty, if_neg]
                rintro ((y | y) | y)
                · exact e1 y
                · exact y e2
                · exact z (by omega)
          · refine zIf_f ?_ ⟨_, rfl, h1 ?_⟩
            · rw [iI_eq (by omega) (by omega) (by omega) (by omega)]; omega
            · rw [ty, if_pos (Or.inl (Or.inr e2))]
theorem ls_loop {d i : Nat} {a : mA} {σ : zS} {post : zPo} {X : zX} (hX : zClosed none (zCall (d + 1)) post nL_sceneOf X) (hB : LB a) (hL : LA σ a) (hi : i < an a) (h : post (some (.int (iI (mSc (mCt a) i : Nat)))) σ) : ∀ (m j : Nat), j + m = i + 1 → 1 ≤ j → X 4 [some (.ref 63), some (.int (iI i)), some (.int (iI ((mS (mCt a) j - 1 : Nat) : Int))), some (.int (iI j))] [] σ
  | 0, j, hm, h1 => by
    have hn := hB.2
    have e : j = i + 1 := by omega
    subst e
    refine zq_L_sceneOf_4 hX _ _ _ σ (zIf_f ?_ h)
    rw [iI_le (by omega) (by omega) (by omega) (by omega)]; omega
  | m + 1, j, hm, h1 => by
    have hn := hB.2
    have hp := mS_pos (cut := mCt a) (i := j) (by omega)
    have st := lS_step (cut := mCt a) h1
    have go := ls_loop hX hB hL hi h m (j + 1) (by omega) (by omega)
    refine zq_L_sceneOf_4 hX _ _ _ σ (zIf_t ?_ (sp_lCut (d := d) hB hL (show j < an a by omega) (fun c => zIf_f (by decide) ?_) (fun c => zIf_t rfl ?_)))
    · rw [iI_le (by omega) (by omega) (by omega) (by omega)]; omega
    · rw [if_pos c] at st
      rw [iI_s, iI_s, show mS (mCt a) j - 1 + 1 = mS (mCt a) (j + 1) - 1 by omega]
      exact go
    · rw [if_neg c] at st
      rw [iI_s, show (0 : Int32) = iI ((0 : Nat) : Int) from rfl, iI_kk, show mS (mCt a) j - 1 + 0 = mS (mCt a) (j + 1) - 1 by omega]
      exact go
theorem sp_lScene {d i : Nat} {a : mA} {σ : zS} {k : Int32 → zS → Prop} (hB : LB a) (hL : LA σ a) (hi : i < an a) (hk : k (iI (mSc (mCt a) i : Nat)) σ) : zCall (d + 2) nL_sceneOf [.ref 63, .int (iI i)] σ (zPI k) := by
  refine ze_L_sceneOf (d := d + 1) _ σ (fun X hX => zq_L_sceneOf_0 (d := d) hX _ σ ?_)
  have := ls_loop (d := d) hX hB hL hi ⟨_, rfl, hk⟩ i 1 (by omega) (Nat.le_refl 1)
  have e : mS (mCt a) 1 = 1 := by simp [mS, fb_ct, mOp]
  rw [e] at this
  exact this
theorem lb_loop {d i : Nat} {a : mA} {σ : zS} {post : zPo} {X : zX} (hX : zClosed none (zCall (d + 3)) post nL_bridgesBefore X) (hB : LB a) (hL : LA σ a) (hi : i < an a) (h : post (some (.int (iI ((i - mW (mT a) i : Nat) : Int)))) σ) : ∀ j, j ≤ i → mW (mT a) j = mW (mT a) i → X 2 [some (.ref 63), some (.int (iI i)), some (.int (iI ((i - j : Nat) : Int)))] [] σ
  | 0, hj, e => by
    have hn := hB.2
    have e2 : mW (mT a) i = 0 := by rw [← e]; rfl
    rw [e2] at h
    refine zq_L_bridgesBefore_2 hX _ _ σ (zIf_t ?_ h)
    rw [iI_sub, show (0 : Int32) = iI 0 from rfl, iI_le (by omega) (by omega) (by omega) (by omega)]; omega
  | j + 1, hj, e => by
    have hn := hB.2
    have ht : mT a j ≤ 2 := mTy_lt _ _ _ _ _
    have e1 : iI (i : Int) - iI ((i - (j + 1) : Nat) : Int) = iI ((j + 1 : Nat) : Int) := by
      rw [iI_sub]; congr 1; omega
    have e2 : iI ((j + 1 : Nat) : Int) - 1 = iI (j : Int) := by
      rw [iI_m]; congr 1; omega
    have e3 : mW (mT a) (j + 1) = if mT a j = 2 then mW (mT a) j else j + 1 := rfl
    refine zq_L_bridgesBefore_2 hX _ _ σ (zIf_f ?_ ?_)
    · rw [e1, show (0 : Int32) = iI 0 from rfl, iI_le (by omega) (by omega) (by omega) (by omega)]; omega
    · rw [e1, e2]
      refine sp_lType (d := d) hB hL (show j < an a by omega) ⟨fun z => ?_, fun z => ?_⟩
      · rw [show (2 : Int32) = iI 2 from rfl, iI_eq (by omega) (by omega) (by omega) (by omega)] at z
        rw [iI_s, show i - (j + 1) + 1 = i - j by omega]
        refine lb_loop hX hB hL hi h j (by omega) ?_
        rw [← e, e3, if_pos (by omega)]
      · rw [show (2 : Int32) = iI 2 from rfl, iI_eq (by omega) (by omega) (by omega) (by omega)] at z
        rw [e3, if_neg (by omega)] at e
        rw [← e] at h
        exact h
theorem sp_lBefore {d i : Nat} {a : mA} {σ : zS} {k : Int32 → zS → Prop} (hB : LB a) (hL : LA σ a) (hi : i < an a) (hk : k (iI ((i - mW (mT a) i : Nat) : Int)) σ) : zCall (d + 4) nL_bridgesBefore [.ref 63, .int (iI i)] σ (zPI k) := by
  refine ze_L_bridgesBefore (d := d + 3) _ σ (fun X hX => zq_L_bridgesBefore_0 (d := d) hX _ σ ?_)
  have := lb_loop (d := d) hX hB hL hi ⟨_, rfl, hk⟩ i (Nat.le_refl i) rfl
  rw [show i - i = 0 by omega] at this
  exact this
theorem lp_loop {d i : Nat} {a : mA} {σ : zS} {post : zPo} {X : zX} (hX : zClosed none (zCall (d + 4)) post nL_place X) (hB : LB a) (hL : LA σ a) (hi : i < an a) (h : post (some (.int (iI ((i + 1 : Nat) : Int)))) σ) : ∀ (m j : Nat), j + m + 1 = an a → i ≤ j → mW (mT a) j = mW (mT a) i → X 19 [some (.ref 63), some (.int (iI i)), some (.int (iI j))] [] σ := by
  have hn := hB.2
  have wi := mW_le (mT a) i
  have fin : ∀ j : Nat, i ≤ j → j < an a → mW (mT a) j = mW (mT a) i → zCall (d + 4) nL_bridgesBefore [.ref 63, .int (iI j)] σ (zPI fun x4 σ3 => zCall (d + 4) nL_bridgesBefore [.ref 63, .int (iI i)] σ3 (zPI fun x6 σ5 => post (some (.int (((iI j - x4) + 1) + x6))) σ5)) := by
    intro j h1 h2 e
    refine sp_lBefore (d := d) hB hL h2 (sp_lBefore (d := d) hB hL hi ?_)
    have e2 : iI (j : Int) - iI ((j - mW (mT a) j : Nat) : Int) + 1 + iI ((i - mW (mT a) i : Nat) : Int) = iI ((i + 1 : Nat) : Int) := by
      rw [iI_sub, iI_p, iI_add]
      congr 1
      have := mW_le (mT a) j
      omega
    show post (some (.int (iI (j : Int) - iI ((j - mW (mT a) j : Nat) : Int) + 1 + iI ((i - mW (mT a) i : Nat) : Int)))) σ
    rw [e2]
    exact h
  intro m
  induction m with
  | zero =>
    intro j hm h1 e
    have ht : mT a j ≤ 2 := mTy_lt _ _ _ _ _
    have h2 : mT a j ≠ 2 := by
      have := mTy_last (n := an a) (iv := aS a 0) (br := aS a 1) (cut := mCt a) (by omega)
      rw [show an a - 1 = j by omega] at this
      exact this
    refine zq_L_place_19 hX _ _ σ (sp_lType (d := d + 1) hB hL (show j < an a by omega) (zIf_f ?_ (fin j h1 (by omega) e)))
    rw [show (2 : Int32) = iI 2 from rfl, iI_eq (by omega) (by omega) (by omega) (by omega)]; omega
  | succ m ih =>
    intro j hm h1 e
    have ht : mT a j ≤ 2 := mTy_lt _ _ _ _ _
    refine zq_L_place_19 hX _ _ σ (sp_lType (d := d + 1) hB hL (show j < an a by omega) ⟨fun z => ?_, fun z => fin j h1 (by omega) e⟩)
    rw [show (2 : Int32) = iI 2 from rfl, iI_eq (by omega) (by omega) (by omega) (by omega)] at z
    rw [iI_s]
    refine ih (j + 1) (by omega) (by omega) ?_
    rw [← e]
    show (if mT a j = 2 then mW (mT a) j else j + 1) = _
    rw [if_pos (by omega)]
theorem sp_lPlace {d i : Nat} {a : mA} {σ : zS} {k : Int32 → zS → Prop} (hB : LB a) (hL : LA σ a) (hi : i < an a) (hk : k (iI (mP a i)) σ) : zCall (d + 5) nL_place [.ref 63, .int (iI i)] σ (zPI k) := by
  have hn := hB.2
  have ht : mT a i ≤ 2 := mTy_lt _ _ _ _ _
  have wi := mW_le (mT a) i
  have e : mP a i = if mT a i = 2 then i + 1 else mW (mT a) i := rfl
  refine ze_L_place (d := d + 4) _ σ (fun X hX => zq_L_place_0 (d := d) hX _ σ (sp_lType (d := d + 1) hB hL hi ⟨fun z => ?_, fun z => ?_⟩))
  · rw [show (2 : Int32) = iI 2 from rfl, iI_lt (by omega) (by omega) (by omega) (by omega)] at z
    refine sp_lBefore (d := d) hB hL hi ⟨_, rfl, ?_⟩
    rw [e, if_neg (by omega)] at hk
    rw [iI_sub, show ((i : Int) - ((i - mW (mT a) i : Nat) : Int)) = ((mW (mT a) i : Nat) : Int) by omega]
    exact hk
  · rw [show (2 : Int32) = iI 2 from rfl, iI_lt (by omega) (by omega) (by omega) (by omega)] at z
    rw [e, if_pos (by omega)] at hk
    exact lp_loop (d := d) hX hB hL hi ⟨_, rfl, hk⟩ (an a - 1 - i) i (by omega) (Nat.le_refl i) rfl
theorem sp_lStep {d q : Nat} {σ : zS} {k : Int32 → zS → Prop} (hq : q < 52) (hk : k (iI (mStp q)) σ) : zCall (d + 1) nL_step [.int (iI q)] σ (zPI k) := by
  refine ze_L_step _ σ (fun X hX => zq_L_step_0 hX _ σ ?_)
  have hm : iI (q : Int) - iI q / 6 * 6 = iI ((q % 6 : Nat) : Int) := by
    rw [show (6 : Int32) = iI 6 from rfl, iI_rem (by omega) (by omega) (by omega) (by omega)]
    exact congrArg iI (by omega)
  rw [hm]
  have c : ∀ j : Nat, j < 6 → (iI ((q % 6 : Nat) : Int) = iI (j : Int) ↔ q % 6 = j) := fun j hj => by
    rw [iI_eq (by omega) (by omega) (by omega) (by omega)]; omega
  have sh := lShl q hq
  have go : ∀ b : Nat, mB6 (q % 6) = b → zPI k (some (.int (iI (b : Int) <<< (((iI (q : Int) / 6) : Int32) &&& 31)))) σ := by
    intro b e
    rw [e] at sh
    rw [sh]
    exact ⟨_, rfl, hk⟩
  have g : ∀ j : Nat, q % 6 = j → mB6 (q % 6) = mB6 j := fun j e => by rw [e]
  refine ⟨fun z => go 10 (g 0 ((c 0 (by omega)).mp z)), fun z0 => ⟨fun z => go 11 (g 1 ((c 1 (by omega)).mp z)), fun z1 => ⟨fun z => go 13 (g 2 ((c 2 (by omega)).mp z)), fun z2 => ⟨fun z => go 14 (g 3 ((c 3 (by omega)).mp z)), fun z3 => ⟨fun z => go 16 (g 4 ((c 4 (by omega)).mp z)), fun z4 => go 18 (g 5 ?_)⟩⟩⟩⟩⟩
  have y0 : q % 6 ≠ 0 := fun y => z0 ((c 0 (by omega)).mpr y)
  have y1 : q % 6 ≠ 1 := fun y => z1 ((c 1 (by omega)).mpr y)
  have y2 : q % 6 ≠ 2 := fun y => z2 ((c 2 (by omega)).mpr y)
  have y3 : q % 6 ≠ 3 := fun y => z3 ((c 3 (by omega)).mpr y)
  have y4 : q % 6 ≠ 4 := fun y => z4 ((c 4 (by omega)).mpr y)
  omega
theorem sp_lWork {d i : Nat} {a : mA} {σ : zS} {k : Int32 → zS → Prop} (hB : LB a) (hL : LA σ a) (hi : i < an a) (hk : k (iI (mK a i)) σ) : zCall (d + 4) nL_work [.ref 63, .int (iI i)] σ (zPI k) := by
  have hn := hB.2
  obtain ⟨b1, b2, b3⟩ := hB.1.1.2 i hi
  have ht : mT a i ≤ 2 := mTy_lt _ _ _ _ _
  have e : mK a i = if mT a i = 0 then 4 * atx a i else if mT a i = 1 then atx a i + 2 * amo a i else atx a i / 2 + amo a i := rfl
  refine ze_L_work (d := d + 3) _ σ (fun X hX => zq_L_work_0 (d := d) hX _ σ (sp_lType (d := d) hB hL hi ?_))
  rw [iI_18p, iI_k (by omega), iI_k (by omega), hL.2.2.2.1 i hi, hL.2.2.2.2.1 i hi, show (2 : Int32) = iI 2 from rfl, show (4 : Int32) = iI 4 from rfl, show (0 : Int32) = iI 0 from rfl, show (1 : Int32) = iI 1 from rfl, iI_mul, iI_mul, iI_add, iI_divN (by omega) (by omega) (by omega) (by omega), iI_add]
  refine ⟨fun z => ⟨vin_a (by omega), _, rfl, ?_⟩, fun z => ⟨fun y => ⟨vin_a (by omega), vin_a (by omega), _, rfl, ?_⟩, fun y => ⟨vin_a (by omega), vin_a (by omega), _, rfl, ?_⟩⟩⟩
  · rw [iI_eq (by omega) (by omega) (by omega) (by omega)] at z
    rw [e, if_pos (by omega)] at hk
    exact hk
  · rw [iI_eq (by omega) (by omega) (by omega) (by omega)] at z y
    rw [e, if_neg (by omega), if_pos (by omega)] at hk
    exact hk
  · rw [iI_eq (by omega) (by omega) (by omega) (by omega)] at z y
    rw [e, if_neg (by omega), if_neg (by omega)] at hk
    rw [show ((atx a i : Int) / 2 + (amo a i : Int)) = ((atx a i / 2 + amo a i : Nat) : Int) by omega]
    exact hk
theorem mK_le {a : mA} (hB : LB a) {i : Nat} (hi : i < an a) : mK a i ≤ 16000 := mWk_le hB.1.1 hi
theorem sp_lBits {d i q : Nat} {a : mA} {σ : zS} {k : Int32 → zS → Prop} (hB : LB a) (hL : LA σ a) (hi : i < an a) (hq : q < 52) (hk : k (iI (mBi (mK a i) q)) σ) : zCall (d + 5) nL_bits [.ref 63, .int (iI i), .int (iI q)] σ (zPI k) := by
  have hw := mK_le hB hi
  obtain ⟨s1, s2⟩ := mStp_b q hq
  refine ze_L_bits (d := d + 4) _ _ σ (fun X hX => zq_L_bits_0 (d := d) hX _ _ σ (sp_lWork (d := d) hB hL hi (sp_lStep (d := d + 3) hq ⟨?_, _, rfl, ?_⟩)))
  · rw [show (0 : Int32) = iI 0 from rfl, iI_eq (by omega) (by omega) (by omega) (by omega)]; omega
  · rw [show (200 : Int32) = iI 200 from rfl, iI_mul, iI_divN (by omega) (by omega) (by omega) (by omega), show (40 : Int32) = iI 40 from rfl, iI_add]
    have e : (40 : Int) + 200 * (mK a i : Int) / (mStp q : Int) = ((mBi (mK a i) q : Nat) : Int) := by
      unfold mBi
      rw [Int.natCast_add, Int.natCast_ediv, Int.natCast_mul, Int.mul_comm]
      rfl
    rw [e]
    exact hk
theorem sp_lLoss {d i q : Nat} {a : mA} {σ : zS} {k : Int32 → zS → Prop} (hB : LB a) (hL : LA σ a) (hi : i < an a) (hq : q < 52) (hk : k (iI (mLo (aw a (mSc (mCt a) i)) (mT a i) q)) σ) : zCall (d + 4) nL_loss [.ref 63, .int (iI i), .int (iI q)] σ (zPI k) := by
  have hn := hB.2
  have ht : mT a i ≤ 2 := mTy_lt _ _ _ _ _
  have hs : mSc (mCt a) i < 18 := by
    have := mS_le (mCt a) (i + 1)
    unfold mSc
    omega
  have hw := (hB.1.2.2.2.2.2.2.2.2.1 (mSc (mCt a) i) (by omega)).2
  obtain ⟨s1, s2⟩ := mStp_b q hq
  obtain ⟨a1, a2, a3⟩ := mLo_b hw ht hq
  refine ze_L_loss (d := d + 3) _ _ σ (fun X hX => zq_L_loss_0 (d := d) hX _ _ σ (sp_lScene (d := d + 1) hB hL hi ?_))
  rw [iI_40p, iI_k (by omega), hL.2.2.2.2.2 _ hs]
  refine ⟨vin_a (by omega), sp_lType (d := d) hB hL hi (sp_lStep (d := d + 2) hq (sp_lStep (d := d + 2) hq ⟨_, rfl, ?_⟩))⟩
  have e1 : (3 : Int32) - iI (mT a i : Nat) = iI ((3 - mT a i : Nat) : Int) := by
    rw [show (3 : Int32) = iI 3 from rfl, iI_sub]
    exact congrArg iI (by omega)
  have e2 : lI (aw a (mSc (mCt a) i) : Int) * lI ((3 - mT a i : Nat) : Int) * lI (mStp q : Int) * lI (mStp q : Int) = lI ((aw a (mSc (mCt a) i) * (3 - mT a i) * mStp q * mStp q : Nat) : Int) := by
    rw [lI_mul, lI_mul, lI_mul, Int.natCast_mul, Int.natCast_mul, Int.natCast_mul]
  rw [e1, iI_l (by omega) (by omega), iI_l (by omega) (by omega), iI_l (by omega) (by omega), e2, show (16 : Int64) = lI 16 from rfl, lI_div (by omega) (by omega) (by omega) (by omega), lI_i, Int.tdiv_eq_ediv_of_nonneg (by omega)]
  exact hk
end
section
/-! the law asks of a frame; of the scenes -/
theorem mP_lt {a : mA} {f : Nat} (hf : f < an a) : mP a f < an a := mPl_lt (fun z => mTy_last z) hf
theorem mO_P {a : mA} {f : Nat} (hf : f < an a) : mO a (mP a f) = f := mOr_pl hf
theorem told_end {d i q : Nat} {a : mA} {σ : zS} {post : zPo} {X : zX} (hX : zClosed none (zCall (d + 5)) post nL_isTold X) (hK : KI σ a) (hB : LB a) (hL : LA σ a) (hi : i < an a) (hq : q ≤ 51) (h : post (some (.int 1)) σ) : X 13 [some (.ref 0), some (.ref 63), some (.int (iI i)), some (.int (iI q)), some (.int (iI (mF (aS a 0) (mCt a) (i + 1) : Nat))), some (.int (iI (mGl (an a) (aS a 0) (mCt a) (mF (aS a 0) (mCt a) (i + 1)) : Nat))), some (.int (iI (an a)))] [] σ := by
  have hn := hB.2
  have f0 : iI (mFr a i 0 : Nat) = σ.1 63 (Int32.toNatClampNeg (iI (i : Int))) := by rw [iI_k (by omega), hL.2.2.2.1 i hi]; rfl
  have f1 : iI (mFr a i 1 : Nat) = σ.1 63 (Int32.toNatClampNeg (18 + iI (i : Int))) := by rw [iI_18p, iI_k (by omega), hL.2.2.2.2.1 i hi]; rfl
  have v1 : vp_in (18 + iI (i : Int)) (zN 63) := by rw [iI_18p]; exact vin_a (by omega)
  refine zq_L_isTold_13 hX _ _ _ _ _ σ (zIf_f ?_ ?_)
  · rw [hL.1]; exact Int32.lt_irrefl
  · refine c_frame (w := 0) hK hi (by decide) ⟨vin_a (by omega), zIf_t f0 ?_⟩
    refine c_frame (w := 1) hK hi (by decide) ⟨v1, zIf_t f1 ?_⟩
    refine c_frame (w := 2) hK hi (by decide) (sp_lType (d := d + 2) hB hL hi (zIf_t rfl ?_))
    refine c_frame (w := 3) hK hi (by decide) (sp_lScene (d := d + 3) hB hL hi (zIf_t rfl ?_))
    refine c_frame (w := 4) hK hi (by decide) (sp_lPlace (d := d) hB hL hi (zIf_t rfl ?_))
    refine c_frame (w := 5) hK hi (by decide) (sp_lWork (d := d + 1) hB hL hi (zIf_t rfl ?_))
    refine c_frame (w := 6) hK hi (by decide) (zIf_t rfl ?_)
    refine c_frame (w := 7) hK hi (by decide) (zIf_t rfl ?_)
    refine sp_lPlace (d := d) hB hL hi (c_coded (d := d + 2) (p := mP a i) hK (mP_lt hi) (zIf_t (by rw [mO_P hi]) ?_))
    refine c_bits (d := d + 2) hK hi hq (sp_lBits (d := d) hB hL hi (by omega) (zIf_t rfl ?_))
    refine c_loss (d := d + 1) hK hi hq (sp_lLoss (d := d + 1) hB hL hi (by omega) (zIf_t rfl ?_))
    exact c_frame8 (d := d + 2) hK hi (zIf_t rfl (c_bits52 (d := d + 2) hK hi (zIf_t rfl h)))
theorem told_loop {d i q : Nat} {a : mA} {σ : zS} {post : zPo} {X : zX} (hX : zClosed none (zCall (d + 5)) post nL_isTold X) (hK : KI σ a) (hB : LB a) (hL : LA σ a) (hi : i < an a) (hq : q ≤ 51) (h : post (some (.int 1)) σ) : ∀ (m j : Nat), j + m = an a → X 13 [some (.ref 0), some (.ref 63), some (.int (iI i)), some (.int (iI q)), some (.int (iI (mF (aS a 0) (mCt a) (i + 1) : Nat))), some (.int (iI (fb_ct (fun t => decide (mF (aS a 0) (mCt a) (t + 1) = mF (aS a 0) (mCt a) (i + 1))) j : Nat))), some (.int (iI j))] [] σ
  | 0, j, hm => by
    have e : j = an a := by omega
    subst e
    exact told_end hX hK hB hL hi hq h
  | m + 1, j, hm => by
    have hn := hB.2
    have go := told_loop hX hK hB hL hi hq h m (j + 1) (by omega)
    have hF1 := mF_lt (aS a 0) (mCt a) j
    have hF2 := mF_lt (aS a 0) (mCt a) i
    rw [fb_ct_succ] at go
    refine zq_L_isTold_13 hX _ _ _ _ _ σ (zIf_t ?_ (sp_lGroup (d := d + 3) hB hL (show j < an a by omega) ⟨fun z => ?_, fun z => ?_⟩))
    · rw [hL.1, iI_lt (by omega) (by omega) (by omega) (by omega)]; omega
    · rw [iI_eq (by omega) (by omega) (by omega) (by omega)] at z
      rw [decide_eq_true (show mF (aS a 0) (mCt a) (j + 1) = mF (aS a 0) (mCt a) (i + 1) by omega), if_pos rfl] at go
      rw [iI_s, iI_s]
      exact go
    · rw [iI_eq (by omega) (by omega) (by omega) (by omega)] at z
      rw [decide_eq_false (show ¬ mF (aS a 0) (mCt a) (j + 1) = mF (aS a 0) (mCt a) (i + 1) by omega), if_neg (by decide)] at go
      rw [iI_s, show (0 : Int32) = iI ((0 : Nat) : Int) from rfl, iI_kk]
      exact go
theorem sp_told {d i q : Nat} {a : mA} {σ : zS} {k : Int32 → zS → Prop} (hK : KI σ a) (hB : LB a) (hL : LA σ a) (hi : i < an a) (hq : q ≤ 51) (hk : k 1 σ) : zCall (d + 6) nL_isTold [.ref 0, .ref 63, .int (iI i), .int (iI q)] σ (zPI k) :=
  ze_L_isTold (d := d + 5) _ _ σ (fun X hX => zq_L_isTold_0 (d := d) hX _ _ σ (sp_lGroup (d := d + 3) hB hL hi (told_loop (d := d) hX hK hB hL hi hq ⟨_, rfl, hk⟩ (an a) 0 (by omega))))
-- the scenes
theorem scs_chain {d s : Nat} {a : mA} {σ : zS} {post : zPo} {X : zX} (hX : zClosed none (zCall (d + 4)) post nL_areScenes X) (hK : KI σ a) (hB : LB a) (hL : LA σ a) (hs : s < mS (mCt a) (an a)) {G : Int32} (h : X 53 [some (.ref 0), some (.ref 63), some (.int (iI (mS (mCt a) (an a)))), some (.int G), some (.int (iI ((s + 1 : Nat) : Int))), none, none, none, none, none] [] σ) : ∀ j, j ≤ an a → X 76 [some (.ref 0), some (.ref 63), some (.int (iI (mS (mCt a) (an a)))), some (.int G), some (.int (iI s)), some (.int (iI (mFs (msQ a s) (an a - j) j))), some (.int (iI ((fb_ct (msQ a s) (an a) - fb_ct (msQ a s) j : Nat) : Int))), some (.int (iI ((fb_ct (msG a s) (an a) - fb_ct (msG a s) j : Nat) : Int))), some (.int (iI ((j : Int) - 1))), none] [] σ
  | 0, hj => by
    have hn := hB.2
    have hs60 := mS_le (mCt a) (an a)
    have v2 : vp_in (40 + iI (s : Int)) (zN 63) := by rw [iI_40p]; exact vin_a (by omega)
    have w2 : iI (mSn a s 2) = σ.1 63 (Int32.toNatClampNeg (40 + iI (s : Int))) := by rw [iI_40p, iI_k (by omega), hL.2.2.2.2.2 s (by omega)]; rfl
    refine zq_L_areScenes_76 hX _ _ _ _ _ _ _ σ (zIf_t (by decide) ?_)
    refine c_scene (d := d) (w := 0) hK hs (by decide) (zIf_t rfl ?_)
    refine c_scene (d := d) (w := 1) hK hs (by decide) (zIf_t rfl ?_)
    refine c_scene (d := d) (w := 2) hK hs (by decide) ⟨v2, zIf_t w2 ?_⟩
    refine c_scene (d := d) (w := 5) hK hs (by decide) (zIf_t rfl ?_)
    refine c_scene3 (d := d) hK hs (zIf_t rfl ?_)
    rw [iI_s]
    exact h
  | j + 1, hj => by
    have hn := hB.2
    have hs60 := mS_le (mCt a) (an a)
    have go := scs_chain hX hK hB hL hs h j (by omega)
    have ht : mT a j ≤ 2 := mTy_lt _ _ _ _ _
    have em : an a - j = (an a - (j + 1)) + 1 := by omega
    have ef : mFs (msQ a s) (an a - j) j = if msQ a s j = true then (j : Int) else mFs (msQ a s) (an a - (j + 1)) (j + 1) := by rw [em]; rfl
    have q1 := fb_ct_mono (msQ a s) hj
    have g1 := fb_ct_mono (msG a s) hj
    have q2 := fb_ct_succ (msQ a s) j
    have g2 := fb_ct_succ (msG a s) j
    have ej : iI (((j + 1 : Nat) : Int) - 1) = iI (j : Int) := congrArg iI (by omega)
    have e3 : iI (mT a j : Nat) = 0 ↔ mT a j = 0 := by rw [show (0 : Int32) = iI 0 from rfl, iI_eq (by omega) (by omega) (by omega) (by omega)]; omega
    rw [ef] at go
    rw [ej]
    have no : ∀ x : Nat, iI (x : Int) + 0 = iI (x : Int) := fun x => by rw [show (0 : Int32) = iI ((0 : Nat) : Int) from rfl, iI_kk]; rfl
    refine zq_L_areScenes_76 hX _ _ _ _ _ _ _ σ (zIf_f ?_ (sp_lScene (d := d + 2) hB hL (show j < an a by omega) ⟨fun z => sp_lType (d := d + 1) hB hL (show j < an a by omega) ⟨fun y => ?_, fun y => ?_⟩, fun z => ?_⟩))
    · rw [show (0 : Int32) = iI 0 from rfl, iI_lt (by omega) (by omega) (by omega) (by omega)]; omega
    · have pq := (msQ_iI (a := a) (s := s) (f := j) (by omega) (by omega) (by omega)).mp z
      have pg : msG a s j = true := by
        unfold msG
        rw [pq, decide_eq_true (e3.mp y)]
        rfl
      rw [pq, if_pos rfl] at q2
      rw [pg, if_pos rfl] at g2
      rw [if_pos pq] at go
      rw [iI_s, iI_s, iI_pm, show fb_ct (msQ a s) (an a) - fb_ct (msQ a s) (j + 1) + 1 = fb_ct (msQ a s) (an a) - fb_ct (msQ a s) j by omega, show fb_ct (msG a s) (an a) - fb_ct (msG a s) (j + 1) + 1 = fb_ct (msG a s) (an a) - fb_ct (msG a s) j by omega]
      exact go
    · have pq := (msQ_iI (a := a) (s := s) (f := j) (by omega) (by omega) (by omega)).mp z
      have pg : msG a s j = false := by
        unfold msG
        rw [pq, decide_eq_false (fun w => y (e3.mpr w))]
        rfl
      rw [pq, if_pos rfl] at q2
      rw [pg, if_neg (by decide)] at g2
      rw [if_pos pq] at go
      rw [iI_s, no, iI_pm, show fb_ct (msQ a s) (an a) - fb_ct (msQ a s) (j + 1) + 1 = fb_ct (msQ a s) (an a) - fb_ct (msQ a s) j by omega, show fb_ct (msG a s) (an a) - fb_ct (msG a s) (j + 1) = fb_ct (msG a s) (an a) - fb_ct (msG a s) j by omega]
      exact go
    · have pq : ¬ msQ a s j = true := fun w => z ((msQ_iI (a := a) (s := s) (f := j) (by omega) (by omega) (by omega)).mpr w)
      have pg : ¬ msG a s j = true := fun w => pq (by
        unfold msG at w
        rw [Bool.and_eq_true] at w
        exact w.1)
      rw [if_neg pq] at q2 go
      rw [if_neg pg] at g2
      rw [no, no, iI_pm, show fb_ct (msQ a s) (an a) - fb_ct (msQ a s) (j + 1) = fb_ct (msQ a s) (an a) - fb_ct (msQ a s) j by omega, show fb_ct (msG a s) (an a) - fb_ct (msG a s) (j + 1) = fb_ct (msG a s) (an a) - fb_ct (msG a s) j by omega]
      exact go
theorem scs_loop {d : Nat} {a : mA} {σ : zS} {post : zPo} {X : zX} (hX : zClosed none (zCall (d + 4)) post nL_areScenes X) (hK : KI σ a) (hB : LB a) (hL : LA σ a) (h : post (some (.int 1)) σ) : ∀ (m s : Nat), s + m = mS (mCt a) (an a) → X 53 [some (.ref 0), some (.ref 63), some (.int (iI (mS (mCt a) (an a)))), some (.int (iI (mG (aS a 0) (mCt a) (an a)))), some (.int (iI s)), none, none, none, none, none] [] σ
  | 0, s, hm => by
    have e : s = mS (mCt a) (an a) := by omega
    subst e
    refine zq_L_areScenes_53 hX _ _ _ σ (zIf_f Int32.lt_irrefl ?_)
    refine c_count0 (d := d + 3) hK (zIf_t hL.1.symm ?_)
    refine c_count1 (d := d + 3) hK (zIf_t rfl ?_)
    refine c_count2 (d := d + 3) hK (zIf_t rfl ?_)
    exact c_sceneB (d := d) hK (zIf_t rfl h)
  | m + 1, s, hm => by
    have hn := hB.2
    have hs60 := mS_le (mCt a) (an a)
    have go := scs_chain hX hK hB hL (show s < mS (mCt a) (an a) by omega) (scs_loop hX hK hB hL h m (s + 1) (by omega)) (an a) (Nat.le_refl _)
    rw [Nat.sub_self, Nat.sub_self, Nat.sub_self] at go
    refine zq_L_areScenes_53 hX _ _ _ σ (zIf_t ?_ ?_)
    · rw [iI_lt (by omega) (by omega) (by omega) (by omega)]; omega
    · rw [hL.1, iI_m]
      exact go
theorem gr_loop {d : Nat} {a : mA} {σ : zS} {post : zPo} {X : zX} (hX : zClosed none (zCall (d + 4)) post nL_areScenes X) (hB : LB a) (hL : LA σ a) {S : Int32} (h : X 53 [some (.ref 0), some (.ref 63), some (.int S), some (.int (iI (mG (aS a 0) (mCt a) (an a)))), some (.int 0), none, none, none, none, none] [] σ) : ∀ (m j : Nat), j + m = an a → X 18 [some (.ref 0), some (.ref 63), some (.int S), some (.int (iI (fb_ct (fun t => decide (mT a t = 0)) j : Nat))), some (.int (iI j)), none, none, none, none, none] [] σ
  | 0, j, hm => by
    have e : j = an a := by omega
    subst e
    refine zq_L_areScenes_18 hX _ _ _ σ (zIf_f ?_ ?_)
    · rw [hL.1]; exact Int32.lt_irrefl
    · rw [show fb_ct (fun t => decide (mT a t = 0)) (an a) = mG (aS a 0) (mCt a) (an a) from lG_n (n := an a) (br := aS a 1) (an a)]
      exact h
  | m + 1, j, hm => by
    have hn := hB.2
    have ht : mT a j ≤ 2 := mTy_lt _ _ _ _ _
    have go := gr_loop hX hB hL h m (j + 1) (by omega)
    rw [fb_ct_succ] at go
    refine zq_L_areScenes_18 hX _ _ _ σ (zIf_t ?_ (sp_lType (d := d + 1) hB hL (show j < an a by omega) ⟨fun z => ?_, fun z => ?_⟩))
    · rw [hL.1, iI_lt (by omega) (by omega) (by omega) (by omega)]; omega
    · rw [show (0 : Int32) = iI 0 from rfl, iI_eq (by omega) (by omega) (by omega) (by omega)] at z
      rw [decide_eq_true (show mT a j = 0 by omega), if_pos rfl] at go
      rw [iI_s, iI_s]
      exact go
    · rw [show (0 : Int32) = iI 0 from rfl, iI_eq (by omega) (by omega) (by omega) (by omega)] at z
      rw [decide_eq_false (show ¬ mT a j = 0 by omega), if_neg (by decide)] at go
      rw [iI_s, show (0 : Int32) = iI ((0 : Nat) : Int) from rfl, iI_kk]
      exact go
theorem sp_scenes {d : Nat} {a : mA} {σ : zS} {k : Int32 → zS → Prop} (hK : KI σ a) (hB : LB a) (hL : LA σ a) (h0 : 0 < an a) (hk : k 1 σ) : zCall (d + 5) nL_areScenes [.ref 0, .ref 63] σ (zPI k) := by
  have hn := hB.2
  have hp := mS_pos (cut := mCt a) h0
  refine ze_L_areScenes (d := d + 4) σ (fun X hX => zq_L_areScenes_0 (d := d) hX σ ?_)
  rw [hL.1, iI_m, show ((an a : Int) - 1) = ((an a - 1 : Nat) : Int) by omega]
  refine sp_lScene (d := d + 2) hB hL (show an a - 1 < an a by omega) ?_
  have e : iI (mSc (mCt a) (an a - 1) : Nat) + 1 = iI (mS (mCt a) (an a) : Nat) := by
    rw [iI_s]
    unfold mSc
    rw [show an a - 1 + 1 = an a by omega, show mS (mCt a) (an a) - 1 + 1 = mS (mCt a) (an a) by omega]
  show X 18 [some (.ref 0), some (.ref 63), some (.int (iI (mSc (mCt a) (an a - 1) : Nat) + 1)), some (.int 0), some (.int 0), none, none, none, none, none] [] σ
  rw [e]
  exact gr_loop (d := d) hX hB hL (scs_loop (d := d) hX hK hB hL ⟨_, rfl, hk⟩ (mS (mCt a) (an a)) 0 (by omega)) (an a) 0 (by omega)
end
section
/-! the law makes its clip, and tells it to the component -/
theorem iI_1p (k : Nat) : (1 : Int32) + iI (k : Int) = iI ((1 + k : Nat) : Int) := by rw [show (1 : Int32) = iI ((1 : Nat) : Int) from rfl, iI_kk]
theorem sp_cell {d j L : Nat} {xs : Nat → Int32} {σ : zS} {k : Int32 → zS → Prop} (hL : L ≤ 260) (hj : j < 1000) (hk : ∀ x, k x σ) : zCallS (some (L, xs)) (d + 1) nL_cell [.ref 80, .int (iI j)] σ (zPI k) := by
  refine ze_L_cell _ σ (fun X hX => zq_L_cell_0 (d := d) hX _ σ ⟨fun z => ⟨?_, _, rfl, hk _⟩, fun z => ⟨_, rfl, hk _⟩⟩)
  rw [iI_n, iI_lt (by omega) (by omega) (by omega) (by omega)] at z
  exact vin_k (by omega) (by omega)
theorem sp_low {d m : Nat} {x : Int32} {σ : zS} {k : Int32 → zS → Prop} (h0 : 0 < m) (hm : m < 2147483648) (hk : ∀ r : Nat, r < m → k (iI r) σ) : zCall (d + 1) nL_low [.int x, .int (iI m)] σ (zPI k) := by
  obtain ⟨y, hy, e⟩ := lAnd31 x
  refine ze_L_low _ _ σ (fun X hX => zq_L_low_0 (d := d) hX _ _ σ ⟨?_, _, rfl, ?_⟩)
  · rw [show (0 : Int32) = iI 0 from rfl, iI_eq (by omega) (by omega) (by omega) (by omega)]; omega
  · rw [e, iI_rem (by omega) (by omega) (by omega) (by omega), ← Int.natCast_emod]
    exact hk _ (Nat.mod_lt _ h0)
/-- the law's numbers beside the component's: the clip has n frames in the end -/
def GP (σ : zS) (b : mA) (n : Nat) : Prop := KI σ b ∧ σ.1 63 36 = iI n ∧ σ.1 63 37 = iI (aS b 0) ∧ σ.1 63 38 = iI (aS b 1)
def GA (σ : zS) (b : mA) (n : Nat) : Prop := GP σ b n ∧ (∀ i, i < an b → σ.1 63 i = iI (atx b i)) ∧ (∀ i, i < an b → σ.1 63 (18 + i) = iI (amo b i)) ∧ ∀ j, j < 18 → σ.1 63 (40 + j) = iI (aw b j)
theorem GA.L {σ : zS} {b : mA} {n : Nat} (h : GA σ b n) (e : an b = n) : LA σ b := ⟨by rw [e]; exact h.1.2.1, h.1.2.2.1, h.1.2.2.2, h.2.1, h.2.2.1, h.2.2.2⟩
section GW
variable {d L n : Nat} {xs : Nat → Int32} {x : Int32} {post : zPo} {X : zX}
theorem gw_254 (hX : zClosed (some (L, xs)) (zCallS (some (L, xs)) (d + 6)) post nL_grows X) (hn : n ≤ 12) {b : mA} {i t m : Nat} {σ : zS} (hi : i < n) (hb : an b = i) (hG : GA σ b n) (t1 : 1 ≤ t) (t2 : t ≤ 4000) (m2 : m ≤ 4000) {c : Nat}
    (h : ∀ τ, GA τ (aClip b (i + 1) (nU (atx b) i t) (nU (amo b) i m)) n → X 105 [some (.ref 0), some (.ref 63), some (.ref 80), some (.int 0), some (.int x), some (.int 1), some (.int (iI ((i + 1 : Nat) : Int))), none] [] τ) :
    X 254 [some (.ref 0), some (.ref 63), some (.ref 80), some (.int 0), some (.int x), some (.int 1), some (.int (iI i)), none] [.int (iI m), .int (18 + iI i), .ref 63] (zSI (zSI σ 63 i (iI t)) 63 (18 + i) (iI c)) := by
  obtain ⟨⟨gK, g36, g37, g38⟩, gt, gm, gw⟩ := hG
  have row : ∀ j, (zSI (zSI (zSI σ 63 i (iI t)) 63 (18 + i) (iI c)) 63 (18 + i) (iI m)).1 63 j = if j = 18 + i then iI m else if j = i then iI t else σ.1 63 j := fun j => by
    rw [zSI_at, zSI_at, zSI_at]
    by_cases e1 : j = 18 + i
    · rw [if_pos ⟨rfl, e1⟩, if_pos e1]
    · rw [if_neg (fun z => e1 z.2), if_neg (fun z => e1 z.2), if_neg e1]
      by_cases e2 : j = i
      · rw [if_pos ⟨rfl, e2⟩, if_pos e2]
      · rw [if_neg (fun z => e2 z.2), if_neg e2]
  refine zq_L_grows_254 hX _ _ _ _ _ _ _ ?_
  rw [iI_18p, iI_k (by omega), iI_k (by omega), row, row, if_neg (by omega), if_pos rfl, if_pos rfl]
  refine ⟨vin_a (by omega), zIf_f (by decide) ⟨vin_a (by omega), vin_a (by omega), zUp ?_⟩⟩
  refine c_append (d := d) (a := b) (gK.hg ((((zHg.rf σ).si (by decide) _ _).si (by decide) _ _).si (by decide) _ _)) (by omega) t1 t2 m2 (fun τ hT hw => ?_)
  rw [hb] at hT ⊢
  have r63 := hw 63 (by decide)
  refine zIf_t rfl (zq_L_grows_285 hX _ _ _ _ _ ?_)
  rw [iI_s]
  refine h τ ⟨⟨hT, ?_, ?_, ?_⟩, fun j hj => ?_, fun j hj => ?_, fun j hj => ?_⟩
  · rw [r63, row, if_neg (by omega), if_neg (by omega)]; exact g36
  · rw [r63, row, if_neg (by omega), if_neg (by omega)]; exact g37
  · rw [r63, row, if_neg (by omega), if_neg (by omega)]; exact g38
  · have hj : j < i + 1 := hj
    show τ.1 63 j = iI (nU (atx b) i t j : Nat)
    rw [r63, row, if_neg (by omega)]
    by_cases e : j = i
    · rw [if_pos e, e, nU_s]
    · rw [if_neg e, nU_n e]; exact gt j (by omega)
  · have hj : j < i + 1 := hj
    show τ.1 63 (18 + j) = iI (nU (amo b) i m j : Nat)
    rw [r63, row]
    by_cases e : j = i
    · rw [if_pos (by omega), e, nU_s]
    · rw [if_neg (by omega), if_neg (by omega), nU_n e]; exact gm j (by omega)
  · show τ.1 63 (40 + j) = iI (aw b j : Nat)
    rw [r63, row, if_neg (by omega), if_neg (by omega)]
    exact gw j hj
theorem gw_221 (hX : zClosed (some (L, xs)) (zCallS (some (L, xs)) (d + 6)) post nL_grows X) (hn : n ≤ 12) {b : mA} {i t c : Nat} {σ : zS} (hi : i < n) (hb : an b = i) (hG : GA σ b n) (t1 : 1 ≤ t) (t2 : t ≤ 4000) (c2 : c ≤ 10000)
    (h : ∀ m τ, m ≤ 4000 → GA τ (aClip b (i + 1) (nU (atx b) i t) (nU (amo b) i m)) n → X 105 [some (.ref 0), some (.ref 63), some (.ref 80), some (.int 0), some (.int x), some (.int 1), some (.int (iI ((i + 1 : Nat) : Int))), none] [] τ) :
    X 221 [some (.ref 0), some (.ref 63), some (.ref 80), some (.int 0), some (.int x), some (.int 1), some (.int (iI i)), none] [.int (iI c), .int (18 + iI i), .ref 63] (zSI σ 63 i (iI t)) := by
  refine zq_L_grows_221 hX _ _ _ _ _ _ _ ?_
  have e : (zSI (zSI σ 63 i (iI t)) 63 (18 + i) (iI c)).1 63 (18 + i) = iI c := by rw [zSI_at, if_pos ⟨rfl, rfl⟩]
  have e18 := iI_18p i
  have go : ∀ m : Nat, m ≤ 4000 → X 254 [some (.ref 0), some (.ref 63), some (.ref 80), some (.int 0), some (.int x), some (.int 1), some (.int (iI i)), none] [.int (iI m), .int (18 + iI i), .ref 63] (zSI (zSI σ 63 i (iI t)) 63 (18 + i) (iI c)) := fun m hm => gw_254 (d := d) hX hn hi hb hG t1 t2 hm (fun τ hT => h m τ hm hT)
  have en : Int32.toNatClampNeg (18 + iI (i : Int)) = 18 + i := by rw [e18, iI_k (by omega)]
  have ev : vp_in (18 + iI (i : Int)) (zN 63) := by rw [e18]; exact vin_a (by omega)
  rw [en, e]
  refine ⟨ev, ev, fun z => go c ?_, fun z => go 4000 (by decide)⟩
  rw [show (4000 : Int32) = iI 4000 from rfl, iI_le (by omega) (by omega) (by omega) (by omega)] at z
  omega
theorem gw_153 (hX : zClosed (some (L, xs)) (zCallS (some (L, xs)) (d + 6)) post nL_grows X) (hn : n ≤ 12) {b : mA} {i c : Nat} {y : Int32} {σ : zS} (hi : i < n) (hb : an b = i) (hG : GA σ b n) (c1 : 1 ≤ c) (c2 : c ≤ 4000)
    (h : ∀ t m τ, 1 ≤ t → t ≤ 4000 → m ≤ 4000 → GA τ (aClip b (i + 1) (nU (atx b) i t) (nU (amo b) i m)) n → X 105 [some (.ref 0), some (.ref 63), some (.ref 80), some (.int 0), some (.int x), some (.int 1), some (.int (iI ((i + 1 : Nat) : Int))), none] [] τ) :
    X 153 [some (.ref 0), some (.ref 63), some (.ref 80), some (.int 0), some (.int x), some (.int 1), some (.int (iI i)), some (.int y)] [.int (iI c), .int y, .int 1, .int (iI i), .ref 63] σ := by
  refine zq_L_grows_153 hX _ _ _ _ _ _ _ _ _ σ (zUp (sp_low (d := d + 5) c1 (by omega) (fun r hr => ⟨vin_a (by omega), ?_⟩)))
  rw [iI_k (by omega), iI_1p]
  have e : (zSI σ 63 i (iI ((1 + r : Nat) : Int))).1 63 i = iI ((1 + r : Nat) : Int) := by rw [zSI_at, if_pos ⟨rfl, rfl⟩]
  have go : ∀ c' : Nat, c' ≤ 10000 → X 221 [some (.ref 0), some (.ref 63), some (.ref 80), some (.int 0), some (.int x), some (.int 1), some (.int (iI i)), none] [.int (iI c'), .int (18 + iI i), .ref 63] (zSI σ 63 i (iI ((1 + r : Nat) : Int))) := fun c' hc => gw_221 (d := d) (t := 1 + r) hX hn hi hb hG (by omega) (by omega) hc (fun m τ hm hT => h (1 + r) m τ (by omega) (by omega) hm hT)
  refine zUp (sp_low (d := d + 5) (m := 5) (by decide) (by decide) (fun r2 hr2 => ?_))
  rw [e, show (2 : Int32) = iI 2 from rfl, iI_mul, show (3 : Int32) = iI 3 from rfl, iI_mul, iI_divN (by omega) (by omega) (by omega) (by omega), show (1 : Int32) = iI 1 from rfl, iI_add]
  refine ⟨fun z => ⟨vin_a (by omega), fun z2 => ?_, fun z2 => go 4000 (by decide)⟩, fun z => ⟨vin_a (by omega), zUp ?_⟩⟩
  · have := go (2 * (1 + r)) (by omega)
    rw [show (((2 * (1 + r) : Nat)) : Int) = 2 * ((1 + r : Nat) : Int) by omega] at this
    exact this
  · rw [show (3 * ((1 + r : Nat) : Int) / 2 + 1) = ((3 * (1 + r) / 2 + 1 : Nat) : Int) by omega]
    exact sp_low (d := d + 5) (by omega) (by omega) (fun r3 hr3 => go r3 (by omega))
theorem gw_loop (hX : zClosed (some (L, xs)) (zCallS (some (L, xs)) (d + 6)) post nL_grows X) (hL : L ≤ 260) (hn : n ≤ 12) (h : ∀ τ b, GA τ b n → an b = n → (∀ j, j < 60 → aw b j = 4) → X 293 [some (.ref 0), some (.ref 63), none, none, some (.int x), some (.int 1), none, none] [] τ) : ∀ (m i : Nat) (σ : zS) (b : mA), i + m = n → an b = i → GA σ b n → (∀ j, j < 60 → aw b j = 4) → X 105 [some (.ref 0), some (.ref 63), some (.ref 80), some (.int 0), some (.int x), some (.int 1), some (.int (iI i)), none] [] σ
  | 0, i, σ, b, hm, hb, hG, hw => by
    refine zq_L_grows_105 hX _ _ _ _ σ (zIf_f ?_ (h σ b hG (by omega) hw))
    rw [hG.1.2.1, iI_lt (by omega) (by omega) (by omega) (by omega)]; omega
  | m + 1, i, σ, b, hm, hb, hG, hw => by
    have go : ∀ (c : Nat) (y : Int32), 1 ≤ c → c ≤ 4000 → X 153 [some (.ref 0), some (.ref 63), some (.ref 80), some (.int 0), some (.int x), some (.int 1), some (.int (iI i)), some (.int y)] [.int (iI c), .int y, .int 1, .int (iI i), .ref 63] σ := fun c y c1 c2 =>
      gw_153 (d := d) hX hn (show i < n by omega) hb hG c1 c2 (fun t u τ _ _ _ hT => gw_loop hX hL hn h m (i + 1) τ _ (by omega) rfl hT hw)
    refine zq_L_grows_105 hX _ _ _ _ σ (zIf_t ?_ ?_)
    · rw [hG.1.2.1, iI_lt (by omega) (by omega) (by omega) (by omega)]; omega
    · have e : (0 : Int32) + 1 + iI (i : Int) = iI ((1 + i : Nat) : Int) := iI_1p i
      rw [e]
      exact sp_cell (d := d + 5) hL (by omega) (fun y => zUp (sp_low (d := d + 5) (m := 4) (by decide) (by decide) (fun r hr => ⟨fun _ => go 4000 y (by decide) (by decide), fun _ => go 400 y (by decide) (by decide)⟩)))
theorem w4_loop (hX : zClosed (some (L, xs)) (zCallS (some (L, xs)) (d + 6)) post nL_grows X) {b : mA} (h : ∀ τ, GP τ b n → (∀ j, j < 18 → τ.1 63 (40 + j) = 4) → X 105 [some (.ref 0), some (.ref 63), some (.ref 80), some (.int 0), some (.int x), some (.int 1), some (.int 0), none] [] τ) : ∀ (m j : Nat) (σ : zS), j + m = 18 → GP σ b n → (∀ k, k < j → σ.1 63 (40 + k) = 4) → X 81 [some (.ref 0), some (.ref 63), some (.ref 80), some (.int 0), some (.int x), some (.int 1), some (.int (iI j)), none] [] σ
  | 0, j, σ, hm, hG, hw => by
    refine zq_L_grows_81 hX _ _ _ _ σ (zIf_f ?_ (h σ hG (fun k hk => hw k (by omega))))
    rw [show (18 : Int32) = iI 18 from rfl, iI_lt (by omega) (by omega) (by omega) (by omega)]; omega
  | m + 1, j, σ, hm, hG, hw => by
    refine zq_L_grows_81 hX _ _ _ _ σ (zIf_t ?_ ?_)
    · rw [show (18 : Int32) = iI 18 from rfl, iI_lt (by omega) (by omega) (by omega) (by omega)]; omega
    · rw [iI_40p, iI_k (by omega), iI_s]
      refine ⟨vin_a (by omega), w4_loop hX h m (j + 1) _ (by omega) ⟨hG.1.hg ((zHg.rf σ).si (by decide) _ _), ?_, ?_, ?_⟩ (fun k hk => ?_)⟩
      · rw [zSI_at, if_neg (by omega)]; exact hG.2.1
      · rw [zSI_at, if_neg (by omega)]; exact hG.2.2.1
      · rw [zSI_at, if_neg (by omega)]; exact hG.2.2.2
      · rw [zSI_at]
        by_cases e : k = j
        · rw [if_pos ⟨rfl, by omega⟩]
        · rw [if_neg (by omega)]; exact hw k (by omega)
end GW
theorem sp_grows {d L : Nat} {xs : Nat → Int32} {a : mA} {σ : zS} {k : Int32 → zS → Prop} (hL : L ≤ 260) (hK : KI σ a) (h0 : an a = 0) (hs0 : aS a 0 = 12) (hs1 : aS a 1 = 2) (hw : ∀ j, j < 60 → aw a j = 4) (hk : ∀ τ b, KI τ b → LB b → 0 < an b → LA τ b → k 1 τ) : zCallS (some (L, xs)) (d + 7) nL_grows [.ref 0, .ref 63, .ref 80, .int 0] σ (zPI k) := by
  refine ze_L_grows (d := d + 6) _ σ (fun X hX => zq_L_grows_0 (d := d) hX _ σ (sp_cell (d := d + 5) (j := 0) hL (by decide) (fun x => ?_)))
  refine zUp (sp_low (d := d + 5) (m := 12) (by decide) (by decide) (fun r hr => ?_))
  refine zUp (sp_low (d := d + 5) (m := 9) (by decide) (by decide) (fun r2 hr2 => ?_))
  obtain ⟨br, hbr, ebr⟩ := lAnd3 (x >>> ((8 : Int32) &&& 31))
  rw [ebr, iI_1p, iI_1p]
  have hK2 : KI (zSI (zSI (zSI σ 63 36 (iI ((1 + r : Nat) : Int))) 63 37 (iI ((1 + r2 : Nat) : Int))) 63 38 (iI (br : Int))) a := hK.hg ((((zHg.rf σ).si (by decide) _ _).si (by decide) _ _).si (by decide) _ _)
  refine zUp (c_setInterval (d := d) (t := 1 + r2) hK2 (by omega) (by omega) (fun τ hT lw => zIf_t (by rw [hs0]; rfl) ?_))
  have e38 : τ.1 63 38 = iI (br : Int) := by rw [lw 63 (by decide), zSI_at, if_pos ⟨rfl, rfl⟩]
  rw [e38]
  refine zUp (c_setBridges (d := d) (t := br) hT hbr (fun υ hU lw2 => zIf_t ?_ ?_))
  · show iI (nU (aS a) 0 (1 + r2) 1 : Nat) = 2
    rw [nU_n (by decide), hs1]; rfl
  · have r63 : υ.1 63 = _ := (lw2 63 (by decide)).trans (lw 63 (by decide))
    refine zq_L_grows_76 hX _ _ _ υ (w4_loop (d := d) (n := 1 + r) hX (fun ω hG hw4 => ?_) 18 0 υ (by decide) ⟨hU, ?_, ?_, ?_⟩ (fun j hj => absurd hj (Nat.not_lt_zero j)))
    · have hb0 : an (aSet (aSet a (nU (aS a) 0 (1 + r2)) false) (nU (aS (aSet a (nU (aS a) 0 (1 + r2)) false)) 1 br) false) = 0 := h0
      refine gw_loop (d := d) (n := 1 + r) hX hL (by omega) (fun ψ b hG2 hb hw2 => ?_) (1 + r) 0 ω (aSet (aSet a (nU (aS a) 0 (1 + r2)) false) (nU (aS (aSet a (nU (aS a) 0 (1 + r2)) false)) 1 br) false) (by omega) hb0 ⟨hG, fun i hi => absurd hi (by rw [hb0]; exact Nat.not_lt_zero i), fun i hi => absurd hi (by rw [hb0]; exact Nat.not_lt_zero i), fun j hj => ?_⟩ hw
      · refine zq_L_grows_293 hX _ _ ψ (zUp (sp_low (d := d + 5) (m := 6) (by decide) (by decide) (fun s hs => zUp (sp_low (d := d + 5) (m := 8) (by decide) (by decide) (fun t ht => ?_)))))
        rw [iI_40p, iI_k (by omega), iI_1p]
        have ee : (zSI ψ 63 (40 + s) (iI ((1 + t : Nat) : Int))).1 63 (40 + s) = iI ((1 + t : Nat) : Int) := by rw [zSI_at, if_pos ⟨rfl, rfl⟩]
        rw [ee]
        refine ⟨vin_a (by omega), zIf_f (by decide) (zUp (c_setWeight (d := d + 4) (a := b) (hG2.1.1.hg ((zHg.rf ψ).si (by decide) _ _)) (by omega) (by omega) (by omega) (fun ω2 hK3 lw3 => zIf_t (by rw [hw2 s (by omega)]; rfl) (zq_L_grows_351 hX _ _ ⟨_, rfl, hk ω2 _ hK3 ⟨hK3.b, ?_⟩ ?_ ⟨?_, ?_, ?_, fun i hi => ?_, fun i hi => ?_, fun j hj => ?_⟩⟩))))⟩
        · show an b ≤ 12
          omega
        · show 0 < an b
          omega
        · rw [lw3 63 (by decide), zSI_at, if_neg (by omega)]
          show ψ.1 63 36 = iI (an b : Nat)
          rw [hb]; exact hG2.1.2.1
        · rw [lw3 63 (by decide), zSI_at, if_neg (by omega)]; exact hG2.1.2.2.1
        · rw [lw3 63 (by decide), zSI_at, if_neg (by omega)]; exact hG2.1.2.2.2
        · have hi : i < an b := hi
          rw [lw3 63 (by decide), zSI_at, if_neg (by omega)]; exact hG2.2.1 i hi
        · have hi : i < an b := hi
          rw [lw3 63 (by decide), zSI_at, if_neg (by omega)]; exact hG2.2.2.1 i hi
        · rw [lw3 63 (by decide), zSI_at]
          show _ = iI (nU (aw b) s (1 + t) j : Nat)
          by_cases e : j = s
          · rw [if_pos ⟨rfl, by omega⟩, e, nU_s]
          · rw [if_neg (by omega), nU_n e]; exact hG2.2.2.2 j hj
      · rw [hw4 j hj]
        show (4 : Int32) = iI (aw a j : Nat)
        rw [hw j (by omega)]; rfl
    · rw [r63, zSI_at, if_neg (by omega), zSI_at, if_neg (by omega), zSI_at, if_pos ⟨rfl, rfl⟩]
    · rw [r63, zSI_at, if_neg (by omega), zSI_at, if_pos ⟨rfl, rfl⟩]; rfl
    · rw [r63, zSI_at, if_pos ⟨rfl, rfl⟩]; rfl
end
section
/-! the law behind its makings in regions: printed by wip/p40/genlaw.py -/
def zo_L_law_13 : List zOp := [(.aload_n 1, 14, 1, 0, 0, 0, 0, 0, 0, []), (.iconst 0, 15, 0, 0, 0, 0, 0, 0, 0, []), (.invokevirtual 83, 18, 53, 2, 1, 11, 644, 0, 0, []), (.ifCond .ne 86, 21, 104, 0, 0, 0, 0, 0, 0, []), (.aload_n 1, 22, 1, 0, 0, 0, 0, 0, 0, []), (.iconst 1, 23, 0, 0, 0, 0, 0, 1, 0, []), (.invokevirtual 83, 26, 53, 2, 1, 11, 644, 0, 0, []), (.ifCond .ne 78, 29, 104, 0, 0, 0, 0, 0, 0, []), (.aload_n 1, 30, 1, 0, 0, 0, 0, 0, 0, []), (.invokevirtual 87, 33, 41, 1, 1, 11, 489, 0, 0, []), (.bipush (-3), 35, 0, 0, 0, 0, 0, (-3), 0, []), (.if_icmp .ne 69, 38, 104, 0, 0, 0, 0, 0, 0, []), (.aload_n 1, 39, 1, 0, 0, 0, 0, 0, 0, []), (.iconst 0, 40, 0, 0, 0, 0, 0, 0, 0, []), (.iconst 0, 41, 0, 0, 0, 0, 0, 0, 0, []), (.invokevirtual 80, 44, 52, 3, 1, 11, 618, 0, 0, []), (.bipush (-2), 46, 0, 0, 0, 0, 0, (-2), 0, []), (.if_icmp .ne 58, 49, 104, 0, 0, 0, 0, 0, 0, []), (.aload_n 1, 50, 1, 0, 0, 0, 0, 0, 0, []), (.iconst 0, 51, 0, 0, 0, 0, 0, 0, 0, []), (.invokevirtual 64, 54, 43, 2, 1, 11, 498, 0, 0, []), (.bipush (-2), 56, 0, 0, 0, 0, 0, (-2), 0, []), (.if_icmp .ne 48, 59, 104, 0, 0, 0, 0, 0, 0, []), (.aload_n 1, 60, 1, 0, 0, 0, 0, 0, 0, []), (.iconst 5, 61, 0, 0, 0, 0, 0, 5, 0, []), (.invokevirtual 91, 64, 49, 2, 1, 11, 510, 0, 0, []), (.bipush (-3), 66, 0, 0, 0, 0, 0, (-3), 0, []), (.if_icmp .ne 38, 69, 104, 0, 0, 0, 0, 0, 0, []), (.aload_n 1, 70, 1, 0, 0, 0, 0, 0, 0, []), (.iconst 0, 71, 0, 0, 0, 0, 0, 0, 0, []), (.iconst 0, 72, 0, 0, 0, 0, 0, 0, 0, []), (.invokevirtual 52, 75, 39, 3, 1, 11, 417, 0, 0, []), (.bipush (-2), 77, 0, 0, 0, 0, 0, (-2), 0, []), (.if_icmp .ne 27, 80, 104, 0, 0, 0, 0, 0, 0, []), (.aload_n 1, 81, 1, 0, 0, 0, 0, 0, 0, []), (.iconst 1, 82, 0, 0, 0, 0, 0, 1, 0, []), (.sipush 4001, 85, 0, 0, 0, 0, 0, 4001, 0, []), (.invokevirtual 52, 88, 39, 3, 1, 11, 417, 0, 0, []), (.bipush (-2), 90, 0, 0, 0, 0, 0, (-2), 0, []), (.if_icmp .ne 14, 93, 104, 0, 0, 0, 0, 0, 0, []), (.aload_n 1, 94, 1, 0, 0, 0, 0, 0, 0, []), (.bipush 61, 96, 0, 0, 0, 0, 0, 61, 0, []), (.invokevirtual 44, 99, 44, 2, 1, 11, 502, 0, 0, []), (.bipush (-2), 101, 0, 0, 0, 0, 0, (-2), 0, []), (.if_icmp .eq 5, 104, 106, 0, 0, 0, 0, 0, 0, [])]
set_option maxRecDepth 100000 in
theorem zk_L_law_13 : zOks nL_law zo_L_law_13 13 = true := by decide +kernel
def zo_L_law_104 : List zOp := [(.iconst 0, 105, 0, 0, 0, 0, 0, 0, 0, []), (.ireturn, 106, 0, 0, 1, 0, 0, 0, 0, []), (.aload_n 1, 107, 1, 0, 0, 0, 0, 0, 0, []), (.aload_n 2, 108, 2, 0, 0, 0, 0, 0, 0, []), (.aload_n 0, 109, 0, 0, 0, 0, 0, 0, 0, []), (.iconst 0, 110, 0, 0, 0, 0, 0, 0, 0, []), (.invokestatic 94, 113, 81, 4, 1, 0, 659, 0, 0, []), (.ifCond .ne 5, 116, 118, 0, 0, 0, 0, 0, 0, []), (.iconst 0, 117, 0, 0, 0, 0, 0, 0, 0, []), (.ireturn, 118, 0, 0, 1, 0, 0, 0, 0, []), (.iconst 0, 119, 0, 0, 0, 0, 0, 0, 0, []), (.istore_n 3, 120, 3, 0, 0, 0, 0, 0, 0, [])]
set_option maxRecDepth 100000 in
theorem zk_L_law_104 : zOks nL_law zo_L_law_104 104 = true := by decide +kernel
def zo_L_law_120 : List zOp := [(.iload_n 3, 121, 3, 0, 0, 0, 0, 0, 0, []), (.iconst 5, 122, 0, 0, 0, 0, 0, 5, 0, []), (.if_icmp .ge 289, 125, 411, 0, 0, 0, 0, 0, 0, []), (.aload_n 0, 126, 0, 0, 0, 0, 0, 0, 0, []), (.bipush 14, 128, 0, 0, 0, 0, 0, 14, 0, []), (.iload_n 3, 129, 3, 0, 0, 0, 0, 0, 0, []), (.iadd, 130, 0, 0, 0, 0, 0, 0, 0, []), (.invokestatic 37, 133, 69, 2, 1, 0, 648, 0, 0, []), (.istore 4, 135, 4, 0, 0, 0, 0, 0, 0, []), (.iconst 0, 136, 0, 0, 0, 0, 0, 0, 0, []), (.istore 5, 138, 5, 0, 0, 0, 0, 0, 0, [])]
set_option maxRecDepth 100000 in
theorem zk_L_law_120 : zOks nL_law zo_L_law_120 120 = true := by decide +kernel
def zo_L_law_138 : List zOp := [(.iload 5, 140, 5, 0, 0, 0, 0, 0, 0, []), (.aload_n 2, 141, 2, 0, 0, 0, 0, 0, 0, []), (.bipush 36, 143, 0, 0, 0, 0, 0, 36, 0, []), (.iaload, 144, 0, 0, 0, 0, 0, 0, 0, []), (.if_icmp .ge 31, 147, 175, 0, 0, 0, 0, 0, 0, []), (.aload_n 1, 148, 1, 0, 0, 0, 0, 0, 0, []), (.aload_n 2, 149, 2, 0, 0, 0, 0, 0, 0, []), (.iload 5, 151, 5, 0, 0, 0, 0, 0, 0, []), (.iload 4, 153, 4, 0, 0, 0, 0, 0, 0, []), (.iload 5, 155, 5, 0, 0, 0, 0, 0, 0, []), (.ishr, 156, 0, 0, 0, 0, 0, 0, 0, []), (.bipush 52, 158, 0, 0, 0, 0, 0, 52, 0, []), (.invokestatic 40, 161, 70, 2, 1, 0, 652, 0, 0, []), (.invokestatic 98, 164, 82, 4, 1, 0, 666, 0, 0, []), (.ifCond .ne 5, 167, 169, 0, 0, 0, 0, 0, 0, []), (.iconst 0, 168, 0, 0, 0, 0, 0, 0, 0, []), (.ireturn, 169, 0, 0, 1, 0, 0, 0, 0, []), (.iinc 5 1, 172, 5, 0, 0, 0, 0, 1, 0, []), (.goto (-34), 175, 138, 0, 0, 0, 0, 0, 0, []), (.aload_n 1, 176, 1, 0, 0, 0, 0, 0, 0, []), (.aload_n 2, 177, 2, 0, 0, 0, 0, 0, 0, []), (.invokestatic 102, 180, 83, 2, 1, 0, 705, 0, 0, []), (.ifCond .ne 5, 183, 185, 0, 0, 0, 0, 0, 0, []), (.iconst 0, 184, 0, 0, 0, 0, 0, 0, 0, []), (.ireturn, 185, 0, 0, 1, 0, 0, 0, 0, []), (.iload 4, 187, 4, 0, 0, 0, 0, 0, 0, []), (.iconst 3, 188, 0, 0, 0, 0, 0, 3, 0, []), (.ishr, 189, 0, 0, 0, 0, 0, 0, 0, []), (.aload_n 2, 190, 2, 0, 0, 0, 0, 0, 0, []), (.bipush 36, 192, 0, 0, 0, 0, 0, 36, 0, []), (.iaload, 193, 0, 0, 0, 0, 0, 0, 0, []), (.invokestatic 40, 196, 70, 2, 1, 0, 652, 0, 0, []), (.istore 5, 198, 5, 0, 0, 0, 0, 0, 0, []), (.iload 4, 200, 4, 0, 0, 0, 0, 0, 0, []), (.iconst 5, 201, 0, 0, 0, 0, 0, 5, 0, []), (.invokestatic 40, 204, 70, 2, 1, 0, 652, 0, 0, []), (.tableswitch 172 0 3 #[32, 32, 103, 140], 236, 376, 0, 0, 0, 0, 0, 0, [(0, 236), (1, 236), (2, 307), (3, 344)])]
set_option maxRecDepth 100000 in
theorem zk_L_law_138 : zOks nL_law zo_L_law_138 138 = true := by decide +kernel
def zo_L_law_236 : List zOp := [(.aload_n 2, 237, 2, 0, 0, 0, 0, 0, 0, []), (.iload 5, 239, 5, 0, 0, 0, 0, 0, 0, []), (.iconst 1, 240, 0, 0, 0, 0, 0, 1, 0, []), (.iload 4, 242, 4, 0, 0, 0, 0, 0, 0, []), (.bipush 7, 244, 0, 0, 0, 0, 0, 7, 0, []), (.ishr, 245, 0, 0, 0, 0, 0, 0, 0, []), (.sipush 500, 248, 0, 0, 0, 0, 0, 500, 0, []), (.invokestatic 40, 251, 70, 2, 1, 0, 652, 0, 0, []), (.iadd, 252, 0, 0, 0, 0, 0, 0, 0, []), (.iastore, 253, 0, 0, 0, 0, 0, 0, 0, []), (.aload_n 2, 254, 2, 0, 0, 0, 0, 0, 0, []), (.bipush 18, 256, 0, 0, 0, 0, 0, 18, 0, []), (.iload 5, 258, 5, 0, 0, 0, 0, 0, 0, []), (.iadd, 259, 0, 0, 0, 0, 0, 0, 0, []), (.iload 4, 261, 4, 0, 0, 0, 0, 0, 0, []), (.bipush 11, 263, 0, 0, 0, 0, 0, 11, 0, []), (.ishr, 264, 0, 0, 0, 0, 0, 0, 0, []), (.sipush 1000, 267, 0, 0, 0, 0, 0, 1000, 0, []), (.invokestatic 40, 270, 70, 2, 1, 0, 652, 0, 0, []), (.iastore, 271, 0, 0, 0, 0, 0, 0, 0, []), (.aload_n 1, 272, 1, 0, 0, 0, 0, 0, 0, []), (.iload 5, 274, 5, 0, 0, 0, 0, 0, 0, []), (.aload_n 2, 275, 2, 0, 0, 0, 0, 0, 0, []), (.iload 5, 277, 5, 0, 0, 0, 0, 0, 0, []), (.iaload, 278, 0, 0, 0, 0, 0, 0, 0, []), (.aload_n 2, 279, 2, 0, 0, 0, 0, 0, 0, []), (.bipush 18, 281, 0, 0, 0, 0, 0, 18, 0, []), (.iload 5, 283, 5, 0, 0, 0, 0, 0, 0, []), (.iadd, 284, 0, 0, 0, 0, 0, 0, 0, []), (.iaload, 285, 0, 0, 0, 0, 0, 0, 0, []), (.invokevirtual 106, 288, 40, 4, 1, 11, 479, 0, 0, []), (.aload_n 2, 289, 2, 0, 0, 0, 0, 0, 0, []), (.iload 5, 291, 5, 0, 0, 0, 0, 0, 0, []), (.invokestatic 9, 294, 71, 2, 1, 0, 656, 0, 0, []), (.ifCond .eq 7, 297, 301, 0, 0, 0, 0, 0, 0, []), (.iconst 1, 298, 0, 0, 0, 0, 0, 1, 0, []), (.goto 4, 301, 302, 0, 0, 0, 0, 0, 0, []), (.iconst 0, 302, 0, 0, 0, 0, 0, 0, 0, [])]
set_option maxRecDepth 100000 in
theorem zk_L_law_236 : zOks nL_law zo_L_law_236 236 = true := by decide +kernel
def zo_L_law_302 : List zOp := [(.if_icmp .eq 103, 305, 405, 0, 0, 0, 0, 0, 0, []), (.iconst 0, 306, 0, 0, 0, 0, 0, 0, 0, []), (.ireturn, 307, 0, 0, 1, 0, 0, 0, 0, [])]
set_option maxRecDepth 100000 in
theorem zk_L_law_302 : zOks nL_law zo_L_law_302 302 = true := by decide +kernel
def zo_L_law_307 : List zOp := [(.aload_n 2, 308, 2, 0, 0, 0, 0, 0, 0, []), (.bipush 37, 310, 0, 0, 0, 0, 0, 37, 0, []), (.iaload, 311, 0, 0, 0, 0, 0, 0, 0, []), (.istore 6, 313, 6, 0, 0, 0, 0, 0, 0, []), (.aload_n 2, 314, 2, 0, 0, 0, 0, 0, 0, []), (.bipush 37, 316, 0, 0, 0, 0, 0, 37, 0, []), (.iconst 1, 317, 0, 0, 0, 0, 0, 1, 0, []), (.iload 4, 319, 4, 0, 0, 0, 0, 0, 0, []), (.bipush 7, 321, 0, 0, 0, 0, 0, 7, 0, []), (.ishr, 322, 0, 0, 0, 0, 0, 0, 0, []), (.bipush 12, 324, 0, 0, 0, 0, 0, 12, 0, []), (.invokestatic 40, 327, 70, 2, 1, 0, 652, 0, 0, []), (.iadd, 328, 0, 0, 0, 0, 0, 0, 0, []), (.iastore, 329, 0, 0, 0, 0, 0, 0, 0, []), (.aload_n 1, 330, 1, 0, 0, 0, 0, 0, 0, []), (.aload_n 2, 331, 2, 0, 0, 0, 0, 0, 0, []), (.bipush 37, 333, 0, 0, 0, 0, 0, 37, 0, []), (.iaload, 334, 0, 0, 0, 0, 0, 0, 0, []), (.invokevirtual 44, 337, 44, 2, 1, 11, 502, 0, 0, []), (.iload 6, 339, 6, 0, 0, 0, 0, 0, 0, []), (.if_icmp .eq 66, 342, 405, 0, 0, 0, 0, 0, 0, []), (.iconst 0, 343, 0, 0, 0, 0, 0, 0, 0, []), (.ireturn, 344, 0, 0, 1, 0, 0, 0, 0, [])]
set_option maxRecDepth 100000 in
theorem zk_L_law_307 : zOks nL_law zo_L_law_307 307 = true := by decide +kernel
def zo_L_law_344 : List zOp := [(.aload_n 2, 345, 2, 0, 0, 0, 0, 0, 0, []), (.bipush 38, 347, 0, 0, 0, 0, 0, 38, 0, []), (.iaload, 348, 0, 0, 0, 0, 0, 0, 0, []), (.istore 6, 350, 6, 0, 0, 0, 0, 0, 0, []), (.aload_n 2, 351, 2, 0, 0, 0, 0, 0, 0, []), (.bipush 38, 353, 0, 0, 0, 0, 0, 38, 0, []), (.iload 4, 355, 4, 0, 0, 0, 0, 0, 0, []), (.bipush 7, 357, 0, 0, 0, 0, 0, 7, 0, []), (.ishr, 358, 0, 0, 0, 0, 0, 0, 0, []), (.iconst 3, 359, 0, 0, 0, 0, 0, 3, 0, []), (.iand, 360, 0, 0, 0, 0, 0, 0, 0, []), (.iastore, 361, 0, 0, 0, 0, 0, 0, 0, []), (.aload_n 1, 362, 1, 0, 0, 0, 0, 0, 0, []), (.aload_n 2, 363, 2, 0, 0, 0, 0, 0, 0, []), (.bipush 38, 365, 0, 0, 0, 0, 0, 38, 0, []), (.iaload, 366, 0, 0, 0, 0, 0, 0, 0, []), (.invokevirtual 49, 369, 45, 2, 1, 11, 506, 0, 0, []), (.iload 6, 371, 6, 0, 0, 0, 0, 0, 0, []), (.if_icmp .eq 34, 374, 405, 0, 0, 0, 0, 0, 0, []), (.iconst 0, 375, 0, 0, 0, 0, 0, 0, 0, []), (.ireturn, 376, 0, 0, 1, 0, 0, 0, 0, [])]
set_option maxRecDepth 100000 in
theorem zk_L_law_344 : zOks nL_law zo_L_law_344 344 = true := by decide +kernel
def zo_L_law_376 : List zOp := [(.aload_n 2, 377, 2, 0, 0, 0, 0, 0, 0, []), (.bipush 36, 379, 0, 0, 0, 0, 0, 36, 0, []), (.iaload, 380, 0, 0, 0, 0, 0, 0, 0, []), (.iconst 1, 381, 0, 0, 0, 0, 0, 1, 0, []), (.if_icmp .le 24, 384, 405, 0, 0, 0, 0, 0, 0, []), (.aload_n 2, 385, 2, 0, 0, 0, 0, 0, 0, []), (.bipush 36, 387, 0, 0, 0, 0, 0, 36, 0, []), (.dup2, 388, 0, 0, 0, 0, 0, 0, 0, []), (.iaload, 389, 0, 0, 0, 0, 0, 0, 0, []), (.iconst 1, 390, 0, 0, 0, 0, 0, 1, 0, []), (.isub, 391, 0, 0, 0, 0, 0, 0, 0, []), (.iastore, 392, 0, 0, 0, 0, 0, 0, 0, []), (.aload_n 1, 393, 1, 0, 0, 0, 0, 0, 0, []), (.invokevirtual 87, 396, 41, 1, 1, 11, 489, 0, 0, []), (.aload_n 2, 397, 2, 0, 0, 0, 0, 0, 0, []), (.bipush 36, 399, 0, 0, 0, 0, 0, 36, 0, []), (.iaload, 400, 0, 0, 0, 0, 0, 0, 0, []), (.if_icmp .eq 5, 403, 405, 0, 0, 0, 0, 0, 0, []), (.iconst 0, 404, 0, 0, 0, 0, 0, 0, 0, []), (.ireturn, 405, 0, 0, 1, 0, 0, 0, 0, [])]
set_option maxRecDepth 100000 in
theorem zk_L_law_376 : zOks nL_law zo_L_law_376 376 = true := by decide +kernel
def zo_L_law_405 : List zOp := [(.iinc 3 1, 408, 3, 0, 0, 0, 0, 1, 0, []), (.goto (-288), 411, 120, 0, 0, 0, 0, 0, 0, []), (.aload_n 1, 412, 1, 0, 0, 0, 0, 0, 0, []), (.iconst 3, 413, 0, 0, 0, 0, 0, 3, 0, []), (.invokevirtual 83, 416, 53, 2, 1, 11, 644, 0, 0, []), (.ifCond .ne 44, 419, 460, 0, 0, 0, 0, 0, 0, []), (.aload_n 1, 420, 1, 0, 0, 0, 0, 0, 0, []), (.iconst 0, 421, 0, 0, 0, 0, 0, 0, 0, []), (.iconst 0, 422, 0, 0, 0, 0, 0, 0, 0, []), (.invokevirtual 110, 425, 50, 3, 1, 11, 585, 0, 0, []), (.bipush (-3), 427, 0, 0, 0, 0, 0, (-3), 0, []), (.if_icmp .ne 33, 430, 460, 0, 0, 0, 0, 0, 0, []), (.aload_n 1, 431, 1, 0, 0, 0, 0, 0, 0, []), (.iconst 0, 432, 0, 0, 0, 0, 0, 0, 0, []), (.invokevirtual 113, 435, 51, 2, 2, 11, 601, 0, 0, []), (.ldc2_w 117, 438, 0, 0, 0, 0, 708, 0, (-3), []), (.lcmp, 439, 0, 0, 0, 0, 0, 0, 0, []), (.ifCond .ne 21, 442, 460, 0, 0, 0, 0, 0, 0, []), (.aload_n 1, 443, 1, 0, 0, 0, 0, 0, 0, []), (.aload_n 2, 444, 2, 0, 0, 0, 0, 0, 0, []), (.bipush 36, 446, 0, 0, 0, 0, 0, 36, 0, []), (.iaload, 447, 0, 0, 0, 0, 0, 0, 0, []), (.iconst 0, 448, 0, 0, 0, 0, 0, 0, 0, []), (.invokevirtual 58, 451, 42, 3, 1, 11, 493, 0, 0, []), (.bipush (-2), 453, 0, 0, 0, 0, 0, (-2), 0, []), (.if_icmp .ne 7, 456, 460, 0, 0, 0, 0, 0, 0, []), (.iconst 1, 457, 0, 0, 0, 0, 0, 1, 0, []), (.goto 4, 460, 461, 0, 0, 0, 0, 0, 0, [])]
set_option maxRecDepth 100000 in
theorem zk_L_law_405 : zOks nL_law zo_L_law_405 405 = true := by decide +kernel
def zo_L_law_460 : List zOp := [(.iconst 0, 461, 0, 0, 0, 0, 0, 0, 0, [])]
set_option maxRecDepth 100000 in
theorem zk_L_law_460 : zOks nL_law zo_L_law_460 460 = true := by decide +kernel
def zo_L_law_461 : List zOp := [(.ireturn, 462, 0, 0, 1, 0, 0, 0, 0, [])]
set_option maxRecDepth 100000 in
theorem zk_L_law_461 : zOks nL_law zo_L_law_461 461 = true := by decide +kernel
def zm_L_law : List (Nat × List Bool) := [(13, [true, true, true, false, false, false, false]), (104, [false, false, false, false, false, false, false]), (106, [true, true, true, false, false, false, false]), (120, [true, true, true, true, false, false, false]), (138, [true, true, true, true, true, true, false]), (236, [true, true, true, true, true, true, false]), (302, [true, true, true, true, false, false, false]), (307, [true, true, true, true, true, false, false]), (344, [true, true, true, true, true, false, false]), (376, [true, true, true, true, false, false, false]), (405, [true, true, true, true, false, false, false]), (411, [false, true, true, false, false, false, false]), (460, [false, false, false, false, false, false, false]), (461, [false, false, false, false, false, false, false])]
set_option maxRecDepth 100000 in
set_option maxHeartbeats 4000000 in
theorem zr_L_law_13 {C : zCa} {post : zPo} {X : zX} {L : Nat} {xs : Nat → Int32} (hX : zClosed (some (L, xs)) C post nL_law X) (σ : zS) (h : C nX11_count [.ref 0, .int 0] σ (zPI fun x2 σ1 => zIf ((x2 : Int32) = 0) (C nX11_count [.ref 0, .int 1] σ1 (zPI fun x4 σ3 => zIf ((x4 : Int32) = 0) (C nX11_drop [.ref 0] σ3 (zPI fun x6 σ5 => zIf ((x6 : Int32) = (-3)) (C nX11_scene [.ref 0, .int 0, .int 0] σ5 (zPI fun x8 σ7 => zIf ((x8 : Int32) = (-2)) (C nX11_coded [.ref 0, .int 0] σ7 (zPI fun x10 σ9 => zIf ((x10 : Int32) = (-2)) (C nX11_constant [.ref 0, .int 5] σ9 (zPI fun x12 σ11 => zIf ((x12 : Int32) = (-3)) (C nX11_append [.ref 0, .int 0, .int 0] σ11 (zPI fun x14 σ13 => zIf ((x14 : Int32) = (-2)) (C nX11_append [.ref 0, .int 1, .int 4001] σ13 (zPI fun x16 σ15 => zIf ((x16 : Int32) = (-2)) (C nX11_setInterval [.ref 0, .int 61] σ15 (zPI fun x18 σ17 => zIf ((x18 : Int32) = (-2)) (X 106 [some (.ref 80), some (.ref 0), some (.ref 63), none, none, none, none] [] σ17) (X 104 [none, none, none, none, none, none, none] [] σ17))) (X 104 [none, none, none, none, none, none, none] [] σ15))) (X 104 [none, none, none, none, none, none, none] [] σ13))) (X 104 [none, none, none, none, none, none, none] [] σ11))) (X 104 [none, none, none, none, none, none, none] [] σ9))) (X 104 [none, none, none, none, none, none, none] [] σ7))) (X 104 [none, none, none, none, none, none, none] [] σ5))) (X 104 [none, none, none, none, none, none, none] [] σ3))) (X 104 [none, none, none, none, none, none, none] [] σ1))) : X 13 [some (.ref 80), some (.ref 0), some (.ref 63), none, none, none, none] [] σ := zSeq_ok hX zm_L_law zo_L_law_13 13 13 _ _ _ zk_L_law_13 h
set_option maxRecDepth 100000 in
set_option maxHeartbeats 4000000 in
theorem zr_L_law_106 {C : zCa} {post : zPo} {X : zX} {L : Nat} {xs : Nat → Int32} (hX : zClosed (some (L, xs)) C post nL_law X) (σ : zS) (h : C nL_grows [.ref 0, .ref 63, .ref 80, .int 0] σ (zPI fun x2 σ1 => zIf ((x2 : Int32) = 0) (post (some (.int 0)) σ1) (X 120 [some (.ref 80), some (.ref 0), some (.ref 63), some (.int 0), none, none, none] [] σ1))) : X 106 [some (.ref 80), some (.ref 0), some (.ref 63), none, none, none, none] [] σ := zSeq_ok hX zm_L_law zo_L_law_104 104 106 _ _ _ zk_L_law_104 h
set_option maxRecDepth 100000 in
set_option maxHeartbeats 4000000 in
theorem zr_L_law_104 {C : zCa} {post : zPo} {X : zX} {L : Nat} {xs : Nat → Int32} (hX : zClosed (some (L, xs)) C post nL_law X) (σ : zS) (h : post (some (.int 0)) σ) : X 104 [none, none, none, none, none, none, none] [] σ := zSeq_ok hX zm_L_law zo_L_law_104 104 104 _ _ _ zk_L_law_104 h
set_option maxRecDepth 100000 in
set_option maxHeartbeats 4000000 in
theorem zr_L_law_120 {C : zCa} {post : zPo} {X : zX} {L : Nat} {xs : Nat → Int32} (hX : zClosed (some (L, xs)) C post nL_law X) (v3 : Int32) (σ : zS) (h : zIf ((v3 : Int32) < 5) (C nL_cell [.ref 80, .int (14 + v3)] σ (zPI fun x2 σ1 => X 138 [some (.ref 80), some (.ref 0), some (.ref 63), some (.int v3), some (.int x2), some (.int 0), none] [] σ1)) (X 411 [none, some (.ref 0), some (.ref 63), none, none, none, none] [] σ)) : X 120 [some (.ref 80), some (.ref 0), some (.ref 63), some (.int v3), none, none, none] [] σ := zSeq_ok hX zm_L_law zo_L_law_120 120 120 _ _ _ zk_L_law_120 h
set_option maxRecDepth 100000 in
set_option maxHeartbeats 4000000 in
theorem zr_L_law_138 {C : zCa} {post : zPo} {X : zX} {L : Nat} {xs : Nat → Int32} (hX : zClosed (some (L, xs)) C post nL_law X) (v3 : Int32) (v4 : Int32) (v5 : Int32) (σ : zS) (h : vp_in 36 (zN 63) ∧ (zIf ((v5 : Int32) < (σ.1 63 (Int32.toNatClampNeg 36))) (C nL_low [.int (v4 >>> ((v5 : Int32) &&& 31)), .int 52] σ (zPI fun x2 σ1 => C nL_isTold [.ref 0, .ref 63, .int v5, .int x2] σ1 (zPI fun x4 σ3 => zIf ((x4 : Int32) = 0) (post (some (.int 0)) σ3) (X 138 [some (.ref 80), some (.ref 0), some (.ref 63), some (.int v3), some (.int v4), some (.int (v5 + 1)), none] [] σ3)))) (C nL_areScenes [.ref 0, .ref 63] σ (zPI fun x6 σ5 => zIf ((x6 : Int32) = 0) (post (some (.int 0)) σ5) (vp_in 36 (zN 63) ∧ (C nL_low [.int (v4 >>> ((3 : Int32) &&& 31)), .int (σ5.1 63 (Int32.toNatClampNeg 36))] σ5 (zPI fun x8 σ7 => C nL_low [.int v4, .int 5] σ7 (zPI fun x10 σ9 => ((x10 : Int32) = 0 → (X 236 [some (.ref 80), some (.ref 0), some (.ref 63), some (.int v3), some (.int v4), some (.int x8), none] [] σ9)) ∧ (¬ (x10 : Int32) = 0 → ((x10 : Int32) = 1 → (X 236 [some (.ref 80), some (.ref 0), some (.ref 63), some (.int v3), some (.int v4), some (.int x8), none] [] σ9)) ∧ (¬ (x10 : Int32) = 1 → ((x10 : Int32) = 2 → (X 307 [some (.ref 80), some (.ref 0), some (.ref 63), some (.int v3), some (.int v4), none, none] [] σ9)) ∧ (¬ (x10 : Int32) = 2 → ((x10 : Int32) = 3 → (X 344 [some (.ref 80), some (.ref 0), some (.ref 63), some (.int v3), some (.int v4), none, none] [] σ9)) ∧ (¬ (x10 : Int32) = 3 → X 376 [some (.ref 80), some (.ref 0), some (.ref 63), some (.int v3), none, none, none] [] σ9)))))))))))) : X 138 [some (.ref 80), some (.ref 0), some (.ref 63), some (.int v3), some (.int v4), some (.int v5), none] [] σ := zSeq_ok hX zm_L_law zo_L_law_138 138 138 _ _ _ zk_L_law_138 h
set_option maxRecDepth 100000 in
set_option maxHeartbeats 4000000 in
theorem zr_L_law_411 {C : zCa} {post : zPo} {X : zX} {L : Nat} {xs : Nat → Int32} (hX : zClosed (some (L, xs)) C post nL_law X) (σ : zS) (h : C nX11_count [.ref 0, .int 3] σ (zPI fun x2 σ1 => zIf ((x2 : Int32) = 0) (C nX11_planned [.ref 0, .int 0, .int 0] σ1 (zPI fun x4 σ3 => zIf ((x4 : Int32) = (-3)) (C nX11_total [.ref 0, .int 0] σ3 (zPJ fun x6 σ5 => zIf ((lg_cmp x6 (-3) : Int32) = 0) (vp_in 36 (zN 63) ∧ (C nX11_frame [.ref 0, .int (σ5.1 63 (Int32.toNatClampNeg 36)), .int 0] σ5 (zPI fun x8 σ7 => zIf ((x8 : Int32) = (-2)) (X 461 [none, none, none, none, none, none, none] [.int 1] σ7) (X 460 [none, none, none, none, none, none, none] [] σ7)))) (X 460 [none, none, none, none, none, none, none] [] σ5))) (X 460 [none, none, none, none, none, none, none] [] σ3))) (X 460 [none, none, none, none, none, none, none] [] σ1))) : X 411 [none, some (.ref 0), some (.ref 63), none, none, none, none] [] σ := zSeq_ok hX zm_L_law zo_L_law_405 405 411 _ _ _ zk_L_law_405 h
set_option maxRecDepth 100000 in
set_option maxHeartbeats 4000000 in
theorem zr_L_law_236 {C : zCa} {post : zPo} {X : zX} {L : Nat} {xs : Nat → Int32} (hX : zClosed (some (L, xs)) C post nL_law X) (v3 : Int32) (v4 : Int32) (v5 : Int32) (σ : zS) (h : C nL_low [.int (v4 >>> ((7 : Int32) &&& 31)), .int 500] σ (zPI fun x2 σ1 => vp_in v5 (zN 63) ∧ (C nL_low [.int (v4 >>> ((11 : Int32) &&& 31)), .int 1000] (zSI σ1 63 (Int32.toNatClampNeg v5) (1 + x2)) (zPI fun x4 σ3 => vp_in (18 + v5) (zN 63) ∧ (vp_in v5 (zN 63) ∧ (vp_in (18 + v5) (zN 63) ∧ (C nX11_set [.ref 0, .int v5, .int ((zSI σ3 63 (Int32.toNatClampNeg (18 + v5)) x4).1 63 (Int32.toNatClampNeg v5)), .int ((zSI σ3 63 (Int32.toNatClampNeg (18 + v5)) x4).1 63 (Int32.toNatClampNeg (18 + v5)))] (zSI σ3 63 (Int32.toNatClampNeg (18 + v5)) x4) (zPI fun x6 σ5 => C nL_isCut [.ref 63, .int v5] σ5 (zPI fun x8 σ7 => zIf ((x8 : Int32) = 0) (X 302 [some (.ref 80), some (.ref 0), some (.ref 63), some (.int v3), none, none, none] [.int 0, .int x6] σ7) (X 302 [some (.ref 80), some (.ref 0), some (.ref 63), some (.int v3), none, none, none] [.int 1, .int x6] σ7)))))))))) : X 236 [some (.ref 80), some (.ref 0), some (.ref 63), some (.int v3), some (.int v4), some (.int v5), none] [] σ := zSeq_ok hX zm_L_law zo_L_law_236 236 236 _ _ _ zk_L_law_236 h
set_option maxRecDepth 100000 in
set_option maxHeartbeats 4000000 in
theorem zr_L_law_307 {C : zCa} {post : zPo} {X : zX} {L : Nat} {xs : Nat → Int32} (hX : zClosed (some (L, xs)) C post nL_law X) (v3 : Int32) (v4 : Int32) (σ : zS) (h : vp_in 37 (zN 63) ∧ (C nL_low [.int (v4 >>> ((7 : Int32) &&& 31)), .int 12] σ (zPI fun x2 σ1 => vp_in 37 (zN 63) ∧ (vp_in 37 (zN 63) ∧ (C nX11_setInterval [.ref 0, .int ((zSI σ1 63 (Int32.toNatClampNeg 37) (1 + x2)).1 63 (Int32.toNatClampNeg 37))] (zSI σ1 63 (Int32.toNatClampNeg 37) (1 + x2)) (zPI fun x4 σ3 => zIf ((x4 : Int32) = (σ.1 63 (Int32.toNatClampNeg 37))) (X 405 [some (.ref 80), some (.ref 0), some (.ref 63), some (.int v3), none, none, none] [] σ3) (post (some (.int 0)) σ3))))))) : X 307 [some (.ref 80), some (.ref 0), some (.ref 63), some (.int v3), some (.int v4), none, none] [] σ := zSeq_ok hX zm_L_law zo_L_law_307 307 307 _ _ _ zk_L_law_307 h
set_option maxRecDepth 100000 in
set_option maxHeartbeats 4000000 in
theorem zr_L_law_344 {C : zCa} {post : zPo} {X : zX} {L : Nat} {xs : Nat → Int32} (hX : zClosed (some (L, xs)) C post nL_law X) (v3 : Int32) (v4 : Int32) (σ : zS) (h : vp_in 38 (zN 63) ∧ (vp_in 38 (zN 63) ∧ (vp_in 38 (zN 63) ∧ (C nX11_setBridges [.ref 0, .int ((zSI σ 63 (Int32.toNatClampNeg 38) ((v4 >>> ((7 : Int32) &&& 31)) &&& 3)).1 63 (Int32.toNatClampNeg 38))] (zSI σ 63 (Int32.toNatClampNeg 38) ((v4 >>> ((7 : Int32) &&& 31)) &&& 3)) (zPI fun x2 σ1 => zIf ((x2 : Int32) = (σ.1 63 (Int32.toNatClampNeg 38))) (X 405 [some (.ref 80), some (.ref 0), some (.ref 63), some (.int v3), none, none, none] [] σ1) (post (some (.int 0)) σ1)))))) : X 344 [some (.ref 80), some (.ref 0), some (.ref 63), some (.int v3), some (.int v4), none, none] [] σ := zSeq_ok hX zm_L_law zo_L_law_344 344 344 _ _ _ zk_L_law_344 h
set_option maxRecDepth 100000 in
set_option maxHeartbeats 4000000 in
theorem zr_L_law_376 {C : zCa} {post : zPo} {X : zX} {L : Nat} {xs : Nat → Int32} (hX : zClosed (some (L, xs)) C post nL_law X) (v3 : Int32) (σ : zS) (h : vp_in 36 (zN 63) ∧ (zIf ((σ.1 63 (Int32.toNatClampNeg 36) : Int32) ≤ 1) (X 405 [some (.ref 80), some (.ref 0), some (.ref 63), some (.int v3), none, none, none] [] σ) (vp_in 36 (zN 63) ∧ (vp_in 36 (zN 63) ∧ (C nX11_drop [.ref 0] (zSI σ 63 (Int32.toNatClampNeg 36) ((σ.1 63 (Int32.toNatClampNeg 36)) - 1)) (zPI fun x2 σ1 => vp_in 36 (zN 63) ∧ (zIf ((x2 : Int32) = (σ1.1 63 (Int32.toNatClampNeg 36))) (X 405 [some (.ref 80), some (.ref 0), some (.ref 63), some (.int v3), none, none, none] [] σ1) (post (some (.int 0)) σ1)))))))) : X 376 [some (.ref 80), some (.ref 0), some (.ref 63), some (.int v3), none, none, none] [] σ := zSeq_ok hX zm_L_law zo_L_law_376 376 376 _ _ _ zk_L_law_376 h
set_option maxRecDepth 100000 in
set_option maxHeartbeats 4000000 in
theorem zr_L_law_461 {C : zCa} {post : zPo} {X : zX} {L : Nat} {xs : Nat → Int32} (hX : zClosed (some (L, xs)) C post nL_law X) (t0 : Int32) (σ : zS) (h : zG ((t0 : Int32) == 0 || (t0 : Int32) == 1) (post (some (.int t0)) σ)) : X 461 [none, none, none, none, none, none, none] [.int t0] σ := zSeq_ok hX zm_L_law zo_L_law_461 461 461 _ _ _ zk_L_law_461 h
set_option maxRecDepth 100000 in
set_option maxHeartbeats 4000000 in
theorem zr_L_law_460 {C : zCa} {post : zPo} {X : zX} {L : Nat} {xs : Nat → Int32} (hX : zClosed (some (L, xs)) C post nL_law X) (σ : zS) (h : X 461 [none, none, none, none, none, none, none] [.int 0] σ) : X 460 [none, none, none, none, none, none, none] [] σ := zSeq_ok hX zm_L_law zo_L_law_460 460 460 _ _ _ zk_L_law_460 h
set_option maxRecDepth 100000 in
set_option maxHeartbeats 4000000 in
theorem zr_L_law_302 {C : zCa} {post : zPo} {X : zX} {L : Nat} {xs : Nat → Int32} (hX : zClosed (some (L, xs)) C post nL_law X) (v3 : Int32) (t0 : Int32) (t1 : Int32) (σ : zS) (h : zIf ((t1 : Int32) = t0) (X 405 [some (.ref 80), some (.ref 0), some (.ref 63), some (.int v3), none, none, none] [] σ) (post (some (.int 0)) σ)) : X 302 [some (.ref 80), some (.ref 0), some (.ref 63), some (.int v3), none, none, none] [.int t0, .int t1] σ := zSeq_ok hX zm_L_law zo_L_law_302 302 302 _ _ _ zk_L_law_302 h
set_option maxRecDepth 100000 in
set_option maxHeartbeats 4000000 in
theorem zr_L_law_405 {C : zCa} {post : zPo} {X : zX} {L : Nat} {xs : Nat → Int32} (hX : zClosed (some (L, xs)) C post nL_law X) (v3 : Int32) (σ : zS) (h : X 120 [some (.ref 80), some (.ref 0), some (.ref 63), some (.int (v3 + 1)), none, none, none] [] σ) : X 405 [some (.ref 80), some (.ref 0), some (.ref 63), some (.int v3), none, none, none] [] σ := zSeq_ok hX zm_L_law zo_L_law_405 405 405 _ _ _ zk_L_law_405 h
end
section
/-! the law behind its makings -/
def lw_po : zPo := fun r _ => r = some (.int 1)
/-- component and law hold the same clip -/
def GL (σ : zS) : Prop := ∃ b, KI σ b ∧ LB b ∧ 0 < an b ∧ LA σ b
theorem tN36 : Int32.toNatClampNeg 36 = 36 := by decide +kernel
theorem tN37 : Int32.toNatClampNeg 37 = 37 := by decide +kernel
theorem tN38 : Int32.toNatClampNeg 38 = 38 := by decide +kernel
theorem lw_cmp {x y : Int64} (h : x = y) : lg_cmp x y = 0 := (lg_cmp_eq x y).mpr h
theorem vin36 : vp_in 36 (zN 63) := vin_a (k := 36) (by decide)
theorem vin37 : vp_in 37 (zN 63) := vin_a (k := 37) (by decide)
theorem vin38 : vp_in 38 (zN 63) := vin_a (k := 38) (by decide)
section LW
variable {L : Nat} {xs : Nat → Int32} {X : zX}
theorem lw_411 (hX : zClosed (some (L, xs)) (zCallS (some (L, xs)) 8) lw_po nL_law X) {σ : zS} (g : GL σ) : X 411 [none, some (.ref 0), some (.ref 63), none, none, none, none] [] σ := by
  obtain ⟨b, hK, hB, h0, hL⟩ := g
  refine zr_L_law_411 hX σ (zUp (c_count3 (d := 7) hK (zIf_t rfl (zUp (c_plannedS (d := 2) hK h0 (zIf_t rfl (zUp (c_totalS (d := 2) hK (zIf_t (lw_cmp rfl) ⟨vin36, ?_⟩)))))))))
  rw [tN36, hL.1]
  exact zUp (c_frameB (d := 5) hK (zIf_t rfl (zr_L_law_461 hX _ σ rfl)))
/-- where the law's loop goes on -/
def lw_go (X : zX) (k : Nat) : Prop := ∀ σ, GL σ → X 120 [some (.ref 80), some (.ref 0), some (.ref 63), some (.int (iI ((k + 1 : Nat) : Int))), none, none, none] [] σ
theorem lw_405 (hX : zClosed (some (L, xs)) (zCallS (some (L, xs)) 8) lw_po nL_law X) {k : Nat} (h : lw_go X k) {σ : zS} (g : GL σ) : X 405 [some (.ref 80), some (.ref 0), some (.ref 63), some (.int (iI (k : Int))), none, none, none] [] σ := by
  refine zr_L_law_405 hX _ σ ?_
  rw [iI_s]
  exact h σ g
theorem lw_236 (hX : zClosed (some (L, xs)) (zCallS (some (L, xs)) 8) lw_po nL_law X) {k : Nat} {x : Int32} (h : lw_go X k) {σ : zS} {b : mA} (hK : KI σ b) (hB : LB b) (h0 : 0 < an b) (hL : LA σ b) {i : Nat} (hi : i < an b) : X 236 [some (.ref 80), some (.ref 0), some (.ref 63), some (.int (iI (k : Int))), some (.int x), some (.int (iI i)), none] [] σ := by
  have hn := hB.2
  obtain ⟨g36, g37, g38, gt, gm, gw⟩ := hL
  refine zr_L_law_236 hX _ _ _ σ (zUp (sp_low (d := 7) (m := 500) (by decide) (by decide) (fun r hr => ⟨vin_a (by omega), zUp (sp_low (d := 7) (m := 1000) (by decide) (by decide) (fun r2 hr2 => ?_))⟩)))
  have row : ∀ j, (zSI (zSI σ 63 i (iI ((1 + r : Nat) : Int))) 63 (18 + i) (iI r2)).1 63 j = if j = 18 + i then iI r2 else if j = i then iI ((1 + r : Nat) : Int) else σ.1 63 j := fun j => by
    rw [zSI_at, zSI_at]
    by_cases e1 : j = 18 + i
    · rw [if_pos ⟨rfl, e1⟩, if_pos e1]
    · rw [if_neg (fun z => e1 z.2), if_neg e1]
      by_cases e2 : j = i
      · rw [if_pos ⟨rfl, e2⟩, if_pos e2]
      · rw [if_neg (fun z => e2 z.2), if_neg e2]
  rw [iI_18p, iI_k (by omega), iI_k (by omega), iI_1p, row, row, if_neg (by omega), if_pos rfl, if_pos rfl]
  refine ⟨vin_a (by omega), vin_a (by omega), vin_a (by omega), zUp (c_set (d := 2) (a := b) (t := 1 + r) (m := r2) (hK.hg (((zHg.rf σ).si (by decide) _ _).si (by decide) _ _)) hi (by omega) (by omega) (by omega) (fun τ hT lw => ?_))⟩
  have r63 := lw 63 (by decide)
  have hB2 : LB (aClip b (an b) (nU (atx b) i (1 + r)) (nU (amo b) i r2)) := ⟨hT.b, hn⟩
  have hL2 : LA τ (aClip b (an b) (nU (atx b) i (1 + r)) (nU (amo b) i r2)) := by
    refine ⟨?_, ?_, ?_, fun j hj => ?_, fun j hj => ?_, fun j hj => ?_⟩
    · rw [r63, row, if_neg (by omega), if_neg (by omega)]; exact g36
    · rw [r63, row, if_neg (by omega), if_neg (by omega)]; exact g37
    · rw [r63, row, if_neg (by omega), if_neg (by omega)]; exact g38
    · have hj : j < an b := hj
      show τ.1 63 j = iI (nU (atx b) i (1 + r) j : Nat)
      rw [r63, row, if_neg (by omega)]
      by_cases e : j = i
      · rw [if_pos e, e, nU_s]
      · rw [if_neg e, nU_n e]; exact gt j hj
    · have hj : j < an b := hj
      show τ.1 63 (18 + j) = iI (nU (amo b) i r2 j : Nat)
      rw [r63, row]
      by_cases e : j = i
      · rw [if_pos (by omega), e, nU_s]
      · rw [if_neg (by omega), if_neg (by omega), nU_n e]; exact gm j hj
    · show τ.1 63 (40 + j) = iI (aw b j : Nat)
      rw [r63, row, if_neg (by omega), if_neg (by omega)]
      exact gw j hj
  have g2 : GL τ := ⟨_, hT, hB2, h0, hL2⟩
  refine zUp (sp_lCut (d := 7) hB2 hL2 hi (fun c => zIf_f (by decide) (zr_L_law_302 hX _ _ _ τ (zIf_t ?_ (lw_405 hX h g2)))) (fun c => zIf_t rfl (zr_L_law_302 hX _ _ _ τ (zIf_t ?_ (lw_405 hX h g2)))))
  · exact if_pos c
  · exact if_neg c
theorem lw_307 (hX : zClosed (some (L, xs)) (zCallS (some (L, xs)) 8) lw_po nL_law X) {k : Nat} {x : Int32} (h : lw_go X k) {σ : zS} {b : mA} (hK : KI σ b) (hB : LB b) (h0 : 0 < an b) (hL : LA σ b) : X 307 [some (.ref 80), some (.ref 0), some (.ref 63), some (.int (iI (k : Int))), some (.int x), none, none] [] σ := by
  have hn := hB.2
  obtain ⟨g36, g37, g38, gt, gm, gw⟩ := hL
  refine zr_L_law_307 hX _ _ σ ⟨vin37, zUp (sp_low (d := 7) (m := 12) (by decide) (by decide) (fun r hr => ⟨vin37, vin37, ?_⟩))⟩
  rw [tN37, iI_1p, g37]
  have e : (zSI σ 63 37 (iI ((1 + r : Nat) : Int))).1 63 37 = iI ((1 + r : Nat) : Int) := by rw [zSI_at, if_pos ⟨rfl, rfl⟩]
  rw [e]
  refine zUp (c_setInterval (d := 2) (t := 1 + r) (hK.hg ((zHg.rf σ).si (by decide) _ _)) (by omega) (by omega) (fun τ hT lw => zIf_t rfl (lw_405 hX h ⟨_, hT, ⟨hT.b, hn⟩, h0, ?_⟩)))
  have r63 := lw 63 (by decide)
  refine ⟨?_, ?_, ?_, fun j hj => ?_, fun j hj => ?_, fun j hj => ?_⟩
  · rw [r63, zSI_at, if_neg (by omega)]; exact g36
  · rw [r63, e]; rfl
  · rw [r63, zSI_at, if_neg (by omega)]; exact g38
  · have hj : j < an b := hj
    rw [r63, zSI_at, if_neg (by omega)]; exact gt j hj
  · have hj : j < an b := hj
    rw [r63, zSI_at, if_neg (by omega)]; exact gm j hj
  · rw [r63, zSI_at, if_neg (by omega)]; exact gw j hj
theorem lw_344 (hX : zClosed (some (L, xs)) (zCallS (some (L, xs)) 8) lw_po nL_law X) {k : Nat} {x : Int32} (h : lw_go X k) {σ : zS} {b : mA} (hK : KI σ b) (hB : LB b) (h0 : 0 < an b) (hL : LA σ b) : X 344 [some (.ref 80), some (.ref 0), some (.ref 63), some (.int (iI (k : Int))), some (.int x), none, none] [] σ := by
  have hn := hB.2
  obtain ⟨g36, g37, g38, gt, gm, gw⟩ := hL
  obtain ⟨r, hr, er⟩ := lAnd3 (x >>> ((7 : Int32) &&& 31))
  refine zr_L_law_344 hX _ _ σ ⟨vin38, vin38, vin38, ?_⟩
  rw [tN38, er, g38]
  have e : (zSI σ 63 38 (iI (r : Int))).1 63 38 = iI (r : Int) := by rw [zSI_at, if_pos ⟨rfl, rfl⟩]
  rw [e]
  refine zUp (c_setBridges (d := 2) (t := r) (hK.hg ((zHg.rf σ).si (by decide) _ _)) hr (fun τ hT lw => zIf_t rfl (lw_405 hX h ⟨_, hT, ⟨hT.b, hn⟩, h0, ?_⟩)))
  have r63 := lw 63 (by decide)
  refine ⟨?_, ?_, ?_, fun j hj => ?_, fun j hj => ?_, fun j hj => ?_⟩
  · rw [r63, zSI_at, if_neg (by omega)]; exact g36
  · rw [r63, zSI_at, if_neg (by omega)]; exact g37
  · rw [r63, e]; rfl
  · have hj : j < an b := hj
    rw [r63, zSI_at, if_neg (by omega)]; exact gt j hj
  · have hj : j < an b := hj
    rw [r63, zSI_at, if_neg (by omega)]; exact gm j hj
  · rw [r63, zSI_at, if_neg (by omega)]; exact gw j hj
theorem lw_376 (hX : zClosed (some (L, xs)) (zCallS (some (L, xs)) 8) lw_po nL_law X) {k : Nat} (h : lw_go X k) {σ : zS} {b : mA} (hK : KI σ b) (hB : LB b) (h0 : 0 < an b) (hL : LA σ b) : X 376 [some (.ref 80), some (.ref 0), some (.ref 63), some (.int (iI (k : Int))), none, none, none] [] σ := by
  have hn := hB.2
  have hL0 := hL
  obtain ⟨g36, g37, g38, gt, gm, gw⟩ := hL
  refine zr_L_law_376 hX _ σ ⟨vin36, ?_⟩
  rw [tN36, g36]
  refine ⟨fun _ => lw_405 hX h ⟨b, hK, hB, h0, hL0⟩, fun z => ⟨vin36, vin36, ?_⟩⟩
  rw [show (1 : Int32) = iI 1 from rfl, iI_le (by omega) (by omega) (by omega) (by omega)] at z
  have em : iI (an b : Int) - 1 = iI ((an b - 1 : Nat) : Int) := by rw [iI_m]; exact congrArg iI (by omega)
  rw [em]
  have e : (zSI σ 63 36 (iI ((an b - 1 : Nat) : Int))).1 63 36 = iI ((an b - 1 : Nat) : Int) := by rw [zSI_at, if_pos ⟨rfl, rfl⟩]
  refine zUp (c_drop (d := 2) (a := b) (hK.hg ((zHg.rf σ).si (by decide) _ _)) h0 (fun τ hT lw => ⟨vin36, ?_⟩))
  have r63 := lw 63 (by decide)
  refine zIf_t (by rw [r63, e]) (lw_405 hX h ⟨_, hT, ⟨hT.b, ?_⟩, ?_, ?_, ?_, ?_, fun j hj => ?_, fun j hj => ?_, fun j hj => ?_⟩)
  · show an b - 1 ≤ 12
    omega
  · show 0 < an b - 1
    omega
  · rw [r63, e]; rfl
  · rw [r63, zSI_at, if_neg (by omega)]; exact g37
  · rw [r63, zSI_at, if_neg (by omega)]; exact g38
  · have hj : j < an b - 1 := hj
    rw [r63, zSI_at, if_neg (by omega)]; exact gt j (by omega)
  · have hj : j < an b - 1 := hj
    rw [r63, zSI_at, if_neg (by omega)]; exact gm j (by omega)
  · rw [r63, zSI_at, if_neg (by omega)]; exact gw j hj
theorem lw_138 (hX : zClosed (some (L, xs)) (zCallS (some (L, xs)) 8) lw_po nL_law X) {k : Nat} {x : Int32} (h : lw_go X k) {σ : zS} {b : mA} (hK : KI σ b) (hB : LB b) (h0 : 0 < an b) (hL : LA σ b) : ∀ (m i : Nat), i + m = an b → X 138 [some (.ref 80), some (.ref 0), some (.ref 63), some (.int (iI (k : Int))), some (.int x), some (.int (iI i)), none] [] σ
  | 0, i, hm => by
    have hn := hB.2
    have e : i = an b := by omega
    subst e
    refine zr_L_law_138 hX _ _ _ σ ⟨vin36, ?_⟩
    rw [tN36, hL.1]
    refine zIf_f Int32.lt_irrefl (zUp (sp_scenes (d := 3) hK hB hL h0 (zIf_f (by decide) ⟨vin36, ?_⟩)))
    rw [hL.1]
    refine zUp (sp_low (d := 7) h0 (by omega) (fun i hi => zUp (sp_low (d := 7) (m := 5) (by decide) (by decide) (fun r hr => ⟨fun _ => lw_236 hX h hK hB h0 hL hi, fun _ => ⟨fun _ => lw_236 hX h hK hB h0 hL hi, fun _ => ⟨fun _ => lw_307 hX h hK hB h0 hL, fun _ => ⟨fun _ => lw_344 hX h hK hB h0 hL, fun _ => lw_376 hX h hK hB h0 hL⟩⟩⟩⟩))))
  | m + 1, i, hm => by
    have hn := hB.2
    refine zr_L_law_138 hX _ _ _ σ ⟨vin36, ?_⟩
    rw [tN36, hL.1]
    refine zIf_t ?_ (zUp (sp_low (d := 7) (m := 52) (by decide) (by decide) (fun r hr => zUp (sp_told (d := 2) hK hB hL (show i < an b by omega) (by omega) (zIf_f (by decide) ?_)))))
    · rw [iI_lt (by omega) (by omega) (by omega) (by omega)]; omega
    · rw [iI_s]
      exact lw_138 hX h hK hB h0 hL m (i + 1) (by omega)
theorem lw_120 (hX : zClosed (some (L, xs)) (zCallS (some (L, xs)) 8) lw_po nL_law X) (hL : L ≤ 260) : ∀ (m k : Nat) (σ : zS), k + m = 5 → GL σ → X 120 [some (.ref 80), some (.ref 0), some (.ref 63), some (.int (iI (k : Int))), none, none, none] [] σ
  | 0, k, σ, hm, g => by
    refine zr_L_law_120 hX _ σ (zIf_f ?_ (lw_411 hX g))
    rw [show (5 : Int32) = iI 5 from rfl, iI_lt (by omega) (by omega) (by omega) (by omega)]; omega
  | m + 1, k, σ, hm, g => by
    have hgo : lw_go X k := fun τ gt => lw_120 hX hL m (k + 1) τ (by omega) gt
    obtain ⟨b, hK, hB, h0, hA⟩ := g
    refine zr_L_law_120 hX _ σ (zIf_t ?_ ?_)
    · rw [show (5 : Int32) = iI 5 from rfl, iI_lt (by omega) (by omega) (by omega) (by omega)]; omega
    · rw [show (14 : Int32) = iI ((14 : Nat) : Int) from rfl, iI_kk]
      exact sp_cell (d := 7) hL (by omega) (fun x => lw_138 hX hgo hK hB h0 hA (an b) 0 (by omega))
/-- from the first call on -/
theorem lw_13 (hX : zClosed (some (L, xs)) (zCallS (some (L, xs)) 8) lw_po nL_law X) (hL : L ≤ 260) {σ : zS} {a : mA} (hK : KI σ a) (h0 : an a = 0) (hs0 : aS a 0 = 12) (hs1 : aS a 1 = 2) (hw : ∀ j, j < 60 → aw a j = 4) : X 13 [some (.ref 80), some (.ref 0), some (.ref 63), none, none, none, none] [] σ := by
  have e0 : iI (an a : Int) = 0 := by rw [h0]; rfl
  have e1 : iI (mS (mCt a) (an a) : Nat) = 0 := by rw [h0]; rfl
  have cs : ∀ K : Int32 → zS → Prop, K (-2) σ → zCall 8 nX11_scene [.ref 0, .int 0, .int 0] σ (zPI K) := fun K hk => by
    have := c_sceneB (d := 4) hK hk
    rw [e1] at this
    exact this
  refine zr_L_law_13 hX σ (zUp (c_count0 (d := 7) hK (zIf_t e0 (zUp (c_count1 (d := 7) hK (zIf_t e1 (zUp (c_dropS (d := 2) hK h0 (zIf_t rfl (zUp (cs _ (zIf_t rfl ?_))))))))))))
  refine zUp (c_codedB (d := 5) hK h0 (zIf_t rfl (zUp (c_constantS (d := 1) hK h0 (zIf_t rfl (zUp (c_appendB (d := 2) hK (by decide) (zIf_t rfl (zUp (c_appendB (d := 2) hK (by decide) (zIf_t rfl (zUp (c_setIntervalB (d := 2) hK (zIf_t rfl ?_))))))))))))))
  refine zr_L_law_106 hX σ (sp_grows (d := 1) hL hK h0 hs0 hs1 hw (fun τ b hT hB hb hA => zIf_f (by decide) ?_))
  exact lw_120 hX hL 5 0 τ (by omega) ⟨b, hT, hB, hb, hA⟩
end LW
end
section
/-! the makings: a world that grows; the steps of a constructor -/
def jFs (j : Nat) : Int32 := [10, 11, 13, 14, 16, 18].getD j 0
def jFv (j : Nat) : Value := .int (jFs j)
/-- int and long rows of zeros -/
def jI (cI : ClassId) (n : Nat) : va_E := .inl (cI, n, .inl fun _ => 0)
def jJ (cJ : ClassId) (n : Nat) : va_E := .inl (cJ, n, .inr (.inl fun _ => 0))
/-- a world, its k-th cell changed, and what is new -/
def jW (ws : va_W) (k : Nat) (x : Nat × va_E) (L : va_W) : va_W := ws.set k x ++ L
theorem jW_0 {ws : va_W} {k : Nat} {x : Nat × va_E} (h : ws[k]? = some x) : jW ws k x [] = ws := by
  obtain ⟨h1, h2⟩ := List.getElem?_eq_some_iff.mp h
  unfold jW
  rw [List.append_nil, ← h2, List.set_getElem_self]
theorem jW_get {ws : va_W} {k : Nat} {x : Nat × va_E} {L : va_W} (h : k < ws.length) : (jW ws k x L)[k]? = some x := by
  unfold jW
  rw [List.getElem?_append_left (by rw [List.length_set]; exact h), List.getElem?_set_self h]
theorem jW_old {ws : va_W} {k j : Nat} {x : Nat × va_E} {L : va_W} (h : j < ws.length) (hj : j ≠ k) : (jW ws k x L)[j]? = ws[j]? := by
  unfold jW
  rw [List.getElem?_append_left (by rw [List.length_set]; exact h), List.getElem?_set_ne (Ne.symm hj)]
theorem jW_new {ws : va_W} {k : Nat} {x : Nat × va_E} {L : va_W} (j : Nat) : (jW ws k x L)[ws.length + j]? = L[j]? := by
  unfold jW
  rw [List.getElem?_append_right (by rw [List.length_set]; omega), List.length_set, Nat.add_sub_cancel_left]
theorem jW_set {ws : va_W} {k : Nat} {x y : Nat × va_E} {L : va_W} (h : k < ws.length) : (jW ws k x L).set k y = jW ws k y L := by
  unfold jW
  rw [List.set_append_left _ _ (by rw [List.length_set]; exact h), List.set_set]
theorem jW_setn {ws : va_W} {k : Nat} {x y : Nat × va_E} {L : va_W} (j : Nat) : (jW ws k x L).set (ws.length + j) y = jW ws k x (L.set j y) := by
  unfold jW
  rw [List.set_append_right _ _ (by rw [List.length_set]; omega), List.length_set, Nat.add_sub_cancel_left]
theorem jW_app {ws : va_W} {k : Nat} {x : Nat × va_E} {L M : va_W} : jW ws k x L ++ M = jW ws k x (L ++ M) := by
  unfold jW
  rw [List.append_assoc]
theorem jW_len {ws : va_W} {k : Nat} {x : Nat × va_E} {L : va_W} : (jW ws k x L).length = ws.length + L.length := by
  unfold jW
  rw [List.length_append, List.length_set]
theorem jW_jW {ws : va_W} {k : Nat} {x y : Nat × va_E} {L M : va_W} (j : Nat) : jW (jW ws k x L) (ws.length + j) y M = jW ws k x (L.set j y ++ M) := by
  show (jW ws k x L).set (ws.length + j) y ++ M = _
  rw [jW_setn, jW_app]
/-- what a making is given, and what it hands back -/
def jmB (D : va_G) (cI cJ : ClassId) (t sz : Nat) (ws : va_W) : State → Prop := fun U => U.heap.size = sz ∧ va_P D vwCl ws U.heap ∧ va_K D vwCl [(cI, .int), (cJ, .long)] U ∧ (∀ w ∈ zNw, va_Nw w U) ∧ va_D (fun _ => True) ws ∧ va_Z "RatePlanner" "FIRST_STEPS" "[I" (.ref t) (va_A ws sz) U U.heap ∧ va_T .int t 6 jFv (va_A ws sz) U U.heap
def jmQ (D : va_G) (sz : Nat) (ws : va_W) (post : va_W → Prop) : Array Value → State → Outcome → State → Prop := fun _ st oc t => (∃ ws' : va_W, oc = .returned none ∧ post ws' ∧ va_P D vwCl ws' t.heap ∧ va_D (va_A ws sz) ws') ∧ va_F (va_A ws sz) st t
abbrev jmR (d c sl : Nat) : Room := { frames := d, cells := c, slots := sl, locals := 32 * d }
def jmC (l : Launch) (D : va_G) (cI cJ : ClassId) (t d c sl mi : Nat) (av : List Value) (ws : va_W) (post : va_W → Prop) : Prop :=
  ∀ sz : Nat, Met l (zY mi) (zWs mi) (jmR d c sl) (va_Pc av (jmB D cI cJ t sz ws)) (jmQ D sz ws post) c sl (va_A ws sz)
theorem jmB_blind (D : va_G) (cI cJ : ClassId) (t sz : Nat) (ws : va_W) (av : List Value) : FrameBlind (va_Pc av (jmB D cI cJ t sz ws)) := by
  intro a U g mk q
  obtain ⟨q0, q1, qP, qK, qN, qD, qZ, qT⟩ := q
  exact ⟨q0, q1, qP, va_K.moved (u := U) (U := U.calling g mk a) (Vm.Alike.refl U.vm) qK, fun w hw => zNw_same hw (u := U) (U := U.calling g mk a) rfl (qN w hw), qD, va_Z.moved (u := U) (U := U.calling g mk a) (Vm.Alike.refl U.vm) qZ, va_T.moved (u := U) (U := U.calling g mk a) (Vm.Alike.refl U.vm) qT⟩
/-- what holds in a making's frame -/
def jmX (p : Program) (l : Launch) (R : Room) (s : State) (m : MethodId) (args : Array Value) (meth : Method) (c : Code) (D : va_G) (cI cJ : ClassId) (t : Nat) (A : Nat → Prop) (d mi : Nat) : Prop :=
  p.tables.exec = Jvm.exec ∧ c.code = zBy mi ∧ c.maxLocals = zMl mi ∧ s.vm.findClass (zY mi).cls = some m.cls ∧ (∀ w ∈ zTg, w.before args s = true) ∧ (∀ w ∈ zNw, va_Nw w s) ∧ va_K D vwCl [(cI, .int), (cJ, .long)] s ∧ (∀ q, s.heap.size ≤ q → A q) ∧ va_Z "RatePlanner" "FIRST_STEPS" "[I" (.ref t) A s s.heap ∧ va_T .int t 6 jFv A s s.heap ∧ d + 1 ≤ R.frames ∧ 32 * (d + 1) ≤ R.locals
def jmG (p : Program) (l : Launch) (e : Env) (R : Room) (s : State) (m : MethodId) (args : Array Value) (below : List Frame) (meth : Method) (c : Code) (Q : State → Prop) (D : va_G) (A : Nat → Prop) (nL pc : Nat) (lv : List (Nat × Value)) (st : List Value) (ws : va_W) (cells slots : Nat) : Prop :=
  ∀ (H : Heap) (locs : List Loc) (ls : Array Slot), va_P D vwCl ws H → va_D A ws → va_S A s.heap H locs → lv_has ls nL lv → W p l e R s m args below meth c H locs cells slots Q (F0 m pc ls st)
section JM
variable {p : Program} {l : Launch} {e : Env} {R : Room} {s : State} {m : MethodId} {args : Array Value} {below : List Frame} {meth : Method} {c : Code} {cells slots : Nat} {Q : State → Prop} {D : va_G} {cI cJ : ClassId} {t : Nat} {A : Nat → Prop} {d mi nL pc : Nat} {lv : List (Nat × Value)} {st : List Value} {ws : va_W}
theorem jm_aload {k : Fin 4} {x : Nat} (K : jmX p l R s m args meth c D cI cJ t A d mi) (hd : decode (zBy mi) pc = .ok (.aload_n k, 1)) (j : Nat) (hj : lv[j]? = some ((k : Nat), .ref x)) (h : jmG p l e R s m args below meth c Q D A nL (pc + 1) lv (.ref x :: st) ws cells slots) : jmG p l e R s m args below meth c Q D A nL pc lv st ws cells slots :=
  fun H locs ls hP hD hS hl => lv_aload_n K.1 K.2.1 hd rfl (lv_at hl j hj) (h H locs ls hP hD hS hl)
theorem jm_iload {k : Fin 4} {x : Int32} (K : jmX p l R s m args meth c D cI cJ t A d mi) (hd : decode (zBy mi) pc = .ok (.iload_n k, 1)) (j : Nat) (hj : lv[j]? = some ((k : Nat), .int x)) (h : jmG p l e R s m args below meth c Q D A nL (pc + 1) lv (.int x :: st) ws cells slots) : jmG p l e R s m args below meth c Q D A nL pc lv st ws cells slots :=
  fun H locs ls hP hD hS hl => lv_iload_n K.1 K.2.1 hd rfl (lv_at hl j hj) (h H locs ls hP hD hS hl)
theorem jm_iconst {n : Int} {v : Int32} (K : jmX p l R s m args meth c D cI cJ t A d mi) (hd : decode (zBy mi) pc = .ok (.iconst n, 1)) (hv : Int32.ofInt n = v) (h : jmG p l e R s m args below meth c Q D A nL (pc + 1) lv (.int v :: st) ws cells slots) : jmG p l e R s m args below meth c Q D A nL pc lv st ws cells slots :=
  fun H locs ls hP hD hS hl => lv_iconst K.1 K.2.1 hd hv (h H locs ls hP hD hS hl)
theorem jm_bipush {n : Int} {v : Int32} (K : jmX p l R s m args meth c D cI cJ t A d mi) (hd : decode (zBy mi) pc = .ok (.bipush n, 2)) (hv : (Int8.ofInt n).toInt32 = v) (h : jmG p l e R s m args below meth c Q D A nL (pc + 2) lv (.int v :: st) ws cells slots) : jmG p l e R s m args below meth c Q D A nL pc lv st ws cells slots :=
  fun H locs ls hP hD hS hl => lv_bipush K.1 K.2.1 hd hv (h H locs ls hP hD hS hl)
theorem jm_sipush {n : Int} {v : Int32} (K : jmX p l R s m args meth c D cI cJ t A d mi) (hd : decode (zBy mi) pc = .ok (.sipush n, 3)) (hv : (Int16.ofInt n).toInt32 = v) (h : jmG p l e R s m args below meth c Q D A nL (pc + 3) lv (.int v :: st) ws cells slots) : jmG p l e R s m args below meth c Q D A nL pc lv st ws cells slots :=
  fun H locs ls hP hD hS hl => lv_sipush K.1 K.2.1 hd hv (h H locs ls hP hD hS hl)
theorem jm_ldc {idx g : Nat} {v : Int32} (K : jmX p l R s m args meth c D cI cJ t A d mi) (hd : decode (zBy mi) pc = .ok (.ldc idx, 2)) (hg : lw_tbl[g]? = some (.constant (zY mi).cls idx v)) (h : jmG p l e R s m args below meth c Q D A nL (pc + 2) lv (.int v :: st) ws cells slots) : jmG p l e R s m args below meth c Q D A nL pc lv st ws cells slots :=
  fun H locs ls hP hD hS hl => lv_ldc K.1 K.2.1 K.2.2.2.1 (K.2.2.2.2.1 _ (zin g hg rfl)) hd (h H locs ls hP hD hS hl)
theorem jm_dup {x : Nat} (K : jmX p l R s m args meth c D cI cJ t A d mi) (hd : decode (zBy mi) pc = .ok (.dup, 1)) (h : jmG p l e R s m args below meth c Q D A nL (pc + 1) lv (.ref x :: .ref x :: st) ws cells slots) : jmG p l e R s m args below meth c Q D A nL pc lv (.ref x :: st) ws cells slots :=
  fun H locs ls hP hD hS hl => lv_dup K.1 K.2.1 hd rfl (h H locs ls hP hD hS hl)
theorem jm_iadd {x y : Int32} (K : jmX p l R s m args meth c D cI cJ t A d mi) (hd : decode (zBy mi) pc = .ok (.iadd, 1)) (h : jmG p l e R s m args below meth c Q D A nL (pc + 1) lv (.int (x + y) :: st) ws cells slots) : jmG p l e R s m args below meth c Q D A nL pc lv (.int y :: .int x :: st) ws cells slots :=
  fun H locs ls hP hD hS hl => lv_iadd K.1 K.2.1 hd (h H locs ls hP hD hS hl)
theorem jm_irem {x y : Int32} (K : jmX p l R s m args meth c D cI cJ t A d mi) (hd : decode (zBy mi) pc = .ok (.irem, 1)) (hn : ¬ y = 0) (h : jmG p l e R s m args below meth c Q D A nL (pc + 1) lv (.int (x - x / y * y) :: st) ws cells slots) : jmG p l e R s m args below meth c Q D A nL pc lv (.int y :: .int x :: st) ws cells slots :=
  fun H locs ls hP hD hS hl => lv_irem K.1 K.2.1 hd hn (h H locs ls hP hD hS hl)
theorem jm_idiv {x y : Int32} (K : jmX p l R s m args meth c D cI cJ t A d mi) (hd : decode (zBy mi) pc = .ok (.idiv, 1)) (hn : ¬ y = 0) (h : jmG p l e R s m args below meth c Q D A nL (pc + 1) lv (.int (x / y) :: st) ws cells slots) : jmG p l e R s m args below meth c Q D A nL pc lv (.int y :: .int x :: st) ws cells slots :=
  fun H locs ls hP hD hS hl => lv_idiv K.1 K.2.1 hd hn (h H locs ls hP hD hS hl)
theorem jm_ishl {x y : Int32} (K : jmX p l R s m args meth c D cI cJ t A d mi) (hd : decode (zBy mi) pc = .ok (.ishl, 1)) (h : jmG p l e R s m args below meth c Q D A nL (pc + 1) lv (.int (x <<< (y &&& 31)) :: st) ws cells slots) : jmG p l e R s m args below meth c Q D A nL pc lv (.int y :: .int x :: st) ws cells slots :=
  fun H locs ls hP hD hS hl => lv_ishl K.1 K.2.1 hd (h H locs ls hP hD hS hl)
theorem jm_istore {k : Fin 4} {x : Int32} {lv' : List (Nat × Value)} (K : jmX p l R s m args meth c D cI cJ t A d mi) (hd : decode (zBy mi) pc = .ok (.istore_n k, 1)) (hn : (k : Nat) < nL) (hl' : ((k : Nat), Value.int x) :: lv.filter (fun q => !(q.1 == (k : Nat)) && !(q.1 + 1 == (k : Nat) && q.2.category == 2)) = lv') (h : jmG p l e R s m args below meth c Q D A nL (pc + 1) lv' st ws cells slots) : jmG p l e R s m args below meth c Q D A nL pc lv (.int x :: st) ws cells slots :=
  fun H locs ls hP hD hS hl => lv_istore_n K.1 K.2.1 hd rfl hl hn hl' (fun ls2 hl2 => h H locs ls2 hP hD hS hl2)
theorem jm_astore {k : Fin 4} {x : Nat} {lv' : List (Nat × Value)} (K : jmX p l R s m args meth c D cI cJ t A d mi) (hd : decode (zBy mi) pc = .ok (.astore_n k, 1)) (hn : (k : Nat) < nL) (hl' : ((k : Nat), Value.ref x) :: lv.filter (fun q => !(q.1 == (k : Nat)) && !(q.1 + 1 == (k : Nat) && q.2.category == 2)) = lv') (h : jmG p l e R s m args below meth c Q D A nL (pc + 1) lv' st ws cells slots) : jmG p l e R s m args below meth c Q D A nL pc lv (.ref x :: st) ws cells slots :=
  fun H locs ls hP hD hS hl => lv_astore_n K.1 K.2.1 hd rfl hl hn hl' (fun ls2 hl2 => h H locs ls2 hP hD hS hl2)
theorem jm_iinc {i k : Nat} {n : Int} {x v : Int32} {lv' : List (Nat × Value)} (K : jmX p l R s m args meth c D cI cJ t A d mi) (hd : decode (zBy mi) pc = .ok (.iinc i n, 3)) (hk : lv[k]? = some (i, .int x)) (hv : x + Int32.ofInt n = v) (hn : i < nL) (hl' : (i, Value.int v) :: lv.filter (fun q => !(q.1 == i) && !(q.1 + 1 == i && q.2.category == 2)) = lv') (h : jmG p l e R s m args below meth c Q D A nL (pc + 3) lv' st ws cells slots) : jmG p l e R s m args below meth c Q D A nL pc lv st ws cells slots :=
  fun H locs ls hP hD hS hl => lv_iinc K.1 K.2.1 hd hl hk hv hn hl' (fun ls2 hl2 => h H locs ls2 hP hD hS hl2)
theorem jm_goto {off : Int} {tgt : Nat} (K : jmX p l R s m args meth c D cI cJ t A d mi) (hd : decode (zBy mi) pc = .ok (.goto off, 3)) (ht : (pc : Int) + off = (tgt : Int)) (h : jmG p l e R s m args below meth c Q D A nL tgt lv st ws cells slots) : jmG p l e R s m args below meth c Q D A nL pc lv st ws cells slots :=
  fun H locs ls hP hD hS hl => lv_goto K.1 K.2.1 hd ht (h H locs ls hP hD hS hl)
theorem jm_icmp_ge {x y : Int32} {off : Int} {tgt : Nat} (K : jmX p l R s m args meth c D cI cJ t A d mi) (hd : decode (zBy mi) pc = .ok (.if_icmp .ge off, 3)) (ht : (pc : Int) + off = (tgt : Int)) (h1 : y ≤ x → jmG p l e R s m args below meth c Q D A nL tgt lv st ws cells slots) (h2 : ¬ y ≤ x → jmG p l e R s m args below meth c Q D A nL (pc + 3) lv st ws cells slots) : jmG p l e R s m args below meth c Q D A nL pc lv (.int y :: .int x :: st) ws cells slots :=
  fun H locs ls hP hD hS hl => lv_icmp_ge K.1 K.2.1 hd ht (fun z => h1 z H locs ls hP hD hS hl) (fun z => h2 z H locs ls hP hD hS hl)
theorem jm_sub {lv' : List (Nat × Value)} (ks : List Nat) (hks : lv_pick lv ks = lv') (h : jmG p l e R s m args below meth c Q D A nL pc lv' st ws cells slots) : jmG p l e R s m args below meth c Q D A nL pc lv st ws cells slots :=
  fun H locs ls hP hD hS hl => h H locs ls hP hD hS (lv_sub hl ks hks)
theorem jm_w {ws' : va_W} (hw : ws' = ws) (h : jmG p l e R s m args below meth c Q D A nL pc lv st ws' cells slots) : jmG p l e R s m args below meth c Q D A nL pc lv st ws cells slots := by
  subst hw
  exact h
theorem jm_obj {idx g x : Nat} (K : jmX p l R s m args meth c D cI cJ t A d mi) (hnL : nL = zMl mi) (hd : decode (zBy mi) pc = .ok (.invokespecial idx, 3)) (hg : lw_tbl[g]? = some (.methodLink (zY mi).cls idx Lib.objectInit)) (h : jmG p l e R s m args below meth c Q D A nL (pc + 3) lv [] ws cells slots) : jmG p l e R s m args below meth c Q D A nL pc lv [.ref x] ws cells slots := by
  obtain ⟨hx, hb, hml, hown, hts, hnw, hK, hA, hZ, hT, hfr, hlo⟩ := K
  intro H locs ls hP hD hS hl
  refine W.objInit hx hb hown (hts _ (zin g hg rfl)) (hts _ (zin 35 (by decide +kernel) rfl)) (hts _ (zin 36 (by decide +kernel) rfl)) rfl (by rw [hml, ← hnL]; exact hl.1) rfl hd (by omega) (by show 2 * 0 + 0 + 12 ≤ R.locals; omega) ?_
  exact h H locs ls hP hD hS hl
theorem jm_newi {n : Int32} {N : Nat} (K : jmX p l R s m args meth c D cI cJ t A d mi) (hd : decode (zBy mi) pc = .ok (.newarray .int, 2)) (hn : ¬ n < 0) (hN : n.toNatClampNeg = N) (hb4 : N * 4 ≤ 536870912) (hc : cells + 1 ≤ R.cells) (hs : slots + N ≤ R.slots) (h : ∀ q : Nat, jmG p l e R s m args below meth c Q D A nL (pc + 2) lv (.ref q :: st) (ws ++ [(q, jI cI N)]) (cells + 1) (slots + N)) : jmG p l e R s m args below meth c Q D A nL pc lv (.int n :: st) ws cells slots := by
  obtain ⟨hx, hb, hml, hown, hts, hnw, hK, hA, hZ, hT, hfr, hlo⟩ := K
  intro H locs ls hP hD hS hl
  refine va_newa (atype := .int) (ty := .int) (a0 := (N, .inl fun _ => 0)) hx hb (hts _ (zin 59 (by decide +kernel) rfl)) rfl hK hP hD hS hA (fun _ => rfl) hn hN hb4 hc hs hd (fun q cA H1 hK1 hP1 hD1 hS1 => ?_)
  have e1 := (hK1.2 2 (cA, .int) rfl).2
  have e2 := (hK.2 0 (cI, .int) rfl).2
  have e : cA = cI := Option.some.inj ((show s.vm.findClass _ = some cA from e1).symm.trans (show s.vm.findClass _ = some cI from e2))
  subst e
  exact h q H1 locs ls hP1 hD1 hS1 hl
theorem jm_newj {n : Int32} {N : Nat} (K : jmX p l R s m args meth c D cI cJ t A d mi) (hd : decode (zBy mi) pc = .ok (.newarray .long, 2)) (hn : ¬ n < 0) (hN : n.toNatClampNeg = N) (hb4 : N * 8 ≤ 536870912) (hc : cells + 1 ≤ R.cells) (hs : slots + N ≤ R.slots) (h : ∀ q : Nat, jmG p l e R s m args below meth c Q D A nL (pc + 2) lv (.ref q :: st) (ws ++ [(q, jJ cJ N)]) (cells + 1) (slots + N)) : jmG p l e R s m args below meth c Q D A nL pc lv (.int n :: st) ws cells slots := by
  obtain ⟨hx, hb, hml, hown, hts, hnw, hK, hA, hZ, hT, hfr, hlo⟩ := K
  intro H locs ls hP hD hS hl
  refine va_newa (atype := .long) (ty := .long) (a0 := (N, .inr (.inl fun _ => 0))) hx hb (hts _ (zin 333 (by decide +kernel) rfl)) rfl hK hP hD hS hA (fun _ => rfl) hn hN hb4 hc hs hd (fun q cA H1 hK1 hP1 hD1 hS1 => ?_)
  have e1 := (hK1.2 2 (cA, .long) rfl).2
  have e2 := (hK.2 1 (cJ, .long) rfl).2
  have e : cA = cJ := Option.some.inj ((show s.vm.findClass _ = some cA from e1).symm.trans (show s.vm.findClass _ = some cJ from e2))
  subst e
  exact h q H1 locs ls hP1 hD1 hS1 hl
/-- a new object of the a-th class -/
theorem jm_new {idx a g1 g2 g3 : Nat} {fs : List Value} (K : jmX p l R s m args meth c D cI cJ t A d mi) (hd : decode (zBy mi) pc = .ok (.new idx, 3)) (ha : a < 12) (h1 : lw_tbl[g1]? = some (.classLink (zY mi).cls idx (zCl a).1)) (h2 : lw_tbl[g2]? = some (.instantiable (zCl a).1 (zCl a).2.2)) (h3 : lw_tbl[g3]? = some (.initialized (zCl a).1)) (ty : Nat → FieldType) (hty : ∀ k, k < (zCl a).2.2 → parseFieldDescriptor ((zCl a).2.1 k).2.2.1 = some (ty k)) (hfs : ∀ k, k < (zCl a).2.2 → defaultValue (ty k) = vp_V fs k) (N : Nat) (hN : (zCl a).2.2 = N) (hc : cells + 1 ≤ R.cells) (hs : slots + N ≤ R.slots) (h : ∀ q : Nat, jmG p l e R s m args below meth c Q D A nL (pc + 3) lv (.ref q :: st) (ws ++ [(q, .inr (a, fs))]) (cells + 1) (slots + N)) : jmG p l e R s m args below meth c Q D A nL pc lv st ws cells slots := by
  obtain ⟨hx, hb, hml, hown, hts, hnw, hK, hA, hZ, hT, hfr, hlo⟩ := K
  intro H locs ls hP hD hS hl
  subst hN
  obtain ⟨hcl2, hcv⟩ := zCl_get ha
  obtain ⟨hin, -, -⟩ := zCv_spec hcv
  exact va_new (ci := a) (fs := fs) hx hb hts hin ty hty hown (hts _ (zin g1 h1 rfl)) (hts _ (zin g2 h2 rfl)) (hts _ (zin g3 h3 rfl)) hK hP hD hS hA hcl2 hfs hc hs hd (fun q H1 hP1 hD1 hS1 => h q H1 locs ls hP1 hD1 hS1 hl)
theorem jm_put {idx a b g x q0 : Nat} {ty : FieldType} {v : Value} {fs : List Value} (K : jmX p l R s m args meth c D cI cJ t A d mi) (hi : meth.name = "<init>") (hd : decode (zBy mi) pc = .ok (.putfield idx, 3)) (ha : a < 12) (hb2 : b < (zCl a).2.2) (hg : zFl (zY mi).cls idx a b g = true) (hdc : ((zCl a).2.1 b).1 = (zY mi).cls) (hty : parseFieldDescriptor ((zCl a).2.1 b).2.2.1 = some ty) (hn : narrow ty v = v) (hf : fits ty v = true) (hq : ws[q0]? = some (x, .inr (a, fs))) (hl2 : b < fs.length) (h : jmG p l e R s m args below meth c Q D A nL (pc + 3) lv st (ws.set q0 (x, .inr (a, fs.set b v))) cells slots) : jmG p l e R s m args below meth c Q D A nL pc lv (v :: .ref x :: st) ws cells slots := by
  obtain ⟨hx, hb, hml, hown, hts, hnw, hK, hA, hZ, hT, hfr, hlo⟩ := K
  intro H locs ls hP hD hS hl
  obtain ⟨hcl2, hcv⟩ := zCl_get ha
  obtain ⟨hin, hty2, hnm⟩ := zCv_spec hcv
  cases hfin : ((zCl a).2.1 b).2.2.2 with
  | true => exact va_putF (D := D) (ty := ty) (v := v) hx hb hts hin _ hty2 hnm hown hK hP hD hS q0 hq hcl2 b hb2 (hts _ (zFl_spec hg)) (fun _ h9 => h9) hfin hi hdc hty hn hf hl2 hd (fun H1 locs1 hP1 hD1 hS1 => h H1 locs1 ls hP1 hD1 hS1 hl)
  | false => exact va_put (D := D) (ty := ty) (v := v) hx hb hts hin _ hty2 hnm hown hK hP hD hS q0 hq hcl2 b hb2 (hts _ (zFl_spec hg)) (fun _ h9 => h9) hfin hty hn hf hl2 hd (fun H1 locs1 hP1 hD1 hS1 => h H1 locs1 ls hP1 hD1 hS1 hl)
theorem jm_get {idx a b g x q0 : Nat} {v : Value} {fs : List Value} (K : jmX p l R s m args meth c D cI cJ t A d mi) (hd : decode (zBy mi) pc = .ok (.getfield idx, 3)) (ha : a < 12) (hb2 : b < (zCl a).2.2) (hg : zFl (zY mi).cls idx a b g = true) (hq : ws[q0]? = some (x, .inr (a, fs))) (hv : fs[b]? = some v) (h : jmG p l e R s m args below meth c Q D A nL (pc + 3) lv (v :: st) ws cells slots) : jmG p l e R s m args below meth c Q D A nL pc lv (.ref x :: st) ws cells slots := by
  obtain ⟨hx, hb, hml, hown, hts, hnw, hK, hA, hZ, hT, hfr, hlo⟩ := K
  intro H locs ls hP hD hS hl
  obtain ⟨hcl2, hcv⟩ := zCl_get ha
  obtain ⟨hin, -, -⟩ := zCv_spec hcv
  exact va_get (D := D) hx hb hts hin hown hK hP q0 hq hcl2 b hb2 (hts _ (zFl_spec hg)) (fun _ h9 => h9) hv hd (h H locs ls hP hD hS hl)
theorem jm_iast {q0 x N k : Nat} {f : Nat → Int32} {i v : Int32} (K : jmX p l R s m args meth c D cI cJ t A d mi) (hd : decode (zBy mi) pc = .ok (.iastore, 1)) (hq : ws[q0]? = some (x, .inl (cI, N, .inl f))) (hin : vp_in i N) (hk : i.toNatClampNeg = k) (h : jmG p l e R s m args below meth c Q D A nL (pc + 1) lv st (ws.set q0 (x, .inl (cI, N, .inl (upd f k v)))) cells slots) : jmG p l e R s m args below meth c Q D A nL pc lv (.int v :: .int i :: .ref x :: st) ws cells slots := by
  obtain ⟨hx, hb, hml, hown, hts, hnw, hK, hA, hZ, hT, hfr, hlo⟩ := K
  subst hk
  intro H locs ls hP hD hS hl
  exact va_iast hx hb hK hP hD hS q0 0 hq rfl hin hd (fun H1 locs1 hP1 hD1 hS1 => h H1 locs1 ls hP1 hD1 hS1 hl)
theorem jm_alen {q0 x N : Nat} {f : Nat → Int32} {v : Int32} (K : jmX p l R s m args meth c D cI cJ t A d mi) (hd : decode (zBy mi) pc = .ok (.arraylength, 1)) (hq : ws[q0]? = some (x, .inl (cI, N, .inl f))) (hv : Int32.ofNat N = v) (h : jmG p l e R s m args below meth c Q D A nL (pc + 1) lv (.int v :: st) ws cells slots) : jmG p l e R s m args below meth c Q D A nL pc lv (.ref x :: st) ws cells slots := by
  obtain ⟨hx, hb, hml, hown, hts, hnw, hK, hA, hZ, hT, hfr, hlo⟩ := K
  intro H locs ls hP hD hS hl
  exact va_alen hx hb hK hP q0 0 hq rfl hv hd (h H locs ls hP hD hS hl)
theorem jm_ret {post : va_W → Prop} {ws0 : va_W} (K : jmX p l R s m args meth c D cI cJ t A d mi) (hr : meth.sig.returnType = none) (hlk : meth.locks = false) (hd : decode (zBy mi) pc = .ok (.return_, 1)) (hA : A = va_A ws0 s.heap.size) (hp : post ws) : jmG p l e R s m args below meth c (MQ below (jmQ D s.heap.size ws0 post) args s cells slots (va_A ws0 s.heap.size)) D A nL pc lv [] ws cells slots := by
  subst hA
  intro H locs ls hP hD hS hl
  exact W.vret K.1 K.2.1 hr (fun t ht hW => ⟨⟨ws, rfl, hp, by rw [ht]; exact hP, hD⟩, hS.F ht⟩) hS.2.2 hd (hlocks := hlk)
/-- a call of a constructor -/
theorem jm_call {idx a g b cc ss : Nat} {As : List Value} {post : va_W → Prop} (K : jmX p l R s m args meth c D cI cJ t A d mi) (hnL : nL = zMl mi) (hM : jmC l D cI cJ t d cc ss a (.ref b :: As) ws post) (hd : decode (zBy mi) pc = .ok (.invokespecial idx, 3)) (ha : a < 85) (ha2 : a ≠ nL_law) (hrt : zRt a = none) (hst : zMs a = false) (hnm : (zY a).name = "<init>") (na : Nat) (hna : As.length = na) (hpar : (parseMethodDescriptor (zY a).desc).map (fun d => d.parameters.length) = some na) (hg : lw_tbl[g]? = some (.methodLink (zY mi).cls idx (zY a)) ∨ lw_tbl[g]? = some (.methodLinkNest (zY mi).cls idx (zY a) "RatePlanner")) (hc : cells + cc ≤ R.cells) (hs : slots + ss ≤ R.slots) (hsum : (st.map fun v => v.category).sum ≤ 8) {st2 : List Value} (hst2 : st2 = As.reverse ++ .ref b :: st) (h : ∀ ws' : va_W, post ws' → jmG p l e R s m args below meth c Q D A nL (pc + 3) lv st ws' (cells + cc) (slots + ss)) : jmG p l e R s m args below meth c Q D A nL pc lv st2 ws cells slots := by
  obtain ⟨hx, hb, hml, hown, hts, hnw, hK, hA, hZ, hT, hfr, hlo⟩ := K
  intro H locs ls hP hD hS hl
  subst hst2
  subst hna
  obtain ⟨m1, m2, m3, m4, m5, m6, m7⟩ := zMv_spec ha ha2
  obtain ⟨n1, -, -, -⟩ := m7 hst
  rw [hrt] at m1
  have hz : ∀ q, va_A ws H.size q → A q := fun q hq => by
    rcases hq with ⟨k, e, h1⟩ | h1
    · exact hD.2 k (q, e) h1
    · exact hA q (Nat.le_trans hS.1 h1)
  have hpre : PreS s H (va_Pc (.ref b :: As) (jmB D cI cJ t H.size ws)) (.ref b :: As) := ⟨jmB_blind D cI cJ t H.size ws _, fun U hU hW => ⟨rfl, by rw [hU], by rw [hU]; exact hP, va_K.moved hW.alike hK, fun w hw => zNw_warm hw hW (hnw w hw), hD.weaken (fun _ _ _ _ => trivial), by rw [hU]; exact ((hZ.kept hS.2.1).moved hW.alike).narrow hz, by rw [hU]; exact ((hT.kept hS.2.1).moved hW.alike).narrow hz⟩⟩
  have hml2 : c.maxLocals = ls.size := by rw [hml, ← hnL]; exact hl.1.symm
  have hroom : (jmR d cc ss).frames + 1 ≤ R.frames ∧ 8 + (zMl a + 11) + (jmR d cc ss).locals ≤ R.locals := ⟨hfr, by show 8 + (zMl a + 11) + 32 * d ≤ R.locals; omega⟩
  have hw : ∀ w ∈ zWs a, w ∈ zTg := fun w hw => by
    rcases List.mem_cons.mp hw with rfl | hw
    · rw [hrt]; exact m1
    · exact hw
  have hrun : va_Run p l e R s m args below meth c H locs cells slots cc ss (F0 m pc ls (As.reverse ++ .ref b :: st)) st (jmQ D H.size ws post (Value.ref b :: As).toArray) (va_A ws H.size) := by
    rcases hg with hg | hg
    · exact va_runI (Ts := zTg) (own := (zY mi).cls) (index := idx) (n := As.length) ⟨hx, hb, hml, hown, hts⟩ (hM H.size) (cwI As.length hts (zTg_GoodIn hw) (by rw [← hrt]; rfl) rfl rfl (hts _ m2) (hts _ (zin g hg rfl)) (hts _ n1) hnm ⟨m3.1, m3.2, hpar⟩ hroom) hpre rfl rfl (by show ls.size = zMl mi; rw [← hml2, hml]) rfl (lv_room hsum) hd ⟨hc, hs⟩
    · exact va_runIN (Ts := zTg) (own := (zY mi).cls) (host := "RatePlanner") (index := idx) (n := As.length) ⟨hx, hb, hml, hown, hts⟩ (hM H.size) ⟨va_cnB As.length hts (zTg_GoodIn hw) (by rw [← hrt]; rfl) rfl rfl (hnw _ (zinN g hg rfl)) (hts _ m2) ⟨m3.1, m3.2, hpar⟩ hroom, hnm, hts _ n1⟩ hpre rfl rfl (by show ls.size = zMl mi; rw [← hml2, hml]) rfl (lv_room hsum) hd ⟨hc, hs⟩
  intro T hT2 X
  obtain ⟨v, st₀, u, T', L, h0, X', hL, e1, e2, hQa, stp⟩ := hrun T hT2 X
  obtain ⟨⟨ws', hr, hp, hP1, hD1⟩, hF⟩ := hQa
  cases hr
  have hS1 : va_S A s.heap T'.heap (locs ++ L) := by
    subst h0
    rw [e1]
    refine ⟨Nat.le_trans hS.1 hF.1, fun q h1 h2 => ?_, fun q hq => ?_⟩
    · rw [hF.2 q (Nat.lt_of_lt_of_le h1 hS.1) (fun z => h2 (hz q z))]
      exact hS.2.1 q h1 h2
    · rcases List.mem_append.mp hq with h3 | h3
      · exact hS.2.2 q h3
      · exact hz _ (hL q h3)
  obtain ⟨t2, a1, b1⟩ := h ws' hp T'.heap (locs ++ L) ls (by rw [e1]; exact hP1) (hD1.weaken (fun k q _ h3 => hz q.1 h3)) hS1 hl T' rfl X'
  exact ⟨t2, stp t2 a1, b1⟩
end JM
theorem jm_at (l : Launch) (t k : Nat) (hk : k < 6) : Met l (zY nX11_at) (zWs nX11_at) (jmR 0 0 0) (va_Pc [.ref t, .int (iI (k : Int))] (fun U => va_T .int t 6 jFv (fun _ => False) U U.heap)) (va_Qi (fun (r : Int32) (_ : Unit) => r = jFs k) (fun _ _ => True) (fun _ => False)) 0 0 (fun _ => False) := by
  refine Met.ofW (cc := zBy nX11_at) (maxL := zMl nX11_at) (ret := zRt nX11_at) (by decide +kernel) rfl ?_
  intro p e s m args below meth c s₁ B hml hv
  obtain ⟨rfl, hT⟩ := hv
  have hx := B.exec
  have hb := B.bytes
  have hr : meth.sig.returnType = some .int := B.returns.trans (by decide +kernel)
  have hlocks := B.notSynchronized
  have hS : va_S (fun _ => False) s.heap s.heap [] := va_S.rf
  have hl := lv_entry ([.ref t, .int (iI (k : Int))]) (n := zMl nX11_at) (Nat.le_of_ble_eq_true rfl)
  rw [lg_entry_eq]
  generalize (lg_sl ([.ref t, .int (iI (k : Int))]) ++ List.replicate (zMl nX11_at - (lg_sl ([.ref t, .int (iI (k : Int))])).length) Slot.unset).toArray = ls at hl ⊢
  have hl : lv_has ls 2 [(0, .ref t), (1, .int (iI (k : Int)))] := hl
  refine lv_iload_n hx hb (by decide +kernel : decode (zBy nX11_at) 0 = .ok (.iload_n 1, 1)) rfl (lv_at hl 1 rfl) ?_
  refine lv_if_lt (tgt := 16) hx hb (by decide +kernel : decode (zBy nX11_at) 1 = .ok (.ifCond .lt 15, 3)) (by decide) (fun z => ?_) (fun _ => ?_)
  · rw [show (0 : Int32) = iI 0 from rfl, iI_lt (by omega) (by omega) (by omega) (by omega)] at z
    omega
  refine lv_iload_n hx hb (by decide +kernel : decode (zBy nX11_at) 4 = .ok (.iload_n 1, 1)) rfl (lv_at hl 1 rfl) ?_
  refine lv_aload_n hx hb (by decide +kernel : decode (zBy nX11_at) 5 = .ok (.aload_n 0, 1)) rfl (lv_at hl 0 rfl) ?_
  refine va_tlen (v := 6) hx hb hT hS rfl (by decide +kernel : decode (zBy nX11_at) 6 = .ok (.arraylength, 1)) ?_
  refine lv_icmp_ge (tgt := 16) hx hb (by decide +kernel : decode (zBy nX11_at) 7 = .ok (.if_icmp .ge 9, 3)) (by decide) (fun z => ?_) (fun _ => ?_)
  · rw [show (6 : Int32) = iI 6 from rfl, iI_le (by omega) (by omega) (by omega) (by omega)] at z
    omega
  refine lv_aload_n hx hb (by decide +kernel : decode (zBy nX11_at) 10 = .ok (.aload_n 0, 1)) rfl (lv_at hl 0 rfl) ?_
  refine lv_iload_n hx hb (by decide +kernel : decode (zBy nX11_at) 11 = .ok (.iload_n 1, 1)) rfl (lv_at hl 1 rfl) ?_
  refine va_ti (v := .int (jFs k)) hx hb hT hS (vin_k hk (by decide)) (by rw [iI_k (by omega)]; rfl) (by decide +kernel : decode (zBy nX11_at) 12 = .ok (.iaload, 1)) ?_
  refine lv_goto (tgt := 17) hx hb (by decide +kernel : decode (zBy nX11_at) 13 = .ok (.goto 4, 3)) (by decide) ?_
  exact W.iret hx hb hr (fun t ht hW => ⟨⟨_, (), rfl, rfl, trivial⟩, hS.F ht⟩) hS.2.2 (by decide +kernel : decode (zBy nX11_at) 17 = .ok (.ireturn, 1))
section JN
variable {p : Program} {l : Launch} {e : Env} {R : Room} {s : State} {m : MethodId} {args : Array Value} {below : List Frame} {meth : Method} {c : Code} {cells slots : Nat} {Q : State → Prop} {D : va_G} {cI cJ : ClassId} {t : Nat} {A : Nat → Prop} {d mi nL pc : Nat} {lv : List (Nat × Value)} {st : List Value} {ws : va_W}
theorem jm_gets {idx g : Nat} (K : jmX p l R s m args meth c D cI cJ t A d mi) (hd : decode (zBy mi) pc = .ok (.getstatic idx, 3)) (hg : lw_tbl[g]? = some (.fieldLinkNest (zY mi).cls idx "RatePlanner" "FIRST_STEPS" "[I" "RatePlanner")) (h : jmG p l e R s m args below meth c Q D A nL (pc + 3) lv (.ref t :: st) ws cells slots) : jmG p l e R s m args below meth c Q D A nL pc lv st ws cells slots := by
  obtain ⟨hx, hb, hml, hown, hts, hnw, hK, hA, hZ, hT, hfr, hlo⟩ := K
  intro H locs ls hP hD hS hl
  exact va_getsN hx hb hZ hS hown (va_Nw.use rfl (hnw _ (zinN g hg rfl))) (fun _ h9 => h9) hd (h H locs ls hP hD hS hl)
theorem jm_callAt {idx g k : Nat} (K : jmX p l R s m args meth c D cI cJ t A d mi) (hnL : nL = zMl mi) (hk : k < 6) (hd : decode (zBy mi) pc = .ok (.invokestatic idx, 3)) (hg : lw_tbl[g]? = some (.methodLinkNest (zY mi).cls idx (zY nX11_at) "RatePlanner")) (hsum : (st.map fun v => v.category).sum ≤ 8) (hc : cells ≤ R.cells) (hs : slots ≤ R.slots) (h : jmG p l e R s m args below meth c Q D A nL (pc + 3) lv (.int (jFs k) :: st) ws cells slots) : jmG p l e R s m args below meth c Q D A nL pc lv (.int (iI (k : Int)) :: .ref t :: st) ws cells slots := by
  obtain ⟨hx, hb, hml, hown, hts, hnw, hK, hA, hZ, hT, hfr, hlo⟩ := K
  intro H locs ls hP hD hS hl
  obtain ⟨m1, m2, m3, m4, m5, m6, m7⟩ := zMv_spec (a := nX11_at) (by decide) (by decide)
  have n1 := m6 (by decide +kernel)
  have hpre : PreS s H (va_Pc [.ref t, .int (iI (k : Int))] (fun U => va_T .int t 6 jFv (fun _ => False) U U.heap)) [.ref t, .int (iI (k : Int))] := ⟨fun a U g mk q => by
    obtain ⟨q0, qT⟩ := q
    exact ⟨q0, va_T.moved (u := U) (U := U.calling g mk a) (Vm.Alike.refl U.vm) qT⟩, fun U hU hW => ⟨rfl, by
    show va_T .int t 6 jFv (fun _ => False) U U.heap
    rw [hU]
    exact ((hT.kept hS.2.1).moved hW.alike).narrow (fun _ z => z.elim)⟩⟩
  have hw : ∀ w ∈ zWs nX11_at, w ∈ zTg := fun w hw => by
    rcases List.mem_cons.mp hw with rfl | hw
    · exact m1
    · exact hw
  refine va_calli (va_runSN (Ts := zTg) (own := (zY mi).cls) (host := "RatePlanner") (index := idx) (n := 2) (As := [.ref t, .int (iI (k : Int))]) (rest := st) ⟨hx, hb, hml, hown, hts⟩ (jm_at l t k hk) ⟨va_cnB 2 hts (zTg_GoodIn hw) rfl rfl rfl (hnw _ (zinN g hg rfl)) (hts _ m2) ⟨m3.1, m3.2, by decide +kernel⟩ ⟨by show 0 + 1 ≤ R.frames; omega, by show 8 + (zMl nX11_at + 11) + 32 * 0 ≤ R.locals; omega⟩, hts _ n1, trivial⟩ hpre rfl rfl (by show ls.size = zMl mi; rw [← hnL]; exact hl.1) rfl (lv_room hsum) hd ⟨hc, hs⟩) hS (fun q _ z => z.elim) (fun q z => z.elim) (fun r u T2 H1 locs1 ht hvm hp hB hz hkk hS1 => ?_)
  subst hp
  exact h H1 locs1 ls (hP.kept (fun k x hx2 => hkk x.1 ((hP k x hx2).lt) (fun z => z.elim))) hD hS1 hl
end JN
/-- a constructor, from its entry -/
theorem jm_start {l : Launch} {D : va_G} {cI cJ : ClassId} {t d c sl mi : Nat} {av : List Value} {ws : va_W} {post : va_W → Prop} (ha : mi < 85) (ha2 : mi ≠ nL_law) (hlen : (lg_sl av).length ≤ zMl mi) (hnm : (zY mi).name = "<init>") (hrt : zRt mi = none)
    (h : ∀ (p : Program) (e : Env) (s : State) (m : MethodId) (below : List Frame) (meth : Method) (c0 : Code), jmX p l (jmR (d + 1) c sl) s m av.toArray meth c0 D cI cJ t (va_A ws s.heap.size) d mi → meth.name = "<init>" → meth.sig.returnType = none → meth.locks = false → jmG p l e (jmR (d + 1) c sl) s m av.toArray below meth c0 (MQ below (jmQ D s.heap.size ws post) av.toArray s c sl (va_A ws s.heap.size)) D (va_A ws s.heap.size) (zMl mi) 0 (lv_args 0 av) [] ws 0 0) : jmC l D cI cJ t (d + 1) c sl mi av ws post := by
  intro sz
  obtain ⟨m1, m2, m3, m4, m5, m6, m7⟩ := zMv_spec ha ha2
  refine Met.ofW (cc := zBy mi) (maxL := zMl mi) (ret := zRt mi) m4 rfl ?_
  intro p e s m args below meth c0 s₁ B hml hv
  obtain ⟨rfl, hsz, hP, hK, hN, hD0, hZ, hT⟩ := hv
  subst hsz
  have hts0 := atoms_spec (ws := zWs mi) B.pre
  have hts : ∀ w ∈ zTg, w.before _ s = true := fun w hw => hts0 w (List.mem_cons_of_mem _ hw)
  have hown : s.vm.findClass (zY mi).cls = some m.cls := findClass_of_methodNamed B.named
  have hD := hD0.self (sz := s.heap.size)
  have K : jmX p l (jmR (d + 1) c sl) s m av.toArray meth c0 D cI cJ t (va_A ws s.heap.size) d mi := ⟨B.exec, B.bytes, hml, hown, hts, hN, hK, fun q h => Or.inr h, hZ, hT, Nat.le_refl _, Nat.le_refl _⟩
  rw [lg_entry_eq]
  exact h p e s m below meth c0 K ((name_of_methodNamed B.named B.method).1.trans hnm) (B.returns.trans hrt) B.notSynchronized s.heap [] _ hP hD va_S.rf (lv_entry av hlen)
end
section
/-! the constructors, a contract each: printed by wip/whole/genmake.py -/
def jWt (i : Nat) : Nat → Int32 := fun j => if j < i then 4 else 0
def jSt (i : Nat) : Nat → Int32 := fun j => if j < i then iI (mStp j : Int) else 0
theorem jWt_0 : jWt 0 = fun _ => 0 := funext fun j => if_neg (Nat.not_lt_zero j)
theorem jSt_0 : jSt 0 = fun _ => 0 := funext fun j => if_neg (Nat.not_lt_zero j)
theorem jWt_s (i : Nat) : upd (jWt i) i 4 = jWt (i + 1) := funext fun j => by
  unfold jWt
  simp only [upd]
  by_cases e : j = i
  · rw [if_pos e, if_pos (by omega)]
  · rw [if_neg e]
    by_cases c : j < i
    · rw [if_pos c, if_pos (by omega)]
    · rw [if_neg c, if_neg (by omega)]
theorem jSt_s (i : Nat) : upd (jSt i) i (iI (mStp i : Int)) = jSt (i + 1) := funext fun j => by
  unfold jSt
  simp only [upd]
  by_cases e : j = i
  · rw [if_pos e, if_pos (by omega), e]
  · rw [if_neg e]
    by_cases c : j < i
    · rw [if_pos c, if_pos (by omega)]
    · rw [if_neg c, if_neg (by omega)]
theorem jSt_v : ∀ i : Nat, i < 52 → jFs (i % 6) <<< (iI ((i / 6 : Nat) : Int) &&& 31) = iI (mStp i : Int) := by decide +kernel
theorem jSt_d : ∀ i : Nat, i < 52 → iI (i : Int) / 6 = iI ((i / 6 : Nat) : Int) := by decide +kernel
theorem jSt_m : ∀ i : Nat, i < 52 → iI (i : Int) - iI (i : Int) / 6 * 6 = iI ((i % 6 : Nat) : Int) := by decide +kernel
theorem j1 (i : Nat) : iI (i : Int) + Int32.ofInt 1 = iI ((i + 1 : Nat) : Int) := by
  rw [show Int32.ofInt 1 = 1 from by decide]
  exact iI_s i
section JL
variable {p : Program} {l : Launch} {e : Env} {R : Room} {s : State} {m : MethodId} {args : Array Value} {below : List Frame} {meth : Method} {c : Code} {cells slots : Nat} {Q : State → Prop} {D : va_G} {cI cJ : ClassId} {t : Nat} {A : Nat → Prop} {d : Nat} {ws L : va_W} {k h0 q1 a1 a2 : Nat} {fs : List Value}
set_option maxHeartbeats 4000000 in
set_option maxRecDepth 100000 in
theorem jl_Settings (K : jmX p l R s m args meth c D cI cJ t A d nX8_init) (hkl : k < ws.length) (hf : fs[8]? = some (.ref q1)) (fin : jmG p l e R s m args below meth c Q D A 2 102 [(0, .ref h0)] [] (jW ws k (h0, .inr (8, fs)) ((q1, .inl (cI, 60, .inl (jWt 60))) :: L)) cells slots) : ∀ (n i : Nat), i + n = 60 → jmG p l e R s m args below meth c Q D A 2 80 [(1, .int (iI (i : Int))), (0, .ref h0)] [] (jW ws k (h0, .inr (8, fs)) ((q1, .inl (cI, 60, .inl (jWt i))) :: L)) cells slots
  | n, i, hi => by
    refine jm_iload (k := 1) K (by decide +kernel) 0 rfl ?_
    refine jm_aload (k := 0) K (by decide +kernel) 1 rfl ?_
    refine jm_get (idx := 34) (a := 8) (b := 8) (g := 86) (q0 := k) K (by decide +kernel) (by decide) (by decide) (by decide +kernel) (jW_get hkl) hf ?_
    refine jm_alen (v := iI 60) (q0 := ws.length + 0) (f := jWt i) (N := 60) K (by decide +kernel) ((jW_new 0).trans rfl) (by decide) ?_
    cases n with
    | zero =>
      have ei : i = 60 := by omega
      subst ei
      refine jm_icmp_ge (off := 16) (tgt := 102) K (by decide +kernel) (by decide) (fun _ => ?_) (fun z => absurd ((iI_le (by omega) (by omega) (by omega) (by omega)).mpr (by omega)) z)
      exact jm_sub [1] rfl fin
    | succ n =>
      refine jm_icmp_ge (off := 16) (tgt := 102) K (by decide +kernel) (by decide) (fun z => ?_) (fun _ => ?_)
      · rw [iI_le (by omega) (by omega) (by omega) (by omega)] at z
        omega
      refine jm_aload (k := 0) K (by decide +kernel) 1 rfl ?_
      refine jm_get (idx := 34) (a := 8) (b := 8) (g := 86) (q0 := k) K (by decide +kernel) (by decide) (by decide) (by decide +kernel) (jW_get hkl) hf ?_
      refine jm_iload (k := 1) K (by decide +kernel) 0 rfl ?_
      refine jm_iconst (n := 4) (v := 4) K (by decide +kernel) (by decide) ?_
      refine jm_iast (k := i) (q0 := ws.length + 0) (f := jWt i) (N := 60) K (by decide +kernel) ((jW_new 0).trans rfl) (vin_k (by omega) (by decide)) (iI_k (by omega)) ?_
      refine jm_w (ws' := jW ws k (h0, .inr (8, fs)) ((q1, .inl (cI, 60, .inl (jWt (i + 1)))) :: L)) (by rw [jW_setn, jWt_s]; rfl) ?_
      refine jm_iinc (k := 0) (i := 1) (n := 1) (lv' := [(1, .int (iI ((i + 1 : Nat) : Int))), (0, .ref h0)]) K (by decide +kernel) rfl (j1 i) (by decide) rfl ?_
      refine jm_goto (off := -19) (tgt := 80) K (by decide +kernel) (by decide) ?_
      exact jl_Settings K hkl hf fin n (i + 1) (by omega)
set_option maxHeartbeats 4000000 in
set_option maxRecDepth 100000 in
theorem jl_Model (K : jmX p l R s m args meth c D cI cJ t A d nX6_init) (hkl : k < ws.length) (hf : fs[2]? = some (.ref q1)) (hc : cells ≤ R.cells) (hs : slots ≤ R.slots) (fin : jmG p l e R s m args below meth c Q D A 4 60 [(0, .ref h0)] [] (jW ws k (h0, .inr (6, fs)) ((q1, .inl (cI, 52, .inl (jSt 52))) :: L)) cells slots) : ∀ (n i : Nat), i + n = 52 → jmG p l e R s m args below meth c Q D A 4 24 [(3, .int (iI (i : Int))), (0, .ref h0)] [] (jW ws k (h0, .inr (6, fs)) ((q1, .inl (cI, 52, .inl (jSt i))) :: L)) cells slots
  | n, i, hi => by
    refine jm_iload (k := 3) K (by decide +kernel) 0 rfl ?_
    refine jm_aload (k := 0) K (by decide +kernel) 1 rfl ?_
    refine jm_get (idx := 9) (a := 6) (b := 2) (g := 229) (q0 := k) K (by decide +kernel) (by decide) (by decide) (by decide +kernel) (jW_get hkl) hf ?_
    refine jm_alen (v := iI 52) (q0 := ws.length + 0) (f := jSt i) (N := 52) K (by decide +kernel) ((jW_new 0).trans rfl) (by decide) ?_
    cases n with
    | zero =>
      have ei : i = 52 := by omega
      subst ei
      refine jm_icmp_ge (off := 30) (tgt := 60) K (by decide +kernel) (by decide) (fun _ => ?_) (fun z => absurd ((iI_le (by omega) (by omega) (by omega) (by omega)).mpr (by omega)) z)
      exact jm_sub [1] rfl fin
    | succ n =>
      refine jm_icmp_ge (off := 30) (tgt := 60) K (by decide +kernel) (by decide) (fun z => ?_) (fun _ => ?_)
      · rw [iI_le (by omega) (by omega) (by omega) (by omega)] at z
        omega
      refine jm_aload (k := 0) K (by decide +kernel) 1 rfl ?_
      refine jm_get (idx := 9) (a := 6) (b := 2) (g := 229) (q0 := k) K (by decide +kernel) (by decide) (by decide) (by decide +kernel) (jW_get hkl) hf ?_
      refine jm_iload (k := 3) K (by decide +kernel) 0 rfl ?_
      refine jm_gets (idx := 23) (g := 214) K (by decide +kernel) (by decide +kernel) ?_
      refine jm_iload (k := 3) K (by decide +kernel) 0 rfl ?_
      refine jm_bipush (n := 6) (v := 6) K (by decide +kernel) (by decide) ?_
      refine jm_irem K (by decide +kernel) (by decide) ?_
      rw [jSt_m i (by omega)]
      refine jm_callAt (k := i % 6) (idx := 26) (g := 216) K rfl (Nat.mod_lt _ (by decide)) (by decide +kernel) (by decide +kernel) (Nat.le_of_ble_eq_true rfl) hc hs ?_
      refine jm_iload (k := 3) K (by decide +kernel) 0 rfl ?_
      refine jm_bipush (n := 6) (v := 6) K (by decide +kernel) (by decide) ?_
      refine jm_idiv K (by decide +kernel) (by decide) ?_
      refine jm_ishl K (by decide +kernel) ?_
      rw [jSt_d i (by omega), jSt_v i (by omega)]
      refine jm_iast (k := i) (q0 := ws.length + 0) (f := jSt i) (N := 52) K (by decide +kernel) ((jW_new 0).trans rfl) (vin_k (by omega) (by decide)) (iI_k (by omega)) ?_
      refine jm_w (ws' := jW ws k (h0, .inr (6, fs)) ((q1, .inl (cI, 52, .inl (jSt (i + 1)))) :: L)) (by rw [jW_setn, jSt_s]; rfl) ?_
      refine jm_iinc (k := 0) (i := 3) (n := 1) (lv' := [(3, .int (iI ((i + 1 : Nat) : Int))), (0, .ref h0)]) K (by decide +kernel) rfl (j1 i) (by decide) rfl ?_
      refine jm_goto (off := -33) (tgt := 24) K (by decide +kernel) (by decide) ?_
      exact jl_Model K hkl hf hc hs fin n (i + 1) (by omega)
end JL
set_option maxHeartbeats 4000000 in
set_option maxRecDepth 100000 in
theorem jc_Clip (d : Nat) (l : Launch) (D : va_G) (cI cJ : ClassId) (t : Nat) {ws : va_W} {k h0 : Nat} (hk : ws[k]? = some (h0, .inr (0, [.int 0, .null, .null]))) : jmC l D cI cJ t (d + 1) 2 120 nX0_init [.ref h0] ws (fun ws2 => ∃ q1 q2 : Nat, ws2 = jW ws k (h0, .inr (0, [.int 0, .ref q1, .ref q2])) [(q1, jI cI 60), (q2, jI cI 60)]) := by
  refine jm_start (by decide) (by decide) (Nat.le_of_ble_eq_true rfl) (by decide +kernel) (by decide +kernel) (fun p e s m below meth c0 K hi hr hlk => ?_)
  have hkl : k < ws.length := (List.getElem?_eq_some_iff.mp hk).1
  refine jm_w (jW_0 hk) ?_
  refine jm_aload (k := 0) K (by decide +kernel) 0 rfl ?_
  refine jm_obj (idx := 3) (g := 42) K rfl (by decide +kernel) (by decide +kernel) ?_
  refine jm_aload (k := 0) K (by decide +kernel) 0 rfl ?_
  refine jm_bipush (n := 60) (v := 60) K (by decide +kernel) (by decide) ?_
  refine jm_newi (N := 60) K (by decide +kernel) (by decide) (by decide) (by decide) (Nat.le_of_ble_eq_true rfl) (Nat.le_of_ble_eq_true rfl) (fun q1 => ?_)
  refine jm_w jW_app.symm ?_
  refine jm_put (idx := 9) (a := 0) (b := 1) (g := 46) (ty := .array .int) (q0 := k) K hi (by decide +kernel) (by decide) (by decide) (by decide +kernel) (by decide +kernel) (by decide +kernel) rfl rfl (jW_get hkl) (Nat.le_of_ble_eq_true rfl) ?_
  refine jm_w (jW_set hkl).symm ?_
  refine jm_aload (k := 0) K (by decide +kernel) 0 rfl ?_
  refine jm_bipush (n := 60) (v := 60) K (by decide +kernel) (by decide) ?_
  refine jm_newi (N := 60) K (by decide +kernel) (by decide) (by decide) (by decide) (Nat.le_of_ble_eq_true rfl) (Nat.le_of_ble_eq_true rfl) (fun q2 => ?_)
  refine jm_w jW_app.symm ?_
  refine jm_put (idx := 15) (a := 0) (b := 2) (g := 49) (ty := .array .int) (q0 := k) K hi (by decide +kernel) (by decide) (by decide) (by decide +kernel) (by decide +kernel) (by decide +kernel) rfl rfl (jW_get hkl) (Nat.le_of_ble_eq_true rfl) ?_
  refine jm_w (jW_set hkl).symm ?_
  exact jm_ret K hr hlk (by decide +kernel) rfl ⟨q1, q2, rfl⟩
set_option maxHeartbeats 4000000 in
set_option maxRecDepth 100000 in
theorem jc_Plan (d : Nat) (l : Launch) (D : va_G) (cI cJ : ClassId) (t : Nat) {ws : va_W} {k h0 : Nat} (hk : ws[k]? = some (h0, .inr (7, [.int 0, .null]))) : jmC l D cI cJ t (d + 1) 1 60 nX7_init [.ref h0] ws (fun ws2 => ∃ q1 : Nat, ws2 = jW ws k (h0, .inr (7, [.int 0, .ref q1])) [(q1, jI cI 60)]) := by
  refine jm_start (by decide) (by decide) (Nat.le_of_ble_eq_true rfl) (by decide +kernel) (by decide +kernel) (fun p e s m below meth c0 K hi hr hlk => ?_)
  have hkl : k < ws.length := (List.getElem?_eq_some_iff.mp hk).1
  refine jm_w (jW_0 hk) ?_
  refine jm_aload (k := 0) K (by decide +kernel) 0 rfl ?_
  refine jm_obj (idx := 3) (g := 122) K rfl (by decide +kernel) (by decide +kernel) ?_
  refine jm_aload (k := 0) K (by decide +kernel) 0 rfl ?_
  refine jm_bipush (n := 60) (v := 60) K (by decide +kernel) (by decide) ?_
  refine jm_newi (N := 60) K (by decide +kernel) (by decide) (by decide) (by decide) (Nat.le_of_ble_eq_true rfl) (Nat.le_of_ble_eq_true rfl) (fun q1 => ?_)
  refine jm_w jW_app.symm ?_
  refine jm_put (idx := 9) (a := 7) (b := 1) (g := 124) (ty := .array .int) (q0 := k) K hi (by decide +kernel) (by decide) (by decide) (by decide +kernel) (by decide +kernel) (by decide +kernel) rfl rfl (jW_get hkl) (Nat.le_of_ble_eq_true rfl) ?_
  refine jm_w (jW_set hkl).symm ?_
  exact jm_ret K hr hlk (by decide +kernel) rfl ⟨q1, rfl⟩
set_option maxHeartbeats 4000000 in
set_option maxRecDepth 100000 in
theorem jc_Settings (d : Nat) (l : Launch) (D : va_G) (cI cJ : ClassId) (t : Nat) {ws : va_W} {k h0 : Nat} (hk : ws[k]? = some (h0, .inr (8, [.int 0, .int 0, .int 0, .int 0, .int 0, .int 0, .int 0, .int 0, .null, .null, .null, .null]))) : jmC l D cI cJ t (d + 1) 4 78 nX8_init [.ref h0] ws (fun ws2 => ∃ q1 q2 q3 q4 : Nat, ws2 = jW ws k (h0, .inr (8, [.int 12, .int 2, .int 10, .int 45, .int 60000, .int 90, .int 4000, .int 0, .ref q1, .ref q2, .ref q3, .ref q4])) [(q1, .inl (cI, 60, .inl (jWt 60))), (q2, jI cI 6), (q3, jI cI 6), (q4, jI cI 6)]) := by
  refine jm_start (by decide) (by decide) (Nat.le_of_ble_eq_true rfl) (by decide +kernel) (by decide +kernel) (fun p e s m below meth c0 K hi hr hlk => ?_)
  have hkl : k < ws.length := (List.getElem?_eq_some_iff.mp hk).1
  refine jm_w (jW_0 hk) ?_
  refine jm_aload (k := 0) K (by decide +kernel) 0 rfl ?_
  refine jm_obj (idx := 3) (g := 65) K rfl (by decide +kernel) (by decide +kernel) ?_
  refine jm_aload (k := 0) K (by decide +kernel) 0 rfl ?_
  refine jm_bipush (n := 12) (v := 12) K (by decide +kernel) (by decide) ?_
  refine jm_put (idx := 9) (a := 8) (b := 0) (g := 67) (ty := .int) (q0 := k) K hi (by decide +kernel) (by decide) (by decide) (by decide +kernel) (by decide +kernel) (by decide +kernel) rfl rfl (jW_get hkl) (Nat.le_of_ble_eq_true rfl) ?_
  refine jm_w (jW_set hkl).symm ?_
  refine jm_aload (k := 0) K (by decide +kernel) 0 rfl ?_
  refine jm_iconst (n := 2) (v := 2) K (by decide +kernel) (by decide) ?_
  refine jm_put (idx := 15) (a := 8) (b := 1) (g := 70) (ty := .int) (q0 := k) K hi (by decide +kernel) (by decide) (by decide) (by decide +kernel) (by decide +kernel) (by decide +kernel) rfl rfl (jW_get hkl) (Nat.le_of_ble_eq_true rfl) ?_
  refine jm_w (jW_set hkl).symm ?_
  refine jm_aload (k := 0) K (by decide +kernel) 0 rfl ?_
  refine jm_bipush (n := 10) (v := 10) K (by decide +kernel) (by decide) ?_
  refine jm_put (idx := 18) (a := 8) (b := 2) (g := 73) (ty := .int) (q0 := k) K hi (by decide +kernel) (by decide) (by decide) (by decide +kernel) (by decide +kernel) (by decide +kernel) rfl rfl (jW_get hkl) (Nat.le_of_ble_eq_true rfl) ?_
  refine jm_w (jW_set hkl).symm ?_
  refine jm_aload (k := 0) K (by decide +kernel) 0 rfl ?_
  refine jm_bipush (n := 45) (v := 45) K (by decide +kernel) (by decide) ?_
  refine jm_put (idx := 21) (a := 8) (b := 3) (g := 74) (ty := .int) (q0 := k) K hi (by decide +kernel) (by decide) (by decide) (by decide +kernel) (by decide +kernel) (by decide +kernel) rfl rfl (jW_get hkl) (Nat.le_of_ble_eq_true rfl) ?_
  refine jm_w (jW_set hkl).symm ?_
  refine jm_aload (k := 0) K (by decide +kernel) 0 rfl ?_
  refine jm_ldc (idx := 24) (g := 66) (v := 60000) K (by decide +kernel) (by decide +kernel) ?_
  refine jm_put (idx := 25) (a := 8) (b := 4) (g := 75) (ty := .int) (q0 := k) K hi (by decide +kernel) (by decide) (by decide) (by decide +kernel) (by decide +kernel) (by decide +kernel) rfl rfl (jW_get hkl) (Nat.le_of_ble_eq_true rfl) ?_
  refine jm_w (jW_set hkl).symm ?_
  refine jm_aload (k := 0) K (by decide +kernel) 0 rfl ?_
  refine jm_bipush (n := 90) (v := 90) K (by decide +kernel) (by decide) ?_
  refine jm_put (idx := 28) (a := 8) (b := 5) (g := 78) (ty := .int) (q0 := k) K hi (by decide +kernel) (by decide) (by decide) (by decide +kernel) (by decide +kernel) (by decide +kernel) rfl rfl (jW_get hkl) (Nat.le_of_ble_eq_true rfl) ?_
  refine jm_w (jW_set hkl).symm ?_
  refine jm_aload (k := 0) K (by decide +kernel) 0 rfl ?_
  refine jm_sipush (n := 4000) (v := 4000) K (by decide +kernel) (by decide) ?_
  refine jm_put (idx := 31) (a := 8) (b := 6) (g := 81) (ty := .int) (q0 := k) K hi (by decide +kernel) (by decide) (by decide) (by decide +kernel) (by decide +kernel) (by decide +kernel) rfl rfl (jW_get hkl) (Nat.le_of_ble_eq_true rfl) ?_
  refine jm_w (jW_set hkl).symm ?_
  refine jm_aload (k := 0) K (by decide +kernel) 0 rfl ?_
  refine jm_bipush (n := 60) (v := 60) K (by decide +kernel) (by decide) ?_
  refine jm_newi (N := 60) K (by decide +kernel) (by decide) (by decide) (by decide) (Nat.le_of_ble_eq_true rfl) (Nat.le_of_ble_eq_true rfl) (fun q1 => ?_)
  refine jm_w jW_app.symm ?_
  refine jm_put (idx := 34) (a := 8) (b := 8) (g := 86) (ty := .array .int) (q0 := k) K hi (by decide +kernel) (by decide) (by decide) (by decide +kernel) (by decide +kernel) (by decide +kernel) rfl rfl (jW_get hkl) (Nat.le_of_ble_eq_true rfl) ?_
  refine jm_w (jW_set hkl).symm ?_
  refine jm_aload (k := 0) K (by decide +kernel) 0 rfl ?_
  refine jm_bipush (n := 6) (v := 6) K (by decide +kernel) (by decide) ?_
  refine jm_newi (N := 6) K (by decide +kernel) (by decide) (by decide) (by decide) (Nat.le_of_ble_eq_true rfl) (Nat.le_of_ble_eq_true rfl) (fun q2 => ?_)
  refine jm_w jW_app.symm ?_
  refine jm_put (idx := 38) (a := 8) (b := 9) (g := 89) (ty := .array .int) (q0 := k) K hi (by decide +kernel) (by decide) (by decide) (by decide +kernel) (by decide +kernel) (by decide +kernel) rfl rfl (jW_get hkl) (Nat.le_of_ble_eq_true rfl) ?_
  refine jm_w (jW_set hkl).symm ?_
  refine jm_aload (k := 0) K (by decide +kernel) 0 rfl ?_
  refine jm_bipush (n := 6) (v := 6) K (by decide +kernel) (by decide) ?_
  refine jm_newi (N := 6) K (by decide +kernel) (by decide) (by decide) (by decide) (Nat.le_of_ble_eq_true rfl) (Nat.le_of_ble_eq_true rfl) (fun q3 => ?_)
  refine jm_w jW_app.symm ?_
  refine jm_put (idx := 41) (a := 8) (b := 10) (g := 90) (ty := .array .int) (q0 := k) K hi (by decide +kernel) (by decide) (by decide) (by decide +kernel) (by decide +kernel) (by decide +kernel) rfl rfl (jW_get hkl) (Nat.le_of_ble_eq_true rfl) ?_
  refine jm_w (jW_set hkl).symm ?_
  refine jm_aload (k := 0) K (by decide +kernel) 0 rfl ?_
  refine jm_bipush (n := 6) (v := 6) K (by decide +kernel) (by decide) ?_
  refine jm_newi (N := 6) K (by decide +kernel) (by decide) (by decide) (by decide) (Nat.le_of_ble_eq_true rfl) (Nat.le_of_ble_eq_true rfl) (fun q4 => ?_)
  refine jm_w jW_app.symm ?_
  refine jm_put (idx := 44) (a := 8) (b := 11) (g := 91) (ty := .array .int) (q0 := k) K hi (by decide +kernel) (by decide) (by decide) (by decide +kernel) (by decide +kernel) (by decide +kernel) rfl rfl (jW_get hkl) (Nat.le_of_ble_eq_true rfl) ?_
  refine jm_w (jW_set hkl).symm ?_
  refine jm_iconst (n := 0) (v := 0) K (by decide +kernel) (by decide) ?_
  refine jm_istore (k := 1) (lv' := [(1, .int (iI ((0 : Nat) : Int))), (0, .ref h0)]) K (by decide +kernel) (by decide) rfl ?_
  refine jm_w (ws' := jW ws k (h0, .inr (8, [.int 12, .int 2, .int 10, .int 45, .int 60000, .int 90, .int 4000, .int 0, .ref q1, .ref q2, .ref q3, .ref q4])) [(q1, .inl (cI, 60, .inl (jWt 0))), (q2, jI cI 6), (q3, jI cI 6), (q4, jI cI 6)]) (by rw [jWt_0]; rfl) ?_
  refine jl_Settings K hkl rfl ?_ 60 0 rfl
  exact jm_ret K hr hlk (by decide +kernel) rfl ⟨q1, q2, q3, q4, rfl⟩
set_option maxHeartbeats 4000000 in
set_option maxRecDepth 100000 in
theorem jc_Text (d : Nat) (l : Launch) (D : va_G) (cI cJ : ClassId) (t : Nat) {ws : va_W} {k h0 : Nat} (hk : ws[k]? = some (h0, .inr (10, [.int 0, .null, .null, .int 0, .int 0, .int 0]))) : jmC l D cI cJ t (d + 2) 4 223 nX10_init [.ref h0] ws (fun ws2 => ∃ q1 q2 q3 q4 : Nat, ws2 = jW ws k (h0, .inr (10, [.int 0, .ref q1, .ref q4, .int 0, .int 0, .int 0])) [(q1, .inr (0, [.int 0, .ref q2, .ref q3])), (q2, jI cI 60), (q3, jI cI 60), (q4, jI cI 100)]) := by
  refine jm_start (by decide) (by decide) (Nat.le_of_ble_eq_true rfl) (by decide +kernel) (by decide +kernel) (fun p e s m below meth c0 K hi hr hlk => ?_)
  have hkl : k < ws.length := (List.getElem?_eq_some_iff.mp hk).1
  refine jm_w (jW_0 hk) ?_
  refine jm_aload (k := 0) K (by decide +kernel) 0 rfl ?_
  refine jm_obj (idx := 3) (g := 136) K rfl (by decide +kernel) (by decide +kernel) ?_
  refine jm_aload (k := 0) K (by decide +kernel) 0 rfl ?_
  refine jm_new (idx := 9) (a := 0) (g1 := 137) (g2 := 38) (g3 := 17) (fs := [.int 0, .null, .null]) K (by decide +kernel) (by decide) (by decide +kernel) (by decide +kernel) (by decide +kernel) (fun k => [.int, .array .int, .array .int].getD k .int) (by decide +kernel) (by decide +kernel) 3 (by decide) (Nat.le_of_ble_eq_true rfl) (Nat.le_of_ble_eq_true rfl) (fun q1 => ?_)
  refine jm_w jW_app.symm ?_
  refine jm_dup K (by decide +kernel) ?_
  refine jm_call (idx := 11) (a := nX0_init) (g := 138) (cc := 2) (ss := 120) (As := []) (b := q1) K rfl (jc_Clip d l D cI cJ t (k := (ws.length + 0)) ((jW_new 0).trans rfl)) (by decide +kernel) (by decide) (by decide) (by decide +kernel) (by decide +kernel) (by decide +kernel) 0 rfl (by decide +kernel) (Or.inr (by decide +kernel)) (Nat.le_of_ble_eq_true rfl) (Nat.le_of_ble_eq_true rfl) (Nat.le_of_ble_eq_true rfl) rfl (fun ws2 hp => ?_)
  obtain ⟨q2, q3, rfl⟩ := hp
  refine jm_w (ws' := jW ws k (h0, .inr (10, [.int 0, .null, .null, .int 0, .int 0, .int 0])) [(q1, .inr (0, [.int 0, .ref q2, .ref q3])), (q2, jI cI 60), (q3, jI cI 60)]) (by rw [jW_jW 0]; rfl) ?_
  refine jm_put (idx := 12) (a := 10) (b := 1) (g := 140) (ty := .object "RatePlanner$Clip") (q0 := k) K hi (by decide +kernel) (by decide) (by decide) (by decide +kernel) (by decide +kernel) (by decide +kernel) rfl rfl (jW_get hkl) (Nat.le_of_ble_eq_true rfl) ?_
  refine jm_w (jW_set hkl).symm ?_
  refine jm_aload (k := 0) K (by decide +kernel) 0 rfl ?_
  refine jm_bipush (n := 100) (v := 100) K (by decide +kernel) (by decide) ?_
  refine jm_newi (N := 100) K (by decide +kernel) (by decide) (by decide) (by decide) (Nat.le_of_ble_eq_true rfl) (Nat.le_of_ble_eq_true rfl) (fun q4 => ?_)
  refine jm_w jW_app.symm ?_
  refine jm_put (idx := 18) (a := 10) (b := 2) (g := 141) (ty := .array .int) (q0 := k) K hi (by decide +kernel) (by decide) (by decide) (by decide +kernel) (by decide +kernel) (by decide +kernel) rfl rfl (jW_get hkl) (Nat.le_of_ble_eq_true rfl) ?_
  refine jm_w (jW_set hkl).symm ?_
  exact jm_ret K hr hlk (by decide +kernel) rfl ⟨q1, q2, q3, q4, rfl⟩
set_option maxHeartbeats 4000000 in
set_option maxRecDepth 100000 in
theorem jc_Layout (d : Nat) (l : Launch) (D : va_G) (cI cJ : ClassId) (t : Nat) {ws : va_W} {k h0 : Nat} (hk : ws[k]? = some (h0, .inr (3, [.int 0, .int 0, .int 0, .null, .null, .null, .null, .null, .null, .null]))) : jmC l D cI cJ t (d + 1) 7 420 nX3_init [.ref h0] ws (fun ws2 => ∃ q1 q2 q3 q4 q5 q6 q7 : Nat, ws2 = jW ws k (h0, .inr (3, [.int 0, .int 0, .int 0, .ref q1, .ref q2, .ref q3, .ref q4, .ref q5, .ref q6, .ref q7])) [(q1, jI cI 60), (q2, jI cI 60), (q3, jI cI 60), (q4, jI cI 60), (q5, jI cI 60), (q6, jI cI 60), (q7, jI cI 60)]) := by
  refine jm_start (by decide) (by decide) (Nat.le_of_ble_eq_true rfl) (by decide +kernel) (by decide +kernel) (fun p e s m below meth c0 K hi hr hlk => ?_)
  have hkl : k < ws.length := (List.getElem?_eq_some_iff.mp hk).1
  refine jm_w (jW_0 hk) ?_
  refine jm_aload (k := 0) K (by decide +kernel) 0 rfl ?_
  refine jm_obj (idx := 3) (g := 160) K rfl (by decide +kernel) (by decide +kernel) ?_
  refine jm_aload (k := 0) K (by decide +kernel) 0 rfl ?_
  refine jm_bipush (n := 60) (v := 60) K (by decide +kernel) (by decide) ?_
  refine jm_newi (N := 60) K (by decide +kernel) (by decide) (by decide) (by decide) (Nat.le_of_ble_eq_true rfl) (Nat.le_of_ble_eq_true rfl) (fun q1 => ?_)
  refine jm_w jW_app.symm ?_
  refine jm_put (idx := 9) (a := 3) (b := 3) (g := 168) (ty := .array .int) (q0 := k) K hi (by decide +kernel) (by decide) (by decide) (by decide +kernel) (by decide +kernel) (by decide +kernel) rfl rfl (jW_get hkl) (Nat.le_of_ble_eq_true rfl) ?_
  refine jm_w (jW_set hkl).symm ?_
  refine jm_aload (k := 0) K (by decide +kernel) 0 rfl ?_
  refine jm_bipush (n := 60) (v := 60) K (by decide +kernel) (by decide) ?_
  refine jm_newi (N := 60) K (by decide +kernel) (by decide) (by decide) (by decide) (Nat.le_of_ble_eq_true rfl) (Nat.le_of_ble_eq_true rfl) (fun q2 => ?_)
  refine jm_w jW_app.symm ?_
  refine jm_put (idx := 15) (a := 3) (b := 4) (g := 172) (ty := .array .int) (q0 := k) K hi (by decide +kernel) (by decide) (by decide) (by decide +kernel) (by decide +kernel) (by decide +kernel) rfl rfl (jW_get hkl) (Nat.le_of_ble_eq_true rfl) ?_
  refine jm_w (jW_set hkl).symm ?_
  refine jm_aload (k := 0) K (by decide +kernel) 0 rfl ?_
  refine jm_bipush (n := 60) (v := 60) K (by decide +kernel) (by decide) ?_
  refine jm_newi (N := 60) K (by decide +kernel) (by decide) (by decide) (by decide) (Nat.le_of_ble_eq_true rfl) (Nat.le_of_ble_eq_true rfl) (fun q3 => ?_)
  refine jm_w jW_app.symm ?_
  refine jm_put (idx := 18) (a := 3) (b := 5) (g := 175) (ty := .array .int) (q0 := k) K hi (by decide +kernel) (by decide) (by decide) (by decide +kernel) (by decide +kernel) (by decide +kernel) rfl rfl (jW_get hkl) (Nat.le_of_ble_eq_true rfl) ?_
  refine jm_w (jW_set hkl).symm ?_
  refine jm_aload (k := 0) K (by decide +kernel) 0 rfl ?_
  refine jm_bipush (n := 60) (v := 60) K (by decide +kernel) (by decide) ?_
  refine jm_newi (N := 60) K (by decide +kernel) (by decide) (by decide) (by decide) (Nat.le_of_ble_eq_true rfl) (Nat.le_of_ble_eq_true rfl) (fun q4 => ?_)
  refine jm_w jW_app.symm ?_
  refine jm_put (idx := 21) (a := 3) (b := 6) (g := 177) (ty := .array .int) (q0 := k) K hi (by decide +kernel) (by decide) (by decide) (by decide +kernel) (by decide +kernel) (by decide +kernel) rfl rfl (jW_get hkl) (Nat.le_of_ble_eq_true rfl) ?_
  refine jm_w (jW_set hkl).symm ?_
  refine jm_aload (k := 0) K (by decide +kernel) 0 rfl ?_
  refine jm_bipush (n := 60) (v := 60) K (by decide +kernel) (by decide) ?_
  refine jm_newi (N := 60) K (by decide +kernel) (by decide) (by decide) (by decide) (Nat.le_of_ble_eq_true rfl) (Nat.le_of_ble_eq_true rfl) (fun q5 => ?_)
  refine jm_w jW_app.symm ?_
  refine jm_put (idx := 24) (a := 3) (b := 7) (g := 179) (ty := .array .int) (q0 := k) K hi (by decide +kernel) (by decide) (by decide) (by decide +kernel) (by decide +kernel) (by decide +kernel) rfl rfl (jW_get hkl) (Nat.le_of_ble_eq_true rfl) ?_
  refine jm_w (jW_set hkl).symm ?_
  refine jm_aload (k := 0) K (by decide +kernel) 0 rfl ?_
  refine jm_bipush (n := 60) (v := 60) K (by decide +kernel) (by decide) ?_
  refine jm_newi (N := 60) K (by decide +kernel) (by decide) (by decide) (by decide) (Nat.le_of_ble_eq_true rfl) (Nat.le_of_ble_eq_true rfl) (fun q6 => ?_)
  refine jm_w jW_app.symm ?_
  refine jm_put (idx := 27) (a := 3) (b := 8) (g := 182) (ty := .array .int) (q0 := k) K hi (by decide +kernel) (by decide) (by decide) (by decide +kernel) (by decide +kernel) (by decide +kernel) rfl rfl (jW_get hkl) (Nat.le_of_ble_eq_true rfl) ?_
  refine jm_w (jW_set hkl).symm ?_
  refine jm_aload (k := 0) K (by decide +kernel) 0 rfl ?_
  refine jm_bipush (n := 60) (v := 60) K (by decide +kernel) (by decide) ?_
  refine jm_newi (N := 60) K (by decide +kernel) (by decide) (by decide) (by decide) (Nat.le_of_ble_eq_true rfl) (Nat.le_of_ble_eq_true rfl) (fun q7 => ?_)
  refine jm_w jW_app.symm ?_
  refine jm_put (idx := 30) (a := 3) (b := 9) (g := 184) (ty := .array .int) (q0 := k) K hi (by decide +kernel) (by decide) (by decide) (by decide +kernel) (by decide +kernel) (by decide +kernel) rfl rfl (jW_get hkl) (Nat.le_of_ble_eq_true rfl) ?_
  refine jm_w (jW_set hkl).symm ?_
  exact jm_ret K hr hlk (by decide +kernel) rfl ⟨q1, q2, q3, q4, q5, q6, q7, rfl⟩
set_option maxHeartbeats 4000000 in
set_option maxRecDepth 100000 in
theorem jc_Model (d : Nat) (l : Launch) (D : va_G) (cI cJ : ClassId) (t : Nat) {ws : va_W} {k h0 a1 a2 : Nat} (hk : ws[k]? = some (h0, .inr (6, [.null, .null, .null]))) : jmC l D cI cJ t (d + 1) 1 52 nX6_init [.ref h0, .ref a1, .ref a2] ws (fun ws2 => ∃ q1 : Nat, ws2 = jW ws k (h0, .inr (6, [.ref a1, .ref a2, .ref q1])) [(q1, .inl (cI, 52, .inl (jSt 52)))]) := by
  refine jm_start (by decide) (by decide) (Nat.le_of_ble_eq_true rfl) (by decide +kernel) (by decide +kernel) (fun p e s m below meth c0 K hi hr hlk => ?_)
  have hkl : k < ws.length := (List.getElem?_eq_some_iff.mp hk).1
  refine jm_w (jW_0 hk) ?_
  refine jm_aload (k := 0) K (by decide +kernel) 0 rfl ?_
  refine jm_obj (idx := 3) (g := 213) K rfl (by decide +kernel) (by decide +kernel) ?_
  refine jm_aload (k := 0) K (by decide +kernel) 0 rfl ?_
  refine jm_bipush (n := 52) (v := 52) K (by decide +kernel) (by decide) ?_
  refine jm_newi (N := 52) K (by decide +kernel) (by decide) (by decide) (by decide) (Nat.le_of_ble_eq_true rfl) (Nat.le_of_ble_eq_true rfl) (fun q1 => ?_)
  refine jm_w jW_app.symm ?_
  refine jm_put (idx := 9) (a := 6) (b := 2) (g := 229) (ty := .array .int) (q0 := k) K hi (by decide +kernel) (by decide) (by decide) (by decide +kernel) (by decide +kernel) (by decide +kernel) rfl rfl (jW_get hkl) (Nat.le_of_ble_eq_true rfl) ?_
  refine jm_w (jW_set hkl).symm ?_
  refine jm_aload (k := 0) K (by decide +kernel) 0 rfl ?_
  refine jm_aload (k := 1) K (by decide +kernel) 1 rfl ?_
  refine jm_put (idx := 15) (a := 6) (b := 0) (g := 219) (ty := .object "RatePlanner$Layout") (q0 := k) K hi (by decide +kernel) (by decide) (by decide) (by decide +kernel) (by decide +kernel) (by decide +kernel) rfl rfl (jW_get hkl) (Nat.le_of_ble_eq_true rfl) ?_
  refine jm_w (jW_set hkl).symm ?_
  refine jm_aload (k := 0) K (by decide +kernel) 0 rfl ?_
  refine jm_aload (k := 2) K (by decide +kernel) 2 rfl ?_
  refine jm_put (idx := 19) (a := 6) (b := 1) (g := 225) (ty := .object "RatePlanner$Settings") (q0 := k) K hi (by decide +kernel) (by decide) (by decide) (by decide +kernel) (by decide +kernel) (by decide +kernel) rfl rfl (jW_get hkl) (Nat.le_of_ble_eq_true rfl) ?_
  refine jm_w (jW_set hkl).symm ?_
  refine jm_iconst (n := 0) (v := 0) K (by decide +kernel) (by decide) ?_
  refine jm_istore (k := 3) (lv' := [(3, .int (iI ((0 : Nat) : Int))), (0, .ref h0), (1, .ref a1), (2, .ref a2)]) K (by decide +kernel) (by decide) rfl ?_
  refine jm_w (ws' := jW ws k (h0, .inr (6, [.ref a1, .ref a2, .ref q1])) [(q1, .inl (cI, 52, .inl (jSt 0)))]) (by rw [jSt_0]; rfl) ?_
  refine jm_sub [0, 1] rfl ?_
  refine jl_Model K hkl rfl (Nat.le_of_ble_eq_true rfl) (Nat.le_of_ble_eq_true rfl) ?_ 52 0 rfl
  exact jm_ret K hr hlk (by decide +kernel) rfl ⟨q1, rfl⟩
set_option maxHeartbeats 4000000 in
set_option maxRecDepth 100000 in
theorem jc_Course (d : Nat) (l : Launch) (D : va_G) (cI cJ : ClassId) (t : Nat) {ws : va_W} {k h0 a1 : Nat} (hk : ws[k]? = some (h0, .inr (1, [.int 0, .null, .null, .null, .null, .null, .null, .int 0, .int 0, .int 0]))) : jmC l D cI cJ t (d + 1) 5 300 nX1_init [.ref h0, .ref a1] ws (fun ws2 => ∃ q1 q2 q3 q4 q5 : Nat, ws2 = jW ws k (h0, .inr (1, [.int 0, .ref q1, .ref q2, .ref q3, .ref q4, .ref q5, .ref a1, .int 0, .int 0, .int 0])) [(q1, jI cI 60), (q2, jI cI 60), (q3, jI cI 60), (q4, jI cI 60), (q5, jI cI 60)]) := by
  refine jm_start (by decide) (by decide) (Nat.le_of_ble_eq_true rfl) (by decide +kernel) (by decide +kernel) (fun p e s m below meth c0 K hi hr hlk => ?_)
  have hkl : k < ws.length := (List.getElem?_eq_some_iff.mp hk).1
  refine jm_w (jW_0 hk) ?_
  refine jm_aload (k := 0) K (by decide +kernel) 0 rfl ?_
  refine jm_obj (idx := 3) (g := 242) K rfl (by decide +kernel) (by decide +kernel) ?_
  refine jm_aload (k := 0) K (by decide +kernel) 0 rfl ?_
  refine jm_bipush (n := 60) (v := 60) K (by decide +kernel) (by decide) ?_
  refine jm_newi (N := 60) K (by decide +kernel) (by decide) (by decide) (by decide) (Nat.le_of_ble_eq_true rfl) (Nat.le_of_ble_eq_true rfl) (fun q1 => ?_)
  refine jm_w jW_app.symm ?_
  refine jm_put (idx := 9) (a := 1) (b := 1) (g := 245) (ty := .array .int) (q0 := k) K hi (by decide +kernel) (by decide) (by decide) (by decide +kernel) (by decide +kernel) (by decide +kernel) rfl rfl (jW_get hkl) (Nat.le_of_ble_eq_true rfl) ?_
  refine jm_w (jW_set hkl).symm ?_
  refine jm_aload (k := 0) K (by decide +kernel) 0 rfl ?_
  refine jm_bipush (n := 60) (v := 60) K (by decide +kernel) (by decide) ?_
  refine jm_newi (N := 60) K (by decide +kernel) (by decide) (by decide) (by decide) (Nat.le_of_ble_eq_true rfl) (Nat.le_of_ble_eq_true rfl) (fun q2 => ?_)
  refine jm_w jW_app.symm ?_
  refine jm_put (idx := 15) (a := 1) (b := 2) (g := 247) (ty := .array .int) (q0 := k) K hi (by decide +kernel) (by decide) (by decide) (by decide +kernel) (by decide +kernel) (by decide +kernel) rfl rfl (jW_get hkl) (Nat.le_of_ble_eq_true rfl) ?_
  refine jm_w (jW_set hkl).symm ?_
  refine jm_aload (k := 0) K (by decide +kernel) 0 rfl ?_
  refine jm_bipush (n := 60) (v := 60) K (by decide +kernel) (by decide) ?_
  refine jm_newi (N := 60) K (by decide +kernel) (by decide) (by decide) (by decide) (Nat.le_of_ble_eq_true rfl) (Nat.le_of_ble_eq_true rfl) (fun q3 => ?_)
  refine jm_w jW_app.symm ?_
  refine jm_put (idx := 18) (a := 1) (b := 3) (g := 249) (ty := .array .int) (q0 := k) K hi (by decide +kernel) (by decide) (by decide) (by decide +kernel) (by decide +kernel) (by decide +kernel) rfl rfl (jW_get hkl) (Nat.le_of_ble_eq_true rfl) ?_
  refine jm_w (jW_set hkl).symm ?_
  refine jm_aload (k := 0) K (by decide +kernel) 0 rfl ?_
  refine jm_bipush (n := 60) (v := 60) K (by decide +kernel) (by decide) ?_
  refine jm_newi (N := 60) K (by decide +kernel) (by decide) (by decide) (by decide) (Nat.le_of_ble_eq_true rfl) (Nat.le_of_ble_eq_true rfl) (fun q4 => ?_)
  refine jm_w jW_app.symm ?_
  refine jm_put (idx := 21) (a := 1) (b := 4) (g := 251) (ty := .array .int) (q0 := k) K hi (by decide +kernel) (by decide) (by decide) (by decide +kernel) (by decide +kernel) (by decide +kernel) rfl rfl (jW_get hkl) (Nat.le_of_ble_eq_true rfl) ?_
  refine jm_w (jW_set hkl).symm ?_
  refine jm_aload (k := 0) K (by decide +kernel) 0 rfl ?_
  refine jm_bipush (n := 60) (v := 60) K (by decide +kernel) (by decide) ?_
  refine jm_newi (N := 60) K (by decide +kernel) (by decide) (by decide) (by decide) (Nat.le_of_ble_eq_true rfl) (Nat.le_of_ble_eq_true rfl) (fun q5 => ?_)
  refine jm_w jW_app.symm ?_
  refine jm_put (idx := 24) (a := 1) (b := 5) (g := 253) (ty := .array .int) (q0 := k) K hi (by decide +kernel) (by decide) (by decide) (by decide +kernel) (by decide +kernel) (by decide +kernel) rfl rfl (jW_get hkl) (Nat.le_of_ble_eq_true rfl) ?_
  refine jm_w (jW_set hkl).symm ?_
  refine jm_aload (k := 0) K (by decide +kernel) 0 rfl ?_
  refine jm_aload (k := 1) K (by decide +kernel) 1 rfl ?_
  refine jm_put (idx := 27) (a := 1) (b := 6) (g := 255) (ty := .object "RatePlanner$Model") (q0 := k) K hi (by decide +kernel) (by decide) (by decide) (by decide +kernel) (by decide +kernel) (by decide +kernel) rfl rfl (jW_get hkl) (Nat.le_of_ble_eq_true rfl) ?_
  refine jm_w (jW_set hkl).symm ?_
  exact jm_ret K hr hlk (by decide +kernel) rfl ⟨q1, q2, q3, q4, q5, rfl⟩
set_option maxHeartbeats 4000000 in
set_option maxRecDepth 100000 in
theorem jc_Maker (d : Nat) (l : Launch) (D : va_G) (cI cJ : ClassId) (t : Nat) {ws : va_W} {k h0 a1 a2 : Nat} (hk : ws[k]? = some (h0, .inr (4, [.null, .null, .null, .null, .null]))) {a1_p p1 p2 p3 : Nat} (a1_l : a1_p < ws.length) (a1_k : a1_p ≠ k) (a1_h : ws[a1_p]? = some (a1, .inr (6, [.ref p1, .ref p2, .ref p3]))) : jmC l D cI cJ t (d + 1) 1 60 nX4_init [.ref h0, .ref a1, .ref a2] ws (fun ws2 => ∃ q1 : Nat, ws2 = jW ws k (h0, .inr (4, [.ref a1, .ref p2, .ref p1, .ref a2, .ref q1])) [(q1, jI cI 60)]) := by
  refine jm_start (by decide) (by decide) (Nat.le_of_ble_eq_true rfl) (by decide +kernel) (by decide +kernel) (fun p e s m below meth c0 K hi hr hlk => ?_)
  have hkl : k < ws.length := (List.getElem?_eq_some_iff.mp hk).1
  refine jm_w (jW_0 hk) ?_
  refine jm_aload (k := 0) K (by decide +kernel) 0 rfl ?_
  refine jm_obj (idx := 3) (g := 285) K rfl (by decide +kernel) (by decide +kernel) ?_
  refine jm_aload (k := 0) K (by decide +kernel) 0 rfl ?_
  refine jm_bipush (n := 60) (v := 60) K (by decide +kernel) (by decide) ?_
  refine jm_newi (N := 60) K (by decide +kernel) (by decide) (by decide) (by decide) (Nat.le_of_ble_eq_true rfl) (Nat.le_of_ble_eq_true rfl) (fun q1 => ?_)
  refine jm_w jW_app.symm ?_
  refine jm_put (idx := 9) (a := 4) (b := 4) (g := 290) (ty := .array .int) (q0 := k) K hi (by decide +kernel) (by decide) (by decide) (by decide +kernel) (by decide +kernel) (by decide +kernel) rfl rfl (jW_get hkl) (Nat.le_of_ble_eq_true rfl) ?_
  refine jm_w (jW_set hkl).symm ?_
  refine jm_aload (k := 0) K (by decide +kernel) 0 rfl ?_
  refine jm_aload (k := 1) K (by decide +kernel) 1 rfl ?_
  refine jm_put (idx := 15) (a := 4) (b := 0) (g := 286) (ty := .object "RatePlanner$Model") (q0 := k) K hi (by decide +kernel) (by decide) (by decide) (by decide +kernel) (by decide +kernel) (by decide +kernel) rfl rfl (jW_get hkl) (Nat.le_of_ble_eq_true rfl) ?_
  refine jm_w (jW_set hkl).symm ?_
  refine jm_aload (k := 0) K (by decide +kernel) 0 rfl ?_
  refine jm_aload (k := 1) K (by decide +kernel) 1 rfl ?_
  refine jm_get (idx := 19) (a := 6) (b := 1) (g := 226) (v := .ref p2) (q0 := a1_p) K (by decide +kernel) (by decide) (by decide) (by decide +kernel) ((jW_old a1_l a1_k).trans a1_h) rfl ?_
  refine jm_put (idx := 25) (a := 4) (b := 1) (g := 287) (ty := .object "RatePlanner$Settings") (q0 := k) K hi (by decide +kernel) (by decide) (by decide) (by decide +kernel) (by decide +kernel) (by decide +kernel) rfl rfl (jW_get hkl) (Nat.le_of_ble_eq_true rfl) ?_
  refine jm_w (jW_set hkl).symm ?_
  refine jm_aload (k := 0) K (by decide +kernel) 0 rfl ?_
  refine jm_aload (k := 1) K (by decide +kernel) 1 rfl ?_
  refine jm_get (idx := 26) (a := 6) (b := 0) (g := 221) (v := .ref p1) (q0 := a1_p) K (by decide +kernel) (by decide) (by decide) (by decide +kernel) ((jW_old a1_l a1_k).trans a1_h) rfl ?_
  refine jm_put (idx := 30) (a := 4) (b := 2) (g := 288) (ty := .object "RatePlanner$Layout") (q0 := k) K hi (by decide +kernel) (by decide) (by decide) (by decide +kernel) (by decide +kernel) (by decide +kernel) rfl rfl (jW_get hkl) (Nat.le_of_ble_eq_true rfl) ?_
  refine jm_w (jW_set hkl).symm ?_
  refine jm_aload (k := 0) K (by decide +kernel) 0 rfl ?_
  refine jm_aload (k := 2) K (by decide +kernel) 2 rfl ?_
  refine jm_put (idx := 31) (a := 4) (b := 3) (g := 289) (ty := .object "RatePlanner$Course") (q0 := k) K hi (by decide +kernel) (by decide) (by decide) (by decide +kernel) (by decide +kernel) (by decide +kernel) rfl rfl (jW_get hkl) (Nat.le_of_ble_eq_true rfl) ?_
  refine jm_w (jW_set hkl).symm ?_
  exact jm_ret K hr hlk (by decide +kernel) rfl ⟨q1, rfl⟩
set_option maxHeartbeats 4000000 in
set_option maxRecDepth 100000 in
theorem jc_Mender (d : Nat) (l : Launch) (D : va_G) (cI cJ : ClassId) (t : Nat) {ws : va_W} {k h0 a1 a2 : Nat} (hk : ws[k]? = some (h0, .inr (5, [.null, .null, .null, .null, .null, .null, .null, .null]))) {a1_p p1 p2 p3 : Nat} (a1_l : a1_p < ws.length) (a1_k : a1_p ≠ k) (a1_h : ws[a1_p]? = some (a1, .inr (6, [.ref p1, .ref p2, .ref p3]))) : jmC l D cI cJ t (d + 1) 4 240 nX5_init [.ref h0, .ref a1, .ref a2] ws (fun ws2 => ∃ q1 q2 q3 q4 : Nat, ws2 = jW ws k (h0, .inr (5, [.ref a1, .ref p2, .ref p1, .ref a2, .ref q1, .ref q2, .ref q3, .ref q4])) [(q1, jI cI 60), (q2, jI cI 60), (q3, jJ cJ 60), (q4, jJ cJ 60)]) := by
  refine jm_start (by decide) (by decide) (Nat.le_of_ble_eq_true rfl) (by decide +kernel) (by decide +kernel) (fun p e s m below meth c0 K hi hr hlk => ?_)
  have hkl : k < ws.length := (List.getElem?_eq_some_iff.mp hk).1
  refine jm_w (jW_0 hk) ?_
  refine jm_aload (k := 0) K (by decide +kernel) 0 rfl ?_
  refine jm_obj (idx := 3) (g := 307) K rfl (by decide +kernel) (by decide +kernel) ?_
  refine jm_aload (k := 0) K (by decide +kernel) 0 rfl ?_
  refine jm_bipush (n := 60) (v := 60) K (by decide +kernel) (by decide) ?_
  refine jm_newi (N := 60) K (by decide +kernel) (by decide) (by decide) (by decide) (Nat.le_of_ble_eq_true rfl) (Nat.le_of_ble_eq_true rfl) (fun q1 => ?_)
  refine jm_w jW_app.symm ?_
  refine jm_put (idx := 9) (a := 5) (b := 4) (g := 312) (ty := .array .int) (q0 := k) K hi (by decide +kernel) (by decide) (by decide) (by decide +kernel) (by decide +kernel) (by decide +kernel) rfl rfl (jW_get hkl) (Nat.le_of_ble_eq_true rfl) ?_
  refine jm_w (jW_set hkl).symm ?_
  refine jm_aload (k := 0) K (by decide +kernel) 0 rfl ?_
  refine jm_bipush (n := 60) (v := 60) K (by decide +kernel) (by decide) ?_
  refine jm_newi (N := 60) K (by decide +kernel) (by decide) (by decide) (by decide) (Nat.le_of_ble_eq_true rfl) (Nat.le_of_ble_eq_true rfl) (fun q2 => ?_)
  refine jm_w jW_app.symm ?_
  refine jm_put (idx := 15) (a := 5) (b := 5) (g := 313) (ty := .array .int) (q0 := k) K hi (by decide +kernel) (by decide) (by decide) (by decide +kernel) (by decide +kernel) (by decide +kernel) rfl rfl (jW_get hkl) (Nat.le_of_ble_eq_true rfl) ?_
  refine jm_w (jW_set hkl).symm ?_
  refine jm_aload (k := 0) K (by decide +kernel) 0 rfl ?_
  refine jm_bipush (n := 60) (v := 60) K (by decide +kernel) (by decide) ?_
  refine jm_newj (N := 60) K (by decide +kernel) (by decide) (by decide) (by decide) (Nat.le_of_ble_eq_true rfl) (Nat.le_of_ble_eq_true rfl) (fun q3 => ?_)
  refine jm_w jW_app.symm ?_
  refine jm_put (idx := 18) (a := 5) (b := 6) (g := 314) (ty := .array .long) (q0 := k) K hi (by decide +kernel) (by decide) (by decide) (by decide +kernel) (by decide +kernel) (by decide +kernel) rfl rfl (jW_get hkl) (Nat.le_of_ble_eq_true rfl) ?_
  refine jm_w (jW_set hkl).symm ?_
  refine jm_aload (k := 0) K (by decide +kernel) 0 rfl ?_
  refine jm_bipush (n := 60) (v := 60) K (by decide +kernel) (by decide) ?_
  refine jm_newj (N := 60) K (by decide +kernel) (by decide) (by decide) (by decide) (Nat.le_of_ble_eq_true rfl) (Nat.le_of_ble_eq_true rfl) (fun q4 => ?_)
  refine jm_w jW_app.symm ?_
  refine jm_put (idx := 22) (a := 5) (b := 7) (g := 315) (ty := .array .long) (q0 := k) K hi (by decide +kernel) (by decide) (by decide) (by decide +kernel) (by decide +kernel) (by decide +kernel) rfl rfl (jW_get hkl) (Nat.le_of_ble_eq_true rfl) ?_
  refine jm_w (jW_set hkl).symm ?_
  refine jm_aload (k := 0) K (by decide +kernel) 0 rfl ?_
  refine jm_aload (k := 1) K (by decide +kernel) 1 rfl ?_
  refine jm_put (idx := 25) (a := 5) (b := 0) (g := 308) (ty := .object "RatePlanner$Model") (q0 := k) K hi (by decide +kernel) (by decide) (by decide) (by decide +kernel) (by decide +kernel) (by decide +kernel) rfl rfl (jW_get hkl) (Nat.le_of_ble_eq_true rfl) ?_
  refine jm_w (jW_set hkl).symm ?_
  refine jm_aload (k := 0) K (by decide +kernel) 0 rfl ?_
  refine jm_aload (k := 1) K (by decide +kernel) 1 rfl ?_
  refine jm_get (idx := 29) (a := 6) (b := 1) (g := 227) (v := .ref p2) (q0 := a1_p) K (by decide +kernel) (by decide) (by decide) (by decide +kernel) ((jW_old a1_l a1_k).trans a1_h) rfl ?_
  refine jm_put (idx := 35) (a := 5) (b := 1) (g := 309) (ty := .object "RatePlanner$Settings") (q0 := k) K hi (by decide +kernel) (by decide) (by decide) (by decide +kernel) (by decide +kernel) (by decide +kernel) rfl rfl (jW_get hkl) (Nat.le_of_ble_eq_true rfl) ?_
  refine jm_w (jW_set hkl).symm ?_
  refine jm_aload (k := 0) K (by decide +kernel) 0 rfl ?_
  refine jm_aload (k := 1) K (by decide +kernel) 1 rfl ?_
  refine jm_get (idx := 36) (a := 6) (b := 0) (g := 222) (v := .ref p1) (q0 := a1_p) K (by decide +kernel) (by decide) (by decide) (by decide +kernel) ((jW_old a1_l a1_k).trans a1_h) rfl ?_
  refine jm_put (idx := 40) (a := 5) (b := 2) (g := 310) (ty := .object "RatePlanner$Layout") (q0 := k) K hi (by decide +kernel) (by decide) (by decide) (by decide +kernel) (by decide +kernel) (by decide +kernel) rfl rfl (jW_get hkl) (Nat.le_of_ble_eq_true rfl) ?_
  refine jm_w (jW_set hkl).symm ?_
  refine jm_aload (k := 0) K (by decide +kernel) 0 rfl ?_
  refine jm_aload (k := 2) K (by decide +kernel) 2 rfl ?_
  refine jm_put (idx := 41) (a := 5) (b := 3) (g := 311) (ty := .object "RatePlanner$Course") (q0 := k) K hi (by decide +kernel) (by decide) (by decide) (by decide +kernel) (by decide +kernel) (by decide +kernel) rfl rfl (jW_get hkl) (Nat.le_of_ble_eq_true rfl) ?_
  refine jm_w (jW_set hkl).symm ?_
  exact jm_ret K hr hlk (by decide +kernel) rfl ⟨q1, q2, q3, q4, rfl⟩
set_option maxHeartbeats 4000000 in
set_option maxRecDepth 100000 in
theorem jc_Finder (d : Nat) (l : Launch) (D : va_G) (cI cJ : ClassId) (t : Nat) {ws : va_W} {k h0 a1 a2 a3 : Nat} (hk : ws[k]? = some (h0, .inr (2, [.null, .null, .null, .null, .null]))) {a1_p p1 p2 p3 : Nat} (a1_l : a1_p < ws.length) (a1_k : a1_p ≠ k) (a1_h : ws[a1_p]? = some (a1, .inr (6, [.ref p1, .ref p2, .ref p3]))) : jmC l D cI cJ t (d + 1) 1 60 nX2_init [.ref h0, .ref a1, .ref a2, .ref a3] ws (fun ws2 => ∃ q1 : Nat, ws2 = jW ws k (h0, .inr (2, [.ref p2, .ref p1, .ref a2, .ref a3, .ref q1])) [(q1, jI cI 60)]) := by
  refine jm_start (by decide) (by decide) (Nat.le_of_ble_eq_true rfl) (by decide +kernel) (by decide +kernel) (fun p e s m below meth c0 K hi hr hlk => ?_)
  have hkl : k < ws.length := (List.getElem?_eq_some_iff.mp hk).1
  refine jm_w (jW_0 hk) ?_
  refine jm_aload (k := 0) K (by decide +kernel) 0 rfl ?_
  refine jm_obj (idx := 3) (g := 339) K rfl (by decide +kernel) (by decide +kernel) ?_
  refine jm_aload (k := 0) K (by decide +kernel) 0 rfl ?_
  refine jm_bipush (n := 60) (v := 60) K (by decide +kernel) (by decide) ?_
  refine jm_newi (N := 60) K (by decide +kernel) (by decide) (by decide) (by decide) (Nat.le_of_ble_eq_true rfl) (Nat.le_of_ble_eq_true rfl) (fun q1 => ?_)
  refine jm_w jW_app.symm ?_
  refine jm_put (idx := 9) (a := 2) (b := 4) (g := 344) (ty := .array .int) (q0 := k) K hi (by decide +kernel) (by decide) (by decide) (by decide +kernel) (by decide +kernel) (by decide +kernel) rfl rfl (jW_get hkl) (Nat.le_of_ble_eq_true rfl) ?_
  refine jm_w (jW_set hkl).symm ?_
  refine jm_aload (k := 0) K (by decide +kernel) 0 rfl ?_
  refine jm_aload (k := 1) K (by decide +kernel) 1 rfl ?_
  refine jm_get (idx := 15) (a := 6) (b := 1) (g := 224) (v := .ref p2) (q0 := a1_p) K (by decide +kernel) (by decide) (by decide) (by decide +kernel) ((jW_old a1_l a1_k).trans a1_h) rfl ?_
  refine jm_put (idx := 21) (a := 2) (b := 0) (g := 340) (ty := .object "RatePlanner$Settings") (q0 := k) K hi (by decide +kernel) (by decide) (by decide) (by decide +kernel) (by decide +kernel) (by decide +kernel) rfl rfl (jW_get hkl) (Nat.le_of_ble_eq_true rfl) ?_
  refine jm_w (jW_set hkl).symm ?_
  refine jm_aload (k := 0) K (by decide +kernel) 0 rfl ?_
  refine jm_aload (k := 1) K (by decide +kernel) 1 rfl ?_
  refine jm_get (idx := 22) (a := 6) (b := 0) (g := 220) (v := .ref p1) (q0 := a1_p) K (by decide +kernel) (by decide) (by decide) (by decide +kernel) ((jW_old a1_l a1_k).trans a1_h) rfl ?_
  refine jm_put (idx := 26) (a := 2) (b := 1) (g := 341) (ty := .object "RatePlanner$Layout") (q0 := k) K hi (by decide +kernel) (by decide) (by decide) (by decide +kernel) (by decide +kernel) (by decide +kernel) rfl rfl (jW_get hkl) (Nat.le_of_ble_eq_true rfl) ?_
  refine jm_w (jW_set hkl).symm ?_
  refine jm_aload (k := 0) K (by decide +kernel) 0 rfl ?_
  refine jm_aload (k := 2) K (by decide +kernel) 2 rfl ?_
  refine jm_put (idx := 27) (a := 2) (b := 2) (g := 342) (ty := .object "RatePlanner$Course") (q0 := k) K hi (by decide +kernel) (by decide) (by decide) (by decide +kernel) (by decide +kernel) (by decide +kernel) rfl rfl (jW_get hkl) (Nat.le_of_ble_eq_true rfl) ?_
  refine jm_w (jW_set hkl).symm ?_
  refine jm_aload (k := 0) K (by decide +kernel) 0 rfl ?_
  refine jm_aload (k := 3) K (by decide +kernel) 3 rfl ?_
  refine jm_put (idx := 31) (a := 2) (b := 3) (g := 343) (ty := .object "RatePlanner$Maker") (q0 := k) K hi (by decide +kernel) (by decide) (by decide) (by decide +kernel) (by decide +kernel) (by decide +kernel) rfl rfl (jW_get hkl) (Nat.le_of_ble_eq_true rfl) ?_
  refine jm_w (jW_set hkl).symm ?_
  exact jm_ret K hr hlk (by decide +kernel) rfl ⟨q1, rfl⟩
set_option maxHeartbeats 4000000 in
set_option maxRecDepth 100000 in
theorem jc_Slot (d : Nat) (l : Launch) (D : va_G) (cI cJ : ClassId) (t : Nat) {ws : va_W} {k h0 : Nat} (hk : ws[k]? = some (h0, .inr (9, [.int 0, .null, .null, .null]))) : jmC l D cI cJ t (d + 2) 10 275 nX9_init [.ref h0] ws (fun ws2 => ∃ q1 q2 q3 q4 q5 q6 q7 q8 q9 q10 : Nat, ws2 = jW ws k (h0, .inr (9, [.int 0, .ref q1, .ref q4, .ref q9])) [(q1, .inr (0, [.int 0, .ref q2, .ref q3])), (q2, jI cI 60), (q3, jI cI 60), (q4, .inr (8, [.int 12, .int 2, .int 10, .int 45, .int 60000, .int 90, .int 4000, .int 0, .ref q5, .ref q6, .ref q7, .ref q8])), (q5, .inl (cI, 60, .inl (jWt 60))), (q6, jI cI 6), (q7, jI cI 6), (q8, jI cI 6), (q9, .inr (7, [.int 0, .ref q10])), (q10, jI cI 60)]) := by
  refine jm_start (by decide) (by decide) (Nat.le_of_ble_eq_true rfl) (by decide +kernel) (by decide +kernel) (fun p e s m below meth c0 K hi hr hlk => ?_)
  have hkl : k < ws.length := (List.getElem?_eq_some_iff.mp hk).1
  refine jm_w (jW_0 hk) ?_
  refine jm_aload (k := 0) K (by decide +kernel) 0 rfl ?_
  refine jm_obj (idx := 1) (g := 361) K rfl (by decide +kernel) (by decide +kernel) ?_
  refine jm_aload (k := 0) K (by decide +kernel) 0 rfl ?_
  refine jm_new (idx := 7) (a := 0) (g1 := 362) (g2 := 38) (g3 := 17) (fs := [.int 0, .null, .null]) K (by decide +kernel) (by decide) (by decide +kernel) (by decide +kernel) (by decide +kernel) (fun k => [.int, .array .int, .array .int].getD k .int) (by decide +kernel) (by decide +kernel) 3 (by decide) (Nat.le_of_ble_eq_true rfl) (Nat.le_of_ble_eq_true rfl) (fun q1 => ?_)
  refine jm_w jW_app.symm ?_
  refine jm_dup K (by decide +kernel) ?_
  refine jm_call (idx := 9) (a := nX0_init) (g := 363) (cc := 2) (ss := 120) (As := []) (b := q1) K rfl (jc_Clip d l D cI cJ t (k := (ws.length + 0)) ((jW_new 0).trans rfl)) (by decide +kernel) (by decide) (by decide) (by decide +kernel) (by decide +kernel) (by decide +kernel) 0 rfl (by decide +kernel) (Or.inr (by decide +kernel)) (Nat.le_of_ble_eq_true rfl) (Nat.le_of_ble_eq_true rfl) (Nat.le_of_ble_eq_true rfl) rfl (fun ws2 hp => ?_)
  obtain ⟨q2, q3, rfl⟩ := hp
  refine jm_w (ws' := jW ws k (h0, .inr (9, [.int 0, .null, .null, .null])) [(q1, .inr (0, [.int 0, .ref q2, .ref q3])), (q2, jI cI 60), (q3, jI cI 60)]) (by rw [jW_jW 0]; rfl) ?_
  refine jm_put (idx := 10) (a := 9) (b := 1) (g := 368) (ty := .object "RatePlanner$Clip") (q0 := k) K hi (by decide +kernel) (by decide) (by decide) (by decide +kernel) (by decide +kernel) (by decide +kernel) rfl rfl (jW_get hkl) (Nat.le_of_ble_eq_true rfl) ?_
  refine jm_w (jW_set hkl).symm ?_
  refine jm_aload (k := 0) K (by decide +kernel) 0 rfl ?_
  refine jm_new (idx := 16) (a := 8) (g1 := 364) (g2 := 61) (g3 := 18) (fs := [.int 0, .int 0, .int 0, .int 0, .int 0, .int 0, .int 0, .int 0, .null, .null, .null, .null]) K (by decide +kernel) (by decide) (by decide +kernel) (by decide +kernel) (by decide +kernel) (fun k => [.int, .int, .int, .int, .int, .int, .int, .int, .array .int, .array .int, .array .int, .array .int].getD k .int) (by decide +kernel) (by decide +kernel) 12 (by decide) (Nat.le_of_ble_eq_true rfl) (Nat.le_of_ble_eq_true rfl) (fun q4 => ?_)
  refine jm_w jW_app.symm ?_
  refine jm_dup K (by decide +kernel) ?_
  refine jm_call (idx := 18) (a := nX8_init) (g := 365) (cc := 4) (ss := 78) (As := []) (b := q4) K rfl (jc_Settings d l D cI cJ t (k := (ws.length + 3)) ((jW_new 3).trans rfl)) (by decide +kernel) (by decide) (by decide) (by decide +kernel) (by decide +kernel) (by decide +kernel) 0 rfl (by decide +kernel) (Or.inl (by decide +kernel)) (Nat.le_of_ble_eq_true rfl) (Nat.le_of_ble_eq_true rfl) (Nat.le_of_ble_eq_true rfl) rfl (fun ws2 hp => ?_)
  obtain ⟨q5, q6, q7, q8, rfl⟩ := hp
  refine jm_w (ws' := jW ws k (h0, .inr (9, [.int 0, .ref q1, .null, .null])) [(q1, .inr (0, [.int 0, .ref q2, .ref q3])), (q2, jI cI 60), (q3, jI cI 60), (q4, .inr (8, [.int 12, .int 2, .int 10, .int 45, .int 60000, .int 90, .int 4000, .int 0, .ref q5, .ref q6, .ref q7, .ref q8])), (q5, .inl (cI, 60, .inl (jWt 60))), (q6, jI cI 6), (q7, jI cI 6), (q8, jI cI 6)]) (by rw [jW_jW 3]; rfl) ?_
  refine jm_put (idx := 19) (a := 9) (b := 2) (g := 369) (ty := .object "RatePlanner$Settings") (q0 := k) K hi (by decide +kernel) (by decide) (by decide) (by decide +kernel) (by decide +kernel) (by decide +kernel) rfl rfl (jW_get hkl) (Nat.le_of_ble_eq_true rfl) ?_
  refine jm_w (jW_set hkl).symm ?_
  refine jm_aload (k := 0) K (by decide +kernel) 0 rfl ?_
  refine jm_new (idx := 23) (a := 7) (g1 := 366) (g2 := 118) (g3 := 19) (fs := [.int 0, .null]) K (by decide +kernel) (by decide) (by decide +kernel) (by decide +kernel) (by decide +kernel) (fun k => [.boolean, .array .int].getD k .int) (by decide +kernel) (by decide +kernel) 2 (by decide) (Nat.le_of_ble_eq_true rfl) (Nat.le_of_ble_eq_true rfl) (fun q9 => ?_)
  refine jm_w jW_app.symm ?_
  refine jm_dup K (by decide +kernel) ?_
  refine jm_call (idx := 25) (a := nX7_init) (g := 367) (cc := 1) (ss := 60) (As := []) (b := q9) K rfl (jc_Plan d l D cI cJ t (k := (ws.length + 8)) ((jW_new 8).trans rfl)) (by decide +kernel) (by decide) (by decide) (by decide +kernel) (by decide +kernel) (by decide +kernel) 0 rfl (by decide +kernel) (Or.inr (by decide +kernel)) (Nat.le_of_ble_eq_true rfl) (Nat.le_of_ble_eq_true rfl) (Nat.le_of_ble_eq_true rfl) rfl (fun ws2 hp => ?_)
  obtain ⟨q10, rfl⟩ := hp
  refine jm_w (ws' := jW ws k (h0, .inr (9, [.int 0, .ref q1, .ref q4, .null])) [(q1, .inr (0, [.int 0, .ref q2, .ref q3])), (q2, jI cI 60), (q3, jI cI 60), (q4, .inr (8, [.int 12, .int 2, .int 10, .int 45, .int 60000, .int 90, .int 4000, .int 0, .ref q5, .ref q6, .ref q7, .ref q8])), (q5, .inl (cI, 60, .inl (jWt 60))), (q6, jI cI 6), (q7, jI cI 6), (q8, jI cI 6), (q9, .inr (7, [.int 0, .ref q10])), (q10, jI cI 60)]) (by rw [jW_jW 8]; rfl) ?_
  refine jm_put (idx := 26) (a := 9) (b := 3) (g := 370) (ty := .object "RatePlanner$Plan") (q0 := k) K hi (by decide +kernel) (by decide) (by decide) (by decide +kernel) (by decide +kernel) (by decide +kernel) rfl rfl (jW_get hkl) (Nat.le_of_ble_eq_true rfl) ?_
  refine jm_w (jW_set hkl).symm ?_
  exact jm_ret K hr hlk (by decide +kernel) rfl ⟨q1, q2, q3, q4, q5, q6, q7, q8, q9, q10, rfl⟩
end
section
/-! the planner's constructor -/
set_option maxHeartbeats 4000000 in
set_option maxRecDepth 100000 in
theorem jc_Planner (d : Nat) (l : Launch) (D : va_G) (cI cJ : ClassId) (t : Nat) {ws : va_W} {k h0 : Nat} (hk : ws[k]? = some (h0, .inr (11, [.null, .null, .null, .null, .null, .null, .null, .null, .null, .null, .null, .null]))) : jmC l D cI cJ t (d + 3) 62 2235 nX11_init [.ref h0] ws (fun ws2 => ∃ q1 q2 q3 q4 q5 q6 q7 q8 q9 q10 q11 q12 q13 q14 q15 q16 q17 q18 q19 q20 q21 q22 q23 q24 q25 q26 q27 q28 q29 q30 q31 q32 q33 q34 q35 q36 q37 q38 q39 q40 q41 q42 q43 q44 q45 q46 q47 q48 q49 q50 q51 q52 q53 q54 q55 q56 q57 q58 q59 q60 q61 q62 : Nat, ws2 = jW ws k (h0, .inr (11, [.ref q1, .ref q4, .ref q9, .ref q11, .ref q16, .ref q24, .ref q26, .ref q32, .ref q34, .ref q39, .ref q41, .ref q52])) [(q1, .inr (0, [.int 0, .ref q2, .ref q3])), (q2, jI cI 60), (q3, jI cI 60), (q4, .inr (8, [.int 12, .int 2, .int 10, .int 45, .int 60000, .int 90, .int 4000, .int 0, .ref q5, .ref q6, .ref q7, .ref q8])), (q5, .inl (cI, 60, .inl (jWt 60))), (q6, jI cI 6), (q7, jI cI 6), (q8, jI cI 6), (q9, .inr (7, [.int 0, .ref q10])), (q10, jI cI 60), (q11, .inr (10, [.int 0, .ref q12, .ref q15, .int 0, .int 0, .int 0])), (q12, .inr (0, [.int 0, .ref q13, .ref q14])), (q13, jI cI 60), (q14, jI cI 60), (q15, jI cI 100), (q16, .inr (3, [.int 0, .int 0, .int 0, .ref q17, .ref q18, .ref q19, .ref q20, .ref q21, .ref q22, .ref q23])), (q17, jI cI 60), (q18, jI cI 60), (q19, jI cI 60), (q20, jI cI 60), (q21, jI cI 60), (q22, jI cI 60), (q23, jI cI 60), (q24, .inr (6, [.ref q16, .ref q4, .ref q25])), (q25, .inl (cI, 52, .inl (jSt 52))), (q26, .inr (1, [.int 0, .ref q27, .ref q28, .ref q29, .ref q30, .ref q31, .ref q24, .int 0, .int 0, .int 0])), (q27, jI cI 60), (q28, jI cI 60), (q29, jI cI 60), (q30, jI cI 60), (q31, jI cI 60), (q32, .inr (4, [.ref q24, .ref q4, .ref q16, .ref q26, .ref q33])), (q33, jI cI 60), (q34, .inr (5, [.ref q24, .ref q4, .ref q16, .ref q26, .ref q35, .ref q36, .ref q37, .ref q38])), (q35, jI cI 60), (q36, jI cI 60), (q37, jJ cJ 60), (q38, jJ cJ 60), (q39, .inr (2, [.ref q4, .ref q16, .ref q26, .ref q32, .ref q40])), (q40, jI cI 60), (q41, .inr (9, [.int 0, .ref q42, .ref q45, .ref q50])), (q42, .inr (0, [.int 0, .ref q43, .ref q44])), (q43, jI cI 60), (q44, jI cI 60), (q45, .inr (8, [.int 12, .int 2, .int 10, .int 45, .int 60000, .int 90, .int 4000, .int 0, .ref q46, .ref q47, .ref q48, .ref q49])), (q46, .inl (cI, 60, .inl (jWt 60))), (q47, jI cI 6), (q48, jI cI 6), (q49, jI cI 6), (q50, .inr (7, [.int 0, .ref q51])), (q51, jI cI 60), (q52, .inr (9, [.int 0, .ref q53, .ref q56, .ref q61])), (q53, .inr (0, [.int 0, .ref q54, .ref q55])), (q54, jI cI 60), (q55, jI cI 60), (q56, .inr (8, [.int 12, .int 2, .int 10, .int 45, .int 60000, .int 90, .int 4000, .int 0, .ref q57, .ref q58, .ref q59, .ref q60])), (q57, .inl (cI, 60, .inl (jWt 60))), (q58, jI cI 6), (q59, jI cI 6), (q60, jI cI 6), (q61, .inr (7, [.int 0, .ref q62])), (q62, jI cI 60)]) := by
  refine jm_start (by decide) (by decide) (Nat.le_of_ble_eq_true rfl) (by decide +kernel) (by decide +kernel) (fun p e s m below meth c0 K hi hr hlk => ?_)
  have hkl : k < ws.length := (List.getElem?_eq_some_iff.mp hk).1
  refine jm_w (jW_0 hk) ?_
  refine jm_aload (k := 0) K (by decide +kernel) 0 rfl ?_
  refine jm_obj (idx := 1) (g := 34) K rfl (by decide +kernel) (by decide +kernel) ?_
  refine jm_aload (k := 0) K (by decide +kernel) 0 rfl ?_
  refine jm_new (idx := 7) (a := 0) (g1 := 37) (g2 := 38) (g3 := 17) (fs := [.int 0, .null, .null]) K (by decide +kernel) (by decide) (by decide +kernel) (by decide +kernel) (by decide +kernel) (fun k => [.int, .array .int, .array .int].getD k .int) (by decide +kernel) (by decide +kernel) 3 (by decide) (Nat.le_of_ble_eq_true rfl) (Nat.le_of_ble_eq_true rfl) (fun q1 => ?_)
  refine jm_w jW_app.symm ?_
  refine jm_dup K (by decide +kernel) ?_
  refine jm_call (idx := 9) (a := nX0_init) (g := 39) (cc := 2) (ss := 120) (As := []) (b := q1) K rfl (jc_Clip (d + 1) l D cI cJ t (k := (ws.length + 0)) ((jW_new 0).trans rfl)) (by decide +kernel) (by decide) (by decide) (by decide +kernel) (by decide +kernel) (by decide +kernel) 0 rfl (by decide +kernel) (Or.inr (by decide +kernel)) (Nat.le_of_ble_eq_true rfl) (Nat.le_of_ble_eq_true rfl) (Nat.le_of_ble_eq_true rfl) rfl (fun ws2 hp => ?_)
  obtain ⟨q2, q3, rfl⟩ := hp
  refine jm_w (ws' := jW ws k (h0, .inr (11, [.null, .null, .null, .null, .null, .null, .null, .null, .null, .null, .null, .null])) [(q1, .inr (0, [.int 0, .ref q2, .ref q3])), (q2, jI cI 60), (q3, jI cI 60)]) (by rw [jW_jW 0]; rfl) ?_
  refine jm_put (idx := 10) (a := 11) (b := 0) (g := 380) (ty := .object "RatePlanner$Clip") (q0 := k) K hi (by decide +kernel) (by decide) (by decide) (by decide +kernel) (by decide +kernel) (by decide +kernel) rfl rfl (jW_get hkl) (Nat.le_of_ble_eq_true rfl) ?_
  refine jm_w (jW_set hkl).symm ?_
  refine jm_aload (k := 0) K (by decide +kernel) 0 rfl ?_
  refine jm_new (idx := 16) (a := 8) (g1 := 60) (g2 := 61) (g3 := 18) (fs := [.int 0, .int 0, .int 0, .int 0, .int 0, .int 0, .int 0, .int 0, .null, .null, .null, .null]) K (by decide +kernel) (by decide) (by decide +kernel) (by decide +kernel) (by decide +kernel) (fun k => [.int, .int, .int, .int, .int, .int, .int, .int, .array .int, .array .int, .array .int, .array .int].getD k .int) (by decide +kernel) (by decide +kernel) 12 (by decide) (Nat.le_of_ble_eq_true rfl) (Nat.le_of_ble_eq_true rfl) (fun q4 => ?_)
  refine jm_w jW_app.symm ?_
  refine jm_dup K (by decide +kernel) ?_
  refine jm_call (idx := 18) (a := nX8_init) (g := 62) (cc := 4) (ss := 78) (As := []) (b := q4) K rfl (jc_Settings (d + 1) l D cI cJ t (k := (ws.length + 3)) ((jW_new 3).trans rfl)) (by decide +kernel) (by decide) (by decide) (by decide +kernel) (by decide +kernel) (by decide +kernel) 0 rfl (by decide +kernel) (Or.inl (by decide +kernel)) (Nat.le_of_ble_eq_true rfl) (Nat.le_of_ble_eq_true rfl) (Nat.le_of_ble_eq_true rfl) rfl (fun ws2 hp => ?_)
  obtain ⟨q5, q6, q7, q8, rfl⟩ := hp
  refine jm_w (ws' := jW ws k (h0, .inr (11, [.ref q1, .null, .null, .null, .null, .null, .null, .null, .null, .null, .null, .null])) [(q1, .inr (0, [.int 0, .ref q2, .ref q3])), (q2, jI cI 60), (q3, jI cI 60), (q4, .inr (8, [.int 12, .int 2, .int 10, .int 45, .int 60000, .int 90, .int 4000, .int 0, .ref q5, .ref q6, .ref q7, .ref q8])), (q5, .inl (cI, 60, .inl (jWt 60))), (q6, jI cI 6), (q7, jI cI 6), (q8, jI cI 6)]) (by rw [jW_jW 3]; rfl) ?_
  refine jm_put (idx := 19) (a := 11) (b := 1) (g := 381) (ty := .object "RatePlanner$Settings") (q0 := k) K hi (by decide +kernel) (by decide) (by decide) (by decide +kernel) (by decide +kernel) (by decide +kernel) rfl rfl (jW_get hkl) (Nat.le_of_ble_eq_true rfl) ?_
  refine jm_w (jW_set hkl).symm ?_
  refine jm_aload (k := 0) K (by decide +kernel) 0 rfl ?_
  refine jm_new (idx := 23) (a := 7) (g1 := 117) (g2 := 118) (g3 := 19) (fs := [.int 0, .null]) K (by decide +kernel) (by decide) (by decide +kernel) (by decide +kernel) (by decide +kernel) (fun k => [.boolean, .array .int].getD k .int) (by decide +kernel) (by decide +kernel) 2 (by decide) (Nat.le_of_ble_eq_true rfl) (Nat.le_of_ble_eq_true rfl) (fun q9 => ?_)
  refine jm_w jW_app.symm ?_
  refine jm_dup K (by decide +kernel) ?_
  refine jm_call (idx := 25) (a := nX7_init) (g := 119) (cc := 1) (ss := 60) (As := []) (b := q9) K rfl (jc_Plan (d + 1) l D cI cJ t (k := (ws.length + 8)) ((jW_new 8).trans rfl)) (by decide +kernel) (by decide) (by decide) (by decide +kernel) (by decide +kernel) (by decide +kernel) 0 rfl (by decide +kernel) (Or.inr (by decide +kernel)) (Nat.le_of_ble_eq_true rfl) (Nat.le_of_ble_eq_true rfl) (Nat.le_of_ble_eq_true rfl) rfl (fun ws2 hp => ?_)
  obtain ⟨q10, rfl⟩ := hp
  refine jm_w (ws' := jW ws k (h0, .inr (11, [.ref q1, .ref q4, .null, .null, .null, .null, .null, .null, .null, .null, .null, .null])) [(q1, .inr (0, [.int 0, .ref q2, .ref q3])), (q2, jI cI 60), (q3, jI cI 60), (q4, .inr (8, [.int 12, .int 2, .int 10, .int 45, .int 60000, .int 90, .int 4000, .int 0, .ref q5, .ref q6, .ref q7, .ref q8])), (q5, .inl (cI, 60, .inl (jWt 60))), (q6, jI cI 6), (q7, jI cI 6), (q8, jI cI 6), (q9, .inr (7, [.int 0, .ref q10])), (q10, jI cI 60)]) (by rw [jW_jW 8]; rfl) ?_
  refine jm_put (idx := 26) (a := 11) (b := 2) (g := 382) (ty := .object "RatePlanner$Plan") (q0 := k) K hi (by decide +kernel) (by decide) (by decide) (by decide +kernel) (by decide +kernel) (by decide +kernel) rfl rfl (jW_get hkl) (Nat.le_of_ble_eq_true rfl) ?_
  refine jm_w (jW_set hkl).symm ?_
  refine jm_aload (k := 0) K (by decide +kernel) 0 rfl ?_
  refine jm_new (idx := 30) (a := 10) (g1 := 131) (g2 := 132) (g3 := 20) (fs := [.int 0, .null, .null, .int 0, .int 0, .int 0]) K (by decide +kernel) (by decide) (by decide +kernel) (by decide +kernel) (by decide +kernel) (fun k => [.int, .object "RatePlanner$Clip", .array .int, .int, .int, .int].getD k .int) (by decide +kernel) (by decide +kernel) 6 (by decide) (Nat.le_of_ble_eq_true rfl) (Nat.le_of_ble_eq_true rfl) (fun q11 => ?_)
  refine jm_w jW_app.symm ?_
  refine jm_dup K (by decide +kernel) ?_
  refine jm_call (idx := 32) (a := nX10_init) (g := 133) (cc := 4) (ss := 223) (As := []) (b := q11) K rfl (jc_Text d l D cI cJ t (k := (ws.length + 10)) ((jW_new 10).trans rfl)) (by decide +kernel) (by decide) (by decide) (by decide +kernel) (by decide +kernel) (by decide +kernel) 0 rfl (by decide +kernel) (Or.inr (by decide +kernel)) (Nat.le_of_ble_eq_true rfl) (Nat.le_of_ble_eq_true rfl) (Nat.le_of_ble_eq_true rfl) rfl (fun ws2 hp => ?_)
  obtain ⟨q12, q13, q14, q15, rfl⟩ := hp
  refine jm_w (ws' := jW ws k (h0, .inr (11, [.ref q1, .ref q4, .ref q9, .null, .null, .null, .null, .null, .null, .null, .null, .null])) [(q1, .inr (0, [.int 0, .ref q2, .ref q3])), (q2, jI cI 60), (q3, jI cI 60), (q4, .inr (8, [.int 12, .int 2, .int 10, .int 45, .int 60000, .int 90, .int 4000, .int 0, .ref q5, .ref q6, .ref q7, .ref q8])), (q5, .inl (cI, 60, .inl (jWt 60))), (q6, jI cI 6), (q7, jI cI 6), (q8, jI cI 6), (q9, .inr (7, [.int 0, .ref q10])), (q10, jI cI 60), (q11, .inr (10, [.int 0, .ref q12, .ref q15, .int 0, .int 0, .int 0])), (q12, .inr (0, [.int 0, .ref q13, .ref q14])), (q13, jI cI 60), (q14, jI cI 60), (q15, jI cI 100)]) (by rw [jW_jW 10]; rfl) ?_
  refine jm_put (idx := 33) (a := 11) (b := 3) (g := 383) (ty := .object "RatePlanner$Text") (q0 := k) K hi (by decide +kernel) (by decide) (by decide) (by decide +kernel) (by decide +kernel) (by decide +kernel) rfl rfl (jW_get hkl) (Nat.le_of_ble_eq_true rfl) ?_
  refine jm_w (jW_set hkl).symm ?_
  refine jm_aload (k := 0) K (by decide +kernel) 0 rfl ?_
  refine jm_new (idx := 37) (a := 3) (g1 := 155) (g2 := 156) (g3 := 21) (fs := [.int 0, .int 0, .int 0, .null, .null, .null, .null, .null, .null, .null]) K (by decide +kernel) (by decide) (by decide +kernel) (by decide +kernel) (by decide +kernel) (fun k => [.int, .int, .int, .array .int, .array .int, .array .int, .array .int, .array .int, .array .int, .array .int].getD k .int) (by decide +kernel) (by decide +kernel) 10 (by decide) (Nat.le_of_ble_eq_true rfl) (Nat.le_of_ble_eq_true rfl) (fun q16 => ?_)
  refine jm_w jW_app.symm ?_
  refine jm_dup K (by decide +kernel) ?_
  refine jm_call (idx := 39) (a := nX3_init) (g := 157) (cc := 7) (ss := 420) (As := []) (b := q16) K rfl (jc_Layout (d + 1) l D cI cJ t (k := (ws.length + 15)) ((jW_new 15).trans rfl)) (by decide +kernel) (by decide) (by decide) (by decide +kernel) (by decide +kernel) (by decide +kernel) 0 rfl (by decide +kernel) (Or.inr (by decide +kernel)) (Nat.le_of_ble_eq_true rfl) (Nat.le_of_ble_eq_true rfl) (Nat.le_of_ble_eq_true rfl) rfl (fun ws2 hp => ?_)
  obtain ⟨q17, q18, q19, q20, q21, q22, q23, rfl⟩ := hp
  refine jm_w (ws' := jW ws k (h0, .inr (11, [.ref q1, .ref q4, .ref q9, .ref q11, .null, .null, .null, .null, .null, .null, .null, .null])) [(q1, .inr (0, [.int 0, .ref q2, .ref q3])), (q2, jI cI 60), (q3, jI cI 60), (q4, .inr (8, [.int 12, .int 2, .int 10, .int 45, .int 60000, .int 90, .int 4000, .int 0, .ref q5, .ref q6, .ref q7, .ref q8])), (q5, .inl (cI, 60, .inl (jWt 60))), (q6, jI cI 6), (q7, jI cI 6), (q8, jI cI 6), (q9, .inr (7, [.int 0, .ref q10])), (q10, jI cI 60), (q11, .inr (10, [.int 0, .ref q12, .ref q15, .int 0, .int 0, .int 0])), (q12, .inr (0, [.int 0, .ref q13, .ref q14])), (q13, jI cI 60), (q14, jI cI 60), (q15, jI cI 100), (q16, .inr (3, [.int 0, .int 0, .int 0, .ref q17, .ref q18, .ref q19, .ref q20, .ref q21, .ref q22, .ref q23])), (q17, jI cI 60), (q18, jI cI 60), (q19, jI cI 60), (q20, jI cI 60), (q21, jI cI 60), (q22, jI cI 60), (q23, jI cI 60)]) (by rw [jW_jW 15]; rfl) ?_
  refine jm_put (idx := 40) (a := 11) (b := 4) (g := 384) (ty := .object "RatePlanner$Layout") (q0 := k) K hi (by decide +kernel) (by decide) (by decide) (by decide +kernel) (by decide +kernel) (by decide +kernel) rfl rfl (jW_get hkl) (Nat.le_of_ble_eq_true rfl) ?_
  refine jm_w (jW_set hkl).symm ?_
  refine jm_aload (k := 0) K (by decide +kernel) 0 rfl ?_
  refine jm_new (idx := 44) (a := 6) (g1 := 208) (g2 := 209) (g3 := 22) (fs := [.null, .null, .null]) K (by decide +kernel) (by decide) (by decide +kernel) (by decide +kernel) (by decide +kernel) (fun k => [.object "RatePlanner$Layout", .object "RatePlanner$Settings", .array .int].getD k .int) (by decide +kernel) (by decide +kernel) 3 (by decide) (Nat.le_of_ble_eq_true rfl) (Nat.le_of_ble_eq_true rfl) (fun q24 => ?_)
  refine jm_w jW_app.symm ?_
  refine jm_dup K (by decide +kernel) ?_
  refine jm_aload (k := 0) K (by decide +kernel) 0 rfl ?_
  refine jm_get (idx := 40) (a := 11) (b := 4) (g := 384) (v := .ref q16) (q0 := k) K (by decide +kernel) (by decide) (by decide) (by decide +kernel) (jW_get hkl) rfl ?_
  refine jm_aload (k := 0) K (by decide +kernel) 0 rfl ?_
  refine jm_get (idx := 19) (a := 11) (b := 1) (g := 381) (v := .ref q4) (q0 := k) K (by decide +kernel) (by decide) (by decide) (by decide +kernel) (jW_get hkl) rfl ?_
  refine jm_call (idx := 46) (a := nX6_init) (g := 210) (cc := 1) (ss := 52) (As := [.ref q16, .ref q4]) (b := q24) K rfl (jc_Model (d + 1) l D cI cJ t (k := (ws.length + 23)) ((jW_new 23).trans rfl)) (by decide +kernel) (by decide) (by decide) (by decide +kernel) (by decide +kernel) (by decide +kernel) 2 rfl (by decide +kernel) (Or.inl (by decide +kernel)) (Nat.le_of_ble_eq_true rfl) (Nat.le_of_ble_eq_true rfl) (Nat.le_of_ble_eq_true rfl) rfl (fun ws2 hp => ?_)
  obtain ⟨q25, rfl⟩ := hp
  refine jm_w (ws' := jW ws k (h0, .inr (11, [.ref q1, .ref q4, .ref q9, .ref q11, .ref q16, .null, .null, .null, .null, .null, .null, .null])) [(q1, .inr (0, [.int 0, .ref q2, .ref q3])), (q2, jI cI 60), (q3, jI cI 60), (q4, .inr (8, [.int 12, .int 2, .int 10, .int 45, .int 60000, .int 90, .int 4000, .int 0, .ref q5, .ref q6, .ref q7, .ref q8])), (q5, .inl (cI, 60, .inl (jWt 60))), (q6, jI cI 6), (q7, jI cI 6), (q8, jI cI 6), (q9, .inr (7, [.int 0, .ref q10])), (q10, jI cI 60), (q11, .inr (10, [.int 0, .ref q12, .ref q15, .int 0, .int 0, .int 0])), (q12, .inr (0, [.int 0, .ref q13, .ref q14])), (q13, jI cI 60), (q14, jI cI 60), (q15, jI cI 100), (q16, .inr (3, [.int 0, .int 0, .int 0, .ref q17, .ref q18, .ref q19, .ref q20, .ref q21, .ref q22, .ref q23])), (q17, jI cI 60), (q18, jI cI 60), (q19, jI cI 60), (q20, jI cI 60), (q21, jI cI 60), (q22, jI cI 60), (q23, jI cI 60), (q24, .inr (6, [.ref q16, .ref q4, .ref q25])), (q25, .inl (cI, 52, .inl (jSt 52)))]) (by rw [jW_jW 23]; rfl) ?_
  refine jm_put (idx := 49) (a := 11) (b := 5) (g := 385) (ty := .object "RatePlanner$Model") (q0 := k) K hi (by decide +kernel) (by decide) (by decide) (by decide +kernel) (by decide +kernel) (by decide +kernel) rfl rfl (jW_get hkl) (Nat.le_of_ble_eq_true rfl) ?_
  refine jm_w (jW_set hkl).symm ?_
  refine jm_aload (k := 0) K (by decide +kernel) 0 rfl ?_
  refine jm_new (idx := 53) (a := 1) (g1 := 237) (g2 := 238) (g3 := 23) (fs := [.int 0, .null, .null, .null, .null, .null, .null, .int 0, .int 0, .int 0]) K (by decide +kernel) (by decide) (by decide +kernel) (by decide +kernel) (by decide +kernel) (fun k => [.int, .array .int, .array .int, .array .int, .array .int, .array .int, .object "RatePlanner$Model", .int, .int, .int].getD k .int) (by decide +kernel) (by decide +kernel) 10 (by decide) (Nat.le_of_ble_eq_true rfl) (Nat.le_of_ble_eq_true rfl) (fun q26 => ?_)
  refine jm_w jW_app.symm ?_
  refine jm_dup K (by decide +kernel) ?_
  refine jm_aload (k := 0) K (by decide +kernel) 0 rfl ?_
  refine jm_get (idx := 49) (a := 11) (b := 5) (g := 385) (v := .ref q24) (q0 := k) K (by decide +kernel) (by decide) (by decide) (by decide +kernel) (jW_get hkl) rfl ?_
  refine jm_call (idx := 55) (a := nX1_init) (g := 239) (cc := 5) (ss := 300) (As := [.ref q24]) (b := q26) K rfl (jc_Course (d + 1) l D cI cJ t (k := (ws.length + 25)) ((jW_new 25).trans rfl)) (by decide +kernel) (by decide) (by decide) (by decide +kernel) (by decide +kernel) (by decide +kernel) 1 rfl (by decide +kernel) (Or.inl (by decide +kernel)) (Nat.le_of_ble_eq_true rfl) (Nat.le_of_ble_eq_true rfl) (Nat.le_of_ble_eq_true rfl) rfl (fun ws2 hp => ?_)
  obtain ⟨q27, q28, q29, q30, q31, rfl⟩ := hp
  refine jm_w (ws' := jW ws k (h0, .inr (11, [.ref q1, .ref q4, .ref q9, .ref q11, .ref q16, .ref q24, .null, .null, .null, .null, .null, .null])) [(q1, .inr (0, [.int 0, .ref q2, .ref q3])), (q2, jI cI 60), (q3, jI cI 60), (q4, .inr (8, [.int 12, .int 2, .int 10, .int 45, .int 60000, .int 90, .int 4000, .int 0, .ref q5, .ref q6, .ref q7, .ref q8])), (q5, .inl (cI, 60, .inl (jWt 60))), (q6, jI cI 6), (q7, jI cI 6), (q8, jI cI 6), (q9, .inr (7, [.int 0, .ref q10])), (q10, jI cI 60), (q11, .inr (10, [.int 0, .ref q12, .ref q15, .int 0, .int 0, .int 0])), (q12, .inr (0, [.int 0, .ref q13, .ref q14])), (q13, jI cI 60), (q14, jI cI 60), (q15, jI cI 100), (q16, .inr (3, [.int 0, .int 0, .int 0, .ref q17, .ref q18, .ref q19, .ref q20, .ref q21, .ref q22, .ref q23])), (q17, jI cI 60), (q18, jI cI 60), (q19, jI cI 60), (q20, jI cI 60), (q21, jI cI 60), (q22, jI cI 60), (q23, jI cI 60), (q24, .inr (6, [.ref q16, .ref q4, .ref q25])), (q25, .inl (cI, 52, .inl (jSt 52))), (q26, .inr (1, [.int 0, .ref q27, .ref q28, .ref q29, .ref q30, .ref q31, .ref q24, .int 0, .int 0, .int 0])), (q27, jI cI 60), (q28, jI cI 60), (q29, jI cI 60), (q30, jI cI 60), (q31, jI cI 60)]) (by rw [jW_jW 25]; rfl) ?_
  refine jm_put (idx := 58) (a := 11) (b := 6) (g := 386) (ty := .object "RatePlanner$Course") (q0 := k) K hi (by decide +kernel) (by decide) (by decide) (by decide +kernel) (by decide +kernel) (by decide +kernel) rfl rfl (jW_get hkl) (Nat.le_of_ble_eq_true rfl) ?_
  refine jm_w (jW_set hkl).symm ?_
  refine jm_aload (k := 0) K (by decide +kernel) 0 rfl ?_
  refine jm_new (idx := 62) (a := 4) (g1 := 280) (g2 := 281) (g3 := 24) (fs := [.null, .null, .null, .null, .null]) K (by decide +kernel) (by decide) (by decide +kernel) (by decide +kernel) (by decide +kernel) (fun k => [.object "RatePlanner$Model", .object "RatePlanner$Settings", .object "RatePlanner$Layout", .object "RatePlanner$Course", .array .int].getD k .int) (by decide +kernel) (by decide +kernel) 5 (by decide) (Nat.le_of_ble_eq_true rfl) (Nat.le_of_ble_eq_true rfl) (fun q32 => ?_)
  refine jm_w jW_app.symm ?_
  refine jm_dup K (by decide +kernel) ?_
  refine jm_aload (k := 0) K (by decide +kernel) 0 rfl ?_
  refine jm_get (idx := 49) (a := 11) (b := 5) (g := 385) (v := .ref q24) (q0 := k) K (by decide +kernel) (by decide) (by decide) (by decide +kernel) (jW_get hkl) rfl ?_
  refine jm_aload (k := 0) K (by decide +kernel) 0 rfl ?_
  refine jm_get (idx := 58) (a := 11) (b := 6) (g := 386) (v := .ref q26) (q0 := k) K (by decide +kernel) (by decide) (by decide) (by decide +kernel) (jW_get hkl) rfl ?_
  refine jm_call (idx := 64) (a := nX4_init) (g := 282) (cc := 1) (ss := 60) (As := [.ref q24, .ref q26]) (b := q32) K rfl (jc_Maker (d + 1) l D cI cJ t (k := (ws.length + 31)) ((jW_new 31).trans rfl) (a1_p := (ws.length + 23)) (by rw [jW_len]; exact Nat.add_lt_add_left (Nat.le_of_ble_eq_true rfl) _) (by omega) ((jW_new 23).trans rfl)) (by decide +kernel) (by decide) (by decide) (by decide +kernel) (by decide +kernel) (by decide +kernel) 2 rfl (by decide +kernel) (Or.inl (by decide +kernel)) (Nat.le_of_ble_eq_true rfl) (Nat.le_of_ble_eq_true rfl) (Nat.le_of_ble_eq_true rfl) rfl (fun ws2 hp => ?_)
  obtain ⟨q33, rfl⟩ := hp
  refine jm_w (ws' := jW ws k (h0, .inr (11, [.ref q1, .ref q4, .ref q9, .ref q11, .ref q16, .ref q24, .ref q26, .null, .null, .null, .null, .null])) [(q1, .inr (0, [.int 0, .ref q2, .ref q3])), (q2, jI cI 60), (q3, jI cI 60), (q4, .inr (8, [.int 12, .int 2, .int 10, .int 45, .int 60000, .int 90, .int 4000, .int 0, .ref q5, .ref q6, .ref q7, .ref q8])), (q5, .inl (cI, 60, .inl (jWt 60))), (q6, jI cI 6), (q7, jI cI 6), (q8, jI cI 6), (q9, .inr (7, [.int 0, .ref q10])), (q10, jI cI 60), (q11, .inr (10, [.int 0, .ref q12, .ref q15, .int 0, .int 0, .int 0])), (q12, .inr (0, [.int 0, .ref q13, .ref q14])), (q13, jI cI 60), (q14, jI cI 60), (q15, jI cI 100), (q16, .inr (3, [.int 0, .int 0, .int 0, .ref q17, .ref q18, .ref q19, .ref q20, .ref q21, .ref q22, .ref q23])), (q17, jI cI 60), (q18, jI cI 60), (q19, jI cI 60), (q20, jI cI 60), (q21, jI cI 60), (q22, jI cI 60), (q23, jI cI 60), (q24, .inr (6, [.ref q16, .ref q4, .ref q25])), (q25, .inl (cI, 52, .inl (jSt 52))), (q26, .inr (1, [.int 0, .ref q27, .ref q28, .ref q29, .ref q30, .ref q31, .ref q24, .int 0, .int 0, .int 0])), (q27, jI cI 60), (q28, jI cI 60), (q29, jI cI 60), (q30, jI cI 60), (q31, jI cI 60), (q32, .inr (4, [.ref q24, .ref q4, .ref q16, .ref q26, .ref q33])), (q33, jI cI 60)]) (by rw [jW_jW 31]; rfl) ?_
  refine jm_put (idx := 67) (a := 11) (b := 7) (g := 387) (ty := .object "RatePlanner$Maker") (q0 := k) K hi (by decide +kernel) (by decide) (by decide) (by decide +kernel) (by decide +kernel) (by decide +kernel) rfl rfl (jW_get hkl) (Nat.le_of_ble_eq_true rfl) ?_
  refine jm_w (jW_set hkl).symm ?_
  refine jm_aload (k := 0) K (by decide +kernel) 0 rfl ?_
  refine jm_new (idx := 71) (a := 5) (g1 := 302) (g2 := 303) (g3 := 25) (fs := [.null, .null, .null, .null, .null, .null, .null, .null]) K (by decide +kernel) (by decide) (by decide +kernel) (by decide +kernel) (by decide +kernel) (fun k => [.object "RatePlanner$Model", .object "RatePlanner$Settings", .object "RatePlanner$Layout", .object "RatePlanner$Course", .array .int, .array .int, .array .long, .array .long].getD k .int) (by decide +kernel) (by decide +kernel) 8 (by decide) (Nat.le_of_ble_eq_true rfl) (Nat.le_of_ble_eq_true rfl) (fun q34 => ?_)
  refine jm_w jW_app.symm ?_
  refine jm_dup K (by decide +kernel) ?_
  refine jm_aload (k := 0) K (by decide +kernel) 0 rfl ?_
  refine jm_get (idx := 49) (a := 11) (b := 5) (g := 385) (v := .ref q24) (q0 := k) K (by decide +kernel) (by decide) (by decide) (by decide +kernel) (jW_get hkl) rfl ?_
  refine jm_aload (k := 0) K (by decide +kernel) 0 rfl ?_
  refine jm_get (idx := 58) (a := 11) (b := 6) (g := 386) (v := .ref q26) (q0 := k) K (by decide +kernel) (by decide) (by decide) (by decide +kernel) (jW_get hkl) rfl ?_
  refine jm_call (idx := 73) (a := nX5_init) (g := 304) (cc := 4) (ss := 240) (As := [.ref q24, .ref q26]) (b := q34) K rfl (jc_Mender (d + 1) l D cI cJ t (k := (ws.length + 33)) ((jW_new 33).trans rfl) (a1_p := (ws.length + 23)) (by rw [jW_len]; exact Nat.add_lt_add_left (Nat.le_of_ble_eq_true rfl) _) (by omega) ((jW_new 23).trans rfl)) (by decide +kernel) (by decide) (by decide) (by decide +kernel) (by decide +kernel) (by decide +kernel) 2 rfl (by decide +kernel) (Or.inl (by decide +kernel)) (Nat.le_of_ble_eq_true rfl) (Nat.le_of_ble_eq_true rfl) (Nat.le_of_ble_eq_true rfl) rfl (fun ws2 hp => ?_)
  obtain ⟨q35, q36, q37, q38, rfl⟩ := hp
  refine jm_w (ws' := jW ws k (h0, .inr (11, [.ref q1, .ref q4, .ref q9, .ref q11, .ref q16, .ref q24, .ref q26, .ref q32, .null, .null, .null, .null])) [(q1, .inr (0, [.int 0, .ref q2, .ref q3])), (q2, jI cI 60), (q3, jI cI 60), (q4, .inr (8, [.int 12, .int 2, .int 10, .int 45, .int 60000, .int 90, .int 4000, .int 0, .ref q5, .ref q6, .ref q7, .ref q8])), (q5, .inl (cI, 60, .inl (jWt 60))), (q6, jI cI 6), (q7, jI cI 6), (q8, jI cI 6), (q9, .inr (7, [.int 0, .ref q10])), (q10, jI cI 60), (q11, .inr (10, [.int 0, .ref q12, .ref q15, .int 0, .int 0, .int 0])), (q12, .inr (0, [.int 0, .ref q13, .ref q14])), (q13, jI cI 60), (q14, jI cI 60), (q15, jI cI 100), (q16, .inr (3, [.int 0, .int 0, .int 0, .ref q17, .ref q18, .ref q19, .ref q20, .ref q21, .ref q22, .ref q23])), (q17, jI cI 60), (q18, jI cI 60), (q19, jI cI 60), (q20, jI cI 60), (q21, jI cI 60), (q22, jI cI 60), (q23, jI cI 60), (q24, .inr (6, [.ref q16, .ref q4, .ref q25])), (q25, .inl (cI, 52, .inl (jSt 52))), (q26, .inr (1, [.int 0, .ref q27, .ref q28, .ref q29, .ref q30, .ref q31, .ref q24, .int 0, .int 0, .int 0])), (q27, jI cI 60), (q28, jI cI 60), (q29, jI cI 60), (q30, jI cI 60), (q31, jI cI 60), (q32, .inr (4, [.ref q24, .ref q4, .ref q16, .ref q26, .ref q33])), (q33, jI cI 60), (q34, .inr (5, [.ref q24, .ref q4, .ref q16, .ref q26, .ref q35, .ref q36, .ref q37, .ref q38])), (q35, jI cI 60), (q36, jI cI 60), (q37, jJ cJ 60), (q38, jJ cJ 60)]) (by rw [jW_jW 33]; rfl) ?_
  refine jm_put (idx := 74) (a := 11) (b := 8) (g := 388) (ty := .object "RatePlanner$Mender") (q0 := k) K hi (by decide +kernel) (by decide) (by decide) (by decide +kernel) (by decide +kernel) (by decide +kernel) rfl rfl (jW_get hkl) (Nat.le_of_ble_eq_true rfl) ?_
  refine jm_w (jW_set hkl).symm ?_
  refine jm_aload (k := 0) K (by decide +kernel) 0 rfl ?_
  refine jm_new (idx := 78) (a := 2) (g1 := 334) (g2 := 335) (g3 := 26) (fs := [.null, .null, .null, .null, .null]) K (by decide +kernel) (by decide) (by decide +kernel) (by decide +kernel) (by decide +kernel) (fun k => [.object "RatePlanner$Settings", .object "RatePlanner$Layout", .object "RatePlanner$Course", .object "RatePlanner$Maker", .array .int].getD k .int) (by decide +kernel) (by decide +kernel) 5 (by decide) (Nat.le_of_ble_eq_true rfl) (Nat.le_of_ble_eq_true rfl) (fun q39 => ?_)
  refine jm_w jW_app.symm ?_
  refine jm_dup K (by decide +kernel) ?_
  refine jm_aload (k := 0) K (by decide +kernel) 0 rfl ?_
  refine jm_get (idx := 49) (a := 11) (b := 5) (g := 385) (v := .ref q24) (q0 := k) K (by decide +kernel) (by decide) (by decide) (by decide +kernel) (jW_get hkl) rfl ?_
  refine jm_aload (k := 0) K (by decide +kernel) 0 rfl ?_
  refine jm_get (idx := 58) (a := 11) (b := 6) (g := 386) (v := .ref q26) (q0 := k) K (by decide +kernel) (by decide) (by decide) (by decide +kernel) (jW_get hkl) rfl ?_
  refine jm_aload (k := 0) K (by decide +kernel) 0 rfl ?_
  refine jm_get (idx := 67) (a := 11) (b := 7) (g := 387) (v := .ref q32) (q0 := k) K (by decide +kernel) (by decide) (by decide) (by decide +kernel) (jW_get hkl) rfl ?_
  refine jm_call (idx := 80) (a := nX2_init) (g := 336) (cc := 1) (ss := 60) (As := [.ref q24, .ref q26, .ref q32]) (b := q39) K rfl (jc_Finder (d + 1) l D cI cJ t (k := (ws.length + 38)) ((jW_new 38).trans rfl) (a1_p := (ws.length + 23)) (by rw [jW_len]; exact Nat.add_lt_add_left (Nat.le_of_ble_eq_true rfl) _) (by omega) ((jW_new 23).trans rfl)) (by decide +kernel) (by decide) (by decide) (by decide +kernel) (by decide +kernel) (by decide +kernel) 3 rfl (by decide +kernel) (Or.inl (by decide +kernel)) (Nat.le_of_ble_eq_true rfl) (Nat.le_of_ble_eq_true rfl) (Nat.le_of_ble_eq_true rfl) rfl (fun ws2 hp => ?_)
  obtain ⟨q40, rfl⟩ := hp
  refine jm_w (ws' := jW ws k (h0, .inr (11, [.ref q1, .ref q4, .ref q9, .ref q11, .ref q16, .ref q24, .ref q26, .ref q32, .ref q34, .null, .null, .null])) [(q1, .inr (0, [.int 0, .ref q2, .ref q3])), (q2, jI cI 60), (q3, jI cI 60), (q4, .inr (8, [.int 12, .int 2, .int 10, .int 45, .int 60000, .int 90, .int 4000, .int 0, .ref q5, .ref q6, .ref q7, .ref q8])), (q5, .inl (cI, 60, .inl (jWt 60))), (q6, jI cI 6), (q7, jI cI 6), (q8, jI cI 6), (q9, .inr (7, [.int 0, .ref q10])), (q10, jI cI 60), (q11, .inr (10, [.int 0, .ref q12, .ref q15, .int 0, .int 0, .int 0])), (q12, .inr (0, [.int 0, .ref q13, .ref q14])), (q13, jI cI 60), (q14, jI cI 60), (q15, jI cI 100), (q16, .inr (3, [.int 0, .int 0, .int 0, .ref q17, .ref q18, .ref q19, .ref q20, .ref q21, .ref q22, .ref q23])), (q17, jI cI 60), (q18, jI cI 60), (q19, jI cI 60), (q20, jI cI 60), (q21, jI cI 60), (q22, jI cI 60), (q23, jI cI 60), (q24, .inr (6, [.ref q16, .ref q4, .ref q25])), (q25, .inl (cI, 52, .inl (jSt 52))), (q26, .inr (1, [.int 0, .ref q27, .ref q28, .ref q29, .ref q30, .ref q31, .ref q24, .int 0, .int 0, .int 0])), (q27, jI cI 60), (q28, jI cI 60), (q29, jI cI 60), (q30, jI cI 60), (q31, jI cI 60), (q32, .inr (4, [.ref q24, .ref q4, .ref q16, .ref q26, .ref q33])), (q33, jI cI 60), (q34, .inr (5, [.ref q24, .ref q4, .ref q16, .ref q26, .ref q35, .ref q36, .ref q37, .ref q38])), (q35, jI cI 60), (q36, jI cI 60), (q37, jJ cJ 60), (q38, jJ cJ 60), (q39, .inr (2, [.ref q4, .ref q16, .ref q26, .ref q32, .ref q40])), (q40, jI cI 60)]) (by rw [jW_jW 38]; rfl) ?_
  refine jm_put (idx := 83) (a := 11) (b := 9) (g := 389) (ty := .object "RatePlanner$Finder") (q0 := k) K hi (by decide +kernel) (by decide) (by decide) (by decide +kernel) (by decide +kernel) (by decide +kernel) rfl rfl (jW_get hkl) (Nat.le_of_ble_eq_true rfl) ?_
  refine jm_w (jW_set hkl).symm ?_
  refine jm_aload (k := 0) K (by decide +kernel) 0 rfl ?_
  refine jm_new (idx := 87) (a := 9) (g1 := 356) (g2 := 357) (g3 := 27) (fs := [.int 0, .null, .null, .null]) K (by decide +kernel) (by decide) (by decide +kernel) (by decide +kernel) (by decide +kernel) (fun k => [.boolean, .object "RatePlanner$Clip", .object "RatePlanner$Settings", .object "RatePlanner$Plan"].getD k .int) (by decide +kernel) (by decide +kernel) 4 (by decide) (Nat.le_of_ble_eq_true rfl) (Nat.le_of_ble_eq_true rfl) (fun q41 => ?_)
  refine jm_w jW_app.symm ?_
  refine jm_dup K (by decide +kernel) ?_
  refine jm_call (idx := 89) (a := nX9_init) (g := 358) (cc := 10) (ss := 275) (As := []) (b := q41) K rfl (jc_Slot d l D cI cJ t (k := (ws.length + 40)) ((jW_new 40).trans rfl)) (by decide +kernel) (by decide) (by decide) (by decide +kernel) (by decide +kernel) (by decide +kernel) 0 rfl (by decide +kernel) (Or.inr (by decide +kernel)) (Nat.le_of_ble_eq_true rfl) (Nat.le_of_ble_eq_true rfl) (Nat.le_of_ble_eq_true rfl) rfl (fun ws2 hp => ?_)
  obtain ⟨q42, q43, q44, q45, q46, q47, q48, q49, q50, q51, rfl⟩ := hp
  refine jm_w (ws' := jW ws k (h0, .inr (11, [.ref q1, .ref q4, .ref q9, .ref q11, .ref q16, .ref q24, .ref q26, .ref q32, .ref q34, .ref q39, .null, .null])) [(q1, .inr (0, [.int 0, .ref q2, .ref q3])), (q2, jI cI 60), (q3, jI cI 60), (q4, .inr (8, [.int 12, .int 2, .int 10, .int 45, .int 60000, .int 90, .int 4000, .int 0, .ref q5, .ref q6, .ref q7, .ref q8])), (q5, .inl (cI, 60, .inl (jWt 60))), (q6, jI cI 6), (q7, jI cI 6), (q8, jI cI 6), (q9, .inr (7, [.int 0, .ref q10])), (q10, jI cI 60), (q11, .inr (10, [.int 0, .ref q12, .ref q15, .int 0, .int 0, .int 0])), (q12, .inr (0, [.int 0, .ref q13, .ref q14])), (q13, jI cI 60), (q14, jI cI 60), (q15, jI cI 100), (q16, .inr (3, [.int 0, .int 0, .int 0, .ref q17, .ref q18, .ref q19, .ref q20, .ref q21, .ref q22, .ref q23])), (q17, jI cI 60), (q18, jI cI 60), (q19, jI cI 60), (q20, jI cI 60), (q21, jI cI 60), (q22, jI cI 60), (q23, jI cI 60), (q24, .inr (6, [.ref q16, .ref q4, .ref q25])), (q25, .inl (cI, 52, .inl (jSt 52))), (q26, .inr (1, [.int 0, .ref q27, .ref q28, .ref q29, .ref q30, .ref q31, .ref q24, .int 0, .int 0, .int 0])), (q27, jI cI 60), (q28, jI cI 60), (q29, jI cI 60), (q30, jI cI 60), (q31, jI cI 60), (q32, .inr (4, [.ref q24, .ref q4, .ref q16, .ref q26, .ref q33])), (q33, jI cI 60), (q34, .inr (5, [.ref q24, .ref q4, .ref q16, .ref q26, .ref q35, .ref q36, .ref q37, .ref q38])), (q35, jI cI 60), (q36, jI cI 60), (q37, jJ cJ 60), (q38, jJ cJ 60), (q39, .inr (2, [.ref q4, .ref q16, .ref q26, .ref q32, .ref q40])), (q40, jI cI 60), (q41, .inr (9, [.int 0, .ref q42, .ref q45, .ref q50])), (q42, .inr (0, [.int 0, .ref q43, .ref q44])), (q43, jI cI 60), (q44, jI cI 60), (q45, .inr (8, [.int 12, .int 2, .int 10, .int 45, .int 60000, .int 90, .int 4000, .int 0, .ref q46, .ref q47, .ref q48, .ref q49])), (q46, .inl (cI, 60, .inl (jWt 60))), (q47, jI cI 6), (q48, jI cI 6), (q49, jI cI 6), (q50, .inr (7, [.int 0, .ref q51])), (q51, jI cI 60)]) (by rw [jW_jW 40]; rfl) ?_
  refine jm_put (idx := 90) (a := 11) (b := 10) (g := 390) (ty := .object "RatePlanner$Slot") (q0 := k) K hi (by decide +kernel) (by decide) (by decide) (by decide +kernel) (by decide +kernel) (by decide +kernel) rfl rfl (jW_get hkl) (Nat.le_of_ble_eq_true rfl) ?_
  refine jm_w (jW_set hkl).symm ?_
  refine jm_aload (k := 0) K (by decide +kernel) 0 rfl ?_
  refine jm_new (idx := 87) (a := 9) (g1 := 356) (g2 := 357) (g3 := 27) (fs := [.int 0, .null, .null, .null]) K (by decide +kernel) (by decide) (by decide +kernel) (by decide +kernel) (by decide +kernel) (fun k => [.boolean, .object "RatePlanner$Clip", .object "RatePlanner$Settings", .object "RatePlanner$Plan"].getD k .int) (by decide +kernel) (by decide +kernel) 4 (by decide) (Nat.le_of_ble_eq_true rfl) (Nat.le_of_ble_eq_true rfl) (fun q52 => ?_)
  refine jm_w jW_app.symm ?_
  refine jm_dup K (by decide +kernel) ?_
  refine jm_call (idx := 89) (a := nX9_init) (g := 358) (cc := 10) (ss := 275) (As := []) (b := q52) K rfl (jc_Slot d l D cI cJ t (k := (ws.length + 51)) ((jW_new 51).trans rfl)) (by decide +kernel) (by decide) (by decide) (by decide +kernel) (by decide +kernel) (by decide +kernel) 0 rfl (by decide +kernel) (Or.inr (by decide +kernel)) (Nat.le_of_ble_eq_true rfl) (Nat.le_of_ble_eq_true rfl) (Nat.le_of_ble_eq_true rfl) rfl (fun ws2 hp => ?_)
  obtain ⟨q53, q54, q55, q56, q57, q58, q59, q60, q61, q62, rfl⟩ := hp
  refine jm_w (ws' := jW ws k (h0, .inr (11, [.ref q1, .ref q4, .ref q9, .ref q11, .ref q16, .ref q24, .ref q26, .ref q32, .ref q34, .ref q39, .ref q41, .null])) [(q1, .inr (0, [.int 0, .ref q2, .ref q3])), (q2, jI cI 60), (q3, jI cI 60), (q4, .inr (8, [.int 12, .int 2, .int 10, .int 45, .int 60000, .int 90, .int 4000, .int 0, .ref q5, .ref q6, .ref q7, .ref q8])), (q5, .inl (cI, 60, .inl (jWt 60))), (q6, jI cI 6), (q7, jI cI 6), (q8, jI cI 6), (q9, .inr (7, [.int 0, .ref q10])), (q10, jI cI 60), (q11, .inr (10, [.int 0, .ref q12, .ref q15, .int 0, .int 0, .int 0])), (q12, .inr (0, [.int 0, .ref q13, .ref q14])), (q13, jI cI 60), (q14, jI cI 60), (q15, jI cI 100), (q16, .inr (3, [.int 0, .int 0, .int 0, .ref q17, .ref q18, .ref q19, .ref q20, .ref q21, .ref q22, .ref q23])), (q17, jI cI 60), (q18, jI cI 60), (q19, jI cI 60), (q20, jI cI 60), (q21, jI cI 60), (q22, jI cI 60), (q23, jI cI 60), (q24, .inr (6, [.ref q16, .ref q4, .ref q25])), (q25, .inl (cI, 52, .inl (jSt 52))), (q26, .inr (1, [.int 0, .ref q27, .ref q28, .ref q29, .ref q30, .ref q31, .ref q24, .int 0, .int 0, .int 0])), (q27, jI cI 60), (q28, jI cI 60), (q29, jI cI 60), (q30, jI cI 60), (q31, jI cI 60), (q32, .inr (4, [.ref q24, .ref q4, .ref q16, .ref q26, .ref q33])), (q33, jI cI 60), (q34, .inr (5, [.ref q24, .ref q4, .ref q16, .ref q26, .ref q35, .ref q36, .ref q37, .ref q38])), (q35, jI cI 60), (q36, jI cI 60), (q37, jJ cJ 60), (q38, jJ cJ 60), (q39, .inr (2, [.ref q4, .ref q16, .ref q26, .ref q32, .ref q40])), (q40, jI cI 60), (q41, .inr (9, [.int 0, .ref q42, .ref q45, .ref q50])), (q42, .inr (0, [.int 0, .ref q43, .ref q44])), (q43, jI cI 60), (q44, jI cI 60), (q45, .inr (8, [.int 12, .int 2, .int 10, .int 45, .int 60000, .int 90, .int 4000, .int 0, .ref q46, .ref q47, .ref q48, .ref q49])), (q46, .inl (cI, 60, .inl (jWt 60))), (q47, jI cI 6), (q48, jI cI 6), (q49, jI cI 6), (q50, .inr (7, [.int 0, .ref q51])), (q51, jI cI 60), (q52, .inr (9, [.int 0, .ref q53, .ref q56, .ref q61])), (q53, .inr (0, [.int 0, .ref q54, .ref q55])), (q54, jI cI 60), (q55, jI cI 60), (q56, .inr (8, [.int 12, .int 2, .int 10, .int 45, .int 60000, .int 90, .int 4000, .int 0, .ref q57, .ref q58, .ref q59, .ref q60])), (q57, .inl (cI, 60, .inl (jWt 60))), (q58, jI cI 6), (q59, jI cI 6), (q60, jI cI 6), (q61, .inr (7, [.int 0, .ref q62])), (q62, jI cI 60)]) (by rw [jW_jW 51]; rfl) ?_
  refine jm_put (idx := 94) (a := 11) (b := 11) (g := 391) (ty := .object "RatePlanner$Slot") (q0 := k) K hi (by decide +kernel) (by decide) (by decide) (by decide +kernel) (by decide +kernel) (by decide +kernel) rfl rfl (jW_get hkl) (Nat.le_of_ble_eq_true rfl) ?_
  refine jm_w (jW_set hkl).symm ?_
  exact jm_ret K hr hlk (by decide +kernel) rfl ⟨q1, q2, q3, q4, q5, q6, q7, q8, q9, q10, q11, q12, q13, q14, q15, q16, q17, q18, q19, q20, q21, q22, q23, q24, q25, q26, q27, q28, q29, q30, q31, q32, q33, q34, q35, q36, q37, q38, q39, q40, q41, q42, q43, q44, q45, q46, q47, q48, q49, q50, q51, q52, q53, q54, q55, q56, q57, q58, q59, q60, q61, q62, rfl⟩
end
section
/-! the first world: printed by wip/p40/genend.py -/
def jF4 (j : Nat) : Int32 := [12, 2, 10, 45, 60000, 90, 4000].getD j 0
def jZ (_ : Nat) : Int32 := 0
def jSg : zS := (fun r => if r = 4 ∨ r = 45 ∨ r = 56 then jF4 else if r = 5 ∨ r = 46 ∨ r = 57 then jWt 60 else if r = 25 then jSt 52 else jZ, fun _ _ => 0)
def jA0 : mA := (0, (fun _ => 0), (fun _ => 0), (fun j => [12, 2, 10, 45, 60000, 90, 4000].getD j 0), (fun _ => 4), (fun _ => 0), (fun _ => 0), (fun _ => 0), false, fun _ => 0)
def jV0 : mV := (jA0, (false, jA0), (false, jA0), 0, fun _ => 0)
theorem jA0_b : aB jA0 := ⟨⟨by decide, fun i hi => absurd hi (Nat.not_lt_zero i)⟩, by decide, by decide, by decide, by decide, by decide, by decide, by decide, fun j _ => ⟨(by decide : 1 ≤ 4), (by decide : 4 ≤ 8)⟩, fun j hj => absurd hj (Nat.not_lt_zero j), fun i _ => Nat.zero_le 51, fun h => absurd (show (false : Bool) = true from h) (by decide)⟩
theorem jV0_b : vB jV0 := ⟨jA0_b, fun h => absurd (show (false : Bool) = true from h) (by decide), fun h => absurd (show (false : Bool) = true from h) (by decide), Nat.zero_le 100, fun i hi => absurd hi (Nat.not_lt_zero i)⟩
theorem jF4_v : ∀ j, j < 8 → jF4 j = iI (aS jA0 j : Int) := by decide +kernel
theorem jWt_v : ∀ j, j < 60 → jWt 60 j = iI (aw jA0 j : Int) := by decide +kernel
theorem jSt_52 : ∀ q, q < 52 → jSt 52 q = iI (mStp q : Int) := by decide +kernel
theorem jG_k : kA0 jSg 1 4 jA0 := ⟨rfl, fun i hi => absurd hi (Nat.not_lt_zero i), fun i hi => absurd hi (Nat.not_lt_zero i), jF4_v, jWt_v, fun j hj => absurd hj (Nat.not_lt_zero j), fun j hj => absurd hj (Nat.not_lt_zero j), fun j hj => absurd hj (Nat.not_lt_zero j)⟩
theorem jG_p : kPl jSg 9 jA0 := ⟨rfl, fun h => absurd (show (false : Bool) = true from h) (by decide)⟩
theorem jG_l : kLa jSg jA0 := ⟨rfl, rfl, rfl, fun i hi => absurd hi (Nat.not_lt_zero i), fun i hi => absurd hi (Nat.not_lt_zero i), fun i hi => absurd hi (Nat.not_lt_zero i), fun i hi => absurd hi (Nat.not_lt_zero i), fun i hi => absurd hi (Nat.not_lt_zero i), fun i hi => absurd hi (Nat.not_lt_zero i), fun i hi => absurd hi (Nat.not_lt_zero i)⟩
theorem jG_r : kRest jSg jV0 := ⟨jSt_52, rfl, fun i hi => absurd hi (Nat.not_lt_zero i), rfl, fun h => absurd (show (false : Bool) = true from h) (by decide), rfl, fun h => absurd (show (false : Bool) = true from h) (by decide)⟩
theorem jG_K : KI jSg jA0 := ⟨jV0, jV0_b, ⟨jG_k, jG_p, jG_l, jG_r⟩, rfl, rfl⟩
def jAd (b : Nat) (qs : List Nat) (k : Nat) : Nat := if k = 80 then b else qs.getD k 0
set_option maxHeartbeats 4000000 in
set_option maxRecDepth 100000 in
theorem jW_all (cI cJ : ClassId) (b q0 q1 q2 q3 q4 q5 q6 q7 q8 q9 q10 q11 q12 q13 q14 q15 q16 q17 q18 q19 q20 q21 q22 q23 q24 q25 q26 q27 q28 q29 q30 q31 q32 q33 q34 q35 q36 q37 q38 q39 q40 q41 q42 q43 q44 q45 q46 q47 q48 q49 q50 q51 q52 q53 q54 q55 q56 q57 q58 q59 q60 q61 q62 q63 : Nat) : ([(q0, .inr (11, [.ref q1, .ref q4, .ref q9, .ref q11, .ref q16, .ref q24, .ref q26, .ref q32, .ref q34, .ref q39, .ref q41, .ref q52])), (q1, .inr (0, [.int 0, .ref q2, .ref q3])), (q2, jI cI 60), (q3, jI cI 60), (q4, .inr (8, [.int 12, .int 2, .int 10, .int 45, .int 60000, .int 90, .int 4000, .int 0, .ref q5, .ref q6, .ref q7, .ref q8])), (q5, .inl (cI, 60, .inl (jWt 60))), (q6, jI cI 6), (q7, jI cI 6), (q8, jI cI 6), (q9, .inr (7, [.int 0, .ref q10])), (q10, jI cI 60), (q11, .inr (10, [.int 0, .ref q12, .ref q15, .int 0, .int 0, .int 0])), (q12, .inr (0, [.int 0, .ref q13, .ref q14])), (q13, jI cI 60), (q14, jI cI 60), (q15, jI cI 100), (q16, .inr (3, [.int 0, .int 0, .int 0, .ref q17, .ref q18, .ref q19, .ref q20, .ref q21, .ref q22, .ref q23])), (q17, jI cI 60), (q18, jI cI 60), (q19, jI cI 60), (q20, jI cI 60), (q21, jI cI 60), (q22, jI cI 60), (q23, jI cI 60), (q24, .inr (6, [.ref q16, .ref q4, .ref q25])), (q25, .inl (cI, 52, .inl (jSt 52))), (q26, .inr (1, [.int 0, .ref q27, .ref q28, .ref q29, .ref q30, .ref q31, .ref q24, .int 0, .int 0, .int 0])), (q27, jI cI 60), (q28, jI cI 60), (q29, jI cI 60), (q30, jI cI 60), (q31, jI cI 60), (q32, .inr (4, [.ref q24, .ref q4, .ref q16, .ref q26, .ref q33])), (q33, jI cI 60), (q34, .inr (5, [.ref q24, .ref q4, .ref q16, .ref q26, .ref q35, .ref q36, .ref q37, .ref q38])), (q35, jI cI 60), (q36, jI cI 60), (q37, jJ cJ 60), (q38, jJ cJ 60), (q39, .inr (2, [.ref q4, .ref q16, .ref q26, .ref q32, .ref q40])), (q40, jI cI 60), (q41, .inr (9, [.int 0, .ref q42, .ref q45, .ref q50])), (q42, .inr (0, [.int 0, .ref q43, .ref q44])), (q43, jI cI 60), (q44, jI cI 60), (q45, .inr (8, [.int 12, .int 2, .int 10, .int 45, .int 60000, .int 90, .int 4000, .int 0, .ref q46, .ref q47, .ref q48, .ref q49])), (q46, .inl (cI, 60, .inl (jWt 60))), (q47, jI cI 6), (q48, jI cI 6), (q49, jI cI 6), (q50, .inr (7, [.int 0, .ref q51])), (q51, jI cI 60), (q52, .inr (9, [.int 0, .ref q53, .ref q56, .ref q61])), (q53, .inr (0, [.int 0, .ref q54, .ref q55])), (q54, jI cI 60), (q55, jI cI 60), (q56, .inr (8, [.int 12, .int 2, .int 10, .int 45, .int 60000, .int 90, .int 4000, .int 0, .ref q57, .ref q58, .ref q59, .ref q60])), (q57, .inl (cI, 60, .inl (jWt 60))), (q58, jI cI 6), (q59, jI cI 6), (q60, jI cI 6), (q61, .inr (7, [.int 0, .ref q62])), (q62, jI cI 60), (q63, jI cI 64)] : va_W) = zW (jAd b [q0, q1, q2, q3, q4, q5, q6, q7, q8, q9, q10, q11, q12, q13, q14, q15, q16, q17, q18, q19, q20, q21, q22, q23, q24, q25, q26, q27, q28, q29, q30, q31, q32, q33, q34, q35, q36, q37, q38, q39, q40, q41, q42, q43, q44, q45, q46, q47, q48, q49, q50, q51, q52, q53, q54, q55, q56, q57, q58, q59, q60, q61, q62, q63]) cI cJ jSg := rfl
end
section
/-! the law, from its entry -/
/-! THE CLAIM OUT OF ONE WALK OF THE LAW'S BODY. Your part is whole_start (and what it stands on); all else here is the same for every law, but numbers. -/
def R_law : String := "RatePlannerLaw"
def lw_P (b : Addr) (xs : List Int32) (args : Array Value) (s : State) : Prop := args = #[.ref b] ∧ s.IntsAt b xs ∧ xs.length ≤ 260 ∧ (Jvm.Cond.and given_1 narrow_1).before args s = true
def lw_Q (_ : Array Value) (s : State) (o : Outcome) (t : State) : Prop := o = .returned (some (.int 1)) ∧ Framed s o t [] 64 2311
def lw_Z (below : List Frame) (a : Array Value) (s : State) : State → Prop := fun t => ∃ o, t.status = .running ∧ Ended t below o ∧ lw_Q a s o t
/-- the law's own end, with 1 on the stack, nothing written that was there before, its room as the claim has it -/
theorem lw_ret {p : Program} {l : Launch} {e : Env} {s : State} {m : MethodId} {below : List Frame} {meth : Method} {c : Code} {b : Nat} (hx : p.tables.exec = Jvm.exec) (hb : c.code = code) (hr : meth.sig.returnType = ret) (hlocks : meth.locks = false) {pc : Nat} {H : Heap} {ls : Array Slot} (hdg : decode code pc = .ok (.ireturn, 1)) : W p l e room_1 s m #[Value.ref b] below meth c H [] 64 2311 (lw_Z below #[Value.ref b] s) (F0 m pc ls [.int 1]) := by
  intro T hT X
  obtain ⟨fs, hret, hrun, hended, hW, hframe⟩ := X.leave (v := some (.int 1)) (hlocks := hlocks) (fun h => by rw [hr] at h; cases h)
  have hmeth' : T.vm.method? m = some meth := X.method'
  refine ⟨T.setFrames fs, ?_, .returned (some (.int 1)), hrun, hended, rfl, ⟨_, rfl⟩, hW, hframe⟩
  jvm_step X.here [X.here.top, hx, hb, hdg, hmeth', hr, ret, narrow_b1]
  (try refine ⟨rfl, ?_⟩); (try refine ⟨rfl, ?_⟩)
  first | (intro acts; rw [hret _ acts rfl rfl rfl]) | rw [hret _ _ rfl rfl rfl]
  exact Steps.refl _
/-- what holds at the law's entry: the machine, the code, the tables' words (any of lw_tbl by 'hts w (by decide +kernel)'), the script of L ints xs at the cell b, what the Statement gives of the start (any of its parts by flat_of_before) -/
def lw_At (p : Program) (s : State) (m : MethodId) (meth : Method) (c : Code) (b L : Nat) (xs : Nat → Int32) : Prop :=
  p.tables.exec = Jvm.exec ∧ c.code = code ∧ meth.sig.returnType = ret ∧ c.maxLocals = 7 ∧ s.vm.findClass R_law = some m.cls ∧ (∀ w ∈ lw_tbl, w.before #[Value.ref b] s = true) ∧ va_X b L xs s s.heap ∧ b < s.heap.size ∧ meth.locks = false ∧ (Jvm.Cond.and given_1 narrow_1).before #[Value.ref b] s = true
theorem jInst : (vwCl.all fun q => lw_tbl.contains (.instantiable q.1 q.2.2)) = true := by decide +kernel
/-- behind the makings the small machine goes on -/
theorem lw_rest {p : Program} {l : Launch} {e : Env} {s : State} {m : MethodId} {below : List Frame} {meth : Method} {c : Code} {b L : Nat} {xs : Nat → Int32} {D : va_G} {cI cJ : ClassId} {t : Nat} (hL : L ≤ 260) (K : jmX p l room_1 s m #[Value.ref b] meth c D cI cJ t (fun q => s.heap.size ≤ q) 8 nL_law) (hr : meth.sig.returnType = ret) (hlocks : meth.locks = false) (hX : va_X b L xs s s.heap) (hbl : b < s.heap.size) (qs : List Nat) : jmG p l e room_1 s m #[Value.ref b] below meth c (lw_Z below #[Value.ref b] s) D (fun q => s.heap.size ≤ q) 7 13 [(2, .ref (qs.getD 63 0)), (1, .ref (qs.getD 0 0)), (0, .ref b)] [] (zW (jAd b qs) cI cJ jSg) 64 2311 := by
  obtain ⟨hx, hb, hml, hown, hts, hnw, hK, hA, hZ, hT, hfr, hlo⟩ := K
  intro H locs ls hP hD hS hl
  have hsh : ∀ k, k < zSh.length → ∃ e : va_E, (zW (jAd b qs) cI cJ jSg)[k]? = some (jAd b qs k, e) := fun k hk => ⟨_, zW_get (jAd b qs) cI cJ jSg (List.getElem?_eq_getElem hk)⟩
  have hinj : ∀ i j, i < zSh.length → j < zSh.length → jAd b qs i = jAd b qs j → i = j := fun i j hi hj e2 => by
    obtain ⟨x, hx2⟩ := hsh i hi
    obtain ⟨y, hy2⟩ := hsh j hj
    exact hD.1 i j _ _ hx2 hy2 e2
  have hAd : ∀ k, k < zSh.length → s.heap.size ≤ jAd b qs k := fun k hk => by
    obtain ⟨x, hx2⟩ := hsh k hk
    exact hD.2 k _ hx2
  have K2 : zCx p l room_1 s m #[Value.ref b] meth c 64 2311 D cI cJ (jAd b qs) (fun q => s.heap.size ≤ q) 8 nL_law := ⟨hx, hb, hml, hown, hts, hnw, hK, hinj, hAd, hA, Nat.le_refl _, Nat.le_refl _, hfr, hlo⟩
  have hX2 : zClosed (some (L, xs)) (zCallS (some (L, xs)) 8) lw_po nL_law (zXs p l e room_1 s m #[Value.ref b] below meth c 64 2311 (lw_Z below #[Value.ref b] s) D cI cJ (jAd b qs) (fun q => s.heap.size ≤ q) nL_law) := by
    refine zClosed_of K2 (fun t2 ht2 => ?_) (fun a av σ po h1 h2 h3 => zSound (some (L, xs)) l D cI cJ (jAd b qs) hinj 8 a av σ po h1 h2 h3) (fun x σ H locs ls pc hp hP hS hdg ht => ?_) (fun x σ H locs ls pc hp hP hS hdg ht => ?_) (fun σ H locs ls pc hp hP hS hdg ht => ?_)
    · cases ht2
      exact ⟨hX, hbl, Nat.not_le.mpr hbl⟩
    · have e1 : x = 1 := by
        have e2 : some (Value.int x) = some (Value.int 1) := hp
        exact Value.int.inj (Option.some.inj e2)
      subst e1
      exact va_forget hS.2.2 (lw_ret hx hb hr hlocks hdg)
    · have e2 : some (Value.long x) = some (Value.int 1) := hp
      cases e2
    · have e2 : (none : Option Value) = some (Value.int 1) := hp
      cases e2
  exact lw_13 hX2 hL jG_K rfl rfl rfl (fun _ _ => rfl) H locs ls hP hS ⟨lv_sub hl [2, 1, 0] rfl, Nat.le_of_ble_eq_true rfl⟩
set_option maxHeartbeats 4000000 in
set_option maxRecDepth 100000 in
theorem whole_start {p : Program} {e : Env} {s : State} {m : MethodId} {below : List Frame} {meth : Method} {c : Code} (l : Launch) (hflags : l.flags = flags0) {b L : Nat} {xs : Nat → Int32} (hL : L ≤ 260) (C0 : lw_At p s m meth c b L xs) : W p l e room_1 s m #[Value.ref b] below meth c s.heap [] 0 0 (lw_Z below #[Value.ref b] s) (entryFrame m ([Value.ref b] : List Value).toArray 7) := by
  obtain ⟨hx, hb, hr, hml, hown, hts, hX, hbl, hlocks, hgv⟩ := id C0
  have htg : ∀ w ∈ zTg, w.before #[Value.ref b] s = true := fun w hw => hts w (zTg_good hw).1
  have hnw : ∀ w ∈ zNw, va_Nw w s := fun w hw => by
    have hk := zNw_kind hw
    have hw2 := hts w (List.mem_filter.mp hw).1
    refine va_Nw.of ?_ hw2
    cases w <;> first | rfl | (exact absurd hk (by simp [zNst]))
  have hK13 : ∀ k : Nat, ∃ (cC : ClassId) (iS : Nat → Nat), ∀ q, vwCl[k]? = some q → u_Kn s q.1 q.2.1 q.2.2 cC iS := by
    intro k
    cases hq : vwCl[k]? with
    | none => exact ⟨0, fun _ => 0, fun q h => by cases h⟩
    | some q =>
      have hm := List.mem_of_getElem? hq
      have hi : (Cond.instantiable q.1 q.2.2) ∈ lw_tbl := List.contains_iff_mem.mp (List.all_eq_true.mp jInst q hm)
      obtain ⟨cC, iS, h⟩ := u_known (n := q.2.2) htg (zCv_spec (List.all_eq_true.mp zCv_all q hm)).1 (hts _ hi)
      exact ⟨cC, iS, fun q' h' => by cases h'; exact h⟩
  obtain ⟨D, hD13⟩ : ∃ D : va_G, ∀ (k : Nat) (q : vw_C), vwCl[k]? = some q → u_Kn s q.1 q.2.1 q.2.2 (D.1 k) (D.2 k) := ⟨(fun k => Classical.choose (hK13 k), fun k => Classical.choose (Classical.choose_spec (hK13 k))), fun k q hq => Classical.choose_spec (Classical.choose_spec (hK13 k)) q hq⟩
  obtain ⟨cI, kI, compI, i1, i2, i3⟩ := Cond.arrayClass_spec (type := .int) (show (Cond.arrayClass .int).holds #[Value.ref b] s none s [] = true from htg _ (zin 59 (by decide +kernel) rfl))
  obtain ⟨cJ, kJ, compJ, j1, j2, j3⟩ := Cond.arrayClass_spec (type := .long) (show (Cond.arrayClass .long).holds #[Value.ref b] s none s [] = true from htg _ (zin 333 (by decide +kernel) rfl))
  have hK : va_K D vwCl [(cI, .int), (cJ, .long)] s := ⟨hD13, fun k q hq => by
    match k, hq with
    | 0, hq =>
      cases hq
      exact ⟨fun n z => ⟨fun k h => (by cases h), kI, i2, compI, i3⟩, i1⟩
    | 1, hq =>
      cases hq
      exact ⟨fun n z => ⟨fun k h => (by cases h), kJ, j2, compJ, j3⟩, j1⟩
    | k + 2, hq => simp at hq⟩
  have hA : ∀ q : Nat, s.heap.size ≤ q → (fun q : Nat => s.heap.size ≤ q) q := fun _ h => h
  have hfl := flat_of_before _ hgv
  have hnA : ∀ a : Nat, a < s.heap.size → ¬ (fun q : Nat => s.heap.size ≤ q) a := fun a h => Nat.not_le.mpr h
  obtain ⟨t, ht1, hT⟩ := va_Tof (tm := .static "RatePlanner" "FIRST_STEPS" "[I") (ty := .int) (N := 6) (f := jFv) (A := fun q : Nat => s.heap.size ≤ q) (args := #[Value.ref b]) (s := s) (by decide) (hfl _ (by decide +kernel)) (va_eqt (z := 6) (hfl _ (by decide +kernel))) (fun j hj => by
    match j, hj with
    | 0, _ => exact va_eqt (z := 10) (hfl _ (by decide +kernel))
    | 1, _ => exact va_eqt (z := 11) (hfl _ (by decide +kernel))
    | 2, _ => exact va_eqt (z := 13) (hfl _ (by decide +kernel))
    | 3, _ => exact va_eqt (z := 14) (hfl _ (by decide +kernel))
    | 4, _ => exact va_eqt (z := 16) (hfl _ (by decide +kernel))
    | 5, _ => exact va_eqt (z := 18) (hfl _ (by decide +kernel))
    | j + 6, hj => omega) hnA
  have hZ : va_Z "RatePlanner" "FIRST_STEPS" "[I" (.ref t) (fun q : Nat => s.heap.size ≤ q) s s.heap := va_Zref (hts _ (List.mem_of_getElem? (i := 215) (by decide +kernel))) (htg _ (zin 16 (by decide +kernel) rfl)) ht1 hnA
  have K : jmX p l room_1 s m #[Value.ref b] meth c D cI cJ t (fun q : Nat => s.heap.size ≤ q) 8 nL_law := ⟨hx, hb, hml, hown, htg, hnw, hK, hA, hZ, hT, by decide, by decide⟩
  have hl := lv_entry ([.ref b]) (n := 7) (Nat.le_of_ble_eq_true rfl)
  rw [lg_entry_eq]
  generalize (lg_sl ([.ref b]) ++ List.replicate (7 - (lg_sl ([.ref b])).length) Slot.unset).toArray = ls at hl ⊢
  have hl : lv_has ls 7 [(0, .ref b)] := hl
  suffices hg : jmG p l e room_1 s m #[Value.ref b] below meth c (lw_Z below #[Value.ref b] s) D (fun q : Nat => s.heap.size ≤ q) 7 0 [(0, .ref b)] [] [] 0 0 from hg s.heap [] ls (fun k q h => by simp at h) ⟨fun i j p q h => by simp at h, fun k q h => by simp at h⟩ va_S.rf hl
  refine jm_new (idx := 45) (a := 11) (g1 := 29) (g2 := 30) (g3 := 16) (fs := [.null, .null, .null, .null, .null, .null, .null, .null, .null, .null, .null, .null]) K (by decide +kernel) (by decide) (by decide +kernel) (by decide +kernel) (by decide +kernel) (fun k => [.object "RatePlanner$Clip", .object "RatePlanner$Settings", .object "RatePlanner$Plan", .object "RatePlanner$Text", .object "RatePlanner$Layout", .object "RatePlanner$Model", .object "RatePlanner$Course", .object "RatePlanner$Maker", .object "RatePlanner$Mender", .object "RatePlanner$Finder", .object "RatePlanner$Slot", .object "RatePlanner$Slot"].getD k .int) (by decide +kernel) (by decide +kernel) 12 (by decide) (Nat.le_of_ble_eq_true rfl) (Nat.le_of_ble_eq_true rfl) (fun q0 => ?_)
  refine jm_dup K (by decide +kernel) ?_
  refine jm_call (idx := 86) (a := nX11_init) (g := 31) (cc := 62) (ss := 2235) (As := []) (b := q0) K rfl (jc_Planner 5 l D cI cJ t (k := 0) rfl) (by decide +kernel) (by decide) (by decide) (by decide +kernel) (by decide +kernel) (by decide +kernel) 0 rfl (by decide +kernel) (Or.inl (by decide +kernel)) (Nat.le_of_ble_eq_true rfl) (Nat.le_of_ble_eq_true rfl) (Nat.le_of_ble_eq_true rfl) rfl (fun ws2 hp => ?_)
  obtain ⟨q1, q2, q3, q4, q5, q6, q7, q8, q9, q10, q11, q12, q13, q14, q15, q16, q17, q18, q19, q20, q21, q22, q23, q24, q25, q26, q27, q28, q29, q30, q31, q32, q33, q34, q35, q36, q37, q38, q39, q40, q41, q42, q43, q44, q45, q46, q47, q48, q49, q50, q51, q52, q53, q54, q55, q56, q57, q58, q59, q60, q61, q62, rfl⟩ := hp
  refine jm_astore (k := 1) (lv' := [(1, .ref q0), (0, .ref b)]) K (by decide +kernel) (by decide) rfl ?_
  refine jm_w (ws' := ([(q0, .inr (11, [.ref q1, .ref q4, .ref q9, .ref q11, .ref q16, .ref q24, .ref q26, .ref q32, .ref q34, .ref q39, .ref q41, .ref q52])), (q1, .inr (0, [.int 0, .ref q2, .ref q3])), (q2, jI cI 60), (q3, jI cI 60), (q4, .inr (8, [.int 12, .int 2, .int 10, .int 45, .int 60000, .int 90, .int 4000, .int 0, .ref q5, .ref q6, .ref q7, .ref q8])), (q5, .inl (cI, 60, .inl (jWt 60))), (q6, jI cI 6), (q7, jI cI 6), (q8, jI cI 6), (q9, .inr (7, [.int 0, .ref q10])), (q10, jI cI 60), (q11, .inr (10, [.int 0, .ref q12, .ref q15, .int 0, .int 0, .int 0])), (q12, .inr (0, [.int 0, .ref q13, .ref q14])), (q13, jI cI 60), (q14, jI cI 60), (q15, jI cI 100), (q16, .inr (3, [.int 0, .int 0, .int 0, .ref q17, .ref q18, .ref q19, .ref q20, .ref q21, .ref q22, .ref q23])), (q17, jI cI 60), (q18, jI cI 60), (q19, jI cI 60), (q20, jI cI 60), (q21, jI cI 60), (q22, jI cI 60), (q23, jI cI 60), (q24, .inr (6, [.ref q16, .ref q4, .ref q25])), (q25, .inl (cI, 52, .inl (jSt 52))), (q26, .inr (1, [.int 0, .ref q27, .ref q28, .ref q29, .ref q30, .ref q31, .ref q24, .int 0, .int 0, .int 0])), (q27, jI cI 60), (q28, jI cI 60), (q29, jI cI 60), (q30, jI cI 60), (q31, jI cI 60), (q32, .inr (4, [.ref q24, .ref q4, .ref q16, .ref q26, .ref q33])), (q33, jI cI 60), (q34, .inr (5, [.ref q24, .ref q4, .ref q16, .ref q26, .ref q35, .ref q36, .ref q37, .ref q38])), (q35, jI cI 60), (q36, jI cI 60), (q37, jJ cJ 60), (q38, jJ cJ 60), (q39, .inr (2, [.ref q4, .ref q16, .ref q26, .ref q32, .ref q40])), (q40, jI cI 60), (q41, .inr (9, [.int 0, .ref q42, .ref q45, .ref q50])), (q42, .inr (0, [.int 0, .ref q43, .ref q44])), (q43, jI cI 60), (q44, jI cI 60), (q45, .inr (8, [.int 12, .int 2, .int 10, .int 45, .int 60000, .int 90, .int 4000, .int 0, .ref q46, .ref q47, .ref q48, .ref q49])), (q46, .inl (cI, 60, .inl (jWt 60))), (q47, jI cI 6), (q48, jI cI 6), (q49, jI cI 6), (q50, .inr (7, [.int 0, .ref q51])), (q51, jI cI 60), (q52, .inr (9, [.int 0, .ref q53, .ref q56, .ref q61])), (q53, .inr (0, [.int 0, .ref q54, .ref q55])), (q54, jI cI 60), (q55, jI cI 60), (q56, .inr (8, [.int 12, .int 2, .int 10, .int 45, .int 60000, .int 90, .int 4000, .int 0, .ref q57, .ref q58, .ref q59, .ref q60])), (q57, .inl (cI, 60, .inl (jWt 60))), (q58, jI cI 6), (q59, jI cI 6), (q60, jI cI 6), (q61, .inr (7, [.int 0, .ref q62])), (q62, jI cI 60)] : va_W)) rfl ?_
  refine jm_bipush (n := 64) (v := 64) K (by decide +kernel) (by decide) ?_
  refine jm_newi (N := 64) K (by decide +kernel) (by decide) (by decide) (by decide) (Nat.le_of_ble_eq_true rfl) (Nat.le_of_ble_eq_true rfl) (fun q63 => ?_)
  refine jm_astore (k := 2) (lv' := [(2, .ref q63), (1, .ref q0), (0, .ref b)]) K (by decide +kernel) (by decide) rfl ?_
  refine jm_w (ws' := zW (jAd b [q0, q1, q2, q3, q4, q5, q6, q7, q8, q9, q10, q11, q12, q13, q14, q15, q16, q17, q18, q19, q20, q21, q22, q23, q24, q25, q26, q27, q28, q29, q30, q31, q32, q33, q34, q35, q36, q37, q38, q39, q40, q41, q42, q43, q44, q45, q46, q47, q48, q49, q50, q51, q52, q53, q54, q55, q56, q57, q58, q59, q60, q61, q62, q63]) cI cJ jSg) (jW_all cI cJ b q0 q1 q2 q3 q4 q5 q6 q7 q8 q9 q10 q11 q12 q13 q14 q15 q16 q17 q18 q19 q20 q21 q22 q23 q24 q25 q26 q27 q28 q29 q30 q31 q32 q33 q34 q35 q36 q37 q38 q39 q40 q41 q42 q43 q44 q45 q46 q47 q48 q49 q50 q51 q52 q53 q54 q55 q56 q57 q58 q59 q60 q61 q62 q63).symm ?_
  exact lw_rest (l := l) hL K hr hlocks hX hbl [q0, q1, q2, q3, q4, q5, q6, q7, q8, q9, q10, q11, q12, q13, q14, q15, q16, q17, q18, q19, q20, q21, q22, q23, q24, q25, q26, q27, q28, q29, q30, q31, q32, q33, q34, q35, q36, q37, q38, q39, q40, q41, q42, q43, q44, q45, q46, q47, q48, q49, q50, q51, q52, q53, q54, q55, q56, q57, q58, q59, q60, q61, q62, q63]
set_option maxHeartbeats 4000000 in
theorem lw_walk (l : Launch) (hflags : l.flags = flags0) (b : Addr) (xs : List Int32) : MetFree l x (headSpec (Jvm.Cond.code x code maxLocals ret :: tables_1) room_1) (lw_P b xs) (fun _ _ _ _ _ => True) lw_Q := by
  refine MetFree.of_bodyS (code := code) (maxLocals := maxLocals) (ret := ret) (by decide) ?_ ?_
  · intro args s m h hn
    obtain ⟨meth, c, h1, h2, h3, h4, h5, h6, -, -⟩ := Cond.code_spec hn (atoms_spec (ws := Jvm.Cond.code x code maxLocals ret :: tables_1) h _ List.mem_cons_self)
    exact ⟨meth, c, h1, h2, h3, h4, h5, h6⟩
  · intro p e s m args below meth c s₁ B hml0 hP _
    obtain ⟨rfl, hx, hbd, hgv⟩ := hP
    obtain ⟨scr, harrAt, hlist, hof, hsmall⟩ := hx
    obtain ⟨hcb, hkn, -, -⟩ := State.arrayAt?_spec harrAt
    have hown : s.vm.findClass R_law = some m.cls := findClass_of_methodNamed B.named
    have hts0 : ∀ c ∈ (Jvm.Cond.code x code maxLocals ret :: tables_1), c.before #[Value.ref b] s = true := atoms_spec (ws := Jvm.Cond.code x code maxLocals ret :: tables_1) B.pre
    have hts : ∀ w ∈ lw_tbl, w.before #[Value.ref b] s = true := k2_hts_sels lw_privs (fun w hw => hts0 w (List.mem_cons_of_mem _ hw)) lw_privs_ok
    have hml : c.maxLocals = 7 := B.maxLocals_eq (hts0 _ List.mem_cons_self)
    have X₀ : Stand p l e room_1 s m #[Value.ref b] below meth c s₁ [] 0 0 := Stand.of_body B
    have hh0 : s₁.heap = s.heap := by rw [B.state]; rfl
    have hsz : scr.slots.size = xs.length := by rw [← Array.length_toList, hlist, List.length_map]
    have hval : ∀ j : Nat, j < xs.length → scr.slots[j]? = some (.int (xs.getD j 0)) := fun j hj => by
      rw [← Array.getElem?_toList, hlist]
      simp [hj]
    have hbl : b < s.heap.size := (Array.getElem?_eq_some_iff.mp hcb).1
    have hX : va_X b xs.length (fun j => xs.getD j 0) s s.heap := ⟨scr, hcb, hof, hkn, hsz, hval⟩
    have K : W p l e room_1 s m #[Value.ref b] below meth c s₁.heap [] 0 0 (lw_Z below #[Value.ref b] s) (entryFrame m ([Value.ref b] : List Value).toArray 7) := by
      rw [hh0]
      exact whole_start l hflags hbd ⟨B.exec, B.bytes, B.returns, hml, hown, hts, hX, hbl, B.notSynchronized, hgv⟩
    obtain ⟨t, a1, o, b1, b2, b3⟩ := K s₁ rfl X₀
    exact ⟨t, o, a1, b1, b2, b3⟩
theorem lw_pre_spec {args : Array Value} {s : State} (h : (Jvm.Cond.and given_1 narrow_1).before args s = true) (hr : rest_1_c.before args s = true) : ∃ (b : Addr) (xs : List Int32), lw_P b xs args s := by
  have hs := flat_of_before _ h
  have hq := flat_of_before _ hr
  have hc : (Cond.count 1).before args s = true := hs _ (by decide +kernel)
  have harr : (Cond.arrayOf (.arg 0) .int).before args s = true := hs _ (by decide +kernel)
  have hle : (Cond.le (.length (.arg 0)) (.int 260)).before args s = true := hs _ (by decide +kernel)
  have hlen : (Cond.isInt (.length (.arg 0))).before args s = true := hq _ (by decide +kernel)
  have hall : (Cond.all (.arg 0) (.isInt (.elem (.arg 0) (.index 0)))).before args s = true := hq _ (by decide +kernel)
  obtain ⟨b, xs, hb, hx⟩ := State.ints_of_pre rfl harr hlen hall
  have hsm : xs.length < 2 ^ 31 := hx.choose_spec.2.2.2
  have hev : (Term.length (.arg 0)).eval args s none [] s = some (.int xs.length.toInt32) := hx.length_eval hb
  have hv := Cond.le_ints hev (show (Term.int 260).eval args s none [] s = some (.int 260) from rfl)
  have hd : xs.length.toInt32 ≤ 260 := by
    simpa [Cond.before, Cond.holds, hv] using hle
  have hN : xs.length ≤ 260 := (Int32.ofNat_le_ofNat hsm (by decide)).mp (show Int32.ofNat xs.length ≤ Int32.ofNat 260 from hd)
  exact ⟨b, xs, Cond.one_arg hc (show args[0]? = some (.ref b) from hb), hx, hN, h⟩
theorem lw_comes (l : Launch) (hflags : l.flags = flags0) : Comes l x (Jvm.Cond.code x code maxLocals ret :: tables_1) room_1 (fun tb e args s => Calls_1 tb e args s ∧ rest_1 tb e args s ∧ Pre_1 tb e args s)
    (fun _ _ args s o t => lw_Q args s o t) := by
  intro p e ha hc hk s m args below hf hfit hheap happ hpre
  obtain ⟨b, xs, hP⟩ := lw_pre_spec hpre.2.2 hpre.2.1
  obtain ⟨k, o, h1, h2, h3, hQ⟩ := lw_walk l hflags b xs p e ha hc hk s m args below hf ((Spec.applies_iff_loose hf).mp happ).1 hP trivial
  exact ⟨k, o, h1, h2, h3, hQ⟩
theorem lw_frame {s t : State} {o : Outcome} {args : Array Value} (h : Framed s o t [] 64 2311) :
    Framed s o t (fieldLocs frame_1_writes args s ++ arrayLocs frame_1_arrays args s ++ staticLocs frame_1_statics s) 64 2311 := h
theorem lw_limb (L : Cond) (hL : ∀ (args : Array Value) (s t : State), L.after args s (.returned (some (.int 1))) t = true) :
    ArmFor flags0 classFile x code maxLocals ret World_1 tables_1 room_1 Calls_1 rest_1 Pre_1
      (fun tb e a s o t => postC L tb e a s o t ∧ Framed s o t (fieldLocs frame_1_writes a s ++ arrayLocs frame_1_arrays a s ++ staticLocs frame_1_statics s) 64 2311) := by
  intro l hflags _ _ p e ha hc hk s m args below hf hfit hheap happ hpre
  obtain ⟨k, o, h1, h2, h3, rfl, hF⟩ := lw_comes l hflags p e ha hc hk s m args below hf hfit hheap happ hpre
  exact ⟨k, _, h1, h2, h3, hL args s _, lw_frame hF⟩
theorem i_vc : Claimed_1_1 ∧ Claimed_1_2 := ⟨lw_limb limb_1_1 (fun args s t => by simp [limb_1_1, Cond.after, Cond.holds, Cond.value]), lw_limb limb_1_2 (fun args s t => Cond.after_iff.mpr (by
  first | (rw [show limb_1_2 = Cond.eq .result (.int 1) from rfl, Cond.eq_ints (x := 1) (y := 1) rfl rfl]; simp; done) | (simp [limb_1_2, Cond.value, Term.eval]; done)))⟩
end
