section
-- ===== PART A: goes FIRST, ahead of the names: the tables' words, and 'selects' of the private methods out of them =====
/-- a private method of a class that the tables say can be made, by its rows of tables_1 -/
def lw_okq (q : MethodName × Nat) : Prop := (q.1.cls ≠ "java/lang/invoke/MethodHandle" ∧ q.1.cls ≠ "java/lang/invoke/VarHandle") ∧ Cond.instantiable q.1.cls q.2 ∈ tables_1 ∧ Cond.privateMethod q.1 ∈ tables_1 ∧ Cond.instanceMethod q.1 ∈ tables_1
theorem lw_p0 : lw_okq (⟨"RatePlanner", "arrangeAnew", "()V"⟩, 12) := ⟨⟨by decide +kernel, by decide +kernel⟩, List.mem_of_getElem? (i := 15) (by decide +kernel), List.mem_of_getElem? (i := 420) (by decide +kernel), List.mem_of_getElem? (i := 421) (by decide +kernel)⟩
theorem lw_p1 : lw_okq (⟨"RatePlanner$Layout", "findStarts", "(LRatePlanner$Clip;I)V"⟩, 10) := ⟨⟨by decide +kernel, by decide +kernel⟩, List.mem_of_getElem? (i := 141) (by decide +kernel), List.mem_of_getElem? (i := 428) (by decide +kernel), List.mem_of_getElem? (i := 429) (by decide +kernel)⟩
theorem lw_p2 : lw_okq (⟨"RatePlanner$Layout", "measureGroups", "()V"⟩, 10) := ⟨⟨by decide +kernel, by decide +kernel⟩, List.mem_of_getElem? (i := 141) (by decide +kernel), List.mem_of_getElem? (i := 438) (by decide +kernel), List.mem_of_getElem? (i := 439) (by decide +kernel)⟩
theorem lw_p3 : lw_okq (⟨"RatePlanner$Layout", "chooseTypes", "(I)V"⟩, 10) := ⟨⟨by decide +kernel, by decide +kernel⟩, List.mem_of_getElem? (i := 141) (by decide +kernel), List.mem_of_getElem? (i := 443) (by decide +kernel), List.mem_of_getElem? (i := 444) (by decide +kernel)⟩
theorem lw_p4 : lw_okq (⟨"RatePlanner$Layout", "putInOrder", "()V"⟩, 10) := ⟨⟨by decide +kernel, by decide +kernel⟩, List.mem_of_getElem? (i := 141) (by decide +kernel), List.mem_of_getElem? (i := 450) (by decide +kernel), List.mem_of_getElem? (i := 451) (by decide +kernel)⟩
theorem lw_p5 : lw_okq (⟨"RatePlanner$Layout", "putAt", "(II)V"⟩, 10) := ⟨⟨by decide +kernel, by decide +kernel⟩, List.mem_of_getElem? (i := 141) (by decide +kernel), List.mem_of_getElem? (i := 454) (by decide +kernel), List.mem_of_getElem? (i := 455) (by decide +kernel)⟩
theorem lw_p6 : lw_okq (⟨"RatePlanner$Layout", "weighWorks", "(LRatePlanner$Clip;)V"⟩, 10) := ⟨⟨by decide +kernel, by decide +kernel⟩, List.mem_of_getElem? (i := 141) (by decide +kernel), List.mem_of_getElem? (i := 458) (by decide +kernel), List.mem_of_getElem? (i := 459) (by decide +kernel)⟩
theorem lw_p7 : lw_okq (⟨"RatePlanner", "isFrame", "(I)Z"⟩, 12) := ⟨⟨by decide +kernel, by decide +kernel⟩, List.mem_of_getElem? (i := 15) (by decide +kernel), List.mem_of_getElem? (i := 469) (by decide +kernel), List.mem_of_getElem? (i := 470) (by decide +kernel)⟩
theorem lw_p8 : lw_okq (⟨"RatePlanner$Maker", "offsetOf", "(I)I"⟩, 5) := ⟨⟨by decide +kernel, by decide +kernel⟩, List.mem_of_getElem? (i := 266) (by decide +kernel), List.mem_of_getElem? (i := 507) (by decide +kernel), List.mem_of_getElem? (i := 508) (by decide +kernel)⟩
theorem lw_p9 : lw_okq (⟨"RatePlanner", "underflowsOfNewPlan", "()I"⟩, 12) := ⟨⟨by decide +kernel, by decide +kernel⟩, List.mem_of_getElem? (i := 15) (by decide +kernel), List.mem_of_getElem? (i := 528) (by decide +kernel), List.mem_of_getElem? (i := 529) (by decide +kernel)⟩
theorem lw_p10 : lw_okq (⟨"RatePlanner", "followedFrame", "(II)I"⟩, 12) := ⟨⟨by decide +kernel, by decide +kernel⟩, List.mem_of_getElem? (i := 15) (by decide +kernel), List.mem_of_getElem? (i := 575) (by decide +kernel), List.mem_of_getElem? (i := 576) (by decide +kernel)⟩
theorem lw_p11 : lw_okq (⟨"RatePlanner", "followedTotal", "(I)J"⟩, 12) := ⟨⟨by decide +kernel, by decide +kernel⟩, List.mem_of_getElem? (i := 15) (by decide +kernel), List.mem_of_getElem? (i := 593) (by decide +kernel), List.mem_of_getElem? (i := 594) (by decide +kernel)⟩
theorem lw_p12 : lw_okq (⟨"RatePlanner", "changesOfPlan", "()J"⟩, 12) := ⟨⟨by decide +kernel, by decide +kernel⟩, List.mem_of_getElem? (i := 15) (by decide +kernel), List.mem_of_getElem? (i := 597) (by decide +kernel), List.mem_of_getElem? (i := 598) (by decide +kernel)⟩
theorem lw_p13 : lw_okq (⟨"RatePlanner", "bitsOfScene", "(I)I"⟩, 12) := ⟨⟨by decide +kernel, by decide +kernel⟩, List.mem_of_getElem? (i := 15) (by decide +kernel), List.mem_of_getElem? (i := 616) (by decide +kernel), List.mem_of_getElem? (i := 617) (by decide +kernel)⟩
theorem lw_p14 : lw_okq (⟨"RatePlanner", "meanOfScene", "(I)I"⟩, 12) := ⟨⟨by decide +kernel, by decide +kernel⟩, List.mem_of_getElem? (i := 15) (by decide +kernel), List.mem_of_getElem? (i := 621) (by decide +kernel), List.mem_of_getElem? (i := 622) (by decide +kernel)⟩
def lw_privs_1 : List (MethodName × Nat) := [(⟨"RatePlanner", "arrangeAnew", "()V"⟩, 12), (⟨"RatePlanner$Layout", "findStarts", "(LRatePlanner$Clip;I)V"⟩, 10), (⟨"RatePlanner$Layout", "measureGroups", "()V"⟩, 10), (⟨"RatePlanner$Layout", "chooseTypes", "(I)V"⟩, 10), (⟨"RatePlanner$Layout", "putInOrder", "()V"⟩, 10), (⟨"RatePlanner$Layout", "putAt", "(II)V"⟩, 10), (⟨"RatePlanner$Layout", "weighWorks", "(LRatePlanner$Clip;)V"⟩, 10), (⟨"RatePlanner", "isFrame", "(I)Z"⟩, 12), (⟨"RatePlanner$Maker", "offsetOf", "(I)I"⟩, 5), (⟨"RatePlanner", "underflowsOfNewPlan", "()I"⟩, 12), (⟨"RatePlanner", "followedFrame", "(II)I"⟩, 12), (⟨"RatePlanner", "followedTotal", "(I)J"⟩, 12), (⟨"RatePlanner", "changesOfPlan", "()J"⟩, 12), (⟨"RatePlanner", "bitsOfScene", "(I)I"⟩, 12), (⟨"RatePlanner", "meanOfScene", "(I)I"⟩, 12)]
theorem lw_r1 : ∀ q ∈ lw_privs_1, lw_okq q := List.forall_mem_cons.mpr ⟨lw_p0, List.forall_mem_cons.mpr ⟨lw_p1, List.forall_mem_cons.mpr ⟨lw_p2, List.forall_mem_cons.mpr ⟨lw_p3, List.forall_mem_cons.mpr ⟨lw_p4, List.forall_mem_cons.mpr ⟨lw_p5, List.forall_mem_cons.mpr ⟨lw_p6, List.forall_mem_cons.mpr ⟨lw_p7, List.forall_mem_cons.mpr ⟨lw_p8, List.forall_mem_cons.mpr ⟨lw_p9, List.forall_mem_cons.mpr ⟨lw_p10, List.forall_mem_cons.mpr ⟨lw_p11, List.forall_mem_cons.mpr ⟨lw_p12, List.forall_mem_cons.mpr ⟨lw_p13, List.forall_mem_cons.mpr ⟨lw_p14, fun _ h => absurd h List.not_mem_nil⟩⟩⟩⟩⟩⟩⟩⟩⟩⟩⟩⟩⟩⟩⟩
def lw_privs : List (MethodName × Nat) := lw_privs_1
def lw_tbl : List Cond := k2_sels lw_privs ++ tables_1
theorem lw_privs_ok : ∀ q ∈ lw_privs, lw_okq q := lw_r1
def RX0 : String := "RatePlanner$Clip"
def TX0 : u_T := fun k => match k with
  | 0 => ("RatePlanner$Clip", "length", "I", false)
  | 1 => ("RatePlanner$Clip", "textures", "[I", true)
  | _ => ("RatePlanner$Clip", "motions", "[I", true)
abbrev cX0_init : ByteArray := prog_2_method_1_code
def yX0_init : MethodName := ⟨RX0, "<init>", "()V"⟩
abbrev cX0_add : ByteArray := prog_2_method_2_code
def yX0_add : MethodName := ⟨RX0, "add", "(II)V"⟩
abbrev cX0_isCut : ByteArray := prog_2_method_3_code
def yX0_isCut : MethodName := ⟨RX0, "isCut", "(I)Z"⟩
def RX1 : String := "RatePlanner$Course"
def TX1 : u_T := fun k => match k with
  | 0 => ("RatePlanner$Course", "underflows", "I", false)
  | 1 => ("RatePlanner$Course", "bits", "[I", true)
  | 2 => ("RatePlanner$Course", "befores", "[I", true)
  | 3 => ("RatePlanner$Course", "afters", "[I", true)
  | 4 => ("RatePlanner$Course", "lacks", "[I", true)
  | 5 => ("RatePlanner$Course", "surpluses", "[I", true)
  | 6 => ("RatePlanner$Course", "model", "LRatePlanner$Model;", true)
  | 7 => ("RatePlanner$Course", "size", "I", false)
  | 8 => ("RatePlanner$Course", "rate", "I", false)
  | _ => ("RatePlanner$Course", "content", "I", false)
abbrev cX1_init : ByteArray := prog_3_method_1_code
def yX1_init : MethodName := ⟨RX1, "<init>", "(LRatePlanner$Model;)V"⟩
abbrev cX1_follow : ByteArray := prog_3_method_2_code
def yX1_follow : MethodName := ⟨RX1, "follow", "([I)V"⟩
abbrev cX1_takeBits : ByteArray := prog_3_method_3_code
def yX1_takeBits : MethodName := ⟨RX1, "takeBits", "([I)V"⟩
abbrev cX1_passAsSet : ByteArray := prog_3_method_4_code
def yX1_passAsSet : MethodName := ⟨RX1, "passAsSet", "()V"⟩
abbrev cX1_pass : ByteArray := prog_3_method_5_code
def yX1_pass : MethodName := ⟨RX1, "pass", "(III)V"⟩
abbrev cX1_begin : ByteArray := prog_3_method_6_code
def yX1_begin : MethodName := ⟨RX1, "begin", "(III)V"⟩
abbrev cX1_fillBefore : ByteArray := prog_3_method_7_code
def yX1_fillBefore : MethodName := ⟨RX1, "fillBefore", "(I)I"⟩
abbrev cX1_takeOut : ByteArray := prog_3_method_8_code
def yX1_takeOut : MethodName := ⟨RX1, "takeOut", "(II)V"⟩
def RX2 : String := "RatePlanner$Finder"
def TX2 : u_T := fun k => match k with
  | 0 => ("RatePlanner$Finder", "settings", "LRatePlanner$Settings;", true)
  | 1 => ("RatePlanner$Finder", "layout", "LRatePlanner$Layout;", true)
  | 2 => ("RatePlanner$Finder", "course", "LRatePlanner$Course;", true)
  | 3 => ("RatePlanner$Finder", "maker", "LRatePlanner$Maker;", true)
  | _ => ("RatePlanner$Finder", "trial", "[I", true)
abbrev cX2_init : ByteArray := prog_4_method_1_code
def yX2_init : MethodName := ⟨RX2, "<init>", "(LRatePlanner$Model;LRatePlanner$Course;LRatePlanner$Maker;)V"⟩
def RX3 : String := "RatePlanner$Layout"
def TX3 : u_T := fun k => match k with
  | 0 => ("RatePlanner$Layout", "length", "I", false)
  | 1 => ("RatePlanner$Layout", "scenes", "I", false)
  | 2 => ("RatePlanner$Layout", "groups", "I", false)
  | 3 => ("RatePlanner$Layout", "types", "[I", true)
  | 4 => ("RatePlanner$Layout", "sceneNumbers", "[I", true)
  | 5 => ("RatePlanner$Layout", "groupFirsts", "[I", true)
  | 6 => ("RatePlanner$Layout", "groupLengths", "[I", true)
  | 7 => ("RatePlanner$Layout", "works", "[I", true)
  | 8 => ("RatePlanner$Layout", "places", "[I", true)
  | _ => ("RatePlanner$Layout", "order", "[I", true)
abbrev cX3_init : ByteArray := prog_5_method_1_code
def yX3_init : MethodName := ⟨RX3, "<init>", "()V"⟩
abbrev cX3_arrange : ByteArray := prog_5_method_2_code
def yX3_arrange : MethodName := ⟨RX3, "arrange", "(LRatePlanner$Clip;LRatePlanner$Settings;)V"⟩
abbrev cX3_findStarts : ByteArray := prog_5_method_3_code
def yX3_findStarts : MethodName := ⟨RX3, "findStarts", "(LRatePlanner$Clip;I)V"⟩
abbrev cX3_measureGroups : ByteArray := prog_5_method_4_code
def yX3_measureGroups : MethodName := ⟨RX3, "measureGroups", "()V"⟩
abbrev cX3_chooseTypes : ByteArray := prog_5_method_5_code
def yX3_chooseTypes : MethodName := ⟨RX3, "chooseTypes", "(I)V"⟩
abbrev cX3_isMultiple : ByteArray := prog_5_method_6_code
def yX3_isMultiple : MethodName := ⟨RX3, "isMultiple", "(II)Z"⟩
abbrev cX3_putInOrder : ByteArray := prog_5_method_7_code
def yX3_putInOrder : MethodName := ⟨RX3, "putInOrder", "()V"⟩
abbrev cX3_putAt : ByteArray := prog_5_method_8_code
def yX3_putAt : MethodName := ⟨RX3, "putAt", "(II)V"⟩
abbrev cX3_weighWorks : ByteArray := prog_5_method_9_code
def yX3_weighWorks : MethodName := ⟨RX3, "weighWorks", "(LRatePlanner$Clip;)V"⟩
abbrev cX3_workOf : ByteArray := prog_5_method_10_code
def yX3_workOf : MethodName := ⟨RX3, "workOf", "(III)I"⟩
abbrev cX3_firstOfScene : ByteArray := prog_5_method_11_code
def yX3_firstOfScene : MethodName := ⟨RX3, "firstOfScene", "(I)I"⟩
abbrev cX3_framesOfScene : ByteArray := prog_5_method_12_code
def yX3_framesOfScene : MethodName := ⟨RX3, "framesOfScene", "(I)I"⟩
abbrev cX3_groupsOfScene : ByteArray := prog_5_method_13_code
def yX3_groupsOfScene : MethodName := ⟨RX3, "groupsOfScene", "(I)I"⟩
def RX4 : String := "RatePlanner$Maker"
def TX4 : u_T := fun k => match k with
  | 0 => ("RatePlanner$Maker", "model", "LRatePlanner$Model;", true)
  | 1 => ("RatePlanner$Maker", "settings", "LRatePlanner$Settings;", true)
  | 2 => ("RatePlanner$Maker", "layout", "LRatePlanner$Layout;", true)
  | 3 => ("RatePlanner$Maker", "course", "LRatePlanner$Course;", true)
  | _ => ("RatePlanner$Maker", "shares", "[I", true)
abbrev cX4_init : ByteArray := prog_6_method_1_code
def yX4_init : MethodName := ⟨RX4, "<init>", "(LRatePlanner$Model;LRatePlanner$Course;)V"⟩
abbrev cX4_planConstant : ByteArray := prog_6_method_2_code
def yX4_planConstant : MethodName := ⟨RX4, "planConstant", "([II)V"⟩
abbrev cX4_offsetOf : ByteArray := prog_6_method_4_code
def yX4_offsetOf : MethodName := ⟨RX4, "offsetOf", "(I)I"⟩
def RX5 : String := "RatePlanner$Mender"
def TX5 : u_T := fun k => match k with
  | 0 => ("RatePlanner$Mender", "model", "LRatePlanner$Model;", true)
  | 1 => ("RatePlanner$Mender", "settings", "LRatePlanner$Settings;", true)
  | 2 => ("RatePlanner$Mender", "layout", "LRatePlanner$Layout;", true)
  | 3 => ("RatePlanner$Mender", "course", "LRatePlanner$Course;", true)
  | 4 => ("RatePlanner$Mender", "trial", "[I", true)
  | 5 => ("RatePlanner$Mender", "nexts", "[I", true)
  | 6 => ("RatePlanner$Mender", "costs", "[J", true)
  | _ => ("RatePlanner$Mender", "gains", "[J", true)
abbrev cX5_init : ByteArray := prog_7_method_1_code
def yX5_init : MethodName := ⟨RX5, "<init>", "(LRatePlanner$Model;LRatePlanner$Course;)V"⟩
def RX6 : String := "RatePlanner$Model"
def TX6 : u_T := fun k => match k with
  | 0 => ("RatePlanner$Model", "layout", "LRatePlanner$Layout;", true)
  | 1 => ("RatePlanner$Model", "settings", "LRatePlanner$Settings;", true)
  | _ => ("RatePlanner$Model", "steps", "[I", true)
abbrev cX6_init : ByteArray := prog_8_method_1_code
def yX6_init : MethodName := ⟨RX6, "<init>", "(LRatePlanner$Layout;LRatePlanner$Settings;)V"⟩
abbrev cX6_bitsOf : ByteArray := prog_8_method_2_code
def yX6_bitsOf : MethodName := ⟨RX6, "bitsOf", "(II)I"⟩
abbrev cX6_lossOf : ByteArray := prog_8_method_3_code
def yX6_lossOf : MethodName := ⟨RX6, "lossOf", "(II)I"⟩
abbrev cX6_weightOf : ByteArray := prog_8_method_4_code
def yX6_weightOf : MethodName := ⟨RX6, "weightOf", "(I)I"⟩
def RX7 : String := "RatePlanner$Plan"
def TX7 : u_T := fun k => match k with
  | 0 => ("RatePlanner$Plan", "made", "Z", false)
  | _ => ("RatePlanner$Plan", "quantizers", "[I", true)
abbrev cX7_init : ByteArray := prog_9_method_1_code
def yX7_init : MethodName := ⟨RX7, "<init>", "()V"⟩
def RX8 : String := "RatePlanner$Settings"
def TX8 : u_T := fun k => match k with
  | 0 => ("RatePlanner$Settings", "interval", "I", false)
  | 1 => ("RatePlanner$Settings", "bridges", "I", false)
  | 2 => ("RatePlanner$Settings", "least", "I", false)
  | 3 => ("RatePlanner$Settings", "greatest", "I", false)
  | 4 => ("RatePlanner$Settings", "size", "I", false)
  | 5 => ("RatePlanner$Settings", "start", "I", false)
  | 6 => ("RatePlanner$Settings", "rate", "I", false)
  | 7 => ("RatePlanner$Settings", "zones", "I", false)
  | 8 => ("RatePlanner$Settings", "weights", "[I", true)
  | 9 => ("RatePlanner$Settings", "zoneFirsts", "[I", true)
  | 10 => ("RatePlanner$Settings", "zoneLasts", "[I", true)
  | _ => ("RatePlanner$Settings", "zoneOffsets", "[I", true)
abbrev cX8_init : ByteArray := prog_10_method_1_code
def yX8_init : MethodName := ⟨RX8, "<init>", "()V"⟩
abbrev cX8_settle : ByteArray := prog_10_method_3_code
def yX8_settle : MethodName := ⟨RX8, "settle", "(II)I"⟩
def RX9 : String := "RatePlanner$Slot"
def TX9 : u_T := fun k => match k with
  | 0 => ("RatePlanner$Slot", "used", "Z", false)
  | 1 => ("RatePlanner$Slot", "clip", "LRatePlanner$Clip;", true)
  | 2 => ("RatePlanner$Slot", "settings", "LRatePlanner$Settings;", true)
  | _ => ("RatePlanner$Slot", "plan", "LRatePlanner$Plan;", true)
abbrev cX9_init : ByteArray := prog_11_method_1_code
def yX9_init : MethodName := ⟨RX9, "<init>", "()V"⟩
def RX10 : String := "RatePlanner$Text"
def TX10 : u_T := fun k => match k with
  | 0 => ("RatePlanner$Text", "length", "I", false)
  | 1 => ("RatePlanner$Text", "read", "LRatePlanner$Clip;", true)
  | 2 => ("RatePlanner$Text", "letters", "[I", true)
  | 3 => ("RatePlanner$Text", "index", "I", false)
  | 4 => ("RatePlanner$Text", "number", "I", false)
  | _ => ("RatePlanner$Text", "fault", "I", false)
abbrev cX10_init : ByteArray := prog_12_method_1_code
def yX10_init : MethodName := ⟨RX10, "<init>", "()V"⟩
def RX11 : String := "RatePlanner"
def TX11 : u_T := fun k => match k with
  | 0 => ("RatePlanner", "clip", "LRatePlanner$Clip;", true)
  | 1 => ("RatePlanner", "settings", "LRatePlanner$Settings;", true)
  | 2 => ("RatePlanner", "plan", "LRatePlanner$Plan;", true)
  | 3 => ("RatePlanner", "text", "LRatePlanner$Text;", true)
  | 4 => ("RatePlanner", "layout", "LRatePlanner$Layout;", true)
  | 5 => ("RatePlanner", "model", "LRatePlanner$Model;", true)
  | 6 => ("RatePlanner", "course", "LRatePlanner$Course;", true)
  | 7 => ("RatePlanner", "maker", "LRatePlanner$Maker;", true)
  | 8 => ("RatePlanner", "mender", "LRatePlanner$Mender;", true)
  | 9 => ("RatePlanner", "finder", "LRatePlanner$Finder;", true)
  | 10 => ("RatePlanner", "firstSlot", "LRatePlanner$Slot;", true)
  | _ => ("RatePlanner", "secondSlot", "LRatePlanner$Slot;", true)
abbrev cX11_init : ByteArray := prog_1_method_1_code
def yX11_init : MethodName := ⟨RX11, "<init>", "()V"⟩
abbrev cX11_append : ByteArray := prog_1_method_2_code
def yX11_append : MethodName := ⟨RX11, "append", "(II)I"⟩
abbrev cX11_set : ByteArray := prog_1_method_3_code
def yX11_set : MethodName := ⟨RX11, "set", "(III)I"⟩
abbrev cX11_drop : ByteArray := prog_1_method_4_code
def yX11_drop : MethodName := ⟨RX11, "drop", "()I"⟩
abbrev cX11_frame : ByteArray := prog_1_method_8_code
def yX11_frame : MethodName := ⟨RX11, "frame", "(II)I"⟩
abbrev cX11_coded : ByteArray := prog_1_method_9_code
def yX11_coded : MethodName := ⟨RX11, "coded", "(I)I"⟩
abbrev cX11_setInterval : ByteArray := prog_1_method_10_code
def yX11_setInterval : MethodName := ⟨RX11, "setInterval", "(I)I"⟩
abbrev cX11_setBridges : ByteArray := prog_1_method_11_code
def yX11_setBridges : MethodName := ⟨RX11, "setBridges", "(I)I"⟩
abbrev cX11_setWeight : ByteArray := prog_1_method_12_code
def yX11_setWeight : MethodName := ⟨RX11, "setWeight", "(II)I"⟩
abbrev cX11_bitsAt : ByteArray := prog_1_method_18_code
def yX11_bitsAt : MethodName := ⟨RX11, "bitsAt", "(II)I"⟩
abbrev cX11_lossAt : ByteArray := prog_1_method_19_code
def yX11_lossAt : MethodName := ⟨RX11, "lossAt", "(II)I"⟩
abbrev cX11_constant : ByteArray := prog_1_method_20_code
def yX11_constant : MethodName := ⟨RX11, "constant", "(I)I"⟩
abbrev cX11_planned : ByteArray := prog_1_method_27_code
def yX11_planned : MethodName := ⟨RX11, "planned", "(II)I"⟩
abbrev cX11_total : ByteArray := prog_1_method_28_code
def yX11_total : MethodName := ⟨RX11, "total", "(I)J"⟩
abbrev cX11_scene : ByteArray := prog_1_method_29_code
def yX11_scene : MethodName := ⟨RX11, "scene", "(II)I"⟩
abbrev cX11_count : ByteArray := prog_1_method_37_code
def yX11_count : MethodName := ⟨RX11, "count", "(I)I"⟩
abbrev cX11_arrangeAnew : ByteArray := prog_1_method_40_code
def yX11_arrangeAnew : MethodName := ⟨RX11, "arrangeAnew", "()V"⟩
abbrev cX11_underflowsOfNewPlan : ByteArray := prog_1_method_41_code
def yX11_underflowsOfNewPlan : MethodName := ⟨RX11, "underflowsOfNewPlan", "()I"⟩
abbrev cX11_followedFrame : ByteArray := prog_1_method_42_code
def yX11_followedFrame : MethodName := ⟨RX11, "followedFrame", "(II)I"⟩
abbrev cX11_followedTotal : ByteArray := prog_1_method_43_code
def yX11_followedTotal : MethodName := ⟨RX11, "followedTotal", "(I)J"⟩
abbrev cX11_changesOfPlan : ByteArray := prog_1_method_44_code
def yX11_changesOfPlan : MethodName := ⟨RX11, "changesOfPlan", "()J"⟩
abbrev cX11_bitsOfScene : ByteArray := prog_1_method_45_code
def yX11_bitsOfScene : MethodName := ⟨RX11, "bitsOfScene", "(I)I"⟩
abbrev cX11_meanOfScene : ByteArray := prog_1_method_46_code
def yX11_meanOfScene : MethodName := ⟨RX11, "meanOfScene", "(I)I"⟩
abbrev cX11_isFrame : ByteArray := prog_1_method_47_code
def yX11_isFrame : MethodName := ⟨RX11, "isFrame", "(I)Z"⟩
abbrev cX11_isPicture : ByteArray := prog_1_method_48_code
def yX11_isPicture : MethodName := ⟨RX11, "isPicture", "(II)Z"⟩
abbrev cX11_isQuantizer : ByteArray := prog_1_method_49_code
def yX11_isQuantizer : MethodName := ⟨RX11, "isQuantizer", "(I)Z"⟩
abbrev cX11_within : ByteArray := prog_1_method_50_code
def yX11_within : MethodName := ⟨RX11, "within", "(III)Z"⟩
abbrev cX11_limit : ByteArray := prog_1_method_51_code
def yX11_limit : MethodName := ⟨RX11, "limit", "(III)I"⟩
abbrev cX11_at : ByteArray := prog_1_method_52_code
def yX11_at : MethodName := ⟨RX11, "at", "([II)I"⟩
abbrev cX11_put : ByteArray := prog_1_method_54_code
def yX11_put : MethodName := ⟨RX11, "put", "([III)V"⟩
abbrev cX11_ratio : ByteArray := prog_1_method_57_code
def yX11_ratio : MethodName := ⟨RX11, "ratio", "(JJ)J"⟩
def RX12 : String := "RatePlannerModel"
def TX12 : u_T := fun k => match k with
  | _ => ("", "", "", false)
def RL : String := "RatePlannerLaw"
abbrev cL_cell : ByteArray := method_2_code
def yL_cell : MethodName := ⟨RL, "cell", "([II)I"⟩
abbrev cL_low : ByteArray := method_3_code
def yL_low : MethodName := ⟨RL, "low", "(II)I"⟩
abbrev cL_isCut : ByteArray := method_4_code
def yL_isCut : MethodName := ⟨RL, "isCut", "([II)Z"⟩
abbrev cL_groupOf : ByteArray := method_5_code
def yL_groupOf : MethodName := ⟨RL, "groupOf", "([II)I"⟩
abbrev cL_type : ByteArray := method_6_code
def yL_type : MethodName := ⟨RL, "type", "([II)I"⟩
abbrev cL_sceneOf : ByteArray := method_7_code
def yL_sceneOf : MethodName := ⟨RL, "sceneOf", "([II)I"⟩
abbrev cL_bridgesBefore : ByteArray := method_8_code
def yL_bridgesBefore : MethodName := ⟨RL, "bridgesBefore", "([II)I"⟩
abbrev cL_place : ByteArray := method_9_code
def yL_place : MethodName := ⟨RL, "place", "([II)I"⟩
abbrev cL_step : ByteArray := method_10_code
def yL_step : MethodName := ⟨RL, "step", "(I)I"⟩
abbrev cL_work : ByteArray := method_11_code
def yL_work : MethodName := ⟨RL, "work", "([II)I"⟩
abbrev cL_bits : ByteArray := method_12_code
def yL_bits : MethodName := ⟨RL, "bits", "([III)I"⟩
abbrev cL_loss : ByteArray := method_13_code
def yL_loss : MethodName := ⟨RL, "loss", "([III)I"⟩
abbrev cL_grows : ByteArray := method_14_code
def yL_grows : MethodName := ⟨RL, "grows", "(LRatePlanner;[I[II)Z"⟩
abbrev cL_isTold : ByteArray := method_15_code
def yL_isTold : MethodName := ⟨RL, "isTold", "(LRatePlanner;[III)Z"⟩
abbrev cL_areScenes : ByteArray := method_16_code
def yL_areScenes : MethodName := ⟨RL, "areScenes", "(LRatePlanner;[I)Z"⟩
abbrev cL_law : ByteArray := code
def yL_law : MethodName := ⟨RL, "law", "([I)Z"⟩
abbrev vwCl : List vw_C := [(RX0, TX0, 3), (RX1, TX1, 10), (RX2, TX2, 5), (RX3, TX3, 10), (RX4, TX4, 5), (RX5, TX5, 8), (RX6, TX6, 3), (RX7, TX7, 2), (RX8, TX8, 12), (RX9, TX9, 4), (RX10, TX10, 6), (RX11, TX11, 12)]
/-! the methods: name, code, locals, result, class, static?, and where the tables speak of them -/
abbrev zMr : Type := MethodName × ByteArray × Nat × Option FieldType × Nat × Bool × Nat × Nat × Nat × Nat
def zMt0 : List zMr := [(yX0_init, cX0_init, 1, none, 0, false, 41, 40, 0, 17), (yX0_add, cX0_add, 3, none, 0, false, 430, 428, 429, 17), (yX0_isCut, cX0_isCut, 2, some .boolean, 0, false, 449, 447, 448, 17), (yX1_init, cX1_init, 2, none, 1, false, 241, 240, 0, 23), (yX1_follow, cX1_follow, 2, none, 1, false, 549, 547, 548, 23), (yX1_takeBits, cX1_takeBits, 4, none, 1, false, 553, 551, 552, 23), (yX1_passAsSet, cX1_passAsSet, 1, none, 1, false, 566, 564, 565, 23), (yX1_pass, cX1_pass, 5, none, 1, false, 570, 568, 569, 23), (yX1_begin, cX1_begin, 4, none, 1, false, 574, 572, 573, 23), (yX1_fillBefore, cX1_fillBefore, 3, some .int, 1, false, 578, 576, 577, 23), (yX1_takeOut, cX1_takeOut, 4, none, 1, false, 583, 581, 582, 23), (yX2_init, cX2_init, 4, none, 2, false, 338, 337, 0, 26), (yX3_init, cX3_init, 1, none, 3, false, 159, 158, 0, 21), (yX3_arrange, cX3_arrange, 3, none, 3, false, 441, 439, 440, 21), (yX3_findStarts, cX3_findStarts, 6, none, 3, false, 445, 444, 1, 21), (yX3_measureGroups, cX3_measureGroups, 4, none, 3, false, 455, 454, 2, 21), (yX3_chooseTypes, cX3_chooseTypes, 5, none, 3, false, 460, 459, 3, 21), (yX3_isMultiple, cX3_isMultiple, 2, some .boolean, 3, true, 463, 462, 0, 21), (yX3_putInOrder, cX3_putInOrder, 5, none, 3, false, 467, 466, 4, 21), (yX3_putAt, cX3_putAt, 3, none, 3, false, 471, 470, 5, 21), (yX3_weighWorks, cX3_weighWorks, 3, none, 3, false, 475, 474, 6, 21), (yX3_workOf, cX3_workOf, 3, some .int, 3, true, 478, 477, 0, 21), (yX3_firstOfScene, cX3_firstOfScene, 3, some .int, 3, false, 625, 623, 624, 21), (yX3_framesOfScene, cX3_framesOfScene, 4, some .int, 3, false, 629, 627, 628, 21)]
def zMt1 : List zMr := [(yX3_groupsOfScene, cX3_groupsOfScene, 4, some .int, 3, false, 643, 641, 642, 21), (yX4_init, cX4_init, 3, none, 4, false, 284, 283, 0, 24), (yX4_planConstant, cX4_planConstant, 4, none, 4, false, 520, 518, 519, 24), (yX4_offsetOf, cX4_offsetOf, 2, some .int, 4, false, 524, 523, 8, 24), (yX5_init, cX5_init, 3, none, 5, false, 306, 305, 0, 25), (yX6_init, cX6_init, 4, none, 6, false, 212, 211, 0, 22), (yX6_bitsOf, cX6_bitsOf, 3, some .int, 6, false, 558, 556, 557, 22), (yX6_lossOf, cX6_lossOf, 5, some .int, 6, false, 596, 594, 595, 22), (yX6_weightOf, cX6_weightOf, 2, some .int, 6, false, 600, 598, 599, 22), (yX7_init, cX7_init, 1, none, 7, false, 121, 120, 0, 19), (yX8_init, cX8_init, 2, none, 8, false, 64, 63, 0, 18), (yX8_settle, cX8_settle, 5, some .int, 8, false, 529, 527, 528, 18), (yX9_init, cX9_init, 1, none, 9, false, 360, 359, 0, 27), (yX10_init, cX10_init, 1, none, 10, false, 135, 134, 0, 20), (yX11_init, cX11_init, 1, none, 11, false, 33, 32, 0, 16), (yX11_append, cX11_append, 3, some .int, 11, false, 420, 418, 419, 16), (yX11_set, cX11_set, 4, some .int, 11, false, 482, 480, 481, 16), (yX11_drop, cX11_drop, 1, some .int, 11, false, 492, 490, 491, 16), (yX11_frame, cX11_frame, 3, some .int, 11, false, 496, 494, 495, 16), (yX11_coded, cX11_coded, 2, some .int, 11, false, 501, 499, 500, 16), (yX11_setInterval, cX11_setInterval, 3, some .int, 11, false, 505, 503, 504, 16), (yX11_setBridges, cX11_setBridges, 3, some .int, 11, false, 509, 507, 508, 16), (yX11_setWeight, cX11_setWeight, 4, some .int, 11, false, 665, 663, 664, 16), (yX11_bitsAt, cX11_bitsAt, 3, some .int, 11, false, 690, 688, 689, 16)]
def zMt2 : List zMr := [(yX11_lossAt, cX11_lossAt, 3, some .int, 11, false, 700, 698, 699, 16), (yX11_constant, cX11_constant, 2, some .int, 11, false, 513, 511, 512, 16), (yX11_planned, cX11_planned, 3, some .int, 11, false, 588, 586, 587, 16), (yX11_total, cX11_total, 2, some .long, 11, false, 604, 602, 603, 16), (yX11_scene, cX11_scene, 3, some .int, 11, false, 621, 619, 620, 16), (yX11_count, cX11_count, 2, some .int, 11, false, 647, 645, 646, 16), (yX11_arrangeAnew, cX11_arrangeAnew, 1, none, 11, false, 437, 436, 0, 16), (yX11_underflowsOfNewPlan, cX11_underflowsOfNewPlan, 1, some .int, 11, false, 545, 544, 9, 16), (yX11_followedFrame, cX11_followedFrame, 5, some .int, 11, false, 592, 591, 10, 16), (yX11_followedTotal, cX11_followedTotal, 5, some .long, 11, false, 610, 609, 11, 16), (yX11_changesOfPlan, cX11_changesOfPlan, 5, some .long, 11, false, 614, 613, 12, 16), (yX11_bitsOfScene, cX11_bitsOfScene, 4, some .int, 11, false, 633, 632, 13, 16), (yX11_meanOfScene, cX11_meanOfScene, 4, some .int, 11, false, 638, 637, 14, 16), (yX11_isFrame, cX11_isFrame, 2, some .boolean, 11, false, 486, 485, 7, 16), (yX11_isPicture, cX11_isPicture, 2, some .boolean, 11, true, 423, 422, 0, 16), (yX11_isQuantizer, cX11_isQuantizer, 1, some .boolean, 11, true, 516, 515, 0, 16), (yX11_within, cX11_within, 3, some .boolean, 11, true, 426, 425, 0, 16), (yX11_limit, cX11_limit, 3, some .int, 11, true, 534, 533, 0, 16), (yX11_at, cX11_at, 2, some .int, 11, true, 218, 217, 0, 16), (yX11_put, cX11_put, 3, none, 11, true, 433, 432, 0, 16), (yX11_ratio, cX11_ratio, 4, some .long, 11, true, 561, 560, 0, 16), (yL_cell, cL_cell, 2, some .int, 13, true, 650, 649, 0, 15), (yL_low, cL_low, 2, some .int, 13, true, 654, 653, 0, 15), (yL_isCut, cL_isCut, 2, some .boolean, 13, true, 658, 657, 0, 15)]
def zMt3 : List zMr := [(yL_groupOf, cL_groupOf, 4, some .int, 13, true, 671, 670, 0, 15), (yL_type, cL_type, 4, some .int, 13, true, 674, 673, 0, 15), (yL_sceneOf, cL_sceneOf, 4, some .int, 13, true, 677, 676, 0, 15), (yL_bridgesBefore, cL_bridgesBefore, 3, some .int, 13, true, 683, 682, 0, 15), (yL_place, cL_place, 3, some .int, 13, true, 680, 679, 0, 15), (yL_step, cL_step, 2, some .int, 13, true, 696, 695, 0, 15), (yL_work, cL_work, 3, some .int, 13, true, 686, 685, 0, 15), (yL_bits, cL_bits, 3, some .int, 13, true, 693, 692, 0, 15), (yL_loss, cL_loss, 4, some .int, 13, true, 703, 702, 0, 15), (yL_grows, cL_grows, 8, some .boolean, 13, true, 661, 660, 0, 15), (yL_isTold, cL_isTold, 7, some .boolean, 13, true, 668, 667, 0, 15), (yL_areScenes, cL_areScenes, 10, some .boolean, 13, true, 707, 706, 0, 15), (⟨RL, "law", "([I)Z"⟩, cL_law, 7, some .boolean, 13, true, 0, 0, 0, 0)]
def zMt : List zMr := zMt0 ++ (zMt1 ++ (zMt2 ++ (zMt3)))
abbrev nX0_init : Nat := 0
abbrev nX0_add : Nat := 1
abbrev nX0_isCut : Nat := 2
abbrev nX1_init : Nat := 3
abbrev nX1_follow : Nat := 4
abbrev nX1_takeBits : Nat := 5
abbrev nX1_passAsSet : Nat := 6
abbrev nX1_pass : Nat := 7
abbrev nX1_begin : Nat := 8
abbrev nX1_fillBefore : Nat := 9
abbrev nX1_takeOut : Nat := 10
abbrev nX2_init : Nat := 11
abbrev nX3_init : Nat := 12
abbrev nX3_arrange : Nat := 13
abbrev nX3_findStarts : Nat := 14
abbrev nX3_measureGroups : Nat := 15
abbrev nX3_chooseTypes : Nat := 16
abbrev nX3_isMultiple : Nat := 17
abbrev nX3_putInOrder : Nat := 18
abbrev nX3_putAt : Nat := 19
abbrev nX3_weighWorks : Nat := 20
abbrev nX3_workOf : Nat := 21
abbrev nX3_firstOfScene : Nat := 22
abbrev nX3_framesOfScene : Nat := 23
abbrev nX3_groupsOfScene : Nat := 24
abbrev nX4_init : Nat := 25
abbrev nX4_planConstant : Nat := 26
abbrev nX4_offsetOf : Nat := 27
abbrev nX5_init : Nat := 28
abbrev nX6_init : Nat := 29
abbrev nX6_bitsOf : Nat := 30
abbrev nX6_lossOf : Nat := 31
abbrev nX6_weightOf : Nat := 32
abbrev nX7_init : Nat := 33
abbrev nX8_init : Nat := 34
abbrev nX8_settle : Nat := 35
abbrev nX9_init : Nat := 36
abbrev nX10_init : Nat := 37
abbrev nX11_init : Nat := 38
abbrev nX11_append : Nat := 39
abbrev nX11_set : Nat := 40
abbrev nX11_drop : Nat := 41
abbrev nX11_frame : Nat := 42
abbrev nX11_coded : Nat := 43
abbrev nX11_setInterval : Nat := 44
abbrev nX11_setBridges : Nat := 45
abbrev nX11_setWeight : Nat := 46
abbrev nX11_bitsAt : Nat := 47
abbrev nX11_lossAt : Nat := 48
abbrev nX11_constant : Nat := 49
abbrev nX11_planned : Nat := 50
abbrev nX11_total : Nat := 51
abbrev nX11_scene : Nat := 52
abbrev nX11_count : Nat := 53
abbrev nX11_arrangeAnew : Nat := 54
abbrev nX11_underflowsOfNewPlan : Nat := 55
abbrev nX11_followedFrame : Nat := 56
abbrev nX11_followedTotal : Nat := 57
abbrev nX11_changesOfPlan : Nat := 58
abbrev nX11_bitsOfScene : Nat := 59
abbrev nX11_meanOfScene : Nat := 60
abbrev nX11_isFrame : Nat := 61
abbrev nX11_isPicture : Nat := 62
abbrev nX11_isQuantizer : Nat := 63
abbrev nX11_within : Nat := 64
abbrev nX11_limit : Nat := 65
abbrev nX11_at : Nat := 66
abbrev nX11_put : Nat := 67
abbrev nX11_ratio : Nat := 68
abbrev nL_cell : Nat := 69
abbrev nL_low : Nat := 70
abbrev nL_isCut : Nat := 71
abbrev nL_groupOf : Nat := 72
abbrev nL_type : Nat := 73
abbrev nL_sceneOf : Nat := 74
abbrev nL_bridgesBefore : Nat := 75
abbrev nL_place : Nat := 76
abbrev nL_step : Nat := 77
abbrev nL_work : Nat := 78
abbrev nL_bits : Nat := 79
abbrev nL_loss : Nat := 80
abbrev nL_grows : Nat := 81
abbrev nL_isTold : Nat := 82
abbrev nL_areScenes : Nat := 83
abbrev nL_law : Nat := 84
/-! the shape of the world behind the makings: a role each cell -/
abbrev zKd : Type := Nat × Nat × List (Nat × Nat)
def zSh : List zKd := [(0, 11, [(0, 1), (0, 4), (0, 9), (0, 11), (0, 16), (0, 24), (0, 26), (0, 32), (0, 34), (0, 39), (0, 41), (0, 52)]), (0, 0, [(1, 0), (0, 2), (0, 3)]), (1, 60, []), (1, 60, []), (0, 8, [(1, 0), (1, 0), (1, 0), (1, 0), (1, 0), (1, 0), (1, 0), (1, 0), (0, 5), (0, 6), (0, 7), (0, 8)]), (1, 60, []), (1, 6, []), (1, 6, []), (1, 6, []), (0, 7, [(2, 0), (0, 10)]), (1, 60, []), (0, 10, [(1, 0), (0, 12), (0, 15), (1, 0), (1, 0), (1, 0)]), (0, 0, [(1, 0), (0, 13), (0, 14)]), (1, 60, []), (1, 60, []), (1, 100, []), (0, 3, [(1, 0), (1, 0), (1, 0), (0, 17), (0, 18), (0, 19), (0, 20), (0, 21), (0, 22), (0, 23)]), (1, 60, []), (1, 60, []), (1, 60, []), (1, 60, []), (1, 60, []), (1, 60, []), (1, 60, []), (0, 6, [(0, 16), (0, 4), (0, 25)]), (1, 52, []), (0, 1, [(1, 0), (0, 27), (0, 28), (0, 29), (0, 30), (0, 31), (0, 24), (1, 0), (1, 0), (1, 0)]), (1, 60, []), (1, 60, []), (1, 60, []), (1, 60, []), (1, 60, []), (0, 4, [(0, 24), (0, 4), (0, 16), (0, 26), (0, 33)]), (1, 60, []), (0, 5, [(0, 24), (0, 4), (0, 16), (0, 26), (0, 35), (0, 36), (0, 37), (0, 38)]), (1, 60, []), (1, 60, []), (2, 60, []), (2, 60, []), (0, 2, [(0, 4), (0, 16), (0, 26), (0, 32), (0, 40)]), (1, 60, []), (0, 9, [(2, 0), (0, 42), (0, 45), (0, 50)]), (0, 0, [(1, 0), (0, 43), (0, 44)]), (1, 60, []), (1, 60, []), (0, 8, [(1, 0), (1, 0), (1, 0), (1, 0), (1, 0), (1, 0), (1, 0), (1, 0), (0, 46), (0, 47), (0, 48), (0, 49)]), (1, 60, []), (1, 6, []), (1, 6, []), (1, 6, []), (0, 7, [(2, 0), (0, 51)]), (1, 60, []), (0, 9, [(2, 0), (0, 53), (0, 56), (0, 61)]), (0, 0, [(1, 0), (0, 54), (0, 55)]), (1, 60, []), (1, 60, []), (0, 8, [(1, 0), (1, 0), (1, 0), (1, 0), (1, 0), (1, 0), (1, 0), (1, 0), (0, 57), (0, 58), (0, 59), (0, 60)]), (1, 60, []), (1, 6, []), (1, 6, []), (1, 6, []), (0, 7, [(2, 0), (0, 62)]), (1, 60, []), (1, 64, [])]
end
section
/-! the tables as the small machine reads them, and what a program checks of them -/
def zMe (mi : Nat) : zMr := zMt.getD mi (⟨"", "", ""⟩, ⟨#[]⟩, 0, none, 99, false, 0, 0, 0, 0)
def zY (mi : Nat) : MethodName := (zMe mi).1
def zBy (mi : Nat) : ByteArray := (zMe mi).2.1
def zMl (mi : Nat) : Nat := (zMe mi).2.2.1
def zRt (mi : Nat) : Option FieldType := (zMe mi).2.2.2.1
def zMc (mi : Nat) : Nat := (zMe mi).2.2.2.2.1
def zMs (mi : Nat) : Bool := (zMe mi).2.2.2.2.2.1
def zP1 (mi : Nat) : Nat := (zMe mi).2.2.2.2.2.2.1
def zP2 (mi : Nat) : Nat := (zMe mi).2.2.2.2.2.2.2.1
def zP3 (mi : Nat) : Nat := (zMe mi).2.2.2.2.2.2.2.2.1
def zP4 (mi : Nat) : Nat := (zMe mi).2.2.2.2.2.2.2.2.2
def zCl (a : Nat) : vw_C := vwCl.getD a ("", fun _ => ("", "", "", false), 0)
def zNst : Cond → Bool
  | .methodLinkNest .. => true
  | .fieldLinkNest .. => true
  | _ => false
def zTg : List Cond := lw_tbl.filter goodWord
def zNw : List Cond := lw_tbl.filter zNst
theorem zin (p : Nat) {w : Cond} (h : lw_tbl[p]? = some w) (hg : goodWord w = true) : w ∈ zTg := List.mem_filter.mpr ⟨List.mem_of_getElem? h, hg⟩
theorem zinN (p : Nat) {w : Cond} (h : lw_tbl[p]? = some w) (hg : zNst w = true) : w ∈ zNw := List.mem_filter.mpr ⟨List.mem_of_getElem? h, hg⟩
theorem zTg_good {w : Cond} (h : w ∈ zTg) : w ∈ lw_tbl ∧ ((w.onTables && w.keeps) = true ∨ ∃ ty, w = .arrayClass ty) := ⟨(List.mem_filter.mp h).1, good_of_word (List.mem_filter.mp h).2⟩
def zNoH (y : MethodName) : Bool := decide (y.cls ≠ "java/lang/invoke/MethodHandle") && decide (y.cls ≠ "java/lang/invoke/VarHandle")
/-- a method's own row is true -/
def zMv (mi : Nat) : Bool := decide (lw_tbl[zP1 mi]? = some (.code (zY mi) (zBy mi) (zMl mi) (zRt mi))) && decide (lw_tbl[zP4 mi]? = some (.initialized (zY mi).cls)) && zNoH (zY mi) && plainName (zY mi).cls && Nat.ble (zMl mi) 13 &&
  (match zMs mi with
  | true => decide (lw_tbl[zP2 mi]? = some (.static (zY mi)))
  | false => decide (lw_tbl[zP2 mi]? = some (.instanceMethod (zY mi))) && (decide ((zY mi).name = "<init>") || decide (lw_tbl[zP3 mi]? = some (.selects (zY mi).cls (zY mi) (zY mi)))) && Nat.blt (zMc mi) 12 && decide ((zCl (zMc mi)).1 = (zY mi).cls))
/-- a class's row is true -/
def zCv (q : vw_C) : Bool := (u_ws q.1 q.2.1 q.2.2).all (fun w => decide (w ∈ lw_tbl) && goodWord w) && (List.range q.2.2).all fun k => (parseFieldDescriptor (q.2.1 k).2.2.1).isSome && (List.range q.2.2).all fun j => Nat.beq j k || decide ((q.2.1 j).2.1 ≠ (q.2.1 k).2.1)
end
section
/-! the tables' rows are true: checked by computation -/
theorem zv0 : zMv 0 = true := by decide +kernel
theorem zv1 : zMv 1 = true := by decide +kernel
theorem zv2 : zMv 2 = true := by decide +kernel
theorem zv3 : zMv 3 = true := by decide +kernel
theorem zv4 : zMv 4 = true := by decide +kernel
theorem zv5 : zMv 5 = true := by decide +kernel
theorem zv6 : zMv 6 = true := by decide +kernel
theorem zv7 : zMv 7 = true := by decide +kernel
theorem zv8 : zMv 8 = true := by decide +kernel
theorem zv9 : zMv 9 = true := by decide +kernel
theorem zv10 : zMv 10 = true := by decide +kernel
theorem zv11 : zMv 11 = true := by decide +kernel
theorem zv12 : zMv 12 = true := by decide +kernel
theorem zv13 : zMv 13 = true := by decide +kernel
theorem zv14 : zMv 14 = true := by decide +kernel
theorem zv15 : zMv 15 = true := by decide +kernel
theorem zv16 : zMv 16 = true := by decide +kernel
theorem zv17 : zMv 17 = true := by decide +kernel
theorem zv18 : zMv 18 = true := by decide +kernel
theorem zv19 : zMv 19 = true := by decide +kernel
theorem zv20 : zMv 20 = true := by decide +kernel
theorem zv21 : zMv 21 = true := by decide +kernel
theorem zv22 : zMv 22 = true := by decide +kernel
theorem zv23 : zMv 23 = true := by decide +kernel
theorem zv24 : zMv 24 = true := by decide +kernel
theorem zv25 : zMv 25 = true := by decide +kernel
theorem zv26 : zMv 26 = true := by decide +kernel
theorem zv27 : zMv 27 = true := by decide +kernel
theorem zv28 : zMv 28 = true := by decide +kernel
theorem zv29 : zMv 29 = true := by decide +kernel
theorem zv30 : zMv 30 = true := by decide +kernel
theorem zv31 : zMv 31 = true := by decide +kernel
theorem zv32 : zMv 32 = true := by decide +kernel
theorem zv33 : zMv 33 = true := by decide +kernel
theorem zv34 : zMv 34 = true := by decide +kernel
theorem zv35 : zMv 35 = true := by decide +kernel
theorem zv36 : zMv 36 = true := by decide +kernel
theorem zv37 : zMv 37 = true := by decide +kernel
theorem zv38 : zMv 38 = true := by decide +kernel
theorem zv39 : zMv 39 = true := by decide +kernel
theorem zv40 : zMv 40 = true := by decide +kernel
theorem zv41 : zMv 41 = true := by decide +kernel
theorem zv42 : zMv 42 = true := by decide +kernel
theorem zv43 : zMv 43 = true := by decide +kernel
theorem zv44 : zMv 44 = true := by decide +kernel
theorem zv45 : zMv 45 = true := by decide +kernel
theorem zv46 : zMv 46 = true := by decide +kernel
theorem zv47 : zMv 47 = true := by decide +kernel
theorem zv48 : zMv 48 = true := by decide +kernel
theorem zv49 : zMv 49 = true := by decide +kernel
theorem zv50 : zMv 50 = true := by decide +kernel
theorem zv51 : zMv 51 = true := by decide +kernel
theorem zv52 : zMv 52 = true := by decide +kernel
theorem zv53 : zMv 53 = true := by decide +kernel
theorem zv54 : zMv 54 = true := by decide +kernel
theorem zv55 : zMv 55 = true := by decide +kernel
theorem zv56 : zMv 56 = true := by decide +kernel
theorem zv57 : zMv 57 = true := by decide +kernel
theorem zv58 : zMv 58 = true := by decide +kernel
theorem zv59 : zMv 59 = true := by decide +kernel
theorem zv60 : zMv 60 = true := by decide +kernel
theorem zv61 : zMv 61 = true := by decide +kernel
theorem zv62 : zMv 62 = true := by decide +kernel
theorem zv63 : zMv 63 = true := by decide +kernel
theorem zv64 : zMv 64 = true := by decide +kernel
theorem zv65 : zMv 65 = true := by decide +kernel
theorem zv66 : zMv 66 = true := by decide +kernel
theorem zv67 : zMv 67 = true := by decide +kernel
theorem zv68 : zMv 68 = true := by decide +kernel
theorem zv69 : zMv 69 = true := by decide +kernel
theorem zv70 : zMv 70 = true := by decide +kernel
theorem zv71 : zMv 71 = true := by decide +kernel
theorem zv72 : zMv 72 = true := by decide +kernel
theorem zv73 : zMv 73 = true := by decide +kernel
theorem zv74 : zMv 74 = true := by decide +kernel
theorem zv75 : zMv 75 = true := by decide +kernel
theorem zv76 : zMv 76 = true := by decide +kernel
theorem zv77 : zMv 77 = true := by decide +kernel
theorem zv78 : zMv 78 = true := by decide +kernel
theorem zv79 : zMv 79 = true := by decide +kernel
theorem zv80 : zMv 80 = true := by decide +kernel
theorem zv81 : zMv 81 = true := by decide +kernel
theorem zv82 : zMv 82 = true := by decide +kernel
theorem zv83 : zMv 83 = true := by decide +kernel
theorem zvr0 : ∀ q ∈ [0, 1, 2, 3, 4, 5, 6, 7, 8, 9, 10, 11, 12, 13, 14, 15], zMv q = true := List.forall_mem_cons.mpr ⟨zv0, List.forall_mem_cons.mpr ⟨zv1, List.forall_mem_cons.mpr ⟨zv2, List.forall_mem_cons.mpr ⟨zv3, List.forall_mem_cons.mpr ⟨zv4, List.forall_mem_cons.mpr ⟨zv5, List.forall_mem_cons.mpr ⟨zv6, List.forall_mem_cons.mpr ⟨zv7, List.forall_mem_cons.mpr ⟨zv8, List.forall_mem_cons.mpr ⟨zv9, List.forall_mem_cons.mpr ⟨zv10, List.forall_mem_cons.mpr ⟨zv11, List.forall_mem_cons.mpr ⟨zv12, List.forall_mem_cons.mpr ⟨zv13, List.forall_mem_cons.mpr ⟨zv14, List.forall_mem_cons.mpr ⟨zv15, fun _ h => absurd h List.not_mem_nil⟩⟩⟩⟩⟩⟩⟩⟩⟩⟩⟩⟩⟩⟩⟩⟩
theorem zvr1 : ∀ q ∈ [16, 17, 18, 19, 20, 21, 22, 23, 24, 25, 26, 27, 28, 29, 30, 31], zMv q = true := List.forall_mem_cons.mpr ⟨zv16, List.forall_mem_cons.mpr ⟨zv17, List.forall_mem_cons.mpr ⟨zv18, List.forall_mem_cons.mpr ⟨zv19, List.forall_mem_cons.mpr ⟨zv20, List.forall_mem_cons.mpr ⟨zv21, List.forall_mem_cons.mpr ⟨zv22, List.forall_mem_cons.mpr ⟨zv23, List.forall_mem_cons.mpr ⟨zv24, List.forall_mem_cons.mpr ⟨zv25, List.forall_mem_cons.mpr ⟨zv26, List.forall_mem_cons.mpr ⟨zv27, List.forall_mem_cons.mpr ⟨zv28, List.forall_mem_cons.mpr ⟨zv29, List.forall_mem_cons.mpr ⟨zv30, List.forall_mem_cons.mpr ⟨zv31, fun _ h => absurd h List.not_mem_nil⟩⟩⟩⟩⟩⟩⟩⟩⟩⟩⟩⟩⟩⟩⟩⟩
theorem zvr2 : ∀ q ∈ [32, 33, 34, 35, 36, 37, 38, 39, 40, 41, 42, 43, 44, 45, 46, 47], zMv q = true := List.forall_mem_cons.mpr ⟨zv32, List.forall_mem_cons.mpr ⟨zv33, List.forall_mem_cons.mpr ⟨zv34, List.forall_mem_cons.mpr ⟨zv35, List.forall_mem_cons.mpr ⟨zv36, List.forall_mem_cons.mpr ⟨zv37, List.forall_mem_cons.mpr ⟨zv38, List.forall_mem_cons.mpr ⟨zv39, List.forall_mem_cons.mpr ⟨zv40, List.forall_mem_cons.mpr ⟨zv41, List.forall_mem_cons.mpr ⟨zv42, List.forall_mem_cons.mpr ⟨zv43, List.forall_mem_cons.mpr ⟨zv44, List.forall_mem_cons.mpr ⟨zv45, List.forall_mem_cons.mpr ⟨zv46, List.forall_mem_cons.mpr ⟨zv47, fun _ h => absurd h List.not_mem_nil⟩⟩⟩⟩⟩⟩⟩⟩⟩⟩⟩⟩⟩⟩⟩⟩
theorem zvr3 : ∀ q ∈ [48, 49, 50, 51, 52, 53, 54, 55, 56, 57, 58, 59, 60, 61, 62, 63], zMv q = true := List.forall_mem_cons.mpr ⟨zv48, List.forall_mem_cons.mpr ⟨zv49, List.forall_mem_cons.mpr ⟨zv50, List.forall_mem_cons.mpr ⟨zv51, List.forall_mem_cons.mpr ⟨zv52, List.forall_mem_cons.mpr ⟨zv53, List.forall_mem_cons.mpr ⟨zv54, List.forall_mem_cons.mpr ⟨zv55, List.forall_mem_cons.mpr ⟨zv56, List.forall_mem_cons.mpr ⟨zv57, List.forall_mem_cons.mpr ⟨zv58, List.forall_mem_cons.mpr ⟨zv59, List.forall_mem_cons.mpr ⟨zv60, List.forall_mem_cons.mpr ⟨zv61, List.forall_mem_cons.mpr ⟨zv62, List.forall_mem_cons.mpr ⟨zv63, fun _ h => absurd h List.not_mem_nil⟩⟩⟩⟩⟩⟩⟩⟩⟩⟩⟩⟩⟩⟩⟩⟩
theorem zvr4 : ∀ q ∈ [64, 65, 66, 67, 68, 69, 70, 71, 72, 73, 74, 75, 76, 77, 78, 79], zMv q = true := List.forall_mem_cons.mpr ⟨zv64, List.forall_mem_cons.mpr ⟨zv65, List.forall_mem_cons.mpr ⟨zv66, List.forall_mem_cons.mpr ⟨zv67, List.forall_mem_cons.mpr ⟨zv68, List.forall_mem_cons.mpr ⟨zv69, List.forall_mem_cons.mpr ⟨zv70, List.forall_mem_cons.mpr ⟨zv71, List.forall_mem_cons.mpr ⟨zv72, List.forall_mem_cons.mpr ⟨zv73, List.forall_mem_cons.mpr ⟨zv74, List.forall_mem_cons.mpr ⟨zv75, List.forall_mem_cons.mpr ⟨zv76, List.forall_mem_cons.mpr ⟨zv77, List.forall_mem_cons.mpr ⟨zv78, List.forall_mem_cons.mpr ⟨zv79, fun _ h => absurd h List.not_mem_nil⟩⟩⟩⟩⟩⟩⟩⟩⟩⟩⟩⟩⟩⟩⟩⟩
theorem zvr5 : ∀ q ∈ [80, 81, 82, 83], zMv q = true := List.forall_mem_cons.mpr ⟨zv80, List.forall_mem_cons.mpr ⟨zv81, List.forall_mem_cons.mpr ⟨zv82, List.forall_mem_cons.mpr ⟨zv83, fun _ h => absurd h List.not_mem_nil⟩⟩⟩⟩
theorem zvs : ∀ q ∈ [0, 1, 2, 3, 4, 5, 6, 7, 8, 9, 10, 11, 12, 13, 14, 15] ++ ([16, 17, 18, 19, 20, 21, 22, 23, 24, 25, 26, 27, 28, 29, 30, 31] ++ ([32, 33, 34, 35, 36, 37, 38, 39, 40, 41, 42, 43, 44, 45, 46, 47] ++ ([48, 49, 50, 51, 52, 53, 54, 55, 56, 57, 58, 59, 60, 61, 62, 63] ++ ([64, 65, 66, 67, 68, 69, 70, 71, 72, 73, 74, 75, 76, 77, 78, 79] ++ ([80, 81, 82, 83]))))), zMv q = true := (List.forall_mem_append.mpr ⟨zvr0, (List.forall_mem_append.mpr ⟨zvr1, (List.forall_mem_append.mpr ⟨zvr2, (List.forall_mem_append.mpr ⟨zvr3, (List.forall_mem_append.mpr ⟨zvr4, zvr5⟩)⟩)⟩)⟩)⟩)
theorem zMv_all : ∀ mi, mi < 85 → mi ≠ nL_law → zMv mi = true := fun mi h h2 => zvs mi (of_decide_eq_true (List.all_eq_true.mp (by decide +kernel : ((List.range 85).all fun k => decide (k ≠ nL_law → k ∈ [0, 1, 2, 3, 4, 5, 6, 7, 8, 9, 10, 11, 12, 13, 14, 15] ++ ([16, 17, 18, 19, 20, 21, 22, 23, 24, 25, 26, 27, 28, 29, 30, 31] ++ ([32, 33, 34, 35, 36, 37, 38, 39, 40, 41, 42, 43, 44, 45, 46, 47] ++ ([48, 49, 50, 51, 52, 53, 54, 55, 56, 57, 58, 59, 60, 61, 62, 63] ++ ([64, 65, 66, 67, 68, 69, 70, 71, 72, 73, 74, 75, 76, 77, 78, 79] ++ ([80, 81, 82, 83]))))))) = true) mi (List.mem_range.mpr h)) h2)
set_option maxRecDepth 100000 in
theorem zCv_all : vwCl.all zCv = true := by decide +kernel
set_option maxRecDepth 100000 in
theorem zIn_max : lw_tbl.contains (.static Lib.Math.max.name) && lw_tbl.contains (.code Lib.Math.max.name Lib.Math.max.code 2 (some .int)) && lw_tbl.contains (.static Lib.Math.min.name) && lw_tbl.contains (.code Lib.Math.min.name Lib.Math.min.code 2 (some .int)) && lw_tbl.contains (.static Lib.Math.abs.name) && lw_tbl.contains (.code Lib.Math.abs.name Lib.Math.abs.code 1 (some .int)) && lw_tbl.contains (.initialized "java/lang/Math") = true := by decide +kernel
end
section
/-! A SMALL MACHINE: what a method's code does to numbers alone. A reference is a role (a place in zSh); the world's numbers are a pair of functions. -/
abbrev zF : Type := Nat → Nat → Int32
abbrev zL : Type := Nat → Nat → Int64
abbrev zS : Type := zF × zL
/-- an instruction, read ahead: (instr, next pc, a, b, c, e, place of its word, int, long, targets) -/
abbrev zOp : Type := Instr × Nat × Nat × Nat × Nat × Nat × Nat × Int32 × Int64 × List (Int32 × Nat)
abbrev zLo : Type := List (Option Value)
abbrev zPo : Type := Option Value → zS → Prop
abbrev zCa : Type := Nat → List Value → zS → zPo → Prop
abbrev zX : Type := Nat → zLo → List Value → zS → Prop
def zK (r : Nat) : zKd := zSh.getD r (9, 0, [])
def zIsO (r ci : Nat) : Bool := Nat.beq (zK r).1 0 && Nat.beq (zK r).2.1 ci
def zSl (r j : Nat) : Nat × Nat := (zK r).2.2.getD j (9, 0)
def zTo (r j : Nat) : Nat := (zSl r j).2
def zIsI (r : Nat) : Bool := Nat.beq (zK r).1 1
def zIsJ (r : Nat) : Bool := Nat.beq (zK r).1 2
def zN (r : Nat) : Nat := (zK r).2.1
def zG (b : Bool) (P : Prop) : Prop := match b with
  | true => P
  | false => False
def zSI (σ : zS) (r j : Nat) (x : Int32) : zS := (fun a => if a = r then upd (σ.1 a) j x else σ.1 a, σ.2)
def zSJ (σ : zS) (r j : Nat) (x : Int64) : zS := (σ.1, fun a => if a = r then vp_updL (σ.2 a) j x else σ.2 a)
def zSR (σ : zS) (r : Nat) (f : Nat → Int32) : zS := (fun a => if a = r then f else σ.1 a, σ.2)
-- what is taken off the stack
def zI (st : List Value) (k : Int32 → List Value → Prop) : Prop := match st with
  | .int x :: r => k x r
  | _ => False
def zJ (st : List Value) (k : Int64 → List Value → Prop) : Prop := match st with
  | .long x :: r => k x r
  | _ => False
def zA (st : List Value) (k : Nat → List Value → Prop) : Prop := match st with
  | .ref x :: r => k x r
  | _ => False
def zII (st : List Value) (k : Int32 → Int32 → List Value → Prop) : Prop := zI st fun y r => zI r fun x r => k x y r
def zJJ (st : List Value) (k : Int64 → Int64 → List Value → Prop) : Prop := zJ st fun y r => zJ r fun x r => k x y r
def zAI (st : List Value) (k : Nat → Int32 → List Value → Prop) : Prop := zI st fun i r => zA r fun a r => k a i r
def zCat : Value → Nat
  | .long _ => 2
  | .double _ => 2
  | _ => 1
def zV1 (st : List Value) (k : Value → List Value → Prop) : Prop := match st with
  | v :: r => zG (Nat.beq (zCat v) 1) (k v r)
  | _ => False
def zLg (ls : zLo) (i : Nat) (k : Value → Prop) : Prop := match ls.getD i none with
  | some v => k v
  | none => False
def zLi (ls : zLo) (i : Nat) (k : Int32 → Prop) : Prop := zLg ls i fun v => match v with
  | .int x => k x
  | _ => False
def zLj (ls : zLo) (i : Nat) (k : Int64 → Prop) : Prop := zLg ls i fun v => match v with
  | .long x => k x
  | _ => False
def zLa (ls : zLo) (i : Nat) (k : Nat → Prop) : Prop := zLg ls i fun v => match v with
  | .ref x => k x
  | _ => False
def zNo2 : Option Value → Option Value
  | some (.long _) => none
  | some (.double _) => none
  | o => o
def zS1 (v : Value) : zLo → Nat → zLo
  | [], _ => []
  | _ :: r, 0 => some v :: r
  | o :: r, 1 => zNo2 o :: zS1 v r 0
  | o :: r, i + 2 => o :: zS1 v r (i + 1)
def zS2 (v : Value) : zLo → Nat → zLo
  | [], _ => []
  | [_], _ => [none]
  | _ :: _ :: r, 0 => some v :: none :: r
  | o :: r, 1 => zNo2 o :: zS2 v r 0
  | o :: r, i + 2 => o :: zS2 v r (i + 1)
def zAr : List Value → zLo
  | [] => []
  | v :: r => match zCat v with
    | 2 => some v :: none :: zAr r
    | _ => some v :: zAr r
def zPn : Nat → List Value → List Value → (List Value → List Value → Prop) → Prop
  | 0, acc, st, k => k acc st
  | _ + 1, _, [], _ => False
  | n + 1, acc, v :: st, k => zPn n (v :: acc) st k
def zRc (av : List Value) (ci : Nat) : Bool := match av with
  | .ref r :: _ => zIsO r ci
  | _ => false
def zW8 : List Value → Nat
  | [] => 0
  | v :: r => zCat v + zW8 r
-- what a call hands back
def zPI (k : Int32 → zS → Prop) : zPo := fun r σ => ∃ x : Int32, r = some (.int x) ∧ k x σ
def zPJ (k : Int64 → zS → Prop) : zPo := fun r σ => ∃ x : Int64, r = some (.long x) ∧ k x σ
def zPV (k : zS → Prop) : zPo := fun r σ => r = none ∧ k σ
def zTb (x : Int32) (X : Nat → Prop) (d : Nat) : List (Int32 × Nat) → Prop
  | [] => X d
  | q :: r => (x = q.1 → X q.2) ∧ (¬ x = q.1 → zTb x X d r)
def zRI (st : List Value) (k : Int32 → Prop) : Prop := match st with
  | [.int x] => k x
  | _ => False
def zRJ (st : List Value) (k : Int64 → Prop) : Prop := match st with
  | [.long x] => k x
  | _ => False
def zRV (st : List Value) (k : Prop) : Prop := match st with
  | [] => k
  | _ => False
def zIf (c : Prop) (A B : Prop) : Prop := (c → A) ∧ (¬ c → B)
def zIl (sc : Option (Nat × (Nat → Int32))) (σ : zS) (q : Nat) (i : Int32) (k : Int32 → Prop) : Prop := match zIsI q with
  | true => vp_in i (zN q) ∧ k (σ.1 q i.toNatClampNeg)
  | false => match sc with
    | some s => zG (Nat.beq q 80) (vp_in i s.1 ∧ k (s.2 i.toNatClampNeg))
    | none => False
def zLe (sc : Option (Nat × (Nat → Int32))) (q : Nat) (k : Int32 → Prop) : Prop := match zIsI q || zIsJ q with
  | true => k (nI (zN q))
  | false => match sc with
    | some s => zG (Nat.beq q 80) (k (nI s.1))
    | none => False
/-- one instruction -/
def zEx (sc : Option (Nat × (Nat → Int32))) (C : zCa) (post : zPo) (X : zX) (o : zOp) (ls : zLo) (st : List Value) (σ : zS) : Prop := match o with
  | (i, n, a, b, c, e, _, v, w, tb) => match i with
    | .iconst _ => X n ls (.int v :: st) σ
    | .bipush _ => X n ls (.int v :: st) σ
    | .sipush _ => X n ls (.int v :: st) σ
    | .ldc _ => X n ls (.int v :: st) σ
    | .lconst _ => X n ls (.long w :: st) σ
    | .ldc2_w _ => X n ls (.long w :: st) σ
    | .iload_n _ => zLi ls a fun x => X n ls (.int x :: st) σ
    | .iload _ => zLi ls a fun x => X n ls (.int x :: st) σ
    | .lload_n _ => zLj ls a fun x => X n ls (.long x :: st) σ
    | .lload _ => zLj ls a fun x => X n ls (.long x :: st) σ
    | .aload_n _ => zLa ls a fun x => X n ls (.ref x :: st) σ
    | .aload _ => zLa ls a fun x => X n ls (.ref x :: st) σ
    | .istore_n _ => zI st fun x r => zG (Nat.blt a ls.length) (X n (zS1 (.int x) ls a) r σ)
    | .istore _ => zI st fun x r => zG (Nat.blt a ls.length) (X n (zS1 (.int x) ls a) r σ)
    | .lstore_n _ => zJ st fun x r => zG (Nat.blt (a + 1) ls.length) (X n (zS2 (.long x) ls a) r σ)
    | .lstore _ => zJ st fun x r => zG (Nat.blt (a + 1) ls.length) (X n (zS2 (.long x) ls a) r σ)
    | .astore_n _ => zA st fun x r => zG (Nat.blt a ls.length) (X n (zS1 (.ref x) ls a) r σ)
    | .iinc _ _ => zLi ls a fun x => X n (zS1 (.int (x + v)) ls a) st σ
    | .iadd => zII st fun x y r => X n ls (.int (x + y) :: r) σ
    | .isub => zII st fun x y r => X n ls (.int (x - y) :: r) σ
    | .imul => zII st fun x y r => X n ls (.int (x * y) :: r) σ
    | .iand => zII st fun x y r => X n ls (.int (x &&& y) :: r) σ
    | .ishl => zII st fun x y r => X n ls (.int (x <<< (y &&& 31)) :: r) σ
    | .ishr => zII st fun x y r => X n ls (.int (x >>> (y &&& 31)) :: r) σ
    | .idiv => zII st fun x y r => ¬ y = 0 ∧ X n ls (.int (x / y) :: r) σ
    | .irem => zII st fun x y r => ¬ y = 0 ∧ X n ls (.int (x - x / y * y) :: r) σ
    | .ineg => zI st fun x r => X n ls (.int (-x) :: r) σ
    | .ladd => zJJ st fun x y r => X n ls (.long (x + y) :: r) σ
    | .lsub => zJJ st fun x y r => X n ls (.long (x - y) :: r) σ
    | .lmul => zJJ st fun x y r => X n ls (.long (x * y) :: r) σ
    | .ldiv => zJJ st fun x y r => ¬ y = 0 ∧ X n ls (.long (x / y) :: r) σ
    | .lcmp => zJJ st fun x y r => X n ls (.int (lg_cmp x y) :: r) σ
    | .i2l => zI st fun x r => X n ls (.long x.toInt64 :: r) σ
    | .l2i => zJ st fun x r => X n ls (.int x.toInt32 :: r) σ
    | .dup => zV1 st fun v r => X n ls (v :: v :: r) σ
    | .pop => zV1 st fun _ r => X n ls r σ
    | .dup2 => zV1 st fun v r => zV1 r fun u r => X n ls (v :: u :: v :: u :: r) σ
    | .ifCond .eq _ => zI st fun x r => zIf (x = 0) (X a ls r σ) (X n ls r σ)
    | .ifCond .ne _ => zI st fun x r => zIf (x = 0) (X n ls r σ) (X a ls r σ)
    | .ifCond .lt _ => zI st fun x r => zIf (x < 0) (X a ls r σ) (X n ls r σ)
    | .ifCond .ge _ => zI st fun x r => zIf (x < 0) (X n ls r σ) (X a ls r σ)
    | .ifCond .gt _ => zI st fun x r => zIf (x ≤ 0) (X n ls r σ) (X a ls r σ)
    | .ifCond .le _ => zI st fun x r => zIf (x ≤ 0) (X a ls r σ) (X n ls r σ)
    | .if_icmp .eq _ => zII st fun x y r => zIf (x = y) (X a ls r σ) (X n ls r σ)
    | .if_icmp .ne _ => zII st fun x y r => zIf (x = y) (X n ls r σ) (X a ls r σ)
    | .if_icmp .lt _ => zII st fun x y r => zIf (x < y) (X a ls r σ) (X n ls r σ)
    | .if_icmp .ge _ => zII st fun x y r => zIf (x < y) (X n ls r σ) (X a ls r σ)
    | .if_icmp .gt _ => zII st fun x y r => zIf (x ≤ y) (X n ls r σ) (X a ls r σ)
    | .if_icmp .le _ => zII st fun x y r => zIf (x ≤ y) (X a ls r σ) (X n ls r σ)
    | .goto _ => X a ls st σ
    | .tableswitch _ _ _ _ => zI st fun x r => zTb x (fun p => X p ls r σ) a tb
    | .lookupswitch _ _ => zI st fun x r => zTb x (fun p => X p ls r σ) a tb
    | .getfield _ => zA st fun q r => zG (zIsO q a && Nat.beq (zSl q b).1 c) (match c with
      | 0 => X n ls (.ref (zTo q b) :: r) σ
      | 1 => X n ls (.int (σ.1 q b) :: r) σ
      | 2 => X n ls (.int (σ.1 q b) :: r) σ
      | 3 => X n ls (.long (σ.2 q b) :: r) σ
      | _ => False)
    | .putfield _ => match c with
      | 1 => zI st fun x r => zA r fun q r => zG (zIsO q a && Nat.beq (zSl q b).1 1) (X n ls r (zSI σ q b x))
      | 2 => zI st fun x r => zA r fun q r => zG (zIsO q a && Nat.beq (zSl q b).1 2) (zG (x == 0 || x == 1) (X n ls r (zSI σ q b x)))
      | 3 => zJ st fun x r => zA r fun q r => zG (zIsO q a && Nat.beq (zSl q b).1 3) (X n ls r (zSJ σ q b x))
      | _ => False
    | .iaload => zAI st fun q i r => zIl sc σ q i fun x => X n ls (.int x :: r) σ
    | .laload => zAI st fun q i r => zG (zIsJ q) (vp_in i (zN q) ∧ X n ls (.long (σ.2 q i.toNatClampNeg) :: r) σ)
    | .iastore => zI st fun x r => zAI r fun q i r => zG (zIsI q) (vp_in i (zN q) ∧ X n ls r (zSI σ q i.toNatClampNeg x))
    | .lastore => zJ st fun x r => zAI r fun q i r => zG (zIsJ q) (vp_in i (zN q) ∧ X n ls r (zSJ σ q i.toNatClampNeg x))
    | .arraylength => zA st fun q r => zLe sc q fun x => X n ls (.int x :: r) σ
    | .invokevirtual _ => zPn b [] st fun av r => zG (zRc av e && Nat.ble (zW8 r) 8) (match c with
      | 0 => C a av σ (zPV fun σ => X n ls r σ)
      | 1 => C a av σ (zPI fun x σ => X n ls (.int x :: r) σ)
      | _ => C a av σ (zPJ fun x σ => X n ls (.long x :: r) σ))
    | .invokestatic _ => match e with
      | 0 => zPn b [] st fun av r => zG (Nat.ble (zW8 r) 8) (match c with
        | 0 => C a av σ (zPV fun σ => X n ls r σ)
        | 1 => C a av σ (zPI fun x σ => X n ls (.int x :: r) σ)
        | _ => C a av σ (zPJ fun x σ => X n ls (.long x :: r) σ))
      | 1 => zII st fun x y r => zG (Nat.ble (zW8 r) 8) (X n ls (.int (if x < y then y else x) :: r) σ)
      | 2 => zII st fun x y r => zG (Nat.ble (zW8 r) 8) (X n ls (.int (if y < x then y else x) :: r) σ)
      | 3 => zI st fun x r => zG (Nat.ble (zW8 r) 8) (X n ls (.int (if 0 ≤ x then x else 0 - x) :: r) σ)
      | _ => False
    | .ireturn => zRI st fun x => match c with
      | 1 => zG (x == 0 || x == 1) (post (some (.int x)) σ)
      | _ => post (some (.int x)) σ
    | .lreturn => zRJ st fun x => post (some (.long x)) σ
    | .return_ => zRV st (post none σ)
    | _ => False
/-! what a program checks of the code -/
def zTbOk (pc : Nat) : Int → List Int → List (Int32 × Nat) → Bool
  | _, [], [] => true
  | k, o :: os, q :: tb => decide (q.1.toInt = k) && decide ((pc : Int) + o = (q.2 : Int)) && zTbOk pc (k + 1) os tb
  | _, _, _ => false
def zLkOk (pc : Nat) : List (Int × Int) → List (Int32 × Nat) → Bool
  | [], [] => true
  | o :: os, q :: tb => decide (q.1.toInt = o.1) && decide ((pc : Int) + o.2 = (q.2 : Int)) && zLkOk pc os tb
  | _, _ => false
def zRk (r : Option FieldType) (c : Nat) : Bool := match r, c with
  | none, 0 => true
  | some .int, 1 => true
  | some .boolean, 1 => true
  | some .long, 2 => true
  | _, _ => false
def zKt : Nat → FieldType
  | 1 => .int
  | 2 => .boolean
  | _ => .long
def zFl (own : String) (idx a b g : Nat) : Bool := decide (lw_tbl[g]? = some (.fieldLink own idx ((zCl a).2.1 b).1 ((zCl a).2.1 b).2.1 ((zCl a).2.1 b).2.2.1))
def zFn (own : String) (idx a b g : Nat) : Bool := decide (lw_tbl[g]? = some (.fieldLinkNest own idx ((zCl a).2.1 b).1 ((zCl a).2.1 b).2.1 ((zCl a).2.1 b).2.2.1 "RatePlanner"))
/-- the code at a place is this instruction, read ahead -/
def zOk (mi pc : Nat) (o : zOp) : Bool := match o with
  | (i, n, a, b, c, e, g, v, w, tb) => Nat.blt pc n && decide (decode (zBy mi) pc = .ok (i, n - pc)) && (match i with
    | .iconst z => Nat.beq (n - pc) 1 && decide (Int32.ofInt z = v)
    | .bipush z => Nat.beq (n - pc) 2 && decide ((Int8.ofInt z).toInt32 = v)
    | .sipush z => Nat.beq (n - pc) 3 && decide ((Int16.ofInt z).toInt32 = v)
    | .ldc idx => Nat.beq (n - pc) 2 && decide (lw_tbl[g]? = some (.constant (zY mi).cls idx v))
    | .lconst z => Nat.beq (n - pc) 1 && decide (Int64.ofNat (z : Nat) = w)
    | .ldc2_w idx => Nat.beq (n - pc) 3 && decide (lw_tbl[g]? = some (.constantLong (zY mi).cls idx w))
    | .iload_n k => Nat.beq (n - pc) 1 && Nat.beq k.val a
    | .iload k => Nat.beq (n - pc) 2 && Nat.beq k a
    | .lload_n k => Nat.beq (n - pc) 1 && Nat.beq k.val a
    | .lload k => Nat.beq (n - pc) 2 && Nat.beq k a
    | .aload_n k => Nat.beq (n - pc) 1 && Nat.beq k.val a
    | .aload k => Nat.beq (n - pc) 2 && Nat.beq k a
    | .istore_n k => Nat.beq (n - pc) 1 && Nat.beq k.val a
    | .istore k => Nat.beq (n - pc) 2 && Nat.beq k a
    | .lstore_n k => Nat.beq (n - pc) 1 && Nat.beq k.val a
    | .lstore k => Nat.beq (n - pc) 2 && Nat.beq k a
    | .astore_n k => Nat.beq (n - pc) 1 && Nat.beq k.val a
    | .iinc k z => Nat.beq (n - pc) 3 && Nat.beq k a && decide (Int32.ofInt z = v)
    | .ifCond _ off => Nat.beq (n - pc) 3 && decide ((pc : Int) + off = (a : Int))
    | .if_icmp _ off => Nat.beq (n - pc) 3 && decide ((pc : Int) + off = (a : Int))
    | .goto off => Nat.beq (n - pc) 3 && decide ((pc : Int) + off = (a : Int))
    | .tableswitch d lo hi offs => decide ((pc : Int) + d = (a : Int)) && decide (hi = lo + (offs.toList.length : Int) - 1) && zTbOk pc lo offs.toList tb
    | .lookupswitch d ps => decide ((pc : Int) + d = (a : Int)) && (ps.toList.zip (ps.toList.drop 1)).all (fun (x, y) => x.1 < y.1) && zLkOk pc ps.toList tb
    | .getfield idx => Nat.beq (n - pc) 3 && Nat.blt a 12 && Nat.blt b (zCl a).2.2 && (zFl (zY mi).cls idx a b g || zFn (zY mi).cls idx a b g)
    | .putfield idx => Nat.beq (n - pc) 3 && Nat.blt a 12 && Nat.blt b (zCl a).2.2 && zFl (zY mi).cls idx a b g && !((zCl a).2.1 b).2.2.2 && decide (parseFieldDescriptor ((zCl a).2.1 b).2.2.1 = some (zKt c))
    | .invokevirtual idx => Nat.beq (n - pc) 3 && Nat.blt a 85 && !(Nat.beq a nL_law) && !(zMs a) && Nat.beq e (zMc a) && !(decide ((zY a).name = "<init>")) && Nat.blt 0 b && decide ((parseMethodDescriptor (zY a).desc).map (fun d => d.parameters.length) = some (b - 1)) && zRk (zRt a) c &&
      (decide (lw_tbl[g]? = some (.methodLink (zY mi).cls idx (zY a))) || decide (lw_tbl[g]? = some (.methodLinkNest (zY mi).cls idx (zY a) "RatePlanner")))
    | .invokestatic idx => Nat.beq (n - pc) 3 && (match e with
      | 0 => Nat.blt a 85 && !(Nat.beq a nL_law) && zMs a && decide ((parseMethodDescriptor (zY a).desc).map (fun d => d.parameters.length) = some b) && zRk (zRt a) c &&
        (decide (lw_tbl[g]? = some (.methodLink (zY mi).cls idx (zY a))) || decide (lw_tbl[g]? = some (.methodLinkNest (zY mi).cls idx (zY a) "RatePlanner")))
      | 1 => decide (lw_tbl[g]? = some (.methodLink (zY mi).cls idx Lib.Math.max.name))
      | 2 => decide (lw_tbl[g]? = some (.methodLink (zY mi).cls idx Lib.Math.min.name))
      | 3 => decide (lw_tbl[g]? = some (.methodLink (zY mi).cls idx Lib.Math.abs.name))
      | _ => false)
    | .ireturn => Nat.beq (n - pc) 1 && (match zRt mi, c with
      | some .int, 0 => true
      | some .boolean, 1 => true
      | _, _ => false)
    | .lreturn => Nat.beq (n - pc) 1 && decide (zRt mi = some .long)
    | .return_ => Nat.beq (n - pc) 1 && decide (zRt mi = none)
    | _ => Nat.beq (n - pc) 1)
def zOks (mi : Nat) : List zOp → Nat → Bool
  | [], _ => true
  | o :: r, p => zOk mi p o && zOks mi r o.2.1
end
section
/-! the world of a pair of functions, as the kit's cells; locals; what is taken off the stack -/
def zR (ad : Nat → Nat) : Value → Value
  | .ref r => .ref (ad r)
  | v => v
def zFs (ad : Nat → Nat) (σ : zS) (r : Nat) : Nat → List (Nat × Nat) → List Value
  | _, [] => []
  | j, s :: t => (match s.1 with
    | 0 => .ref (ad s.2)
    | 3 => .long (σ.2 r j)
    | _ => .int (σ.1 r j)) :: zFs ad σ r (j + 1) t
def zEn (ad : Nat → Nat) (cI cJ : ClassId) (σ : zS) (r : Nat) (kd : zKd) : va_E := match kd.1 with
  | 0 => .inr (kd.2.1, zFs ad σ r 0 kd.2.2)
  | 1 => .inl (cI, kd.2.1, .inl (σ.1 r))
  | _ => .inl (cJ, kd.2.1, .inr (.inl (σ.2 r)))
def zWA (ad : Nat → Nat) (cI cJ : ClassId) (σ : zS) : Nat → List zKd → va_W
  | _, [] => []
  | r, kd :: t => (ad r, zEn ad cI cJ σ r kd) :: zWA ad cI cJ σ (r + 1) t
def zW (ad : Nat → Nat) (cI cJ : ClassId) (σ : zS) : va_W := zWA ad cI cJ σ 0 zSh
theorem zFs_len (ad : Nat → Nat) (σ : zS) (r : Nat) : ∀ (sl : List (Nat × Nat)) (j : Nat), (zFs ad σ r j sl).length = sl.length
  | [], _ => rfl
  | _ :: t, j => by simp only [zFs, List.length_cons, zFs_len ad σ r t (j + 1)]
theorem zFs_get (ad : Nat → Nat) (σ : zS) (r : Nat) : ∀ (sl : List (Nat × Nat)) (j k : Nat) (s : Nat × Nat), sl[k]? = some s → (zFs ad σ r j sl)[k]? = some (match s.1 with
    | 0 => .ref (ad s.2)
    | 3 => .long (σ.2 r (j + k))
    | _ => .int (σ.1 r (j + k)))
  | [], _, _, _, h => by simp at h
  | q :: t, j, 0, s, h => by
    simp only [List.getElem?_cons_zero, Option.some.injEq] at h
    subst h
    simp only [zFs, List.getElem?_cons_zero, Nat.add_zero]
  | q :: t, j, k + 1, s, h => by
    simp only [List.getElem?_cons_succ] at h
    have e := zFs_get ad σ r t (j + 1) k s h
    simp only [zFs, List.getElem?_cons_succ, e, show j + 1 + k = j + (k + 1) by omega]
theorem zFs_cong (ad : Nat → Nat) {σ τ : zS} (r : Nat) (h1 : τ.1 r = σ.1 r) (h2 : τ.2 r = σ.2 r) : ∀ (sl : List (Nat × Nat)) (j : Nat), zFs ad τ r j sl = zFs ad σ r j sl
  | [], _ => rfl
  | q :: t, j => by simp only [zFs, h1, h2, zFs_cong ad r h1 h2 t (j + 1)]
theorem zFs_far (ad : Nat → Nat) {σ τ : zS} (r k : Nat) (h1 : ∀ j, j ≠ k → τ.1 r j = σ.1 r j) (h2 : ∀ j, j ≠ k → τ.2 r j = σ.2 r j) : ∀ (sl : List (Nat × Nat)) (j : Nat), k < j → zFs ad τ r j sl = zFs ad σ r j sl
  | [], _, _ => rfl
  | q :: t, j, h => by simp only [zFs, h1 j (by omega), h2 j (by omega), zFs_far ad r k h1 h2 t (j + 1) (by omega)]
theorem zFs_setI (ad : Nat → Nat) (σ : zS) (r : Nat) (x : Int32) : ∀ (sl : List (Nat × Nat)) (j k : Nat) (s : Nat × Nat), sl[k]? = some s → (s.1 = 1 ∨ s.1 = 2) → (zFs ad σ r j sl).set k (.int x) = zFs ad (zSI σ r (j + k) x) r j sl
  | [], _, _, _, h, _ => by simp at h
  | q :: t, j, 0, s, h, hs => by
    simp only [List.getElem?_cons_zero, Option.some.injEq] at h
    subst h
    have e : zFs ad (zSI σ r (j + 0) x) r (j + 1) t = zFs ad σ r (j + 1) t := zFs_far ad (τ := zSI σ r (j + 0) x) (σ := σ) r j (fun i hi => by simp [zSI, upd, hi]) (fun i hi => rfl) t (j + 1) (by omega)
    simp only [zFs, List.set_cons_zero, e]
    rcases hs with hs | hs <;> simp [hs, zSI, upd]
  | q :: t, j, k + 1, s, h, hs => by
    simp only [List.getElem?_cons_succ] at h
    have e := zFs_setI ad σ r x t (j + 1) k s h hs
    rw [show j + 1 + k = j + (k + 1) by omega] at e
    simp only [zFs, List.set_cons_succ, e]
    have h1 : (zSI σ r (j + (k + 1)) x).1 r j = σ.1 r j := by
      have : ¬ j = j + (k + 1) := by omega
      simp [zSI, upd, this]
    simp only [h1]
    rfl
theorem zFs_setJ (ad : Nat → Nat) (σ : zS) (r : Nat) (x : Int64) : ∀ (sl : List (Nat × Nat)) (j k : Nat) (s : Nat × Nat), sl[k]? = some s → s.1 = 3 → (zFs ad σ r j sl).set k (.long x) = zFs ad (zSJ σ r (j + k) x) r j sl
  | [], _, _, _, h, _ => by simp at h
  | q :: t, j, 0, s, h, hs => by
    simp only [List.getElem?_cons_zero, Option.some.injEq] at h
    subst h
    have e : zFs ad (zSJ σ r (j + 0) x) r (j + 1) t = zFs ad σ r (j + 1) t := zFs_far ad (τ := zSJ σ r (j + 0) x) (σ := σ) r j (fun i hi => rfl) (fun i hi => by simp [zSJ, vp_updL, hi]) t (j + 1) (by omega)
    simp only [zFs, List.set_cons_zero, e]
    simp [hs, zSJ, vp_updL]
  | q :: t, j, k + 1, s, h, hs => by
    simp only [List.getElem?_cons_succ] at h
    have e := zFs_setJ ad σ r x t (j + 1) k s h hs
    rw [show j + 1 + k = j + (k + 1) by omega] at e
    simp only [zFs, List.set_cons_succ, e]
    have h1 : (zSJ σ r (j + (k + 1)) x).2 r j = σ.2 r j := by
      have : ¬ j = j + (k + 1) := by omega
      simp [zSJ, vp_updL, this]
    simp only [h1]
    rfl
theorem zEn_cong (ad : Nat → Nat) (cI cJ : ClassId) {σ τ : zS} (r : Nat) (h1 : τ.1 r = σ.1 r) (h2 : τ.2 r = σ.2 r) (kd : zKd) : zEn ad cI cJ τ r kd = zEn ad cI cJ σ r kd := by
  unfold zEn
  rw [zFs_cong ad r h1 h2, h1, h2]
theorem zWA_get (ad : Nat → Nat) (cI cJ : ClassId) (σ : zS) : ∀ (l : List zKd) (r k : Nat) (kd : zKd), l[k]? = some kd → (zWA ad cI cJ σ r l)[k]? = some (ad (r + k), zEn ad cI cJ σ (r + k) kd)
  | [], _, _, _, h => by simp at h
  | q :: t, r, 0, kd, h => by
    simp only [List.getElem?_cons_zero, Option.some.injEq] at h
    subst h
    rfl
  | q :: t, r, k + 1, kd, h => by
    simp only [List.getElem?_cons_succ] at h
    have e := zWA_get ad cI cJ σ t (r + 1) k kd h
    simp only [zWA, List.getElem?_cons_succ, e, show r + 1 + k = r + (k + 1) by omega]
theorem zWA_len (ad : Nat → Nat) (cI cJ : ClassId) (σ : zS) : ∀ (l : List zKd) (r : Nat), (zWA ad cI cJ σ r l).length = l.length
  | [], _ => rfl
  | _ :: t, r => by simp only [zWA, List.length_cons, zWA_len ad cI cJ σ t (r + 1)]
theorem zWA_far (ad : Nat → Nat) (cI cJ : ClassId) {σ τ : zS} (k : Nat) (h : ∀ r kd, r ≠ k → zEn ad cI cJ τ r kd = zEn ad cI cJ σ r kd) : ∀ (l : List zKd) (r : Nat), k < r → zWA ad cI cJ τ r l = zWA ad cI cJ σ r l
  | [], _, _ => rfl
  | q :: t, r, hr => by simp only [zWA, h r q (by omega), zWA_far ad cI cJ k h t (r + 1) (by omega)]
theorem zWA_set (ad : Nat → Nat) (cI cJ : ClassId) {σ τ : zS} : ∀ (l : List zKd) (r k : Nat) (kd : zKd), (∀ a kd, a ≠ r + k → zEn ad cI cJ τ a kd = zEn ad cI cJ σ a kd) → l[k]? = some kd → (zWA ad cI cJ σ r l).set k (ad (r + k), zEn ad cI cJ τ (r + k) kd) = zWA ad cI cJ τ r l
  | [], _, _, _, _, h => by simp at h
  | q :: t, r, 0, kd, hc, h => by
    simp only [List.getElem?_cons_zero, Option.some.injEq] at h
    subst h
    simp only [zWA, List.set_cons_zero, Nat.add_zero, zWA_far ad cI cJ r (fun a kd ha => hc a kd (by omega)) t (r + 1) (by omega)]
  | q :: t, r, k + 1, kd, hc, h => by
    simp only [List.getElem?_cons_succ] at h
    have e := zWA_set ad cI cJ (τ := τ) (σ := σ) t (r + 1) k kd (fun a kd ha => hc a kd (by omega)) h
    rw [show r + 1 + k = r + (k + 1) by omega] at e
    simp only [zWA, List.set_cons_succ, e, hc r q (by omega)]
theorem zW_get (ad : Nat → Nat) (cI cJ : ClassId) (σ : zS) {r : Nat} {kd : zKd} (h : zSh[r]? = some kd) : (zW ad cI cJ σ)[r]? = some (ad r, zEn ad cI cJ σ r kd) := by
  have e := zWA_get ad cI cJ σ zSh 0 r kd h
  rwa [Nat.zero_add] at e
theorem zW_set (ad : Nat → Nat) (cI cJ : ClassId) {σ τ : zS} {r : Nat} {kd : zKd} (h : zSh[r]? = some kd) (h1 : ∀ a, a ≠ r → τ.1 a = σ.1 a) (h2 : ∀ a, a ≠ r → τ.2 a = σ.2 a) : (zW ad cI cJ σ).set r (ad r, zEn ad cI cJ τ r kd) = zW ad cI cJ τ := by
  have e := zWA_set ad cI cJ (τ := τ) (σ := σ) zSh 0 r kd (fun a k ha => zEn_cong ad cI cJ a (h1 a (by omega)) (h2 a (by omega)) k) h
  rwa [Nat.zero_add] at e
theorem zSI_1 {σ : zS} {r j : Nat} {x : Int32} {a : Nat} (h : a ≠ r) : (zSI σ r j x).1 a = σ.1 a := by simp [zSI, h]
theorem zSI_s {σ : zS} {r j : Nat} {x : Int32} : (zSI σ r j x).1 r = upd (σ.1 r) j x := by simp [zSI]
theorem zSJ_1 {σ : zS} {r j : Nat} {x : Int64} {a : Nat} (h : a ≠ r) : (zSJ σ r j x).2 a = σ.2 a := by simp [zSJ, h]
theorem zSJ_s {σ : zS} {r j : Nat} {x : Int64} : (zSJ σ r j x).2 r = vp_updL (σ.2 r) j x := by simp [zSJ]
theorem zSR_1 {σ : zS} {r : Nat} {f : Nat → Int32} {a : Nat} (h : a ≠ r) : (zSR σ r f).1 a = σ.1 a := by simp [zSR, h]
theorem zSR_s {σ : zS} {r : Nat} {f : Nat → Int32} : (zSR σ r f).1 r = f := by simp [zSR]
-- the shape
theorem zK_some {r : Nat} (h : ¬ (zK r).1 = 9) : zSh[r]? = some (zK r) := by
  unfold zK at h ⊢
  rw [List.getD_eq_getElem?_getD] at h ⊢
  cases e : zSh[r]? with
  | none => rw [e] at h; exact absurd rfl h
  | some q => rfl
theorem zIsO_spec {r ci : Nat} (h : zIsO r ci = true) : ∃ sl, zSh[r]? = some (0, ci, sl) ∧ ∀ j, zSl r j = sl.getD j (9, 0) := by
  simp only [zIsO, Bool.and_eq_true] at h
  have h1 := Nat.eq_of_beq_eq_true h.1
  have h2 := Nat.eq_of_beq_eq_true h.2
  have e := zK_some (r := r) (by omega)
  refine ⟨(zK r).2.2, ?_, fun j => rfl⟩
  rw [e, ← h1, ← h2]
theorem zIsI_spec {r : Nat} (h : zIsI r = true) : ∃ sl, zSh[r]? = some (1, zN r, sl) := by
  have h1 := Nat.eq_of_beq_eq_true h
  have e := zK_some (r := r) (by omega)
  exact ⟨(zK r).2.2, by rw [e, ← h1]; rfl⟩
theorem zIsJ_spec {r : Nat} (h : zIsJ r = true) : ∃ sl, zSh[r]? = some (2, zN r, sl) := by
  have h1 := Nat.eq_of_beq_eq_true h
  have e := zK_some (r := r) (by omega)
  exact ⟨(zK r).2.2, by rw [e, ← h1]; rfl⟩
theorem zGetD_some {sl : List (Nat × Nat)} {j : Nat} (h : ¬ (sl.getD j (9, 0)).1 = 9) : sl[j]? = some (sl.getD j (9, 0)) := by
  rw [List.getD_eq_getElem?_getD] at h ⊢
  cases e : sl[j]? with
  | none => rw [e] at h; exact absurd rfl h
  | some q => rfl
-- off the stack
theorem zG_inv {b : Bool} {P : Prop} (h : zG b P) : b = true ∧ P := by
  cases b with
  | true => exact ⟨rfl, h⟩
  | false => exact False.elim h
theorem zI_inv {st : List Value} {k : Int32 → List Value → Prop} (h : zI st k) : ∃ x r, st = .int x :: r ∧ k x r := by
  cases st with
  | nil => exact False.elim h
  | cons v r => cases v <;> first | exact ⟨_, _, rfl, h⟩ | exact False.elim h
theorem zJ_inv {st : List Value} {k : Int64 → List Value → Prop} (h : zJ st k) : ∃ x r, st = .long x :: r ∧ k x r := by
  cases st with
  | nil => exact False.elim h
  | cons v r => cases v <;> first | exact ⟨_, _, rfl, h⟩ | exact False.elim h
theorem zA_inv {st : List Value} {k : Nat → List Value → Prop} (h : zA st k) : ∃ x r, st = .ref x :: r ∧ k x r := by
  cases st with
  | nil => exact False.elim h
  | cons v r => cases v <;> first | exact ⟨_, _, rfl, h⟩ | exact False.elim h
theorem zII_inv {st : List Value} {k : Int32 → Int32 → List Value → Prop} (h : zII st k) : ∃ x y r, st = .int y :: .int x :: r ∧ k x y r := by
  obtain ⟨y, r, rfl, h1⟩ := zI_inv h
  obtain ⟨x, r2, rfl, h2⟩ := zI_inv h1
  exact ⟨x, y, r2, rfl, h2⟩
theorem zJJ_inv {st : List Value} {k : Int64 → Int64 → List Value → Prop} (h : zJJ st k) : ∃ x y r, st = .long y :: .long x :: r ∧ k x y r := by
  obtain ⟨y, r, rfl, h1⟩ := zJ_inv h
  obtain ⟨x, r2, rfl, h2⟩ := zJ_inv h1
  exact ⟨x, y, r2, rfl, h2⟩
theorem zAI_inv {st : List Value} {k : Nat → Int32 → List Value → Prop} (h : zAI st k) : ∃ a i r, st = .int i :: .ref a :: r ∧ k a i r := by
  obtain ⟨y, r, rfl, h1⟩ := zI_inv h
  obtain ⟨x, r2, rfl, h2⟩ := zA_inv h1
  exact ⟨x, y, r2, rfl, h2⟩
theorem zCat_R (ad : Nat → Nat) (v : Value) : (zR ad v).category = zCat v := by cases v <;> rfl
theorem zV1_inv {st : List Value} {k : Value → List Value → Prop} (h : zV1 st k) : ∃ v r, st = v :: r ∧ zCat v = 1 ∧ k v r := by
  cases st with
  | nil => exact False.elim h
  | cons v r =>
    obtain ⟨h1, h2⟩ := zG_inv h
    exact ⟨v, r, rfl, Nat.eq_of_beq_eq_true h1, h2⟩
theorem zLg_inv {ls : zLo} {i : Nat} {k : Value → Prop} (h : zLg ls i k) : ∃ v, ls.getD i none = some v ∧ k v := by
  unfold zLg at h
  cases e : ls.getD i none with
  | none => rw [e] at h; exact False.elim h
  | some v => rw [e] at h; exact ⟨v, rfl, h⟩
theorem zLi_inv {ls : zLo} {i : Nat} {k : Int32 → Prop} (h : zLi ls i k) : ∃ x, ls.getD i none = some (.int x) ∧ k x := by
  obtain ⟨v, e, h⟩ := zLg_inv h
  cases v <;> first | exact ⟨_, e, h⟩ | exact False.elim h
theorem zLj_inv {ls : zLo} {i : Nat} {k : Int64 → Prop} (h : zLj ls i k) : ∃ x, ls.getD i none = some (.long x) ∧ k x := by
  obtain ⟨v, e, h⟩ := zLg_inv h
  cases v <;> first | exact ⟨_, e, h⟩ | exact False.elim h
theorem zLa_inv {ls : zLo} {i : Nat} {k : Nat → Prop} (h : zLa ls i k) : ∃ x, ls.getD i none = some (.ref x) ∧ k x := by
  obtain ⟨v, e, h⟩ := zLg_inv h
  cases v <;> first | exact ⟨_, e, h⟩ | exact False.elim h
theorem zW8_R (ad : Nat → Nat) : ∀ r : List Value, ((r.map (zR ad)).map fun v => v.category).sum = zW8 r
  | [] => rfl
  | v :: r => by simp only [List.map_cons, List.sum_cons, zCat_R, zW8_R ad r, zW8]
theorem zPn_inv : ∀ (n : Nat) (acc st : List Value) (k : List Value → List Value → Prop), zPn n acc st k → ∃ av r, av.length = n ∧ st = av ++ r ∧ k (av.reverse ++ acc) r
  | 0, acc, st, k, h => ⟨[], st, rfl, rfl, h⟩
  | n + 1, acc, [], k, h => False.elim h
  | n + 1, acc, v :: st, k, h => by
    obtain ⟨av, r, h1, h2, h3⟩ := zPn_inv n (v :: acc) st k h
    exact ⟨v :: av, r, by simp [h1], by simp [h2], by simpa using h3⟩
theorem zTb_inv {x : Int32} {X : Nat → Prop} {d : Nat} : ∀ {tb : List (Int32 × Nat)}, zTb x X d tb → (∃ (k : Nat) (q : Int32 × Nat), tb[k]? = some q ∧ x = q.1 ∧ X q.2 ∧ ∀ (j : Nat) (p : Int32 × Nat), j < k → tb[j]? = some p → ¬ x = p.1) ∨ ((∀ (k : Nat) (q : Int32 × Nat), tb[k]? = some q → ¬ x = q.1) ∧ X d)
  | [], h => Or.inr ⟨fun k q e => by simp at e, h⟩
  | q :: r, h => by
    by_cases e : x = q.1
    · exact Or.inl ⟨0, q, rfl, e, h.1 e, fun j p hj => absurd hj (Nat.not_lt_zero j)⟩
    · rcases zTb_inv (h.2 e) with ⟨k, p, h1, h2, h3, h4⟩ | ⟨h1, h2⟩
      · refine Or.inl ⟨k + 1, p, h1, h2, h3, fun j p' hj hp => ?_⟩
        cases j with
        | zero =>
          simp only [List.getElem?_cons_zero, Option.some.injEq] at hp
          rw [← hp]; exact e
        | succ j => exact h4 j p' (by omega) hp
      · refine Or.inr ⟨fun k p hp => ?_, h2⟩
        cases k with
        | zero =>
          simp only [List.getElem?_cons_zero, Option.some.injEq] at hp
          rw [← hp]; exact e
        | succ j => exact h1 j p hp
-- the locals
def zAs (ad : Nat → Nat) : Nat → zLo → List (Nat × Value)
  | _, [] => []
  | i, none :: r => zAs ad (i + 1) r
  | i, some v :: r => (i, zR ad v) :: zAs ad (i + 1) r
theorem zAs_mem (ad : Nat → Nat) : ∀ (lv : zLo) (k : Nat) (q : Nat × Value), q ∈ zAs ad k lv ↔ ∃ j v, lv[j]? = some (some v) ∧ q = (k + j, zR ad v)
  | [], k, q => by simp [zAs]
  | none :: r, k, q => by
    simp only [zAs]
    rw [zAs_mem ad r (k + 1) q]
    constructor
    · rintro ⟨j, v, h1, h2⟩
      exact ⟨j + 1, v, h1, by rw [h2, show k + 1 + j = k + (j + 1) by omega]⟩
    · rintro ⟨j, v, h1, h2⟩
      cases j with
      | zero => simp at h1
      | succ j => exact ⟨j, v, h1, by rw [h2, show k + 1 + j = k + (j + 1) by omega]⟩
  | some u :: r, k, q => by
    simp only [zAs, List.mem_cons]
    rw [zAs_mem ad r (k + 1) q]
    constructor
    · rintro (h | ⟨j, v, h1, h2⟩)
      · exact ⟨0, u, rfl, h⟩
      · exact ⟨j + 1, v, h1, by rw [h2, show k + 1 + j = k + (j + 1) by omega]⟩
    · rintro ⟨j, v, h1, h2⟩
      cases j with
      | zero =>
        simp only [List.getElem?_cons_zero, Option.some.injEq] at h1
        exact Or.inl (by rw [h2, h1]; rfl)
      | succ j => exact Or.inr ⟨j, v, h1, by rw [h2, show k + 1 + j = k + (j + 1) by omega]⟩
def zHas (ad : Nat → Nat) (ls : Array Slot) (nL : Nat) (lv : zLo) : Prop := lv_has ls nL (zAs ad 0 lv) ∧ lv.length ≤ nL
theorem zHas.at {ad : Nat → Nat} {ls : Array Slot} {nL : Nat} {lv : zLo} (h : zHas ad ls nL lv) {i : Nat} {v : Value} (e : lv.getD i none = some v) : ls[i]? = some (.val (zR ad v)) := by
  have e2 : lv[i]? = some (some v) := by
    rw [List.getD_eq_getElem?_getD] at e
    cases e3 : lv[i]? with
    | none => rw [e3] at e; simp at e
    | some o => rw [e3] at e; simp at e; rw [e]
  exact h.1.2.2 (i, zR ad v) ((zAs_mem ad lv 0 _).mpr ⟨i, v, e2, by rw [Nat.zero_add]⟩)
theorem zHas.lt {ad : Nat → Nat} {ls : Array Slot} {nL : Nat} {lv : zLo} (h : zHas ad ls nL lv) {i : Nat} {v : Value} (e : lv.getD i none = some v) : i < nL := by
  have h1 := (Array.getElem?_eq_some_iff.mp (h.at e)).1
  rw [h.1.1] at h1
  exact h1
theorem zNo2_some {o : Option Value} {u : Value} (h : zNo2 o = some u) : o = some u ∧ ¬ zCat u = 2 := by
  cases o with
  | none => cases h
  | some v => cases v <;> first | (cases h; done) | (simp only [zNo2, Option.some.injEq] at h; subst h; exact ⟨rfl, by simp [zCat]⟩)
theorem zS1_len (v : Value) : ∀ (lv : zLo) (i : Nat), (zS1 v lv i).length = lv.length
  | [], _ => rfl
  | _ :: r, 0 => rfl
  | o :: r, 1 => by simp only [zS1, List.length_cons, zS1_len v r 0]
  | o :: r, i + 2 => by simp only [zS1, List.length_cons, zS1_len v r (i + 1)]
theorem zS1_get (v : Value) : ∀ (lv : zLo) (i j : Nat) (u : Value), (zS1 v lv i)[j]? = some (some u) → (j = i ∧ u = v) ∨ (j ≠ i ∧ lv[j]? = some (some u) ∧ ¬ (j + 1 = i ∧ zCat u = 2))
  | [], _, _, _, h => by simp [zS1] at h
  | o :: r, 0, j, u, h => by
    cases j with
    | zero => simp only [zS1, List.getElem?_cons_zero, Option.some.injEq] at h; exact Or.inl ⟨rfl, h.symm⟩
    | succ j => exact Or.inr ⟨by omega, h, by omega⟩
  | o :: r, 1, j, u, h => by
    cases j with
    | zero =>
      simp only [zS1, List.getElem?_cons_zero, Option.some.injEq] at h
      obtain ⟨e, h2⟩ := zNo2_some h
      exact Or.inr ⟨by omega, by rw [e]; rfl, fun q => h2 q.2⟩
    | succ j =>
      rcases zS1_get v r 0 j u h with ⟨h1, h2⟩ | ⟨h1, h2, h3⟩
      · exact Or.inl ⟨by omega, h2⟩
      · exact Or.inr ⟨by omega, h2, by omega⟩
  | o :: r, i + 2, j, u, h => by
    cases j with
    | zero => exact Or.inr ⟨by omega, h, by omega⟩
    | succ j =>
      rcases zS1_get v r (i + 1) j u h with ⟨h1, h2⟩ | ⟨h1, h2, h3⟩
      · exact Or.inl ⟨by omega, h2⟩
      · exact Or.inr ⟨by omega, h2, fun q => h3 ⟨by omega, q.2⟩⟩
theorem zS2_len (v : Value) : ∀ (lv : zLo) (i : Nat), (zS2 v lv i).length = lv.length
  | [], _ => rfl
  | [_], _ => rfl
  | _ :: _ :: r, 0 => rfl
  | o :: p :: r, 1 => by simp only [zS2, List.length_cons, zS2_len v (p :: r) 0]
  | o :: p :: r, i + 2 => by simp only [zS2, List.length_cons, zS2_len v (p :: r) (i + 1)]
theorem zS2_get (v : Value) : ∀ (lv : zLo) (i j : Nat) (u : Value), (zS2 v lv i)[j]? = some (some u) → (j = i ∧ u = v) ∨ (j ≠ i ∧ j ≠ i + 1 ∧ lv[j]? = some (some u) ∧ ¬ (j + 1 = i ∧ zCat u = 2))
  | [], _, _, _, h => by simp [zS2] at h
  | [o], i, j, u, h => by
    cases j <;> simp [zS2] at h
  | o :: p :: r, 0, j, u, h => by
    cases j with
    | zero => simp only [zS2, List.getElem?_cons_zero, Option.some.injEq] at h; exact Or.inl ⟨rfl, h.symm⟩
    | succ j =>
      cases j with
      | zero => simp [zS2] at h
      | succ j => exact Or.inr ⟨by omega, by omega, h, by omega⟩
  | o :: p :: r, 1, j, u, h => by
    cases j with
    | zero =>
      simp only [zS2, List.getElem?_cons_zero, Option.some.injEq] at h
      obtain ⟨e, h2⟩ := zNo2_some h
      exact Or.inr ⟨by omega, by omega, by rw [e]; rfl, fun q => h2 q.2⟩
    | succ j =>
      rcases zS2_get v (p :: r) 0 j u h with ⟨h1, h2⟩ | ⟨h1, h2, h3, h4⟩
      · exact Or.inl ⟨by omega, h2⟩
      · exact Or.inr ⟨by omega, by omega, h3, by omega⟩
  | o :: p :: r, i + 2, j, u, h => by
    cases j with
    | zero => exact Or.inr ⟨by omega, by omega, h, by omega⟩
    | succ j =>
      rcases zS2_get v (p :: r) (i + 1) j u h with ⟨h1, h2⟩ | ⟨h1, h2, h3, h4⟩
      · exact Or.inl ⟨by omega, h2⟩
      · exact Or.inr ⟨by omega, by omega, h3, fun q => h4 ⟨by omega, q.2⟩⟩
theorem zHas.st1 {ad : Nat → Nat} {ls : Array Slot} {nL : Nat} {lv : zLo} (h : zHas ad ls nL lv) {i : Nat} {v : Value} {ls' : Array Slot} (h' : lv_has ls' nL ((i, zR ad v) :: (zAs ad 0 lv).filter (fun q => !(q.1 == i) && !(q.1 + 1 == i && q.2.category == 2)))) : zHas ad ls' nL (zS1 v lv i) := by
  refine ⟨⟨h'.1, h'.2.1, fun q hq => h'.2.2 q ?_⟩, by rw [zS1_len]; exact h.2⟩
  obtain ⟨j, u, h1, rfl⟩ := (zAs_mem ad _ 0 q).mp hq
  rw [Nat.zero_add]
  rcases zS1_get v lv i j u h1 with ⟨rfl, rfl⟩ | ⟨h2, h3, h4⟩
  · exact List.mem_cons_self
  · refine List.mem_cons_of_mem _ (List.mem_filter.mpr ⟨(zAs_mem ad lv 0 _).mpr ⟨j, u, h3, by rw [Nat.zero_add]⟩, ?_⟩)
    simp only [zCat_R]
    simp only [Bool.and_eq_true, Bool.not_eq_true', beq_eq_false_iff_ne, ne_eq, Bool.and_eq_false_iff]
    exact ⟨h2, by by_cases e : j + 1 = i
                  · exact Or.inr (fun e2 => h4 ⟨e, e2⟩)
                  · exact Or.inl e⟩
theorem zHas.st2 {ad : Nat → Nat} {ls : Array Slot} {nL : Nat} {lv : zLo} (h : zHas ad ls nL lv) {i : Nat} {v : Value} {ls' : Array Slot} (h' : lv_has ls' nL ((i, zR ad v) :: (zAs ad 0 lv).filter (fun q => !(q.1 == i) && (!(q.1 == i + 1) && !(q.1 + 1 == i && q.2.category == 2))))) : zHas ad ls' nL (zS2 v lv i) := by
  refine ⟨⟨h'.1, h'.2.1, fun q hq => h'.2.2 q ?_⟩, by rw [zS2_len]; exact h.2⟩
  obtain ⟨j, u, h1, rfl⟩ := (zAs_mem ad _ 0 q).mp hq
  rw [Nat.zero_add]
  rcases zS2_get v lv i j u h1 with ⟨rfl, rfl⟩ | ⟨h2, h2', h3, h4⟩
  · exact List.mem_cons_self
  · refine List.mem_cons_of_mem _ (List.mem_filter.mpr ⟨(zAs_mem ad lv 0 _).mpr ⟨j, u, h3, by rw [Nat.zero_add]⟩, ?_⟩)
    simp only [zCat_R]
    simp only [Bool.and_eq_true, Bool.not_eq_true', beq_eq_false_iff_ne, ne_eq, Bool.and_eq_false_iff]
    exact ⟨h2, h2', by by_cases e : j + 1 = i
                       · exact Or.inr (fun e2 => h4 ⟨e, e2⟩)
                       · exact Or.inl e⟩
theorem zAr_len (ad : Nat → Nat) : ∀ av : List Value, (lg_sl (av.map (zR ad))).length = (zAr av).length
  | [] => rfl
  | v :: r => by
    have e := zAr_len ad r
    simp only [lg_sl] at e
    rcases (show zCat v = 2 ∨ zCat v = 1 by cases v <;> simp [zCat]) with h | h
    · simp [lg_sl, zAr, h, zCat_R, e]
    · simp [lg_sl, zAr, h, zCat_R, e]
theorem zAr_args (ad : Nat → Nat) : ∀ (av : List Value) (k n : Nat) (q : Nat × Value), q ∈ zAs ad k (zAr av ++ List.replicate n none) → q ∈ lv_args k (av.map (zR ad))
  | [], k, n, q, h => by
    obtain ⟨j, v, h1, -⟩ := (zAs_mem ad _ k q).mp h
    simp only [zAr, List.nil_append] at h1
    have := List.eq_of_mem_replicate (List.mem_of_getElem? h1)
    cases this
  | v :: r, k, n, q, h => by
    rcases (show zCat v = 2 ∨ zCat v = 1 by cases v <;> simp [zCat]) with e | e
    · simp only [zAr, e, List.cons_append, zAs, List.mem_cons] at h
      simp only [List.map_cons, lv_args, zCat_R, e, if_true, List.mem_cons]
      rcases h with h | h
      · exact Or.inl h
      · exact Or.inr (zAr_args ad r (k + 2) n q h)
    · simp only [zAr, e, List.cons_append, zAs, List.mem_cons] at h
      simp only [List.map_cons, lv_args, zCat_R, e, List.mem_cons]
      rcases h with h | h
      · exact Or.inl h
      · exact Or.inr (zAr_args ad r (k + 1) n q h)
theorem zHas.entry (ad : Nat → Nat) (av : List Value) (n : Nat) (h : (zAr av).length ≤ n) : zHas ad ((lg_sl (av.map (zR ad)) ++ List.replicate (n - (lg_sl (av.map (zR ad))).length) Slot.unset).toArray) n (zAr av ++ List.replicate (n - (zAr av).length) none) := by
  have e := lv_entry (av.map (zR ad)) (n := n) (by rw [zAr_len]; exact h)
  exact ⟨⟨e.1, e.2.1, fun q hq => e.2.2 q (zAr_args ad av 0 _ q hq)⟩, by simp; omega⟩
-- fewer locals
def zMb : List Bool → zLo → zLo
  | true :: b, o :: r => o :: zMb b r
  | false :: b, _ :: r => none :: zMb b r
  | _, _ => []
def zMk : List (Nat × List Bool) → Nat → zLo → zLo
  | [], _, ls => ls
  | q :: r, pc, ls => match Nat.beq q.1 pc with
    | true => zMb q.2 ls
    | false => zMk r pc ls
theorem zMb_get : ∀ (b : List Bool) (lv : zLo) (j : Nat) (u : Value), (zMb b lv)[j]? = some (some u) → lv[j]? = some (some u)
  | true :: b, o :: r, 0, u, h => h
  | true :: b, o :: r, j + 1, u, h => zMb_get b r j u h
  | false :: b, o :: r, 0, u, h => by simp [zMb] at h
  | false :: b, o :: r, j + 1, u, h => zMb_get b r j u h
  | [], lv, j, u, h => by simp [zMb] at h
  | true :: b, [], j, u, h => by simp [zMb] at h
  | false :: b, [], j, u, h => by simp [zMb] at h
theorem zMb_len : ∀ (b : List Bool) (lv : zLo), (zMb b lv).length ≤ lv.length
  | true :: b, o :: r => by simp only [zMb, List.length_cons]; have := zMb_len b r; omega
  | false :: b, o :: r => by simp only [zMb, List.length_cons]; have := zMb_len b r; omega
  | [], lv => by simp [zMb]
  | true :: b, [] => by simp [zMb]
  | false :: b, [] => by simp [zMb]
theorem zMk_get : ∀ (ms : List (Nat × List Bool)) (pc : Nat) (lv : zLo), (∀ (j : Nat) (u : Value), (zMk ms pc lv)[j]? = some (some u) → lv[j]? = some (some u)) ∧ (zMk ms pc lv).length ≤ lv.length
  | [], pc, lv => ⟨fun _ _ h => h, Nat.le_refl _⟩
  | q :: r, pc, lv => by
    unfold zMk
    cases Nat.beq q.1 pc with
    | true => exact ⟨zMb_get q.2 lv, zMb_len q.2 lv⟩
    | false => exact zMk_get r pc lv
theorem zHas.mk {ad : Nat → Nat} {ls : Array Slot} {nL : Nat} {lv : zLo} (h : zHas ad ls nL lv) (ms : List (Nat × List Bool)) (pc : Nat) : zHas ad ls nL (zMk ms pc lv) := by
  obtain ⟨h1, h2⟩ := zMk_get ms pc lv
  refine ⟨⟨h.1.1, h.1.2.1, fun q hq => h.1.2.2 q ?_⟩, Nat.le_trans h2 h.2⟩
  obtain ⟨j, v, e1, e2⟩ := (zAs_mem ad _ 0 q).mp hq
  exact (zAs_mem ad lv 0 q).mpr ⟨j, v, h1 j v e1, e2⟩
end
section
/-! the small machine is the machine: one instruction -/
def zClosed (sc : Option (Nat × (Nat → Int32))) (C : zCa) (post : zPo) (mi : Nat) (X : zX) : Prop :=
  (∀ (Z : zX) (pc : Nat) (o : zOp) (ls : zLo) (st : List Value) (σ : zS), (∀ (pc : Nat) (ls : zLo) (st : List Value) (σ : zS), Z pc ls st σ → X pc ls st σ) → zOk mi pc o = true → zEx sc C post Z o ls st σ → X pc ls st σ) ∧
  ∀ (ms : List (Nat × List Bool)) (pc : Nat) (ls : zLo) (st : List Value) (σ : zS), X pc (zMk ms pc ls) st σ → X pc ls st σ
def zCall : Nat → zCa
  | 0 => fun _ _ _ _ => False
  | d + 1 => fun mi av σ post => zG (Nat.ble (zAr av).length (zMl mi)) (∀ X : zX, zClosed none (zCall d) post mi X → X 0 (zAr av ++ List.replicate (zMl mi - (zAr av).length) none) [] σ)
/-- the same, of the law's own methods, which see the script -/
def zCallS (sc : Option (Nat × (Nat → Int32))) : Nat → zCa
  | 0 => fun _ _ _ _ => False
  | d + 1 => fun mi av σ post => zG (Nat.ble (zAr av).length (zMl mi)) (∀ X : zX, zClosed sc (zCallS sc d) post mi X → X 0 (zAr av ++ List.replicate (zMl mi - (zAr av).length) none) [] σ)
theorem zPn_mono : ∀ (n : Nat) (acc st : List Value) (k k2 : List Value → List Value → Prop), (∀ av r, k av r → k2 av r) → zPn n acc st k → zPn n acc st k2
  | 0, _, _, _, _, hk, h => hk _ _ h
  | _ + 1, _, [], _, _, _, h => False.elim h
  | n + 1, acc, v :: st, k, k2, hk, h => zPn_mono n (v :: acc) st k k2 hk h
theorem zG_imp2 {b : Bool} {P Q : Prop} (f : P → Q) (h : zG b P) : zG b Q := by
  obtain ⟨rfl, h2⟩ := zG_inv h
  exact f h2
theorem zEx_mono {sc : Option (Nat × (Nat → Int32))} {C C2 : zCa} (hC : ∀ a av σ po, C a av σ po → C2 a av σ po) {post : zPo} {Z : zX} {o : zOp} {lv : zLo} {st : List Value} {σ : zS} (h : zEx none C post Z o lv st σ) : zEx sc C2 post Z o lv st σ := by
  obtain ⟨i, n, a, b, c, e, g, v, w, tb⟩ := o
  cases i with
  | iaload =>
    obtain ⟨q, i, r, rfl, h0⟩ := zAI_inv (show zAI st fun q i r => zIl none σ q i fun x => Z n lv (.int x :: r) σ from h)
    show zIl sc σ q i fun x => Z n lv (.int x :: r) σ
    unfold zIl at h0 ⊢
    cases hz : zIsI q with
    | true => rw [hz] at h0; exact h0
    | false => rw [hz] at h0; exact False.elim h0
  | arraylength =>
    obtain ⟨q, r, rfl, h0⟩ := zA_inv (show zA st fun q r => zLe none q fun x => Z n lv (.int x :: r) σ from h)
    show zLe sc q fun x => Z n lv (.int x :: r) σ
    unfold zLe at h0 ⊢
    cases hz : (zIsI q || zIsJ q) with
    | true => rw [hz] at h0; exact h0
    | false => rw [hz] at h0; exact False.elim h0
  | invokevirtual z => exact zPn_mono b [] st _ _ (fun av r hq => zG_imp2 (fun q => by
    match c, q with
    | 0, q => exact hC _ _ _ _ q
    | 1, q => exact hC _ _ _ _ q
    | k + 2, q => exact hC _ _ _ _ q) hq) h
  | invokestatic z =>
    match e, h with
    | 0, h => exact zPn_mono b [] st _ _ (fun av r hq => zG_imp2 (fun q => by
      match c, q with
      | 0, q => exact hC _ _ _ _ q
      | 1, q => exact hC _ _ _ _ q
      | k + 2, q => exact hC _ _ _ _ q) hq) h
    | 1, h => exact h
    | 2, h => exact h
    | 3, h => exact h
    | k + 4, h => exact False.elim h
  | ifCond cd z => cases cd <;> exact h
  | if_icmp cd z => cases cd <;> exact h
  | getfield z => exact h
  | putfield z => exact h
  | _ => first | exact h | exact False.elim h
/-- what a method does that never sees the script, it does beside it -/
theorem zUp {sc : Option (Nat × (Nat → Int32))} : ∀ {d a : Nat} {av : List Value} {σ : zS} {post : zPo}, zCall d a av σ post → zCallS sc d a av σ post
  | 0, _, _, _, _, h => False.elim h
  | d + 1, a, av, σ, post, h => zG_imp2 (fun hr X hX => hr X ⟨fun Z pc o ls st σ hZ hk hx => hX.1 Z pc o ls st σ hZ hk (zEx_mono (fun _ _ _ _ q => zUp q) hx), hX.2⟩) h
def zSeq (sc : Option (Nat × (Nat → Int32))) (C : zCa) (post : zPo) (X : zX) (ms : List (Nat × List Bool)) : List zOp → Nat → zX
  | [], _ => fun pc ls st σ => X pc (zMk ms pc ls) st σ
  | o :: r, p => fun pc ls st σ => match Nat.beq pc p with
    | true => zEx sc C post (zSeq sc C post X ms r o.2.1) o ls st σ
    | false => zSeq sc C post X ms r o.2.1 pc ls st σ
theorem zSeq_ok {sc : Option (Nat × (Nat → Int32))} {C : zCa} {post : zPo} {mi : Nat} {X : zX} (hX : zClosed sc C post mi X) (ms : List (Nat × List Bool)) : ∀ (is : List zOp) (p pc : Nat) (ls : zLo) (st : List Value) (σ : zS), zOks mi is p = true → zSeq sc C post X ms is p pc ls st σ → X pc ls st σ
  | [], p, pc, ls, st, σ, _, h => hX.2 ms pc ls st σ h
  | o :: r, p, pc, ls, st, σ, hk, h => by
    simp only [zOks, Bool.and_eq_true] at hk
    simp only [zSeq] at h
    cases e : Nat.beq pc p with
    | true =>
      rw [e] at h
      have e2 := Nat.eq_of_beq_eq_true e
      subst e2
      exact hX.1 _ pc o ls st σ (fun pc ls st σ h => zSeq_ok hX ms r o.2.1 pc ls st σ hk.2 h) hk.1 h
    | false =>
      rw [e] at h
      exact zSeq_ok hX ms r o.2.1 pc ls st σ hk.2 h
def zWs (mi : Nat) : List Cond := .code (zY mi) (zBy mi) (zMl mi) (zRt mi) :: zTg
def zRm (d : Nat) : Room := { frames := d, cells := 0, slots := 0, locals := 32 * d }
def zA0 (ad : Nat → Nat) (sz : Nat) : Nat → Prop := fun q => (∃ k, k < zSh.length ∧ ad k = q) ∨ sz ≤ q
def zQ (D : va_G) (cI cJ : ClassId) (ad : Nat → Nat) (sz : Nat) (post : zPo) : Array Value → State → Outcome → State → Prop := fun _ st oc t => (∃ (r : Option Value) (σ : zS), oc = .returned r ∧ post r σ ∧ va_P D vwCl (zW ad cI cJ σ) t.heap) ∧ va_F (zA0 ad sz) st t
def zB (sc : Option (Nat × (Nat → Int32))) (D : va_G) (cI cJ : ClassId) (ad : Nat → Nat) (sz : Nat) (σ : zS) : State → Prop := fun U => U.heap.size = sz ∧ va_P D vwCl (zW ad cI cJ σ) U.heap ∧ va_K D vwCl [(cI, .int), (cJ, .long)] U ∧ (∀ w ∈ zNw, va_Nw w U) ∧ ∀ t, sc = some t → va_X (ad 80) t.1 t.2 U U.heap ∧ ad 80 < sz ∧ ∀ k, k < zSh.length → ad k ≠ ad 80
def zCon (sc : Option (Nat × (Nat → Int32))) (l : Launch) (D : va_G) (cI cJ : ClassId) (ad : Nat → Nat) (d : Nat) (mi : Nat) (av : List Value) (σ : zS) (post : zPo) : Prop :=
  ∀ sz : Nat, Met l (zY mi) (zWs mi) (zRm d) (va_Pc (av.map (zR ad)) (zB sc D cI cJ ad sz σ)) (zQ D cI cJ ad sz post) 0 0 (zA0 ad sz)
theorem zLen {bs : ByteArray} {pc n k : Nat} {i : Instr} (h1 : Nat.blt pc n = true) (h2 : decode bs pc = .ok (i, n - pc)) (h3 : Nat.beq (n - pc) k = true) : n = pc + k ∧ decode bs pc = .ok (i, k) := by
  have a := Nat.le_of_ble_eq_true h1
  have b := Nat.eq_of_beq_eq_true h3
  exact ⟨by omega, by rw [← b]; exact h2⟩
theorem zW_inv {ad : Nat → Nat} {cI cJ : ClassId} {σ : zS} {k : Nat} {q : Nat × va_E} (h : (zW ad cI cJ σ)[k]? = some q) : k < zSh.length ∧ q.1 = ad k := by
  have hl : k < (zW ad cI cJ σ).length := (List.getElem?_eq_some_iff.mp h).1
  have hz : (zW ad cI cJ σ).length = zSh.length := zWA_len ad cI cJ σ zSh 0
  rw [hz] at hl
  have e := zW_get ad cI cJ σ (List.getElem?_eq_getElem hl)
  rw [h] at e
  exact ⟨hl, congrArg Prod.fst (Option.some.inj e)⟩
theorem zD_of {ad : Nat → Nat} {cI cJ : ClassId} {A : Nat → Prop} (hi : ∀ i j, i < zSh.length → j < zSh.length → ad i = ad j → i = j) (hA : ∀ k, k < zSh.length → A (ad k)) (σ : zS) : va_D A (zW ad cI cJ σ) := by
  refine ⟨fun i j x y hx hy e => ?_, fun k q h => ?_⟩
  · obtain ⟨h1, h2⟩ := zW_inv hx
    obtain ⟨h3, h4⟩ := zW_inv hy
    exact hi i j h1 h3 (by rw [← h2, ← h4, e])
  · obtain ⟨h1, h2⟩ := zW_inv h
    rw [h2]
    exact hA k h1
section ZS
variable {p : Program} {l : Launch} {e : Env} {R : Room} {s : State} {m : MethodId} {args : Array Value} {below : List Frame} {meth : Method} {c : Code} {H : Heap} {locs : List Loc} {cells slots : Nat} {Q : State → Prop}
theorem z_callG {pc : Nat} {ls : Array Slot} {rest st0 : List Value} {Qa : State → Outcome → State → Prop} {free : Addr → Prop} (hr : va_Run p l e R s m args below meth c H locs cells slots 0 0 (F0 m pc ls st0) rest Qa free)
    (kk : ∀ (v : Option Value) (st₀ t : State) (H1 : Heap) (L : List Loc), st₀.heap = H → t.heap = H1 → Qa st₀ (.returned v) t → (∀ q ∈ L, free q.base) → W p l e R s m args below meth c H1 (locs ++ L) cells slots Q (F0 m (pc + 3) ls (v.toList ++ rest))) : W p l e R s m args below meth c H locs cells slots Q (F0 m pc ls st0) := by
  intro T hT X
  obtain ⟨v, st₀, t, T', L, h0, X', hL, e1, e2, hq, st⟩ := hr T hT X
  obtain ⟨t2, a1, b1⟩ := kk v st₀ t T'.heap L h0 e1.symm hq hL T' rfl X'
  exact ⟨t2, st t2 a1, b1⟩
theorem zS_call {ad : Nat → Nat} {A : Nat → Prop} {H0 H1 : Heap} {st₀ t : State} {L : List Loc} (hS : va_S A H0 H locs) (hAd : ∀ k, k < zSh.length → A (ad k)) (hA : ∀ q, H0.size ≤ q → A q) (h0 : st₀.heap = H) (hF : va_F (zA0 ad H.size) st₀ t) (ht : t.heap = H1) (hL : ∀ q ∈ L, zA0 ad H.size q.base) : va_S A H0 H1 (locs ++ L) := by
  subst h0; subst ht
  have hz : ∀ q, zA0 ad st₀.heap.size q → A q := by
    intro q h
    rcases h with ⟨k, h1, h2⟩ | h
    · rw [← h2]; exact hAd k h1
    · exact hA q (Nat.le_trans hS.1 h)
  refine ⟨Nat.le_trans hS.1 hF.1, fun q h1 h2 => ?_, fun q hq => ?_⟩
  · rw [hF.2 q (Nat.lt_of_lt_of_le h1 hS.1) (fun z => h2 (hz q z))]
    exact hS.2.1 q h1 h2
  · rcases List.mem_append.mp hq with h | h
    · exact hS.2.2 q h
    · exact hz _ (hL q h)
end ZS
theorem zTg_GoodIn {ws : List Cond} (h : ∀ w ∈ ws, w ∈ zTg) : GoodIn zTg ws := fun w hw => ⟨h w hw, (zTg_good (h w hw)).2⟩
theorem zMv_spec {a : Nat} (h : a < 85) (h2 : a ≠ nL_law) : (Cond.code (zY a) (zBy a) (zMl a) (zRt a) ∈ zTg) ∧ (Cond.initialized (zY a).cls ∈ zTg) ∧ ((zY a).cls ≠ "java/lang/invoke/MethodHandle" ∧ (zY a).cls ≠ "java/lang/invoke/VarHandle") ∧ plainName (zY a).cls = true ∧ zMl a ≤ 13 ∧
    (zMs a = true → Cond.static (zY a) ∈ zTg) ∧ (zMs a = false → Cond.instanceMethod (zY a) ∈ zTg ∧ ((zY a).name = "<init>" ∨ Cond.selects (zY a).cls (zY a) (zY a) ∈ zTg) ∧ zMc a < 12 ∧ (zCl (zMc a)).1 = (zY a).cls) := by
  have h3 := zMv_all a h h2
  simp only [zMv, zNoH, Bool.and_eq_true, decide_eq_true_eq] at h3
  obtain ⟨⟨⟨⟨⟨h4, h5⟩, h6⟩, h7⟩, h8⟩, h9⟩ := h3
  refine ⟨zin _ h4 rfl, zin _ h5 rfl, h6, h7, Nat.le_of_ble_eq_true h8, fun q => ?_, fun q => ?_⟩
  · rw [q] at h9
    exact zin _ (of_decide_eq_true h9) rfl
  · rw [q] at h9
    simp only [Bool.and_eq_true, Bool.or_eq_true, decide_eq_true_eq] at h9
    obtain ⟨⟨⟨g1, g2⟩, g3⟩, g4⟩ := h9
    exact ⟨zin _ g1 rfl, g2.imp id (fun z => zin _ z rfl), Nat.le_of_ble_eq_true g3, g4⟩
theorem zCl_get {a : Nat} (h : a < 12) : vwCl[a]? = some ((zCl a).1, (zCl a).2.1, (zCl a).2.2) ∧ zCv (zCl a) = true := by
  have hl : a < vwCl.length := h
  have e : vwCl[a]? = some (zCl a) := by
    unfold zCl
    rw [List.getD_eq_getElem?_getD, List.getElem?_eq_getElem hl]
    rfl
  exact ⟨e, List.all_eq_true.mp zCv_all _ (List.mem_of_getElem? e)⟩
theorem zCv_spec {q : vw_C} (h : zCv q = true) : (∀ w ∈ u_ws q.1 q.2.1 q.2.2, w ∈ zTg) ∧ (∀ k, k < q.2.2 → parseFieldDescriptor (q.2.1 k).2.2.1 = some ((parseFieldDescriptor (q.2.1 k).2.2.1).getD .int)) ∧ (∀ a, a < q.2.2 → ∀ b, b < q.2.2 → a ≠ b → (q.2.1 a).2.1 ≠ (q.2.1 b).2.1) := by
  simp only [zCv, Bool.and_eq_true] at h
  obtain ⟨h1, h2⟩ := h
  refine ⟨fun w hw => ?_, fun k hk => ?_, fun a ha b hb hab => ?_⟩
  · have e := List.all_eq_true.mp h1 w hw
    simp only [Bool.and_eq_true, decide_eq_true_eq] at e
    exact List.mem_filter.mpr e
  · have e := List.all_eq_true.mp h2 k (List.mem_range.mpr hk)
    simp only [Bool.and_eq_true] at e
    obtain ⟨v, hv⟩ := Option.isSome_iff_exists.mp e.1
    rw [hv]; rfl
  · have e := List.all_eq_true.mp h2 b (List.mem_range.mpr hb)
    simp only [Bool.and_eq_true] at e
    have e2 := List.all_eq_true.mp e.2 a (List.mem_range.mpr ha)
    simp only [Bool.or_eq_true, decide_eq_true_eq] at e2
    rcases e2 with e2 | e2
    · exact absurd (Nat.eq_of_beq_eq_true e2) hab
    · exact e2
theorem zNw_kind {w : Cond} (h : w ∈ zNw) : zNst w = true := (List.mem_filter.mp h).2
theorem zNw_same {w : Cond} (h : w ∈ zNw) {u U : State} (hv : u.vm = U.vm) (hZ : va_Nw w u) : va_Nw w U := by
  have hk := zNw_kind h
  cases w <;> first | (exact va_Nw.same rfl hv hZ) | (exact absurd hk (by simp [zNst]))
theorem zNw_warm {w : Cond} (h : w ∈ zNw) {s U : State} (hW : s.WarmedH U.vm) (hZ : va_Nw w s) : va_Nw w U := by
  have hk := zNw_kind h
  cases w <;> first | (exact va_Nw.warmF hW hZ) | (exact va_Nw.warmM hW hZ) | (exact absurd hk (by simp [zNst]))
theorem zB_blind (sc : Option (Nat × (Nat → Int32))) (D : va_G) (cI cJ : ClassId) (ad : Nat → Nat) (sz : Nat) (σ : zS) (av : List Value) : FrameBlind (va_Pc av (zB sc D cI cJ ad sz σ)) := by
  intro a U g mk q
  obtain ⟨q0, q1, qP, qK, qN, qX⟩ := q
  exact ⟨q0, q1, qP, va_K.moved (u := U) (U := U.calling g mk a) (Vm.Alike.refl U.vm) qK, fun w hw => zNw_same hw (u := U) (U := U.calling g mk a) rfl (qN w hw), fun t ht => ⟨va_X.moved (u := U) (U := U.calling g mk a) (Vm.Alike.refl U.vm) (qX t ht).1, (qX t ht).2⟩⟩
end
section
/-! the small machine's instruction is the machine's -/
/-- what holds in a method's frame -/
def zCx (p : Program) (l : Launch) (R : Room) (s : State) (m : MethodId) (args : Array Value) (meth : Method) (c : Code) (cells slots : Nat) (D : va_G) (cI cJ : ClassId) (ad : Nat → Nat) (A : Nat → Prop) (d mi : Nat) : Prop :=
  p.tables.exec = Jvm.exec ∧ c.code = zBy mi ∧ c.maxLocals = zMl mi ∧ s.vm.findClass (zY mi).cls = some m.cls ∧ (∀ w ∈ zTg, w.before args s = true) ∧ (∀ w ∈ zNw, va_Nw w s) ∧ va_K D vwCl [(cI, .int), (cJ, .long)] s ∧ (∀ i j, i < zSh.length → j < zSh.length → ad i = ad j → i = j) ∧ (∀ k, k < zSh.length → A (ad k)) ∧ (∀ q, s.heap.size ≤ q → A q) ∧ cells ≤ R.cells ∧ slots ≤ R.slots ∧ d + 1 ≤ R.frames ∧ 32 * (d + 1) ≤ R.locals
theorem z01_nar {x : Int32} (h : (x == 0 || x == 1) = true) : narrow .boolean (.int x) = .int x := by
  simp only [Bool.or_eq_true, beq_iff_eq] at h
  rcases h with rfl | rfl <;> rfl
section ZX
variable {p : Program} {l : Launch} {e : Env} {R : Room} {s : State} {m : MethodId} {args : Array Value} {below : List Frame} {meth : Method} {c : Code} {cells slots : Nat} {Q : State → Prop} {D : va_G} {cI cJ : ClassId} {ad : Nat → Nat} {A : Nat → Prop} {d mi : Nat}
def zXs (p : Program) (l : Launch) (e : Env) (R : Room) (s : State) (m : MethodId) (args : Array Value) (below : List Frame) (meth : Method) (c : Code) (cells slots : Nat) (Q : State → Prop) (D : va_G) (cI cJ : ClassId) (ad : Nat → Nat) (A : Nat → Prop) (mi : Nat) : zX := fun pc lv st σ =>
  ∀ (H : Heap) (locs : List Loc) (ls : Array Slot), va_P D vwCl (zW ad cI cJ σ) H → va_S A s.heap H locs → zHas ad ls (zMl mi) lv → W p l e R s m args below meth c H locs cells slots Q (F0 m pc ls (st.map (zR ad)))
variable {sc : Option (Nat × (Nat → Int32))} {C : zCa} {post : zPo} {Z : zX} {pc n a b k1 e1 g : Nat} {v : Int32} {w : Int64} {tb : List (Int32 × Nat)} {lv : zLo} {st : List Value} {σ : zS}
abbrev zZX (p : Program) (l : Launch) (e : Env) (R : Room) (s : State) (m : MethodId) (args : Array Value) (below : List Frame) (meth : Method) (c : Code) (cells slots : Nat) (Q : State → Prop) (D : va_G) (cI cJ : ClassId) (ad : Nat → Nat) (A : Nat → Prop) (mi : Nat) (Z : zX) : Prop := ∀ (pc : Nat) (ls : zLo) (st : List Value) (σ : zS), Z pc ls st σ → zXs p l e R s m args below meth c cells slots Q D cI cJ ad A mi pc ls st σ
theorem zo_iconst {z : Int} (K : zCx p l R s m args meth c cells slots D cI cJ ad A d mi) (hZ : zZX p l e R s m args below meth c cells slots Q D cI cJ ad A mi Z) (hk : zOk mi pc (.iconst z, n, a, b, k1, e1, g, v, w, tb) = true) (h : zEx sc C post Z (.iconst z, n, a, b, k1, e1, g, v, w, tb) lv st σ) : zXs p l e R s m args below meth c cells slots Q D cI cJ ad A mi pc lv st σ := by
  obtain ⟨hx, hb, hml, hown, hts, hnw, hK, hinj, hAd, hA, hcl, hsl, hfr, hlo⟩ := K
  intro H locs ls hP hS hl
  simp only [zOk, Bool.and_eq_true, decide_eq_true_eq] at hk
  simp only [zEx] at h
  obtain ⟨⟨hn, hdg⟩, hk⟩ := hk
  obtain ⟨rfl, hd2⟩ := zLen hn hdg hk.1
  exact lv_iconst hx hb hd2 hk.2 (hZ _ _ _ _ h H locs ls hP hS hl)
theorem zo_bipush {z : Int} (K : zCx p l R s m args meth c cells slots D cI cJ ad A d mi) (hZ : zZX p l e R s m args below meth c cells slots Q D cI cJ ad A mi Z) (hk : zOk mi pc (.bipush z, n, a, b, k1, e1, g, v, w, tb) = true) (h : zEx sc C post Z (.bipush z, n, a, b, k1, e1, g, v, w, tb) lv st σ) : zXs p l e R s m args below meth c cells slots Q D cI cJ ad A mi pc lv st σ := by
  obtain ⟨hx, hb, hml, hown, hts, hnw, hK, hinj, hAd, hA, hcl, hsl, hfr, hlo⟩ := K
  intro H locs ls hP hS hl
  simp only [zOk, Bool.and_eq_true, decide_eq_true_eq] at hk
  simp only [zEx] at h
  obtain ⟨⟨hn, hdg⟩, hk⟩ := hk
  obtain ⟨rfl, hd2⟩ := zLen hn hdg hk.1
  exact lv_bipush hx hb hd2 hk.2 (hZ _ _ _ _ h H locs ls hP hS hl)
theorem zo_sipush {z : Int} (K : zCx p l R s m args meth c cells slots D cI cJ ad A d mi) (hZ : zZX p l e R s m args below meth c cells slots Q D cI cJ ad A mi Z) (hk : zOk mi pc (.sipush z, n, a, b, k1, e1, g, v, w, tb) = true) (h : zEx sc C post Z (.sipush z, n, a, b, k1, e1, g, v, w, tb) lv st σ) : zXs p l e R s m args below meth c cells slots Q D cI cJ ad A mi pc lv st σ := by
  obtain ⟨hx, hb, hml, hown, hts, hnw, hK, hinj, hAd, hA, hcl, hsl, hfr, hlo⟩ := K
  intro H locs ls hP hS hl
  simp only [zOk, Bool.and_eq_true, decide_eq_true_eq] at hk
  simp only [zEx] at h
  obtain ⟨⟨hn, hdg⟩, hk⟩ := hk
  obtain ⟨rfl, hd2⟩ := zLen hn hdg hk.1
  exact lv_sipush hx hb hd2 hk.2 (hZ _ _ _ _ h H locs ls hP hS hl)
theorem zo_lconst {z : Fin 2} (K : zCx p l R s m args meth c cells slots D cI cJ ad A d mi) (hZ : zZX p l e R s m args below meth c cells slots Q D cI cJ ad A mi Z) (hk : zOk mi pc (.lconst z, n, a, b, k1, e1, g, v, w, tb) = true) (h : zEx sc C post Z (.lconst z, n, a, b, k1, e1, g, v, w, tb) lv st σ) : zXs p l e R s m args below meth c cells slots Q D cI cJ ad A mi pc lv st σ := by
  obtain ⟨hx, hb, hml, hown, hts, hnw, hK, hinj, hAd, hA, hcl, hsl, hfr, hlo⟩ := K
  intro H locs ls hP hS hl
  simp only [zOk, Bool.and_eq_true, decide_eq_true_eq] at hk
  simp only [zEx] at h
  obtain ⟨⟨hn, hdg⟩, hk⟩ := hk
  obtain ⟨rfl, hd2⟩ := zLen hn hdg hk.1
  exact lv_lconst hx hb hd2 hk.2 (hZ _ _ _ _ h H locs ls hP hS hl)
theorem zo_ldc {idx : Nat} (K : zCx p l R s m args meth c cells slots D cI cJ ad A d mi) (hZ : zZX p l e R s m args below meth c cells slots Q D cI cJ ad A mi Z) (hk : zOk mi pc (.ldc idx, n, a, b, k1, e1, g, v, w, tb) = true) (h : zEx sc C post Z (.ldc idx, n, a, b, k1, e1, g, v, w, tb) lv st σ) : zXs p l e R s m args below meth c cells slots Q D cI cJ ad A mi pc lv st σ := by
  obtain ⟨hx, hb, hml, hown, hts, hnw, hK, hinj, hAd, hA, hcl, hsl, hfr, hlo⟩ := K
  intro H locs ls hP hS hl
  simp only [zOk, Bool.and_eq_true, decide_eq_true_eq] at hk
  simp only [zEx] at h
  obtain ⟨⟨hn, hdg⟩, hk⟩ := hk
  obtain ⟨rfl, hd2⟩ := zLen hn hdg hk.1
  exact lv_ldc hx hb hown (hts _ (zin _ hk.2 rfl)) hd2 (hZ _ _ _ _ h H locs ls hP hS hl)
theorem zo_ldc2 {idx : Nat} (K : zCx p l R s m args meth c cells slots D cI cJ ad A d mi) (hZ : zZX p l e R s m args below meth c cells slots Q D cI cJ ad A mi Z) (hk : zOk mi pc (.ldc2_w idx, n, a, b, k1, e1, g, v, w, tb) = true) (h : zEx sc C post Z (.ldc2_w idx, n, a, b, k1, e1, g, v, w, tb) lv st σ) : zXs p l e R s m args below meth c cells slots Q D cI cJ ad A mi pc lv st σ := by
  obtain ⟨hx, hb, hml, hown, hts, hnw, hK, hinj, hAd, hA, hcl, hsl, hfr, hlo⟩ := K
  intro H locs ls hP hS hl
  simp only [zOk, Bool.and_eq_true, decide_eq_true_eq] at hk
  simp only [zEx] at h
  obtain ⟨⟨hn, hdg⟩, hk⟩ := hk
  obtain ⟨rfl, hd2⟩ := zLen hn hdg hk.1
  exact lv_ldc2 hx hb hown (hts _ (zin _ hk.2 rfl)) hd2 (hZ _ _ _ _ h H locs ls hP hS hl)
theorem zo_iload_n {z : Fin 4} (K : zCx p l R s m args meth c cells slots D cI cJ ad A d mi) (hZ : zZX p l e R s m args below meth c cells slots Q D cI cJ ad A mi Z) (hk : zOk mi pc (.iload_n z, n, a, b, k1, e1, g, v, w, tb) = true) (h : zEx sc C post Z (.iload_n z, n, a, b, k1, e1, g, v, w, tb) lv st σ) : zXs p l e R s m args below meth c cells slots Q D cI cJ ad A mi pc lv st σ := by
  obtain ⟨hx, hb, hml, hown, hts, hnw, hK, hinj, hAd, hA, hcl, hsl, hfr, hlo⟩ := K
  intro H locs ls hP hS hl
  simp only [zOk, Bool.and_eq_true, decide_eq_true_eq] at hk
  simp only [zEx] at h
  obtain ⟨⟨hn, hdg⟩, hk⟩ := hk
  obtain ⟨rfl, hd2⟩ := zLen hn hdg hk.1
  obtain ⟨x, hg, h⟩ := zLi_inv h
  exact lv_iload_n hx hb hd2 (Nat.eq_of_beq_eq_true hk.2) (hl.at hg) (hZ _ _ _ _ h H locs ls hP hS hl)
theorem zo_iload {z : Nat} (K : zCx p l R s m args meth c cells slots D cI cJ ad A d mi) (hZ : zZX p l e R s m args below meth c cells slots Q D cI cJ ad A mi Z) (hk : zOk mi pc (.iload z, n, a, b, k1, e1, g, v, w, tb) = true) (h : zEx sc C post Z (.iload z, n, a, b, k1, e1, g, v, w, tb) lv st σ) : zXs p l e R s m args below meth c cells slots Q D cI cJ ad A mi pc lv st σ := by
  obtain ⟨hx, hb, hml, hown, hts, hnw, hK, hinj, hAd, hA, hcl, hsl, hfr, hlo⟩ := K
  intro H locs ls hP hS hl
  simp only [zOk, Bool.and_eq_true, decide_eq_true_eq] at hk
  simp only [zEx] at h
  obtain ⟨⟨hn, hdg⟩, hk⟩ := hk
  obtain ⟨rfl, hd2⟩ := zLen hn hdg hk.1
  have hz := Nat.eq_of_beq_eq_true hk.2
  subst hz
  obtain ⟨x, hg, h5⟩ := zLi_inv h
  exact lv_iload hx hb hd2 (hl.at hg) (hZ _ _ _ _ h5 H locs ls hP hS hl)
theorem zo_lload_n {z : Fin 4} (K : zCx p l R s m args meth c cells slots D cI cJ ad A d mi) (hZ : zZX p l e R s m args below meth c cells slots Q D cI cJ ad A mi Z) (hk : zOk mi pc (.lload_n z, n, a, b, k1, e1, g, v, w, tb) = true) (h : zEx sc C post Z (.lload_n z, n, a, b, k1, e1, g, v, w, tb) lv st σ) : zXs p l e R s m args below meth c cells slots Q D cI cJ ad A mi pc lv st σ := by
  obtain ⟨hx, hb, hml, hown, hts, hnw, hK, hinj, hAd, hA, hcl, hsl, hfr, hlo⟩ := K
  intro H locs ls hP hS hl
  simp only [zOk, Bool.and_eq_true, decide_eq_true_eq] at hk
  simp only [zEx] at h
  obtain ⟨⟨hn, hdg⟩, hk⟩ := hk
  obtain ⟨rfl, hd2⟩ := zLen hn hdg hk.1
  obtain ⟨x, hg, h⟩ := zLj_inv h
  exact lv_lload_n hx hb hd2 (Nat.eq_of_beq_eq_true hk.2) (hl.at hg) (hZ _ _ _ _ h H locs ls hP hS hl)
theorem zo_lload {z : Nat} (K : zCx p l R s m args meth c cells slots D cI cJ ad A d mi) (hZ : zZX p l e R s m args below meth c cells slots Q D cI cJ ad A mi Z) (hk : zOk mi pc (.lload z, n, a, b, k1, e1, g, v, w, tb) = true) (h : zEx sc C post Z (.lload z, n, a, b, k1, e1, g, v, w, tb) lv st σ) : zXs p l e R s m args below meth c cells slots Q D cI cJ ad A mi pc lv st σ := by
  obtain ⟨hx, hb, hml, hown, hts, hnw, hK, hinj, hAd, hA, hcl, hsl, hfr, hlo⟩ := K
  intro H locs ls hP hS hl
  simp only [zOk, Bool.and_eq_true, decide_eq_true_eq] at hk
  simp only [zEx] at h
  obtain ⟨⟨hn, hdg⟩, hk⟩ := hk
  obtain ⟨rfl, hd2⟩ := zLen hn hdg hk.1
  have hz := Nat.eq_of_beq_eq_true hk.2
  subst hz
  obtain ⟨x, hg, h5⟩ := zLj_inv h
  exact lv_lload hx hb hd2 (hl.at hg) (hZ _ _ _ _ h5 H locs ls hP hS hl)
theorem zo_aload_n {z : Fin 4} (K : zCx p l R s m args meth c cells slots D cI cJ ad A d mi) (hZ : zZX p l e R s m args below meth c cells slots Q D cI cJ ad A mi Z) (hk : zOk mi pc (.aload_n z, n, a, b, k1, e1, g, v, w, tb) = true) (h : zEx sc C post Z (.aload_n z, n, a, b, k1, e1, g, v, w, tb) lv st σ) : zXs p l e R s m args below meth c cells slots Q D cI cJ ad A mi pc lv st σ := by
  obtain ⟨hx, hb, hml, hown, hts, hnw, hK, hinj, hAd, hA, hcl, hsl, hfr, hlo⟩ := K
  intro H locs ls hP hS hl
  simp only [zOk, Bool.and_eq_true, decide_eq_true_eq] at hk
  simp only [zEx] at h
  obtain ⟨⟨hn, hdg⟩, hk⟩ := hk
  obtain ⟨rfl, hd2⟩ := zLen hn hdg hk.1
  obtain ⟨x, hg, h⟩ := zLa_inv h
  exact lv_aload_n hx hb hd2 (Nat.eq_of_beq_eq_true hk.2) (hl.at hg) (hZ _ _ _ _ h H locs ls hP hS hl)
theorem zo_aload {z : Nat} (K : zCx p l R s m args meth c cells slots D cI cJ ad A d mi) (hZ : zZX p l e R s m args below meth c cells slots Q D cI cJ ad A mi Z) (hk : zOk mi pc (.aload z, n, a, b, k1, e1, g, v, w, tb) = true) (h : zEx sc C post Z (.aload z, n, a, b, k1, e1, g, v, w, tb) lv st σ) : zXs p l e R s m args below meth c cells slots Q D cI cJ ad A mi pc lv st σ := by
  obtain ⟨hx, hb, hml, hown, hts, hnw, hK, hinj, hAd, hA, hcl, hsl, hfr, hlo⟩ := K
  intro H locs ls hP hS hl
  simp only [zOk, Bool.and_eq_true, decide_eq_true_eq] at hk
  simp only [zEx] at h
  obtain ⟨⟨hn, hdg⟩, hk⟩ := hk
  obtain ⟨rfl, hd2⟩ := zLen hn hdg hk.1
  have hz := Nat.eq_of_beq_eq_true hk.2
  subst hz
  obtain ⟨x, hg, h5⟩ := zLa_inv h
  exact lv_aload hx hb hd2 (hl.at hg) (hZ _ _ _ _ h5 H locs ls hP hS hl)
theorem zo_istore_n {z : Fin 4} (K : zCx p l R s m args meth c cells slots D cI cJ ad A d mi) (hZ : zZX p l e R s m args below meth c cells slots Q D cI cJ ad A mi Z) (hk : zOk mi pc (.istore_n z, n, a, b, k1, e1, g, v, w, tb) = true) (h : zEx sc C post Z (.istore_n z, n, a, b, k1, e1, g, v, w, tb) lv st σ) : zXs p l e R s m args below meth c cells slots Q D cI cJ ad A mi pc lv st σ := by
  obtain ⟨hx, hb, hml, hown, hts, hnw, hK, hinj, hAd, hA, hcl, hsl, hfr, hlo⟩ := K
  intro H locs ls hP hS hl
  simp only [zOk, Bool.and_eq_true, decide_eq_true_eq] at hk
  simp only [zEx] at h
  obtain ⟨⟨hn, hdg⟩, hk⟩ := hk
  obtain ⟨rfl, hd2⟩ := zLen hn hdg hk.1
  obtain ⟨x, r, rfl, h⟩ := zI_inv h
  obtain ⟨hlt, h⟩ := zG_inv h
  exact lv_istore_n hx hb hd2 (Nat.eq_of_beq_eq_true hk.2) hl.1 (Nat.lt_of_lt_of_le (Nat.le_of_ble_eq_true hlt) hl.2) rfl (fun ls2 hl2 => hZ _ _ _ _ h H locs ls2 hP hS (hl.st1 (v := .int x) hl2))
theorem zo_istore {z : Nat} (K : zCx p l R s m args meth c cells slots D cI cJ ad A d mi) (hZ : zZX p l e R s m args below meth c cells slots Q D cI cJ ad A mi Z) (hk : zOk mi pc (.istore z, n, a, b, k1, e1, g, v, w, tb) = true) (h : zEx sc C post Z (.istore z, n, a, b, k1, e1, g, v, w, tb) lv st σ) : zXs p l e R s m args below meth c cells slots Q D cI cJ ad A mi pc lv st σ := by
  obtain ⟨hx, hb, hml, hown, hts, hnw, hK, hinj, hAd, hA, hcl, hsl, hfr, hlo⟩ := K
  intro H locs ls hP hS hl
  simp only [zOk, Bool.and_eq_true, decide_eq_true_eq] at hk
  simp only [zEx] at h
  obtain ⟨⟨hn, hdg⟩, hk⟩ := hk
  obtain ⟨rfl, hd2⟩ := zLen hn hdg hk.1
  obtain ⟨x, r, rfl, h⟩ := zI_inv h
  obtain ⟨hlt, h⟩ := zG_inv h
  have hz := Nat.eq_of_beq_eq_true hk.2
  subst hz
  exact lv_istore hx hb hd2 hl.1 (Nat.lt_of_lt_of_le (Nat.le_of_ble_eq_true hlt) hl.2) rfl (fun ls2 hl2 => hZ _ _ _ _ h H locs ls2 hP hS (hl.st1 (v := .int x) hl2))
theorem zo_astore_n {z : Fin 4} (K : zCx p l R s m args meth c cells slots D cI cJ ad A d mi) (hZ : zZX p l e R s m args below meth c cells slots Q D cI cJ ad A mi Z) (hk : zOk mi pc (.astore_n z, n, a, b, k1, e1, g, v, w, tb) = true) (h : zEx sc C post Z (.astore_n z, n, a, b, k1, e1, g, v, w, tb) lv st σ) : zXs p l e R s m args below meth c cells slots Q D cI cJ ad A mi pc lv st σ := by
  obtain ⟨hx, hb, hml, hown, hts, hnw, hK, hinj, hAd, hA, hcl, hsl, hfr, hlo⟩ := K
  intro H locs ls hP hS hl
  simp only [zOk, Bool.and_eq_true, decide_eq_true_eq] at hk
  simp only [zEx] at h
  obtain ⟨⟨hn, hdg⟩, hk⟩ := hk
  obtain ⟨rfl, hd2⟩ := zLen hn hdg hk.1
  obtain ⟨x, r, rfl, h⟩ := zA_inv h
  obtain ⟨hlt, h⟩ := zG_inv h
  exact lv_astore_n hx hb hd2 (Nat.eq_of_beq_eq_true hk.2) hl.1 (Nat.lt_of_lt_of_le (Nat.le_of_ble_eq_true hlt) hl.2) rfl (fun ls2 hl2 => hZ _ _ _ _ h H locs ls2 hP hS (hl.st1 (v := .ref x) hl2))
theorem zo_lstore_n {z : Fin 4} (K : zCx p l R s m args meth c cells slots D cI cJ ad A d mi) (hZ : zZX p l e R s m args below meth c cells slots Q D cI cJ ad A mi Z) (hk : zOk mi pc (.lstore_n z, n, a, b, k1, e1, g, v, w, tb) = true) (h : zEx sc C post Z (.lstore_n z, n, a, b, k1, e1, g, v, w, tb) lv st σ) : zXs p l e R s m args below meth c cells slots Q D cI cJ ad A mi pc lv st σ := by
  obtain ⟨hx, hb, hml, hown, hts, hnw, hK, hinj, hAd, hA, hcl, hsl, hfr, hlo⟩ := K
  intro H locs ls hP hS hl
  simp only [zOk, Bool.and_eq_true, decide_eq_true_eq] at hk
  simp only [zEx] at h
  obtain ⟨⟨hn, hdg⟩, hk⟩ := hk
  obtain ⟨rfl, hd2⟩ := zLen hn hdg hk.1
  obtain ⟨x, r, rfl, h⟩ := zJ_inv h
  obtain ⟨hlt, h⟩ := zG_inv h
  exact lv_lstore_n hx hb hd2 (Nat.eq_of_beq_eq_true hk.2) hl.1 (Nat.lt_of_lt_of_le (Nat.le_of_ble_eq_true hlt) hl.2) rfl (fun ls2 hl2 => hZ _ _ _ _ h H locs ls2 hP hS (hl.st2 (v := .long x) hl2))
theorem zo_lstore {z : Nat} (K : zCx p l R s m args meth c cells slots D cI cJ ad A d mi) (hZ : zZX p l e R s m args below meth c cells slots Q D cI cJ ad A mi Z) (hk : zOk mi pc (.lstore z, n, a, b, k1, e1, g, v, w, tb) = true) (h : zEx sc C post Z (.lstore z, n, a, b, k1, e1, g, v, w, tb) lv st σ) : zXs p l e R s m args below meth c cells slots Q D cI cJ ad A mi pc lv st σ := by
  obtain ⟨hx, hb, hml, hown, hts, hnw, hK, hinj, hAd, hA, hcl, hsl, hfr, hlo⟩ := K
  intro H locs ls hP hS hl
  simp only [zOk, Bool.and_eq_true, decide_eq_true_eq] at hk
  simp only [zEx] at h
  obtain ⟨⟨hn, hdg⟩, hk⟩ := hk
  obtain ⟨rfl, hd2⟩ := zLen hn hdg hk.1
  obtain ⟨x, r, rfl, h⟩ := zJ_inv h
  obtain ⟨hlt, h⟩ := zG_inv h
  have hz := Nat.eq_of_beq_eq_true hk.2
  subst hz
  exact lv_lstore hx hb hd2 hl.1 (Nat.lt_of_lt_of_le (Nat.le_of_ble_eq_true hlt) hl.2) rfl (fun ls2 hl2 => hZ _ _ _ _ h H locs ls2 hP hS (hl.st2 (v := .long x) hl2))
theorem zo_iinc {z : Nat} {y : Int} (K : zCx p l R s m args meth c cells slots D cI cJ ad A d mi) (hZ : zZX p l e R s m args below meth c cells slots Q D cI cJ ad A mi Z) (hk : zOk mi pc (.iinc z y, n, a, b, k1, e1, g, v, w, tb) = true) (h : zEx sc C post Z (.iinc z y, n, a, b, k1, e1, g, v, w, tb) lv st σ) : zXs p l e R s m args below meth c cells slots Q D cI cJ ad A mi pc lv st σ := by
  obtain ⟨hx, hb, hml, hown, hts, hnw, hK, hinj, hAd, hA, hcl, hsl, hfr, hlo⟩ := K
  intro H locs ls hP hS hl
  simp only [zOk, Bool.and_eq_true, decide_eq_true_eq] at hk
  simp only [zEx] at h
  obtain ⟨⟨hn, hdg⟩, ⟨hk0, hk1⟩, hk2⟩ := hk
  obtain ⟨rfl, hd2⟩ := zLen hn hdg hk0
  have hz := Nat.eq_of_beq_eq_true hk1
  subst hz
  obtain ⟨x, hg, h⟩ := zLi_inv h
  obtain ⟨k, hkk⟩ := List.getElem?_of_mem ((zAs_mem ad lv 0 (z, zR ad (.int x))).mpr ⟨z, .int x, by rw [List.getD_eq_getElem?_getD] at hg; cases e3 : lv[z]? with | none => rw [e3] at hg; simp at hg | some o => (rw [e3] at hg; simp at hg; rw [hg]), by rw [Nat.zero_add]⟩)
  exact lv_iinc (v := x + v) hx hb hd2 hl.1 (k := k) hkk (by rw [hk2]) (hl.lt hg) rfl (fun ls2 hl2 => hZ _ _ _ _ h H locs ls2 hP hS (hl.st1 (v := .int (x + v)) hl2))
theorem zo_iadd (K : zCx p l R s m args meth c cells slots D cI cJ ad A d mi) (hZ : zZX p l e R s m args below meth c cells slots Q D cI cJ ad A mi Z) (hk : zOk mi pc (.iadd, n, a, b, k1, e1, g, v, w, tb) = true) (h : zEx sc C post Z (.iadd, n, a, b, k1, e1, g, v, w, tb) lv st σ) : zXs p l e R s m args below meth c cells slots Q D cI cJ ad A mi pc lv st σ := by
  obtain ⟨hx, hb, hml, hown, hts, hnw, hK, hinj, hAd, hA, hcl, hsl, hfr, hlo⟩ := K
  intro H locs ls hP hS hl
  simp only [zOk, Bool.and_eq_true, decide_eq_true_eq] at hk
  simp only [zEx] at h
  obtain ⟨⟨hn, hdg⟩, hk⟩ := hk
  obtain ⟨rfl, hd2⟩ := zLen hn hdg hk
  obtain ⟨x, y, r, rfl, h⟩ := zII_inv h
  exact lv_iadd hx hb hd2 (hZ _ _ _ _ h H locs ls hP hS hl)
theorem zo_isub (K : zCx p l R s m args meth c cells slots D cI cJ ad A d mi) (hZ : zZX p l e R s m args below meth c cells slots Q D cI cJ ad A mi Z) (hk : zOk mi pc (.isub, n, a, b, k1, e1, g, v, w, tb) = true) (h : zEx sc C post Z (.isub, n, a, b, k1, e1, g, v, w, tb) lv st σ) : zXs p l e R s m args below meth c cells slots Q D cI cJ ad A mi pc lv st σ := by
  obtain ⟨hx, hb, hml, hown, hts, hnw, hK, hinj, hAd, hA, hcl, hsl, hfr, hlo⟩ := K
  intro H locs ls hP hS hl
  simp only [zOk, Bool.and_eq_true, decide_eq_true_eq] at hk
  simp only [zEx] at h
  obtain ⟨⟨hn, hdg⟩, hk⟩ := hk
  obtain ⟨rfl, hd2⟩ := zLen hn hdg hk
  obtain ⟨x, y, r, rfl, h⟩ := zII_inv h
  exact lv_isub hx hb hd2 (hZ _ _ _ _ h H locs ls hP hS hl)
theorem zo_imul (K : zCx p l R s m args meth c cells slots D cI cJ ad A d mi) (hZ : zZX p l e R s m args below meth c cells slots Q D cI cJ ad A mi Z) (hk : zOk mi pc (.imul, n, a, b, k1, e1, g, v, w, tb) = true) (h : zEx sc C post Z (.imul, n, a, b, k1, e1, g, v, w, tb) lv st σ) : zXs p l e R s m args below meth c cells slots Q D cI cJ ad A mi pc lv st σ := by
  obtain ⟨hx, hb, hml, hown, hts, hnw, hK, hinj, hAd, hA, hcl, hsl, hfr, hlo⟩ := K
  intro H locs ls hP hS hl
  simp only [zOk, Bool.and_eq_true, decide_eq_true_eq] at hk
  simp only [zEx] at h
  obtain ⟨⟨hn, hdg⟩, hk⟩ := hk
  obtain ⟨rfl, hd2⟩ := zLen hn hdg hk
  obtain ⟨x, y, r, rfl, h⟩ := zII_inv h
  exact lv_imul hx hb hd2 (hZ _ _ _ _ h H locs ls hP hS hl)
theorem zo_iand (K : zCx p l R s m args meth c cells slots D cI cJ ad A d mi) (hZ : zZX p l e R s m args below meth c cells slots Q D cI cJ ad A mi Z) (hk : zOk mi pc (.iand, n, a, b, k1, e1, g, v, w, tb) = true) (h : zEx sc C post Z (.iand, n, a, b, k1, e1, g, v, w, tb) lv st σ) : zXs p l e R s m args below meth c cells slots Q D cI cJ ad A mi pc lv st σ := by
  obtain ⟨hx, hb, hml, hown, hts, hnw, hK, hinj, hAd, hA, hcl, hsl, hfr, hlo⟩ := K
  intro H locs ls hP hS hl
  simp only [zOk, Bool.and_eq_true, decide_eq_true_eq] at hk
  simp only [zEx] at h
  obtain ⟨⟨hn, hdg⟩, hk⟩ := hk
  obtain ⟨rfl, hd2⟩ := zLen hn hdg hk
  obtain ⟨x, y, r, rfl, h⟩ := zII_inv h
  exact lv_iand hx hb hd2 (hZ _ _ _ _ h H locs ls hP hS hl)
theorem zo_ishl (K : zCx p l R s m args meth c cells slots D cI cJ ad A d mi) (hZ : zZX p l e R s m args below meth c cells slots Q D cI cJ ad A mi Z) (hk : zOk mi pc (.ishl, n, a, b, k1, e1, g, v, w, tb) = true) (h : zEx sc C post Z (.ishl, n, a, b, k1, e1, g, v, w, tb) lv st σ) : zXs p l e R s m args below meth c cells slots Q D cI cJ ad A mi pc lv st σ := by
  obtain ⟨hx, hb, hml, hown, hts, hnw, hK, hinj, hAd, hA, hcl, hsl, hfr, hlo⟩ := K
  intro H locs ls hP hS hl
  simp only [zOk, Bool.and_eq_true, decide_eq_true_eq] at hk
  simp only [zEx] at h
  obtain ⟨⟨hn, hdg⟩, hk⟩ := hk
  obtain ⟨rfl, hd2⟩ := zLen hn hdg hk
  obtain ⟨x, y, r, rfl, h⟩ := zII_inv h
  exact lv_ishl hx hb hd2 (hZ _ _ _ _ h H locs ls hP hS hl)
theorem zo_ishr (K : zCx p l R s m args meth c cells slots D cI cJ ad A d mi) (hZ : zZX p l e R s m args below meth c cells slots Q D cI cJ ad A mi Z) (hk : zOk mi pc (.ishr, n, a, b, k1, e1, g, v, w, tb) = true) (h : zEx sc C post Z (.ishr, n, a, b, k1, e1, g, v, w, tb) lv st σ) : zXs p l e R s m args below meth c cells slots Q D cI cJ ad A mi pc lv st σ := by
  obtain ⟨hx, hb, hml, hown, hts, hnw, hK, hinj, hAd, hA, hcl, hsl, hfr, hlo⟩ := K
  intro H locs ls hP hS hl
  simp only [zOk, Bool.and_eq_true, decide_eq_true_eq] at hk
  simp only [zEx] at h
  obtain ⟨⟨hn, hdg⟩, hk⟩ := hk
  obtain ⟨rfl, hd2⟩ := zLen hn hdg hk
  obtain ⟨x, y, r, rfl, h⟩ := zII_inv h
  exact lv_ishr hx hb hd2 (hZ _ _ _ _ h H locs ls hP hS hl)
theorem zo_idiv (K : zCx p l R s m args meth c cells slots D cI cJ ad A d mi) (hZ : zZX p l e R s m args below meth c cells slots Q D cI cJ ad A mi Z) (hk : zOk mi pc (.idiv, n, a, b, k1, e1, g, v, w, tb) = true) (h : zEx sc C post Z (.idiv, n, a, b, k1, e1, g, v, w, tb) lv st σ) : zXs p l e R s m args below meth c cells slots Q D cI cJ ad A mi pc lv st σ := by
  obtain ⟨hx, hb, hml, hown, hts, hnw, hK, hinj, hAd, hA, hcl, hsl, hfr, hlo⟩ := K
  intro H locs ls hP hS hl
  simp only [zOk, Bool.and_eq_true, decide_eq_true_eq] at hk
  simp only [zEx] at h
  obtain ⟨⟨hn, hdg⟩, hk⟩ := hk
  obtain ⟨rfl, hd2⟩ := zLen hn hdg hk
  obtain ⟨x, y, r, rfl, h0, h⟩ := zII_inv h
  exact lv_idiv hx hb hd2 h0 (hZ _ _ _ _ h H locs ls hP hS hl)
theorem zo_irem (K : zCx p l R s m args meth c cells slots D cI cJ ad A d mi) (hZ : zZX p l e R s m args below meth c cells slots Q D cI cJ ad A mi Z) (hk : zOk mi pc (.irem, n, a, b, k1, e1, g, v, w, tb) = true) (h : zEx sc C post Z (.irem, n, a, b, k1, e1, g, v, w, tb) lv st σ) : zXs p l e R s m args below meth c cells slots Q D cI cJ ad A mi pc lv st σ := by
  obtain ⟨hx, hb, hml, hown, hts, hnw, hK, hinj, hAd, hA, hcl, hsl, hfr, hlo⟩ := K
  intro H locs ls hP hS hl
  simp only [zOk, Bool.and_eq_true, decide_eq_true_eq] at hk
  simp only [zEx] at h
  obtain ⟨⟨hn, hdg⟩, hk⟩ := hk
  obtain ⟨rfl, hd2⟩ := zLen hn hdg hk
  obtain ⟨x, y, r, rfl, h0, h⟩ := zII_inv h
  exact lv_irem hx hb hd2 h0 (hZ _ _ _ _ h H locs ls hP hS hl)
theorem zo_ladd (K : zCx p l R s m args meth c cells slots D cI cJ ad A d mi) (hZ : zZX p l e R s m args below meth c cells slots Q D cI cJ ad A mi Z) (hk : zOk mi pc (.ladd, n, a, b, k1, e1, g, v, w, tb) = true) (h : zEx sc C post Z (.ladd, n, a, b, k1, e1, g, v, w, tb) lv st σ) : zXs p l e R s m args below meth c cells slots Q D cI cJ ad A mi pc lv st σ := by
  obtain ⟨hx, hb, hml, hown, hts, hnw, hK, hinj, hAd, hA, hcl, hsl, hfr, hlo⟩ := K
  intro H locs ls hP hS hl
  simp only [zOk, Bool.and_eq_true, decide_eq_true_eq] at hk
  simp only [zEx] at h
  obtain ⟨⟨hn, hdg⟩, hk⟩ := hk
  obtain ⟨rfl, hd2⟩ := zLen hn hdg hk
  obtain ⟨x, y, r, rfl, h⟩ := zJJ_inv h
  exact lv_ladd hx hb hd2 (hZ _ _ _ _ h H locs ls hP hS hl)
theorem zo_lsub (K : zCx p l R s m args meth c cells slots D cI cJ ad A d mi) (hZ : zZX p l e R s m args below meth c cells slots Q D cI cJ ad A mi Z) (hk : zOk mi pc (.lsub, n, a, b, k1, e1, g, v, w, tb) = true) (h : zEx sc C post Z (.lsub, n, a, b, k1, e1, g, v, w, tb) lv st σ) : zXs p l e R s m args below meth c cells slots Q D cI cJ ad A mi pc lv st σ := by
  obtain ⟨hx, hb, hml, hown, hts, hnw, hK, hinj, hAd, hA, hcl, hsl, hfr, hlo⟩ := K
  intro H locs ls hP hS hl
  simp only [zOk, Bool.and_eq_true, decide_eq_true_eq] at hk
  simp only [zEx] at h
  obtain ⟨⟨hn, hdg⟩, hk⟩ := hk
  obtain ⟨rfl, hd2⟩ := zLen hn hdg hk
  obtain ⟨x, y, r, rfl, h⟩ := zJJ_inv h
  exact lv_lsub hx hb hd2 (hZ _ _ _ _ h H locs ls hP hS hl)
theorem zo_lmul (K : zCx p l R s m args meth c cells slots D cI cJ ad A d mi) (hZ : zZX p l e R s m args below meth c cells slots Q D cI cJ ad A mi Z) (hk : zOk mi pc (.lmul, n, a, b, k1, e1, g, v, w, tb) = true) (h : zEx sc C post Z (.lmul, n, a, b, k1, e1, g, v, w, tb) lv st σ) : zXs p l e R s m args below meth c cells slots Q D cI cJ ad A mi pc lv st σ := by
  obtain ⟨hx, hb, hml, hown, hts, hnw, hK, hinj, hAd, hA, hcl, hsl, hfr, hlo⟩ := K
  intro H locs ls hP hS hl
  simp only [zOk, Bool.and_eq_true, decide_eq_true_eq] at hk
  simp only [zEx] at h
  obtain ⟨⟨hn, hdg⟩, hk⟩ := hk
  obtain ⟨rfl, hd2⟩ := zLen hn hdg hk
  obtain ⟨x, y, r, rfl, h⟩ := zJJ_inv h
  exact lv_lmul hx hb hd2 (hZ _ _ _ _ h H locs ls hP hS hl)
theorem zo_ldiv (K : zCx p l R s m args meth c cells slots D cI cJ ad A d mi) (hZ : zZX p l e R s m args below meth c cells slots Q D cI cJ ad A mi Z) (hk : zOk mi pc (.ldiv, n, a, b, k1, e1, g, v, w, tb) = true) (h : zEx sc C post Z (.ldiv, n, a, b, k1, e1, g, v, w, tb) lv st σ) : zXs p l e R s m args below meth c cells slots Q D cI cJ ad A mi pc lv st σ := by
  obtain ⟨hx, hb, hml, hown, hts, hnw, hK, hinj, hAd, hA, hcl, hsl, hfr, hlo⟩ := K
  intro H locs ls hP hS hl
  simp only [zOk, Bool.and_eq_true, decide_eq_true_eq] at hk
  simp only [zEx] at h
  obtain ⟨⟨hn, hdg⟩, hk⟩ := hk
  obtain ⟨rfl, hd2⟩ := zLen hn hdg hk
  obtain ⟨x, y, r, rfl, h0, h⟩ := zJJ_inv h
  exact lv_ldiv hx hb hd2 h0 (hZ _ _ _ _ h H locs ls hP hS hl)
theorem zo_lcmp (K : zCx p l R s m args meth c cells slots D cI cJ ad A d mi) (hZ : zZX p l e R s m args below meth c cells slots Q D cI cJ ad A mi Z) (hk : zOk mi pc (.lcmp, n, a, b, k1, e1, g, v, w, tb) = true) (h : zEx sc C post Z (.lcmp, n, a, b, k1, e1, g, v, w, tb) lv st σ) : zXs p l e R s m args below meth c cells slots Q D cI cJ ad A mi pc lv st σ := by
  obtain ⟨hx, hb, hml, hown, hts, hnw, hK, hinj, hAd, hA, hcl, hsl, hfr, hlo⟩ := K
  intro H locs ls hP hS hl
  simp only [zOk, Bool.and_eq_true, decide_eq_true_eq] at hk
  simp only [zEx] at h
  obtain ⟨⟨hn, hdg⟩, hk⟩ := hk
  obtain ⟨rfl, hd2⟩ := zLen hn hdg hk
  obtain ⟨x, y, r, rfl, h⟩ := zJJ_inv h
  exact W.lcmp hx hb hd2 (hZ _ _ _ _ h H locs ls hP hS hl)
theorem zo_ineg (K : zCx p l R s m args meth c cells slots D cI cJ ad A d mi) (hZ : zZX p l e R s m args below meth c cells slots Q D cI cJ ad A mi Z) (hk : zOk mi pc (.ineg, n, a, b, k1, e1, g, v, w, tb) = true) (h : zEx sc C post Z (.ineg, n, a, b, k1, e1, g, v, w, tb) lv st σ) : zXs p l e R s m args below meth c cells slots Q D cI cJ ad A mi pc lv st σ := by
  obtain ⟨hx, hb, hml, hown, hts, hnw, hK, hinj, hAd, hA, hcl, hsl, hfr, hlo⟩ := K
  intro H locs ls hP hS hl
  simp only [zOk, Bool.and_eq_true, decide_eq_true_eq] at hk
  simp only [zEx] at h
  obtain ⟨⟨hn, hdg⟩, hk⟩ := hk
  obtain ⟨rfl, hd2⟩ := zLen hn hdg hk
  obtain ⟨x, r, rfl, h⟩ := zI_inv h
  exact lv_ineg hx hb hd2 (hZ _ _ _ _ h H locs ls hP hS hl)
theorem zo_i2l (K : zCx p l R s m args meth c cells slots D cI cJ ad A d mi) (hZ : zZX p l e R s m args below meth c cells slots Q D cI cJ ad A mi Z) (hk : zOk mi pc (.i2l, n, a, b, k1, e1, g, v, w, tb) = true) (h : zEx sc C post Z (.i2l, n, a, b, k1, e1, g, v, w, tb) lv st σ) : zXs p l e R s m args below meth c cells slots Q D cI cJ ad A mi pc lv st σ := by
  obtain ⟨hx, hb, hml, hown, hts, hnw, hK, hinj, hAd, hA, hcl, hsl, hfr, hlo⟩ := K
  intro H locs ls hP hS hl
  simp only [zOk, Bool.and_eq_true, decide_eq_true_eq] at hk
  simp only [zEx] at h
  obtain ⟨⟨hn, hdg⟩, hk⟩ := hk
  obtain ⟨rfl, hd2⟩ := zLen hn hdg hk
  obtain ⟨x, r, rfl, h⟩ := zI_inv h
  exact lv_i2l hx hb hd2 rfl (hZ _ _ _ _ h H locs ls hP hS hl)
theorem zo_l2i (K : zCx p l R s m args meth c cells slots D cI cJ ad A d mi) (hZ : zZX p l e R s m args below meth c cells slots Q D cI cJ ad A mi Z) (hk : zOk mi pc (.l2i, n, a, b, k1, e1, g, v, w, tb) = true) (h : zEx sc C post Z (.l2i, n, a, b, k1, e1, g, v, w, tb) lv st σ) : zXs p l e R s m args below meth c cells slots Q D cI cJ ad A mi pc lv st σ := by
  obtain ⟨hx, hb, hml, hown, hts, hnw, hK, hinj, hAd, hA, hcl, hsl, hfr, hlo⟩ := K
  intro H locs ls hP hS hl
  simp only [zOk, Bool.and_eq_true, decide_eq_true_eq] at hk
  simp only [zEx] at h
  obtain ⟨⟨hn, hdg⟩, hk⟩ := hk
  obtain ⟨rfl, hd2⟩ := zLen hn hdg hk
  obtain ⟨x, r, rfl, h⟩ := zJ_inv h
  exact lv_l2i hx hb hd2 rfl (hZ _ _ _ _ h H locs ls hP hS hl)
theorem zo_dup (K : zCx p l R s m args meth c cells slots D cI cJ ad A d mi) (hZ : zZX p l e R s m args below meth c cells slots Q D cI cJ ad A mi Z) (hk : zOk mi pc (.dup, n, a, b, k1, e1, g, v, w, tb) = true) (h : zEx sc C post Z (.dup, n, a, b, k1, e1, g, v, w, tb) lv st σ) : zXs p l e R s m args below meth c cells slots Q D cI cJ ad A mi pc lv st σ := by
  obtain ⟨hx, hb, hml, hown, hts, hnw, hK, hinj, hAd, hA, hcl, hsl, hfr, hlo⟩ := K
  intro H locs ls hP hS hl
  simp only [zOk, Bool.and_eq_true, decide_eq_true_eq] at hk
  simp only [zEx] at h
  obtain ⟨⟨hn, hdg⟩, hk⟩ := hk
  obtain ⟨rfl, hd2⟩ := zLen hn hdg hk
  obtain ⟨x, r, rfl, h0, h⟩ := zV1_inv h
  exact lv_dup hx hb hd2 (by rw [zCat_R]; exact h0) (hZ _ _ _ _ h H locs ls hP hS hl)
theorem zo_pop (K : zCx p l R s m args meth c cells slots D cI cJ ad A d mi) (hZ : zZX p l e R s m args below meth c cells slots Q D cI cJ ad A mi Z) (hk : zOk mi pc (.pop, n, a, b, k1, e1, g, v, w, tb) = true) (h : zEx sc C post Z (.pop, n, a, b, k1, e1, g, v, w, tb) lv st σ) : zXs p l e R s m args below meth c cells slots Q D cI cJ ad A mi pc lv st σ := by
  obtain ⟨hx, hb, hml, hown, hts, hnw, hK, hinj, hAd, hA, hcl, hsl, hfr, hlo⟩ := K
  intro H locs ls hP hS hl
  simp only [zOk, Bool.and_eq_true, decide_eq_true_eq] at hk
  simp only [zEx] at h
  obtain ⟨⟨hn, hdg⟩, hk⟩ := hk
  obtain ⟨rfl, hd2⟩ := zLen hn hdg hk
  obtain ⟨x, r, rfl, h0, h⟩ := zV1_inv h
  exact lv_pop hx hb hd2 (by rw [zCat_R]; exact h0) (hZ _ _ _ _ h H locs ls hP hS hl)
theorem zo_dup2 (K : zCx p l R s m args meth c cells slots D cI cJ ad A d mi) (hZ : zZX p l e R s m args below meth c cells slots Q D cI cJ ad A mi Z) (hk : zOk mi pc (.dup2, n, a, b, k1, e1, g, v, w, tb) = true) (h : zEx sc C post Z (.dup2, n, a, b, k1, e1, g, v, w, tb) lv st σ) : zXs p l e R s m args below meth c cells slots Q D cI cJ ad A mi pc lv st σ := by
  obtain ⟨hx, hb, hml, hown, hts, hnw, hK, hinj, hAd, hA, hcl, hsl, hfr, hlo⟩ := K
  intro H locs ls hP hS hl
  simp only [zOk, Bool.and_eq_true, decide_eq_true_eq] at hk
  simp only [zEx] at h
  obtain ⟨⟨hn, hdg⟩, hk⟩ := hk
  obtain ⟨rfl, hd2⟩ := zLen hn hdg hk
  obtain ⟨x, r, rfl, h0, h1⟩ := zV1_inv h
  obtain ⟨y, r2, rfl, h2, h⟩ := zV1_inv h1
  exact lv_dup2_11 hx hb hd2 (by rw [zCat_R]; exact h0) (by rw [zCat_R]; exact h2) (hZ _ _ _ _ h H locs ls hP hS hl)
theorem zo_if_eq {off : Int} (K : zCx p l R s m args meth c cells slots D cI cJ ad A d mi) (hZ : zZX p l e R s m args below meth c cells slots Q D cI cJ ad A mi Z) (hk : zOk mi pc (.ifCond .eq off, n, a, b, k1, e1, g, v, w, tb) = true) (h : zEx sc C post Z (.ifCond .eq off, n, a, b, k1, e1, g, v, w, tb) lv st σ) : zXs p l e R s m args below meth c cells slots Q D cI cJ ad A mi pc lv st σ := by
  obtain ⟨hx, hb, hml, hown, hts, hnw, hK, hinj, hAd, hA, hcl, hsl, hfr, hlo⟩ := K
  intro H locs ls hP hS hl
  simp only [zOk, Bool.and_eq_true, decide_eq_true_eq] at hk
  simp only [zEx] at h
  obtain ⟨⟨hn, hdg⟩, hk⟩ := hk
  obtain ⟨rfl, hd2⟩ := zLen hn hdg hk.1
  obtain ⟨x, r, rfl, h⟩ := zI_inv h
  exact lv_if_eq hx hb hd2 hk.2 (fun q => hZ _ _ _ _ (h.1 q) H locs ls hP hS hl) (fun q => hZ _ _ _ _ (h.2 q) H locs ls hP hS hl)
theorem zo_icmp_eq {off : Int} (K : zCx p l R s m args meth c cells slots D cI cJ ad A d mi) (hZ : zZX p l e R s m args below meth c cells slots Q D cI cJ ad A mi Z) (hk : zOk mi pc (.if_icmp .eq off, n, a, b, k1, e1, g, v, w, tb) = true) (h : zEx sc C post Z (.if_icmp .eq off, n, a, b, k1, e1, g, v, w, tb) lv st σ) : zXs p l e R s m args below meth c cells slots Q D cI cJ ad A mi pc lv st σ := by
  obtain ⟨hx, hb, hml, hown, hts, hnw, hK, hinj, hAd, hA, hcl, hsl, hfr, hlo⟩ := K
  intro H locs ls hP hS hl
  simp only [zOk, Bool.and_eq_true, decide_eq_true_eq] at hk
  simp only [zEx] at h
  obtain ⟨⟨hn, hdg⟩, hk⟩ := hk
  obtain ⟨rfl, hd2⟩ := zLen hn hdg hk.1
  obtain ⟨x, y, r, rfl, h⟩ := zII_inv h
  exact lv_icmp_eq hx hb hd2 hk.2 (fun q => hZ _ _ _ _ (h.1 q) H locs ls hP hS hl) (fun q => hZ _ _ _ _ (h.2 q) H locs ls hP hS hl)
theorem zo_if_ne {off : Int} (K : zCx p l R s m args meth c cells slots D cI cJ ad A d mi) (hZ : zZX p l e R s m args below meth c cells slots Q D cI cJ ad A mi Z) (hk : zOk mi pc (.ifCond .ne off, n, a, b, k1, e1, g, v, w, tb) = true) (h : zEx sc C post Z (.ifCond .ne off, n, a, b, k1, e1, g, v, w, tb) lv st σ) : zXs p l e R s m args below meth c cells slots Q D cI cJ ad A mi pc lv st σ := by
  obtain ⟨hx, hb, hml, hown, hts, hnw, hK, hinj, hAd, hA, hcl, hsl, hfr, hlo⟩ := K
  intro H locs ls hP hS hl
  simp only [zOk, Bool.and_eq_true, decide_eq_true_eq] at hk
  simp only [zEx] at h
  obtain ⟨⟨hn, hdg⟩, hk⟩ := hk
  obtain ⟨rfl, hd2⟩ := zLen hn hdg hk.1
  obtain ⟨x, r, rfl, h⟩ := zI_inv h
  exact lv_if_ne hx hb hd2 hk.2 (fun q => hZ _ _ _ _ (h.2 q) H locs ls hP hS hl) (fun q => hZ _ _ _ _ (h.1 q) H locs ls hP hS hl)
theorem zo_icmp_ne {off : Int} (K : zCx p l R s m args meth c cells slots D cI cJ ad A d mi) (hZ : zZX p l e R s m args below meth c cells slots Q D cI cJ ad A mi Z) (hk : zOk mi pc (.if_icmp .ne off, n, a, b, k1, e1, g, v, w, tb) = true) (h : zEx sc C post Z (.if_icmp .ne off, n, a, b, k1, e1, g, v, w, tb) lv st σ) : zXs p l e R s m args below meth c cells slots Q D cI cJ ad A mi pc lv st σ := by
  obtain ⟨hx, hb, hml, hown, hts, hnw, hK, hinj, hAd, hA, hcl, hsl, hfr, hlo⟩ := K
  intro H locs ls hP hS hl
  simp only [zOk, Bool.and_eq_true, decide_eq_true_eq] at hk
  simp only [zEx] at h
  obtain ⟨⟨hn, hdg⟩, hk⟩ := hk
  obtain ⟨rfl, hd2⟩ := zLen hn hdg hk.1
  obtain ⟨x, y, r, rfl, h⟩ := zII_inv h
  exact lv_icmp_ne hx hb hd2 hk.2 (fun q => hZ _ _ _ _ (h.2 q) H locs ls hP hS hl) (fun q => hZ _ _ _ _ (h.1 q) H locs ls hP hS hl)
theorem zo_if_lt {off : Int} (K : zCx p l R s m args meth c cells slots D cI cJ ad A d mi) (hZ : zZX p l e R s m args below meth c cells slots Q D cI cJ ad A mi Z) (hk : zOk mi pc (.ifCond .lt off, n, a, b, k1, e1, g, v, w, tb) = true) (h : zEx sc C post Z (.ifCond .lt off, n, a, b, k1, e1, g, v, w, tb) lv st σ) : zXs p l e R s m args below meth c cells slots Q D cI cJ ad A mi pc lv st σ := by
  obtain ⟨hx, hb, hml, hown, hts, hnw, hK, hinj, hAd, hA, hcl, hsl, hfr, hlo⟩ := K
  intro H locs ls hP hS hl
  simp only [zOk, Bool.and_eq_true, decide_eq_true_eq] at hk
  simp only [zEx] at h
  obtain ⟨⟨hn, hdg⟩, hk⟩ := hk
  obtain ⟨rfl, hd2⟩ := zLen hn hdg hk.1
  obtain ⟨x, r, rfl, h⟩ := zI_inv h
  exact lv_if_lt hx hb hd2 hk.2 (fun q => hZ _ _ _ _ (h.1 q) H locs ls hP hS hl) (fun q => hZ _ _ _ _ (h.2 q) H locs ls hP hS hl)
theorem zo_icmp_lt {off : Int} (K : zCx p l R s m args meth c cells slots D cI cJ ad A d mi) (hZ : zZX p l e R s m args below meth c cells slots Q D cI cJ ad A mi Z) (hk : zOk mi pc (.if_icmp .lt off, n, a, b, k1, e1, g, v, w, tb) = true) (h : zEx sc C post Z (.if_icmp .lt off, n, a, b, k1, e1, g, v, w, tb) lv st σ) : zXs p l e R s m args below meth c cells slots Q D cI cJ ad A mi pc lv st σ := by
  obtain ⟨hx, hb, hml, hown, hts, hnw, hK, hinj, hAd, hA, hcl, hsl, hfr, hlo⟩ := K
  intro H locs ls hP hS hl
  simp only [zOk, Bool.and_eq_true, decide_eq_true_eq] at hk
  simp only [zEx] at h
  obtain ⟨⟨hn, hdg⟩, hk⟩ := hk
  obtain ⟨rfl, hd2⟩ := zLen hn hdg hk.1
  obtain ⟨x, y, r, rfl, h⟩ := zII_inv h
  exact lv_icmp_lt hx hb hd2 hk.2 (fun q => hZ _ _ _ _ (h.1 q) H locs ls hP hS hl) (fun q => hZ _ _ _ _ (h.2 q) H locs ls hP hS hl)
theorem zo_if_le {off : Int} (K : zCx p l R s m args meth c cells slots D cI cJ ad A d mi) (hZ : zZX p l e R s m args below meth c cells slots Q D cI cJ ad A mi Z) (hk : zOk mi pc (.ifCond .le off, n, a, b, k1, e1, g, v, w, tb) = true) (h : zEx sc C post Z (.ifCond .le off, n, a, b, k1, e1, g, v, w, tb) lv st σ) : zXs p l e R s m args below meth c cells slots Q D cI cJ ad A mi pc lv st σ := by
  obtain ⟨hx, hb, hml, hown, hts, hnw, hK, hinj, hAd, hA, hcl, hsl, hfr, hlo⟩ := K
  intro H locs ls hP hS hl
  simp only [zOk, Bool.and_eq_true, decide_eq_true_eq] at hk
  simp only [zEx] at h
  obtain ⟨⟨hn, hdg⟩, hk⟩ := hk
  obtain ⟨rfl, hd2⟩ := zLen hn hdg hk.1
  obtain ⟨x, r, rfl, h⟩ := zI_inv h
  exact lv_if_le hx hb hd2 hk.2 (fun q => hZ _ _ _ _ (h.1 q) H locs ls hP hS hl) (fun q => hZ _ _ _ _ (h.2 q) H locs ls hP hS hl)
theorem zo_icmp_le {off : Int} (K : zCx p l R s m args meth c cells slots D cI cJ ad A d mi) (hZ : zZX p l e R s m args below meth c cells slots Q D cI cJ ad A mi Z) (hk : zOk mi pc (.if_icmp .le off, n, a, b, k1, e1, g, v, w, tb) = true) (h : zEx sc C post Z (.if_icmp .le off, n, a, b, k1, e1, g, v, w, tb) lv st σ) : zXs p l e R s m args below meth c cells slots Q D cI cJ ad A mi pc lv st σ := by
  obtain ⟨hx, hb, hml, hown, hts, hnw, hK, hinj, hAd, hA, hcl, hsl, hfr, hlo⟩ := K
  intro H locs ls hP hS hl
  simp only [zOk, Bool.and_eq_true, decide_eq_true_eq] at hk
  simp only [zEx] at h
  obtain ⟨⟨hn, hdg⟩, hk⟩ := hk
  obtain ⟨rfl, hd2⟩ := zLen hn hdg hk.1
  obtain ⟨x, y, r, rfl, h⟩ := zII_inv h
  exact lv_icmp_le hx hb hd2 hk.2 (fun q => hZ _ _ _ _ (h.1 q) H locs ls hP hS hl) (fun q => hZ _ _ _ _ (h.2 q) H locs ls hP hS hl)
theorem zo_if_ge {off : Int} (K : zCx p l R s m args meth c cells slots D cI cJ ad A d mi) (hZ : zZX p l e R s m args below meth c cells slots Q D cI cJ ad A mi Z) (hk : zOk mi pc (.ifCond .ge off, n, a, b, k1, e1, g, v, w, tb) = true) (h : zEx sc C post Z (.ifCond .ge off, n, a, b, k1, e1, g, v, w, tb) lv st σ) : zXs p l e R s m args below meth c cells slots Q D cI cJ ad A mi pc lv st σ := by
  obtain ⟨hx, hb, hml, hown, hts, hnw, hK, hinj, hAd, hA, hcl, hsl, hfr, hlo⟩ := K
  intro H locs ls hP hS hl
  simp only [zOk, Bool.and_eq_true, decide_eq_true_eq] at hk
  simp only [zEx] at h
  obtain ⟨⟨hn, hdg⟩, hk⟩ := hk
  obtain ⟨rfl, hd2⟩ := zLen hn hdg hk.1
  obtain ⟨x, r, rfl, h⟩ := zI_inv h
  exact lv_if_ge hx hb hd2 hk.2 (fun q => hZ _ _ _ _ (h.2 (Int32.not_lt.mpr q)) H locs ls hP hS hl) (fun q => hZ _ _ _ _ (h.1 (Int32.not_le.mp q)) H locs ls hP hS hl)
theorem zo_icmp_ge {off : Int} (K : zCx p l R s m args meth c cells slots D cI cJ ad A d mi) (hZ : zZX p l e R s m args below meth c cells slots Q D cI cJ ad A mi Z) (hk : zOk mi pc (.if_icmp .ge off, n, a, b, k1, e1, g, v, w, tb) = true) (h : zEx sc C post Z (.if_icmp .ge off, n, a, b, k1, e1, g, v, w, tb) lv st σ) : zXs p l e R s m args below meth c cells slots Q D cI cJ ad A mi pc lv st σ := by
  obtain ⟨hx, hb, hml, hown, hts, hnw, hK, hinj, hAd, hA, hcl, hsl, hfr, hlo⟩ := K
  intro H locs ls hP hS hl
  simp only [zOk, Bool.and_eq_true, decide_eq_true_eq] at hk
  simp only [zEx] at h
  obtain ⟨⟨hn, hdg⟩, hk⟩ := hk
  obtain ⟨rfl, hd2⟩ := zLen hn hdg hk.1
  obtain ⟨x, y, r, rfl, h⟩ := zII_inv h
  exact lv_icmp_ge hx hb hd2 hk.2 (fun q => hZ _ _ _ _ (h.2 (Int32.not_lt.mpr q)) H locs ls hP hS hl) (fun q => hZ _ _ _ _ (h.1 (Int32.not_le.mp q)) H locs ls hP hS hl)
theorem zo_if_gt {off : Int} (K : zCx p l R s m args meth c cells slots D cI cJ ad A d mi) (hZ : zZX p l e R s m args below meth c cells slots Q D cI cJ ad A mi Z) (hk : zOk mi pc (.ifCond .gt off, n, a, b, k1, e1, g, v, w, tb) = true) (h : zEx sc C post Z (.ifCond .gt off, n, a, b, k1, e1, g, v, w, tb) lv st σ) : zXs p l e R s m args below meth c cells slots Q D cI cJ ad A mi pc lv st σ := by
  obtain ⟨hx, hb, hml, hown, hts, hnw, hK, hinj, hAd, hA, hcl, hsl, hfr, hlo⟩ := K
  intro H locs ls hP hS hl
  simp only [zOk, Bool.and_eq_true, decide_eq_true_eq] at hk
  simp only [zEx] at h
  obtain ⟨⟨hn, hdg⟩, hk⟩ := hk
  obtain ⟨rfl, hd2⟩ := zLen hn hdg hk.1
  obtain ⟨x, r, rfl, h⟩ := zI_inv h
  exact lv_if_gt hx hb hd2 hk.2 (fun q => hZ _ _ _ _ (h.2 (Int32.not_le.mpr q)) H locs ls hP hS hl) (fun q => hZ _ _ _ _ (h.1 (Int32.not_lt.mp q)) H locs ls hP hS hl)
theorem zo_icmp_gt {off : Int} (K : zCx p l R s m args meth c cells slots D cI cJ ad A d mi) (hZ : zZX p l e R s m args below meth c cells slots Q D cI cJ ad A mi Z) (hk : zOk mi pc (.if_icmp .gt off, n, a, b, k1, e1, g, v, w, tb) = true) (h : zEx sc C post Z (.if_icmp .gt off, n, a, b, k1, e1, g, v, w, tb) lv st σ) : zXs p l e R s m args below meth c cells slots Q D cI cJ ad A mi pc lv st σ := by
  obtain ⟨hx, hb, hml, hown, hts, hnw, hK, hinj, hAd, hA, hcl, hsl, hfr, hlo⟩ := K
  intro H locs ls hP hS hl
  simp only [zOk, Bool.and_eq_true, decide_eq_true_eq] at hk
  simp only [zEx] at h
  obtain ⟨⟨hn, hdg⟩, hk⟩ := hk
  obtain ⟨rfl, hd2⟩ := zLen hn hdg hk.1
  obtain ⟨x, y, r, rfl, h⟩ := zII_inv h
  exact lv_icmp_gt hx hb hd2 hk.2 (fun q => hZ _ _ _ _ (h.2 (Int32.not_le.mpr q)) H locs ls hP hS hl) (fun q => hZ _ _ _ _ (h.1 (Int32.not_lt.mp q)) H locs ls hP hS hl)
theorem zo_goto {off : Int} (K : zCx p l R s m args meth c cells slots D cI cJ ad A d mi) (hZ : zZX p l e R s m args below meth c cells slots Q D cI cJ ad A mi Z) (hk : zOk mi pc (.goto off, n, a, b, k1, e1, g, v, w, tb) = true) (h : zEx sc C post Z (.goto off, n, a, b, k1, e1, g, v, w, tb) lv st σ) : zXs p l e R s m args below meth c cells slots Q D cI cJ ad A mi pc lv st σ := by
  obtain ⟨hx, hb, hml, hown, hts, hnw, hK, hinj, hAd, hA, hcl, hsl, hfr, hlo⟩ := K
  intro H locs ls hP hS hl
  simp only [zOk, Bool.and_eq_true, decide_eq_true_eq] at hk
  simp only [zEx] at h
  obtain ⟨⟨hn, hdg⟩, hk⟩ := hk
  obtain ⟨rfl, hd2⟩ := zLen hn hdg hk.1
  exact lv_goto hx hb hd2 hk.2 (hZ _ _ _ _ h H locs ls hP hS hl)
theorem zTbOk_get {pc : Nat} : ∀ (k : Int) (os : List Int) (tb : List (Int32 × Nat)), zTbOk pc k os tb = true → os.length = tb.length ∧ ∀ (j : Nat) (q : Int32 × Nat), tb[j]? = some q → q.1.toInt = k + (j : Int) ∧ ∃ o, os[j]? = some o ∧ (pc : Int) + o = (q.2 : Int)
  | k, [], [], _ => ⟨rfl, fun j q h => by simp at h⟩
  | k, [], q :: tb, h => by simp [zTbOk] at h
  | k, o :: os, [], h => by simp [zTbOk] at h
  | k, o :: os, q :: tb, h => by
    simp only [zTbOk, Bool.and_eq_true, decide_eq_true_eq] at h
    obtain ⟨⟨h1, h2⟩, h3⟩ := h
    obtain ⟨g1, g2⟩ := zTbOk_get (k + 1) os tb h3
    refine ⟨by simp [g1], fun j q2 hq => ?_⟩
    cases j with
    | zero =>
      simp only [List.getElem?_cons_zero, Option.some.injEq] at hq
      subst hq
      exact ⟨by omega, o, rfl, h2⟩
    | succ j =>
      obtain ⟨a1, o2, a2, a3⟩ := g2 j q2 hq
      exact ⟨by omega, o2, a2, a3⟩
theorem zLkOk_get {pc : Nat} {x : Int32} {d : Int} {X : Nat → Prop} {dt : Nat} (hd : (pc : Int) + d = (dt : Int)) : ∀ (os : List (Int × Int)) (tb : List (Int32 × Nat)), zLkOk pc os tb = true → zTb x X dt tb → ∃ t : Nat, (pc : Int) + Op.lookupswitch.offset os d x.toInt = (t : Int) ∧ X t
  | [], [], _, h => ⟨dt, by simpa [Op.lookupswitch.offset] using hd, h⟩
  | [], q :: tb, hk, _ => by simp [zLkOk] at hk
  | o :: os, [], hk, _ => by simp [zLkOk] at hk
  | o :: os, q :: tb, hk, h => by
    simp only [zLkOk, Bool.and_eq_true, decide_eq_true_eq] at hk
    obtain ⟨⟨h1, h2⟩, h3⟩ := hk
    obtain ⟨oa, ob⟩ := o
    by_cases e : x = q.1
    · refine ⟨q.2, ?_, h.1 e⟩
      rw [Op.lookupswitch.offset_cons, if_pos (by rw [e]; exact h1.symm)]
      exact h2
    · obtain ⟨t, a1, a2⟩ := zLkOk_get hd os tb h3 (h.2 e)
      exact ⟨t, by rw [lv_osw e h1]; exact a1, a2⟩
theorem zo_tableswitch {df lo hi : Int} {offs : Array Int} (K : zCx p l R s m args meth c cells slots D cI cJ ad A d mi) (hZ : zZX p l e R s m args below meth c cells slots Q D cI cJ ad A mi Z) (hk : zOk mi pc (.tableswitch df lo hi offs, n, a, b, k1, e1, g, v, w, tb) = true) (h : zEx sc C post Z (.tableswitch df lo hi offs, n, a, b, k1, e1, g, v, w, tb) lv st σ) : zXs p l e R s m args below meth c cells slots Q D cI cJ ad A mi pc lv st σ := by
  obtain ⟨hx, hb, hml, hown, hts, hnw, hK, hinj, hAd, hA, hcl, hsl, hfr, hlo⟩ := K
  intro H locs ls hP hS hl
  simp only [zOk, Bool.and_eq_true, decide_eq_true_eq] at hk
  simp only [zEx] at h
  obtain ⟨⟨hn, hdg⟩, ⟨h1, h2⟩, h3⟩ := hk
  obtain ⟨x, r, rfl, h⟩ := zI_inv h
  obtain ⟨g1, g2⟩ := zTbOk_get lo _ tb h3
  rcases zTb_inv h with ⟨k, q, e1, e2, e3, -⟩ | ⟨e1, e2⟩
  · obtain ⟨a1, o, a2, a3⟩ := g2 k q e1
    have hkl : k < tb.length := (List.getElem?_eq_some_iff.mp e1).1
    rw [← e2] at a1
    refine lv_tableIn hx hb hdg (by omega) (by omega) (off := o) ?_ a3 (hZ _ _ _ _ e3 H locs ls hP hS hl)
    rw [show (x.toInt - lo).toNat = k by omega, ← Array.getElem?_toList]
    exact a2
  · refine lv_tableOut hx hb hdg ?_ h1 (hZ _ _ _ _ e2 H locs ls hP hS hl)
    by_cases z1 : x.toInt < lo
    · exact Or.inl z1
    · by_cases z2 : hi < x.toInt
      · exact Or.inr z2
      · exfalso
        have hj : (x.toInt - lo).toNat < tb.length := by omega
        have e3 := List.getElem?_eq_getElem hj
        obtain ⟨a1, -⟩ := g2 _ _ e3
        refine e1 _ _ e3 ?_
        rw [← Int32.toInt_inj, a1]
        omega
theorem zo_lookupswitch {df : Int} {ps : Array (Int × Int)} (K : zCx p l R s m args meth c cells slots D cI cJ ad A d mi) (hZ : zZX p l e R s m args below meth c cells slots Q D cI cJ ad A mi Z) (hk : zOk mi pc (.lookupswitch df ps, n, a, b, k1, e1, g, v, w, tb) = true) (h : zEx sc C post Z (.lookupswitch df ps, n, a, b, k1, e1, g, v, w, tb) lv st σ) : zXs p l e R s m args below meth c cells slots Q D cI cJ ad A mi pc lv st σ := by
  obtain ⟨hx, hb, hml, hown, hts, hnw, hK, hinj, hAd, hA, hcl, hsl, hfr, hlo⟩ := K
  intro H locs ls hP hS hl
  simp only [zOk, Bool.and_eq_true, decide_eq_true_eq] at hk
  simp only [zEx] at h
  obtain ⟨⟨hn, hdg⟩, ⟨h1, h2⟩, h3⟩ := hk
  obtain ⟨x, r, rfl, h⟩ := zI_inv h
  obtain ⟨t, a1, a2⟩ := zLkOk_get h1 _ tb h3 h
  exact lv_lookup hx hb hdg h2 rfl a1 (hZ _ _ _ _ a2 H locs ls hP hS hl)
theorem zFl_spec {own : String} {idx a b g : Nat} (h : zFl own idx a b g = true) : Cond.fieldLink own idx ((zCl a).2.1 b).1 ((zCl a).2.1 b).2.1 ((zCl a).2.1 b).2.2.1 ∈ zTg := zin _ (of_decide_eq_true h) rfl
theorem zFn_spec {own : String} {idx a b g : Nat} (h : zFn own idx a b g = true) : Cond.fieldLinkNest own idx ((zCl a).2.1 b).1 ((zCl a).2.1 b).2.1 ((zCl a).2.1 b).2.2.1 "RatePlanner" ∈ zNw := zinN _ (of_decide_eq_true h) rfl
theorem zo_getfield {idx : Nat} (K : zCx p l R s m args meth c cells slots D cI cJ ad A d mi) (hZ : zZX p l e R s m args below meth c cells slots Q D cI cJ ad A mi Z) (hk : zOk mi pc (.getfield idx, n, a, b, k1, e1, g, v, w, tb) = true) (h : zEx sc C post Z (.getfield idx, n, a, b, k1, e1, g, v, w, tb) lv st σ) : zXs p l e R s m args below meth c cells slots Q D cI cJ ad A mi pc lv st σ := by
  obtain ⟨hx, hb, hml, hown, hts, hnw, hK, hinj, hAd, hA, hcl, hsl, hfr, hlo⟩ := K
  intro H locs ls hP hS hl
  simp only [zOk, Bool.and_eq_true, decide_eq_true_eq] at hk
  simp only [zEx] at h
  obtain ⟨⟨hn, hdg⟩, ⟨⟨h1, h2⟩, h3⟩, h4⟩ := hk
  obtain ⟨rfl, hd2⟩ := zLen hn hdg h1
  have h2 := Nat.le_of_ble_eq_true h2
  have h3 := Nat.le_of_ble_eq_true h3
  obtain ⟨q, r, rfl, h⟩ := zA_inv h
  obtain ⟨hg, h⟩ := zG_inv h
  simp only [Bool.and_eq_true] at hg
  obtain ⟨sl, hq, hs⟩ := zIsO_spec hg.1
  have hkd := Nat.eq_of_beq_eq_true hg.2
  obtain ⟨hcl2, hcv⟩ := zCl_get h2
  obtain ⟨hin, -, -⟩ := zCv_spec hcv
  have go : ∀ val : Value, (zFs ad σ q 0 sl)[b]? = some val → W p l e R s m args below meth c H locs cells slots Q (F0 m (pc + 3) ls (val :: r.map (zR ad))) → W p l e R s m args below meth c H locs cells slots Q (F0 m pc ls (.ref (ad q) :: r.map (zR ad))) := by
    intro val hv hw
    have he := zW_get ad cI cJ σ hq
    simp only [Bool.or_eq_true] at h4
    rcases h4 with h4 | h4
    · exact va_get (D := D) hx hb hts hin hown hK hP q he hcl2 b h3 (hts _ (zFl_spec h4)) (fun _ h9 => h9) hv hd2 hw
    · exact va_getN (D := D) hx hb hts hin hown hK hP q he hcl2 b h3 (va_Nw.use rfl (hnw _ (zFn_spec h4))) (fun _ h9 => h9) hv hd2 hw
  have hsl : (zSl q b).1 ≠ 9 → sl[b]? = some (zSl q b) := fun z => by rw [hs b] at z ⊢; exact zGetD_some z
  match k1, hkd, h with
  | 0, hkd, h =>
    have e2 := zFs_get ad σ q sl 0 b _ (hsl (by rw [hkd]; decide))
    rw [hkd] at e2
    exact go _ e2 (hZ _ _ _ _ h H locs ls hP hS hl)
  | 1, hkd, h =>
    have e2 := zFs_get ad σ q sl 0 b _ (hsl (by rw [hkd]; decide))
    rw [hkd, Nat.zero_add] at e2
    exact go _ e2 (hZ _ _ _ _ h H locs ls hP hS hl)
  | 2, hkd, h =>
    have e2 := zFs_get ad σ q sl 0 b _ (hsl (by rw [hkd]; decide))
    rw [hkd, Nat.zero_add] at e2
    exact go _ e2 (hZ _ _ _ _ h H locs ls hP hS hl)
  | 3, hkd, h =>
    have e2 := zFs_get ad σ q sl 0 b _ (hsl (by rw [hkd]; decide))
    rw [hkd, Nat.zero_add] at e2
    exact go _ e2 (hZ _ _ _ _ h H locs ls hP hS hl)
  | k + 4, _, h => exact False.elim h
theorem zo_putfield {idx : Nat} (K : zCx p l R s m args meth c cells slots D cI cJ ad A d mi) (hZ : zZX p l e R s m args below meth c cells slots Q D cI cJ ad A mi Z) (hk : zOk mi pc (.putfield idx, n, a, b, k1, e1, g, v, w, tb) = true) (h : zEx sc C post Z (.putfield idx, n, a, b, k1, e1, g, v, w, tb) lv st σ) : zXs p l e R s m args below meth c cells slots Q D cI cJ ad A mi pc lv st σ := by
  obtain ⟨hx, hb, hml, hown, hts, hnw, hK, hinj, hAd, hA, hcl, hsl, hfr, hlo⟩ := K
  intro H locs ls hP hS hl
  simp only [zOk, Bool.and_eq_true, decide_eq_true_eq] at hk
  simp only [zEx] at h
  obtain ⟨⟨hn, hdg⟩, ⟨⟨⟨⟨h1, h2⟩, h3⟩, h4⟩, h5⟩, h6⟩ := hk
  obtain ⟨rfl, hd2⟩ := zLen hn hdg h1
  have h2 := Nat.le_of_ble_eq_true h2
  have h3 := Nat.le_of_ble_eq_true h3
  obtain ⟨hcl2, hcv⟩ := zCl_get h2
  obtain ⟨hin, hty, hnm⟩ := zCv_spec hcv
  have hfin : ((zCl a).2.1 b).2.2.2 = false := by simpa using h5
  match k1, h, h6 with
  | 0, h, _ => exact False.elim h
  | 1, h, h6 =>
    obtain ⟨x, r, rfl, h7⟩ := zI_inv h
    obtain ⟨q, r2, rfl, h8⟩ := zA_inv h7
    obtain ⟨hg, h9⟩ := zG_inv h8
    simp only [Bool.and_eq_true] at hg
    obtain ⟨sl, hq, hs⟩ := zIsO_spec hg.1
    have hkd := Nat.eq_of_beq_eq_true hg.2
    have hsl : sl[b]? = some (zSl q b) := by rw [hs b]; exact zGetD_some (by rw [← hs b, hkd]; decide)
    have he : (zW ad cI cJ σ)[q]? = some (ad q, .inr (a, zFs ad σ q 0 sl)) := zW_get ad cI cJ σ hq
    have e1 : (zW ad cI cJ σ).set q (ad q, .inr (a, (zFs ad σ q 0 sl).set b (.int x))) = zW ad cI cJ (zSI σ q b x) := by
      rw [zFs_setI ad σ q x sl 0 b _ hsl (Or.inl hkd), Nat.zero_add]
      exact zW_set ad cI cJ hq (fun a h => zSI_1 h) (fun a h => rfl)
    exact va_put (D := D) (ty := .int) (v := .int x) hx hb hts hin _ hty hnm hown hK hP (zD_of hinj hAd σ) hS q he hcl2 b h3 (hts _ (zFl_spec h4)) (fun _ h9 => h9) hfin h6 rfl rfl (by rw [zFs_len]; exact (List.getElem?_eq_some_iff.mp hsl).1) hd2 (fun H1 locs1 hP1 hD1 hS1 => hZ _ _ _ _ h9 H1 locs1 ls (by rw [e1] at hP1; exact hP1) hS1 hl)
  | 2, h, h6 =>
    obtain ⟨x, r, rfl, h7⟩ := zI_inv h
    obtain ⟨q, r2, rfl, h8⟩ := zA_inv h7
    obtain ⟨hg, h9⟩ := zG_inv h8
    obtain ⟨hg2, h10⟩ := zG_inv h9
    simp only [Bool.and_eq_true] at hg
    obtain ⟨sl, hq, hs⟩ := zIsO_spec hg.1
    have hkd := Nat.eq_of_beq_eq_true hg.2
    have hsl : sl[b]? = some (zSl q b) := by rw [hs b]; exact zGetD_some (by rw [← hs b, hkd]; decide)
    have he : (zW ad cI cJ σ)[q]? = some (ad q, .inr (a, zFs ad σ q 0 sl)) := zW_get ad cI cJ σ hq
    have e1 : (zW ad cI cJ σ).set q (ad q, .inr (a, (zFs ad σ q 0 sl).set b (.int x))) = zW ad cI cJ (zSI σ q b x) := by
      rw [zFs_setI ad σ q x sl 0 b _ hsl (Or.inr hkd), Nat.zero_add]
      exact zW_set ad cI cJ hq (fun a h => zSI_1 h) (fun a h => rfl)
    exact va_put (D := D) (ty := .boolean) (v := .int x) hx hb hts hin _ hty hnm hown hK hP (zD_of hinj hAd σ) hS q he hcl2 b h3 (hts _ (zFl_spec h4)) (fun _ h9 => h9) hfin h6 (z01_nar hg2) hg2 (by rw [zFs_len]; exact (List.getElem?_eq_some_iff.mp hsl).1) hd2 (fun H1 locs1 hP1 hD1 hS1 => hZ _ _ _ _ h10 H1 locs1 ls (by rw [e1] at hP1; exact hP1) hS1 hl)
  | 3, h, h6 =>
    obtain ⟨x, r, rfl, h7⟩ := zJ_inv h
    obtain ⟨q, r2, rfl, h8⟩ := zA_inv h7
    obtain ⟨hg, h9⟩ := zG_inv h8
    simp only [Bool.and_eq_true] at hg
    obtain ⟨sl, hq, hs⟩ := zIsO_spec hg.1
    have hkd := Nat.eq_of_beq_eq_true hg.2
    have hsl : sl[b]? = some (zSl q b) := by rw [hs b]; exact zGetD_some (by rw [← hs b, hkd]; decide)
    have he : (zW ad cI cJ σ)[q]? = some (ad q, .inr (a, zFs ad σ q 0 sl)) := zW_get ad cI cJ σ hq
    have e1 : (zW ad cI cJ σ).set q (ad q, .inr (a, (zFs ad σ q 0 sl).set b (.long x))) = zW ad cI cJ (zSJ σ q b x) := by
      rw [zFs_setJ ad σ q x sl 0 b _ hsl hkd, Nat.zero_add]
      exact zW_set ad cI cJ hq (fun a h => rfl) (fun a h => zSJ_1 h)
    exact va_put (D := D) (ty := .long) (v := .long x) hx hb hts hin _ hty hnm hown hK hP (zD_of hinj hAd σ) hS q he hcl2 b h3 (hts _ (zFl_spec h4)) (fun _ h9 => h9) hfin h6 rfl rfl (by rw [zFs_len]; exact (List.getElem?_eq_some_iff.mp hsl).1) hd2 (fun H1 locs1 hP1 hD1 hS1 => hZ _ _ _ _ h9 H1 locs1 ls (by rw [e1] at hP1; exact hP1) hS1 hl)
  | k + 4, h, _ => exact False.elim h
theorem zo_iaload (hsc : ∀ t, sc = some t → va_X (ad 80) t.1 t.2 s s.heap ∧ ad 80 < s.heap.size ∧ ¬ A (ad 80)) (K : zCx p l R s m args meth c cells slots D cI cJ ad A d mi) (hZ : zZX p l e R s m args below meth c cells slots Q D cI cJ ad A mi Z) (hk : zOk mi pc (.iaload, n, a, b, k1, e1, g, v, w, tb) = true) (h : zEx sc C post Z (.iaload, n, a, b, k1, e1, g, v, w, tb) lv st σ) : zXs p l e R s m args below meth c cells slots Q D cI cJ ad A mi pc lv st σ := by
  obtain ⟨hx, hb, hml, hown, hts, hnw, hK, hinj, hAd, hA, hcl, hsl, hfr, hlo⟩ := K
  intro H locs ls hP hS hl
  simp only [zOk, Bool.and_eq_true, decide_eq_true_eq] at hk
  simp only [zEx] at h
  obtain ⟨⟨hn, hdg⟩, hk⟩ := hk
  obtain ⟨rfl, hd2⟩ := zLen hn hdg hk
  obtain ⟨q, i, r, rfl, h0⟩ := zAI_inv h
  unfold zIl at h0
  cases hz : zIsI q with
  | true =>
    rw [hz] at h0
    obtain ⟨sl, hq⟩ := zIsI_spec hz
    exact va_iald (D := D) hx hb hK hP q 0 (cA := cI) (n := zN q) (f := σ.1 q) (zW_get ad cI cJ σ hq) rfl h0.1 hd2 (hZ _ _ _ _ h0.2 H locs ls hP hS hl)
  | false =>
    rw [hz] at h0
    cases sc with
    | none => exact False.elim h0
    | some t =>
      obtain ⟨h1, h2⟩ := zG_inv h0
      have e := Nat.eq_of_beq_eq_true h1
      subst e
      obtain ⟨g1, g2, g3⟩ := hsc t rfl
      exact va_sld hx hb g1 g2 g3 hS h2.1 hd2 (hZ _ _ _ _ h2.2 H locs ls hP hS hl)
theorem zo_laload (K : zCx p l R s m args meth c cells slots D cI cJ ad A d mi) (hZ : zZX p l e R s m args below meth c cells slots Q D cI cJ ad A mi Z) (hk : zOk mi pc (.laload, n, a, b, k1, e1, g, v, w, tb) = true) (h : zEx sc C post Z (.laload, n, a, b, k1, e1, g, v, w, tb) lv st σ) : zXs p l e R s m args below meth c cells slots Q D cI cJ ad A mi pc lv st σ := by
  obtain ⟨hx, hb, hml, hown, hts, hnw, hK, hinj, hAd, hA, hcl, hsl, hfr, hlo⟩ := K
  intro H locs ls hP hS hl
  simp only [zOk, Bool.and_eq_true, decide_eq_true_eq] at hk
  simp only [zEx] at h
  obtain ⟨⟨hn, hdg⟩, hk⟩ := hk
  obtain ⟨rfl, hd2⟩ := zLen hn hdg hk
  obtain ⟨q, i, r, rfl, h⟩ := zAI_inv h
  obtain ⟨hz, h⟩ := zG_inv h
  obtain ⟨sl, hq⟩ := zIsJ_spec hz
  exact va_lald (D := D) hx hb hK hP q 1 (cA := cJ) (n := zN q) (f := σ.2 q) (zW_get ad cI cJ σ hq) rfl h.1 hd2 (hZ _ _ _ _ h.2 H locs ls hP hS hl)
theorem zo_iastore (K : zCx p l R s m args meth c cells slots D cI cJ ad A d mi) (hZ : zZX p l e R s m args below meth c cells slots Q D cI cJ ad A mi Z) (hk : zOk mi pc (.iastore, n, a, b, k1, e1, g, v, w, tb) = true) (h : zEx sc C post Z (.iastore, n, a, b, k1, e1, g, v, w, tb) lv st σ) : zXs p l e R s m args below meth c cells slots Q D cI cJ ad A mi pc lv st σ := by
  obtain ⟨hx, hb, hml, hown, hts, hnw, hK, hinj, hAd, hA, hcl, hsl, hfr, hlo⟩ := K
  intro H locs ls hP hS hl
  simp only [zOk, Bool.and_eq_true, decide_eq_true_eq] at hk
  simp only [zEx] at h
  obtain ⟨⟨hn, hdg⟩, hk⟩ := hk
  obtain ⟨rfl, hd2⟩ := zLen hn hdg hk
  obtain ⟨x, r0, rfl, h1⟩ := zI_inv h
  obtain ⟨q, i, r, rfl, h2⟩ := zAI_inv h1
  obtain ⟨hz, h3⟩ := zG_inv h2
  obtain ⟨sl, hq⟩ := zIsI_spec hz
  have e1 := zW_set ad cI cJ (σ := σ) (τ := zSI σ q i.toNatClampNeg x) hq (fun a h => zSI_1 h) (fun a h => rfl)
  rw [show zEn ad cI cJ (zSI σ q i.toNatClampNeg x) q (1, zN q, sl) = .inl (cI, zN q, .inl (upd (σ.1 q) i.toNatClampNeg x)) from by rw [← zSI_s]; rfl] at e1
  exact va_iast (D := D) hx hb hK hP (zD_of hinj hAd σ) hS q 0 (cA := cI) (n := zN q) (f := σ.1 q) (zW_get ad cI cJ σ hq) rfl h3.1 hd2 (fun H1 locs1 hP1 hD1 hS1 => hZ _ _ _ _ h3.2 H1 locs1 ls (by rw [e1] at hP1; exact hP1) hS1 hl)
theorem zo_lastore (K : zCx p l R s m args meth c cells slots D cI cJ ad A d mi) (hZ : zZX p l e R s m args below meth c cells slots Q D cI cJ ad A mi Z) (hk : zOk mi pc (.lastore, n, a, b, k1, e1, g, v, w, tb) = true) (h : zEx sc C post Z (.lastore, n, a, b, k1, e1, g, v, w, tb) lv st σ) : zXs p l e R s m args below meth c cells slots Q D cI cJ ad A mi pc lv st σ := by
  obtain ⟨hx, hb, hml, hown, hts, hnw, hK, hinj, hAd, hA, hcl, hsl, hfr, hlo⟩ := K
  intro H locs ls hP hS hl
  simp only [zOk, Bool.and_eq_true, decide_eq_true_eq] at hk
  simp only [zEx] at h
  obtain ⟨⟨hn, hdg⟩, hk⟩ := hk
  obtain ⟨rfl, hd2⟩ := zLen hn hdg hk
  obtain ⟨x, r0, rfl, h1⟩ := zJ_inv h
  obtain ⟨q, i, r, rfl, h2⟩ := zAI_inv h1
  obtain ⟨hz, h3⟩ := zG_inv h2
  obtain ⟨sl, hq⟩ := zIsJ_spec hz
  have e1 := zW_set ad cI cJ (σ := σ) (τ := zSJ σ q i.toNatClampNeg x) hq (fun a h => rfl) (fun a h => zSJ_1 h)
  rw [show zEn ad cI cJ (zSJ σ q i.toNatClampNeg x) q (2, zN q, sl) = .inl (cJ, zN q, .inr (.inl (vp_updL (σ.2 q) i.toNatClampNeg x))) from by rw [← zSJ_s]; rfl] at e1
  exact va_last (D := D) hx hb hK hP (zD_of hinj hAd σ) hS q 1 (cA := cJ) (n := zN q) (f := σ.2 q) (zW_get ad cI cJ σ hq) rfl h3.1 hd2 (fun H1 locs1 hP1 hD1 hS1 => hZ _ _ _ _ h3.2 H1 locs1 ls (by rw [e1] at hP1; exact hP1) hS1 hl)
theorem zo_arraylength (hsc : ∀ t, sc = some t → va_X (ad 80) t.1 t.2 s s.heap ∧ ad 80 < s.heap.size ∧ ¬ A (ad 80)) (K : zCx p l R s m args meth c cells slots D cI cJ ad A d mi) (hZ : zZX p l e R s m args below meth c cells slots Q D cI cJ ad A mi Z) (hk : zOk mi pc (.arraylength, n, a, b, k1, e1, g, v, w, tb) = true) (h : zEx sc C post Z (.arraylength, n, a, b, k1, e1, g, v, w, tb) lv st σ) : zXs p l e R s m args below meth c cells slots Q D cI cJ ad A mi pc lv st σ := by
  obtain ⟨hx, hb, hml, hown, hts, hnw, hK, hinj, hAd, hA, hcl, hsl, hfr, hlo⟩ := K
  intro H locs ls hP hS hl
  simp only [zOk, Bool.and_eq_true, decide_eq_true_eq] at hk
  simp only [zEx] at h
  obtain ⟨⟨hn, hdg⟩, hk⟩ := hk
  obtain ⟨rfl, hd2⟩ := zLen hn hdg hk
  obtain ⟨q, r, rfl, h1⟩ := zA_inv h
  unfold zLe at h1
  cases hz : zIsI q with
  | true =>
    rw [hz] at h1
    obtain ⟨sl, hq⟩ := zIsI_spec hz
    exact va_alen (D := D) hx hb hK hP q 0 (cA := cI) (zW_get ad cI cJ σ hq) rfl rfl hd2 (hZ _ _ _ _ h1 H locs ls hP hS hl)
  | false =>
    cases hz2 : zIsJ q with
    | true =>
      rw [hz, hz2] at h1
      obtain ⟨sl, hq⟩ := zIsJ_spec hz2
      exact va_alen (D := D) hx hb hK hP q 1 (cA := cJ) (zW_get ad cI cJ σ hq) rfl rfl hd2 (hZ _ _ _ _ h1 H locs ls hP hS hl)
    | false =>
      rw [hz, hz2] at h1
      cases sc with
      | none => exact False.elim h1
      | some t =>
        obtain ⟨h2, h3⟩ := zG_inv h1
        have e := Nat.eq_of_beq_eq_true h2
        subst e
        obtain ⟨g1, g2, g3⟩ := hsc t rfl
        exact va_slen hx hb g1 g2 g3 hS hd2 (hZ _ _ _ _ h3 H locs ls hP hS hl)
end ZX
end
section
/-! calls and ends of the small machine; then all of it -/
section ZC
variable {p : Program} {l : Launch} {e : Env} {R : Room} {s : State} {m : MethodId} {args : Array Value} {below : List Frame} {meth : Method} {c : Code} {cells slots : Nat} {Q : State → Prop} {D : va_G} {cI cJ : ClassId} {ad : Nat → Nat} {A : Nat → Prop} {d mi : Nat}
variable {sc : Option (Nat × (Nat → Int32))} {C : zCa} {post : zPo} {Z : zX} {pc n a b k1 e1 g : Nat} {v : Int32} {w : Int64} {tb : List (Int32 × Nat)} {lv : zLo} {st : List Value} {σ : zS}
/-- behind a call -/
theorem z_go {H : Heap} {locs : List Loc} {ls : Array Slot} {st0 r : List Value} {po : zPo} {av : Array Value} (K : zCx p l R s m args meth c cells slots D cI cJ ad A d mi) (hS : va_S A s.heap H locs) (hl : zHas ad ls (zMl mi) lv)
    (hrun : va_Run p l e R s m args below meth c H locs cells slots 0 0 (F0 m pc ls st0) (r.map (zR ad)) (zQ D cI cJ ad H.size po av) (zA0 ad H.size))
    (hk : ∀ (v : Option Value) (σ2 : zS), po v σ2 → v.toList.map (zR ad) = v.toList ∧ zXs p l e R s m args below meth c cells slots Q D cI cJ ad A mi (pc + 3) lv (v.toList ++ r) σ2) : W p l e R s m args below meth c H locs cells slots Q (F0 m pc ls st0) := by
  obtain ⟨hx, hb, hml, hown, hts, hnw, hK, hinj, hAd, hA, hcl, hsl, hfr, hlo⟩ := K
  refine z_callG hrun (fun v st₀ t H1 L h0 ht hQa hL => ?_)
  obtain ⟨⟨r2, σ2, hr, hp, hP1⟩, hF⟩ := hQa
  cases hr
  obtain ⟨g1, g2⟩ := hk v σ2 hp
  have e3 := g2 H1 (locs ++ L) ls (by rw [← ht]; exact hP1) (zS_call hS hAd hA h0 hF ht hL) hl
  rw [List.map_append, g1] at e3
  exact e3
/-- what a call's room and words ask -/
theorem z_room (K : zCx p l R s m args meth c cells slots D cI cJ ad A d mi) {a : Nat} (ha : zMl a ≤ 13) : (zRm d).frames + 1 ≤ R.frames ∧ 8 + (zMl a + 11) + (zRm d).locals ≤ R.locals := by
  obtain ⟨hx, hb, hml, hown, hts, hnw, hK, hinj, hAd, hA, hcl, hsl, hfr, hlo⟩ := K
  refine ⟨hfr, ?_⟩
  show 8 + (zMl a + 11) + 32 * d ≤ R.locals
  omega
theorem z_pre (hsc : ∀ t, sc = some t → va_X (ad 80) t.1 t.2 s s.heap ∧ ad 80 < s.heap.size ∧ ¬ A (ad 80)) (K : zCx p l R s m args meth c cells slots D cI cJ ad A d mi) {H : Heap} {locs : List Loc} (hS : va_S A s.heap H locs) (hP : va_P D vwCl (zW ad cI cJ σ) H) {U : State} (hU : U.heap = H) (hW : s.WarmedH U.vm) : zB sc D cI cJ ad H.size σ U := by
  obtain ⟨hx, hb, hml, hown, hts, hnw, hK, hinj, hAd, hA, hcl, hsl, hfr, hlo⟩ := K
  exact ⟨by rw [hU], by rw [hU]; exact hP, va_K.moved hW.alike hK, fun w hw => zNw_warm hw hW (hnw w hw), fun t ht => ⟨by rw [hU]; exact va_X.moved hW.alike (va_X.kept (hsc t ht).1 (hS.2.1 _ (hsc t ht).2.1 (hsc t ht).2.2)), Nat.lt_of_lt_of_le (hsc t ht).2.1 hS.1, fun k hk e => (hsc t ht).2.2 (by rw [← e]; exact hAd k hk)⟩⟩
theorem z_res {av : List Value} {cc : Nat} {X : zX} {r : List Value} {pc : Nat} {lv : zLo} {hC : zCa} {a : Nat} (h : match cc with
    | 0 => hC a av σ (zPV fun σ => X pc lv r σ)
    | 1 => hC a av σ (zPI fun x σ => X pc lv (.int x :: r) σ)
    | _ => hC a av σ (zPJ fun x σ => X pc lv (.long x :: r) σ)) : ∃ po : zPo, hC a av σ po ∧ ∀ (v : Option Value) (σ2 : zS), po v σ2 → (∀ ad : Nat → Nat, v.toList.map (zR ad) = v.toList) ∧ X pc lv (v.toList ++ r) σ2 := by
  match cc, h with
  | 0, h => exact ⟨_, h, fun v σ2 hp => by obtain ⟨rfl, hp⟩ := hp; exact ⟨fun _ => rfl, hp⟩⟩
  | 1, h => exact ⟨_, h, fun v σ2 hp => by obtain ⟨x, rfl, hp⟩ := hp; exact ⟨fun _ => rfl, hp⟩⟩
  | k + 2, h => exact ⟨_, h, fun v σ2 hp => by obtain ⟨x, rfl, hp⟩ := hp; exact ⟨fun _ => rfl, hp⟩⟩
theorem zo_invokevirtual {idx : Nat} (hsc : ∀ t, sc = some t → va_X (ad 80) t.1 t.2 s s.heap ∧ ad 80 < s.heap.size ∧ ¬ A (ad 80)) (hC : ∀ (a : Nat) (av : List Value) (σ : zS) (po : zPo), a < 85 → a ≠ nL_law → C a av σ po → zCon sc l D cI cJ ad d a av σ po) (K : zCx p l R s m args meth c cells slots D cI cJ ad A d mi) (hZ : zZX p l e R s m args below meth c cells slots Q D cI cJ ad A mi Z) (hk : zOk mi pc (.invokevirtual idx, n, a, b, k1, e1, g, v, w, tb) = true) (h : zEx sc C post Z (.invokevirtual idx, n, a, b, k1, e1, g, v, w, tb) lv st σ) : zXs p l e R s m args below meth c cells slots Q D cI cJ ad A mi pc lv st σ := by
  have K0 := K
  obtain ⟨hx, hb, hml, hown, hts, hnw, hK, hinj, hAd, hA, hcl, hsl, hfr, hlo⟩ := K
  intro H locs ls hP hS hl
  simp only [zOk, Bool.and_eq_true, decide_eq_true_eq] at hk
  simp only [zEx] at h
  obtain ⟨⟨hn, hdg⟩, ⟨⟨⟨⟨⟨⟨⟨⟨h1, h2⟩, h3⟩, h4⟩, h5⟩, h6⟩, h7⟩, h8⟩, h9⟩, h10⟩ := hk
  obtain ⟨rfl, hd2⟩ := zLen hn hdg h1
  have h2 := Nat.le_of_ble_eq_true h2
  have h3 : a ≠ nL_law := by
    intro q
    rw [q] at h3
    simp at h3
  have h4 : zMs a = false := by simpa using h4
  have h5 := Nat.eq_of_beq_eq_true h5
  have h6 : ¬ (zY a).name = "<init>" := by simpa using h6
  have h7 := Nat.le_of_ble_eq_true h7
  obtain ⟨av0, r, hlen, rfl, hq⟩ := zPn_inv b [] st _ h
  rw [List.append_nil] at hq
  obtain ⟨hg, hq2⟩ := zG_inv hq
  simp only [Bool.and_eq_true] at hg
  obtain ⟨hrc, hw8⟩ := hg
  have hw8 := Nat.le_of_ble_eq_true hw8
  obtain ⟨m1, m2, m3, m4, m5, m6, m7⟩ := zMv_spec h2 h3
  obtain ⟨n1, n2, n3, n4⟩ := m7 h4
  have n2 := n2.resolve_left h6
  obtain ⟨po, hca, hpo⟩ := z_res hq2
  have hM := hC a av0.reverse σ po h2 h3 hca H.size
  -- the receiver
  cases hav : av0.reverse with
  | nil => rw [hav] at hrc; exact absurd hrc (by simp [zRc])
  | cons rv as =>
    rw [hav] at hrc hM
    cases rv with
    | ref q =>
      obtain ⟨sl, hq3, -⟩ := zIsO_spec (show zIsO q e1 = true from hrc)
      have hav2 : av0 = as.reverse ++ [.ref q] := by
        have := congrArg List.reverse hav
        simpa using this
      subst h5
      have hn1 : (as.map (zR ad)).length = b - 1 := by
        have : av0.length = as.length + 1 := by rw [hav2]; simp
        rw [List.length_map]; omega
      have hst : (List.map (zR ad) (av0 ++ r)) = (as.map (zR ad)).reverse ++ .ref (ad q) :: r.map (zR ad) := by
        rw [hav2]; simp [zR]
      obtain ⟨hcl2, hcv⟩ := zCl_get n3
      have hrecv := va_recv hK hP hcl2 (zW_get ad cI cJ σ hq3)
      have hpre : PreV s H (zY a).cls (ad q) (va_Pc ((Value.ref q :: as).map (zR ad)) (zB sc D cI cJ ad H.size σ)) (as.map (zR ad)) :=
        ⟨zB_blind sc D cI cJ ad H.size σ _, by rw [← n4]; exact hrecv, fun U hU hW => ⟨rfl, z_pre hsc K0 hS hP hU hW⟩⟩
      have hsum : ((r.map (zR ad)).map fun v => v.category).sum ≤ 8 := by rw [zW8_R]; exact hw8
      rw [hst]
      simp only [Bool.or_eq_true, decide_eq_true_eq] at h10
      rcases h10 with h10 | h10
      · refine z_go K0 hS hl (va_runV (Ts := zTg) (own := (zY mi).cls) (C := (zY a).cls) (index := idx) (n := b - 1) ⟨hx, hb, hml, hown, hts⟩ hM (cwV (b - 1) hts (zTg_GoodIn fun w hw => ?_) rfl rfl rfl ⟨rfl, m3.1, m3.2, h8⟩ (z_room K0 m5)) hpre rfl hn1 hl.1.1 rfl (lv_room hsum) hd2 ⟨hcl, hsl⟩) (fun v σ2 hp => ⟨(hpo v σ2 hp).1 ad, hZ _ _ _ _ (hpo v σ2 hp).2⟩)
        rcases List.mem_append.mp hw with hw | hw
        · simp only [List.mem_cons, List.not_mem_nil, or_false] at hw
          rcases hw with rfl | rfl | rfl | rfl
          · exact zin _ h10 rfl
          · exact n1
          · exact n2
          · exact m2
        · rcases List.mem_cons.mp hw with rfl | hw
          · exact m1
          · exact hw
      · refine z_go K0 hS hl (va_runVN (Ts := zTg) (own := (zY mi).cls) (C := (zY a).cls) (host := "RatePlanner") (index := idx) (n := b - 1) ⟨hx, hb, hml, hown, hts⟩ hM ⟨va_cnB (b - 1) hts (zTg_GoodIn fun w hw => ?_) rfl rfl rfl (hnw _ (zinN _ h10 rfl)) (hts _ m2) ⟨m3.1, m3.2, h8⟩ (z_room K0 m5), hts _ n1, hts _ n2⟩ hpre rfl hn1 hl.1.1 rfl (lv_room hsum) hd2 ⟨hcl, hsl⟩) (fun v σ2 hp => ⟨(hpo v σ2 hp).1 ad, hZ _ _ _ _ (hpo v σ2 hp).2⟩)
        rcases List.mem_cons.mp hw with rfl | hw
        · exact m1
        · exact hw
    | _ => exact absurd hrc (by simp [zRc])
theorem zo_invokestatic {idx : Nat} (hsc : ∀ t, sc = some t → va_X (ad 80) t.1 t.2 s s.heap ∧ ad 80 < s.heap.size ∧ ¬ A (ad 80)) (hC : ∀ (a : Nat) (av : List Value) (σ : zS) (po : zPo), a < 85 → a ≠ nL_law → C a av σ po → zCon sc l D cI cJ ad d a av σ po) (K : zCx p l R s m args meth c cells slots D cI cJ ad A d mi) (hZ : zZX p l e R s m args below meth c cells slots Q D cI cJ ad A mi Z) (hk : zOk mi pc (.invokestatic idx, n, a, b, k1, e1, g, v, w, tb) = true) (h : zEx sc C post Z (.invokestatic idx, n, a, b, k1, e1, g, v, w, tb) lv st σ) : zXs p l e R s m args below meth c cells slots Q D cI cJ ad A mi pc lv st σ := by
  have K0 := K
  obtain ⟨hx, hb, hml, hown, hts, hnw, hK, hinj, hAd, hA, hcl, hsl, hfr, hlo⟩ := K
  intro H locs ls hP hS hl
  simp only [zOk, Bool.and_eq_true, decide_eq_true_eq] at hk
  simp only [zEx] at h
  obtain ⟨⟨hn, hdg⟩, h1, hk⟩ := hk
  obtain ⟨rfl, hd2⟩ := zLen hn hdg h1
  have zmem : ∀ w : Cond, lw_tbl.contains w = true → goodWord w = true → w ∈ zTg := fun w h1 h2 => List.mem_filter.mpr ⟨List.contains_iff_mem.mp h1, h2⟩
  have hmx := zIn_max
  simp only [Bool.and_eq_true] at hmx
  obtain ⟨⟨⟨⟨⟨⟨x1, x2⟩, x3⟩, x4⟩, x5⟩, x6⟩, x7⟩ := hmx
  have hml2 : c.maxLocals = ls.size := by rw [hml]; exact hl.1.1.symm
  match e1, h, hk with
  | 0, h, hk =>
    simp only [Bool.and_eq_true, decide_eq_true_eq] at hk
    obtain ⟨⟨⟨⟨⟨h2, h3⟩, h4⟩, h8⟩, h9⟩, h10⟩ := hk
    have h2 := Nat.le_of_ble_eq_true h2
    have h3 : a ≠ nL_law := by
      intro q
      rw [q] at h3
      simp at h3
    obtain ⟨av0, r, hlen, rfl, hq⟩ := zPn_inv b [] st _ h
    rw [List.append_nil] at hq
    obtain ⟨hw8, hq2⟩ := zG_inv hq
    have hw8 := Nat.le_of_ble_eq_true hw8
    obtain ⟨m1, m2, m3, m4, m5, m6, m7⟩ := zMv_spec h2 h3
    have n1 := m6 h4
    obtain ⟨po, hca, hpo⟩ := z_res hq2
    have hM := hC a av0.reverse σ po h2 h3 hca H.size
    have hn1 : (av0.reverse.map (zR ad)).length = b := by rw [List.length_map, List.length_reverse]; exact hlen
    have hst : (List.map (zR ad) (av0 ++ r)) = (av0.reverse.map (zR ad)).reverse ++ r.map (zR ad) := by simp
    have hpre : PreS s H (va_Pc (av0.reverse.map (zR ad)) (zB sc D cI cJ ad H.size σ)) (av0.reverse.map (zR ad)) :=
      ⟨zB_blind sc D cI cJ ad H.size σ _, fun U hU hW => ⟨rfl, z_pre hsc K0 hS hP hU hW⟩⟩
    have hsum : ((r.map (zR ad)).map fun v => v.category).sum ≤ 8 := by rw [zW8_R]; exact hw8
    rw [hst]
    simp only [Bool.or_eq_true, decide_eq_true_eq] at h10
    rcases h10 with h10 | h10
    · refine z_go K0 hS hl (va_runS (Ts := zTg) (own := (zY mi).cls) (index := idx) (n := b) ⟨hx, hb, hml, hown, hts⟩ hM ⟨callB_of b hts (zTg_GoodIn fun w hw => ?_) rfl rfl rfl (hts _ m2) (hts _ (zin _ h10 rfl)) ⟨m3.1, m3.2, h8⟩ (z_room K0 m5), hts _ n1⟩ hpre rfl hn1 hl.1.1 rfl (lv_room hsum) hd2 ⟨hcl, hsl⟩) (fun v σ2 hp => ⟨(hpo v σ2 hp).1 ad, hZ _ _ _ _ (hpo v σ2 hp).2⟩)
      rcases List.mem_cons.mp hw with rfl | hw
      · exact m1
      · exact hw
    · refine z_go K0 hS hl (va_runSN (Ts := zTg) (own := (zY mi).cls) (host := "RatePlanner") (index := idx) (n := b) ⟨hx, hb, hml, hown, hts⟩ hM ⟨va_cnB b hts (zTg_GoodIn fun w hw => ?_) rfl rfl rfl (hnw _ (zinN _ h10 rfl)) (hts _ m2) ⟨m3.1, m3.2, h8⟩ (z_room K0 m5), hts _ n1, trivial⟩ hpre rfl hn1 hl.1.1 rfl (lv_room hsum) hd2 ⟨hcl, hsl⟩) (fun v σ2 hp => ⟨(hpo v σ2 hp).1 ad, hZ _ _ _ _ (hpo v σ2 hp).2⟩)
      rcases List.mem_cons.mp hw with rfl | hw
      · exact m1
      · exact hw
  | 1, h, hk =>
    obtain ⟨x, y, r, rfl, h0⟩ := zII_inv h
    obtain ⟨hw8, h5⟩ := zG_inv h0
    have hw8 := Nat.le_of_ble_eq_true hw8
    exact va_mmax hx hb hml2 hown (hts _ (zin _ (of_decide_eq_true hk) rfl)) (hts _ (zmem _ x1 rfl)) (hts _ (zmem _ x7 rfl)) (hts _ (zmem _ x2 rfl)) (by omega) (by rw [zW8_R]; omega) hcl hsl hd2 (hZ _ _ _ _ h5 H locs ls hP hS hl)
  | 2, h, hk =>
    obtain ⟨x, y, r, rfl, h0⟩ := zII_inv h
    obtain ⟨hw8, h5⟩ := zG_inv h0
    have hw8 := Nat.le_of_ble_eq_true hw8
    exact va_mmin hx hb hml2 hown (hts _ (zin _ (of_decide_eq_true hk) rfl)) (hts _ (zmem _ x3 rfl)) (hts _ (zmem _ x7 rfl)) (hts _ (zmem _ x4 rfl)) (by omega) (by rw [zW8_R]; omega) hcl hsl hd2 (hZ _ _ _ _ h5 H locs ls hP hS hl)
  | 3, h, hk =>
    obtain ⟨x, r, rfl, h0⟩ := zI_inv h
    obtain ⟨hw8, h5⟩ := zG_inv h0
    have hw8 := Nat.le_of_ble_eq_true hw8
    exact va_mabs hx hb hml2 hown (hts _ (zin _ (of_decide_eq_true hk) rfl)) (hts _ (zmem _ x5 rfl)) (hts _ (zmem _ x7 rfl)) (hts _ (zmem _ x6 rfl)) (by omega) (by rw [zW8_R]; omega) hcl hsl hd2 (hZ _ _ _ _ h5 H locs ls hP hS hl)
  | j + 4, h, hk => exact False.elim h
end ZC
end
section
/-! one instruction, whichever; a method of any depth -/
theorem zRI_inv {st : List Value} {k : Int32 → Prop} (h : zRI st k) : ∃ x, st = [.int x] ∧ k x := by
  unfold zRI at h
  split at h
  · exact ⟨_, rfl, h⟩
  · exact False.elim h
theorem zRJ_inv {st : List Value} {k : Int64 → Prop} (h : zRJ st k) : ∃ x, st = [.long x] ∧ k x := by
  unfold zRJ at h
  split at h
  · exact ⟨_, rfl, h⟩
  · exact False.elim h
theorem zRV_inv {st : List Value} {k : Prop} (h : zRV st k) : st = [] ∧ k := by
  unfold zRV at h
  split at h
  · exact ⟨rfl, h⟩
  · exact False.elim h
section ZE
variable {p : Program} {l : Launch} {e : Env} {R : Room} {s : State} {m : MethodId} {args : Array Value} {below : List Frame} {meth : Method} {c : Code} {cells slots : Nat} {Q : State → Prop} {D : va_G} {cI cJ : ClassId} {ad : Nat → Nat} {A : Nat → Prop} {d mi : Nat}
variable {sc : Option (Nat × (Nat → Int32))} {C : zCa} {post : zPo} {Z : zX}
theorem zEx_ok (K : zCx p l R s m args meth c cells slots D cI cJ ad A d mi)
    (hsc : ∀ t, sc = some t → va_X (ad 80) t.1 t.2 s s.heap ∧ ad 80 < s.heap.size ∧ ¬ A (ad 80))
    (hC : ∀ (a : Nat) (av : List Value) (σ : zS) (po : zPo), a < 85 → a ≠ nL_law → C a av σ po → zCon sc l D cI cJ ad d a av σ po)
    (hRi : ∀ (x : Int32) (σ : zS) (H : Heap) (locs : List Loc) (ls : Array Slot) (pc : Nat), post (some (.int x)) σ → va_P D vwCl (zW ad cI cJ σ) H → va_S A s.heap H locs → decode (zBy mi) pc = .ok (.ireturn, 1) → (zRt mi = some .int ∨ (zRt mi = some .boolean ∧ (x == 0 || x == 1) = true)) → W p l e R s m args below meth c H locs cells slots Q (F0 m pc ls [.int x]))
    (hRl : ∀ (x : Int64) (σ : zS) (H : Heap) (locs : List Loc) (ls : Array Slot) (pc : Nat), post (some (.long x)) σ → va_P D vwCl (zW ad cI cJ σ) H → va_S A s.heap H locs → decode (zBy mi) pc = .ok (.lreturn, 1) → zRt mi = some .long → W p l e R s m args below meth c H locs cells slots Q (F0 m pc ls [.long x]))
    (hRv : ∀ (σ : zS) (H : Heap) (locs : List Loc) (ls : Array Slot) (pc : Nat), post none σ → va_P D vwCl (zW ad cI cJ σ) H → va_S A s.heap H locs → decode (zBy mi) pc = .ok (.return_, 1) → zRt mi = none → W p l e R s m args below meth c H locs cells slots Q (F0 m pc ls []))
    (hZ : zZX p l e R s m args below meth c cells slots Q D cI cJ ad A mi Z) {pc : Nat} {o : zOp} {lv : zLo} {st : List Value} {σ : zS} (hk : zOk mi pc o = true) (h : zEx sc C post Z o lv st σ) : zXs p l e R s m args below meth c cells slots Q D cI cJ ad A mi pc lv st σ := by
  obtain ⟨i, n, a, b, k1, e1, g, v, w, tb⟩ := o
  cases i with
  | iconst z => exact zo_iconst K hZ hk h
  | bipush z => exact zo_bipush K hZ hk h
  | sipush z => exact zo_sipush K hZ hk h
  | ldc z => exact zo_ldc K hZ hk h
  | lconst z => exact zo_lconst K hZ hk h
  | ldc2_w z => exact zo_ldc2 K hZ hk h
  | iload_n z => exact zo_iload_n K hZ hk h
  | iload z => exact zo_iload K hZ hk h
  | lload_n z => exact zo_lload_n K hZ hk h
  | lload z => exact zo_lload K hZ hk h
  | aload_n z => exact zo_aload_n K hZ hk h
  | aload z => exact zo_aload K hZ hk h
  | istore_n z => exact zo_istore_n K hZ hk h
  | istore z => exact zo_istore K hZ hk h
  | lstore_n z => exact zo_lstore_n K hZ hk h
  | lstore z => exact zo_lstore K hZ hk h
  | astore_n z => exact zo_astore_n K hZ hk h
  | iinc z y => exact zo_iinc K hZ hk h
  | iadd => exact zo_iadd K hZ hk h
  | isub => exact zo_isub K hZ hk h
  | imul => exact zo_imul K hZ hk h
  | iand => exact zo_iand K hZ hk h
  | ishl => exact zo_ishl K hZ hk h
  | ishr => exact zo_ishr K hZ hk h
  | idiv => exact zo_idiv K hZ hk h
  | irem => exact zo_irem K hZ hk h
  | ladd => exact zo_ladd K hZ hk h
  | lsub => exact zo_lsub K hZ hk h
  | lmul => exact zo_lmul K hZ hk h
  | ldiv => exact zo_ldiv K hZ hk h
  | lcmp => exact zo_lcmp K hZ hk h
  | ineg => exact zo_ineg K hZ hk h
  | i2l => exact zo_i2l K hZ hk h
  | l2i => exact zo_l2i K hZ hk h
  | dup => exact zo_dup K hZ hk h
  | pop => exact zo_pop K hZ hk h
  | dup2 => exact zo_dup2 K hZ hk h
  | laload => exact zo_laload K hZ hk h
  | iastore => exact zo_iastore K hZ hk h
  | lastore => exact zo_lastore K hZ hk h
  | iaload => exact zo_iaload hsc K hZ hk h
  | arraylength => exact zo_arraylength hsc K hZ hk h
  | goto z => exact zo_goto K hZ hk h
  | tableswitch x y z t => exact zo_tableswitch K hZ hk h
  | lookupswitch x y => exact zo_lookupswitch K hZ hk h
  | getfield z => exact zo_getfield K hZ hk h
  | putfield z => exact zo_putfield K hZ hk h
  | invokevirtual z => exact zo_invokevirtual hsc hC K hZ hk h
  | invokestatic z => exact zo_invokestatic hsc hC K hZ hk h
  | ifCond cd z => cases cd with
    | eq => exact zo_if_eq K hZ hk h
    | ne => exact zo_if_ne K hZ hk h
    | lt => exact zo_if_lt K hZ hk h
    | ge => exact zo_if_ge K hZ hk h
    | gt => exact zo_if_gt K hZ hk h
    | le => exact zo_if_le K hZ hk h
  | if_icmp cd z => cases cd with
    | eq => exact zo_icmp_eq K hZ hk h
    | ne => exact zo_icmp_ne K hZ hk h
    | lt => exact zo_icmp_lt K hZ hk h
    | ge => exact zo_icmp_ge K hZ hk h
    | gt => exact zo_icmp_gt K hZ hk h
    | le => exact zo_icmp_le K hZ hk h
  | ireturn =>
    intro H locs ls hP hS hl
    simp only [zOk, Bool.and_eq_true, decide_eq_true_eq] at hk
    simp only [zEx] at h
    obtain ⟨⟨hn, hdg⟩, h1, h2⟩ := hk
    obtain ⟨rfl, hd2⟩ := zLen hn hdg h1
    obtain ⟨x, rfl, h3⟩ := zRI_inv h
    refine hRi x σ H locs ls pc ?_ hP hS hd2 ?_
    · match k1, h3 with
      | 0, h3 => exact h3
      | 1, h3 => exact (zG_inv h3).2
      | k + 2, h3 => exact h3
    · match zRt mi, k1, h2, h3 with
      | some .int, _, _, _ => exact Or.inl rfl
      | some .boolean, 1, _, h3 => exact Or.inr ⟨rfl, (zG_inv h3).1⟩
      | some .boolean, 0, h2, _ => exact absurd h2 (by simp)
      | some .boolean, k + 2, h2, _ => exact absurd h2 (by simp)
  | lreturn =>
    intro H locs ls hP hS hl
    simp only [zOk, Bool.and_eq_true, decide_eq_true_eq] at hk
    simp only [zEx] at h
    obtain ⟨⟨hn, hdg⟩, h1, h2⟩ := hk
    obtain ⟨rfl, hd2⟩ := zLen hn hdg h1
    obtain ⟨x, rfl, h3⟩ := zRJ_inv h
    exact hRl x σ H locs ls pc h3 hP hS hd2 h2
  | return_ =>
    intro H locs ls hP hS hl
    simp only [zOk, Bool.and_eq_true, decide_eq_true_eq] at hk
    simp only [zEx] at h
    obtain ⟨⟨hn, hdg⟩, h1, h2⟩ := hk
    obtain ⟨rfl, hd2⟩ := zLen hn hdg h1
    obtain ⟨rfl, h3⟩ := zRV_inv h
    exact hRv σ H locs ls pc h3 hP hS hd2 h2
  | _ => exact False.elim h
theorem zClosed_of (K : zCx p l R s m args meth c cells slots D cI cJ ad A d mi)
    (hsc : ∀ t, sc = some t → va_X (ad 80) t.1 t.2 s s.heap ∧ ad 80 < s.heap.size ∧ ¬ A (ad 80))
    (hC : ∀ (a : Nat) (av : List Value) (σ : zS) (po : zPo), a < 85 → a ≠ nL_law → C a av σ po → zCon sc l D cI cJ ad d a av σ po)
    (hRi : ∀ (x : Int32) (σ : zS) (H : Heap) (locs : List Loc) (ls : Array Slot) (pc : Nat), post (some (.int x)) σ → va_P D vwCl (zW ad cI cJ σ) H → va_S A s.heap H locs → decode (zBy mi) pc = .ok (.ireturn, 1) → (zRt mi = some .int ∨ (zRt mi = some .boolean ∧ (x == 0 || x == 1) = true)) → W p l e R s m args below meth c H locs cells slots Q (F0 m pc ls [.int x]))
    (hRl : ∀ (x : Int64) (σ : zS) (H : Heap) (locs : List Loc) (ls : Array Slot) (pc : Nat), post (some (.long x)) σ → va_P D vwCl (zW ad cI cJ σ) H → va_S A s.heap H locs → decode (zBy mi) pc = .ok (.lreturn, 1) → zRt mi = some .long → W p l e R s m args below meth c H locs cells slots Q (F0 m pc ls [.long x]))
    (hRv : ∀ (σ : zS) (H : Heap) (locs : List Loc) (ls : Array Slot) (pc : Nat), post none σ → va_P D vwCl (zW ad cI cJ σ) H → va_S A s.heap H locs → decode (zBy mi) pc = .ok (.return_, 1) → zRt mi = none → W p l e R s m args below meth c H locs cells slots Q (F0 m pc ls [])) : zClosed sc C post mi (zXs p l e R s m args below meth c cells slots Q D cI cJ ad A mi) :=
  ⟨fun Z pc o ls st σ hZ hk h => zEx_ok K hsc hC hRi hRl hRv hZ hk h, fun ms pc ls st σ h H locs ls2 hP hS hl => h H locs ls2 hP hS (hl.mk ms pc)⟩
end ZE
theorem zSound (sc : Option (Nat × (Nat → Int32))) (l : Launch) (D : va_G) (cI cJ : ClassId) (ad : Nat → Nat) (hinj : ∀ i j, i < zSh.length → j < zSh.length → ad i = ad j → i = j) : ∀ (d a : Nat) (av : List Value) (σ : zS) (post : zPo), a < 85 → a ≠ nL_law → zCallS sc d a av σ post → zCon sc l D cI cJ ad d a av σ post
  | 0, a, av, σ, post, _, _, h => False.elim h
  | d + 1, a, av, σ, post, ha, hna, h => by
    intro sz
    obtain ⟨hb0, hrun⟩ := zG_inv h
    obtain ⟨m1, m2, m3, m4, m5, m6, m7⟩ := zMv_spec ha hna
    refine Met.ofW (cc := zBy a) (maxL := zMl a) (ret := zRt a) m4 rfl ?_
    intro p e s m args below meth c s₁ B hml hv
    obtain ⟨rfl, hsz, hP, hK, hN, hX⟩ := hv
    subst hsz
    have hts0 := atoms_spec (ws := zWs a) B.pre
    have hts : ∀ w ∈ zTg, w.before _ s = true := fun w hw => hts0 w (List.mem_cons_of_mem _ hw)
    have hown : s.vm.findClass (zY a).cls = some m.cls := findClass_of_methodNamed B.named
    have hx := B.exec
    have hbb := B.bytes
    have hr := B.returns
    have hlocks := B.notSynchronized
    have K : zCx p l (headSpec (zWs a) (zRm (d + 1))).room s m _ meth c 0 0 D cI cJ ad (zA0 ad s.heap.size) d a := ⟨hx, hbb, hml, hown, hts, hN, hK, hinj, fun k hk => Or.inl ⟨k, hk, rfl⟩, fun q hq => Or.inr hq, Nat.zero_le _, Nat.zero_le _, Nat.le_refl _, Nat.le_refl _⟩
    rw [lg_entry_eq]
    exact hrun _ (zClosed_of (e := e) (below := below) (Q := MQ below (zQ D cI cJ ad s.heap.size post) (av.map (zR ad)).toArray s 0 0 (zA0 ad s.heap.size)) K (fun t ht => ⟨(hX t ht).1, (hX t ht).2.1, fun z => z.elim (fun ⟨k, h1, h2⟩ => (hX t ht).2.2 k h1 h2) (fun z => absurd (hX t ht).2.1 (Nat.not_lt.mpr z))⟩) (fun a av σ po h1 h2 h3 => zSound sc l D cI cJ ad hinj d a av σ po h1 h2 h3)
      (fun x σ H locs ls pc hp hP hS hdg ht => by
        rcases ht with ht | ⟨ht, hb⟩
        · exact W.iret hx hbb (hr.trans ht) (fun t ht hW => ⟨⟨_, σ, rfl, hp, by rw [ht]; exact hP⟩, hS.F ht⟩) hS.2.2 hdg
        · exact W.zret (ty := .boolean) hx hbb (hr.trans ht) (z01_nar hb) (fun t ht hW => ⟨⟨_, σ, rfl, hp, by rw [ht]; exact hP⟩, hS.F ht⟩) hS.2.2 hdg)
      (fun x σ H locs ls pc hp hP hS hdg ht => W.lret hx hbb (hr.trans ht) (fun t ht hW => ⟨⟨_, σ, rfl, hp, by rw [ht]; exact hP⟩, hS.F ht⟩) hS.2.2 hdg)
      (fun σ H locs ls pc hp hP hS hdg ht => W.vret hx hbb (hr.trans ht) (fun t ht hW => ⟨⟨_, σ, rfl, hp, by rw [ht]; exact hP⟩, hS.F ht⟩) hS.2.2 hdg)) s.heap [] _ hP va_S.rf (zHas.entry ad av (zMl a) (Nat.le_of_ble_eq_true hb0))
end
