def RX0 : String := "LevelNetwork$Heights"
def TX0 : u_T := fun k => match k with
  | 0 => ("LevelNetwork$Heights", "provisional", "[J", true)
  | 1 => ("LevelNetwork$Heights", "adjusted", "[J", true)
  | 2 => ("LevelNetwork$Heights", "settled", "Z", false)
  | 3 => ("LevelNetwork$Heights", "queue", "[I", true)
  | 4 => ("LevelNetwork$Heights", "starts", "[I", true)
  | 5 => ("LevelNetwork$Heights", "others", "[I", true)
  | 6 => ("LevelNetwork$Heights", "rises", "[I", true)
  | _ => ("LevelNetwork$Heights", "weights", "[I", true)
def tyX0 : Nat → FieldType := fun k => match k with
  | 0 => .array .long
  | 1 => .array .long
  | 2 => .boolean
  | 3 => .array .int
  | 4 => .array .int
  | 5 => .array .int
  | 6 => .array .int
  | _ => .array .int
theorem nmX0 : ∀ a, a < 8 → ∀ b, b < 8 → a ≠ b → (TX0 a).2.1 ≠ (TX0 b).2.1 := by decide +kernel
theorem tyX0_ok : ∀ k, k < 8 → parseFieldDescriptor (TX0 k).2.2.1 = some (tyX0 k) := by decide +kernel
abbrev cX0_init : ByteArray := prog_2_method_1_code
def yX0_init : MethodName := ⟨RX0, "<init>", "()V"⟩
abbrev cX0_carry : ByteArray := prog_2_method_2_code
def yX0_carry : MethodName := ⟨RX0, "carry", "(LLevelNetwork$Network;)V"⟩
abbrev cX0_settle : ByteArray := prog_2_method_3_code
def yX0_settle : MethodName := ⟨RX0, "settle", "(LLevelNetwork$Network;I)I"⟩
abbrev cX0_gatherLines : ByteArray := prog_2_method_4_code
def yX0_gatherLines : MethodName := ⟨RX0, "gatherLines", "(LLevelNetwork$Network;)V"⟩
abbrev cX0_settleOnce : ByteArray := prog_2_method_5_code
def yX0_settleOnce : MethodName := ⟨RX0, "settleOnce", "(LLevelNetwork$Network;)Z"⟩
abbrev cX0_weightedMean : ByteArray := prog_2_method_6_code
def yX0_weightedMean : MethodName := ⟨RX0, "weightedMean", "(I)J"⟩
abbrev cX0_settledHeight : ByteArray := prog_2_method_7_code
def yX0_settledHeight : MethodName := ⟨RX0, "settledHeight", "(I)J"⟩
abbrev cX0_misfit : ByteArray := prog_2_method_8_code
def yX0_misfit : MethodName := ⟨RX0, "misfit", "(LLevelNetwork$Network;I)J"⟩
def RX1 : String := "LevelNetwork$History"
def TX1 : u_T := fun k => match k with
  | 0 => ("LevelNetwork$History", "count", "I", false)
  | 1 => ("LevelNetwork$History", "oldest", "I", false)
  | 2 => ("LevelNetwork$History", "kinds", "[I", true)
  | 3 => ("LevelNetwork$History", "indexes", "[I", true)
  | 4 => ("LevelNetwork$History", "befores", "[I", true)
  | 5 => ("LevelNetwork$History", "settled", "[Z", true)
  | _ => ("LevelNetwork$History", "adjusted", "[J", true)
def tyX1 : Nat → FieldType := fun k => match k with
  | 0 => .int
  | 1 => .int
  | 2 => .array .int
  | 3 => .array .int
  | 4 => .array .int
  | 5 => .array .boolean
  | _ => .array .long
theorem nmX1 : ∀ a, a < 7 → ∀ b, b < 7 → a ≠ b → (TX1 a).2.1 ≠ (TX1 b).2.1 := by decide +kernel
theorem tyX1_ok : ∀ k, k < 7 → parseFieldDescriptor (TX1 k).2.2.1 = some (tyX1 k) := by decide +kernel
abbrev cX1_init : ByteArray := prog_3_method_1_code
def yX1_init : MethodName := ⟨RX1, "<init>", "()V"⟩
abbrev cX1_keep : ByteArray := prog_3_method_2_code
def yX1_keep : MethodName := ⟨RX1, "keep", "(IIILLevelNetwork$Heights;)V"⟩
def RX2 : String := "LevelNetwork$Loops"
def TX2 : u_T := fun k => match k with
  | 0 => ("LevelNetwork$Loops", "tree", "LLevelNetwork$Tree;", true)
  | 1 => ("LevelNetwork$Loops", "count", "I", false)
  | 2 => ("LevelNetwork$Loops", "ownLines", "[I", true)
  | 3 => ("LevelNetwork$Loops", "lineSets", "[I", true)
  | 4 => ("LevelNetwork$Loops", "lengths", "[I", true)
  | 5 => ("LevelNetwork$Loops", "misclosures", "[I", true)
  | 6 => ("LevelNetwork$Loops", "limits", "[I", true)
  | 7 => ("LevelNetwork$Loops", "way", "[I", true)
  | 8 => ("LevelNetwork$Loops", "steps", "I", false)
  | _ => ("LevelNetwork$Loops", "rest", "[I", true)
def tyX2 : Nat → FieldType := fun k => match k with
  | 0 => .object "LevelNetwork$Tree"
  | 1 => .int
  | 2 => .array .int
  | 3 => .array .int
  | 4 => .array .int
  | 5 => .array .int
  | 6 => .array .int
  | 7 => .array .int
  | 8 => .int
  | _ => .array .int
theorem nmX2 : ∀ a, a < 10 → ∀ b, b < 10 → a ≠ b → (TX2 a).2.1 ≠ (TX2 b).2.1 := by decide +kernel
theorem tyX2_ok : ∀ k, k < 10 → parseFieldDescriptor (TX2 k).2.2.1 = some (tyX2 k) := by decide +kernel
abbrev cX2_init : ByteArray := prog_4_method_1_code
def yX2_init : MethodName := ⟨RX2, "<init>", "()V"⟩
abbrev cX2_find : ByteArray := prog_4_method_2_code
def yX2_find : MethodName := ⟨RX2, "find", "(LLevelNetwork$Network;I)V"⟩
abbrev cX2_walk : ByteArray := prog_4_method_3_code
def yX2_walk : MethodName := ⟨RX2, "walk", "(LLevelNetwork$Network;I)V"⟩
abbrev cX2_stepFrom : ByteArray := prog_4_method_4_code
def yX2_stepFrom : MethodName := ⟨RX2, "stepFrom", "(LLevelNetwork$Network;II)I"⟩
abbrev cX2_measureWay : ByteArray := prog_4_method_5_code
def yX2_measureWay : MethodName := ⟨RX2, "measureWay", "(LLevelNetwork$Network;I)V"⟩
abbrev cX2_rootOfSquare : ByteArray := prog_4_method_6_code
def yX2_rootOfSquare : MethodName := ⟨RX2, "rootOfSquare", "(J)I"⟩
abbrev cX2_excess : ByteArray := prog_4_method_7_code
def yX2_excess : MethodName := ⟨RX2, "excess", "(I)I"⟩
abbrev cX2_badSet : ByteArray := prog_4_method_8_code
def yX2_badSet : MethodName := ⟨RX2, "badSet", "()I"⟩
def RX3 : String := "LevelNetwork$Network"
def TX3 : u_T := fun k => match k with
  | 0 => ("LevelNetwork$Network", "levels", "I", false)
  | 1 => ("LevelNetwork$Network", "points", "I", false)
  | 2 => ("LevelNetwork$Network", "lines", "I", false)
  | 3 => ("LevelNetwork$Network", "tests", "I", false)
  | 4 => ("LevelNetwork$Network", "active", "I", false)
  | 5 => ("LevelNetwork$Network", "settings", "[I", true)
  | 6 => ("LevelNetwork$Network", "levelNames", "[I", true)
  | 7 => ("LevelNetwork$Network", "collimations", "[I", true)
  | 8 => ("LevelNetwork$Network", "pointNames", "[I", true)
  | 9 => ("LevelNetwork$Network", "held", "[I", true)
  | 10 => ("LevelNetwork$Network", "firsts", "[I", true)
  | 11 => ("LevelNetwork$Network", "seconds", "[I", true)
  | 12 => ("LevelNetwork$Network", "lineLevels", "[I", true)
  | 13 => ("LevelNetwork$Network", "setupCounts", "[I", true)
  | 14 => ("LevelNetwork$Network", "readings", "[I", true)
  | 15 => ("LevelNetwork$Network", "testLevels", "[I", true)
  | _ => ("LevelNetwork$Network", "testReadings", "[I", true)
def tyX3 : Nat → FieldType := fun k => match k with
  | 0 => .int
  | 1 => .int
  | 2 => .int
  | 3 => .int
  | 4 => .int
  | 5 => .array .int
  | 6 => .array .int
  | 7 => .array .int
  | 8 => .array .int
  | 9 => .array .int
  | 10 => .array .int
  | 11 => .array .int
  | 12 => .array .int
  | 13 => .array .int
  | 14 => .array .int
  | 15 => .array .int
  | _ => .array .int
theorem nmX3 : ∀ a, a < 17 → ∀ b, b < 17 → a ≠ b → (TX3 a).2.1 ≠ (TX3 b).2.1 := by decide +kernel
theorem tyX3_ok : ∀ k, k < 17 → parseFieldDescriptor (TX3 k).2.2.1 = some (tyX3 k) := by decide +kernel
abbrev cX3_init : ByteArray := prog_5_method_1_code
def yX3_init : MethodName := ⟨RX3, "<init>", "()V"⟩
abbrev cX3_clear : ByteArray := prog_5_method_2_code
def yX3_clear : MethodName := ⟨RX3, "clear", "()V"⟩
abbrev cX3_findLevel : ByteArray := prog_5_method_3_code
def yX3_findLevel : MethodName := ⟨RX3, "findLevel", "(I)I"⟩
abbrev cX3_findPoint : ByteArray := prog_5_method_4_code
def yX3_findPoint : MethodName := ⟨RX3, "findPoint", "(I)I"⟩
abbrev cX3_countHeld : ByteArray := prog_5_method_5_code
def yX3_countHeld : MethodName := ⟨RX3, "countHeld", "()I"⟩
abbrev cX3_isActive : ByteArray := prog_5_method_6_code
def yX3_isActive : MethodName := ⟨RX3, "isActive", "(I)Z"⟩
abbrev cX3_hasSetup : ByteArray := prog_5_method_7_code
def yX3_hasSetup : MethodName := ⟨RX3, "hasSetup", "(II)Z"⟩
abbrev cX3_place : ByteArray := prog_5_method_8_code
def yX3_place : MethodName := ⟨RX3, "place", "(II)I"⟩
abbrev cX3_setupRise : ByteArray := prog_5_method_9_code
def yX3_setupRise : MethodName := ⟨RX3, "setupRise", "(II)I"⟩
abbrev cX3_lineRise : ByteArray := prog_5_method_10_code
def yX3_lineRise : MethodName := ⟨RX3, "lineRise", "(I)I"⟩
abbrev cX3_riseFrom : ByteArray := prog_5_method_11_code
def yX3_riseFrom : MethodName := ⟨RX3, "riseFrom", "(II)I"⟩
abbrev cX3_lineLength : ByteArray := prog_5_method_12_code
def yX3_lineLength : MethodName := ⟨RX3, "lineLength", "(I)I"⟩
abbrev cX3_lineWeight : ByteArray := prog_5_method_13_code
def yX3_lineWeight : MethodName := ⟨RX3, "lineWeight", "(I)I"⟩
abbrev cX3_across : ByteArray := prog_5_method_17_code
def yX3_across : MethodName := ⟨RX3, "across", "(III)I"⟩
def RX4 : String := "LevelNetwork$TextReader"
def TX4 : u_T := fun k => match k with
  | 0 => ("LevelNetwork$TextReader", "text", "[B", true)
  | 1 => ("LevelNetwork$TextReader", "bytes", "I", false)
  | 2 => ("LevelNetwork$TextReader", "end", "I", false)
  | 3 => ("LevelNetwork$TextReader", "at", "I", false)
  | 4 => ("LevelNetwork$TextReader", "next", "I", false)
  | 5 => ("LevelNetwork$TextReader", "kind", "I", false)
  | 6 => ("LevelNetwork$TextReader", "letters", "I", false)
  | 7 => ("LevelNetwork$TextReader", "value", "I", false)
  | 8 => ("LevelNetwork$TextReader", "error", "I", false)
  | _ => ("LevelNetwork$TextReader", "given", "I", false)
def tyX4 : Nat → FieldType := fun k => match k with
  | 0 => .array .byte
  | 1 => .int
  | 2 => .int
  | 3 => .int
  | 4 => .int
  | 5 => .int
  | 6 => .int
  | 7 => .int
  | 8 => .int
  | _ => .int
theorem nmX4 : ∀ a, a < 10 → ∀ b, b < 10 → a ≠ b → (TX4 a).2.1 ≠ (TX4 b).2.1 := by decide +kernel
theorem tyX4_ok : ∀ k, k < 10 → parseFieldDescriptor (TX4 k).2.2.1 = some (tyX4 k) := by decide +kernel
abbrev cX4_init : ByteArray := prog_6_method_1_code
def yX4_init : MethodName := ⟨RX4, "<init>", "()V"⟩
abbrev cX4_append : ByteArray := prog_6_method_2_code
def yX4_append : MethodName := ⟨RX4, "append", "(I)V"⟩
abbrev cX4_readText : ByteArray := prog_6_method_3_code
def yX4_readText : MethodName := ⟨RX4, "readText", "(LLevelNetwork$Network;I)I"⟩
abbrev cX4_readStatement : ByteArray := prog_6_method_4_code
def yX4_readStatement : MethodName := ⟨RX4, "readStatement", "(LLevelNetwork$Network;)Z"⟩
abbrev cX4_readLevel : ByteArray := prog_6_method_5_code
def yX4_readLevel : MethodName := ⟨RX4, "readLevel", "(LLevelNetwork$Network;)Z"⟩
abbrev cX4_readPoint : ByteArray := prog_6_method_6_code
def yX4_readPoint : MethodName := ⟨RX4, "readPoint", "(LLevelNetwork$Network;)Z"⟩
abbrev cX4_readLine : ByteArray := prog_6_method_7_code
def yX4_readLine : MethodName := ⟨RX4, "readLine", "(LLevelNetwork$Network;)Z"⟩
abbrev cX4_readTest : ByteArray := prog_6_method_8_code
def yX4_readTest : MethodName := ⟨RX4, "readTest", "(LLevelNetwork$Network;)Z"⟩
abbrev cX4_readSetting : ByteArray := prog_6_method_9_code
def yX4_readSetting : MethodName := ⟨RX4, "readSetting", "(LLevelNetwork$Network;)Z"⟩
abbrev cX4_readFour : ByteArray := prog_6_method_10_code
def yX4_readFour : MethodName := ⟨RX4, "readFour", "([II)Z"⟩
abbrev cX4_isNewName : ByteArray := prog_6_method_11_code
def yX4_isNewName : MethodName := ⟨RX4, "isNewName", "(LLevelNetwork$Network;)Z"⟩
abbrev cX4_isKnownPoint : ByteArray := prog_6_method_12_code
def yX4_isKnownPoint : MethodName := ⟨RX4, "isKnownPoint", "(LLevelNetwork$Network;)Z"⟩
abbrev cX4_isKnownLevel : ByteArray := prog_6_method_13_code
def yX4_isKnownLevel : MethodName := ⟨RX4, "isKnownLevel", "(LLevelNetwork$Network;)Z"⟩
abbrev cX4_isIntegerIn : ByteArray := prog_6_method_14_code
def yX4_isIntegerIn : MethodName := ⟨RX4, "isIntegerIn", "(II)Z"⟩
abbrev cX4_isName : ByteArray := prog_6_method_15_code
def yX4_isName : MethodName := ⟨RX4, "isName", "()Z"⟩
abbrev cX4_isWord : ByteArray := prog_6_method_16_code
def yX4_isWord : MethodName := ⟨RX4, "isWord", "([C)Z"⟩
abbrev cX4_fail : ByteArray := prog_6_method_17_code
def yX4_fail : MethodName := ⟨RX4, "fail", "(I)Z"⟩
abbrev cX4_advance : ByteArray := prog_6_method_18_code
def yX4_advance : MethodName := ⟨RX4, "advance", "()V"⟩
abbrev cX4_scanWord : ByteArray := prog_6_method_19_code
def yX4_scanWord : MethodName := ⟨RX4, "scanWord", "()V"⟩
abbrev cX4_scanInteger : ByteArray := prog_6_method_20_code
def yX4_scanInteger : MethodName := ⟨RX4, "scanInteger", "()V"⟩
def RX5 : String := "LevelNetwork$Tree"
def TX5 : u_T := fun k => match k with
  | 0 => ("LevelNetwork$Tree", "roots", "[I", true)
  | 1 => ("LevelNetwork$Tree", "upLines", "[I", true)
  | 2 => ("LevelNetwork$Tree", "upPoints", "[I", true)
  | 3 => ("LevelNetwork$Tree", "depths", "[I", true)
  | 4 => ("LevelNetwork$Tree", "queue", "[I", true)
  | 5 => ("LevelNetwork$Tree", "branches", "I", false)
  | _ => ("LevelNetwork$Tree", "parts", "I", false)
def tyX5 : Nat → FieldType := fun k => match k with
  | 0 => .array .int
  | 1 => .array .int
  | 2 => .array .int
  | 3 => .array .int
  | 4 => .array .int
  | 5 => .int
  | _ => .int
theorem nmX5 : ∀ a, a < 7 → ∀ b, b < 7 → a ≠ b → (TX5 a).2.1 ≠ (TX5 b).2.1 := by decide +kernel
theorem tyX5_ok : ∀ k, k < 7 → parseFieldDescriptor (TX5 k).2.2.1 = some (tyX5 k) := by decide +kernel
abbrev cX5_init : ByteArray := prog_7_method_1_code
def yX5_init : MethodName := ⟨RX5, "<init>", "()V"⟩
abbrev cX5_grow : ByteArray := prog_7_method_2_code
def yX5_grow : MethodName := ⟨RX5, "grow", "(LLevelNetwork$Network;I)V"⟩
abbrev cX5_spread : ByteArray := prog_7_method_3_code
def yX5_spread : MethodName := ⟨RX5, "spread", "(LLevelNetwork$Network;II)V"⟩
def RX6 : String := "LevelNetwork$Ways"
def TX6 : u_T := fun k => match k with
  | 0 => ("LevelNetwork$Ways", "far", "[I", true)
  | 1 => ("LevelNetwork$Ways", "lengths", "[I", true)
  | 2 => ("LevelNetwork$Ways", "lines", "I", false)
  | _ => ("LevelNetwork$Ways", "rise", "I", false)
def tyX6 : Nat → FieldType := fun k => match k with
  | 0 => .array .int
  | 1 => .array .int
  | 2 => .int
  | _ => .int
theorem nmX6 : ∀ a, a < 4 → ∀ b, b < 4 → a ≠ b → (TX6 a).2.1 ≠ (TX6 b).2.1 := by decide +kernel
theorem tyX6_ok : ∀ k, k < 4 → parseFieldDescriptor (TX6 k).2.2.1 = some (tyX6 k) := by decide +kernel
abbrev cX6_init : ByteArray := prog_8_method_1_code
def yX6_init : MethodName := ⟨RX6, "<init>", "()V"⟩
abbrev cX6_measure : ByteArray := prog_8_method_2_code
def yX6_measure : MethodName := ⟨RX6, "measure", "(LLevelNetwork$Network;I)V"⟩
abbrev cX6_shortenAll : ByteArray := prog_8_method_3_code
def yX6_shortenAll : MethodName := ⟨RX6, "shortenAll", "(LLevelNetwork$Network;)Z"⟩
abbrev cX6_shorten : ByteArray := prog_8_method_4_code
def yX6_shorten : MethodName := ⟨RX6, "shorten", "(III)Z"⟩
abbrev cX6_trace : ByteArray := prog_8_method_5_code
def yX6_trace : MethodName := ⟨RX6, "trace", "(LLevelNetwork$Network;II)V"⟩
abbrev cX6_lineBack : ByteArray := prog_8_method_6_code
def yX6_lineBack : MethodName := ⟨RX6, "lineBack", "(LLevelNetwork$Network;I)I"⟩
def RX7 : String := "LevelNetwork"
def TX7 : u_T := fun k => match k with
  | 0 => ("LevelNetwork", "reader", "LLevelNetwork$TextReader;", true)
  | 1 => ("LevelNetwork", "ways", "LLevelNetwork$Ways;", true)
  | 2 => ("LevelNetwork", "loops", "LLevelNetwork$Loops;", true)
  | 3 => ("LevelNetwork", "heights", "LLevelNetwork$Heights;", true)
  | 4 => ("LevelNetwork", "history", "LLevelNetwork$History;", true)
  | 5 => ("LevelNetwork", "net", "LLevelNetwork$Network;", false)
  | 6 => ("LevelNetwork", "draft", "LLevelNetwork$Network;", false)
  | _ => ("LevelNetwork", "errorAt", "I", false)
def tyX7 : Nat → FieldType := fun k => match k with
  | 0 => .object "LevelNetwork$TextReader"
  | 1 => .object "LevelNetwork$Ways"
  | 2 => .object "LevelNetwork$Loops"
  | 3 => .object "LevelNetwork$Heights"
  | 4 => .object "LevelNetwork$History"
  | 5 => .object "LevelNetwork$Network"
  | 6 => .object "LevelNetwork$Network"
  | _ => .int
theorem nmX7 : ∀ a, a < 8 → ∀ b, b < 8 → a ≠ b → (TX7 a).2.1 ≠ (TX7 b).2.1 := by decide +kernel
theorem tyX7_ok : ∀ k, k < 8 → parseFieldDescriptor (TX7 k).2.2.1 = some (tyX7 k) := by decide +kernel
abbrev cX7_init : ByteArray := prog_1_method_1_code
def yX7_init : MethodName := ⟨RX7, "<init>", "()V"⟩
abbrev cX7_feed : ByteArray := prog_1_method_2_code
def yX7_feed : MethodName := ⟨RX7, "feed", "(IIIII)I"⟩
abbrev cX7_load : ByteArray := prog_1_method_3_code
def yX7_load : MethodName := ⟨RX7, "load", "(I)I"⟩
abbrev cX7_heldAt : ByteArray := prog_1_method_15_code
def yX7_heldAt : MethodName := ⟨RX7, "heldAt", "(I)I"⟩
abbrev cX7_lineProperty : ByteArray := prog_1_method_16_code
def yX7_lineProperty : MethodName := ⟨RX7, "lineProperty", "(II)I"⟩
abbrev cX7_stepOf : ByteArray := prog_1_method_18_code
def yX7_stepOf : MethodName := ⟨RX7, "stepOf", "(II)I"⟩
abbrev cX7_riseOf : ByteArray := prog_1_method_19_code
def yX7_riseOf : MethodName := ⟨RX7, "riseOf", "(I)I"⟩
abbrev cX7_rootOf : ByteArray := prog_1_method_27_code
def yX7_rootOf : MethodName := ⟨RX7, "rootOf", "(I)I"⟩
abbrev cX7_partCount : ByteArray := prog_1_method_28_code
def yX7_partCount : MethodName := ⟨RX7, "partCount", "()I"⟩
abbrev cX7_distance : ByteArray := prog_1_method_29_code
def yX7_distance : MethodName := ⟨RX7, "distance", "(II)I"⟩
abbrev cX7_riseBetween : ByteArray := prog_1_method_30_code
def yX7_riseBetween : MethodName := ⟨RX7, "riseBetween", "(II)I"⟩
abbrev cX7_wayBetween : ByteArray := prog_1_method_31_code
def yX7_wayBetween : MethodName := ⟨RX7, "wayBetween", "(II)I"⟩
abbrev cX7_bridges : ByteArray := prog_1_method_32_code
def yX7_bridges : MethodName := ⟨RX7, "bridges", "()I"⟩
abbrev cX7_treeLines : ByteArray := prog_1_method_33_code
def yX7_treeLines : MethodName := ⟨RX7, "treeLines", "()I"⟩
abbrev cX7_loopCount : ByteArray := prog_1_method_34_code
def yX7_loopCount : MethodName := ⟨RX7, "loopCount", "()I"⟩
abbrev cX7_loopLine : ByteArray := prog_1_method_35_code
def yX7_loopLine : MethodName := ⟨RX7, "loopLine", "(II)I"⟩
abbrev cX7_loopLength : ByteArray := prog_1_method_36_code
def yX7_loopLength : MethodName := ⟨RX7, "loopLength", "(I)I"⟩
abbrev cX7_misclosure : ByteArray := prog_1_method_37_code
def yX7_misclosure : MethodName := ⟨RX7, "misclosure", "(I)I"⟩
abbrev cX7_allowed : ByteArray := prog_1_method_38_code
def yX7_allowed : MethodName := ⟨RX7, "allowed", "(I)I"⟩
abbrev cX7_badLoops : ByteArray := prog_1_method_39_code
def yX7_badLoops : MethodName := ⟨RX7, "badLoops", "()I"⟩
abbrev cX7_provisional : ByteArray := prog_1_method_44_code
def yX7_provisional : MethodName := ⟨RX7, "provisional", "(I)J"⟩
abbrev cX7_isAdjusted : ByteArray := prog_1_method_46_code
def yX7_isAdjusted : MethodName := ⟨RX7, "isAdjusted", "()Z"⟩
abbrev cX7_heightOf : ByteArray := prog_1_method_47_code
def yX7_heightOf : MethodName := ⟨RX7, "heightOf", "(I)J"⟩
abbrev cX7_residual : ByteArray := prog_1_method_48_code
def yX7_residual : MethodName := ⟨RX7, "residual", "(I)J"⟩
abbrev cX7_hold : ByteArray := prog_1_method_54_code
def yX7_hold : MethodName := ⟨RX7, "hold", "(II)I"⟩
abbrev cX7_release : ByteArray := prog_1_method_55_code
def yX7_release : MethodName := ⟨RX7, "release", "(I)I"⟩
abbrev cX7_setReading : ByteArray := prog_1_method_56_code
def yX7_setReading : MethodName := ⟨RX7, "setReading", "(IIII)I"⟩
abbrev cX7_addSetup : ByteArray := prog_1_method_57_code
def yX7_addSetup : MethodName := ⟨RX7, "addSetup", "(IIIII)I"⟩
abbrev cX7_setActive : ByteArray := prog_1_method_58_code
def yX7_setActive : MethodName := ⟨RX7, "setActive", "(IZ)I"⟩
abbrev cX7_setCollimation : ByteArray := prog_1_method_59_code
def yX7_setCollimation : MethodName := ⟨RX7, "setCollimation", "(II)I"⟩
abbrev cX7_adjust : ByteArray := prog_1_method_61_code
def yX7_adjust : MethodName := ⟨RX7, "adjust", "(I)I"⟩
abbrev cX7_changeCollimation : ByteArray := prog_1_method_64_code
def yX7_changeCollimation : MethodName := ⟨RX7, "changeCollimation", "(II)I"⟩
abbrev cX7_keepBefore : ByteArray := prog_1_method_65_code
def yX7_keepBefore : MethodName := ⟨RX7, "keepBefore", "(III)V"⟩
abbrev cX7_countLoops : ByteArray := prog_1_method_66_code
def yX7_countLoops : MethodName := ⟨RX7, "countLoops", "()I"⟩
abbrev cX7_isIndex : ByteArray := prog_1_method_67_code
def yX7_isIndex : MethodName := ⟨RX7, "isIndex", "(II)Z"⟩
abbrev cX7_needIndex : ByteArray := prog_1_method_68_code
def yX7_needIndex : MethodName := ⟨RX7, "needIndex", "(II)V"⟩
abbrev cX7_needLoop : ByteArray := prog_1_method_69_code
def yX7_needLoop : MethodName := ⟨RX7, "needLoop", "(I)V"⟩
abbrev cX7_fits : ByteArray := prog_1_method_70_code
def yX7_fits : MethodName := ⟨RX7, "fits", "(II)Z"⟩
def RX8 : String := "LevelNetworkLaw$Net"
def TX8 : u_T := fun k => match k with
  | 0 => ("LevelNetworkLaw$Net", "o", "LLevelNetwork;", true)
  | 1 => ("LevelNetworkLaw$Net", "points", "I", true)
  | 2 => ("LevelNetworkLaw$Net", "lines", "I", true)
  | 3 => ("LevelNetworkLaw$Net", "collimation", "[I", true)
  | 4 => ("LevelNetworkLaw$Net", "held", "[I", true)
  | 5 => ("LevelNetworkLaw$Net", "ends", "[[I", true)
  | 6 => ("LevelNetworkLaw$Net", "levels", "[I", true)
  | 7 => ("LevelNetworkLaw$Net", "active", "[Z", true)
  | 8 => ("LevelNetworkLaw$Net", "setups", "Ljava/util/ArrayList;", true)
  | 9 => ("LevelNetworkLaw$Net", "settings", "[I", true)
  | 10 => ("LevelNetworkLaw$Net", "heights", "[J", false)
  | _ => ("LevelNetworkLaw$Net", "isRead", "Z", false)
def tyX8 : Nat → FieldType := fun k => match k with
  | 0 => .object "LevelNetwork"
  | 1 => .int
  | 2 => .int
  | 3 => .array .int
  | 4 => .array .int
  | 5 => .array (.array .int)
  | 6 => .array .int
  | 7 => .array .boolean
  | 8 => .object "java/util/ArrayList"
  | 9 => .array .int
  | 10 => .array .long
  | _ => .boolean
theorem nmX8 : ∀ a, a < 12 → ∀ b, b < 12 → a ≠ b → (TX8 a).2.1 ≠ (TX8 b).2.1 := by decide +kernel
theorem tyX8_ok : ∀ k, k < 12 → parseFieldDescriptor (TX8 k).2.2.1 = some (tyX8 k) := by decide +kernel
abbrev cX8_init : ByteArray := prog_10_method_1_code
def yX8_init : MethodName := ⟨RX8, "<init>", "([I)V"⟩
abbrev cX8_line : ByteArray := prog_10_method_2_code
def yX8_line : MethodName := ⟨RX8, "line", "(II)Ljava/lang/String;"⟩
abbrev cX8_put : ByteArray := prog_10_method_3_code
def yX8_put : MethodName := ⟨RX8, "put", "(Ljava/lang/String;)V"⟩
abbrev cX8_rise : ByteArray := prog_10_method_4_code
def yX8_rise : MethodName := ⟨RX8, "rise", "(I)I"⟩
abbrev cX8_length : ByteArray := prog_10_method_5_code
def yX8_length : MethodName := ⟨RX8, "length", "(I)I"⟩
abbrev cX8_distances : ByteArray := prog_10_method_6_code
def yX8_distances : MethodName := ⟨RX8, "distances", "(I)[[I"⟩
abbrev cX8_areLines : ByteArray := prog_10_method_7_code
def yX8_areLines : MethodName := ⟨RX8, "areLines", "()Z"⟩
abbrev cX8_areWays : ByteArray := prog_10_method_8_code
def yX8_areWays : MethodName := ⟨RX8, "areWays", "()Z"⟩
abbrev cX8_isWay : ByteArray := prog_10_method_9_code
def yX8_isWay : MethodName := ⟨RX8, "isWay", "(II[[I)Z"⟩
abbrev cX8_areLoops : ByteArray := prog_10_method_10_code
def yX8_areLoops : MethodName := ⟨RX8, "areLoops", "()Z"⟩
abbrev cX8_provisional : ByteArray := prog_10_method_11_code
def yX8_provisional : MethodName := ⟨RX8, "provisional", "()[J"⟩
abbrev cX8_adjusts : ByteArray := prog_10_method_12_code
def yX8_adjusts : MethodName := ⟨RX8, "adjusts", "(I)I"⟩
abbrev cX8_areHeights : ByteArray := prog_10_method_13_code
def yX8_areHeights : MethodName := ⟨RX8, "areHeights", "()Z"⟩
abbrev cX8_isSame : ByteArray := prog_10_method_14_code
def yX8_isSame : MethodName := ⟨RX8, "isSame", "()Z"⟩
abbrev cX8_does : ByteArray := prog_10_method_15_code
def yX8_does : MethodName := ⟨RX8, "does", "(I)Z"⟩
abbrev cX8_restores : ByteArray := prog_10_method_16_code
def yX8_restores : MethodName := ⟨RX8, "restores", "()Z"⟩
def RX9 : String := "LevelNetworkModel"
def TX9 : u_T := fun k => match k with
  | _ => ("", "", "", false)
def tyX9 : Nat → FieldType := fun k => match k with
  | _ => .int
theorem nmX9 : ∀ a, a < 0 → ∀ b, b < 0 → a ≠ b → (TX9 a).2.1 ≠ (TX9 b).2.1 := by decide +kernel
theorem tyX9_ok : ∀ k, k < 0 → parseFieldDescriptor (TX9 k).2.2.1 = some (tyX9 k) := by decide +kernel
def RJx145de : String := "java/io/Serializable"
def TJx145de : u_T := fun k => match k with
  | _ => ("", "", "", false)
def tyJx145de : Nat → FieldType := fun k => match k with
  | _ => .int
theorem nmJx145de : ∀ a, a < 0 → ∀ b, b < 0 → a ≠ b → (TJx145de a).2.1 ≠ (TJx145de b).2.1 := by decide +kernel
theorem tyJx145de_ok : ∀ k, k < 0 → parseFieldDescriptor (TJx145de k).2.2.1 = some (tyJx145de k) := by decide +kernel
def RJ5 : String := "java/lang/AbstractStringBuilder"
def TJ5 : u_T := fun k => match k with
  | _ => ("", "", "", false)
def tyJ5 : Nat → FieldType := fun k => match k with
  | _ => .int
theorem nmJ5 : ∀ a, a < 0 → ∀ b, b < 0 → a ≠ b → (TJ5 a).2.1 ≠ (TJ5 b).2.1 := by decide +kernel
theorem tyJ5_ok : ∀ k, k < 0 → parseFieldDescriptor (TJ5 k).2.2.1 = some (tyJ5 k) := by decide +kernel
abbrev cJ5_init_d00df : ByteArray := prog_13_method_2_code
def yJ5_init_d00df : MethodName := ⟨RJ5, "<init>", "(I)V"⟩
abbrev cJ5_length_8abf5 : ByteArray := prog_13_method_6_code
def yJ5_length_8abf5 : MethodName := ⟨RJ5, "length", "()I"⟩
abbrev cJ5_ensureCapacityInternal_d00df : ByteArray := prog_13_method_9_code
def yJ5_ensureCapacityInternal_d00df : MethodName := ⟨RJ5, "ensureCapacityInternal", "(I)V"⟩
abbrev cJ5_newCapacity_0f7a4 : ByteArray := prog_13_method_10_code
def yJ5_newCapacity_0f7a4 : MethodName := ⟨RJ5, "newCapacity", "(I)I"⟩
abbrev cJ5_inflate_da8c8 : ByteArray := prog_13_method_11_code
def yJ5_inflate_da8c8 : MethodName := ⟨RJ5, "inflate", "()V"⟩
abbrev cJ5_append_cf1ce : ByteArray := prog_13_method_22_code
def yJ5_append_cf1ce : MethodName := ⟨RJ5, "append", "(Ljava/lang/String;)Ljava/lang/AbstractStringBuilder;"⟩
abbrev cJ5_appendNull_278bc : ByteArray := prog_13_method_26_code
def yJ5_appendNull_278bc : MethodName := ⟨RJ5, "appendNull", "()Ljava/lang/AbstractStringBuilder;"⟩
abbrev cJ5_append_3fe6f : ByteArray := prog_13_method_31_code
def yJ5_append_3fe6f : MethodName := ⟨RJ5, "append", "(C)Ljava/lang/AbstractStringBuilder;"⟩
abbrev cJ5_append_c97b9 : ByteArray := prog_13_method_32_code
def yJ5_append_c97b9 : MethodName := ⟨RJ5, "append", "(I)Ljava/lang/AbstractStringBuilder;"⟩
abbrev cJ5_getValue_6d5f1 : ByteArray := prog_13_method_64_code
def yJ5_getValue_6d5f1 : MethodName := ⟨RJ5, "getValue", "()[B"⟩
abbrev cJ5_isLatin1_aae02 : ByteArray := prog_13_method_68_code
def yJ5_isLatin1_aae02 : MethodName := ⟨RJ5, "isLatin1", "()Z"⟩
abbrev cJ5_inflateIfNeededFor_a7421 : ByteArray := prog_13_method_71_code
def yJ5_inflateIfNeededFor_a7421 : MethodName := ⟨RJ5, "inflateIfNeededFor", "(Ljava/lang/String;)V"⟩
abbrev cJ5_putStringAt_47b60 : ByteArray := prog_13_method_73_code
def yJ5_putStringAt_47b60 : MethodName := ⟨RJ5, "putStringAt", "(ILjava/lang/String;)V"⟩
def RJx2cfe8 : String := "java/lang/Appendable"
def TJx2cfe8 : u_T := fun k => match k with
  | _ => ("", "", "", false)
def tyJx2cfe8 : Nat → FieldType := fun k => match k with
  | _ => .int
theorem nmJx2cfe8 : ∀ a, a < 0 → ∀ b, b < 0 → a ≠ b → (TJx2cfe8 a).2.1 ≠ (TJx2cfe8 b).2.1 := by decide +kernel
theorem tyJx2cfe8_ok : ∀ k, k < 0 → parseFieldDescriptor (TJx2cfe8 k).2.2.1 = some (tyJx2cfe8 k) := by decide +kernel
def RJx9f9b0 : String := "java/lang/CharSequence"
def TJx9f9b0 : u_T := fun k => match k with
  | _ => ("", "", "", false)
def tyJx9f9b0 : Nat → FieldType := fun k => match k with
  | _ => .int
theorem nmJx9f9b0 : ∀ a, a < 0 → ∀ b, b < 0 → a ≠ b → (TJx9f9b0 a).2.1 ≠ (TJx9f9b0 b).2.1 := by decide +kernel
theorem tyJx9f9b0_ok : ∀ k, k < 0 → parseFieldDescriptor (TJx9f9b0 k).2.2.1 = some (tyJx9f9b0 k) := by decide +kernel
def RJx8e188 : String := "java/lang/Cloneable"
def TJx8e188 : u_T := fun k => match k with
  | _ => ("", "", "", false)
def tyJx8e188 : Nat → FieldType := fun k => match k with
  | _ => .int
theorem nmJx8e188 : ∀ a, a < 0 → ∀ b, b < 0 → a ≠ b → (TJx8e188 a).2.1 ≠ (TJx8e188 b).2.1 := by decide +kernel
theorem tyJx8e188_ok : ∀ k, k < 0 → parseFieldDescriptor (TJx8e188 k).2.2.1 = some (tyJx8e188 k) := by decide +kernel
def RJxb160c : String := "java/lang/Comparable"
def TJxb160c : u_T := fun k => match k with
  | _ => ("", "", "", false)
def tyJxb160c : Nat → FieldType := fun k => match k with
  | _ => .int
theorem nmJxb160c : ∀ a, a < 0 → ∀ b, b < 0 → a ≠ b → (TJxb160c a).2.1 ≠ (TJxb160c b).2.1 := by decide +kernel
theorem tyJxb160c_ok : ∀ k, k < 0 → parseFieldDescriptor (TJxb160c k).2.2.1 = some (tyJxb160c k) := by decide +kernel
def RJxabbfe : String := "java/lang/Integer$IntegerCache"
def TJxabbfe : u_T := fun k => match k with
  | _ => ("", "", "", false)
def tyJxabbfe : Nat → FieldType := fun k => match k with
  | _ => .int
theorem nmJxabbfe : ∀ a, a < 0 → ∀ b, b < 0 → a ≠ b → (TJxabbfe a).2.1 ≠ (TJxabbfe b).2.1 := by decide +kernel
theorem tyJxabbfe_ok : ∀ k, k < 0 → parseFieldDescriptor (TJxabbfe k).2.2.1 = some (tyJxabbfe k) := by decide +kernel
def RJ6 : String := "java/lang/Integer"
def TJ6 : u_T := fun k => match k with
  | _ => ("java/lang/Integer", "value", "I", true)
def tyJ6 : Nat → FieldType := fun k => match k with
  | _ => .int
theorem nmJ6 : ∀ a, a < 1 → ∀ b, b < 1 → a ≠ b → (TJ6 a).2.1 ≠ (TJ6 b).2.1 := by decide +kernel
theorem tyJ6_ok : ∀ k, k < 1 → parseFieldDescriptor (TJ6 k).2.2.1 = some (tyJ6 k) := by decide +kernel
abbrev cJ6_getChars_ba4f3 : ByteArray := prog_20_method_12_code
def yJ6_getChars_ba4f3 : MethodName := ⟨RJ6, "getChars", "(II[B)I"⟩
abbrev cJ6_stringSize_0f7a4 : ByteArray := prog_20_method_13_code
def yJ6_stringSize_0f7a4 : MethodName := ⟨RJ6, "stringSize", "(I)I"⟩
abbrev cJ6_valueOf_2dffe : ByteArray := prog_20_method_22_code
def yJ6_valueOf_2dffe : MethodName := ⟨RJ6, "valueOf", "(I)Ljava/lang/Integer;"⟩
abbrev cJ6_init_d00df : ByteArray := prog_20_method_23_code
def yJ6_init_d00df : MethodName := ⟨RJ6, "<init>", "(I)V"⟩
abbrev cJ6_intValue_8abf5 : ByteArray := prog_20_method_27_code
def yJ6_intValue_8abf5 : MethodName := ⟨RJ6, "intValue", "()I"⟩
abbrev cJ6_bitCount_0f7a4 : ByteArray := prog_20_method_49_code
def yJ6_bitCount_0f7a4 : MethodName := ⟨RJ6, "bitCount", "(I)I"⟩
def RJxab1ab : String := "java/lang/Iterable"
def TJxab1ab : u_T := fun k => match k with
  | _ => ("", "", "", false)
def tyJxab1ab : Nat → FieldType := fun k => match k with
  | _ => .int
theorem nmJxab1ab : ∀ a, a < 0 → ∀ b, b < 0 → a ≠ b → (TJxab1ab a).2.1 ≠ (TJxab1ab b).2.1 := by decide +kernel
theorem tyJxab1ab_ok : ∀ k, k < 0 → parseFieldDescriptor (TJxab1ab k).2.2.1 = some (tyJxab1ab k) := by decide +kernel
def RJ9 : String := "java/lang/Math"
def TJ9 : u_T := fun k => match k with
  | _ => ("", "", "", false)
def tyJ9 : Nat → FieldType := fun k => match k with
  | _ => .int
theorem nmJ9 : ∀ a, a < 0 → ∀ b, b < 0 → a ≠ b → (TJ9 a).2.1 ≠ (TJ9 b).2.1 := by decide +kernel
theorem tyJ9_ok : ∀ k, k < 0 → parseFieldDescriptor (TJ9 k).2.2.1 = some (tyJ9 k) := by decide +kernel
abbrev cJ9_floorDiv_f86c9 : ByteArray := prog_23_method_49_code
def yJ9_floorDiv_f86c9 : MethodName := ⟨RJ9, "floorDiv", "(JJ)J"⟩
abbrev cJ9_abs_0f7a4 : ByteArray := prog_23_method_59_code
def yJ9_abs_0f7a4 : MethodName := ⟨RJ9, "abs", "(I)I"⟩
abbrev cJ9_max_7cf53 : ByteArray := prog_23_method_65_code
def yJ9_max_7cf53 : MethodName := ⟨RJ9, "max", "(II)I"⟩
abbrev cJ9_min_7cf53 : ByteArray := prog_23_method_69_code
def yJ9_min_7cf53 : MethodName := ⟨RJ9, "min", "(II)I"⟩
def RJxd2413 : String := "java/lang/Number"
def TJxd2413 : u_T := fun k => match k with
  | _ => ("", "", "", false)
def tyJxd2413 : Nat → FieldType := fun k => match k with
  | _ => .int
theorem nmJxd2413 : ∀ a, a < 0 → ∀ b, b < 0 → a ≠ b → (TJxd2413 a).2.1 ≠ (TJxd2413 b).2.1 := by decide +kernel
theorem tyJxd2413_ok : ∀ k, k < 0 → parseFieldDescriptor (TJxd2413 k).2.2.1 = some (tyJxd2413 k) := by decide +kernel
abbrev cJxd2413_init_da8c8 : ByteArray := prog_24_method_1_code
def yJxd2413_init_da8c8 : MethodName := ⟨RJxd2413, "<init>", "()V"⟩
def RJ0 : String := "java/lang/String"
def TJ0 : u_T := fun k => match k with
  | 0 => ("java/lang/String", "value", "[B", true)
  | 1 => ("java/lang/String", "coder", "B", true)
  | 2 => ("java/lang/String", "hash", "I", false)
  | _ => ("java/lang/String", "hashIsZero", "Z", false)
def tyJ0 : Nat → FieldType := fun k => match k with
  | 0 => .array .byte
  | 1 => .byte
  | 2 => .int
  | _ => .boolean
theorem nmJ0 : ∀ a, a < 4 → ∀ b, b < 4 → a ≠ b → (TJ0 a).2.1 ≠ (TJ0 b).2.1 := by decide +kernel
theorem tyJ0_ok : ∀ k, k < 4 → parseFieldDescriptor (TJ0 k).2.2.1 = some (tyJ0 k) := by decide +kernel
abbrev cJ0_init_81219 : ByteArray := prog_26_method_53_code
def yJ0_init_81219 : MethodName := ⟨RJ0, "<init>", "(Ljava/lang/StringBuilder;)V"⟩
abbrev cJ0_length_8abf5 : ByteArray := prog_26_method_54_code
def yJ0_length_8abf5 : MethodName := ⟨RJ0, "length", "()I"⟩
abbrev cJ0_charAt_5068e : ByteArray := prog_26_method_56_code
def yJ0_charAt_5068e : MethodName := ⟨RJ0, "charAt", "(I)C"⟩
abbrev cJ0_getBytes_840e7 : ByteArray := prog_26_method_147_code
def yJ0_getBytes_840e7 : MethodName := ⟨RJ0, "getBytes", "([BIB)V"⟩
abbrev cJ0_init_db425 : ByteArray := prog_26_method_150_code
def yJ0_init_db425 : MethodName := ⟨RJ0, "<init>", "(Ljava/lang/AbstractStringBuilder;Ljava/lang/Void;)V"⟩
abbrev cJ0_coder_7d493 : ByteArray := prog_26_method_152_code
def yJ0_coder_7d493 : MethodName := ⟨RJ0, "coder", "()B"⟩
abbrev cJ0_isLatin1_aae02 : ByteArray := prog_26_method_154_code
def yJ0_isLatin1_aae02 : MethodName := ⟨RJ0, "isLatin1", "()Z"⟩
abbrev cJ0_checkIndex_df160 : ByteArray := prog_26_method_155_code
def yJ0_checkIndex_df160 : MethodName := ⟨RJ0, "checkIndex", "(II)V"⟩
abbrev cJ0_checkBoundsOffCount_cabcc : ByteArray := prog_26_method_157_code
def yJ0_checkBoundsOffCount_cabcc : MethodName := ⟨RJ0, "checkBoundsOffCount", "(III)I"⟩
abbrev cJ0_checkBoundsBeginEnd_23922 : ByteArray := prog_26_method_158_code
def yJ0_checkBoundsBeginEnd_23922 : MethodName := ⟨RJ0, "checkBoundsBeginEnd", "(III)V"⟩
def RJ4 : String := "java/lang/StringBuilder"
def TJ4 : u_T := fun k => match k with
  | 0 => ("java/lang/AbstractStringBuilder", "value", "[B", false)
  | 1 => ("java/lang/AbstractStringBuilder", "coder", "B", false)
  | 2 => ("java/lang/AbstractStringBuilder", "maybeLatin1", "Z", false)
  | _ => ("java/lang/AbstractStringBuilder", "count", "I", false)
def tyJ4 : Nat → FieldType := fun k => match k with
  | 0 => .array .byte
  | 1 => .byte
  | 2 => .boolean
  | _ => .int
theorem nmJ4 : ∀ a, a < 4 → ∀ b, b < 4 → a ≠ b → (TJ4 a).2.1 ≠ (TJ4 b).2.1 := by decide +kernel
theorem tyJ4_ok : ∀ k, k < 4 → parseFieldDescriptor (TJ4 k).2.2.1 = some (tyJ4 k) := by decide +kernel
abbrev cJ4_init_da8c8 : ByteArray := prog_27_method_1_code
def yJ4_init_da8c8 : MethodName := ⟨RJ4, "<init>", "()V"⟩
abbrev cJ4_append_15ec4 : ByteArray := prog_27_method_7_code
def yJ4_append_15ec4 : MethodName := ⟨RJ4, "append", "(Ljava/lang/String;)Ljava/lang/StringBuilder;"⟩
abbrev cJ4_append_cf468 : ByteArray := prog_27_method_14_code
def yJ4_append_cf468 : MethodName := ⟨RJ4, "append", "(C)Ljava/lang/StringBuilder;"⟩
abbrev cJ4_append_bf812 : ByteArray := prog_27_method_15_code
def yJ4_append_bf812 : MethodName := ⟨RJ4, "append", "(I)Ljava/lang/StringBuilder;"⟩
abbrev cJ4_toString_0e30d : ByteArray := prog_27_method_42_code
def yJ4_toString_0e30d : MethodName := ⟨RJ4, "toString", "()Ljava/lang/String;"⟩
abbrev cJ4_length_8abf5 : ByteArray := prog_27_method_93_code
def yJ4_length_8abf5 : MethodName := ⟨RJ4, "length", "()I"⟩
def RJ1 : String := "java/lang/StringLatin1"
def TJ1 : u_T := fun k => match k with
  | _ => ("", "", "", false)
def tyJ1 : Nat → FieldType := fun k => match k with
  | _ => .int
theorem nmJ1 : ∀ a, a < 0 → ∀ b, b < 0 → a ≠ b → (TJ1 a).2.1 ≠ (TJ1 b).2.1 := by decide +kernel
theorem tyJ1_ok : ∀ k, k < 0 → parseFieldDescriptor (TJ1 k).2.2.1 = some (tyJ1 k) := by decide +kernel
abbrev cJ1_charAt_3b067 : ByteArray := prog_28_method_2_code
def yJ1_charAt_3b067 : MethodName := ⟨RJ1, "charAt", "([BI)C"⟩
abbrev cJ1_canEncode_fc78d : ByteArray := prog_28_method_3_code
def yJ1_canEncode_fc78d : MethodName := ⟨RJ1, "canEncode", "(C)Z"⟩
abbrev cJ1_inflate_0e8fd : ByteArray := prog_28_method_50_code
def yJ1_inflate_0e8fd : MethodName := ⟨RJ1, "inflate", "([BI[BII)V"⟩
def RJ2 : String := "java/lang/StringUTF16"
def TJ2 : u_T := fun k => match k with
  | _ => ("", "", "", false)
def tyJ2 : Nat → FieldType := fun k => match k with
  | _ => .int
theorem nmJ2 : ∀ a, a < 0 → ∀ b, b < 0 → a ≠ b → (TJ2 a).2.1 ≠ (TJ2 b).2.1 := by decide +kernel
theorem tyJ2_ok : ∀ k, k < 0 → parseFieldDescriptor (TJ2 k).2.2.1 = some (tyJ2 k) := by decide +kernel
abbrev cJ2_newBytesFor_77867 : ByteArray := prog_29_method_2_code
def yJ2_newBytesFor_77867 : MethodName := ⟨RJ2, "newBytesFor", "(I)[B"⟩
abbrev cJ2_newBytesLength_0f7a4 : ByteArray := prog_29_method_3_code
def yJ2_newBytesLength_0f7a4 : MethodName := ⟨RJ2, "newBytesLength", "(I)I"⟩
abbrev cJ2_putChar_b72d1 : ByteArray := prog_29_method_4_code
def yJ2_putChar_b72d1 : MethodName := ⟨RJ2, "putChar", "([BII)V"⟩
abbrev cJ2_getChar_3b067 : ByteArray := prog_29_method_5_code
def yJ2_getChar_3b067 : MethodName := ⟨RJ2, "getChar", "([BI)C"⟩
abbrev cJ2_length_9d52b : ByteArray := prog_29_method_6_code
def yJ2_length_9d52b : MethodName := ⟨RJ2, "length", "([B)I"⟩
abbrev cJ2_coderFromArrayLen_85cad : ByteArray := prog_29_method_15_code
def yJ2_coderFromArrayLen_85cad : MethodName := ⟨RJ2, "coderFromArrayLen", "([BI)B"⟩
abbrev cJ2_compress_39247 : ByteArray := prog_29_method_17_code
def yJ2_compress_39247 : MethodName := ⟨RJ2, "compress", "([BII)[B"⟩
abbrev cJ2_compress_5af95 : ByteArray := prog_29_method_22_code
def yJ2_compress_5af95 : MethodName := ⟨RJ2, "compress", "([BI[BII)I"⟩
abbrev cJ2_putCharSB_b72d1 : ByteArray := prog_29_method_71_code
def yJ2_putCharSB_b72d1 : MethodName := ⟨RJ2, "putCharSB", "([BII)V"⟩
abbrev cJ2_getChars_46870 : ByteArray := prog_29_method_77_code
def yJ2_getChars_46870 : MethodName := ⟨RJ2, "getChars", "(III[B)I"⟩
abbrev cJ2_putCharsAt_cd4e5 : ByteArray := prog_29_method_81_code
def yJ2_putCharsAt_cd4e5 : MethodName := ⟨RJ2, "putCharsAt", "([BICCCC)I"⟩
abbrev cJ2_charAt_3b067 : ByteArray := prog_29_method_83_code
def yJ2_charAt_3b067 : MethodName := ⟨RJ2, "charAt", "([BI)C"⟩
abbrev cJ2_inflate_0e8fd : ByteArray := prog_29_method_86_code
def yJ2_inflate_0e8fd : MethodName := ⟨RJ2, "inflate", "([BI[BII)V"⟩
abbrev cJ2_getChars_ba4f3 : ByteArray := prog_29_method_89_code
def yJ2_getChars_ba4f3 : MethodName := ⟨RJ2, "getChars", "(II[B)I"⟩
abbrev cJ2_checkIndex_2214a : ByteArray := prog_29_method_91_code
def yJ2_checkIndex_2214a : MethodName := ⟨RJ2, "checkIndex", "(I[B)V"⟩
abbrev cJ2_checkBoundsBeginEnd_d044e : ByteArray := prog_29_method_93_code
def yJ2_checkBoundsBeginEnd_d044e : MethodName := ⟨RJ2, "checkBoundsBeginEnd", "(II[B)V"⟩
abbrev cJ2_checkBoundsOffCount_d044e : ByteArray := prog_29_method_94_code
def yJ2_checkBoundsOffCount_d044e : MethodName := ⟨RJ2, "checkBoundsOffCount", "(II[B)V"⟩
def RJ10 : String := "java/lang/System"
def TJ10 : u_T := fun k => match k with
  | _ => ("", "", "", false)
def tyJ10 : Nat → FieldType := fun k => match k with
  | _ => .int
theorem nmJ10 : ∀ a, a < 0 → ∀ b, b < 0 → a ≠ b → (TJ10 a).2.1 ≠ (TJ10 b).2.1 := by decide +kernel
theorem tyJ10_ok : ∀ k, k < 0 → parseFieldDescriptor (TJ10 k).2.2.1 = some (tyJ10 k) := by decide +kernel
def RJxfd54e : String := "java/lang/constant/Constable"
def TJxfd54e : u_T := fun k => match k with
  | _ => ("", "", "", false)
def tyJxfd54e : Nat → FieldType := fun k => match k with
  | _ => .int
theorem nmJxfd54e : ∀ a, a < 0 → ∀ b, b < 0 → a ≠ b → (TJxfd54e a).2.1 ≠ (TJxfd54e b).2.1 := by decide +kernel
theorem tyJxfd54e_ok : ∀ k, k < 0 → parseFieldDescriptor (TJxfd54e k).2.2.1 = some (tyJxfd54e k) := by decide +kernel
def RJx3cf43 : String := "java/lang/constant/ConstantDesc"
def TJx3cf43 : u_T := fun k => match k with
  | _ => ("", "", "", false)
def tyJx3cf43 : Nat → FieldType := fun k => match k with
  | _ => .int
theorem nmJx3cf43 : ∀ a, a < 0 → ∀ b, b < 0 → a ≠ b → (TJx3cf43 a).2.1 ≠ (TJx3cf43 b).2.1 := by decide +kernel
theorem tyJx3cf43_ok : ∀ k, k < 0 → parseFieldDescriptor (TJx3cf43 k).2.2.1 = some (tyJx3cf43 k) := by decide +kernel
def RJxa1e45 : String := "java/util/AbstractCollection"
def TJxa1e45 : u_T := fun k => match k with
  | _ => ("", "", "", false)
def tyJxa1e45 : Nat → FieldType := fun k => match k with
  | _ => .int
theorem nmJxa1e45 : ∀ a, a < 0 → ∀ b, b < 0 → a ≠ b → (TJxa1e45 a).2.1 ≠ (TJxa1e45 b).2.1 := by decide +kernel
theorem tyJxa1e45_ok : ∀ k, k < 0 → parseFieldDescriptor (TJxa1e45 k).2.2.1 = some (tyJxa1e45 k) := by decide +kernel
abbrev cJxa1e45_init_da8c8 : ByteArray := prog_34_method_1_code
def yJxa1e45_init_da8c8 : MethodName := ⟨RJxa1e45, "<init>", "()V"⟩
def RJxc12de : String := "java/util/AbstractList"
def TJxc12de : u_T := fun k => match k with
  | _ => ("", "", "", false)
def tyJxc12de : Nat → FieldType := fun k => match k with
  | _ => .int
theorem nmJxc12de : ∀ a, a < 0 → ∀ b, b < 0 → a ≠ b → (TJxc12de a).2.1 ≠ (TJxc12de b).2.1 := by decide +kernel
theorem tyJxc12de_ok : ∀ k, k < 0 → parseFieldDescriptor (TJxc12de k).2.2.1 = some (tyJxc12de k) := by decide +kernel
abbrev cJxc12de_init_da8c8 : ByteArray := prog_35_method_1_code
def yJxc12de_init_da8c8 : MethodName := ⟨RJxc12de, "<init>", "()V"⟩
def RX10 : String := "java/util/ArrayDeque"
def TX10 : u_T := fun k => match k with
  | 0 => ("java/util/ArrayDeque", "elements", "[Ljava/lang/Object;", false)
  | 1 => ("java/util/ArrayDeque", "head", "I", false)
  | _ => ("java/util/ArrayDeque", "tail", "I", false)
def tyX10 : Nat → FieldType := fun k => match k with
  | 0 => .array (.object "java/lang/Object")
  | 1 => .int
  | _ => .int
theorem nmX10 : ∀ a, a < 3 → ∀ b, b < 3 → a ≠ b → (TX10 a).2.1 ≠ (TX10 b).2.1 := by decide +kernel
theorem tyX10_ok : ∀ k, k < 3 → parseFieldDescriptor (TX10 k).2.2.1 = some (tyX10 k) := by decide +kernel
abbrev cX10_grow : ByteArray := prog_36_method_1_code
def yX10_grow : MethodName := ⟨RX10, "grow", "(I)V"⟩
abbrev cX10_newCapacity : ByteArray := prog_36_method_2_code
def yX10_newCapacity : MethodName := ⟨RX10, "newCapacity", "(II)I"⟩
abbrev cX10_init : ByteArray := prog_36_method_3_code
def yX10_init : MethodName := ⟨RX10, "<init>", "()V"⟩
abbrev cX10_inc : ByteArray := prog_36_method_6_code
def yX10_inc : MethodName := ⟨RX10, "inc", "(II)I"⟩
abbrev cX10_elementAt : ByteArray := prog_36_method_10_code
def yX10_elementAt : MethodName := ⟨RX10, "elementAt", "([Ljava/lang/Object;I)Ljava/lang/Object;"⟩
abbrev cX10_addLast : ByteArray := prog_36_method_13_code
def yX10_addLast : MethodName := ⟨RX10, "addLast", "(Ljava/lang/Object;)V"⟩
abbrev cX10_pollFirst : ByteArray := prog_36_method_20_code
def yX10_pollFirst : MethodName := ⟨RX10, "pollFirst", "()Ljava/lang/Object;"⟩
abbrev cX10_isEmpty : ByteArray := prog_36_method_38_code
def yX10_isEmpty : MethodName := ⟨RX10, "isEmpty", "()Z"⟩
def RJx35411 : String := "java/util/ArrayList$Itr"
def TJx35411 : u_T := fun k => match k with
  | 0 => ("java/util/ArrayList$Itr", "cursor", "I", false)
  | 1 => ("java/util/ArrayList$Itr", "lastRet", "I", false)
  | 2 => ("java/util/ArrayList$Itr", "expectedModCount", "I", false)
  | _ => ("java/util/ArrayList$Itr", "this$0", "Ljava/util/ArrayList;", true)
def tyJx35411 : Nat → FieldType := fun k => match k with
  | 0 => .int
  | 1 => .int
  | 2 => .int
  | _ => .object "java/util/ArrayList"
theorem nmJx35411 : ∀ a, a < 4 → ∀ b, b < 4 → a ≠ b → (TJx35411 a).2.1 ≠ (TJx35411 b).2.1 := by decide +kernel
theorem tyJx35411_ok : ∀ k, k < 4 → parseFieldDescriptor (TJx35411 k).2.2.1 = some (tyJx35411 k) := by decide +kernel
abbrev cJx35411_init_45d68 : ByteArray := prog_38_method_1_code
def yJx35411_init_45d68 : MethodName := ⟨RJx35411, "<init>", "(Ljava/util/ArrayList;)V"⟩
abbrev cJx35411_hasNext_aae02 : ByteArray := prog_38_method_2_code
def yJx35411_hasNext_aae02 : MethodName := ⟨RJx35411, "hasNext", "()Z"⟩
abbrev cJx35411_next_0502b : ByteArray := prog_38_method_3_code
def yJx35411_next_0502b : MethodName := ⟨RJx35411, "next", "()Ljava/lang/Object;"⟩
abbrev cJx35411_checkForComodification_da8c8 : ByteArray := prog_38_method_6_code
def yJx35411_checkForComodification_da8c8 : MethodName := ⟨RJx35411, "checkForComodification", "()V"⟩
def RJx4a65c : String := "java/util/ArrayList"
def TJx4a65c : u_T := fun k => match k with
  | 0 => ("java/util/AbstractList", "modCount", "I", false)
  | 1 => ("java/util/ArrayList", "elementData", "[Ljava/lang/Object;", false)
  | _ => ("java/util/ArrayList", "size", "I", false)
def tyJx4a65c : Nat → FieldType := fun k => match k with
  | 0 => .int
  | 1 => .array (.object "java/lang/Object")
  | _ => .int
theorem nmJx4a65c : ∀ a, a < 3 → ∀ b, b < 3 → a ≠ b → (TJx4a65c a).2.1 ≠ (TJx4a65c b).2.1 := by decide +kernel
theorem tyJx4a65c_ok : ∀ k, k < 3 → parseFieldDescriptor (TJx4a65c k).2.2.1 = some (tyJx4a65c k) := by decide +kernel
abbrev cJx4a65c_init_da8c8 : ByteArray := prog_37_method_2_code
def yJx4a65c_init_da8c8 : MethodName := ⟨RJx4a65c, "<init>", "()V"⟩
abbrev cJx4a65c_grow_92f84 : ByteArray := prog_37_method_6_code
def yJx4a65c_grow_92f84 : MethodName := ⟨RJx4a65c, "grow", "(I)[Ljava/lang/Object;"⟩
abbrev cJx4a65c_grow_d5877 : ByteArray := prog_37_method_7_code
def yJx4a65c_grow_d5877 : MethodName := ⟨RJx4a65c, "grow", "()[Ljava/lang/Object;"⟩
abbrev cJx4a65c_size_8abf5 : ByteArray := prog_37_method_8_code
def yJx4a65c_size_8abf5 : MethodName := ⟨RJx4a65c, "size", "()I"⟩
abbrev cJx4a65c_elementData_915e3 : ByteArray := prog_37_method_18_code
def yJx4a65c_elementData_915e3 : MethodName := ⟨RJx4a65c, "elementData", "(I)Ljava/lang/Object;"⟩
abbrev cJx4a65c_get_915e3 : ByteArray := prog_37_method_20_code
def yJx4a65c_get_915e3 : MethodName := ⟨RJx4a65c, "get", "(I)Ljava/lang/Object;"⟩
abbrev cJx4a65c_add_72be8 : ByteArray := prog_37_method_24_code
def yJx4a65c_add_72be8 : MethodName := ⟨RJx4a65c, "add", "(Ljava/lang/Object;[Ljava/lang/Object;I)V"⟩
abbrev cJx4a65c_add_9ea2d : ByteArray := prog_37_method_25_code
def yJx4a65c_add_9ea2d : MethodName := ⟨RJx4a65c, "add", "(Ljava/lang/Object;)Z"⟩
abbrev cJx4a65c_iterator_32c93 : ByteArray := prog_37_method_55_code
def yJx4a65c_iterator_32c93 : MethodName := ⟨RJx4a65c, "iterator", "()Ljava/util/Iterator;"⟩
def RJ7 : String := "java/util/Arrays"
def TJ7 : u_T := fun k => match k with
  | _ => ("", "", "", false)
def tyJ7 : Nat → FieldType := fun k => match k with
  | _ => .int
theorem nmJ7 : ∀ a, a < 0 → ∀ b, b < 0 → a ≠ b → (TJ7 a).2.1 ≠ (TJ7 b).2.1 := by decide +kernel
theorem tyJ7_ok : ∀ k, k < 0 → parseFieldDescriptor (TJ7 k).2.2.1 = some (tyJ7 k) := by decide +kernel
abbrev cJ7_copyOf_1904c : ByteArray := prog_39_method_119_code
def yJ7_copyOf_1904c : MethodName := ⟨RJ7, "copyOf", "([Ljava/lang/Object;I)[Ljava/lang/Object;"⟩
abbrev cJ7_copyOf_6403c : ByteArray := prog_39_method_120_code
def yJ7_copyOf_6403c : MethodName := ⟨RJ7, "copyOf", "([Ljava/lang/Object;ILjava/lang/Class;)[Ljava/lang/Object;"⟩
abbrev cJ7_copyOf_9075b : ByteArray := prog_39_method_121_code
def yJ7_copyOf_9075b : MethodName := ⟨RJ7, "copyOf", "([BI)[B"⟩
abbrev cJ7_checkLength_df160 : ByteArray := prog_39_method_131_code
def yJ7_checkLength_df160 : MethodName := ⟨RJ7, "checkLength", "(II)V"⟩
abbrev cJ7_copyOfRange_39247 : ByteArray := prog_39_method_132_code
def yJ7_copyOfRange_39247 : MethodName := ⟨RJ7, "copyOfRange", "([BII)[B"⟩
abbrev cJ7_copyOfRangeByte_39247 : ByteArray := prog_39_method_133_code
def yJ7_copyOfRangeByte_39247 : MethodName := ⟨RJ7, "copyOfRangeByte", "([BII)[B"⟩
def RJx5ef63 : String := "java/util/Collection"
def TJx5ef63 : u_T := fun k => match k with
  | _ => ("", "", "", false)
def tyJx5ef63 : Nat → FieldType := fun k => match k with
  | _ => .int
theorem nmJx5ef63 : ∀ a, a < 0 → ∀ b, b < 0 → a ≠ b → (TJx5ef63 a).2.1 ≠ (TJx5ef63 b).2.1 := by decide +kernel
theorem tyJx5ef63_ok : ∀ k, k < 0 → parseFieldDescriptor (TJx5ef63 k).2.2.1 = some (tyJx5ef63 k) := by decide +kernel
def RJxb8c77 : String := "java/util/Deque"
def TJxb8c77 : u_T := fun k => match k with
  | _ => ("", "", "", false)
def tyJxb8c77 : Nat → FieldType := fun k => match k with
  | _ => .int
theorem nmJxb8c77 : ∀ a, a < 0 → ∀ b, b < 0 → a ≠ b → (TJxb8c77 a).2.1 ≠ (TJxb8c77 b).2.1 := by decide +kernel
theorem tyJxb8c77_ok : ∀ k, k < 0 → parseFieldDescriptor (TJxb8c77 k).2.2.1 = some (tyJxb8c77 k) := by decide +kernel
def RJx4d0d8 : String := "java/util/Iterator"
def TJx4d0d8 : u_T := fun k => match k with
  | _ => ("", "", "", false)
def tyJx4d0d8 : Nat → FieldType := fun k => match k with
  | _ => .int
theorem nmJx4d0d8 : ∀ a, a < 0 → ∀ b, b < 0 → a ≠ b → (TJx4d0d8 a).2.1 ≠ (TJx4d0d8 b).2.1 := by decide +kernel
theorem tyJx4d0d8_ok : ∀ k, k < 0 → parseFieldDescriptor (TJx4d0d8 k).2.2.1 = some (tyJx4d0d8 k) := by decide +kernel
def RJxbd725 : String := "java/util/List"
def TJxbd725 : u_T := fun k => match k with
  | _ => ("", "", "", false)
def tyJxbd725 : Nat → FieldType := fun k => match k with
  | _ => .int
theorem nmJxbd725 : ∀ a, a < 0 → ∀ b, b < 0 → a ≠ b → (TJxbd725 a).2.1 ≠ (TJxbd725 b).2.1 := by decide +kernel
theorem tyJxbd725_ok : ∀ k, k < 0 → parseFieldDescriptor (TJxbd725 k).2.2.1 = some (tyJxbd725 k) := by decide +kernel
def RJ15 : String := "java/util/Objects"
def TJ15 : u_T := fun k => match k with
  | _ => ("", "", "", false)
def tyJ15 : Nat → FieldType := fun k => match k with
  | _ => .int
theorem nmJ15 : ∀ a, a < 0 → ∀ b, b < 0 → a ≠ b → (TJ15 a).2.1 ≠ (TJ15 b).2.1 := by decide +kernel
theorem tyJ15_ok : ∀ k, k < 0 → parseFieldDescriptor (TJ15 k).2.2.1 = some (tyJ15 k) := by decide +kernel
abbrev cJ15_checkIndex_7cf53 : ByteArray := prog_44_method_17_code
def yJ15_checkIndex_7cf53 : MethodName := ⟨RJ15, "checkIndex", "(II)I"⟩
def RJx8141a : String := "java/util/Queue"
def TJx8141a : u_T := fun k => match k with
  | _ => ("", "", "", false)
def tyJx8141a : Nat → FieldType := fun k => match k with
  | _ => .int
theorem nmJx8141a : ∀ a, a < 0 → ∀ b, b < 0 → a ≠ b → (TJx8141a a).2.1 ≠ (TJx8141a b).2.1 := by decide +kernel
theorem tyJx8141a_ok : ∀ k, k < 0 → parseFieldDescriptor (TJx8141a k).2.2.1 = some (tyJx8141a k) := by decide +kernel
def RJxf0a74 : String := "java/util/RandomAccess"
def TJxf0a74 : u_T := fun k => match k with
  | _ => ("", "", "", false)
def tyJxf0a74 : Nat → FieldType := fun k => match k with
  | _ => .int
theorem nmJxf0a74 : ∀ a, a < 0 → ∀ b, b < 0 → a ≠ b → (TJxf0a74 a).2.1 ≠ (TJxf0a74 b).2.1 := by decide +kernel
theorem tyJxf0a74_ok : ∀ k, k < 0 → parseFieldDescriptor (TJxf0a74 k).2.2.1 = some (tyJxf0a74 k) := by decide +kernel
def RJxa66e6 : String := "java/util/SequencedCollection"
def TJxa66e6 : u_T := fun k => match k with
  | _ => ("", "", "", false)
def tyJxa66e6 : Nat → FieldType := fun k => match k with
  | _ => .int
theorem nmJxa66e6 : ∀ a, a < 0 → ∀ b, b < 0 → a ≠ b → (TJxa66e6 a).2.1 ≠ (TJxa66e6 b).2.1 := by decide +kernel
theorem tyJxa66e6_ok : ∀ k, k < 0 → parseFieldDescriptor (TJxa66e6 k).2.2.1 = some (tyJxa66e6 k) := by decide +kernel
def RJ8 : String := "jdk/internal/util/ArraysSupport"
def TJ8 : u_T := fun k => match k with
  | _ => ("", "", "", false)
def tyJ8 : Nat → FieldType := fun k => match k with
  | _ => .int
theorem nmJ8 : ∀ a, a < 0 → ∀ b, b < 0 → a ≠ b → (TJ8 a).2.1 ≠ (TJ8 b).2.1 := by decide +kernel
theorem tyJ8_ok : ∀ k, k < 0 → parseFieldDescriptor (TJ8 k).2.2.1 = some (tyJ8 k) := by decide +kernel
abbrev cJ8_newLength_cabcc : ByteArray := prog_48_method_27_code
def yJ8_newLength_cabcc : MethodName := ⟨RJ8, "newLength", "(III)I"⟩
abbrev cJ8_hugeLength_7cf53 : ByteArray := prog_48_method_28_code
def yJ8_hugeLength_7cf53 : MethodName := ⟨RJ8, "hugeLength", "(II)I"⟩
def RJ3 : String := "jdk/internal/util/Preconditions"
def TJ3 : u_T := fun k => match k with
  | _ => ("", "", "", false)
def tyJ3 : Nat → FieldType := fun k => match k with
  | _ => .int
theorem nmJ3 : ∀ a, a < 0 → ∀ b, b < 0 → a ≠ b → (TJ3 a).2.1 ≠ (TJ3 b).2.1 := by decide +kernel
theorem tyJ3_ok : ∀ k, k < 0 → parseFieldDescriptor (TJ3 k).2.2.1 = some (tyJ3 k) := by decide +kernel
abbrev cJ3_checkIndex_8e157 : ByteArray := prog_49_method_11_code
def yJ3_checkIndex_8e157 : MethodName := ⟨RJ3, "checkIndex", "(IILjava/util/function/BiFunction;)I"⟩
abbrev cJ3_checkFromToIndex_8c36e : ByteArray := prog_49_method_12_code
def yJ3_checkFromToIndex_8c36e : MethodName := ⟨RJ3, "checkFromToIndex", "(IIILjava/util/function/BiFunction;)I"⟩
abbrev cJ3_checkFromIndexSize_8c36e : ByteArray := prog_49_method_13_code
def yJ3_checkFromIndexSize_8c36e : MethodName := ⟨RJ3, "checkFromIndexSize", "(IIILjava/util/function/BiFunction;)I"⟩
def RL : String := "LevelNetworkLaw"
abbrev cL_cell : ByteArray := method_2_code
def yL_cell : MethodName := ⟨RL, "cell", "([II)I"⟩
abbrev cL_mod : ByteArray := method_3_code
def yL_mod : MethodName := ⟨RL, "mod", "(II)I"⟩
abbrev cL_law : ByteArray := code
def yL_law : MethodName := ⟨RL, "law", "([I)Z"⟩
abbrev vwCl : List vw_C := [(RX0, TX0, 8), (RX1, TX1, 7), (RX2, TX2, 10), (RX3, TX3, 17), (RX4, TX4, 10), (RX5, TX5, 7), (RX6, TX6, 4), (RX7, TX7, 8), (RX8, TX8, 12), (RJ0, TJ0, 4), (RJ4, TJ4, 4), (RJ6, TJ6, 1), (RJx35411, TJx35411, 4), (RJx4a65c, TJx4a65c, 3), (RX10, TX10, 3)]
