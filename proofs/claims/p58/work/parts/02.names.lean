def RX0 : String := "InterlockingBox$1"
def TX0 : u_T := fun k => match k with
  | _ => ("", "", "", false)
def tyX0 : Nat → FieldType := fun k => match k with
  | _ => .int
abbrev wsX00 : List Cond := u_ws RX0 TX0 0
theorem nmX0 : ∀ a, a < 0 → ∀ b, b < 0 → a ≠ b → (TX0 a).2.1 ≠ (TX0 b).2.1 := by decide +kernel
theorem tyX0_ok : ∀ k, k < 0 → parseFieldDescriptor (TX0 k).2.2.1 = some (tyX0 k) := by decide +kernel
def RX1 : String := "InterlockingBox$Command"
def TX1 : u_T := fun k => match k with
  | _ => ("", "", "", false)
def tyX1 : Nat → FieldType := fun k => match k with
  | _ => .int
abbrev wsX10 : List Cond := u_ws RX1 TX1 0
theorem nmX1 : ∀ a, a < 0 → ∀ b, b < 0 → a ≠ b → (TX1 a).2.1 ≠ (TX1 b).2.1 := by decide +kernel
theorem tyX1_ok : ∀ k, k < 0 → parseFieldDescriptor (TX1 k).2.2.1 = some (tyX1 k) := by decide +kernel
def RX2 : String := "InterlockingBox$History"
def TX2 : u_T := fun k => match k with
  | 0 => ("InterlockingBox$History", "states", "[LInterlockingBox$State;", true)
  | 1 => ("InterlockingBox$History", "place", "I", false)
  | _ => ("InterlockingBox$History", "count", "I", false)
def tyX2 : Nat → FieldType := fun k => match k with
  | 0 => .array (.object "InterlockingBox$State")
  | 1 => .int
  | _ => .int
abbrev wsX20 : List Cond := u_ws RX2 TX2 3
theorem nmX2 : ∀ a, a < 3 → ∀ b, b < 3 → a ≠ b → (TX2 a).2.1 ≠ (TX2 b).2.1 := by decide +kernel
theorem tyX2_ok : ∀ k, k < 3 → parseFieldDescriptor (TX2 k).2.2.1 = some (tyX2 k) := by decide +kernel
abbrev cX2_init : ByteArray := prog_4_method_1_code
def yX2_init : MethodName := ⟨RX2, "<init>", "()V"⟩
abbrev cX2_keep : ByteArray := prog_4_method_2_code
def yX2_keep : MethodName := ⟨RX2, "keep", "(LInterlockingBox$State;)V"⟩
abbrev cX2_putBack : ByteArray := prog_4_method_3_code
def yX2_putBack : MethodName := ⟨RX2, "putBack", "(LInterlockingBox$State;)V"⟩
abbrev cX2_commit : ByteArray := prog_4_method_4_code
def yX2_commit : MethodName := ⟨RX2, "commit", "()V"⟩
abbrev cX2_takeBack : ByteArray := prog_4_method_5_code
def yX2_takeBack : MethodName := ⟨RX2, "takeBack", "(LInterlockingBox$State;)Z"⟩
abbrev cX2_forget : ByteArray := prog_4_method_6_code
def yX2_forget : MethodName := ⟨RX2, "forget", "()V"⟩
def RX3 : String := "InterlockingBox$Invariants"
def TX3 : u_T := fun k => match k with
  | _ => ("", "", "", false)
def tyX3 : Nat → FieldType := fun k => match k with
  | _ => .int
abbrev wsX30 : List Cond := u_ws RX3 TX3 0
theorem nmX3 : ∀ a, a < 0 → ∀ b, b < 0 → a ≠ b → (TX3 a).2.1 ≠ (TX3 b).2.1 := by decide +kernel
theorem tyX3_ok : ∀ k, k < 0 → parseFieldDescriptor (TX3 k).2.2.1 = some (tyX3 k) := by decide +kernel
abbrev cX3_hold : ByteArray := prog_5_method_2_code
def yX3_hold : MethodName := ⟨RX3, "hold", "(LInterlockingBox$State;)Z"⟩
abbrev cX3_lineIsSound : ByteArray := prog_5_method_3_code
def yX3_lineIsSound : MethodName := ⟨RX3, "lineIsSound", "(LInterlockingBox$Line;)Z"⟩
abbrev cX3_trainsAreSound : ByteArray := prog_5_method_4_code
def yX3_trainsAreSound : MethodName := ⟨RX3, "trainsAreSound", "(LInterlockingBox$State;)Z"⟩
abbrev cX3_blocksAreHeldOnce : ByteArray := prog_5_method_5_code
def yX3_blocksAreHeldOnce : MethodName := ⟨RX3, "blocksAreHeldOnce", "(LInterlockingBox$State;)Z"⟩
abbrev cX3_routesAreSound : ByteArray := prog_5_method_6_code
def yX3_routesAreSound : MethodName := ⟨RX3, "routesAreSound", "(LInterlockingBox$State;)Z"⟩
abbrev cX3_blocksAhead : ByteArray := prog_5_method_7_code
def yX3_blocksAhead : MethodName := ⟨RX3, "blocksAhead", "(LInterlockingBox$Line;LInterlockingBox$Train;)I"⟩
abbrev cX3_queueIsSound : ByteArray := prog_5_method_8_code
def yX3_queueIsSound : MethodName := ⟨RX3, "queueIsSound", "(LInterlockingBox$State;)Z"⟩
def RX4 : String := "InterlockingBox$Line"
def TX4 : u_T := fun k => match k with
  | 0 => ("InterlockingBox$Line", "blocks", "I", false)
  | 1 => ("InterlockingBox$Line", "points", "I", false)
  | 2 => ("InterlockingBox$Line", "links", "I", false)
  | 3 => ("InterlockingBox$Line", "shut", "I", false)
  | 4 => ("InterlockingBox$Line", "stemsToRight", "I", false)
  | 5 => ("InterlockingBox$Line", "length", "[I", true)
  | 6 => ("InterlockingBox$Line", "left", "[I", true)
  | 7 => ("InterlockingBox$Line", "right", "[I", true)
  | 8 => ("InterlockingBox$Line", "stem", "[I", true)
  | 9 => ("InterlockingBox$Line", "next", "[[I", true)
  | 10 => ("InterlockingBox$Line", "routes", "[[I", true)
  | _ => ("InterlockingBox$Line", "cost", "[I", true)
def tyX4 : Nat → FieldType := fun k => match k with
  | 0 => .int
  | 1 => .int
  | 2 => .int
  | 3 => .int
  | 4 => .int
  | 5 => .array .int
  | 6 => .array .int
  | 7 => .array .int
  | 8 => .array .int
  | 9 => .array (.array .int)
  | 10 => .array (.array .int)
  | _ => .array .int
abbrev wsX40 : List Cond := u_ws RX4 TX4 12
theorem nmX4 : ∀ a, a < 12 → ∀ b, b < 12 → a ≠ b → (TX4 a).2.1 ≠ (TX4 b).2.1 := by decide +kernel
theorem tyX4_ok : ∀ k, k < 12 → parseFieldDescriptor (TX4 k).2.2.1 = some (tyX4 k) := by decide +kernel
abbrev cX4_init : ByteArray := prog_6_method_1_code
def yX4_init : MethodName := ⟨RX4, "<init>", "()V"⟩
abbrev cX4_copyFrom : ByteArray := prog_6_method_2_code
def yX4_copyFrom : MethodName := ⟨RX4, "copyFrom", "(LInterlockingBox$Line;)V"⟩
abbrev cX4_has : ByteArray := prog_6_method_3_code
def yX4_has : MethodName := ⟨RX4, "has", "(I)Z"⟩
abbrev cX4_hasPoint : ByteArray := prog_6_method_4_code
def yX4_hasPoint : MethodName := ⟨RX4, "hasPoint", "(I)Z"⟩
abbrev cX4_hasExit : ByteArray := prog_6_method_5_code
def yX4_hasExit : MethodName := ⟨RX4, "hasExit", "(I)Z"⟩
abbrev cX4_isStem : ByteArray := prog_6_method_6_code
def yX4_isStem : MethodName := ⟨RX4, "isStem", "(I)Z"⟩
abbrev cX4_leadsTo : ByteArray := prog_6_method_7_code
def yX4_leadsTo : MethodName := ⟨RX4, "leadsTo", "(II)Z"⟩
abbrev cX4_lengthOf : ByteArray := prog_6_method_8_code
def yX4_lengthOf : MethodName := ⟨RX4, "lengthOf", "(I)I"⟩
abbrev cX4_stemOf : ByteArray := prog_6_method_9_code
def yX4_stemOf : MethodName := ⟨RX4, "stemOf", "(I)I"⟩
abbrev cX4_pointsLeft : ByteArray := prog_6_method_10_code
def yX4_pointsLeft : MethodName := ⟨RX4, "pointsLeft", "(I)Z"⟩
abbrev cX4_exitOf : ByteArray := prog_6_method_11_code
def yX4_exitOf : MethodName := ⟨RX4, "exitOf", "(I)I"⟩
abbrev cX4_makeBlock : ByteArray := prog_6_method_12_code
def yX4_makeBlock : MethodName := ⟨RX4, "makeBlock", "(I)I"⟩
abbrev cX4_makePoint : ByteArray := prog_6_method_13_code
def yX4_makePoint : MethodName := ⟨RX4, "makePoint", "(III)I"⟩
abbrev cX4_makeLink : ByteArray := prog_6_method_14_code
def yX4_makeLink : MethodName := ⟨RX4, "makeLink", "(II)I"⟩
abbrev cX4_turn : ByteArray := prog_6_method_15_code
def yX4_turn : MethodName := ⟨RX4, "turn", "(I)V"⟩
abbrev cX4_turnForRoute : ByteArray := prog_6_method_16_code
def yX4_turnForRoute : MethodName := ⟨RX4, "turnForRoute", "(II)V"⟩
abbrev cX4_learnRoutes : ByteArray := prog_6_method_17_code
def yX4_learnRoutes : MethodName := ⟨RX4, "learnRoutes", "()V"⟩
abbrev cX4_learnRoutesTo : ByteArray := prog_6_method_18_code
def yX4_learnRoutesTo : MethodName := ⟨RX4, "learnRoutesTo", "(I)V"⟩
abbrev cX4_nearestBlock : ByteArray := prog_6_method_19_code
def yX4_nearestBlock : MethodName := ⟨RX4, "nearestBlock", "(I)I"⟩
abbrev cX4_nextOnRoute : ByteArray := prog_6_method_20_code
def yX4_nextOnRoute : MethodName := ⟨RX4, "nextOnRoute", "(II)I"⟩
abbrev cX4_routeBlocks : ByteArray := prog_6_method_21_code
def yX4_routeBlocks : MethodName := ⟨RX4, "routeBlocks", "(II)I"⟩
abbrev cX4_blockOnRoute : ByteArray := prog_6_method_22_code
def yX4_blockOnRoute : MethodName := ⟨RX4, "blockOnRoute", "(III)I"⟩
abbrev cX4_totalLength : ByteArray := prog_6_method_23_code
def yX4_totalLength : MethodName := ⟨RX4, "totalLength", "(I)I"⟩
abbrev cX4_numberOfPaths : ByteArray := prog_6_method_24_code
def yX4_numberOfPaths : MethodName := ⟨RX4, "numberOfPaths", "(II)I"⟩
abbrev cX4_shortestPath : ByteArray := prog_6_method_25_code
def yX4_shortestPath : MethodName := ⟨RX4, "shortestPath", "(II)I"⟩
abbrev cX4_countPaths : ByteArray := prog_6_method_26_code
def yX4_countPaths : MethodName := ⟨RX4, "countPaths", "(LInterlockingBox$Line;IIII)I"⟩
abbrev cX4_tryPaths : ByteArray := prog_6_method_27_code
def yX4_tryPaths : MethodName := ⟨RX4, "tryPaths", "(LInterlockingBox$Line;IIII)I"⟩
def RX5 : String := "InterlockingBox$Program"
def TX5 : u_T := fun k => match k with
  | 0 => ("InterlockingBox$Program", "text", "[C", true)
  | 1 => ("InterlockingBox$Program", "length", "I", false)
  | 2 => ("InterlockingBox$Program", "commands", "[LInterlockingBox$Command;", true)
  | 3 => ("InterlockingBox$Program", "numbers", "[[I", true)
  | 4 => ("InterlockingBox$Program", "count", "I", false)
  | _ => ("InterlockingBox$Program", "stop", "I", false)
def tyX5 : Nat → FieldType := fun k => match k with
  | 0 => .array .char
  | 1 => .int
  | 2 => .array (.object "InterlockingBox$Command")
  | 3 => .array (.array .int)
  | 4 => .int
  | _ => .int
abbrev wsX50 : List Cond := u_ws RX5 TX5 6
theorem nmX5 : ∀ a, a < 6 → ∀ b, b < 6 → a ≠ b → (TX5 a).2.1 ≠ (TX5 b).2.1 := by decide +kernel
theorem tyX5_ok : ∀ k, k < 6 → parseFieldDescriptor (TX5 k).2.2.1 = some (tyX5 k) := by decide +kernel
abbrev cX5_init : ByteArray := prog_7_method_1_code
def yX5_init : MethodName := ⟨RX5, "<init>", "()V"⟩
abbrev cX5_append : ByteArray := prog_7_method_2_code
def yX5_append : MethodName := ⟨RX5, "append", "(C)Z"⟩
abbrev cX5_clear : ByteArray := prog_7_method_3_code
def yX5_clear : MethodName := ⟨RX5, "clear", "()V"⟩
abbrev cX5_command : ByteArray := prog_7_method_4_code
def yX5_command : MethodName := ⟨RX5, "command", "(I)LInterlockingBox$Command;"⟩
abbrev cX5_number : ByteArray := prog_7_method_5_code
def yX5_number : MethodName := ⟨RX5, "number", "(II)I"⟩
abbrev cX5_parse : ByteArray := prog_7_method_6_code
def yX5_parse : MethodName := ⟨RX5, "parse", "()Z"⟩
abbrev cX5_parseCommand : ByteArray := prog_7_method_7_code
def yX5_parseCommand : MethodName := ⟨RX5, "parseCommand", "(I)I"⟩
abbrev cX5_match : ByteArray := prog_7_method_8_code
def yX5_match : MethodName := ⟨RX5, "match", "(Ljava/lang/String;I)I"⟩
abbrev cX5_isAt : ByteArray := prog_7_method_9_code
def yX5_isAt : MethodName := ⟨RX5, "isAt", "(IC)Z"⟩
abbrev cX5_digitsAt : ByteArray := prog_7_method_10_code
def yX5_digitsAt : MethodName := ⟨RX5, "digitsAt", "(II)I"⟩
abbrev cX5_isDigit : ByteArray := prog_7_method_11_code
def yX5_isDigit : MethodName := ⟨RX5, "isDigit", "(I)Z"⟩
abbrev cX5_noteNumber : ByteArray := prog_7_method_12_code
def yX5_noteNumber : MethodName := ⟨RX5, "noteNumber", "(III)V"⟩
def RX6 : String := "InterlockingBox$Relation"
def TX6 : u_T := fun k => match k with
  | 0 => ("InterlockingBox$Relation", "size", "I", false)
  | 1 => ("InterlockingBox$Relation", "related", "[I", true)
  | 2 => ("InterlockingBox$Relation", "found", "[I", true)
  | 3 => ("InterlockingBox$Relation", "earliest", "[I", true)
  | 4 => ("InterlockingBox$Relation", "visits", "I", false)
  | 5 => ("InterlockingBox$Relation", "pending", "I", false)
  | _ => ("InterlockingBox$Relation", "circling", "I", false)
def tyX6 : Nat → FieldType := fun k => match k with
  | 0 => .int
  | 1 => .array .int
  | 2 => .array .int
  | 3 => .array .int
  | 4 => .int
  | 5 => .int
  | _ => .int
abbrev wsX60 : List Cond := u_ws RX6 TX6 7
theorem nmX6 : ∀ a, a < 7 → ∀ b, b < 7 → a ≠ b → (TX6 a).2.1 ≠ (TX6 b).2.1 := by decide +kernel
theorem tyX6_ok : ∀ k, k < 7 → parseFieldDescriptor (TX6 k).2.2.1 = some (tyX6 k) := by decide +kernel
abbrev cX6_init : ByteArray := prog_8_method_1_code
def yX6_init : MethodName := ⟨RX6, "<init>", "()V"⟩
abbrev cX6_begin : ByteArray := prog_8_method_2_code
def yX6_begin : MethodName := ⟨RX6, "begin", "(I)V"⟩
abbrev cX6_relate : ByteArray := prog_8_method_3_code
def yX6_relate : MethodName := ⟨RX6, "relate", "(II)V"⟩
abbrev cX6_inCircles : ByteArray := prog_8_method_4_code
def yX6_inCircles : MethodName := ⟨RX6, "inCircles", "()I"⟩
abbrev cX6_search : ByteArray := prog_8_method_5_code
def yX6_search : MethodName := ⟨RX6, "search", "(LInterlockingBox$Relation;II)V"⟩
abbrev cX6_enter : ByteArray := prog_8_method_6_code
def yX6_enter : MethodName := ⟨RX6, "enter", "(I)V"⟩
abbrev cX6_closeSet : ByteArray := prog_8_method_7_code
def yX6_closeSet : MethodName := ⟨RX6, "closeSet", "(I)V"⟩
abbrev cX6_inCirclesByPairs : ByteArray := prog_8_method_8_code
def yX6_inCirclesByPairs : MethodName := ⟨RX6, "inCirclesByPairs", "()I"⟩
abbrev cX6_mostUnrelated : ByteArray := prog_8_method_9_code
def yX6_mostUnrelated : MethodName := ⟨RX6, "mostUnrelated", "()I"⟩
abbrev cX6_takeOrLeave : ByteArray := prog_8_method_10_code
def yX6_takeOrLeave : MethodName := ⟨RX6, "takeOrLeave", "(LInterlockingBox$Relation;II)I"⟩
abbrev cX6_mostUnrelatedBySets : ByteArray := prog_8_method_11_code
def yX6_mostUnrelatedBySets : MethodName := ⟨RX6, "mostUnrelatedBySets", "()I"⟩
abbrev cX6_isUnrelated : ByteArray := prog_8_method_12_code
def yX6_isUnrelated : MethodName := ⟨RX6, "isUnrelated", "(I)Z"⟩
def RX7 : String := "InterlockingBox$State"
def TX7 : u_T := fun k => match k with
  | 0 => ("InterlockingBox$State", "line", "LInterlockingBox$Line;", true)
  | 1 => ("InterlockingBox$State", "trains", "[LInterlockingBox$Train;", true)
  | 2 => ("InterlockingBox$State", "queue", "[I", true)
  | 3 => ("InterlockingBox$State", "present", "I", false)
  | 4 => ("InterlockingBox$State", "waiting", "I", false)
  | 5 => ("InterlockingBox$State", "come", "I", false)
  | 6 => ("InterlockingBox$State", "gone", "I", false)
  | 7 => ("InterlockingBox$State", "time", "I", false)
  | _ => ("InterlockingBox$State", "allDelays", "J", false)
def tyX7 : Nat → FieldType := fun k => match k with
  | 0 => .object "InterlockingBox$Line"
  | 1 => .array (.object "InterlockingBox$Train")
  | 2 => .array .int
  | 3 => .int
  | 4 => .int
  | 5 => .int
  | 6 => .int
  | 7 => .int
  | _ => .long
abbrev wsX70 : List Cond := u_ws RX7 TX7 9
theorem nmX7 : ∀ a, a < 9 → ∀ b, b < 9 → a ≠ b → (TX7 a).2.1 ≠ (TX7 b).2.1 := by decide +kernel
theorem tyX7_ok : ∀ k, k < 9 → parseFieldDescriptor (TX7 k).2.2.1 = some (tyX7 k) := by decide +kernel
abbrev cX7_init : ByteArray := prog_9_method_1_code
def yX7_init : MethodName := ⟨RX7, "<init>", "()V"⟩
abbrev cX7_copyFrom : ByteArray := prog_9_method_2_code
def yX7_copyFrom : MethodName := ⟨RX7, "copyFrom", "(LInterlockingBox$State;)V"⟩
abbrev cX7_find : ByteArray := prog_9_method_3_code
def yX7_find : MethodName := ⟨RX7, "find", "(I)LInterlockingBox$Train;"⟩
abbrev cX7_held : ByteArray := prog_9_method_4_code
def yX7_held : MethodName := ⟨RX7, "held", "()I"⟩
abbrev cX7_holderOf : ByteArray := prog_9_method_5_code
def yX7_holderOf : MethodName := ⟨RX7, "holderOf", "(I)I"⟩
abbrev cX7_lockerOf : ByteArray := prog_9_method_6_code
def yX7_lockerOf : MethodName := ⟨RX7, "lockerOf", "(I)I"⟩
abbrev cX7_isReserved : ByteArray := prog_9_method_7_code
def yX7_isReserved : MethodName := ⟨RX7, "isReserved", "(I)Z"⟩
abbrev cX7_stateOf : ByteArray := prog_9_method_8_code
def yX7_stateOf : MethodName := ⟨RX7, "stateOf", "(I)C"⟩
abbrev cX7_shutBlock : ByteArray := prog_9_method_9_code
def yX7_shutBlock : MethodName := ⟨RX7, "shutBlock", "(I)I"⟩
abbrev cX7_openBlock : ByteArray := prog_9_method_10_code
def yX7_openBlock : MethodName := ⟨RX7, "openBlock", "(I)I"⟩
abbrev cX7_movePoint : ByteArray := prog_9_method_11_code
def yX7_movePoint : MethodName := ⟨RX7, "movePoint", "(I)I"⟩
abbrev cX7_bringTrain : ByteArray := prog_9_method_12_code
def yX7_bringTrain : MethodName := ⟨RX7, "bringTrain", "(II)I"⟩
abbrev cX7_inQueue : ByteArray := prog_9_method_13_code
def yX7_inQueue : MethodName := ⟨RX7, "inQueue", "(I)I"⟩
abbrev cX7_joinQueue : ByteArray := prog_9_method_14_code
def yX7_joinQueue : MethodName := ⟨RX7, "joinQueue", "(I)V"⟩
abbrev cX7_leaveQueue : ByteArray := prog_9_method_15_code
def yX7_leaveQueue : MethodName := ⟨RX7, "leaveQueue", "(I)V"⟩
abbrev cX7_routeOf : ByteArray := prog_9_method_16_code
def yX7_routeOf : MethodName := ⟨RX7, "routeOf", "(LInterlockingBox$Train;)I"⟩
abbrev cX7_canSet : ByteArray := prog_9_method_17_code
def yX7_canSet : MethodName := ⟨RX7, "canSet", "(LInterlockingBox$Train;)Z"⟩
abbrev cX7_firstNotFree : ByteArray := prog_9_method_18_code
def yX7_firstNotFree : MethodName := ⟨RX7, "firstNotFree", "(LInterlockingBox$Train;)I"⟩
abbrev cX7_grantRoute : ByteArray := prog_9_method_19_code
def yX7_grantRoute : MethodName := ⟨RX7, "grantRoute", "(I)I"⟩
abbrev cX7_reserveRoute : ByteArray := prog_9_method_20_code
def yX7_reserveRoute : MethodName := ⟨RX7, "reserveRoute", "(LInterlockingBox$Train;)V"⟩
abbrev cX7_withdrawRoute : ByteArray := prog_9_method_21_code
def yX7_withdrawRoute : MethodName := ⟨RX7, "withdrawRoute", "(I)I"⟩
abbrev cX7_letPass : ByteArray := prog_9_method_22_code
def yX7_letPass : MethodName := ⟨RX7, "letPass", "(I)I"⟩
abbrev cX7_passMinute : ByteArray := prog_9_method_23_code
def yX7_passMinute : MethodName := ⟨RX7, "passMinute", "()V"⟩
abbrev cX7_enterNext : ByteArray := prog_9_method_24_code
def yX7_enterNext : MethodName := ⟨RX7, "enterNext", "(LInterlockingBox$Train;)V"⟩
abbrev cX7_removeArrived : ByteArray := prog_9_method_25_code
def yX7_removeArrived : MethodName := ⟨RX7, "removeArrived", "()V"⟩
abbrev cX7_considerQueue : ByteArray := prog_9_method_26_code
def yX7_considerQueue : MethodName := ⟨RX7, "considerQueue", "()V"⟩
abbrev cX7_minutesToGo : ByteArray := prog_9_method_27_code
def yX7_minutesToGo : MethodName := ⟨RX7, "minutesToGo", "(LInterlockingBox$Train;)I"⟩
abbrev cX7_waits : ByteArray := prog_9_method_28_code
def yX7_waits : MethodName := ⟨RX7, "waits", "(LInterlockingBox$Train;LInterlockingBox$Train;)Z"⟩
abbrev cX7_routesMeet : ByteArray := prog_9_method_29_code
def yX7_routesMeet : MethodName := ⟨RX7, "routesMeet", "(LInterlockingBox$Train;LInterlockingBox$Train;)Z"⟩
abbrev cX7_relateWaiting : ByteArray := prog_9_method_30_code
def yX7_relateWaiting : MethodName := ⟨RX7, "relateWaiting", "(LInterlockingBox$Relation;)V"⟩
abbrev cX7_relateConflicts : ByteArray := prog_9_method_31_code
def yX7_relateConflicts : MethodName := ⟨RX7, "relateConflicts", "(LInterlockingBox$Relation;)V"⟩
def RX8 : String := "InterlockingBox$Train"
def TX8 : u_T := fun k => match k with
  | 0 => ("InterlockingBox$Train", "number", "I", false)
  | 1 => ("InterlockingBox$Train", "block", "I", false)
  | 2 => ("InterlockingBox$Train", "destination", "I", false)
  | 3 => ("InterlockingBox$Train", "reserved", "I", false)
  | 4 => ("InterlockingBox$Train", "nextMinute", "I", false)
  | _ => ("InterlockingBox$Train", "delay", "I", false)
def tyX8 : Nat → FieldType := fun k => match k with
  | 0 => .int
  | 1 => .int
  | 2 => .int
  | 3 => .int
  | 4 => .int
  | _ => .int
abbrev wsX80 : List Cond := u_ws RX8 TX8 6
theorem nmX8 : ∀ a, a < 6 → ∀ b, b < 6 → a ≠ b → (TX8 a).2.1 ≠ (TX8 b).2.1 := by decide +kernel
theorem tyX8_ok : ∀ k, k < 6 → parseFieldDescriptor (TX8 k).2.2.1 = some (tyX8 k) := by decide +kernel
abbrev cX8_init : ByteArray := prog_10_method_1_code
def yX8_init : MethodName := ⟨RX8, "<init>", "()V"⟩
abbrev cX8_copyFrom : ByteArray := prog_10_method_2_code
def yX8_copyFrom : MethodName := ⟨RX8, "copyFrom", "(LInterlockingBox$Train;)V"⟩
abbrev cX8_begin : ByteArray := prog_10_method_3_code
def yX8_begin : MethodName := ⟨RX8, "begin", "(III)V"⟩
abbrev cX8_isRouted : ByteArray := prog_10_method_4_code
def yX8_isRouted : MethodName := ⟨RX8, "isRouted", "()Z"⟩
abbrev cX8_held : ByteArray := prog_10_method_5_code
def yX8_held : MethodName := ⟨RX8, "held", "()I"⟩
abbrev cX8_locks : ByteArray := prog_10_method_6_code
def yX8_locks : MethodName := ⟨RX8, "locks", "(I)Z"⟩
def RX9 : String := "InterlockingBox"
def TX9 : u_T := fun k => match k with
  | 0 => ("InterlockingBox", "now", "LInterlockingBox$State;", true)
  | 1 => ("InterlockingBox", "saved", "LInterlockingBox$State;", true)
  | 2 => ("InterlockingBox", "copy", "LInterlockingBox$State;", true)
  | 3 => ("InterlockingBox", "history", "LInterlockingBox$History;", true)
  | 4 => ("InterlockingBox", "relation", "LInterlockingBox$Relation;", true)
  | 5 => ("InterlockingBox", "program", "LInterlockingBox$Program;", true)
  | 6 => ("InterlockingBox", "output", "Ljava/lang/StringBuilder;", true)
  | 7 => ("InterlockingBox", "anySaved", "Z", false)
  | 8 => ("InterlockingBox", "recordedReason", "C", false)
  | 9 => ("InterlockingBox", "recordedBlock", "I", false)
  | 10 => ("InterlockingBox", "recordedPosition", "I", false)
  | _ => ("InterlockingBox", "recordedCommand", "I", false)
def tyX9 : Nat → FieldType := fun k => match k with
  | 0 => .object "InterlockingBox$State"
  | 1 => .object "InterlockingBox$State"
  | 2 => .object "InterlockingBox$State"
  | 3 => .object "InterlockingBox$History"
  | 4 => .object "InterlockingBox$Relation"
  | 5 => .object "InterlockingBox$Program"
  | 6 => .object "java/lang/StringBuilder"
  | 7 => .boolean
  | 8 => .char
  | 9 => .int
  | 10 => .int
  | _ => .int
abbrev wsX90 : List Cond := u_ws RX9 TX9 12
theorem nmX9 : ∀ a, a < 12 → ∀ b, b < 12 → a ≠ b → (TX9 a).2.1 ≠ (TX9 b).2.1 := by decide +kernel
theorem tyX9_ok : ∀ k, k < 12 → parseFieldDescriptor (TX9 k).2.2.1 = some (tyX9 k) := by decide +kernel
abbrev cX9_init : ByteArray := prog_1_method_1_code
def yX9_init : MethodName := ⟨RX9, "<init>", "()V"⟩
abbrev cX9_addBlock : ByteArray := prog_1_method_2_code
def yX9_addBlock : MethodName := ⟨RX9, "addBlock", "(I)I"⟩
abbrev cX9_addPoint : ByteArray := prog_1_method_3_code
def yX9_addPoint : MethodName := ⟨RX9, "addPoint", "(III)I"⟩
abbrev cX9_addLink : ByteArray := prog_1_method_4_code
def yX9_addLink : MethodName := ⟨RX9, "addLink", "(II)I"⟩
abbrev cX9_shut : ByteArray := prog_1_method_5_code
def yX9_shut : MethodName := ⟨RX9, "shut", "(I)I"⟩
abbrev cX9_open : ByteArray := prog_1_method_6_code
def yX9_open : MethodName := ⟨RX9, "open", "(I)I"⟩
abbrev cX9_throwPoint : ByteArray := prog_1_method_7_code
def yX9_throwPoint : MethodName := ⟨RX9, "throwPoint", "(I)Z"⟩
abbrev cX9_addTrain : ByteArray := prog_1_method_8_code
def yX9_addTrain : MethodName := ⟨RX9, "addTrain", "(II)I"⟩
abbrev cX9_setRoute : ByteArray := prog_1_method_9_code
def yX9_setRoute : MethodName := ⟨RX9, "setRoute", "(I)I"⟩
abbrev cX9_releaseRoute : ByteArray := prog_1_method_10_code
def yX9_releaseRoute : MethodName := ⟨RX9, "releaseRoute", "(I)I"⟩
abbrev cX9_pass : ByteArray := prog_1_method_11_code
def yX9_pass : MethodName := ⟨RX9, "pass", "(I)I"⟩
abbrev cX9_blocks : ByteArray := prog_1_method_12_code
def yX9_blocks : MethodName := ⟨RX9, "blocks", "()I"⟩
abbrev cX9_blockLength : ByteArray := prog_1_method_13_code
def yX9_blockLength : MethodName := ⟨RX9, "blockLength", "(I)I"⟩
abbrev cX9_blockState : ByteArray := prog_1_method_14_code
def yX9_blockState : MethodName := ⟨RX9, "blockState", "(I)C"⟩
abbrev cX9_trainAt : ByteArray := prog_1_method_15_code
def yX9_trainAt : MethodName := ⟨RX9, "trainAt", "(I)I"⟩
abbrev cX9_liesLeft : ByteArray := prog_1_method_16_code
def yX9_liesLeft : MethodName := ⟨RX9, "liesLeft", "(I)Z"⟩
abbrev cX9_lockedBy : ByteArray := prog_1_method_17_code
def yX9_lockedBy : MethodName := ⟨RX9, "lockedBy", "(I)I"⟩
abbrev cX9_routeLength : ByteArray := prog_1_method_18_code
def yX9_routeLength : MethodName := ⟨RX9, "routeLength", "(II)I"⟩
abbrev cX9_routeLengthByPaths : ByteArray := prog_1_method_19_code
def yX9_routeLengthByPaths : MethodName := ⟨RX9, "routeLengthByPaths", "(II)I"⟩
abbrev cX9_routeBlock : ByteArray := prog_1_method_20_code
def yX9_routeBlock : MethodName := ⟨RX9, "routeBlock", "(III)I"⟩
abbrev cX9_paths : ByteArray := prog_1_method_21_code
def yX9_paths : MethodName := ⟨RX9, "paths", "(II)I"⟩
abbrev cX9_trains : ByteArray := prog_1_method_22_code
def yX9_trains : MethodName := ⟨RX9, "trains", "()I"⟩
abbrev cX9_isPresent : ByteArray := prog_1_method_23_code
def yX9_isPresent : MethodName := ⟨RX9, "isPresent", "(I)Z"⟩
abbrev cX9_blockOf : ByteArray := prog_1_method_24_code
def yX9_blockOf : MethodName := ⟨RX9, "blockOf", "(I)I"⟩
abbrev cX9_destination : ByteArray := prog_1_method_25_code
def yX9_destination : MethodName := ⟨RX9, "destination", "(I)I"⟩
abbrev cX9_hasRoute : ByteArray := prog_1_method_26_code
def yX9_hasRoute : MethodName := ⟨RX9, "hasRoute", "(I)Z"⟩
abbrev cX9_isClear : ByteArray := prog_1_method_27_code
def yX9_isClear : MethodName := ⟨RX9, "isClear", "(I)Z"⟩
abbrev cX9_minutesUntilNext : ByteArray := prog_1_method_28_code
def yX9_minutesUntilNext : MethodName := ⟨RX9, "minutesUntilNext", "(I)I"⟩
abbrev cX9_minutesUntilArrival : ByteArray := prog_1_method_29_code
def yX9_minutesUntilArrival : MethodName := ⟨RX9, "minutesUntilArrival", "(I)I"⟩
abbrev cX9_minutesUntilArrivalByPassing : ByteArray := prog_1_method_30_code
def yX9_minutesUntilArrivalByPassing : MethodName := ⟨RX9, "minutesUntilArrivalByPassing", "(I)I"⟩
abbrev cX9_delay : ByteArray := prog_1_method_31_code
def yX9_delay : MethodName := ⟨RX9, "delay", "(I)I"⟩
abbrev cX9_queued : ByteArray := prog_1_method_32_code
def yX9_queued : MethodName := ⟨RX9, "queued", "(I)I"⟩
abbrev cX9_waitsFor : ByteArray := prog_1_method_33_code
def yX9_waitsFor : MethodName := ⟨RX9, "waitsFor", "(II)Z"⟩
abbrev cX9_deadlocked : ByteArray := prog_1_method_34_code
def yX9_deadlocked : MethodName := ⟨RX9, "deadlocked", "()I"⟩
abbrev cX9_deadlockedByPairs : ByteArray := prog_1_method_35_code
def yX9_deadlockedByPairs : MethodName := ⟨RX9, "deadlockedByPairs", "()I"⟩
abbrev cX9_conflict : ByteArray := prog_1_method_36_code
def yX9_conflict : MethodName := ⟨RX9, "conflict", "(II)Z"⟩
abbrev cX9_mostWithoutConflict : ByteArray := prog_1_method_37_code
def yX9_mostWithoutConflict : MethodName := ⟨RX9, "mostWithoutConflict", "()I"⟩
abbrev cX9_mostWithoutConflictBySets : ByteArray := prog_1_method_38_code
def yX9_mostWithoutConflictBySets : MethodName := ⟨RX9, "mostWithoutConflictBySets", "()I"⟩
abbrev cX9_refusalReason : ByteArray := prog_1_method_39_code
def yX9_refusalReason : MethodName := ⟨RX9, "refusalReason", "()C"⟩
abbrev cX9_refusalBlock : ByteArray := prog_1_method_40_code
def yX9_refusalBlock : MethodName := ⟨RX9, "refusalBlock", "()I"⟩
abbrev cX9_time : ByteArray := prog_1_method_41_code
def yX9_time : MethodName := ⟨RX9, "time", "()I"⟩
abbrev cX9_arrived : ByteArray := prog_1_method_42_code
def yX9_arrived : MethodName := ⟨RX9, "arrived", "()I"⟩
abbrev cX9_totalDelay : ByteArray := prog_1_method_43_code
def yX9_totalDelay : MethodName := ⟨RX9, "totalDelay", "()J"⟩
abbrev cX9_meanDelay : ByteArray := prog_1_method_44_code
def yX9_meanDelay : MethodName := ⟨RX9, "meanDelay", "()D"⟩
abbrev cX9_usedShare : ByteArray := prog_1_method_45_code
def yX9_usedShare : MethodName := ⟨RX9, "usedShare", "()F"⟩
abbrev cX9_isConsistent : ByteArray := prog_1_method_46_code
def yX9_isConsistent : MethodName := ⟨RX9, "isConsistent", "()Z"⟩
abbrev cX9_writeTrain : ByteArray := prog_1_method_48_code
def yX9_writeTrain : MethodName := ⟨RX9, "writeTrain", "(I)I"⟩
abbrev cX9_type : ByteArray := prog_1_method_50_code
def yX9_type : MethodName := ⟨RX9, "type", "(C)I"⟩
abbrev cX9_run : ByteArray := prog_1_method_51_code
def yX9_run : MethodName := ⟨RX9, "run", "()I"⟩
abbrev cX9_undo : ByteArray := prog_1_method_54_code
def yX9_undo : MethodName := ⟨RX9, "undo", "()I"⟩
abbrev cX9_save : ByteArray := prog_1_method_55_code
def yX9_save : MethodName := ⟨RX9, "save", "()I"⟩
abbrev cX9_restore : ByteArray := prog_1_method_56_code
def yX9_restore : MethodName := ⟨RX9, "restore", "()I"⟩
abbrev cX9_settle : ByteArray := prog_1_method_57_code
def yX9_settle : MethodName := ⟨RX9, "settle", "(I)I"⟩
abbrev cX9_throwFor : ByteArray := prog_1_method_58_code
def yX9_throwFor : MethodName := ⟨RX9, "throwFor", "(I)V"⟩
abbrev cX9_checkBlock : ByteArray := prog_1_method_59_code
def yX9_checkBlock : MethodName := ⟨RX9, "checkBlock", "(I)V"⟩
abbrev cX9_checkPoint : ByteArray := prog_1_method_60_code
def yX9_checkPoint : MethodName := ⟨RX9, "checkPoint", "(I)V"⟩
abbrev cX9_checkRoute : ByteArray := prog_1_method_61_code
def yX9_checkRoute : MethodName := ⟨RX9, "checkRoute", "(II)V"⟩
abbrev cX9_presentTrain : ByteArray := prog_1_method_62_code
def yX9_presentTrain : MethodName := ⟨RX9, "presentTrain", "(I)LInterlockingBox$Train;"⟩
abbrev cX9_routedTrain : ByteArray := prog_1_method_63_code
def yX9_routedTrain : MethodName := ⟨RX9, "routedTrain", "(I)LInterlockingBox$Train;"⟩
abbrev cX9_writeRestOfRoute : ByteArray := prog_1_method_64_code
def yX9_writeRestOfRoute : MethodName := ⟨RX9, "writeRestOfRoute", "(LInterlockingBox$Train;)V"⟩
abbrev cX9_grantOrRecord : ByteArray := prog_1_method_65_code
def yX9_grantOrRecord : MethodName := ⟨RX9, "grantOrRecord", "(I)I"⟩
abbrev cX9_recordRefusal : ByteArray := prog_1_method_66_code
def yX9_recordRefusal : MethodName := ⟨RX9, "recordRefusal", "(LInterlockingBox$Train;)V"⟩
abbrev cX9_execute : ByteArray := prog_1_method_67_code
def yX9_execute : MethodName := ⟨RX9, "execute", "(I)I"⟩
abbrev cX9_contains : ByteArray := prog_1_method_68_code
def yX9_contains : MethodName := ⟨RX9, "contains", "(II)Z"⟩
def RX10 : String := "InterlockingBoxModel"
def TX10 : u_T := fun k => match k with
  | _ => ("", "", "", false)
def tyX10 : Nat → FieldType := fun k => match k with
  | _ => .int
abbrev wsX100 : List Cond := u_ws RX10 TX10 0
theorem nmX10 : ∀ a, a < 0 → ∀ b, b < 0 → a ≠ b → (TX10 a).2.1 ≠ (TX10 b).2.1 := by decide +kernel
theorem tyX10_ok : ∀ k, k < 0 → parseFieldDescriptor (TX10 k).2.2.1 = some (tyX10 k) := by decide +kernel
def RJx145de : String := "java/io/Serializable"
def TJx145de : u_T := fun k => match k with
  | _ => ("", "", "", false)
def tyJx145de : Nat → FieldType := fun k => match k with
  | _ => .int
abbrev wsJx145de0 : List Cond := u_ws RJx145de TJx145de 0
theorem nmJx145de : ∀ a, a < 0 → ∀ b, b < 0 → a ≠ b → (TJx145de a).2.1 ≠ (TJx145de b).2.1 := by decide +kernel
theorem tyJx145de_ok : ∀ k, k < 0 → parseFieldDescriptor (TJx145de k).2.2.1 = some (tyJx145de k) := by decide +kernel
def RJ5 : String := "java/lang/AbstractStringBuilder"
def TJ5 : u_T := fun k => match k with
  | _ => ("", "", "", false)
def tyJ5 : Nat → FieldType := fun k => match k with
  | _ => .int
abbrev wsJ50 : List Cond := u_ws RJ5 TJ5 0
theorem nmJ5 : ∀ a, a < 0 → ∀ b, b < 0 → a ≠ b → (TJ5 a).2.1 ≠ (TJ5 b).2.1 := by decide +kernel
theorem tyJ5_ok : ∀ k, k < 0 → parseFieldDescriptor (TJ5 k).2.2.1 = some (tyJ5 k) := by decide +kernel
abbrev cJ5_init_d00df : ByteArray := prog_14_method_2_code
def yJ5_init_d00df : MethodName := ⟨RJ5, "<init>", "(I)V"⟩
abbrev cJ5_length_8abf5 : ByteArray := prog_14_method_6_code
def yJ5_length_8abf5 : MethodName := ⟨RJ5, "length", "()I"⟩
abbrev cJ5_ensureCapacityInternal_d00df : ByteArray := prog_14_method_9_code
def yJ5_ensureCapacityInternal_d00df : MethodName := ⟨RJ5, "ensureCapacityInternal", "(I)V"⟩
abbrev cJ5_newCapacity_0f7a4 : ByteArray := prog_14_method_10_code
def yJ5_newCapacity_0f7a4 : MethodName := ⟨RJ5, "newCapacity", "(I)I"⟩
abbrev cJ5_inflate_da8c8 : ByteArray := prog_14_method_11_code
def yJ5_inflate_da8c8 : MethodName := ⟨RJ5, "inflate", "()V"⟩
abbrev cJ5_setLength_d00df : ByteArray := prog_14_method_13_code
def yJ5_setLength_d00df : MethodName := ⟨RJ5, "setLength", "(I)V"⟩
abbrev cJ5_append_cf1ce : ByteArray := prog_14_method_22_code
def yJ5_append_cf1ce : MethodName := ⟨RJ5, "append", "(Ljava/lang/String;)Ljava/lang/AbstractStringBuilder;"⟩
abbrev cJ5_appendNull_278bc : ByteArray := prog_14_method_26_code
def yJ5_appendNull_278bc : MethodName := ⟨RJ5, "appendNull", "()Ljava/lang/AbstractStringBuilder;"⟩
abbrev cJ5_append_3fe6f : ByteArray := prog_14_method_31_code
def yJ5_append_3fe6f : MethodName := ⟨RJ5, "append", "(C)Ljava/lang/AbstractStringBuilder;"⟩
abbrev cJ5_append_c97b9 : ByteArray := prog_14_method_32_code
def yJ5_append_c97b9 : MethodName := ⟨RJ5, "append", "(I)Ljava/lang/AbstractStringBuilder;"⟩
abbrev cJ5_getValue_6d5f1 : ByteArray := prog_14_method_64_code
def yJ5_getValue_6d5f1 : MethodName := ⟨RJ5, "getValue", "()[B"⟩
abbrev cJ5_isLatin1_aae02 : ByteArray := prog_14_method_68_code
def yJ5_isLatin1_aae02 : MethodName := ⟨RJ5, "isLatin1", "()Z"⟩
abbrev cJ5_inflateIfNeededFor_a7421 : ByteArray := prog_14_method_71_code
def yJ5_inflateIfNeededFor_a7421 : MethodName := ⟨RJ5, "inflateIfNeededFor", "(Ljava/lang/String;)V"⟩
abbrev cJ5_putStringAt_47b60 : ByteArray := prog_14_method_73_code
def yJ5_putStringAt_47b60 : MethodName := ⟨RJ5, "putStringAt", "(ILjava/lang/String;)V"⟩
def RJx2cfe8 : String := "java/lang/Appendable"
def TJx2cfe8 : u_T := fun k => match k with
  | _ => ("", "", "", false)
def tyJx2cfe8 : Nat → FieldType := fun k => match k with
  | _ => .int
abbrev wsJx2cfe80 : List Cond := u_ws RJx2cfe8 TJx2cfe8 0
theorem nmJx2cfe8 : ∀ a, a < 0 → ∀ b, b < 0 → a ≠ b → (TJx2cfe8 a).2.1 ≠ (TJx2cfe8 b).2.1 := by decide +kernel
theorem tyJx2cfe8_ok : ∀ k, k < 0 → parseFieldDescriptor (TJx2cfe8 k).2.2.1 = some (tyJx2cfe8 k) := by decide +kernel
def RJx00060 : String := "java/lang/ArrayIndexOutOfBoundsException"
def TJx00060 : u_T := fun k => match k with
  | 0 => ("java/lang/Throwable", "backtrace", "Ljava/lang/Object;", false)
  | 1 => ("java/lang/Throwable", "detailMessage", "Ljava/lang/String;", false)
  | 2 => ("java/lang/Throwable", "cause", "Ljava/lang/Throwable;", false)
  | 3 => ("java/lang/Throwable", "stackTrace", "[Ljava/lang/StackTraceElement;", false)
  | 4 => ("java/lang/Throwable", "depth", "I", false)
  | _ => ("java/lang/Throwable", "suppressedExceptions", "Ljava/util/List;", false)
def tyJx00060 : Nat → FieldType := fun k => match k with
  | 0 => .object "java/lang/Object"
  | 1 => .object "java/lang/String"
  | 2 => .object "java/lang/Throwable"
  | 3 => .array (.object "java/lang/StackTraceElement")
  | 4 => .int
  | _ => .object "java/util/List"
abbrev wsJx000600 : List Cond := u_ws RJx00060 TJx00060 6
theorem nmJx00060 : ∀ a, a < 6 → ∀ b, b < 6 → a ≠ b → (TJx00060 a).2.1 ≠ (TJx00060 b).2.1 := by decide +kernel
theorem tyJx00060_ok : ∀ k, k < 6 → parseFieldDescriptor (TJx00060 k).2.2.1 = some (tyJx00060 k) := by decide +kernel
abbrev cJx00060_init_a7421 : ByteArray := prog_17_method_2_code
def yJx00060_init_a7421 : MethodName := ⟨RJx00060, "<init>", "(Ljava/lang/String;)V"⟩
abbrev cJx00060_init_d00df : ByteArray := prog_17_method_3_code
def yJx00060_init_d00df : MethodName := ⟨RJx00060, "<init>", "(I)V"⟩
def RJx9f9b0 : String := "java/lang/CharSequence"
def TJx9f9b0 : u_T := fun k => match k with
  | _ => ("", "", "", false)
def tyJx9f9b0 : Nat → FieldType := fun k => match k with
  | _ => .int
abbrev wsJx9f9b00 : List Cond := u_ws RJx9f9b0 TJx9f9b0 0
theorem nmJx9f9b0 : ∀ a, a < 0 → ∀ b, b < 0 → a ≠ b → (TJx9f9b0 a).2.1 ≠ (TJx9f9b0 b).2.1 := by decide +kernel
theorem tyJx9f9b0_ok : ∀ k, k < 0 → parseFieldDescriptor (TJx9f9b0 k).2.2.1 = some (tyJx9f9b0 k) := by decide +kernel
def RJx8e188 : String := "java/lang/Cloneable"
def TJx8e188 : u_T := fun k => match k with
  | _ => ("", "", "", false)
def tyJx8e188 : Nat → FieldType := fun k => match k with
  | _ => .int
abbrev wsJx8e1880 : List Cond := u_ws RJx8e188 TJx8e188 0
theorem nmJx8e188 : ∀ a, a < 0 → ∀ b, b < 0 → a ≠ b → (TJx8e188 a).2.1 ≠ (TJx8e188 b).2.1 := by decide +kernel
theorem tyJx8e188_ok : ∀ k, k < 0 → parseFieldDescriptor (TJx8e188 k).2.2.1 = some (tyJx8e188 k) := by decide +kernel
def RJxb160c : String := "java/lang/Comparable"
def TJxb160c : u_T := fun k => match k with
  | _ => ("", "", "", false)
def tyJxb160c : Nat → FieldType := fun k => match k with
  | _ => .int
abbrev wsJxb160c0 : List Cond := u_ws RJxb160c TJxb160c 0
theorem nmJxb160c : ∀ a, a < 0 → ∀ b, b < 0 → a ≠ b → (TJxb160c a).2.1 ≠ (TJxb160c b).2.1 := by decide +kernel
theorem tyJxb160c_ok : ∀ k, k < 0 → parseFieldDescriptor (TJxb160c k).2.2.1 = some (tyJxb160c k) := by decide +kernel
def RJx29ce0 : String := "java/lang/Enum"
def TJx29ce0 : u_T := fun k => match k with
  | _ => ("", "", "", false)
def tyJx29ce0 : Nat → FieldType := fun k => match k with
  | _ => .int
abbrev wsJx29ce00 : List Cond := u_ws RJx29ce0 TJx29ce0 0
theorem nmJx29ce0 : ∀ a, a < 0 → ∀ b, b < 0 → a ≠ b → (TJx29ce0 a).2.1 ≠ (TJx29ce0 b).2.1 := by decide +kernel
theorem tyJx29ce0_ok : ∀ k, k < 0 → parseFieldDescriptor (TJx29ce0 k).2.2.1 = some (tyJx29ce0 k) := by decide +kernel
abbrev cJx29ce0_ordinal_8abf5 : ByteArray := prog_21_method_2_code
def yJx29ce0_ordinal_8abf5 : MethodName := ⟨RJx29ce0, "ordinal", "()I"⟩
def RJ6 : String := "java/lang/Integer"
def TJ6 : u_T := fun k => match k with
  | _ => ("", "", "", false)
def tyJ6 : Nat → FieldType := fun k => match k with
  | _ => .int
abbrev wsJ60 : List Cond := u_ws RJ6 TJ6 0
theorem nmJ6 : ∀ a, a < 0 → ∀ b, b < 0 → a ≠ b → (TJ6 a).2.1 ≠ (TJ6 b).2.1 := by decide +kernel
theorem tyJ6_ok : ∀ k, k < 0 → parseFieldDescriptor (TJ6 k).2.2.1 = some (tyJ6 k) := by decide +kernel
abbrev cJ6_getChars_ba4f3 : ByteArray := prog_26_method_12_code
def yJ6_getChars_ba4f3 : MethodName := ⟨RJ6, "getChars", "(II[B)I"⟩
abbrev cJ6_stringSize_0f7a4 : ByteArray := prog_26_method_13_code
def yJ6_stringSize_0f7a4 : MethodName := ⟨RJ6, "stringSize", "(I)I"⟩
abbrev cJ6_bitCount_0f7a4 : ByteArray := prog_26_method_49_code
def yJ6_bitCount_0f7a4 : MethodName := ⟨RJ6, "bitCount", "(I)I"⟩
def RJ9 : String := "java/lang/Math"
def TJ9 : u_T := fun k => match k with
  | _ => ("", "", "", false)
def tyJ9 : Nat → FieldType := fun k => match k with
  | _ => .int
abbrev wsJ90 : List Cond := u_ws RJ9 TJ9 0
theorem nmJ9 : ∀ a, a < 0 → ∀ b, b < 0 → a ≠ b → (TJ9 a).2.1 ≠ (TJ9 b).2.1 := by decide +kernel
theorem tyJ9_ok : ∀ k, k < 0 → parseFieldDescriptor (TJ9 k).2.2.1 = some (tyJ9 k) := by decide +kernel
abbrev cJ9_max_7cf53 : ByteArray := prog_27_method_65_code
def yJ9_max_7cf53 : MethodName := ⟨RJ9, "max", "(II)I"⟩
abbrev cJ9_min_7cf53 : ByteArray := prog_27_method_69_code
def yJ9_min_7cf53 : MethodName := ⟨RJ9, "min", "(II)I"⟩
def RJxd2413 : String := "java/lang/Number"
def TJxd2413 : u_T := fun k => match k with
  | _ => ("", "", "", false)
def tyJxd2413 : Nat → FieldType := fun k => match k with
  | _ => .int
abbrev wsJxd24130 : List Cond := u_ws RJxd2413 TJxd2413 0
theorem nmJxd2413 : ∀ a, a < 0 → ∀ b, b < 0 → a ≠ b → (TJxd2413 a).2.1 ≠ (TJxd2413 b).2.1 := by decide +kernel
theorem tyJxd2413_ok : ∀ k, k < 0 → parseFieldDescriptor (TJxd2413 k).2.2.1 = some (tyJxd2413 k) := by decide +kernel
def RJ0 : String := "java/lang/String"
def TJ0 : u_T := fun k => match k with
  | 0 => ("java/lang/String", "value", "[B", true)
  | 1 => ("java/lang/String", "coder", "B", true)
  | 2 => ("java/lang/String", "hash", "I", false)
  | _ => ("java/lang/String", "hashIsZero", "Z", false)
def tyJ0 : Nat → FieldType := fun k => match k with
  | 0 => .array .byte
  | 1 => .byte
  | 2 => .int
  | _ => .boolean
abbrev wsJ00 : List Cond := u_ws RJ0 TJ0 4
theorem nmJ0 : ∀ a, a < 4 → ∀ b, b < 4 → a ≠ b → (TJ0 a).2.1 ≠ (TJ0 b).2.1 := by decide +kernel
theorem tyJ0_ok : ∀ k, k < 4 → parseFieldDescriptor (TJ0 k).2.2.1 = some (tyJ0 k) := by decide +kernel
abbrev cJ0_init_81219 : ByteArray := prog_30_method_53_code
def yJ0_init_81219 : MethodName := ⟨RJ0, "<init>", "(Ljava/lang/StringBuilder;)V"⟩
abbrev cJ0_length_8abf5 : ByteArray := prog_30_method_54_code
def yJ0_length_8abf5 : MethodName := ⟨RJ0, "length", "()I"⟩
abbrev cJ0_charAt_5068e : ByteArray := prog_30_method_56_code
def yJ0_charAt_5068e : MethodName := ⟨RJ0, "charAt", "(I)C"⟩
abbrev cJ0_getBytes_840e7 : ByteArray := prog_30_method_147_code
def yJ0_getBytes_840e7 : MethodName := ⟨RJ0, "getBytes", "([BIB)V"⟩
abbrev cJ0_init_db425 : ByteArray := prog_30_method_150_code
def yJ0_init_db425 : MethodName := ⟨RJ0, "<init>", "(Ljava/lang/AbstractStringBuilder;Ljava/lang/Void;)V"⟩
abbrev cJ0_coder_7d493 : ByteArray := prog_30_method_152_code
def yJ0_coder_7d493 : MethodName := ⟨RJ0, "coder", "()B"⟩
abbrev cJ0_isLatin1_aae02 : ByteArray := prog_30_method_154_code
def yJ0_isLatin1_aae02 : MethodName := ⟨RJ0, "isLatin1", "()Z"⟩
abbrev cJ0_checkIndex_df160 : ByteArray := prog_30_method_155_code
def yJ0_checkIndex_df160 : MethodName := ⟨RJ0, "checkIndex", "(II)V"⟩
abbrev cJ0_checkBoundsOffCount_cabcc : ByteArray := prog_30_method_157_code
def yJ0_checkBoundsOffCount_cabcc : MethodName := ⟨RJ0, "checkBoundsOffCount", "(III)I"⟩
abbrev cJ0_checkBoundsBeginEnd_23922 : ByteArray := prog_30_method_158_code
def yJ0_checkBoundsBeginEnd_23922 : MethodName := ⟨RJ0, "checkBoundsBeginEnd", "(III)V"⟩
def RJ4 : String := "java/lang/StringBuilder"
def TJ4 : u_T := fun k => match k with
  | 0 => ("java/lang/AbstractStringBuilder", "value", "[B", false)
  | 1 => ("java/lang/AbstractStringBuilder", "coder", "B", false)
  | 2 => ("java/lang/AbstractStringBuilder", "maybeLatin1", "Z", false)
  | _ => ("java/lang/AbstractStringBuilder", "count", "I", false)
def tyJ4 : Nat → FieldType := fun k => match k with
  | 0 => .array .byte
  | 1 => .byte
  | 2 => .boolean
  | _ => .int
abbrev wsJ40 : List Cond := u_ws RJ4 TJ4 4
theorem nmJ4 : ∀ a, a < 4 → ∀ b, b < 4 → a ≠ b → (TJ4 a).2.1 ≠ (TJ4 b).2.1 := by decide +kernel
theorem tyJ4_ok : ∀ k, k < 4 → parseFieldDescriptor (TJ4 k).2.2.1 = some (tyJ4 k) := by decide +kernel
abbrev cJ4_init_da8c8 : ByteArray := prog_31_method_1_code
def yJ4_init_da8c8 : MethodName := ⟨RJ4, "<init>", "()V"⟩
abbrev cJ4_append_15ec4 : ByteArray := prog_31_method_7_code
def yJ4_append_15ec4 : MethodName := ⟨RJ4, "append", "(Ljava/lang/String;)Ljava/lang/StringBuilder;"⟩
abbrev cJ4_append_cf468 : ByteArray := prog_31_method_14_code
def yJ4_append_cf468 : MethodName := ⟨RJ4, "append", "(C)Ljava/lang/StringBuilder;"⟩
abbrev cJ4_append_bf812 : ByteArray := prog_31_method_15_code
def yJ4_append_bf812 : MethodName := ⟨RJ4, "append", "(I)Ljava/lang/StringBuilder;"⟩
abbrev cJ4_toString_0e30d : ByteArray := prog_31_method_42_code
def yJ4_toString_0e30d : MethodName := ⟨RJ4, "toString", "()Ljava/lang/String;"⟩
abbrev cJ4_setLength_d00df : ByteArray := prog_31_method_89_code
def yJ4_setLength_d00df : MethodName := ⟨RJ4, "setLength", "(I)V"⟩
abbrev cJ4_length_8abf5 : ByteArray := prog_31_method_93_code
def yJ4_length_8abf5 : MethodName := ⟨RJ4, "length", "()I"⟩
def RJx7c733 : String := "java/lang/StringIndexOutOfBoundsException"
def TJx7c733 : u_T := fun k => match k with
  | 0 => ("java/lang/Throwable", "backtrace", "Ljava/lang/Object;", false)
  | 1 => ("java/lang/Throwable", "detailMessage", "Ljava/lang/String;", false)
  | 2 => ("java/lang/Throwable", "cause", "Ljava/lang/Throwable;", false)
  | 3 => ("java/lang/Throwable", "stackTrace", "[Ljava/lang/StackTraceElement;", false)
  | 4 => ("java/lang/Throwable", "depth", "I", false)
  | _ => ("java/lang/Throwable", "suppressedExceptions", "Ljava/util/List;", false)
def tyJx7c733 : Nat → FieldType := fun k => match k with
  | 0 => .object "java/lang/Object"
  | 1 => .object "java/lang/String"
  | 2 => .object "java/lang/Throwable"
  | 3 => .array (.object "java/lang/StackTraceElement")
  | 4 => .int
  | _ => .object "java/util/List"
abbrev wsJx7c7330 : List Cond := u_ws RJx7c733 TJx7c733 6
theorem nmJx7c733 : ∀ a, a < 6 → ∀ b, b < 6 → a ≠ b → (TJx7c733 a).2.1 ≠ (TJx7c733 b).2.1 := by decide +kernel
theorem tyJx7c733_ok : ∀ k, k < 6 → parseFieldDescriptor (TJx7c733 k).2.2.1 = some (tyJx7c733 k) := by decide +kernel
abbrev cJx7c733_init_d00df : ByteArray := prog_32_method_3_code
def yJx7c733_init_d00df : MethodName := ⟨RJx7c733, "<init>", "(I)V"⟩
def RJ1 : String := "java/lang/StringLatin1"
def TJ1 : u_T := fun k => match k with
  | _ => ("", "", "", false)
def tyJ1 : Nat → FieldType := fun k => match k with
  | _ => .int
abbrev wsJ10 : List Cond := u_ws RJ1 TJ1 0
theorem nmJ1 : ∀ a, a < 0 → ∀ b, b < 0 → a ≠ b → (TJ1 a).2.1 ≠ (TJ1 b).2.1 := by decide +kernel
theorem tyJ1_ok : ∀ k, k < 0 → parseFieldDescriptor (TJ1 k).2.2.1 = some (tyJ1 k) := by decide +kernel
abbrev cJ1_charAt_3b067 : ByteArray := prog_33_method_2_code
def yJ1_charAt_3b067 : MethodName := ⟨RJ1, "charAt", "([BI)C"⟩
abbrev cJ1_canEncode_fc78d : ByteArray := prog_33_method_3_code
def yJ1_canEncode_fc78d : MethodName := ⟨RJ1, "canEncode", "(C)Z"⟩
abbrev cJ1_fillNull_b72d1 : ByteArray := prog_33_method_48_code
def yJ1_fillNull_b72d1 : MethodName := ⟨RJ1, "fillNull", "([BII)V"⟩
abbrev cJ1_inflate_0e8fd : ByteArray := prog_33_method_50_code
def yJ1_inflate_0e8fd : MethodName := ⟨RJ1, "inflate", "([BI[BII)V"⟩
def RJ2 : String := "java/lang/StringUTF16"
def TJ2 : u_T := fun k => match k with
  | _ => ("", "", "", false)
def tyJ2 : Nat → FieldType := fun k => match k with
  | _ => .int
abbrev wsJ20 : List Cond := u_ws RJ2 TJ2 0
theorem nmJ2 : ∀ a, a < 0 → ∀ b, b < 0 → a ≠ b → (TJ2 a).2.1 ≠ (TJ2 b).2.1 := by decide +kernel
theorem tyJ2_ok : ∀ k, k < 0 → parseFieldDescriptor (TJ2 k).2.2.1 = some (tyJ2 k) := by decide +kernel
abbrev cJ2_newBytesFor_77867 : ByteArray := prog_34_method_2_code
def yJ2_newBytesFor_77867 : MethodName := ⟨RJ2, "newBytesFor", "(I)[B"⟩
abbrev cJ2_newBytesLength_0f7a4 : ByteArray := prog_34_method_3_code
def yJ2_newBytesLength_0f7a4 : MethodName := ⟨RJ2, "newBytesLength", "(I)I"⟩
abbrev cJ2_putChar_b72d1 : ByteArray := prog_34_method_4_code
def yJ2_putChar_b72d1 : MethodName := ⟨RJ2, "putChar", "([BII)V"⟩
abbrev cJ2_getChar_3b067 : ByteArray := prog_34_method_5_code
def yJ2_getChar_3b067 : MethodName := ⟨RJ2, "getChar", "([BI)C"⟩
abbrev cJ2_length_9d52b : ByteArray := prog_34_method_6_code
def yJ2_length_9d52b : MethodName := ⟨RJ2, "length", "([B)I"⟩
abbrev cJ2_coderFromArrayLen_85cad : ByteArray := prog_34_method_15_code
def yJ2_coderFromArrayLen_85cad : MethodName := ⟨RJ2, "coderFromArrayLen", "([BI)B"⟩
abbrev cJ2_compress_39247 : ByteArray := prog_34_method_17_code
def yJ2_compress_39247 : MethodName := ⟨RJ2, "compress", "([BII)[B"⟩
abbrev cJ2_compress_5af95 : ByteArray := prog_34_method_22_code
def yJ2_compress_5af95 : MethodName := ⟨RJ2, "compress", "([BI[BII)I"⟩
abbrev cJ2_fillNull_b72d1 : ByteArray := prog_34_method_70_code
def yJ2_fillNull_b72d1 : MethodName := ⟨RJ2, "fillNull", "([BII)V"⟩
abbrev cJ2_putCharSB_b72d1 : ByteArray := prog_34_method_71_code
def yJ2_putCharSB_b72d1 : MethodName := ⟨RJ2, "putCharSB", "([BII)V"⟩
abbrev cJ2_getChars_46870 : ByteArray := prog_34_method_77_code
def yJ2_getChars_46870 : MethodName := ⟨RJ2, "getChars", "(III[B)I"⟩
abbrev cJ2_putCharsAt_cd4e5 : ByteArray := prog_34_method_81_code
def yJ2_putCharsAt_cd4e5 : MethodName := ⟨RJ2, "putCharsAt", "([BICCCC)I"⟩
abbrev cJ2_charAt_3b067 : ByteArray := prog_34_method_83_code
def yJ2_charAt_3b067 : MethodName := ⟨RJ2, "charAt", "([BI)C"⟩
abbrev cJ2_inflate_0e8fd : ByteArray := prog_34_method_86_code
def yJ2_inflate_0e8fd : MethodName := ⟨RJ2, "inflate", "([BI[BII)V"⟩
abbrev cJ2_getChars_ba4f3 : ByteArray := prog_34_method_89_code
def yJ2_getChars_ba4f3 : MethodName := ⟨RJ2, "getChars", "(II[B)I"⟩
abbrev cJ2_checkIndex_2214a : ByteArray := prog_34_method_91_code
def yJ2_checkIndex_2214a : MethodName := ⟨RJ2, "checkIndex", "(I[B)V"⟩
abbrev cJ2_checkBoundsBeginEnd_d044e : ByteArray := prog_34_method_93_code
def yJ2_checkBoundsBeginEnd_d044e : MethodName := ⟨RJ2, "checkBoundsBeginEnd", "(II[B)V"⟩
abbrev cJ2_checkBoundsOffCount_d044e : ByteArray := prog_34_method_94_code
def yJ2_checkBoundsOffCount_d044e : MethodName := ⟨RJ2, "checkBoundsOffCount", "(II[B)V"⟩
def RJ10 : String := "java/lang/System"
def TJ10 : u_T := fun k => match k with
  | _ => ("", "", "", false)
def tyJ10 : Nat → FieldType := fun k => match k with
  | _ => .int
abbrev wsJ100 : List Cond := u_ws RJ10 TJ10 0
theorem nmJ10 : ∀ a, a < 0 → ∀ b, b < 0 → a ≠ b → (TJ10 a).2.1 ≠ (TJ10 b).2.1 := by decide +kernel
theorem tyJ10_ok : ∀ k, k < 0 → parseFieldDescriptor (TJ10 k).2.2.1 = some (tyJ10 k) := by decide +kernel
def RJxfd54e : String := "java/lang/constant/Constable"
def TJxfd54e : u_T := fun k => match k with
  | _ => ("", "", "", false)
def tyJxfd54e : Nat → FieldType := fun k => match k with
  | _ => .int
abbrev wsJxfd54e0 : List Cond := u_ws RJxfd54e TJxfd54e 0
theorem nmJxfd54e : ∀ a, a < 0 → ∀ b, b < 0 → a ≠ b → (TJxfd54e a).2.1 ≠ (TJxfd54e b).2.1 := by decide +kernel
theorem tyJxfd54e_ok : ∀ k, k < 0 → parseFieldDescriptor (TJxfd54e k).2.2.1 = some (tyJxfd54e k) := by decide +kernel
def RJx3cf43 : String := "java/lang/constant/ConstantDesc"
def TJx3cf43 : u_T := fun k => match k with
  | _ => ("", "", "", false)
def tyJx3cf43 : Nat → FieldType := fun k => match k with
  | _ => .int
abbrev wsJx3cf430 : List Cond := u_ws RJx3cf43 TJx3cf43 0
theorem nmJx3cf43 : ∀ a, a < 0 → ∀ b, b < 0 → a ≠ b → (TJx3cf43 a).2.1 ≠ (TJx3cf43 b).2.1 := by decide +kernel
theorem tyJx3cf43_ok : ∀ k, k < 0 → parseFieldDescriptor (TJx3cf43 k).2.2.1 = some (tyJx3cf43 k) := by decide +kernel
def RJ7 : String := "java/util/Arrays"
def TJ7 : u_T := fun k => match k with
  | _ => ("", "", "", false)
def tyJ7 : Nat → FieldType := fun k => match k with
  | _ => .int
abbrev wsJ70 : List Cond := u_ws RJ7 TJ7 0
theorem nmJ7 : ∀ a, a < 0 → ∀ b, b < 0 → a ≠ b → (TJ7 a).2.1 ≠ (TJ7 b).2.1 := by decide +kernel
theorem tyJ7_ok : ∀ k, k < 0 → parseFieldDescriptor (TJ7 k).2.2.1 = some (tyJ7 k) := by decide +kernel
abbrev cJ7_rangeCheck_23922 : ByteArray := prog_40_method_30_code
def yJ7_rangeCheck_23922 : MethodName := ⟨RJ7, "rangeCheck", "(III)V"⟩
abbrev cJ7_fill_53178 : ByteArray := prog_40_method_103_code
def yJ7_fill_53178 : MethodName := ⟨RJ7, "fill", "([II)V"⟩
abbrev cJ7_fill_eb02e : ByteArray := prog_40_method_110_code
def yJ7_fill_eb02e : MethodName := ⟨RJ7, "fill", "([BIIB)V"⟩
abbrev cJ7_copyOf_9075b : ByteArray := prog_40_method_121_code
def yJ7_copyOf_9075b : MethodName := ⟨RJ7, "copyOf", "([BI)[B"⟩
abbrev cJ7_checkLength_df160 : ByteArray := prog_40_method_131_code
def yJ7_checkLength_df160 : MethodName := ⟨RJ7, "checkLength", "(II)V"⟩
abbrev cJ7_copyOfRange_39247 : ByteArray := prog_40_method_132_code
def yJ7_copyOfRange_39247 : MethodName := ⟨RJ7, "copyOfRange", "([BII)[B"⟩
abbrev cJ7_copyOfRangeByte_39247 : ByteArray := prog_40_method_133_code
def yJ7_copyOfRangeByte_39247 : MethodName := ⟨RJ7, "copyOfRangeByte", "([BII)[B"⟩
def RJ8 : String := "jdk/internal/util/ArraysSupport"
def TJ8 : u_T := fun k => match k with
  | _ => ("", "", "", false)
def tyJ8 : Nat → FieldType := fun k => match k with
  | _ => .int
abbrev wsJ80 : List Cond := u_ws RJ8 TJ8 0
theorem nmJ8 : ∀ a, a < 0 → ∀ b, b < 0 → a ≠ b → (TJ8 a).2.1 ≠ (TJ8 b).2.1 := by decide +kernel
theorem tyJ8_ok : ∀ k, k < 0 → parseFieldDescriptor (TJ8 k).2.2.1 = some (tyJ8 k) := by decide +kernel
abbrev cJ8_newLength_cabcc : ByteArray := prog_42_method_27_code
def yJ8_newLength_cabcc : MethodName := ⟨RJ8, "newLength", "(III)I"⟩
abbrev cJ8_hugeLength_7cf53 : ByteArray := prog_42_method_28_code
def yJ8_hugeLength_7cf53 : MethodName := ⟨RJ8, "hugeLength", "(II)I"⟩
def RJ3 : String := "jdk/internal/util/Preconditions"
def TJ3 : u_T := fun k => match k with
  | _ => ("", "", "", false)
def tyJ3 : Nat → FieldType := fun k => match k with
  | _ => .int
abbrev wsJ30 : List Cond := u_ws RJ3 TJ3 0
theorem nmJ3 : ∀ a, a < 0 → ∀ b, b < 0 → a ≠ b → (TJ3 a).2.1 ≠ (TJ3 b).2.1 := by decide +kernel
theorem tyJ3_ok : ∀ k, k < 0 → parseFieldDescriptor (TJ3 k).2.2.1 = some (tyJ3 k) := by decide +kernel
abbrev cJ3_checkIndex_8e157 : ByteArray := prog_43_method_11_code
def yJ3_checkIndex_8e157 : MethodName := ⟨RJ3, "checkIndex", "(IILjava/util/function/BiFunction;)I"⟩
abbrev cJ3_checkFromToIndex_8c36e : ByteArray := prog_43_method_12_code
def yJ3_checkFromToIndex_8c36e : MethodName := ⟨RJ3, "checkFromToIndex", "(IIILjava/util/function/BiFunction;)I"⟩
abbrev cJ3_checkFromIndexSize_8c36e : ByteArray := prog_43_method_13_code
def yJ3_checkFromIndexSize_8c36e : MethodName := ⟨RJ3, "checkFromIndexSize", "(IIILjava/util/function/BiFunction;)I"⟩
def RL : String := "InterlockingBoxLaw"
abbrev cL_cell : ByteArray := method_2_code
def yL_cell : MethodName := ⟨RL, "cell", "([II)I"⟩
abbrev cL_pick : ByteArray := method_3_code
def yL_pick : MethodName := ⟨RL, "pick", "([III)I"⟩
abbrev cL_addBlock : ByteArray := method_4_code
def yL_addBlock : MethodName := ⟨RL, "addBlock", "(LInterlockingBox;I)I"⟩
abbrev cL_addPoint : ByteArray := method_5_code
def yL_addPoint : MethodName := ⟨RL, "addPoint", "(LInterlockingBox;III)I"⟩
abbrev cL_addLink : ByteArray := method_6_code
def yL_addLink : MethodName := ⟨RL, "addLink", "(LInterlockingBox;II)I"⟩
abbrev cL_shut : ByteArray := method_7_code
def yL_shut : MethodName := ⟨RL, "shut", "(LInterlockingBox;I)I"⟩
abbrev cL_open : ByteArray := method_8_code
def yL_open : MethodName := ⟨RL, "open", "(LInterlockingBox;I)I"⟩
abbrev cL_throwPoint : ByteArray := method_9_code
def yL_throwPoint : MethodName := ⟨RL, "throwPoint", "(LInterlockingBox;I)I"⟩
abbrev cL_addTrain : ByteArray := method_10_code
def yL_addTrain : MethodName := ⟨RL, "addTrain", "(LInterlockingBox;II)I"⟩
abbrev cL_setRoute : ByteArray := method_11_code
def yL_setRoute : MethodName := ⟨RL, "setRoute", "(LInterlockingBox;I)I"⟩
abbrev cL_releaseRoute : ByteArray := method_12_code
def yL_releaseRoute : MethodName := ⟨RL, "releaseRoute", "(LInterlockingBox;I)I"⟩
abbrev cL_pass : ByteArray := method_13_code
def yL_pass : MethodName := ⟨RL, "pass", "(LInterlockingBox;I)I"⟩
abbrev cL_blockLength : ByteArray := method_14_code
def yL_blockLength : MethodName := ⟨RL, "blockLength", "(LInterlockingBox;I)I"⟩
abbrev cL_blockState : ByteArray := method_15_code
def yL_blockState : MethodName := ⟨RL, "blockState", "(LInterlockingBox;I)I"⟩
abbrev cL_trainAt : ByteArray := method_16_code
def yL_trainAt : MethodName := ⟨RL, "trainAt", "(LInterlockingBox;I)I"⟩
abbrev cL_liesLeft : ByteArray := method_17_code
def yL_liesLeft : MethodName := ⟨RL, "liesLeft", "(LInterlockingBox;I)I"⟩
abbrev cL_lockedBy : ByteArray := method_18_code
def yL_lockedBy : MethodName := ⟨RL, "lockedBy", "(LInterlockingBox;I)I"⟩
abbrev cL_routeLength : ByteArray := method_19_code
def yL_routeLength : MethodName := ⟨RL, "routeLength", "(LInterlockingBox;II)I"⟩
abbrev cL_routeLengthByPaths : ByteArray := method_20_code
def yL_routeLengthByPaths : MethodName := ⟨RL, "routeLengthByPaths", "(LInterlockingBox;II)I"⟩
abbrev cL_routeBlock : ByteArray := method_21_code
def yL_routeBlock : MethodName := ⟨RL, "routeBlock", "(LInterlockingBox;III)I"⟩
abbrev cL_paths : ByteArray := method_22_code
def yL_paths : MethodName := ⟨RL, "paths", "(LInterlockingBox;II)I"⟩
abbrev cL_blockOf : ByteArray := method_23_code
def yL_blockOf : MethodName := ⟨RL, "blockOf", "(LInterlockingBox;I)I"⟩
abbrev cL_destination : ByteArray := method_24_code
def yL_destination : MethodName := ⟨RL, "destination", "(LInterlockingBox;I)I"⟩
abbrev cL_hasRoute : ByteArray := method_25_code
def yL_hasRoute : MethodName := ⟨RL, "hasRoute", "(LInterlockingBox;I)I"⟩
abbrev cL_isClear : ByteArray := method_26_code
def yL_isClear : MethodName := ⟨RL, "isClear", "(LInterlockingBox;I)I"⟩
abbrev cL_minutesUntilNext : ByteArray := method_27_code
def yL_minutesUntilNext : MethodName := ⟨RL, "minutesUntilNext", "(LInterlockingBox;I)I"⟩
abbrev cL_minutesUntilArrival : ByteArray := method_28_code
def yL_minutesUntilArrival : MethodName := ⟨RL, "minutesUntilArrival", "(LInterlockingBox;I)I"⟩
abbrev cL_minutesUntilArrivalByPassing : ByteArray := method_29_code
def yL_minutesUntilArrivalByPassing : MethodName := ⟨RL, "minutesUntilArrivalByPassing", "(LInterlockingBox;I)I"⟩
abbrev cL_delay : ByteArray := method_30_code
def yL_delay : MethodName := ⟨RL, "delay", "(LInterlockingBox;I)I"⟩
abbrev cL_queued : ByteArray := method_31_code
def yL_queued : MethodName := ⟨RL, "queued", "(LInterlockingBox;I)I"⟩
abbrev cL_waitsFor : ByteArray := method_32_code
def yL_waitsFor : MethodName := ⟨RL, "waitsFor", "(LInterlockingBox;II)I"⟩
abbrev cL_conflict : ByteArray := method_33_code
def yL_conflict : MethodName := ⟨RL, "conflict", "(LInterlockingBox;II)I"⟩
abbrev cL_refusalReason : ByteArray := method_34_code
def yL_refusalReason : MethodName := ⟨RL, "refusalReason", "(LInterlockingBox;)I"⟩
abbrev cL_refusalBlock : ByteArray := method_35_code
def yL_refusalBlock : MethodName := ⟨RL, "refusalBlock", "(LInterlockingBox;)I"⟩
abbrev cL_meanDelay : ByteArray := method_36_code
def yL_meanDelay : MethodName := ⟨RL, "meanDelay", "(LInterlockingBox;)D"⟩
abbrev cL_usedShare : ByteArray := method_37_code
def yL_usedShare : MethodName := ⟨RL, "usedShare", "(LInterlockingBox;)F"⟩
abbrev cL_writeTrain : ByteArray := method_38_code
def yL_writeTrain : MethodName := ⟨RL, "writeTrain", "(LInterlockingBox;I)I"⟩
abbrev cL_type : ByteArray := method_40_code
def yL_type : MethodName := ⟨RL, "type", "(LInterlockingBox;C)I"⟩
abbrev cL_run : ByteArray := method_41_code
def yL_run : MethodName := ⟨RL, "run", "(LInterlockingBox;)I"⟩
abbrev cL_undo : ByteArray := method_44_code
def yL_undo : MethodName := ⟨RL, "undo", "(LInterlockingBox;)I"⟩
abbrev cL_restore : ByteArray := method_45_code
def yL_restore : MethodName := ⟨RL, "restore", "(LInterlockingBox;)I"⟩
abbrev cL_runs : ByteArray := method_46_code
def yL_runs : MethodName := ⟨RL, "runs", "(LInterlockingBox;Ljava/lang/String;)I"⟩
abbrev cL_law : ByteArray := code
def yL_law : MethodName := ⟨RL, "law", "([I)Z"⟩
abbrev cL_trainOf : ByteArray := method_50_code
def yL_trainOf : MethodName := ⟨RL, "trainOf", "(LInterlockingBox;IIZ)I"⟩
abbrev cL_waiting : ByteArray := method_51_code
def yL_waiting : MethodName := ⟨RL, "waiting", "(LInterlockingBox;)I"⟩
abbrev cL_does : ByteArray := method_52_code
def yL_does : MethodName := ⟨RL, "does", "([IIILInterlockingBox;II)I"⟩
abbrev cL_sum : ByteArray := method_53_code
def yL_sum : MethodName := ⟨RL, "sum", "(LInterlockingBox;)J"⟩
abbrev cL_isRoute : ByteArray := method_54_code
def yL_isRoute : MethodName := ⟨RL, "isRoute", "(LInterlockingBox;II)Z"⟩
abbrev cL_isTrain : ByteArray := method_55_code
def yL_isTrain : MethodName := ⟨RL, "isTrain", "(LInterlockingBox;II)Z"⟩
abbrev cL_isWhole : ByteArray := method_56_code
def yL_isWhole : MethodName := ⟨RL, "isWhole", "(LInterlockingBox;[IIIZ)Z"⟩
abbrev cL_isKept : ByteArray := method_57_code
def yL_isKept : MethodName := ⟨RL, "isKept", "(LInterlockingBox;[JI)Z"⟩
