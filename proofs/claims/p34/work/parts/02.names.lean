def RX0 : String := "RoadOracle$Hierarchy"
def TX0 : u_T := fun k => match k with
  | 0 => ("RoadOracle$Hierarchy", "network", "LRoadOracle$Network;", true)
  | 1 => ("RoadOracle$Hierarchy", "built", "Z", false)
  | 2 => ("RoadOracle$Hierarchy", "roads", "I", false)
  | 3 => ("RoadOracle$Hierarchy", "arcs", "I", false)
  | 4 => ("RoadOracle$Hierarchy", "shortcuts", "I", false)
  | 5 => ("RoadOracle$Hierarchy", "positions", "[I", true)
  | 6 => ("RoadOracle$Hierarchy", "order", "[I", true)
  | 7 => ("RoadOracle$Hierarchy", "heads", "[J", true)
  | 8 => ("RoadOracle$Hierarchy", "tails", "[J", true)
  | 9 => ("RoadOracle$Hierarchy", "lengths", "[I", true)
  | 10 => ("RoadOracle$Hierarchy", "steps", "[I", true)
  | 11 => ("RoadOracle$Hierarchy", "staleHeads", "[J", true)
  | _ => ("RoadOracle$Hierarchy", "staleTails", "[J", true)
def tyX0 : Nat → FieldType := fun k => match k with
  | 0 => .object "RoadOracle$Network"
  | 1 => .boolean
  | 2 => .int
  | 3 => .int
  | 4 => .int
  | 5 => .array .int
  | 6 => .array .int
  | 7 => .array .long
  | 8 => .array .long
  | 9 => .array .int
  | 10 => .array .int
  | 11 => .array .long
  | _ => .array .long
abbrev wsX00 : List Cond := u_ws RX0 TX0 13
theorem nmX0 : ∀ a, a < 13 → ∀ b, b < 13 → a ≠ b → (TX0 a).2.1 ≠ (TX0 b).2.1 := by decide +kernel
theorem tyX0_ok : ∀ k, k < 13 → parseFieldDescriptor (TX0 k).2.2.1 = some (tyX0 k) := by decide +kernel
abbrev cX0_init : ByteArray := prog_2_method_1_code
def yX0_init : MethodName := ⟨RX0, "<init>", "(LRoadOracle$Network;)V"⟩
abbrev cX0_build : ByteArray := prog_2_method_2_code
def yX0_build : MethodName := ⟨RX0, "build", "()V"⟩
abbrev cX0_linkTurns : ByteArray := prog_2_method_3_code
def yX0_linkTurns : MethodName := ⟨RX0, "linkTurns", "()I"⟩
abbrev cX0_cheapest : ByteArray := prog_2_method_4_code
def yX0_cheapest : MethodName := ⟨RX0, "cheapest", "(J)I"⟩
abbrev cX0_bridge : ByteArray := prog_2_method_5_code
def yX0_bridge : MethodName := ⟨RX0, "bridge", "(JJ)V"⟩
abbrev cX0_renewRoad : ByteArray := prog_2_method_6_code
def yX0_renewRoad : MethodName := ⟨RX0, "renewRoad", "(I)I"⟩
abbrev cX0_renewTurn : ByteArray := prog_2_method_7_code
def yX0_renewTurn : MethodName := ⟨RX0, "renewTurn", "(II)I"⟩
abbrev cX0_renewAll : ByteArray := prog_2_method_8_code
def yX0_renewAll : MethodName := ⟨RX0, "renewAll", "()I"⟩
abbrev cX0_renewSteps : ByteArray := prog_2_method_9_code
def yX0_renewSteps : MethodName := ⟨RX0, "renewSteps", "(JJ)V"⟩
abbrev cX0_renewStepsFrom : ByteArray := prog_2_method_10_code
def yX0_renewStepsFrom : MethodName := ⟨RX0, "renewStepsFrom", "(IJ)V"⟩
abbrev cX0_markArc : ByteArray := prog_2_method_11_code
def yX0_markArc : MethodName := ⟨RX0, "markArc", "(II)V"⟩
abbrev cX0_settle : ByteArray := prog_2_method_12_code
def yX0_settle : MethodName := ⟨RX0, "settle", "()I"⟩
abbrev cX0_settleArc : ByteArray := prog_2_method_13_code
def yX0_settleArc : MethodName := ⟨RX0, "settleArc", "(II)I"⟩
abbrev cX0_computeArc : ByteArray := prog_2_method_14_code
def yX0_computeArc : MethodName := ⟨RX0, "computeArc", "(II)I"⟩
abbrev cX0_markAbove : ByteArray := prog_2_method_15_code
def yX0_markAbove : MethodName := ⟨RX0, "markAbove", "(II)V"⟩
abbrev cX0_spreadForward : ByteArray := prog_2_method_16_code
def yX0_spreadForward : MethodName := ⟨RX0, "spreadForward", "([I)V"⟩
abbrev cX0_passOn : ByteArray := prog_2_method_17_code
def yX0_passOn : MethodName := ⟨RX0, "passOn", "([IIII)V"⟩
def RX1 : String := "RoadOracle$Levels"
def TX1 : u_T := fun k => match k with
  | 0 => ("RoadOracle$Levels", "count", "I", false)
  | 1 => ("RoadOracle$Levels", "roads", "[I", true)
  | 2 => ("RoadOracle$Levels", "weights", "[I", true)
  | 3 => ("RoadOracle$Levels", "settings", "[I", true)
  | 4 => ("RoadOracle$Levels", "openRoads", "[J", true)
  | _ => ("RoadOracle$Levels", "uTurns", "[I", true)
def tyX1 : Nat → FieldType := fun k => match k with
  | 0 => .int
  | 1 => .array .int
  | 2 => .array .int
  | 3 => .array .int
  | 4 => .array .long
  | _ => .array .int
abbrev wsX10 : List Cond := u_ws RX1 TX1 6
theorem nmX1 : ∀ a, a < 6 → ∀ b, b < 6 → a ≠ b → (TX1 a).2.1 ≠ (TX1 b).2.1 := by decide +kernel
theorem tyX1_ok : ∀ k, k < 6 → parseFieldDescriptor (TX1 k).2.2.1 = some (tyX1 k) := by decide +kernel
abbrev cX1_init : ByteArray := prog_3_method_1_code
def yX1_init : MethodName := ⟨RX1, "<init>", "()V"⟩
def RX2 : String := "RoadOracle$Network"
def TX2 : u_T := fun k => match k with
  | 0 => ("RoadOracle$Network", "junctions", "I", false)
  | 1 => ("RoadOracle$Network", "roads", "I", false)
  | 2 => ("RoadOracle$Network", "begin", "[I", true)
  | 3 => ("RoadOracle$Network", "end", "[I", true)
  | 4 => ("RoadOracle$Network", "weights", "[I", true)
  | 5 => ("RoadOracle$Network", "settings", "[I", true)
  | 6 => ("RoadOracle$Network", "beginning", "[J", true)
  | 7 => ("RoadOracle$Network", "ending", "[J", true)
  | 8 => ("RoadOracle$Network", "openRoads", "J", false)
  | _ => ("RoadOracle$Network", "uTurn", "I", false)
def tyX2 : Nat → FieldType := fun k => match k with
  | 0 => .int
  | 1 => .int
  | 2 => .array .int
  | 3 => .array .int
  | 4 => .array .int
  | 5 => .array .int
  | 6 => .array .long
  | 7 => .array .long
  | 8 => .long
  | _ => .int
abbrev wsX20 : List Cond := u_ws RX2 TX2 10
theorem nmX2 : ∀ a, a < 10 → ∀ b, b < 10 → a ≠ b → (TX2 a).2.1 ≠ (TX2 b).2.1 := by decide +kernel
theorem tyX2_ok : ∀ k, k < 10 → parseFieldDescriptor (TX2 k).2.2.1 = some (tyX2 k) := by decide +kernel
abbrev cX2_init : ByteArray := prog_4_method_1_code
def yX2_init : MethodName := ⟨RX2, "<init>", "()V"⟩
abbrev cX2_append : ByteArray := prog_4_method_2_code
def yX2_append : MethodName := ⟨RX2, "append", "(III)I"⟩
abbrev cX2_openOrClose : ByteArray := prog_4_method_3_code
def yX2_openOrClose : MethodName := ⟨RX2, "openOrClose", "(IZ)V"⟩
abbrev cX2_allRoads : ByteArray := prog_4_method_4_code
def yX2_allRoads : MethodName := ⟨RX2, "allRoads", "()J"⟩
abbrev cX2_followersOf : ByteArray := prog_4_method_5_code
def yX2_followersOf : MethodName := ⟨RX2, "followersOf", "(I)J"⟩
abbrev cX2_forerunnersOf : ByteArray := prog_4_method_6_code
def yX2_forerunnersOf : MethodName := ⟨RX2, "forerunnersOf", "(I)J"⟩
abbrev cX2_penaltyOf : ByteArray := prog_4_method_7_code
def yX2_penaltyOf : MethodName := ⟨RX2, "penaltyOf", "(II)I"⟩
abbrev cX2_roadLength : ByteArray := prog_4_method_8_code
def yX2_roadLength : MethodName := ⟨RX2, "roadLength", "(I)I"⟩
abbrev cX2_stepLength : ByteArray := prog_4_method_9_code
def yX2_stepLength : MethodName := ⟨RX2, "stepLength", "(II)I"⟩
def RX3 : String := "RoadOracle"
def TX3 : u_T := fun k => match k with
  | 0 => ("RoadOracle", "network", "LRoadOracle$Network;", true)
  | 1 => ("RoadOracle", "hierarchy", "LRoadOracle$Hierarchy;", true)
  | 2 => ("RoadOracle", "levels", "LRoadOracle$Levels;", true)
  | 3 => ("RoadOracle", "places", "[Z", true)
  | 4 => ("RoadOracle", "lengths", "[I", true)
  | 5 => ("RoadOracle", "junctionLengths", "[I", true)
  | 6 => ("RoadOracle", "pathRoads", "[I", true)
  | 7 => ("RoadOracle", "pathLength", "I", false)
  | 8 => ("RoadOracle", "pathCost", "I", false)
  | 9 => ("RoadOracle", "reachedJunctions", "[I", true)
  | 10 => ("RoadOracle", "reachedCosts", "[I", true)
  | _ => ("RoadOracle", "reachedCount", "I", false)
def tyX3 : Nat → FieldType := fun k => match k with
  | 0 => .object "RoadOracle$Network"
  | 1 => .object "RoadOracle$Hierarchy"
  | 2 => .object "RoadOracle$Levels"
  | 3 => .array .boolean
  | 4 => .array .int
  | 5 => .array .int
  | 6 => .array .int
  | 7 => .int
  | 8 => .int
  | 9 => .array .int
  | 10 => .array .int
  | _ => .int
abbrev wsX30 : List Cond := u_ws RX3 TX3 12
theorem nmX3 : ∀ a, a < 12 → ∀ b, b < 12 → a ≠ b → (TX3 a).2.1 ≠ (TX3 b).2.1 := by decide +kernel
theorem tyX3_ok : ∀ k, k < 12 → parseFieldDescriptor (TX3 k).2.2.1 = some (tyX3 k) := by decide +kernel
abbrev cX3_init : ByteArray := prog_1_method_1_code
def yX3_init : MethodName := ⟨RX3, "<init>", "()V"⟩
abbrev cX3_addJunction : ByteArray := prog_1_method_2_code
def yX3_addJunction : MethodName := ⟨RX3, "addJunction", "()I"⟩
abbrev cX3_addRoad : ByteArray := prog_1_method_3_code
def yX3_addRoad : MethodName := ⟨RX3, "addRoad", "(III)I"⟩
abbrev cX3_setWeight : ByteArray := prog_1_method_4_code
def yX3_setWeight : MethodName := ⟨RX3, "setWeight", "(II)I"⟩
abbrev cX3_setOpen : ByteArray := prog_1_method_5_code
def yX3_setOpen : MethodName := ⟨RX3, "setOpen", "(IZ)I"⟩
abbrev cX3_setTurn : ByteArray := prog_1_method_6_code
def yX3_setTurn : MethodName := ⟨RX3, "setTurn", "(III)I"⟩
abbrev cX3_setUTurn : ByteArray := prog_1_method_7_code
def yX3_setUTurn : MethodName := ⟨RX3, "setUTurn", "(I)I"⟩
abbrev cX3_prepare : ByteArray := prog_1_method_13_code
def yX3_prepare : MethodName := ⟨RX3, "prepare", "()I"⟩
abbrev cX3_hasArc : ByteArray := prog_1_method_17_code
def yX3_hasArc : MethodName := ⟨RX3, "hasArc", "(II)Z"⟩
abbrev cX3_arcCost : ByteArray := prog_1_method_18_code
def yX3_arcCost : MethodName := ⟨RX3, "arcCost", "(II)I"⟩
abbrev cX3_distance : ByteArray := prog_1_method_19_code
def yX3_distance : MethodName := ⟨RX3, "distance", "(II)I"⟩
abbrev cX3_requireJunction : ByteArray := prog_1_method_33_code
def yX3_requireJunction : MethodName := ⟨RX3, "requireJunction", "(I)V"⟩
abbrev cX3_requireRoad : ByteArray := prog_1_method_34_code
def yX3_requireRoad : MethodName := ⟨RX3, "requireRoad", "(I)V"⟩
abbrev cX3_requireTurn : ByteArray := prog_1_method_35_code
def yX3_requireTurn : MethodName := ⟨RX3, "requireTurn", "(II)V"⟩
abbrev cX3_requireWeight : ByteArray := prog_1_method_37_code
def yX3_requireWeight : MethodName := ⟨RX3, "requireWeight", "(I)V"⟩
abbrev cX3_requireHierarchy : ByteArray := prog_1_method_38_code
def yX3_requireHierarchy : MethodName := ⟨RX3, "requireHierarchy", "()V"⟩
abbrev cX3_searchFrom : ByteArray := prog_1_method_39_code
def yX3_searchFrom : MethodName := ⟨RX3, "searchFrom", "(I)V"⟩
abbrev cX3_spreadToJunctions : ByteArray := prog_1_method_40_code
def yX3_spreadToJunctions : MethodName := ⟨RX3, "spreadToJunctions", "()V"⟩
abbrev cX3_foundCost : ByteArray := prog_1_method_42_code
def yX3_foundCost : MethodName := ⟨RX3, "foundCost", "(I)I"⟩
abbrev cX3_costBetween : ByteArray := prog_1_method_43_code
def yX3_costBetween : MethodName := ⟨RX3, "costBetween", "(II)I"⟩
abbrev cX3_costOf : ByteArray := prog_1_method_48_code
def yX3_costOf : MethodName := ⟨RX3, "costOf", "(I)I"⟩
abbrev cX3_pair : ByteArray := prog_1_method_49_code
def yX3_pair : MethodName := ⟨RX3, "pair", "(II)I"⟩
abbrev cX3_only : ByteArray := prog_1_method_51_code
def yX3_only : MethodName := ⟨RX3, "only", "(I)J"⟩
abbrev cX3_has : ByteArray := prog_1_method_52_code
def yX3_has : MethodName := ⟨RX3, "has", "(JI)Z"⟩
def RX4 : String := "RoadOracleModel"
def TX4 : u_T := fun k => match k with
  | _ => ("", "", "", false)
def tyX4 : Nat → FieldType := fun k => match k with
  | _ => .int
abbrev wsX40 : List Cond := u_ws RX4 TX4 0
theorem nmX4 : ∀ a, a < 0 → ∀ b, b < 0 → a ≠ b → (TX4 a).2.1 ≠ (TX4 b).2.1 := by decide +kernel
theorem tyX4_ok : ∀ k, k < 0 → parseFieldDescriptor (TX4 k).2.2.1 = some (tyX4 k) := by decide +kernel
def RJx145de : String := "java/io/Serializable"
def TJx145de : u_T := fun k => match k with
  | _ => ("", "", "", false)
def tyJx145de : Nat → FieldType := fun k => match k with
  | _ => .int
abbrev wsJx145de0 : List Cond := u_ws RJx145de TJx145de 0
theorem nmJx145de : ∀ a, a < 0 → ∀ b, b < 0 → a ≠ b → (TJx145de a).2.1 ≠ (TJx145de b).2.1 := by decide +kernel
theorem tyJx145de_ok : ∀ k, k < 0 → parseFieldDescriptor (TJx145de k).2.2.1 = some (tyJx145de k) := by decide +kernel
def RJ13 : String := "java/lang/Long"
def TJ13 : u_T := fun k => match k with
  | _ => ("", "", "", false)
def tyJ13 : Nat → FieldType := fun k => match k with
  | _ => .int
abbrev wsJ130 : List Cond := u_ws RJ13 TJ13 0
theorem nmJ13 : ∀ a, a < 0 → ∀ b, b < 0 → a ≠ b → (TJ13 a).2.1 ≠ (TJ13 b).2.1 := by decide +kernel
theorem tyJ13_ok : ∀ k, k < 0 → parseFieldDescriptor (TJ13 k).2.2.1 = some (tyJ13 k) := by decide +kernel
abbrev cJ13_bitCount_95d88 : ByteArray := prog_12_method_50_code
def yJ13_bitCount_95d88 : MethodName := ⟨RJ13, "bitCount", "(J)I"⟩
def RJ9 : String := "java/lang/Math"
def TJ9 : u_T := fun k => match k with
  | _ => ("", "", "", false)
def tyJ9 : Nat → FieldType := fun k => match k with
  | _ => .int
abbrev wsJ90 : List Cond := u_ws RJ9 TJ9 0
theorem nmJ9 : ∀ a, a < 0 → ∀ b, b < 0 → a ≠ b → (TJ9 a).2.1 ≠ (TJ9 b).2.1 := by decide +kernel
theorem tyJ9_ok : ∀ k, k < 0 → parseFieldDescriptor (TJ9 k).2.2.1 = some (tyJ9 k) := by decide +kernel
abbrev cJ9_min_7cf53 : ByteArray := prog_13_method_69_code
def yJ9_min_7cf53 : MethodName := ⟨RJ9, "min", "(II)I"⟩
def RJ0 : String := "java/lang/String"
def TJ0 : u_T := fun k => match k with
  | _ => ("", "", "", false)
def tyJ0 : Nat → FieldType := fun k => match k with
  | _ => .int
abbrev wsJ00 : List Cond := u_ws RJ0 TJ0 0
theorem nmJ0 : ∀ a, a < 0 → ∀ b, b < 0 → a ≠ b → (TJ0 a).2.1 ≠ (TJ0 b).2.1 := by decide +kernel
theorem tyJ0_ok : ∀ k, k < 0 → parseFieldDescriptor (TJ0 k).2.2.1 = some (tyJ0 k) := by decide +kernel
def RJ7 : String := "java/util/Arrays"
def TJ7 : u_T := fun k => match k with
  | _ => ("", "", "", false)
def tyJ7 : Nat → FieldType := fun k => match k with
  | _ => .int
abbrev wsJ70 : List Cond := u_ws RJ7 TJ7 0
theorem nmJ7 : ∀ a, a < 0 → ∀ b, b < 0 → a ≠ b → (TJ7 a).2.1 ≠ (TJ7 b).2.1 := by decide +kernel
theorem tyJ7_ok : ∀ k, k < 0 → parseFieldDescriptor (TJ7 k).2.2.1 = some (tyJ7 k) := by decide +kernel
abbrev cJ7_fill_53178 : ByteArray := prog_17_method_103_code
def yJ7_fill_53178 : MethodName := ⟨RJ7, "fill", "([II)V"⟩
def RL : String := "RoadOracleLaw"
abbrev cL_below : ByteArray := method_2_code
def yL_below : MethodName := ⟨RL, "below", "(II)I"⟩
abbrev cL_cell : ByteArray := method_3_code
def yL_cell : MethodName := ⟨RL, "cell", "([II)I"⟩
abbrev cL_build : ByteArray := method_4_code
def yL_build : MethodName := ⟨RL, "build", "(LRoadOracle;[I[I[I[I)Z"⟩
abbrev cL_penalty : ByteArray := method_5_code
def yL_penalty : MethodName := ⟨RL, "penalty", "([I[I[IIII)I"⟩
abbrev cL_find : ByteArray := method_6_code
def yL_find : MethodName := ⟨RL, "find", "([I[I[I[Z[III[I)V"⟩
abbrev cL_distance : ByteArray := method_7_code
def yL_distance : MethodName := ⟨RL, "distance", "([I[III)I"⟩
abbrev cL_change : ByteArray := method_8_code
def yL_change : MethodName := ⟨RL, "change", "(LRoadOracle;I[I[I[I[Z[I[I)I"⟩
abbrev cL_read : ByteArray := method_9_code
def yL_read : MethodName := ⟨RL, "read", "(LRoadOracle;[I)V"⟩
abbrev cL_unlike : ByteArray := method_10_code
def yL_unlike : MethodName := ⟨RL, "unlike", "([I[I)I"⟩
abbrev cL_law : ByteArray := code
def yL_law : MethodName := ⟨RL, "law", "([I)Z"⟩
abbrev vwCl : List vw_C := [(RX0, TX0, 13), (RX1, TX1, 6), (RX2, TX2, 10), (RX3, TX3, 12)]
