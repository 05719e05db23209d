def RX0 : String := "BentScope$Aim"
def TX0 : u_T := fun k => match k with
  | 0 => ("BentScope$Aim", "star", "I", false)
  | 1 => ("BentScope$Aim", "side", "I", false)
  | 2 => ("BentScope$Aim", "region", "I", false)
  | 3 => ("BentScope$Aim", "azimuth", "I", false)
  | 4 => ("BentScope$Aim", "altitude", "I", false)
  | 5 => ("BentScope$Aim", "heldAzimuth", "D", false)
  | 6 => ("BentScope$Aim", "heldAltitude", "D", false)
  | 7 => ("BentScope$Aim", "missAzimuth", "D", false)
  | 8 => ("BentScope$Aim", "missAltitude", "D", false)
  | _ => ("BentScope$Aim", "learnable", "Z", false)
def tyX0 : Nat → FieldType := fun k => match k with
  | 0 => .int
  | 1 => .int
  | 2 => .int
  | 3 => .int
  | 4 => .int
  | 5 => .double
  | 6 => .double
  | 7 => .double
  | 8 => .double
  | _ => .boolean
theorem nmX0 : ∀ a, a < 10 → ∀ b, b < 10 → a ≠ b → (TX0 a).2.1 ≠ (TX0 b).2.1 := by decide +kernel
theorem tyX0_ok : ∀ k, k < 10 → parseFieldDescriptor (TX0 k).2.2.1 = some (tyX0 k) := by decide +kernel
abbrev cX0_init : ByteArray := prog_2_method_1_code
def yX0_init : MethodName := ⟨RX0, "<init>", "()V"⟩
abbrev cX0_copyFrom : ByteArray := prog_2_method_2_code
def yX0_copyFrom : MethodName := ⟨RX0, "copyFrom", "(LBentScope$Aim;)V"⟩
abbrev cX0_size : ByteArray := prog_2_method_3_code
def yX0_size : MethodName := ⟨RX0, "size", "()D"⟩
abbrev cX0_missNumber : ByteArray := prog_2_method_4_code
def yX0_missNumber : MethodName := ⟨RX0, "missNumber", "(I)D"⟩
def RX1 : String := "BentScope$Mount"
def TX1 : u_T := fun k => match k with
  | 0 => ("BentScope$Mount", "turn", "I", false)
  | 1 => ("BentScope$Mount", "altitude", "I", false)
  | _ => ("BentScope$Mount", "side", "I", false)
def tyX1 : Nat → FieldType := fun k => match k with
  | 0 => .int
  | 1 => .int
  | _ => .int
theorem nmX1 : ∀ a, a < 3 → ∀ b, b < 3 → a ≠ b → (TX1 a).2.1 ≠ (TX1 b).2.1 := by decide +kernel
theorem tyX1_ok : ∀ k, k < 3 → parseFieldDescriptor (TX1 k).2.2.1 = some (tyX1 k) := by decide +kernel
abbrev cX1_init : ByteArray := prog_3_method_1_code
def yX1_init : MethodName := ⟨RX1, "<init>", "()V"⟩
abbrev cX1_copyFrom : ByteArray := prog_3_method_2_code
def yX1_copyFrom : MethodName := ⟨RX1, "copyFrom", "(LBentScope$Mount;)V"⟩
abbrev cX1_timeTo : ByteArray := prog_3_method_3_code
def yX1_timeTo : MethodName := ⟨RX1, "timeTo", "(LBentScope$Aim;I)I"⟩
abbrev cX1_moveTo : ByteArray := prog_3_method_4_code
def yX1_moveTo : MethodName := ⟨RX1, "moveTo", "(LBentScope$Aim;)V"⟩
def RX2 : String := "BentScope$OrderText"
def TX2 : u_T := fun k => match k with
  | 0 => ("BentScope$OrderText", "bytes", "[I", true)
  | 1 => ("BentScope$OrderText", "length", "I", false)
  | 2 => ("BentScope$OrderText", "at", "I", false)
  | 3 => ("BentScope$OrderText", "error", "I", false)
  | 4 => ("BentScope$OrderText", "kind", "I", false)
  | 5 => ("BentScope$OrderText", "first", "I", false)
  | 6 => ("BentScope$OrderText", "second", "I", false)
  | _ => ("BentScope$OrderText", "third", "I", false)
def tyX2 : Nat → FieldType := fun k => match k with
  | 0 => .array .int
  | 1 => .int
  | 2 => .int
  | 3 => .int
  | 4 => .int
  | 5 => .int
  | 6 => .int
  | _ => .int
theorem nmX2 : ∀ a, a < 8 → ∀ b, b < 8 → a ≠ b → (TX2 a).2.1 ≠ (TX2 b).2.1 := by decide +kernel
theorem tyX2_ok : ∀ k, k < 8 → parseFieldDescriptor (TX2 k).2.2.1 = some (tyX2 k) := by decide +kernel
abbrev cX2_init : ByteArray := prog_4_method_1_code
def yX2_init : MethodName := ⟨RX2, "<init>", "()V"⟩
def RX3 : String := "BentScope$Regions"
def TX3 : u_T := fun k => match k with
  | 0 => ("BentScope$Regions", "lessonCounts", "[I", true)
  | 1 => ("BentScope$Regions", "azimuths", "[D", true)
  | _ => ("BentScope$Regions", "altitudes", "[D", true)
def tyX3 : Nat → FieldType := fun k => match k with
  | 0 => .array .int
  | 1 => .array .double
  | _ => .array .double
theorem nmX3 : ∀ a, a < 3 → ∀ b, b < 3 → a ≠ b → (TX3 a).2.1 ≠ (TX3 b).2.1 := by decide +kernel
theorem tyX3_ok : ∀ k, k < 3 → parseFieldDescriptor (TX3 k).2.2.1 = some (tyX3 k) := by decide +kernel
abbrev cX3_init : ByteArray := prog_5_method_1_code
def yX3_init : MethodName := ⟨RX3, "<init>", "()V"⟩
abbrev cX3_copyFrom : ByteArray := prog_5_method_2_code
def yX3_copyFrom : MethodName := ⟨RX3, "copyFrom", "(LBentScope$Regions;)V"⟩
abbrev cX3_clear : ByteArray := prog_5_method_3_code
def yX3_clear : MethodName := ⟨RX3, "clear", "(I)I"⟩
abbrev cX3_sourceOf : ByteArray := prog_5_method_4_code
def yX3_sourceOf : MethodName := ⟨RX3, "sourceOf", "(I)I"⟩
abbrev cX3_distance : ByteArray := prog_5_method_5_code
def yX3_distance : MethodName := ⟨RX3, "distance", "(II)I"⟩
abbrev cX3_holding : ByteArray := prog_5_method_6_code
def yX3_holding : MethodName := ⟨RX3, "holding", "(IZ)D"⟩
abbrev cX3_teach : ByteArray := prog_5_method_7_code
def yX3_teach : MethodName := ⟨RX3, "teach", "(LBentScope$Aim;I)I"⟩
abbrev cX3_allLessons : ByteArray := prog_5_method_8_code
def yX3_allLessons : MethodName := ⟨RX3, "allLessons", "()I"⟩
abbrev cX3_taught : ByteArray := prog_5_method_9_code
def yX3_taught : MethodName := ⟨RX3, "taught", "()I"⟩
def RX4 : String := "BentScope$Stars"
def TX4 : u_T := fun k => match k with
  | 0 => ("BentScope$Stars", "count", "I", false)
  | 1 => ("BentScope$Stars", "azimuths", "[I", true)
  | 2 => ("BentScope$Stars", "altitudes", "[I", true)
  | 3 => ("BentScope$Stars", "aims", "[I", true)
  | _ => ("BentScope$Stars", "finds", "[I", true)
def tyX4 : Nat → FieldType := fun k => match k with
  | 0 => .int
  | 1 => .array .int
  | 2 => .array .int
  | 3 => .array .int
  | _ => .array .int
theorem nmX4 : ∀ a, a < 5 → ∀ b, b < 5 → a ≠ b → (TX4 a).2.1 ≠ (TX4 b).2.1 := by decide +kernel
theorem tyX4_ok : ∀ k, k < 5 → parseFieldDescriptor (TX4 k).2.2.1 = some (tyX4 k) := by decide +kernel
abbrev cX4_init : ByteArray := prog_6_method_1_code
def yX4_init : MethodName := ⟨RX4, "<init>", "()V"⟩
abbrev cX4_copyFrom : ByteArray := prog_6_method_2_code
def yX4_copyFrom : MethodName := ⟨RX4, "copyFrom", "(LBentScope$Stars;)V"⟩
abbrev cX4_put : ByteArray := prog_6_method_3_code
def yX4_put : MethodName := ⟨RX4, "put", "(II)I"⟩
abbrev cX4_sideOf : ByteArray := prog_6_method_4_code
def yX4_sideOf : MethodName := ⟨RX4, "sideOf", "(I)I"⟩
abbrev cX4_regionOf : ByteArray := prog_6_method_5_code
def yX4_regionOf : MethodName := ⟨RX4, "regionOf", "(I)I"⟩
abbrev cX4_countAim : ByteArray := prog_6_method_6_code
def yX4_countAim : MethodName := ⟨RX4, "countAim", "(IZ)V"⟩
abbrev cX4_allAims : ByteArray := prog_6_method_7_code
def yX4_allAims : MethodName := ⟨RX4, "allAims", "()I"⟩
abbrev cX4_allFinds : ByteArray := prog_6_method_8_code
def yX4_allFinds : MethodName := ⟨RX4, "allFinds", "()I"⟩
def RX5 : String := "BentScope$State"
def TX5 : u_T := fun k => match k with
  | 0 => ("BentScope$State", "settings", "[I", true)
  | 1 => ("BentScope$State", "bends", "[I", true)
  | 2 => ("BentScope$State", "stars", "LBentScope$Stars;", true)
  | 3 => ("BentScope$State", "regions", "LBentScope$Regions;", true)
  | 4 => ("BentScope$State", "mount", "LBentScope$Mount;", true)
  | 5 => ("BentScope$State", "latest", "LBentScope$Aim;", true)
  | 6 => ("BentScope$State", "time", "I", false)
  | 7 => ("BentScope$State", "flips", "I", false)
  | _ => ("BentScope$State", "next", "LBentScope$Aim;", true)
def tyX5 : Nat → FieldType := fun k => match k with
  | 0 => .array .int
  | 1 => .array .int
  | 2 => .object "BentScope$Stars"
  | 3 => .object "BentScope$Regions"
  | 4 => .object "BentScope$Mount"
  | 5 => .object "BentScope$Aim"
  | 6 => .int
  | 7 => .int
  | _ => .object "BentScope$Aim"
theorem nmX5 : ∀ a, a < 9 → ∀ b, b < 9 → a ≠ b → (TX5 a).2.1 ≠ (TX5 b).2.1 := by decide +kernel
theorem tyX5_ok : ∀ k, k < 9 → parseFieldDescriptor (TX5 k).2.2.1 = some (tyX5 k) := by decide +kernel
abbrev cX5_init : ByteArray := prog_7_method_1_code
def yX5_init : MethodName := ⟨RX5, "<init>", "()V"⟩
abbrev cX5_copyFrom : ByteArray := prog_7_method_2_code
def yX5_copyFrom : MethodName := ⟨RX5, "copyFrom", "(LBentScope$State;)V"⟩
abbrev cX5_isWithinLimits : ByteArray := prog_7_method_3_code
def yX5_isWithinLimits : MethodName := ⟨RX5, "isWithinLimits", "(I)Z"⟩
abbrev cX5_finds : ByteArray := prog_7_method_4_code
def yX5_finds : MethodName := ⟨RX5, "finds", "(LBentScope$Aim;)Z"⟩
abbrev cX5_bendAt : ByteArray := prog_7_method_5_code
def yX5_bendAt : MethodName := ⟨RX5, "bendAt", "(III)D"⟩
abbrev cX5_planAim : ByteArray := prog_7_method_6_code
def yX5_planAim : MethodName := ⟨RX5, "planAim", "(ILBentScope$Aim;)V"⟩
abbrev cX5_canPointAt : ByteArray := prog_7_method_7_code
def yX5_canPointAt : MethodName := ⟨RX5, "canPointAt", "(I)Z"⟩
abbrev cX5_pointAt : ByteArray := prog_7_method_8_code
def yX5_pointAt : MethodName := ⟨RX5, "pointAt", "(I)I"⟩
abbrev cX5_takeLesson : ByteArray := prog_7_method_9_code
def yX5_takeLesson : MethodName := ⟨RX5, "takeLesson", "()I"⟩
abbrev cX5_takeAllLessons : ByteArray := prog_7_method_10_code
def yX5_takeAllLessons : MethodName := ⟨RX5, "takeAllLessons", "()I"⟩
abbrev cX5_starFact : ByteArray := prog_7_method_12_code
def yX5_starFact : MethodName := ⟨RX5, "starFact", "(II)I"⟩
abbrev cX5_number : ByteArray := prog_7_method_13_code
def yX5_number : MethodName := ⟨RX5, "number", "(I)I"⟩
def RX6 : String := "BentScope$TourSearch"
def TX6 : u_T := fun k => match k with
  | 0 => ("BentScope$TourSearch", "plans", "[LBentScope$Aim;", true)
  | 1 => ("BentScope$TourSearch", "order", "[I", true)
  | 2 => ("BentScope$TourSearch", "best", "[I", true)
  | 3 => ("BentScope$TourSearch", "mount", "LBentScope$Mount;", true)
  | 4 => ("BentScope$TourSearch", "size", "I", false)
  | _ => ("BentScope$TourSearch", "bestTime", "I", false)
def tyX6 : Nat → FieldType := fun k => match k with
  | 0 => .array (.object "BentScope$Aim")
  | 1 => .array .int
  | 2 => .array .int
  | 3 => .object "BentScope$Mount"
  | 4 => .int
  | _ => .int
theorem nmX6 : ∀ a, a < 6 → ∀ b, b < 6 → a ≠ b → (TX6 a).2.1 ≠ (TX6 b).2.1 := by decide +kernel
theorem tyX6_ok : ∀ k, k < 6 → parseFieldDescriptor (TX6 k).2.2.1 = some (tyX6 k) := by decide +kernel
abbrev cX6_init : ByteArray := prog_8_method_1_code
def yX6_init : MethodName := ⟨RX6, "<init>", "()V"⟩
abbrev cX6_starAt : ByteArray := prog_8_method_2_code
def yX6_starAt : MethodName := ⟨RX6, "starAt", "(I)I"⟩
abbrev cX6_search : ByteArray := prog_8_method_3_code
def yX6_search : MethodName := ⟨RX6, "search", "(LBentScope$State;I)V"⟩
abbrev cX6_collect : ByteArray := prog_8_method_4_code
def yX6_collect : MethodName := ⟨RX6, "collect", "(LBentScope$State;I)V"⟩
abbrev cX6_timeOfOrder : ByteArray := prog_8_method_5_code
def yX6_timeOfOrder : MethodName := ⟨RX6, "timeOfOrder", "(LBentScope$State;)I"⟩
abbrev cX6_stepToNextOrder : ByteArray := prog_8_method_6_code
def yX6_stepToNextOrder : MethodName := ⟨RX6, "stepToNextOrder", "()Z"⟩
abbrev cX6_swap : ByteArray := prog_8_method_7_code
def yX6_swap : MethodName := ⟨RX6, "swap", "(II)V"⟩
def RX7 : String := "BentScope"
def TX7 : u_T := fun k => match k with
  | 0 => ("BentScope", "now", "LBentScope$State;", true)
  | 1 => ("BentScope", "trial", "LBentScope$State;", true)
  | 2 => ("BentScope", "saved", "[LBentScope$State;", true)
  | 3 => ("BentScope", "savedCount", "I", false)
  | 4 => ("BentScope", "text", "LBentScope$OrderText;", true)
  | 5 => ("BentScope", "whatIf", "LBentScope$Aim;", true)
  | _ => ("BentScope", "tourSearch", "LBentScope$TourSearch;", true)
def tyX7 : Nat → FieldType := fun k => match k with
  | 0 => .object "BentScope$State"
  | 1 => .object "BentScope$State"
  | 2 => .array (.object "BentScope$State")
  | 3 => .int
  | 4 => .object "BentScope$OrderText"
  | 5 => .object "BentScope$Aim"
  | _ => .object "BentScope$TourSearch"
theorem nmX7 : ∀ a, a < 7 → ∀ b, b < 7 → a ≠ b → (TX7 a).2.1 ≠ (TX7 b).2.1 := by decide +kernel
theorem tyX7_ok : ∀ k, k < 7 → parseFieldDescriptor (TX7 k).2.2.1 = some (tyX7 k) := by decide +kernel
abbrev cX7_init : ByteArray := prog_1_method_1_code
def yX7_init : MethodName := ⟨RX7, "<init>", "()V"⟩
abbrev cX7_set : ByteArray := prog_1_method_2_code
def yX7_set : MethodName := ⟨RX7, "set", "(II)I"⟩
abbrev cX7_setBend : ByteArray := prog_1_method_3_code
def yX7_setBend : MethodName := ⟨RX7, "setBend", "(III)I"⟩
abbrev cX7_addStar : ByteArray := prog_1_method_4_code
def yX7_addStar : MethodName := ⟨RX7, "addStar", "(II)I"⟩
abbrev cX7_aim : ByteArray := prog_1_method_5_code
def yX7_aim : MethodName := ⟨RX7, "aim", "(I)I"⟩
abbrev cX7_learn : ByteArray := prog_1_method_6_code
def yX7_learn : MethodName := ⟨RX7, "learn", "()I"⟩
abbrev cX7_learnAll : ByteArray := prog_1_method_7_code
def yX7_learnAll : MethodName := ⟨RX7, "learnAll", "()I"⟩
abbrev cX7_forget : ByteArray := prog_1_method_8_code
def yX7_forget : MethodName := ⟨RX7, "forget", "(I)I"⟩
abbrev cX7_star : ByteArray := prog_1_method_9_code
def yX7_star : MethodName := ⟨RX7, "star", "(II)I"⟩
abbrev cX7_correction : ByteArray := prog_1_method_10_code
def yX7_correction : MethodName := ⟨RX7, "correction", "(IZ)D"⟩
abbrev cX7_source : ByteArray := prog_1_method_11_code
def yX7_source : MethodName := ⟨RX7, "source", "(I)I"⟩
abbrev cX7_lessons : ByteArray := prog_1_method_12_code
def yX7_lessons : MethodName := ⟨RX7, "lessons", "(I)I"⟩
abbrev cX7_miss : ByteArray := prog_1_method_13_code
def yX7_miss : MethodName := ⟨RX7, "miss", "(I)D"⟩
abbrev cX7_value : ByteArray := prog_1_method_14_code
def yX7_value : MethodName := ⟨RX7, "value", "(I)I"⟩
abbrev cX7_setting : ByteArray := prog_1_method_15_code
def yX7_setting : MethodName := ⟨RX7, "setting", "(I)I"⟩
abbrev cX7_bend : ByteArray := prog_1_method_16_code
def yX7_bend : MethodName := ⟨RX7, "bend", "(II)I"⟩
abbrev cX7_missOf : ByteArray := prog_1_method_17_code
def yX7_missOf : MethodName := ⟨RX7, "missOf", "(I)D"⟩
abbrev cX7_slewTo : ByteArray := prog_1_method_18_code
def yX7_slewTo : MethodName := ⟨RX7, "slewTo", "(I)I"⟩
abbrev cX7_found : ByteArray := prog_1_method_19_code
def yX7_found : MethodName := ⟨RX7, "found", "()I"⟩
abbrev cX7_nearest : ByteArray := prog_1_method_20_code
def yX7_nearest : MethodName := ⟨RX7, "nearest", "()I"⟩
abbrev cX7_tour : ByteArray := prog_1_method_21_code
def yX7_tour : MethodName := ⟨RX7, "tour", "(II)I"⟩
abbrev cX7_undo : ByteArray := prog_1_method_25_code
def yX7_undo : MethodName := ⟨RX7, "undo", "()I"⟩
abbrev cX7_isStar : ByteArray := prog_1_method_27_code
def yX7_isStar : MethodName := ⟨RX7, "isStar", "(I)Z"⟩
abbrev cX7_isRegion : ByteArray := prog_1_method_28_code
def yX7_isRegion : MethodName := ⟨RX7, "isRegion", "(I)Z"⟩
abbrev cX7_isSetting : ByteArray := prog_1_method_29_code
def yX7_isSetting : MethodName := ⟨RX7, "isSetting", "(I)Z"⟩
abbrev cX7_isBend : ByteArray := prog_1_method_30_code
def yX7_isBend : MethodName := ⟨RX7, "isBend", "(II)Z"⟩
abbrev cX7_bendIndex : ByteArray := prog_1_method_31_code
def yX7_bendIndex : MethodName := ⟨RX7, "bendIndex", "(II)I"⟩
abbrev cX7_crossesLimits : ByteArray := prog_1_method_32_code
def yX7_crossesLimits : MethodName := ⟨RX7, "crossesLimits", "(II)Z"⟩
abbrev cX7_timeNow : ByteArray := prog_1_method_33_code
def yX7_timeNow : MethodName := ⟨RX7, "timeNow", "(I)I"⟩
abbrev cX7_saveState : ByteArray := prog_1_method_34_code
def yX7_saveState : MethodName := ⟨RX7, "saveState", "()V"⟩
abbrev cX7_dropOldest : ByteArray := prog_1_method_35_code
def yX7_dropOldest : MethodName := ⟨RX7, "dropOldest", "()V"⟩
abbrev cX7_withoutSign : ByteArray := prog_1_method_41_code
def yX7_withoutSign : MethodName := ⟨RX7, "withoutSign", "(D)D"⟩
abbrev cX7_rounded : ByteArray := prog_1_method_42_code
def yX7_rounded : MethodName := ⟨RX7, "rounded", "(D)I"⟩
abbrev cX7_dividedUp : ByteArray := prog_1_method_43_code
def yX7_dividedUp : MethodName := ⟨RX7, "dividedUp", "(II)I"⟩
abbrev cX7_nearestTurn : ByteArray := prog_1_method_44_code
def yX7_nearestTurn : MethodName := ⟨RX7, "nearestTurn", "(II)I"⟩
def RX8 : String := "BentScopeModel"
def TX8 : u_T := fun k => match k with
  | _ => ("", "", "", false)
def tyX8 : Nat → FieldType := fun k => match k with
  | _ => .int
theorem nmX8 : ∀ a, a < 0 → ∀ b, b < 0 → a ≠ b → (TX8 a).2.1 ≠ (TX8 b).2.1 := by decide +kernel
theorem tyX8_ok : ∀ k, k < 0 → parseFieldDescriptor (TX8 k).2.2.1 = some (tyX8 k) := by decide +kernel
def RJ6 : String := "java/lang/Integer"
def TJ6 : u_T := fun k => match k with
  | _ => ("", "", "", false)
def tyJ6 : Nat → FieldType := fun k => match k with
  | _ => .int
theorem nmJ6 : ∀ a, a < 0 → ∀ b, b < 0 → a ≠ b → (TJ6 a).2.1 ≠ (TJ6 b).2.1 := by decide +kernel
theorem tyJ6_ok : ∀ k, k < 0 → parseFieldDescriptor (TJ6 k).2.2.1 = some (tyJ6 k) := by decide +kernel
abbrev cJ6_bitCount_0f7a4 : ByteArray := prog_15_method_49_code
def yJ6_bitCount_0f7a4 : MethodName := ⟨RJ6, "bitCount", "(I)I"⟩
def RJ9 : String := "java/lang/Math"
def TJ9 : u_T := fun k => match k with
  | _ => ("", "", "", false)
def tyJ9 : Nat → FieldType := fun k => match k with
  | _ => .int
theorem nmJ9 : ∀ a, a < 0 → ∀ b, b < 0 → a ≠ b → (TJ9 a).2.1 ≠ (TJ9 b).2.1 := by decide +kernel
theorem tyJ9_ok : ∀ k, k < 0 → parseFieldDescriptor (TJ9 k).2.2.1 = some (tyJ9 k) := by decide +kernel
abbrev cJ9_floorMod_7cf53 : ByteArray := prog_16_method_50_code
def yJ9_floorMod_7cf53 : MethodName := ⟨RJ9, "floorMod", "(II)I"⟩
abbrev cJ9_abs_0f7a4 : ByteArray := prog_16_method_59_code
def yJ9_abs_0f7a4 : MethodName := ⟨RJ9, "abs", "(I)I"⟩
abbrev cJ9_max_7cf53 : ByteArray := prog_16_method_65_code
def yJ9_max_7cf53 : MethodName := ⟨RJ9, "max", "(II)I"⟩
abbrev cJ9_min_7cf53 : ByteArray := prog_16_method_69_code
def yJ9_min_7cf53 : MethodName := ⟨RJ9, "min", "(II)I"⟩
def RJ0 : String := "java/lang/String"
def TJ0 : u_T := fun k => match k with
  | _ => ("", "", "", false)
def tyJ0 : Nat → FieldType := fun k => match k with
  | _ => .int
theorem nmJ0 : ∀ a, a < 0 → ∀ b, b < 0 → a ≠ b → (TJ0 a).2.1 ≠ (TJ0 b).2.1 := by decide +kernel
theorem tyJ0_ok : ∀ k, k < 0 → parseFieldDescriptor (TJ0 k).2.2.1 = some (tyJ0 k) := by decide +kernel
def RJ10 : String := "java/lang/System"
def TJ10 : u_T := fun k => match k with
  | _ => ("", "", "", false)
def tyJ10 : Nat → FieldType := fun k => match k with
  | _ => .int
theorem nmJ10 : ∀ a, a < 0 → ∀ b, b < 0 → a ≠ b → (TJ10 a).2.1 ≠ (TJ10 b).2.1 := by decide +kernel
theorem tyJ10_ok : ∀ k, k < 0 → parseFieldDescriptor (TJ10 k).2.2.1 = some (tyJ10 k) := by decide +kernel
def RL : String := "BentScopeLaw"
abbrev cL_lot : ByteArray := method_2_code
def yL_lot : MethodName := ⟨RL, "lot", "([II)I"⟩
abbrev cL_low : ByteArray := method_3_code
def yL_low : MethodName := ⟨RL, "low", "(II)I"⟩
abbrev cL_aim : ByteArray := method_4_code
def yL_aim : MethodName := ⟨RL, "aim", "(LBentScope;I)I"⟩
abbrev cL_learn : ByteArray := method_5_code
def yL_learn : MethodName := ⟨RL, "learn", "(LBentScope;)I"⟩
abbrev cL_learnAll : ByteArray := method_6_code
def yL_learnAll : MethodName := ⟨RL, "learnAll", "(LBentScope;)I"⟩
abbrev cL_set : ByteArray := method_7_code
def yL_set : MethodName := ⟨RL, "set", "(LBentScope;II)I"⟩
abbrev cL_setBend : ByteArray := method_8_code
def yL_setBend : MethodName := ⟨RL, "setBend", "(LBentScope;III)I"⟩
abbrev cL_star : ByteArray := method_9_code
def yL_star : MethodName := ⟨RL, "star", "(LBentScope;II)I"⟩
abbrev cL_tour : ByteArray := method_10_code
def yL_tour : MethodName := ⟨RL, "tour", "(LBentScope;II)I"⟩
abbrev cL_undo : ByteArray := method_11_code
def yL_undo : MethodName := ⟨RL, "undo", "(LBentScope;)I"⟩
abbrev cL_apart : ByteArray := method_12_code
def yL_apart : MethodName := ⟨RL, "apart", "(II)I"⟩
abbrev cL_size : ByteArray := method_13_code
def yL_size : MethodName := ⟨RL, "size", "(D)D"⟩
abbrev cL_regions : ByteArray := method_14_code
def yL_regions : MethodName := ⟨RL, "regions", "(LBentScope;)Z"⟩
abbrev cL_stars : ByteArray := method_15_code
def yL_stars : MethodName := ⟨RL, "stars", "(LBentScope;)Z"⟩
abbrev cL_goes : ByteArray := method_16_code
def yL_goes : MethodName := ⟨RL, "goes", "(LBentScope;II)Z"⟩
abbrev cL_tours : ByteArray := method_17_code
def yL_tours : MethodName := ⟨RL, "tours", "(LBentScope;I)Z"⟩
abbrev cL_acts : ByteArray := method_18_code
def yL_acts : MethodName := ⟨RL, "acts", "(LBentScope;II)Z"⟩
abbrev cL_law : ByteArray := code
def yL_law : MethodName := ⟨RL, "law", "([I)Z"⟩
abbrev vwCl : List vw_C := [(RX0, TX0, 10), (RX1, TX1, 3), (RX2, TX2, 8), (RX3, TX3, 3), (RX4, TX4, 5), (RX5, TX5, 9), (RX6, TX6, 6), (RX7, TX7, 7)]
