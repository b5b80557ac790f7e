def RX0 : String := "BoardEnds$Ends"
def TX0 : u_T := fun k => match k with
  | 0 => ("BoardEnds$Ends", "grid", "LBoardEnds$Grid;", true)
  | 1 => ("BoardEnds$Ends", "distances", "[I", true)
  | 2 => ("BoardEnds$Ends", "foxKnown", "[I", true)
  | 3 => ("BoardEnds$Ends", "huntersKnown", "[I", true)
  | 4 => ("BoardEnds$Ends", "prepared", "I", false)
  | 5 => ("BoardEnds$Ends", "free", "I", false)
  | 6 => ("BoardEnds$Ends", "foxCorners", "Z", false)
  | 7 => ("BoardEnds$Ends", "huntCorners", "Z", false)
  | _ => ("BoardEnds$Ends", "mayStay", "Z", false)
def tyX0 : Nat → FieldType := fun k => match k with
  | 0 => .object "BoardEnds$Grid"
  | 1 => .array .int
  | 2 => .array .int
  | 3 => .array .int
  | 4 => .int
  | 5 => .int
  | 6 => .boolean
  | 7 => .boolean
  | _ => .boolean
theorem nmX0 : ∀ a, a < 9 → ∀ b, b < 9 → a ≠ b → (TX0 a).2.1 ≠ (TX0 b).2.1 := by decide +kernel
theorem tyX0_ok : ∀ k, k < 9 → parseFieldDescriptor (TX0 k).2.2.1 = some (tyX0 k) := by decide +kernel
abbrev cX0_init : ByteArray := prog_2_method_1_code
def yX0_init : MethodName := ⟨RX0, "<init>", "(LBoardEnds$Grid;)V"⟩
abbrev cX0_signOf : ByteArray := prog_2_method_2_code
def yX0_signOf : MethodName := ⟨RX0, "signOf", "(LBoardEnds$State;)I"⟩
abbrev cX0_at : ByteArray := prog_2_method_3_code
def yX0_at : MethodName := ⟨RX0, "at", "(I)I"⟩
abbrev cX0_prepare : ByteArray := prog_2_method_4_code
def yX0_prepare : MethodName := ⟨RX0, "prepare", "(LBoardEnds$State;)V"⟩
abbrev cX0_workOut : ByteArray := prog_2_method_5_code
def yX0_workOut : MethodName := ⟨RX0, "workOut", "()V"⟩
abbrev cX0_placesForFox : ByteArray := prog_2_method_6_code
def yX0_placesForFox : MethodName := ⟨RX0, "placesForFox", "(I)I"⟩
abbrev cX0_foxLevel : ByteArray := prog_2_method_7_code
def yX0_foxLevel : MethodName := ⟨RX0, "foxLevel", "(II)I"⟩
abbrev cX0_huntersLevel : ByteArray := prog_2_method_8_code
def yX0_huntersLevel : MethodName := ⟨RX0, "huntersLevel", "(II)I"⟩
abbrev cX0_reachedBy : ByteArray := prog_2_method_9_code
def yX0_reachedBy : MethodName := ⟨RX0, "reachedBy", "(II)I"⟩
abbrev cX0_knownWith : ByteArray := prog_2_method_10_code
def yX0_knownWith : MethodName := ⟨RX0, "knownWith", "(I)I"⟩
abbrev cX0_keep : ByteArray := prog_2_method_11_code
def yX0_keep : MethodName := ⟨RX0, "keep", "(IIII)V"⟩
def RX1 : String := "BoardEnds$Folding"
def TX1 : u_T := fun k => match k with
  | 0 => ("BoardEnds$Folding", "grid", "LBoardEnds$Grid;", true)
  | 1 => ("BoardEnds$Folding", "kept", "[I", true)
  | 2 => ("BoardEnds$Folding", "keptCount", "I", false)
  | _ => ("BoardEnds$Folding", "prepared", "I", false)
def tyX1 : Nat → FieldType := fun k => match k with
  | 0 => .object "BoardEnds$Grid"
  | 1 => .array .int
  | 2 => .int
  | _ => .int
theorem nmX1 : ∀ a, a < 4 → ∀ b, b < 4 → a ≠ b → (TX1 a).2.1 ≠ (TX1 b).2.1 := by decide +kernel
theorem tyX1_ok : ∀ k, k < 4 → parseFieldDescriptor (TX1 k).2.2.1 = some (tyX1 k) := by decide +kernel
abbrev cX1_init : ByteArray := prog_3_method_1_code
def yX1_init : MethodName := ⟨RX1, "<init>", "(LBoardEnds$Grid;)V"⟩
abbrev cX1_prepare : ByteArray := prog_3_method_2_code
def yX1_prepare : MethodName := ⟨RX1, "prepare", "(I)V"⟩
abbrev cX1_imageOf : ByteArray := prog_3_method_3_code
def yX1_imageOf : MethodName := ⟨RX1, "imageOf", "(II)I"⟩
abbrev cX1_symmetries : ByteArray := prog_3_method_4_code
def yX1_symmetries : MethodName := ⟨RX1, "symmetries", "()I"⟩
abbrev cX1_imageOfNumber : ByteArray := prog_3_method_5_code
def yX1_imageOfNumber : MethodName := ⟨RX1, "imageOfNumber", "(II)I"⟩
abbrev cX1_lowestAlike : ByteArray := prog_3_method_6_code
def yX1_lowestAlike : MethodName := ⟨RX1, "lowestAlike", "(I)I"⟩
abbrev cX1_standsForItself : ByteArray := prog_3_method_7_code
def yX1_standsForItself : MethodName := ⟨RX1, "standsForItself", "(I)Z"⟩
abbrev cX1_alike : ByteArray := prog_3_method_8_code
def yX1_alike : MethodName := ⟨RX1, "alike", "(I)I"⟩
def RX2 : String := "BoardEnds$Game"
def TX2 : u_T := fun k => match k with
  | 0 => ("BoardEnds$Game", "grid", "LBoardEnds$Grid;", true)
  | _ => ("BoardEnds$Game", "ends", "LBoardEnds$Ends;", true)
def tyX2 : Nat → FieldType := fun k => match k with
  | 0 => .object "BoardEnds$Grid"
  | _ => .object "BoardEnds$Ends"
theorem nmX2 : ∀ a, a < 2 → ∀ b, b < 2 → a ≠ b → (TX2 a).2.1 ≠ (TX2 b).2.1 := by decide +kernel
theorem tyX2_ok : ∀ k, k < 2 → parseFieldDescriptor (TX2 k).2.2.1 = some (tyX2 k) := by decide +kernel
abbrev cX2_init : ByteArray := prog_4_method_1_code
def yX2_init : MethodName := ⟨RX2, "<init>", "(LBoardEnds$Grid;LBoardEnds$Ends;)V"⟩
abbrev cX2_fromOf : ByteArray := prog_4_method_2_code
def yX2_fromOf : MethodName := ⟨RX2, "fromOf", "(I)I"⟩
abbrev cX2_toOf : ByteArray := prog_4_method_3_code
def yX2_toOf : MethodName := ⟨RX2, "toOf", "(I)I"⟩
abbrev cX2_caught : ByteArray := prog_4_method_4_code
def yX2_caught : MethodName := ⟨RX2, "caught", "(LBoardEnds$State;)Z"⟩
abbrev cX2_foxSteps : ByteArray := prog_4_method_5_code
def yX2_foxSteps : MethodName := ⟨RX2, "foxSteps", "(LBoardEnds$State;)I"⟩
abbrev cX2_hunterSteps : ByteArray := prog_4_method_6_code
def yX2_hunterSteps : MethodName := ⟨RX2, "hunterSteps", "(LBoardEnds$State;I)I"⟩
abbrev cX2_allows : ByteArray := prog_4_method_7_code
def yX2_allows : MethodName := ⟨RX2, "allows", "(LBoardEnds$State;II)Z"⟩
abbrev cX2_make : ByteArray := prog_4_method_8_code
def yX2_make : MethodName := ⟨RX2, "make", "(LBoardEnds$State;II)V"⟩
abbrev cX2_bestMove : ByteArray := prog_4_method_9_code
def yX2_bestMove : MethodName := ⟨RX2, "bestMove", "(LBoardEnds$State;)I"⟩
abbrev cX2_bestOfFox : ByteArray := prog_4_method_10_code
def yX2_bestOfFox : MethodName := ⟨RX2, "bestOfFox", "(LBoardEnds$State;)I"⟩
abbrev cX2_bestOfHunters : ByteArray := prog_4_method_11_code
def yX2_bestOfHunters : MethodName := ⟨RX2, "bestOfHunters", "(LBoardEnds$State;)I"⟩
abbrev cX2_worthOf : ByteArray := prog_4_method_12_code
def yX2_worthOf : MethodName := ⟨RX2, "worthOf", "(LBoardEnds$State;II)I"⟩
abbrev cX2_lengthOf : ByteArray := prog_4_method_13_code
def yX2_lengthOf : MethodName := ⟨RX2, "lengthOf", "(IIII)I"⟩
def RX3 : String := "BoardEnds$Grid"
def TX3 : u_T := fun k => match k with
  | 0 => ("BoardEnds$Grid", "straight", "[I", true)
  | 1 => ("BoardEnds$Grid", "corner", "[I", true)
  | 2 => ("BoardEnds$Grid", "pairs", "[I", true)
  | 3 => ("BoardEnds$Grid", "lowers", "[I", true)
  | 4 => ("BoardEnds$Grid", "highers", "[I", true)
  | 5 => ("BoardEnds$Grid", "places", "[I", true)
  | _ => ("BoardEnds$Grid", "images", "[I", true)
def tyX3 : Nat → FieldType := fun k => match k with
  | 0 => .array .int
  | 1 => .array .int
  | 2 => .array .int
  | 3 => .array .int
  | 4 => .array .int
  | 5 => .array .int
  | _ => .array .int
theorem nmX3 : ∀ a, a < 7 → ∀ b, b < 7 → a ≠ b → (TX3 a).2.1 ≠ (TX3 b).2.1 := by decide +kernel
theorem tyX3_ok : ∀ k, k < 7 → parseFieldDescriptor (TX3 k).2.2.1 = some (tyX3 k) := by decide +kernel
abbrev cX3_init : ByteArray := prog_5_method_1_code
def yX3_init : MethodName := ⟨RX3, "<init>", "()V"⟩
abbrev cX3_fillSteps : ByteArray := prog_5_method_2_code
def yX3_fillSteps : MethodName := ⟨RX3, "fillSteps", "()V"⟩
abbrev cX3_fillPairs : ByteArray := prog_5_method_3_code
def yX3_fillPairs : MethodName := ⟨RX3, "fillPairs", "()V"⟩
abbrev cX3_fillImages : ByteArray := prog_5_method_4_code
def yX3_fillImages : MethodName := ⟨RX3, "fillImages", "()V"⟩
abbrev cX3_isPlace : ByteArray := prog_5_method_5_code
def yX3_isPlace : MethodName := ⟨RX3, "isPlace", "(I)Z"⟩
abbrev cX3_lowest : ByteArray := prog_5_method_6_code
def yX3_lowest : MethodName := ⟨RX3, "lowest", "(I)I"⟩
abbrev cX3_highest : ByteArray := prog_5_method_7_code
def yX3_highest : MethodName := ⟨RX3, "highest", "(I)I"⟩
abbrev cX3_far : ByteArray := prog_5_method_8_code
def yX3_far : MethodName := ⟨RX3, "far", "(II)I"⟩
abbrev cX3_stepsFrom : ByteArray := prog_5_method_9_code
def yX3_stepsFrom : MethodName := ⟨RX3, "stepsFrom", "(IZ)I"⟩
abbrev cX3_pairOf : ByteArray := prog_5_method_10_code
def yX3_pairOf : MethodName := ⟨RX3, "pairOf", "(II)I"⟩
abbrev cX3_lowerOf : ByteArray := prog_5_method_11_code
def yX3_lowerOf : MethodName := ⟨RX3, "lowerOf", "(I)I"⟩
abbrev cX3_higherOf : ByteArray := prog_5_method_12_code
def yX3_higherOf : MethodName := ⟨RX3, "higherOf", "(I)I"⟩
abbrev cX3_placesOf : ByteArray := prog_5_method_13_code
def yX3_placesOf : MethodName := ⟨RX3, "placesOf", "(I)I"⟩
abbrev cX3_image : ByteArray := prog_5_method_14_code
def yX3_image : MethodName := ⟨RX3, "image", "(II)I"⟩
abbrev cX3_numberOf : ByteArray := prog_5_method_15_code
def yX3_numberOf : MethodName := ⟨RX3, "numberOf", "(IIII)I"⟩
abbrev cX3_whoOf : ByteArray := prog_5_method_16_code
def yX3_whoOf : MethodName := ⟨RX3, "whoOf", "(I)I"⟩
abbrev cX3_foxOf : ByteArray := prog_5_method_17_code
def yX3_foxOf : MethodName := ⟨RX3, "foxOf", "(I)I"⟩
abbrev cX3_pairIn : ByteArray := prog_5_method_18_code
def yX3_pairIn : MethodName := ⟨RX3, "pairIn", "(I)I"⟩
abbrev cX3_isPosition : ByteArray := prog_5_method_19_code
def yX3_isPosition : MethodName := ⟨RX3, "isPosition", "(II)Z"⟩
abbrev cX3_keyOf : ByteArray := prog_5_method_20_code
def yX3_keyOf : MethodName := ⟨RX3, "keyOf", "(I)I"⟩
def RX4 : String := "BoardEnds$History"
def TX4 : u_T := fun k => match k with
  | 0 => ("BoardEnds$History", "states", "[LBoardEnds$State;", true)
  | _ => ("BoardEnds$History", "length", "I", false)
def tyX4 : Nat → FieldType := fun k => match k with
  | 0 => .array (.object "BoardEnds$State")
  | _ => .int
theorem nmX4 : ∀ a, a < 2 → ∀ b, b < 2 → a ≠ b → (TX4 a).2.1 ≠ (TX4 b).2.1 := by decide +kernel
theorem tyX4_ok : ∀ k, k < 2 → parseFieldDescriptor (TX4 k).2.2.1 = some (tyX4 k) := by decide +kernel
abbrev cX4_init : ByteArray := prog_6_method_1_code
def yX4_init : MethodName := ⟨RX4, "<init>", "()V"⟩
abbrev cX4_length : ByteArray := prog_6_method_2_code
def yX4_length : MethodName := ⟨RX4, "length", "()I"⟩
abbrev cX4_record : ByteArray := prog_6_method_3_code
def yX4_record : MethodName := ⟨RX4, "record", "(LBoardEnds$State;)V"⟩
abbrev cX4_dropOldest : ByteArray := prog_6_method_4_code
def yX4_dropOldest : MethodName := ⟨RX4, "dropOldest", "()V"⟩
abbrev cX4_takeBack : ByteArray := prog_6_method_5_code
def yX4_takeBack : MethodName := ⟨RX4, "takeBack", "(LBoardEnds$State;)V"⟩
def RX5 : String := "BoardEnds$Pad"
def TX5 : u_T := fun k => match k with
  | 0 => ("BoardEnds$Pad", "signs", "[C", true)
  | _ => ("BoardEnds$Pad", "length", "I", false)
def tyX5 : Nat → FieldType := fun k => match k with
  | 0 => .array .char
  | _ => .int
theorem nmX5 : ∀ a, a < 2 → ∀ b, b < 2 → a ≠ b → (TX5 a).2.1 ≠ (TX5 b).2.1 := by decide +kernel
theorem tyX5_ok : ∀ k, k < 2 → parseFieldDescriptor (TX5 k).2.2.1 = some (tyX5 k) := by decide +kernel
abbrev cX5_init : ByteArray := prog_7_method_1_code
def yX5_init : MethodName := ⟨RX5, "<init>", "()V"⟩
abbrev cX5_length : ByteArray := prog_7_method_2_code
def yX5_length : MethodName := ⟨RX5, "length", "()I"⟩
abbrev cX5_empty : ByteArray := prog_7_method_3_code
def yX5_empty : MethodName := ⟨RX5, "empty", "()V"⟩
abbrev cX5_countIn : ByteArray := prog_7_method_4_code
def yX5_countIn : MethodName := ⟨RX5, "countIn", "(J)I"⟩
abbrev cX5_append : ByteArray := prog_7_method_5_code
def yX5_append : MethodName := ⟨RX5, "append", "(JI)V"⟩
abbrev cX5_firstFault : ByteArray := prog_7_method_6_code
def yX5_firstFault : MethodName := ⟨RX5, "firstFault", "()I"⟩
abbrev cX5_canStand : ByteArray := prog_7_method_7_code
def yX5_canStand : MethodName := ⟨RX5, "canStand", "(CI)Z"⟩
abbrev cX5_placesOf : ByteArray := prog_7_method_8_code
def yX5_placesOf : MethodName := ⟨RX5, "placesOf", "(C)I"⟩
abbrev cX5_foxMoves : ByteArray := prog_7_method_9_code
def yX5_foxMoves : MethodName := ⟨RX5, "foxMoves", "()Z"⟩
def RX6 : String := "BoardEnds$State"
def TX6 : u_T := fun k => match k with
  | 0 => ("BoardEnds$State", "settings", "I", false)
  | 1 => ("BoardEnds$State", "blocked", "I", false)
  | 2 => ("BoardEnds$State", "who", "I", false)
  | 3 => ("BoardEnds$State", "fox", "I", false)
  | 4 => ("BoardEnds$State", "low", "I", false)
  | _ => ("BoardEnds$State", "high", "I", false)
def tyX6 : Nat → FieldType := fun k => match k with
  | 0 => .int
  | 1 => .int
  | 2 => .int
  | 3 => .int
  | 4 => .int
  | _ => .int
theorem nmX6 : ∀ a, a < 6 → ∀ b, b < 6 → a ≠ b → (TX6 a).2.1 ≠ (TX6 b).2.1 := by decide +kernel
theorem tyX6_ok : ∀ k, k < 6 → parseFieldDescriptor (TX6 k).2.2.1 = some (tyX6 k) := by decide +kernel
abbrev cX6_init : ByteArray := prog_8_method_1_code
def yX6_init : MethodName := ⟨RX6, "<init>", "()V"⟩
abbrev cX6_take : ByteArray := prog_8_method_2_code
def yX6_take : MethodName := ⟨RX6, "take", "(LBoardEnds$State;)V"⟩
abbrev cX6_place : ByteArray := prog_8_method_3_code
def yX6_place : MethodName := ⟨RX6, "place", "(IIII)V"⟩
abbrev cX6_setting : ByteArray := prog_8_method_4_code
def yX6_setting : MethodName := ⟨RX6, "setting", "(I)I"⟩
abbrev cX6_change : ByteArray := prog_8_method_5_code
def yX6_change : MethodName := ⟨RX6, "change", "(II)V"⟩
abbrev cX6_hunters : ByteArray := prog_8_method_6_code
def yX6_hunters : MethodName := ⟨RX6, "hunters", "()I"⟩
abbrev cX6_taken : ByteArray := prog_8_method_7_code
def yX6_taken : MethodName := ⟨RX6, "taken", "()I"⟩
abbrev cX6_hunterOnFox : ByteArray := prog_8_method_8_code
def yX6_hunterOnFox : MethodName := ⟨RX6, "hunterOnFox", "()Z"⟩
def RX7 : String := "BoardEnds$Survey"
def TX7 : u_T := fun k => match k with
  | 0 => ("BoardEnds$Survey", "grid", "LBoardEnds$Grid;", true)
  | 1 => ("BoardEnds$Survey", "ends", "LBoardEnds$Ends;", true)
  | 2 => ("BoardEnds$Survey", "folding", "LBoardEnds$Folding;", true)
  | 3 => ("BoardEnds$Survey", "totals", "[I", true)
  | 4 => ("BoardEnds$Survey", "standing", "[I", true)
  | 5 => ("BoardEnds$Survey", "counts", "[I", true)
  | 6 => ("BoardEnds$Survey", "told", "[I", true)
  | _ => ("BoardEnds$Survey", "prepared", "I", false)
def tyX7 : Nat → FieldType := fun k => match k with
  | 0 => .object "BoardEnds$Grid"
  | 1 => .object "BoardEnds$Ends"
  | 2 => .object "BoardEnds$Folding"
  | 3 => .array .int
  | 4 => .array .int
  | 5 => .array .int
  | 6 => .array .int
  | _ => .int
theorem nmX7 : ∀ a, a < 8 → ∀ b, b < 8 → a ≠ b → (TX7 a).2.1 ≠ (TX7 b).2.1 := by decide +kernel
theorem tyX7_ok : ∀ k, k < 8 → parseFieldDescriptor (TX7 k).2.2.1 = some (tyX7 k) := by decide +kernel
abbrev cX7_init : ByteArray := prog_9_method_1_code
def yX7_init : MethodName := ⟨RX7, "<init>", "(LBoardEnds$Grid;LBoardEnds$Ends;LBoardEnds$Folding;)V"⟩
abbrev cX7_total : ByteArray := prog_9_method_2_code
def yX7_total : MethodName := ⟨RX7, "total", "(I)I"⟩
abbrev cX7_told : ByteArray := prog_9_method_3_code
def yX7_told : MethodName := ⟨RX7, "told", "(I)I"⟩
abbrev cX7_countWith : ByteArray := prog_9_method_4_code
def yX7_countWith : MethodName := ⟨RX7, "countWith", "(I)I"⟩
abbrev cX7_distanceOf : ByteArray := prog_9_method_5_code
def yX7_distanceOf : MethodName := ⟨RX7, "distanceOf", "(I)I"⟩
abbrev cX7_prepare : ByteArray := prog_9_method_6_code
def yX7_prepare : MethodName := ⟨RX7, "prepare", "(LBoardEnds$State;)V"⟩
abbrev cX7_goThrough : ByteArray := prog_9_method_7_code
def yX7_goThrough : MethodName := ⟨RX7, "goThrough", "(I)V"⟩
abbrev cX7_collect : ByteArray := prog_9_method_8_code
def yX7_collect : MethodName := ⟨RX7, "collect", "(I)V"⟩
abbrev cX7_makeRule : ByteArray := prog_9_method_9_code
def yX7_makeRule : MethodName := ⟨RX7, "makeRule", "()V"⟩
abbrev cX7_commonest : ByteArray := prog_9_method_10_code
def yX7_commonest : MethodName := ⟨RX7, "commonest", "(I)I"⟩
abbrev cX7_countExceptions : ByteArray := prog_9_method_11_code
def yX7_countExceptions : MethodName := ⟨RX7, "countExceptions", "()V"⟩
abbrev cX7_countException : ByteArray := prog_9_method_12_code
def yX7_countException : MethodName := ⟨RX7, "countException", "(IZ)V"⟩
def RX8 : String := "BoardEnds"
def TX8 : u_T := fun k => match k with
  | 0 => ("BoardEnds", "grid", "LBoardEnds$Grid;", true)
  | 1 => ("BoardEnds", "ends", "LBoardEnds$Ends;", true)
  | 2 => ("BoardEnds", "folding", "LBoardEnds$Folding;", true)
  | 3 => ("BoardEnds", "survey", "LBoardEnds$Survey;", true)
  | 4 => ("BoardEnds", "game", "LBoardEnds$Game;", true)
  | 5 => ("BoardEnds", "state", "LBoardEnds$State;", true)
  | 6 => ("BoardEnds", "ahead", "LBoardEnds$State;", true)
  | 7 => ("BoardEnds", "history", "LBoardEnds$History;", true)
  | 8 => ("BoardEnds", "pad", "LBoardEnds$Pad;", true)
  | 9 => ("BoardEnds", "slots", "[LBoardEnds$State;", true)
  | _ => ("BoardEnds", "saved", "[Z", true)
def tyX8 : Nat → FieldType := fun k => match k with
  | 0 => .object "BoardEnds$Grid"
  | 1 => .object "BoardEnds$Ends"
  | 2 => .object "BoardEnds$Folding"
  | 3 => .object "BoardEnds$Survey"
  | 4 => .object "BoardEnds$Game"
  | 5 => .object "BoardEnds$State"
  | 6 => .object "BoardEnds$State"
  | 7 => .object "BoardEnds$History"
  | 8 => .object "BoardEnds$Pad"
  | 9 => .array (.object "BoardEnds$State")
  | _ => .array .boolean
theorem nmX8 : ∀ a, a < 11 → ∀ b, b < 11 → a ≠ b → (TX8 a).2.1 ≠ (TX8 b).2.1 := by decide +kernel
theorem tyX8_ok : ∀ k, k < 11 → parseFieldDescriptor (TX8 k).2.2.1 = some (tyX8 k) := by decide +kernel
abbrev cX8_init : ByteArray := prog_1_method_1_code
def yX8_init : MethodName := ⟨RX8, "<init>", "()V"⟩
abbrev cX8_set : ByteArray := prog_1_method_2_code
def yX8_set : MethodName := ⟨RX8, "set", "(II)I"⟩
abbrev cX8_block : ByteArray := prog_1_method_3_code
def yX8_block : MethodName := ⟨RX8, "block", "(I)I"⟩
abbrev cX8_setUp : ByteArray := prog_1_method_4_code
def yX8_setUp : MethodName := ⟨RX8, "setUp", "(IIII)I"⟩
abbrev cX8_move : ByteArray := prog_1_method_5_code
def yX8_move : MethodName := ⟨RX8, "move", "(II)I"⟩
abbrev cX8_play : ByteArray := prog_1_method_6_code
def yX8_play : MethodName := ⟨RX8, "play", "()I"⟩
abbrev cX8_readPad : ByteArray := prog_1_method_7_code
def yX8_readPad : MethodName := ⟨RX8, "readPad", "()I"⟩
abbrev cX8_now : ByteArray := prog_1_method_8_code
def yX8_now : MethodName := ⟨RX8, "now", "(I)I"⟩
abbrev cX8_distance : ByteArray := prog_1_method_9_code
def yX8_distance : MethodName := ⟨RX8, "distance", "(IIII)I"⟩
abbrev cX8_number : ByteArray := prog_1_method_10_code
def yX8_number : MethodName := ⟨RX8, "number", "(IIII)I"⟩
abbrev cX8_folded : ByteArray := prog_1_method_11_code
def yX8_folded : MethodName := ⟨RX8, "folded", "(IIII)I"⟩
abbrev cX8_of : ByteArray := prog_1_method_12_code
def yX8_of : MethodName := ⟨RX8, "of", "(II)I"⟩
abbrev cX8_line : ByteArray := prog_1_method_13_code
def yX8_line : MethodName := ⟨RX8, "line", "(I)I"⟩
abbrev cX8_all : ByteArray := prog_1_method_14_code
def yX8_all : MethodName := ⟨RX8, "all", "(I)I"⟩
abbrev cX8_withDistance : ByteArray := prog_1_method_15_code
def yX8_withDistance : MethodName := ⟨RX8, "withDistance", "(I)I"⟩
abbrev cX8_rule : ByteArray := prog_1_method_16_code
def yX8_rule : MethodName := ⟨RX8, "rule", "(I)I"⟩
abbrev cX8_put : ByteArray := prog_1_method_17_code
def yX8_put : MethodName := ⟨RX8, "put", "(J)I"⟩
abbrev cX8_wipe : ByteArray := prog_1_method_18_code
def yX8_wipe : MethodName := ⟨RX8, "wipe", "()I"⟩
abbrev cX8_fault : ByteArray := prog_1_method_19_code
def yX8_fault : MethodName := ⟨RX8, "fault", "()I"⟩
abbrev cX8_undo : ByteArray := prog_1_method_20_code
def yX8_undo : MethodName := ⟨RX8, "undo", "()I"⟩
abbrev cX8_save : ByteArray := prog_1_method_21_code
def yX8_save : MethodName := ⟨RX8, "save", "(I)I"⟩
abbrev cX8_restore : ByteArray := prog_1_method_22_code
def yX8_restore : MethodName := ⟨RX8, "restore", "(I)I"⟩
abbrev cX8_errorOf : ByteArray := prog_1_method_23_code
def yX8_errorOf : MethodName := ⟨RX8, "errorOf", "(IIII)I"⟩
abbrev cX8_makeMove : ByteArray := prog_1_method_24_code
def yX8_makeMove : MethodName := ⟨RX8, "makeMove", "(II)I"⟩
abbrev cX8_distanceNow : ByteArray := prog_1_method_25_code
def yX8_distanceNow : MethodName := ⟨RX8, "distanceNow", "()I"⟩
abbrev cX8_numberNow : ByteArray := prog_1_method_26_code
def yX8_numberNow : MethodName := ⟨RX8, "numberNow", "(LBoardEnds$State;)I"⟩
abbrev cX8_foldedNumber : ByteArray := prog_1_method_27_code
def yX8_foldedNumber : MethodName := ⟨RX8, "foldedNumber", "(I)I"⟩
def RX9 : String := "BoardEndsModel"
def TX9 : u_T := fun k => match k with
  | 0 => ("BoardEndsModel", "at", "[I", true)
  | 1 => ("BoardEndsModel", "past", "[I", true)
  | 2 => ("BoardEndsModel", "pastFirst", "I", false)
  | 3 => ("BoardEndsModel", "pastMany", "I", false)
  | 4 => ("BoardEndsModel", "slots", "[I", true)
  | 5 => ("BoardEndsModel", "isSaved", "[Z", true)
  | 6 => ("BoardEndsModel", "pairLow", "[I", true)
  | 7 => ("BoardEndsModel", "pairHigh", "[I", true)
  | 8 => ("BoardEndsModel", "far", "[I", true)
  | 9 => ("BoardEndsModel", "stands", "[I", true)
  | 10 => ("BoardEndsModel", "alike", "[I", true)
  | 11 => ("BoardEndsModel", "ways", "[I", true)
  | 12 => ("BoardEndsModel", "symmetries", "I", false)
  | 13 => ("BoardEndsModel", "rules", "[I", true)
  | 14 => ("BoardEndsModel", "counts", "[I", true)
  | 15 => ("BoardEndsModel", "worked", "[I", true)
  | 16 => ("BoardEndsModel", "isWorked", "Z", false)
  | 17 => ("BoardEndsModel", "bestFrom", "I", false)
  | 18 => ("BoardEndsModel", "bestTo", "I", false)
  | 19 => ("BoardEndsModel", "pad", "[I", true)
  | _ => ("BoardEndsModel", "padMany", "I", false)
def tyX9 : Nat → FieldType := fun k => match k with
  | 0 => .array .int
  | 1 => .array .int
  | 2 => .int
  | 3 => .int
  | 4 => .array .int
  | 5 => .array .boolean
  | 6 => .array .int
  | 7 => .array .int
  | 8 => .array .int
  | 9 => .array .int
  | 10 => .array .int
  | 11 => .array .int
  | 12 => .int
  | 13 => .array .int
  | 14 => .array .int
  | 15 => .array .int
  | 16 => .boolean
  | 17 => .int
  | 18 => .int
  | 19 => .array .int
  | _ => .int
theorem nmX9 : ∀ a, a < 21 → ∀ b, b < 21 → a ≠ b → (TX9 a).2.1 ≠ (TX9 b).2.1 := by decide +kernel
theorem tyX9_ok : ∀ k, k < 21 → parseFieldDescriptor (TX9 k).2.2.1 = some (tyX9 k) := by decide +kernel
abbrev cX9_init : ByteArray := prog_11_method_1_code
def yX9_init : MethodName := ⟨RX9, "<init>", "()V"⟩
abbrev cX9_in : ByteArray := prog_11_method_3_code
def yX9_in : MethodName := ⟨RX9, "in", "(III)Z"⟩
abbrev cX9_isPlace : ByteArray := prog_11_method_4_code
def yX9_isPlace : MethodName := ⟨RX9, "isPlace", "(I)Z"⟩
abbrev cX9_has : ByteArray := prog_11_method_5_code
def yX9_has : MethodName := ⟨RX9, "has", "(II)Z"⟩
abbrev cX9_many : ByteArray := prog_11_method_6_code
def yX9_many : MethodName := ⟨RX9, "many", "(I)I"⟩
abbrev cX9_lesser : ByteArray := prog_11_method_7_code
def yX9_lesser : MethodName := ⟨RX9, "lesser", "(II)I"⟩
abbrev cX9_greater : ByteArray := prog_11_method_8_code
def yX9_greater : MethodName := ⟨RX9, "greater", "(II)I"⟩
abbrev cX9_size : ByteArray := prog_11_method_9_code
def yX9_size : MethodName := ⟨RX9, "size", "(I)I"⟩
abbrev cX9_keep : ByteArray := prog_11_method_10_code
def yX9_keep : MethodName := ⟨RX9, "keep", "()V"⟩
abbrev cX9_rowsBetween : ByteArray := prog_11_method_11_code
def yX9_rowsBetween : MethodName := ⟨RX9, "rowsBetween", "(II)I"⟩
abbrev cX9_columnsBetween : ByteArray := prog_11_method_12_code
def yX9_columnsBetween : MethodName := ⟨RX9, "columnsBetween", "(II)I"⟩
abbrev cX9_between : ByteArray := prog_11_method_13_code
def yX9_between : MethodName := ⟨RX9, "between", "(II)I"⟩
abbrev cX9_isStep : ByteArray := prog_11_method_14_code
def yX9_isStep : MethodName := ⟨RX9, "isStep", "(IIZ)Z"⟩
abbrev cX9_isFree : ByteArray := prog_11_method_15_code
def yX9_isFree : MethodName := ⟨RX9, "isFree", "(I)Z"⟩
abbrev cX9_pair : ByteArray := prog_11_method_16_code
def yX9_pair : MethodName := ⟨RX9, "pair", "(II)I"⟩
abbrev cX9_numberOf : ByteArray := prog_11_method_17_code
def yX9_numberOf : MethodName := ⟨RX9, "numberOf", "(IIII)I"⟩
abbrev cX9_isPosition : ByteArray := prog_11_method_18_code
def yX9_isPosition : MethodName := ⟨RX9, "isPosition", "(I)Z"⟩
abbrev cX9_canCatch : ByteArray := prog_11_method_19_code
def yX9_canCatch : MethodName := ⟨RX9, "canCatch", "(II)Z"⟩
abbrev cX9_ofFox : ByteArray := prog_11_method_20_code
def yX9_ofFox : MethodName := ⟨RX9, "ofFox", "(II)I"⟩
abbrev cX9_ofHunter : ByteArray := prog_11_method_21_code
def yX9_ofHunter : MethodName := ⟨RX9, "ofHunter", "(III)I"⟩
abbrev cX9_nearer : ByteArray := prog_11_method_22_code
def yX9_nearer : MethodName := ⟨RX9, "nearer", "(II)I"⟩
abbrev cX9_ofHunters : ByteArray := prog_11_method_23_code
def yX9_ofHunters : MethodName := ⟨RX9, "ofHunters", "(II)I"⟩
abbrev cX9_workOut : ByteArray := prog_11_method_24_code
def yX9_workOut : MethodName := ⟨RX9, "workOut", "(I)Z"⟩
abbrev cX9_workOutAll : ByteArray := prog_11_method_25_code
def yX9_workOutAll : MethodName := ⟨RX9, "workOutAll", "()V"⟩
abbrev cX9_turned : ByteArray := prog_11_method_26_code
def yX9_turned : MethodName := ⟨RX9, "turned", "(II)I"⟩
abbrev cX9_findSymmetries : ByteArray := prog_11_method_27_code
def yX9_findSymmetries : MethodName := ⟨RX9, "findSymmetries", "()V"⟩
abbrev cX9_madeBy : ByteArray := prog_11_method_28_code
def yX9_madeBy : MethodName := ⟨RX9, "madeBy", "(II)I"⟩
abbrev cX9_fold : ByteArray := prog_11_method_29_code
def yX9_fold : MethodName := ⟨RX9, "fold", "()V"⟩
abbrev cX9_foldOne : ByteArray := prog_11_method_30_code
def yX9_foldOne : MethodName := ⟨RX9, "foldOne", "(I)V"⟩
abbrev cX9_key : ByteArray := prog_11_method_31_code
def yX9_key : MethodName := ⟨RX9, "key", "(I)I"⟩
abbrev cX9_ruleOf : ByteArray := prog_11_method_32_code
def yX9_ruleOf : MethodName := ⟨RX9, "ruleOf", "(I)I"⟩
abbrev cX9_isAsWorked : ByteArray := prog_11_method_33_code
def yX9_isAsWorked : MethodName := ⟨RX9, "isAsWorked", "()Z"⟩
abbrev cX9_work : ByteArray := prog_11_method_34_code
def yX9_work : MethodName := ⟨RX9, "work", "()V"⟩
abbrev cX9_isHit : ByteArray := prog_11_method_35_code
def yX9_isHit : MethodName := ⟨RX9, "isHit", "()Z"⟩
abbrev cX9_numberNow : ByteArray := prog_11_method_36_code
def yX9_numberNow : MethodName := ⟨RX9, "numberNow", "()I"⟩
abbrev cX9_isCaught : ByteArray := prog_11_method_37_code
def yX9_isCaught : MethodName := ⟨RX9, "isCaught", "()Z"⟩
abbrev cX9_distanceNow : ByteArray := prog_11_method_38_code
def yX9_distanceNow : MethodName := ⟨RX9, "distanceNow", "()I"⟩
abbrev cX9_isHunterMove : ByteArray := prog_11_method_39_code
def yX9_isHunterMove : MethodName := ⟨RX9, "isHunterMove", "(II)Z"⟩
abbrev cX9_isFoxMove : ByteArray := prog_11_method_40_code
def yX9_isFoxMove : MethodName := ⟨RX9, "isFoxMove", "(II)Z"⟩
abbrev cX9_isMove : ByteArray := prog_11_method_41_code
def yX9_isMove : MethodName := ⟨RX9, "isMove", "(II)Z"⟩
abbrev cX9_worth : ByteArray := prog_11_method_42_code
def yX9_worth : MethodName := ⟨RX9, "worth", "(II)I"⟩
abbrev cX9_findBest : ByteArray := prog_11_method_43_code
def yX9_findBest : MethodName := ⟨RX9, "findBest", "()Z"⟩
abbrev cX9_make : ByteArray := prog_11_method_44_code
def yX9_make : MethodName := ⟨RX9, "make", "(II)I"⟩
abbrev cX9_set : ByteArray := prog_11_method_45_code
def yX9_set : MethodName := ⟨RX9, "set", "(II)I"⟩
abbrev cX9_block : ByteArray := prog_11_method_46_code
def yX9_block : MethodName := ⟨RX9, "block", "(I)I"⟩
abbrev cX9_whyNot : ByteArray := prog_11_method_47_code
def yX9_whyNot : MethodName := ⟨RX9, "whyNot", "(IIII)I"⟩
abbrev cX9_lay : ByteArray := prog_11_method_48_code
def yX9_lay : MethodName := ⟨RX9, "lay", "(IIII)V"⟩
abbrev cX9_setUp : ByteArray := prog_11_method_49_code
def yX9_setUp : MethodName := ⟨RX9, "setUp", "(IIII)I"⟩
abbrev cX9_move : ByteArray := prog_11_method_50_code
def yX9_move : MethodName := ⟨RX9, "move", "(II)I"⟩
abbrev cX9_play : ByteArray := prog_11_method_51_code
def yX9_play : MethodName := ⟨RX9, "play", "()I"⟩
abbrev cX9_best : ByteArray := prog_11_method_52_code
def yX9_best : MethodName := ⟨RX9, "best", "(I)I"⟩
abbrev cX9_standsNow : ByteArray := prog_11_method_53_code
def yX9_standsNow : MethodName := ⟨RX9, "standsNow", "()I"⟩
abbrev cX9_now : ByteArray := prog_11_method_54_code
def yX9_now : MethodName := ⟨RX9, "now", "(I)I"⟩
abbrev cX9_distance : ByteArray := prog_11_method_55_code
def yX9_distance : MethodName := ⟨RX9, "distance", "(IIII)I"⟩
abbrev cX9_number : ByteArray := prog_11_method_56_code
def yX9_number : MethodName := ⟨RX9, "number", "(IIII)I"⟩
abbrev cX9_folded : ByteArray := prog_11_method_57_code
def yX9_folded : MethodName := ⟨RX9, "folded", "(IIII)I"⟩
abbrev cX9_of : ByteArray := prog_11_method_58_code
def yX9_of : MethodName := ⟨RX9, "of", "(II)I"⟩
abbrev cX9_line : ByteArray := prog_11_method_59_code
def yX9_line : MethodName := ⟨RX9, "line", "(I)I"⟩
abbrev cX9_positions : ByteArray := prog_11_method_60_code
def yX9_positions : MethodName := ⟨RX9, "positions", "(Z)I"⟩
abbrev cX9_greatest : ByteArray := prog_11_method_61_code
def yX9_greatest : MethodName := ⟨RX9, "greatest", "()I"⟩
abbrev cX9_lowestWith : ByteArray := prog_11_method_62_code
def yX9_lowestWith : MethodName := ⟨RX9, "lowestWith", "(I)I"⟩
abbrev cX9_standingWith : ByteArray := prog_11_method_63_code
def yX9_standingWith : MethodName := ⟨RX9, "standingWith", "(I)I"⟩
abbrev cX9_isException : ByteArray := prog_11_method_64_code
def yX9_isException : MethodName := ⟨RX9, "isException", "(I)Z"⟩
abbrev cX9_exceptions : ByteArray := prog_11_method_65_code
def yX9_exceptions : MethodName := ⟨RX9, "exceptions", "()I"⟩
abbrev cX9_runs : ByteArray := prog_11_method_66_code
def yX9_runs : MethodName := ⟨RX9, "runs", "(I)I"⟩
abbrev cX9_blocks : ByteArray := prog_11_method_67_code
def yX9_blocks : MethodName := ⟨RX9, "blocks", "()I"⟩
abbrev cX9_keys : ByteArray := prog_11_method_68_code
def yX9_keys : MethodName := ⟨RX9, "keys", "()I"⟩
abbrev cX9_all : ByteArray := prog_11_method_69_code
def yX9_all : MethodName := ⟨RX9, "all", "(I)I"⟩
abbrev cX9_withDistance : ByteArray := prog_11_method_70_code
def yX9_withDistance : MethodName := ⟨RX9, "withDistance", "(I)I"⟩
abbrev cX9_rule : ByteArray := prog_11_method_71_code
def yX9_rule : MethodName := ⟨RX9, "rule", "(I)I"⟩
abbrev cX9_put : ByteArray := prog_11_method_72_code
def yX9_put : MethodName := ⟨RX9, "put", "(J)I"⟩
abbrev cX9_wipe : ByteArray := prog_11_method_73_code
def yX9_wipe : MethodName := ⟨RX9, "wipe", "()I"⟩
abbrev cX9_canStand : ByteArray := prog_11_method_74_code
def yX9_canStand : MethodName := ⟨RX9, "canStand", "(II)Z"⟩
abbrev cX9_fault : ByteArray := prog_11_method_75_code
def yX9_fault : MethodName := ⟨RX9, "fault", "()I"⟩
abbrev cX9_placesOf : ByteArray := prog_11_method_76_code
def yX9_placesOf : MethodName := ⟨RX9, "placesOf", "(I)I"⟩
abbrev cX9_lowest : ByteArray := prog_11_method_77_code
def yX9_lowest : MethodName := ⟨RX9, "lowest", "(I)I"⟩
abbrev cX9_readPad : ByteArray := prog_11_method_78_code
def yX9_readPad : MethodName := ⟨RX9, "readPad", "()I"⟩
abbrev cX9_undo : ByteArray := prog_11_method_79_code
def yX9_undo : MethodName := ⟨RX9, "undo", "()I"⟩
abbrev cX9_save : ByteArray := prog_11_method_80_code
def yX9_save : MethodName := ⟨RX9, "save", "(I)I"⟩
abbrev cX9_restore : ByteArray := prog_11_method_81_code
def yX9_restore : MethodName := ⟨RX9, "restore", "(I)I"⟩
def RJ6 : String := "java/lang/Integer"
abbrev cJ6_bitCount_0f7a4 : ByteArray := prog_12_method_49_code
def yJ6_bitCount_0f7a4 : MethodName := ⟨RJ6, "bitCount", "(I)I"⟩
def RJ9 : String := "java/lang/Math"
abbrev cJ9_abs_0f7a4 : ByteArray := prog_13_method_59_code
def yJ9_abs_0f7a4 : MethodName := ⟨RJ9, "abs", "(I)I"⟩
abbrev cJ9_max_7cf53 : ByteArray := prog_13_method_65_code
def yJ9_max_7cf53 : MethodName := ⟨RJ9, "max", "(II)I"⟩
abbrev cJ9_min_7cf53 : ByteArray := prog_13_method_69_code
def yJ9_min_7cf53 : MethodName := ⟨RJ9, "min", "(II)I"⟩
def RJ7 : String := "java/util/Arrays"
abbrev cJ7_fill_53178 : ByteArray := prog_14_method_103_code
def yJ7_fill_53178 : MethodName := ⟨RJ7, "fill", "([II)V"⟩
def RL : String := "BoardEndsLaw"
abbrev cL_law : ByteArray := code
def yL_law : MethodName := ⟨RL, "law", "([I)Z"⟩
abbrev vwCl : List vw_C := [(RX0, TX0, 9), (RX1, TX1, 4), (RX2, TX2, 2), (RX3, TX3, 7), (RX4, TX4, 2), (RX5, TX5, 2), (RX6, TX6, 6), (RX7, TX7, 8), (RX8, TX8, 11), (RX9, TX9, 21)]
def gw : List Cond := tables_1.filter goodWord ++ (k2_sels lw_privs).filter goodWord
theorem gw_of {w : Cond} (h : w ∈ tables_1) (hg : goodWord w = true) : w ∈ gw := List.mem_append_left _ (List.mem_filter.mpr ⟨h, hg⟩)
theorem gw_sel {w : Cond} (h : w ∈ k2_sels lw_privs) (hg : goodWord w = true) : w ∈ gw := List.mem_append_right _ (List.mem_filter.mpr ⟨h, hg⟩)
theorem gw_good : GoodIn gw gw := fun w h => ⟨h, good_of_word ((List.mem_append.mp h).elim (fun q => (List.mem_filter.mp q).2) (fun q => (List.mem_filter.mp q).2))⟩
theorem gw_tbl {w : Cond} (h : w ∈ gw) : w ∈ lw_tbl := (List.mem_append.mp h).elim (fun q => List.mem_append_right _ (List.mem_filter.mp q).1) (fun q => List.mem_append_left _ (List.mem_filter.mp q).1)
def xCS (own : String) (idx : Nat) (y : MethodName) (cc : ByteArray) (nL : Nat) (ret : Option FieldType) (n : Nat) : Prop := Cond.methodLink own idx y ∈ gw ∧ Cond.static y ∈ gw ∧ Cond.initialized y.cls ∈ gw ∧ Cond.code y cc nL ret ∈ gw ∧ y.cls ≠ "java/lang/invoke/MethodHandle" ∧ y.cls ≠ "java/lang/invoke/VarHandle" ∧ (parseMethodDescriptor y.desc).map (fun d => d.parameters.length) = some n
def xCV (own : String) (idx : Nat) (y : MethodName) (cc : ByteArray) (nL : Nat) (ret : Option FieldType) (n : Nat) : Prop := Cond.methodLink own idx y ∈ gw ∧ Cond.instanceMethod y ∈ gw ∧ Cond.selects y.cls y y ∈ gw ∧ Cond.initialized y.cls ∈ gw ∧ Cond.code y cc nL ret ∈ gw ∧ y.cls ≠ "java/lang/invoke/MethodHandle" ∧ y.cls ≠ "java/lang/invoke/VarHandle" ∧ (parseMethodDescriptor y.desc).map (fun d => d.parameters.length) = some n
def xCI (own : String) (idx : Nat) (y : MethodName) (cc : ByteArray) (nL : Nat) (n : Nat) : Prop := Cond.methodLink own idx y ∈ gw ∧ Cond.instanceMethod y ∈ gw ∧ Cond.initialized y.cls ∈ gw ∧ Cond.code y cc nL none ∈ gw ∧ y.name = "<init>" ∧ y.cls ≠ "java/lang/invoke/MethodHandle" ∧ y.cls ≠ "java/lang/invoke/VarHandle" ∧ (parseMethodDescriptor y.desc).map (fun d => d.parameters.length) = some n
def xCN (y : MethodName) (cc : ByteArray) (nL : Nat) (n : Nat) : Prop := Cond.instanceMethod y ∈ gw ∧ Cond.initialized y.cls ∈ gw ∧ Cond.code y cc nL none ∈ gw ∧ y.name = "<init>" ∧ y.cls ≠ "java/lang/invoke/MethodHandle" ∧ y.cls ≠ "java/lang/invoke/VarHandle" ∧ (parseMethodDescriptor y.desc).map (fun d => d.parameters.length) = some n
def xKl (C : String) (T : u_T) (N ci : Nat) (ty : Nat → FieldType) : Prop := (∀ w ∈ u_ws C T N, w ∈ gw) ∧ vwCl[ci]? = some (C, T, N) ∧ (∀ k, k < N → parseFieldDescriptor (T k).2.2.1 = some (ty k)) ∧ (∀ a, a < N → ∀ b, b < N → a ≠ b → (T a).2.1 ≠ (T b).2.1)
def xFl (own : String) (idx : Nat) (T : u_T) (N k : Nat) : Prop := Cond.fieldLink own idx (T k).1 (T k).2.1 (T k).2.2.1 ∈ gw ∧ k < N
theorem m0 : Cond.initialized RL ∈ gw := gw_of (List.mem_of_getElem? (i := 0) (by decide +kernel)) (by decide +kernel)
theorem m1 : Cond.initialized RX8 ∈ gw := gw_of (List.mem_of_getElem? (i := 1) (by decide +kernel)) (by decide +kernel)
theorem m2 : Cond.initialized RX3 ∈ gw := gw_of (List.mem_of_getElem? (i := 2) (by decide +kernel)) (by decide +kernel)
theorem m3 : Cond.initialized RJ9 ∈ gw := gw_of (List.mem_of_getElem? (i := 3) (by decide +kernel)) (by decide +kernel)
theorem m4 : Cond.initialized RX0 ∈ gw := gw_of (List.mem_of_getElem? (i := 4) (by decide +kernel)) (by decide +kernel)
theorem m5 : Cond.initialized RX1 ∈ gw := gw_of (List.mem_of_getElem? (i := 5) (by decide +kernel)) (by decide +kernel)
theorem m6 : Cond.initialized RX7 ∈ gw := gw_of (List.mem_of_getElem? (i := 6) (by decide +kernel)) (by decide +kernel)
theorem m7 : Cond.initialized RX2 ∈ gw := gw_of (List.mem_of_getElem? (i := 7) (by decide +kernel)) (by decide +kernel)
theorem m8 : Cond.initialized RX6 ∈ gw := gw_of (List.mem_of_getElem? (i := 8) (by decide +kernel)) (by decide +kernel)
theorem m9 : Cond.initialized RX4 ∈ gw := gw_of (List.mem_of_getElem? (i := 9) (by decide +kernel)) (by decide +kernel)
theorem m10 : Cond.initialized RX5 ∈ gw := gw_of (List.mem_of_getElem? (i := 10) (by decide +kernel)) (by decide +kernel)
theorem m11 : Cond.initialized RX9 ∈ gw := gw_of (List.mem_of_getElem? (i := 11) (by decide +kernel)) (by decide +kernel)
theorem m12 : Cond.initialized RJ6 ∈ gw := gw_of (List.mem_of_getElem? (i := 12) (by decide +kernel)) (by decide +kernel)
theorem m13 : Cond.initialized RJ7 ∈ gw := gw_of (List.mem_of_getElem? (i := 13) (by decide +kernel)) (by decide +kernel)
theorem m14 : Cond.classLink RL 7 RX8 ∈ gw := gw_of (List.mem_of_getElem? (i := 14) (by decide +kernel)) (by decide +kernel)
theorem m15 : Cond.instantiable RX8 11 ∈ gw := gw_of (List.mem_of_getElem? (i := 15) (by decide +kernel)) (by decide +kernel)
theorem m16 : Cond.methodLink RL 9 yX8_init ∈ gw := gw_of (List.mem_of_getElem? (i := 16) (by decide +kernel)) (by decide +kernel)
theorem m17 : Cond.instanceMethod yX8_init ∈ gw := gw_of (List.mem_of_getElem? (i := 17) (by decide +kernel)) (by decide +kernel)
theorem m18 : Cond.code yX8_init cX8_init 2 none ∈ gw := gw_of (List.mem_of_getElem? (i := 18) (by decide +kernel)) (by decide +kernel)
theorem m19 : Cond.methodLink RX8 1 objectInit ∈ gw := gw_of (List.mem_of_getElem? (i := 19) (by decide +kernel)) (by decide +kernel)
theorem m20 : Cond.instanceMethod objectInit ∈ gw := gw_of (List.mem_of_getElem? (i := 20) (by decide +kernel)) (by decide +kernel)
theorem m21 : Cond.code objectInit ⟨#[0xb1]⟩ 1 none ∈ gw := gw_of (List.mem_of_getElem? (i := 21) (by decide +kernel)) (by decide +kernel)
theorem m22 : Cond.classLink RX8 7 RX3 ∈ gw := gw_of (List.mem_of_getElem? (i := 22) (by decide +kernel)) (by decide +kernel)
theorem m23 : Cond.instantiable RX3 7 ∈ gw := gw_of (List.mem_of_getElem? (i := 23) (by decide +kernel)) (by decide +kernel)
theorem m24 : Cond.methodLink RX8 9 yX3_init ∈ gw := gw_of (List.mem_of_getElem? (i := 24) (by decide +kernel)) (by decide +kernel)
theorem m25 : Cond.instanceMethod yX3_init ∈ gw := gw_of (List.mem_of_getElem? (i := 25) (by decide +kernel)) (by decide +kernel)
theorem m26 : Cond.code yX3_init cX3_init 1 none ∈ gw := gw_of (List.mem_of_getElem? (i := 26) (by decide +kernel)) (by decide +kernel)
theorem m27 : Cond.methodLink RX3 1 objectInit ∈ gw := gw_of (List.mem_of_getElem? (i := 27) (by decide +kernel)) (by decide +kernel)
theorem m28 : Cond.methodLink RX3 31 yX3_fillSteps ∈ gw := gw_of (List.mem_of_getElem? (i := 28) (by decide +kernel)) (by decide +kernel)
theorem m30 : Cond.instanceMethod yX3_fillSteps ∈ gw := gw_of (List.mem_of_getElem? (i := 30) (by decide +kernel)) (by decide +kernel)
theorem m31 : Cond.code yX3_fillSteps cX3_fillSteps 4 none ∈ gw := gw_of (List.mem_of_getElem? (i := 31) (by decide +kernel)) (by decide +kernel)
theorem m32 : Cond.methodLink RX3 40 yX3_far ∈ gw := gw_of (List.mem_of_getElem? (i := 32) (by decide +kernel)) (by decide +kernel)
theorem m33 : Cond.static yX3_far ∈ gw := gw_of (List.mem_of_getElem? (i := 33) (by decide +kernel)) (by decide +kernel)
theorem m34 : Cond.code yX3_far cX3_far 2 (some .int) ∈ gw := gw_of (List.mem_of_getElem? (i := 34) (by decide +kernel)) (by decide +kernel)
theorem m35 : Cond.methodLink RX3 44 yJ9_abs_0f7a4 ∈ gw := gw_of (List.mem_of_getElem? (i := 35) (by decide +kernel)) (by decide +kernel)
theorem m36 : Cond.static yJ9_abs_0f7a4 ∈ gw := gw_of (List.mem_of_getElem? (i := 36) (by decide +kernel)) (by decide +kernel)
theorem m37 : Cond.code yJ9_abs_0f7a4 cJ9_abs_0f7a4 1 (some .int) ∈ gw := gw_of (List.mem_of_getElem? (i := 37) (by decide +kernel)) (by decide +kernel)
theorem m38 : Cond.methodLink RX3 34 yX3_fillPairs ∈ gw := gw_of (List.mem_of_getElem? (i := 38) (by decide +kernel)) (by decide +kernel)
theorem m40 : Cond.instanceMethod yX3_fillPairs ∈ gw := gw_of (List.mem_of_getElem? (i := 40) (by decide +kernel)) (by decide +kernel)
theorem m41 : Cond.code yX3_fillPairs cX3_fillPairs 4 none ∈ gw := gw_of (List.mem_of_getElem? (i := 41) (by decide +kernel)) (by decide +kernel)
theorem m42 : Cond.methodLink RX3 37 yX3_fillImages ∈ gw := gw_of (List.mem_of_getElem? (i := 42) (by decide +kernel)) (by decide +kernel)
theorem m44 : Cond.instanceMethod yX3_fillImages ∈ gw := gw_of (List.mem_of_getElem? (i := 44) (by decide +kernel)) (by decide +kernel)
theorem m45 : Cond.code yX3_fillImages cX3_fillImages 5 none ∈ gw := gw_of (List.mem_of_getElem? (i := 45) (by decide +kernel)) (by decide +kernel)
theorem m46 : Cond.fieldLink RX3 9 "BoardEnds$Grid" "straight" "[I" ∈ gw := gw_of (List.mem_of_getElem? (i := 46) (by decide +kernel)) (by decide +kernel)
theorem m47 : Cond.fieldLink RX3 13 "BoardEnds$Grid" "corner" "[I" ∈ gw := gw_of (List.mem_of_getElem? (i := 47) (by decide +kernel)) (by decide +kernel)
theorem m48 : Cond.fieldLink RX3 16 "BoardEnds$Grid" "pairs" "[I" ∈ gw := gw_of (List.mem_of_getElem? (i := 48) (by decide +kernel)) (by decide +kernel)
theorem m49 : Cond.fieldLink RX3 19 "BoardEnds$Grid" "lowers" "[I" ∈ gw := gw_of (List.mem_of_getElem? (i := 49) (by decide +kernel)) (by decide +kernel)
theorem m50 : Cond.fieldLink RX3 22 "BoardEnds$Grid" "highers" "[I" ∈ gw := gw_of (List.mem_of_getElem? (i := 50) (by decide +kernel)) (by decide +kernel)
theorem m51 : Cond.fieldLink RX3 25 "BoardEnds$Grid" "places" "[I" ∈ gw := gw_of (List.mem_of_getElem? (i := 51) (by decide +kernel)) (by decide +kernel)
theorem m52 : Cond.fieldLink RX3 28 "BoardEnds$Grid" "images" "[I" ∈ gw := gw_of (List.mem_of_getElem? (i := 52) (by decide +kernel)) (by decide +kernel)
theorem m68 : Cond.arrayClass .int ∈ gw := gw_of (List.mem_of_getElem? (i := 68) (by decide +kernel)) (by decide +kernel)
theorem m69 : Cond.classLink RX8 16 RX0 ∈ gw := gw_of (List.mem_of_getElem? (i := 69) (by decide +kernel)) (by decide +kernel)
theorem m70 : Cond.instantiable RX0 9 ∈ gw := gw_of (List.mem_of_getElem? (i := 70) (by decide +kernel)) (by decide +kernel)
theorem m71 : Cond.methodLink RX8 18 yX0_init ∈ gw := gw_of (List.mem_of_getElem? (i := 71) (by decide +kernel)) (by decide +kernel)
theorem m72 : Cond.instanceMethod yX0_init ∈ gw := gw_of (List.mem_of_getElem? (i := 72) (by decide +kernel)) (by decide +kernel)
theorem m73 : Cond.code yX0_init cX0_init 2 none ∈ gw := gw_of (List.mem_of_getElem? (i := 73) (by decide +kernel)) (by decide +kernel)
theorem m74 : Cond.methodLink RX0 3 objectInit ∈ gw := gw_of (List.mem_of_getElem? (i := 74) (by decide +kernel)) (by decide +kernel)
theorem m75 : Cond.fieldLink RX0 9 "BoardEnds$Ends" "grid" "LBoardEnds$Grid;" ∈ gw := gw_of (List.mem_of_getElem? (i := 75) (by decide +kernel)) (by decide +kernel)
theorem m76 : Cond.fieldLink RX0 17 "BoardEnds$Ends" "distances" "[I" ∈ gw := gw_of (List.mem_of_getElem? (i := 76) (by decide +kernel)) (by decide +kernel)
theorem m77 : Cond.fieldLink RX0 21 "BoardEnds$Ends" "foxKnown" "[I" ∈ gw := gw_of (List.mem_of_getElem? (i := 77) (by decide +kernel)) (by decide +kernel)
theorem m78 : Cond.fieldLink RX0 24 "BoardEnds$Ends" "huntersKnown" "[I" ∈ gw := gw_of (List.mem_of_getElem? (i := 78) (by decide +kernel)) (by decide +kernel)
theorem m79 : Cond.fieldLink RX0 27 "BoardEnds$Ends" "prepared" "I" ∈ gw := gw_of (List.mem_of_getElem? (i := 79) (by decide +kernel)) (by decide +kernel)
theorem m80 : Cond.fieldLink RX0 44 "BoardEnds$Ends" "free" "I" ∈ gw := gw_of (List.mem_of_getElem? (i := 80) (by decide +kernel)) (by decide +kernel)
theorem m81 : Cond.fieldLink RX0 51 "BoardEnds$Ends" "foxCorners" "Z" ∈ gw := gw_of (List.mem_of_getElem? (i := 81) (by decide +kernel)) (by decide +kernel)
theorem m82 : Cond.fieldLink RX0 55 "BoardEnds$Ends" "huntCorners" "Z" ∈ gw := gw_of (List.mem_of_getElem? (i := 82) (by decide +kernel)) (by decide +kernel)
theorem m83 : Cond.fieldLink RX0 58 "BoardEnds$Ends" "mayStay" "Z" ∈ gw := gw_of (List.mem_of_getElem? (i := 83) (by decide +kernel)) (by decide +kernel)
theorem m103 : Cond.classLink RX8 25 RX1 ∈ gw := gw_of (List.mem_of_getElem? (i := 103) (by decide +kernel)) (by decide +kernel)
theorem m104 : Cond.instantiable RX1 4 ∈ gw := gw_of (List.mem_of_getElem? (i := 104) (by decide +kernel)) (by decide +kernel)
theorem m105 : Cond.methodLink RX8 27 yX1_init ∈ gw := gw_of (List.mem_of_getElem? (i := 105) (by decide +kernel)) (by decide +kernel)
theorem m106 : Cond.instanceMethod yX1_init ∈ gw := gw_of (List.mem_of_getElem? (i := 106) (by decide +kernel)) (by decide +kernel)
theorem m107 : Cond.code yX1_init cX1_init 2 none ∈ gw := gw_of (List.mem_of_getElem? (i := 107) (by decide +kernel)) (by decide +kernel)
theorem m108 : Cond.methodLink RX1 1 objectInit ∈ gw := gw_of (List.mem_of_getElem? (i := 108) (by decide +kernel)) (by decide +kernel)
theorem m109 : Cond.fieldLink RX1 7 "BoardEnds$Folding" "grid" "LBoardEnds$Grid;" ∈ gw := gw_of (List.mem_of_getElem? (i := 109) (by decide +kernel)) (by decide +kernel)
theorem m110 : Cond.fieldLink RX1 15 "BoardEnds$Folding" "kept" "[I" ∈ gw := gw_of (List.mem_of_getElem? (i := 110) (by decide +kernel)) (by decide +kernel)
theorem m111 : Cond.fieldLink RX1 23 "BoardEnds$Folding" "keptCount" "I" ∈ gw := gw_of (List.mem_of_getElem? (i := 111) (by decide +kernel)) (by decide +kernel)
theorem m112 : Cond.fieldLink RX1 19 "BoardEnds$Folding" "prepared" "I" ∈ gw := gw_of (List.mem_of_getElem? (i := 112) (by decide +kernel)) (by decide +kernel)
theorem m122 : Cond.classLink RX8 32 RX7 ∈ gw := gw_of (List.mem_of_getElem? (i := 122) (by decide +kernel)) (by decide +kernel)
theorem m123 : Cond.instantiable RX7 8 ∈ gw := gw_of (List.mem_of_getElem? (i := 123) (by decide +kernel)) (by decide +kernel)
theorem m124 : Cond.methodLink RX8 34 yX7_init ∈ gw := gw_of (List.mem_of_getElem? (i := 124) (by decide +kernel)) (by decide +kernel)
theorem m125 : Cond.instanceMethod yX7_init ∈ gw := gw_of (List.mem_of_getElem? (i := 125) (by decide +kernel)) (by decide +kernel)
theorem m126 : Cond.code yX7_init cX7_init 4 none ∈ gw := gw_of (List.mem_of_getElem? (i := 126) (by decide +kernel)) (by decide +kernel)
theorem m127 : Cond.methodLink RX7 5 objectInit ∈ gw := gw_of (List.mem_of_getElem? (i := 127) (by decide +kernel)) (by decide +kernel)
theorem m128 : Cond.fieldLink RX7 11 "BoardEnds$Survey" "grid" "LBoardEnds$Grid;" ∈ gw := gw_of (List.mem_of_getElem? (i := 128) (by decide +kernel)) (by decide +kernel)
theorem m129 : Cond.fieldLink RX7 15 "BoardEnds$Survey" "ends" "LBoardEnds$Ends;" ∈ gw := gw_of (List.mem_of_getElem? (i := 129) (by decide +kernel)) (by decide +kernel)
theorem m130 : Cond.fieldLink RX7 19 "BoardEnds$Survey" "folding" "LBoardEnds$Folding;" ∈ gw := gw_of (List.mem_of_getElem? (i := 130) (by decide +kernel)) (by decide +kernel)
theorem m131 : Cond.fieldLink RX7 23 "BoardEnds$Survey" "totals" "[I" ∈ gw := gw_of (List.mem_of_getElem? (i := 131) (by decide +kernel)) (by decide +kernel)
theorem m132 : Cond.fieldLink RX7 29 "BoardEnds$Survey" "standing" "[I" ∈ gw := gw_of (List.mem_of_getElem? (i := 132) (by decide +kernel)) (by decide +kernel)
theorem m133 : Cond.fieldLink RX7 32 "BoardEnds$Survey" "counts" "[I" ∈ gw := gw_of (List.mem_of_getElem? (i := 133) (by decide +kernel)) (by decide +kernel)
theorem m134 : Cond.fieldLink RX7 35 "BoardEnds$Survey" "told" "[I" ∈ gw := gw_of (List.mem_of_getElem? (i := 134) (by decide +kernel)) (by decide +kernel)
theorem m135 : Cond.fieldLink RX7 38 "BoardEnds$Survey" "prepared" "I" ∈ gw := gw_of (List.mem_of_getElem? (i := 135) (by decide +kernel)) (by decide +kernel)
theorem m153 : Cond.classLink RX8 41 RX2 ∈ gw := gw_of (List.mem_of_getElem? (i := 153) (by decide +kernel)) (by decide +kernel)
theorem m154 : Cond.instantiable RX2 2 ∈ gw := gw_of (List.mem_of_getElem? (i := 154) (by decide +kernel)) (by decide +kernel)
theorem m155 : Cond.methodLink RX8 43 yX2_init ∈ gw := gw_of (List.mem_of_getElem? (i := 155) (by decide +kernel)) (by decide +kernel)
theorem m156 : Cond.instanceMethod yX2_init ∈ gw := gw_of (List.mem_of_getElem? (i := 156) (by decide +kernel)) (by decide +kernel)
theorem m157 : Cond.code yX2_init cX2_init 3 none ∈ gw := gw_of (List.mem_of_getElem? (i := 157) (by decide +kernel)) (by decide +kernel)
theorem m158 : Cond.methodLink RX2 3 objectInit ∈ gw := gw_of (List.mem_of_getElem? (i := 158) (by decide +kernel)) (by decide +kernel)
theorem m159 : Cond.fieldLink RX2 9 "BoardEnds$Game" "grid" "LBoardEnds$Grid;" ∈ gw := gw_of (List.mem_of_getElem? (i := 159) (by decide +kernel)) (by decide +kernel)
theorem m160 : Cond.fieldLink RX2 15 "BoardEnds$Game" "ends" "LBoardEnds$Ends;" ∈ gw := gw_of (List.mem_of_getElem? (i := 160) (by decide +kernel)) (by decide +kernel)
theorem m166 : Cond.classLink RX8 50 RX6 ∈ gw := gw_of (List.mem_of_getElem? (i := 166) (by decide +kernel)) (by decide +kernel)
theorem m167 : Cond.instantiable RX6 6 ∈ gw := gw_of (List.mem_of_getElem? (i := 167) (by decide +kernel)) (by decide +kernel)
theorem m169 : Cond.instanceMethod yX6_init ∈ gw := gw_of (List.mem_of_getElem? (i := 169) (by decide +kernel)) (by decide +kernel)
theorem m170 : Cond.code yX6_init cX6_init 1 none ∈ gw := gw_of (List.mem_of_getElem? (i := 170) (by decide +kernel)) (by decide +kernel)
theorem m171 : Cond.methodLink RX6 1 objectInit ∈ gw := gw_of (List.mem_of_getElem? (i := 171) (by decide +kernel)) (by decide +kernel)
theorem m172 : Cond.fieldLink RX0 31 "BoardEnds$State" "settings" "I" ∈ gw := gw_of (List.mem_of_getElem? (i := 172) (by decide +kernel)) (by decide +kernel)
theorem m173 : Cond.fieldLink RX6 7 "BoardEnds$State" "settings" "I" ∈ gw := gw_of (List.mem_of_getElem? (i := 173) (by decide +kernel)) (by decide +kernel)
theorem m174 : Cond.fieldLink RX0 36 "BoardEnds$State" "blocked" "I" ∈ gw := gw_of (List.mem_of_getElem? (i := 174) (by decide +kernel)) (by decide +kernel)
theorem m175 : Cond.fieldLink RX6 13 "BoardEnds$State" "blocked" "I" ∈ gw := gw_of (List.mem_of_getElem? (i := 175) (by decide +kernel)) (by decide +kernel)
theorem m176 : Cond.fieldLink RX8 102 "BoardEnds$State" "blocked" "I" ∈ gw := gw_of (List.mem_of_getElem? (i := 176) (by decide +kernel)) (by decide +kernel)
theorem m177 : Cond.fieldLink RX2 46 "BoardEnds$State" "blocked" "I" ∈ gw := gw_of (List.mem_of_getElem? (i := 177) (by decide +kernel)) (by decide +kernel)
theorem m178 : Cond.fieldLink RX7 56 "BoardEnds$State" "blocked" "I" ∈ gw := gw_of (List.mem_of_getElem? (i := 178) (by decide +kernel)) (by decide +kernel)
theorem m179 : Cond.fieldLink RX6 16 "BoardEnds$State" "who" "I" ∈ gw := gw_of (List.mem_of_getElem? (i := 179) (by decide +kernel)) (by decide +kernel)
theorem m180 : Cond.fieldLink RX2 27 "BoardEnds$State" "who" "I" ∈ gw := gw_of (List.mem_of_getElem? (i := 180) (by decide +kernel)) (by decide +kernel)
theorem m181 : Cond.fieldLink RX8 160 "BoardEnds$State" "who" "I" ∈ gw := gw_of (List.mem_of_getElem? (i := 181) (by decide +kernel)) (by decide +kernel)
theorem m182 : Cond.fieldLink RX6 19 "BoardEnds$State" "fox" "I" ∈ gw := gw_of (List.mem_of_getElem? (i := 182) (by decide +kernel)) (by decide +kernel)
theorem m183 : Cond.fieldLink RX2 35 "BoardEnds$State" "fox" "I" ∈ gw := gw_of (List.mem_of_getElem? (i := 183) (by decide +kernel)) (by decide +kernel)
theorem m184 : Cond.fieldLink RX8 163 "BoardEnds$State" "fox" "I" ∈ gw := gw_of (List.mem_of_getElem? (i := 184) (by decide +kernel)) (by decide +kernel)
theorem m185 : Cond.fieldLink RX6 22 "BoardEnds$State" "low" "I" ∈ gw := gw_of (List.mem_of_getElem? (i := 185) (by decide +kernel)) (by decide +kernel)
theorem m186 : Cond.fieldLink RX2 57 "BoardEnds$State" "low" "I" ∈ gw := gw_of (List.mem_of_getElem? (i := 186) (by decide +kernel)) (by decide +kernel)
theorem m187 : Cond.fieldLink RX8 166 "BoardEnds$State" "low" "I" ∈ gw := gw_of (List.mem_of_getElem? (i := 187) (by decide +kernel)) (by decide +kernel)
theorem m188 : Cond.fieldLink RX6 25 "BoardEnds$State" "high" "I" ∈ gw := gw_of (List.mem_of_getElem? (i := 188) (by decide +kernel)) (by decide +kernel)
theorem m189 : Cond.fieldLink RX2 60 "BoardEnds$State" "high" "I" ∈ gw := gw_of (List.mem_of_getElem? (i := 189) (by decide +kernel)) (by decide +kernel)
theorem m190 : Cond.fieldLink RX8 169 "BoardEnds$State" "high" "I" ∈ gw := gw_of (List.mem_of_getElem? (i := 190) (by decide +kernel)) (by decide +kernel)
theorem m204 : Cond.classLink RX8 60 RX4 ∈ gw := gw_of (List.mem_of_getElem? (i := 204) (by decide +kernel)) (by decide +kernel)
theorem m205 : Cond.instantiable RX4 2 ∈ gw := gw_of (List.mem_of_getElem? (i := 205) (by decide +kernel)) (by decide +kernel)
theorem m206 : Cond.methodLink RX8 62 yX4_init ∈ gw := gw_of (List.mem_of_getElem? (i := 206) (by decide +kernel)) (by decide +kernel)
theorem m207 : Cond.instanceMethod yX4_init ∈ gw := gw_of (List.mem_of_getElem? (i := 207) (by decide +kernel)) (by decide +kernel)
theorem m208 : Cond.code yX4_init cX4_init 2 none ∈ gw := gw_of (List.mem_of_getElem? (i := 208) (by decide +kernel)) (by decide +kernel)
theorem m209 : Cond.methodLink RX4 1 objectInit ∈ gw := gw_of (List.mem_of_getElem? (i := 209) (by decide +kernel)) (by decide +kernel)
theorem m210 : Cond.classLink RX4 9 RX6 ∈ gw := gw_of (List.mem_of_getElem? (i := 210) (by decide +kernel)) (by decide +kernel)
theorem m213 : Cond.fieldLink RX4 11 "BoardEnds$History" "states" "[LBoardEnds$State;" ∈ gw := gw_of (List.mem_of_getElem? (i := 213) (by decide +kernel)) (by decide +kernel)
theorem m214 : Cond.fieldLink RX4 16 "BoardEnds$History" "length" "I" ∈ gw := gw_of (List.mem_of_getElem? (i := 214) (by decide +kernel)) (by decide +kernel)
theorem m220 : Cond.classLink RX8 67 RX5 ∈ gw := gw_of (List.mem_of_getElem? (i := 220) (by decide +kernel)) (by decide +kernel)
theorem m221 : Cond.instantiable RX5 2 ∈ gw := gw_of (List.mem_of_getElem? (i := 221) (by decide +kernel)) (by decide +kernel)
theorem m222 : Cond.methodLink RX8 69 yX5_init ∈ gw := gw_of (List.mem_of_getElem? (i := 222) (by decide +kernel)) (by decide +kernel)
theorem m223 : Cond.instanceMethod yX5_init ∈ gw := gw_of (List.mem_of_getElem? (i := 223) (by decide +kernel)) (by decide +kernel)
theorem m224 : Cond.code yX5_init cX5_init 1 none ∈ gw := gw_of (List.mem_of_getElem? (i := 224) (by decide +kernel)) (by decide +kernel)
theorem m225 : Cond.methodLink RX5 3 objectInit ∈ gw := gw_of (List.mem_of_getElem? (i := 225) (by decide +kernel)) (by decide +kernel)
theorem m226 : Cond.fieldLink RX5 11 "BoardEnds$Pad" "signs" "[C" ∈ gw := gw_of (List.mem_of_getElem? (i := 226) (by decide +kernel)) (by decide +kernel)
theorem m227 : Cond.fieldLink RX5 15 "BoardEnds$Pad" "length" "I" ∈ gw := gw_of (List.mem_of_getElem? (i := 227) (by decide +kernel)) (by decide +kernel)
theorem m233 : Cond.arrayClass .char ∈ gw := gw_of (List.mem_of_getElem? (i := 233) (by decide +kernel)) (by decide +kernel)
theorem m234 : Cond.methodLink RX8 82 yX6_place ∈ gw := gw_of (List.mem_of_getElem? (i := 234) (by decide +kernel)) (by decide +kernel)
theorem m235 : Cond.instanceMethod yX6_place ∈ gw := gw_of (List.mem_of_getElem? (i := 235) (by decide +kernel)) (by decide +kernel)
theorem m236 : Cond.selects RX6 yX6_place yX6_place ∈ gw := gw_of (List.mem_of_getElem? (i := 236) (by decide +kernel)) (by decide +kernel)
theorem m237 : Cond.code yX6_place cX6_place 5 none ∈ gw := gw_of (List.mem_of_getElem? (i := 237) (by decide +kernel)) (by decide +kernel)
theorem m238 : Cond.methodLink RX6 28 yJ9_min_7cf53 ∈ gw := gw_of (List.mem_of_getElem? (i := 238) (by decide +kernel)) (by decide +kernel)
theorem m239 : Cond.static yJ9_min_7cf53 ∈ gw := gw_of (List.mem_of_getElem? (i := 239) (by decide +kernel)) (by decide +kernel)
theorem m240 : Cond.code yJ9_min_7cf53 cJ9_min_7cf53 2 (some .int) ∈ gw := gw_of (List.mem_of_getElem? (i := 240) (by decide +kernel)) (by decide +kernel)
theorem m241 : Cond.methodLink RX6 34 yJ9_max_7cf53 ∈ gw := gw_of (List.mem_of_getElem? (i := 241) (by decide +kernel)) (by decide +kernel)
theorem m242 : Cond.static yJ9_max_7cf53 ∈ gw := gw_of (List.mem_of_getElem? (i := 242) (by decide +kernel)) (by decide +kernel)
theorem m243 : Cond.code yJ9_max_7cf53 cJ9_max_7cf53 2 (some .int) ∈ gw := gw_of (List.mem_of_getElem? (i := 243) (by decide +kernel)) (by decide +kernel)
theorem m244 : Cond.fieldLink RX8 10 "BoardEnds" "grid" "LBoardEnds$Grid;" ∈ gw := gw_of (List.mem_of_getElem? (i := 244) (by decide +kernel)) (by decide +kernel)
theorem m245 : Cond.fieldLink RX8 21 "BoardEnds" "ends" "LBoardEnds$Ends;" ∈ gw := gw_of (List.mem_of_getElem? (i := 245) (by decide +kernel)) (by decide +kernel)
theorem m246 : Cond.fieldLink RX8 28 "BoardEnds" "folding" "LBoardEnds$Folding;" ∈ gw := gw_of (List.mem_of_getElem? (i := 246) (by decide +kernel)) (by decide +kernel)
theorem m247 : Cond.fieldLink RX8 37 "BoardEnds" "survey" "LBoardEnds$Survey;" ∈ gw := gw_of (List.mem_of_getElem? (i := 247) (by decide +kernel)) (by decide +kernel)
theorem m248 : Cond.fieldLink RX8 46 "BoardEnds" "game" "LBoardEnds$Game;" ∈ gw := gw_of (List.mem_of_getElem? (i := 248) (by decide +kernel)) (by decide +kernel)
theorem m249 : Cond.fieldLink RX8 53 "BoardEnds" "state" "LBoardEnds$State;" ∈ gw := gw_of (List.mem_of_getElem? (i := 249) (by decide +kernel)) (by decide +kernel)
theorem m250 : Cond.fieldLink RX8 57 "BoardEnds" "ahead" "LBoardEnds$State;" ∈ gw := gw_of (List.mem_of_getElem? (i := 250) (by decide +kernel)) (by decide +kernel)
theorem m251 : Cond.fieldLink RX8 63 "BoardEnds" "history" "LBoardEnds$History;" ∈ gw := gw_of (List.mem_of_getElem? (i := 251) (by decide +kernel)) (by decide +kernel)
theorem m252 : Cond.fieldLink RX8 70 "BoardEnds" "pad" "LBoardEnds$Pad;" ∈ gw := gw_of (List.mem_of_getElem? (i := 252) (by decide +kernel)) (by decide +kernel)
theorem m253 : Cond.fieldLink RX8 74 "BoardEnds" "slots" "[LBoardEnds$State;" ∈ gw := gw_of (List.mem_of_getElem? (i := 253) (by decide +kernel)) (by decide +kernel)
theorem m254 : Cond.fieldLink RX8 78 "BoardEnds" "saved" "[Z" ∈ gw := gw_of (List.mem_of_getElem? (i := 254) (by decide +kernel)) (by decide +kernel)
theorem m278 : Cond.arrayClass .boolean ∈ gw := gw_of (List.mem_of_getElem? (i := 278) (by decide +kernel)) (by decide +kernel)
theorem m279 : Cond.methodLink RL 13 yX8_set ∈ gw := gw_of (List.mem_of_getElem? (i := 279) (by decide +kernel)) (by decide +kernel)
theorem m280 : Cond.instanceMethod yX8_set ∈ gw := gw_of (List.mem_of_getElem? (i := 280) (by decide +kernel)) (by decide +kernel)
theorem m281 : Cond.selects RX8 yX8_set yX8_set ∈ gw := gw_of (List.mem_of_getElem? (i := 281) (by decide +kernel)) (by decide +kernel)
theorem m282 : Cond.code yX8_set cX8_set 4 (some .int) ∈ gw := gw_of (List.mem_of_getElem? (i := 282) (by decide +kernel)) (by decide +kernel)
theorem m283 : Cond.methodLink RX8 86 yX4_record ∈ gw := gw_of (List.mem_of_getElem? (i := 283) (by decide +kernel)) (by decide +kernel)
theorem m284 : Cond.instanceMethod yX4_record ∈ gw := gw_of (List.mem_of_getElem? (i := 284) (by decide +kernel)) (by decide +kernel)
theorem m285 : Cond.selects RX4 yX4_record yX4_record ∈ gw := gw_of (List.mem_of_getElem? (i := 285) (by decide +kernel)) (by decide +kernel)
theorem m286 : Cond.code yX4_record cX4_record 2 none ∈ gw := gw_of (List.mem_of_getElem? (i := 286) (by decide +kernel)) (by decide +kernel)
theorem m287 : Cond.methodLink RX4 20 yX4_dropOldest ∈ gw := gw_of (List.mem_of_getElem? (i := 287) (by decide +kernel)) (by decide +kernel)
theorem m289 : Cond.instanceMethod yX4_dropOldest ∈ gw := gw_of (List.mem_of_getElem? (i := 289) (by decide +kernel)) (by decide +kernel)
theorem m290 : Cond.code yX4_dropOldest cX4_dropOldest 3 none ∈ gw := gw_of (List.mem_of_getElem? (i := 290) (by decide +kernel)) (by decide +kernel)
theorem m291 : Cond.methodLink RX4 23 yX6_take ∈ gw := gw_of (List.mem_of_getElem? (i := 291) (by decide +kernel)) (by decide +kernel)
theorem m292 : Cond.instanceMethod yX6_take ∈ gw := gw_of (List.mem_of_getElem? (i := 292) (by decide +kernel)) (by decide +kernel)
theorem m293 : Cond.selects RX6 yX6_take yX6_take ∈ gw := gw_of (List.mem_of_getElem? (i := 293) (by decide +kernel)) (by decide +kernel)
theorem m294 : Cond.code yX6_take cX6_take 2 none ∈ gw := gw_of (List.mem_of_getElem? (i := 294) (by decide +kernel)) (by decide +kernel)
theorem m295 : Cond.methodLink RX8 90 yX6_setting ∈ gw := gw_of (List.mem_of_getElem? (i := 295) (by decide +kernel)) (by decide +kernel)
theorem m296 : Cond.instanceMethod yX6_setting ∈ gw := gw_of (List.mem_of_getElem? (i := 296) (by decide +kernel)) (by decide +kernel)
theorem m297 : Cond.selects RX6 yX6_setting yX6_setting ∈ gw := gw_of (List.mem_of_getElem? (i := 297) (by decide +kernel)) (by decide +kernel)
theorem m298 : Cond.code yX6_setting cX6_setting 2 (some .int) ∈ gw := gw_of (List.mem_of_getElem? (i := 298) (by decide +kernel)) (by decide +kernel)
theorem m299 : Cond.methodLink RX8 94 yX6_change ∈ gw := gw_of (List.mem_of_getElem? (i := 299) (by decide +kernel)) (by decide +kernel)
theorem m300 : Cond.instanceMethod yX6_change ∈ gw := gw_of (List.mem_of_getElem? (i := 300) (by decide +kernel)) (by decide +kernel)
theorem m301 : Cond.selects RX6 yX6_change yX6_change ∈ gw := gw_of (List.mem_of_getElem? (i := 301) (by decide +kernel)) (by decide +kernel)
theorem m302 : Cond.code yX6_change cX6_change 3 none ∈ gw := gw_of (List.mem_of_getElem? (i := 302) (by decide +kernel)) (by decide +kernel)
theorem m303 : Cond.methodLink RL 18 yX8_block ∈ gw := gw_of (List.mem_of_getElem? (i := 303) (by decide +kernel)) (by decide +kernel)
theorem m304 : Cond.instanceMethod yX8_block ∈ gw := gw_of (List.mem_of_getElem? (i := 304) (by decide +kernel)) (by decide +kernel)
theorem m305 : Cond.selects RX8 yX8_block yX8_block ∈ gw := gw_of (List.mem_of_getElem? (i := 305) (by decide +kernel)) (by decide +kernel)
theorem m306 : Cond.code yX8_block cX8_block 4 (some .int) ∈ gw := gw_of (List.mem_of_getElem? (i := 306) (by decide +kernel)) (by decide +kernel)
theorem m307 : Cond.methodLink RX8 98 yX3_isPlace ∈ gw := gw_of (List.mem_of_getElem? (i := 307) (by decide +kernel)) (by decide +kernel)
theorem m308 : Cond.static yX3_isPlace ∈ gw := gw_of (List.mem_of_getElem? (i := 308) (by decide +kernel)) (by decide +kernel)
theorem m309 : Cond.code yX3_isPlace cX3_isPlace 1 (some .boolean) ∈ gw := gw_of (List.mem_of_getElem? (i := 309) (by decide +kernel)) (by decide +kernel)
theorem m310 : Cond.methodLink RX8 106 yJ6_bitCount_0f7a4 ∈ gw := gw_of (List.mem_of_getElem? (i := 310) (by decide +kernel)) (by decide +kernel)
theorem m311 : Cond.static yJ6_bitCount_0f7a4 ∈ gw := gw_of (List.mem_of_getElem? (i := 311) (by decide +kernel)) (by decide +kernel)
theorem m312 : Cond.code yJ6_bitCount_0f7a4 cJ6_bitCount_0f7a4 1 (some .int) ∈ gw := gw_of (List.mem_of_getElem? (i := 312) (by decide +kernel)) (by decide +kernel)
theorem m313 : Cond.constant RJ6 265 1431655765 ∈ gw := gw_of (List.mem_of_getElem? (i := 313) (by decide +kernel)) (by decide +kernel)
theorem m314 : Cond.constant RJ6 266 858993459 ∈ gw := gw_of (List.mem_of_getElem? (i := 314) (by decide +kernel)) (by decide +kernel)
theorem m315 : Cond.constant RJ6 267 252645135 ∈ gw := gw_of (List.mem_of_getElem? (i := 315) (by decide +kernel)) (by decide +kernel)
theorem m316 : Cond.methodLink RX8 111 yX6_taken ∈ gw := gw_of (List.mem_of_getElem? (i := 316) (by decide +kernel)) (by decide +kernel)
theorem m317 : Cond.instanceMethod yX6_taken ∈ gw := gw_of (List.mem_of_getElem? (i := 317) (by decide +kernel)) (by decide +kernel)
theorem m318 : Cond.selects RX6 yX6_taken yX6_taken ∈ gw := gw_of (List.mem_of_getElem? (i := 318) (by decide +kernel)) (by decide +kernel)
theorem m319 : Cond.code yX6_taken cX6_taken 1 (some .int) ∈ gw := gw_of (List.mem_of_getElem? (i := 319) (by decide +kernel)) (by decide +kernel)
theorem m320 : Cond.methodLink RX6 37 yX6_hunters ∈ gw := gw_of (List.mem_of_getElem? (i := 320) (by decide +kernel)) (by decide +kernel)
theorem m321 : Cond.instanceMethod yX6_hunters ∈ gw := gw_of (List.mem_of_getElem? (i := 321) (by decide +kernel)) (by decide +kernel)
theorem m322 : Cond.selects RX6 yX6_hunters yX6_hunters ∈ gw := gw_of (List.mem_of_getElem? (i := 322) (by decide +kernel)) (by decide +kernel)
theorem m323 : Cond.code yX6_hunters cX6_hunters 1 (some .int) ∈ gw := gw_of (List.mem_of_getElem? (i := 323) (by decide +kernel)) (by decide +kernel)
theorem m324 : Cond.methodLink RL 23 yX8_setUp ∈ gw := gw_of (List.mem_of_getElem? (i := 324) (by decide +kernel)) (by decide +kernel)
theorem m325 : Cond.instanceMethod yX8_setUp ∈ gw := gw_of (List.mem_of_getElem? (i := 325) (by decide +kernel)) (by decide +kernel)
theorem m326 : Cond.selects RX8 yX8_setUp yX8_setUp ∈ gw := gw_of (List.mem_of_getElem? (i := 326) (by decide +kernel)) (by decide +kernel)
theorem m327 : Cond.code yX8_setUp cX8_setUp 6 (some .int) ∈ gw := gw_of (List.mem_of_getElem? (i := 327) (by decide +kernel)) (by decide +kernel)
theorem m328 : Cond.methodLink RX8 115 yX8_errorOf ∈ gw := gw_of (List.mem_of_getElem? (i := 328) (by decide +kernel)) (by decide +kernel)
theorem m330 : Cond.instanceMethod yX8_errorOf ∈ gw := gw_of (List.mem_of_getElem? (i := 330) (by decide +kernel)) (by decide +kernel)
theorem m331 : Cond.code yX8_errorOf cX8_errorOf 8 (some .int) ∈ gw := gw_of (List.mem_of_getElem? (i := 331) (by decide +kernel)) (by decide +kernel)
theorem m332 : Cond.methodLink RX8 119 yX8_distanceNow ∈ gw := gw_of (List.mem_of_getElem? (i := 332) (by decide +kernel)) (by decide +kernel)
theorem m334 : Cond.instanceMethod yX8_distanceNow ∈ gw := gw_of (List.mem_of_getElem? (i := 334) (by decide +kernel)) (by decide +kernel)
theorem m335 : Cond.code yX8_distanceNow cX8_distanceNow 1 (some .int) ∈ gw := gw_of (List.mem_of_getElem? (i := 335) (by decide +kernel)) (by decide +kernel)
theorem m336 : Cond.methodLink RX8 172 yX2_caught ∈ gw := gw_of (List.mem_of_getElem? (i := 336) (by decide +kernel)) (by decide +kernel)
theorem m337 : Cond.instanceMethod yX2_caught ∈ gw := gw_of (List.mem_of_getElem? (i := 337) (by decide +kernel)) (by decide +kernel)
theorem m338 : Cond.selects RX2 yX2_caught yX2_caught ∈ gw := gw_of (List.mem_of_getElem? (i := 338) (by decide +kernel)) (by decide +kernel)
theorem m339 : Cond.code yX2_caught cX2_caught 2 (some .boolean) ∈ gw := gw_of (List.mem_of_getElem? (i := 339) (by decide +kernel)) (by decide +kernel)
theorem m340 : Cond.methodLink RX2 21 yX6_hunterOnFox ∈ gw := gw_of (List.mem_of_getElem? (i := 340) (by decide +kernel)) (by decide +kernel)
theorem m341 : Cond.instanceMethod yX6_hunterOnFox ∈ gw := gw_of (List.mem_of_getElem? (i := 341) (by decide +kernel)) (by decide +kernel)
theorem m342 : Cond.selects RX6 yX6_hunterOnFox yX6_hunterOnFox ∈ gw := gw_of (List.mem_of_getElem? (i := 342) (by decide +kernel)) (by decide +kernel)
theorem m343 : Cond.code yX6_hunterOnFox cX6_hunterOnFox 1 (some .boolean) ∈ gw := gw_of (List.mem_of_getElem? (i := 343) (by decide +kernel)) (by decide +kernel)
theorem m344 : Cond.methodLink RX2 31 yX2_foxSteps ∈ gw := gw_of (List.mem_of_getElem? (i := 344) (by decide +kernel)) (by decide +kernel)
theorem m346 : Cond.instanceMethod yX2_foxSteps ∈ gw := gw_of (List.mem_of_getElem? (i := 346) (by decide +kernel)) (by decide +kernel)
theorem m347 : Cond.code yX2_foxSteps cX2_foxSteps 2 (some .int) ∈ gw := gw_of (List.mem_of_getElem? (i := 347) (by decide +kernel)) (by decide +kernel)
theorem m348 : Cond.methodLink RX2 38 yX6_setting ∈ gw := gw_of (List.mem_of_getElem? (i := 348) (by decide +kernel)) (by decide +kernel)
theorem m349 : Cond.methodLink RX2 42 yX3_stepsFrom ∈ gw := gw_of (List.mem_of_getElem? (i := 349) (by decide +kernel)) (by decide +kernel)
theorem m350 : Cond.instanceMethod yX3_stepsFrom ∈ gw := gw_of (List.mem_of_getElem? (i := 350) (by decide +kernel)) (by decide +kernel)
theorem m351 : Cond.selects RX3 yX3_stepsFrom yX3_stepsFrom ∈ gw := gw_of (List.mem_of_getElem? (i := 351) (by decide +kernel)) (by decide +kernel)
theorem m352 : Cond.code yX3_stepsFrom cX3_stepsFrom 4 (some .int) ∈ gw := gw_of (List.mem_of_getElem? (i := 352) (by decide +kernel)) (by decide +kernel)
theorem m353 : Cond.methodLink RX2 49 yX6_hunters ∈ gw := gw_of (List.mem_of_getElem? (i := 353) (by decide +kernel)) (by decide +kernel)
theorem m354 : Cond.methodLink RX8 189 yX0_prepare ∈ gw := gw_of (List.mem_of_getElem? (i := 354) (by decide +kernel)) (by decide +kernel)
theorem m355 : Cond.instanceMethod yX0_prepare ∈ gw := gw_of (List.mem_of_getElem? (i := 355) (by decide +kernel)) (by decide +kernel)
theorem m356 : Cond.selects RX0 yX0_prepare yX0_prepare ∈ gw := gw_of (List.mem_of_getElem? (i := 356) (by decide +kernel)) (by decide +kernel)
theorem m357 : Cond.code yX0_prepare cX0_prepare 2 none ∈ gw := gw_of (List.mem_of_getElem? (i := 357) (by decide +kernel)) (by decide +kernel)
theorem m358 : Cond.methodLink RX0 39 yX0_signOf ∈ gw := gw_of (List.mem_of_getElem? (i := 358) (by decide +kernel)) (by decide +kernel)
theorem m359 : Cond.static yX0_signOf ∈ gw := gw_of (List.mem_of_getElem? (i := 359) (by decide +kernel)) (by decide +kernel)
theorem m360 : Cond.code yX0_signOf cX0_signOf 1 (some .int) ∈ gw := gw_of (List.mem_of_getElem? (i := 360) (by decide +kernel)) (by decide +kernel)
theorem m361 : Cond.constant RX0 43 65535 ∈ gw := gw_of (List.mem_of_getElem? (i := 361) (by decide +kernel)) (by decide +kernel)
theorem m362 : Cond.methodLink RX0 47 yX6_setting ∈ gw := gw_of (List.mem_of_getElem? (i := 362) (by decide +kernel)) (by decide +kernel)
theorem m363 : Cond.methodLink RX0 61 yX0_workOut ∈ gw := gw_of (List.mem_of_getElem? (i := 363) (by decide +kernel)) (by decide +kernel)
theorem m365 : Cond.instanceMethod yX0_workOut ∈ gw := gw_of (List.mem_of_getElem? (i := 365) (by decide +kernel)) (by decide +kernel)
theorem m366 : Cond.code yX0_workOut cX0_workOut 5 none ∈ gw := gw_of (List.mem_of_getElem? (i := 366) (by decide +kernel)) (by decide +kernel)
theorem m367 : Cond.methodLink RX0 64 yJ7_fill_53178 ∈ gw := gw_of (List.mem_of_getElem? (i := 367) (by decide +kernel)) (by decide +kernel)
theorem m368 : Cond.static yJ7_fill_53178 ∈ gw := gw_of (List.mem_of_getElem? (i := 368) (by decide +kernel)) (by decide +kernel)
theorem m369 : Cond.code yJ7_fill_53178 cJ7_fill_53178 4 none ∈ gw := gw_of (List.mem_of_getElem? (i := 369) (by decide +kernel)) (by decide +kernel)
theorem m370 : Cond.methodLink RX0 70 yX0_foxLevel ∈ gw := gw_of (List.mem_of_getElem? (i := 370) (by decide +kernel)) (by decide +kernel)
theorem m372 : Cond.instanceMethod yX0_foxLevel ∈ gw := gw_of (List.mem_of_getElem? (i := 372) (by decide +kernel)) (by decide +kernel)
theorem m373 : Cond.code yX0_foxLevel cX0_foxLevel 7 (some .int) ∈ gw := gw_of (List.mem_of_getElem? (i := 373) (by decide +kernel)) (by decide +kernel)
theorem m374 : Cond.methodLink RX0 80 yX0_placesForFox ∈ gw := gw_of (List.mem_of_getElem? (i := 374) (by decide +kernel)) (by decide +kernel)
theorem m376 : Cond.instanceMethod yX0_placesForFox ∈ gw := gw_of (List.mem_of_getElem? (i := 376) (by decide +kernel)) (by decide +kernel)
theorem m377 : Cond.code yX0_placesForFox cX0_placesForFox 3 (some .int) ∈ gw := gw_of (List.mem_of_getElem? (i := 377) (by decide +kernel)) (by decide +kernel)
theorem m378 : Cond.methodLink RX0 77 yX3_placesOf ∈ gw := gw_of (List.mem_of_getElem? (i := 378) (by decide +kernel)) (by decide +kernel)
theorem m379 : Cond.instanceMethod yX3_placesOf ∈ gw := gw_of (List.mem_of_getElem? (i := 379) (by decide +kernel)) (by decide +kernel)
theorem m380 : Cond.selects RX3 yX3_placesOf yX3_placesOf ∈ gw := gw_of (List.mem_of_getElem? (i := 380) (by decide +kernel)) (by decide +kernel)
theorem m381 : Cond.code yX3_placesOf cX3_placesOf 2 (some .int) ∈ gw := gw_of (List.mem_of_getElem? (i := 381) (by decide +kernel)) (by decide +kernel)
theorem m382 : Cond.methodLink RX0 83 yX3_stepsFrom ∈ gw := gw_of (List.mem_of_getElem? (i := 382) (by decide +kernel)) (by decide +kernel)
theorem m383 : Cond.methodLink RX0 87 yX0_keep ∈ gw := gw_of (List.mem_of_getElem? (i := 383) (by decide +kernel)) (by decide +kernel)
theorem m385 : Cond.instanceMethod yX0_keep ∈ gw := gw_of (List.mem_of_getElem? (i := 385) (by decide +kernel)) (by decide +kernel)
theorem m386 : Cond.code yX0_keep cX0_keep 6 none ∈ gw := gw_of (List.mem_of_getElem? (i := 386) (by decide +kernel)) (by decide +kernel)
theorem m387 : Cond.methodLink RX0 74 yX0_huntersLevel ∈ gw := gw_of (List.mem_of_getElem? (i := 387) (by decide +kernel)) (by decide +kernel)
theorem m389 : Cond.instanceMethod yX0_huntersLevel ∈ gw := gw_of (List.mem_of_getElem? (i := 389) (by decide +kernel)) (by decide +kernel)
theorem m390 : Cond.code yX0_huntersLevel cX0_huntersLevel 8 (some .int) ∈ gw := gw_of (List.mem_of_getElem? (i := 390) (by decide +kernel)) (by decide +kernel)
theorem m391 : Cond.methodLink RX0 91 yX3_lowerOf ∈ gw := gw_of (List.mem_of_getElem? (i := 391) (by decide +kernel)) (by decide +kernel)
theorem m392 : Cond.instanceMethod yX3_lowerOf ∈ gw := gw_of (List.mem_of_getElem? (i := 392) (by decide +kernel)) (by decide +kernel)
theorem m393 : Cond.selects RX3 yX3_lowerOf yX3_lowerOf ∈ gw := gw_of (List.mem_of_getElem? (i := 393) (by decide +kernel)) (by decide +kernel)
theorem m394 : Cond.code yX3_lowerOf cX3_lowerOf 2 (some .int) ∈ gw := gw_of (List.mem_of_getElem? (i := 394) (by decide +kernel)) (by decide +kernel)
theorem m395 : Cond.methodLink RX0 94 yX3_higherOf ∈ gw := gw_of (List.mem_of_getElem? (i := 395) (by decide +kernel)) (by decide +kernel)
theorem m396 : Cond.instanceMethod yX3_higherOf ∈ gw := gw_of (List.mem_of_getElem? (i := 396) (by decide +kernel)) (by decide +kernel)
theorem m397 : Cond.selects RX3 yX3_higherOf yX3_higherOf ∈ gw := gw_of (List.mem_of_getElem? (i := 397) (by decide +kernel)) (by decide +kernel)
theorem m398 : Cond.code yX3_higherOf cX3_higherOf 2 (some .int) ∈ gw := gw_of (List.mem_of_getElem? (i := 398) (by decide +kernel)) (by decide +kernel)
theorem m399 : Cond.methodLink RX0 97 yX0_reachedBy ∈ gw := gw_of (List.mem_of_getElem? (i := 399) (by decide +kernel)) (by decide +kernel)
theorem m401 : Cond.instanceMethod yX0_reachedBy ∈ gw := gw_of (List.mem_of_getElem? (i := 401) (by decide +kernel)) (by decide +kernel)
theorem m402 : Cond.code yX0_reachedBy cX0_reachedBy 6 (some .int) ∈ gw := gw_of (List.mem_of_getElem? (i := 402) (by decide +kernel)) (by decide +kernel)
theorem m403 : Cond.methodLink RX0 100 yX3_pairOf ∈ gw := gw_of (List.mem_of_getElem? (i := 403) (by decide +kernel)) (by decide +kernel)
theorem m404 : Cond.instanceMethod yX3_pairOf ∈ gw := gw_of (List.mem_of_getElem? (i := 404) (by decide +kernel)) (by decide +kernel)
theorem m405 : Cond.selects RX3 yX3_pairOf yX3_pairOf ∈ gw := gw_of (List.mem_of_getElem? (i := 405) (by decide +kernel)) (by decide +kernel)
theorem m406 : Cond.code yX3_pairOf cX3_pairOf 3 (some .int) ∈ gw := gw_of (List.mem_of_getElem? (i := 406) (by decide +kernel)) (by decide +kernel)
theorem m407 : Cond.methodLink RX0 103 yX0_knownWith ∈ gw := gw_of (List.mem_of_getElem? (i := 407) (by decide +kernel)) (by decide +kernel)
theorem m409 : Cond.instanceMethod yX0_knownWith ∈ gw := gw_of (List.mem_of_getElem? (i := 409) (by decide +kernel)) (by decide +kernel)
theorem m410 : Cond.code yX0_knownWith cX0_knownWith 2 (some .int) ∈ gw := gw_of (List.mem_of_getElem? (i := 410) (by decide +kernel)) (by decide +kernel)
theorem m411 : Cond.methodLink RX8 179 yX8_numberNow ∈ gw := gw_of (List.mem_of_getElem? (i := 411) (by decide +kernel)) (by decide +kernel)
theorem m413 : Cond.instanceMethod yX8_numberNow ∈ gw := gw_of (List.mem_of_getElem? (i := 413) (by decide +kernel)) (by decide +kernel)
theorem m414 : Cond.code yX8_numberNow cX8_numberNow 2 (some .int) ∈ gw := gw_of (List.mem_of_getElem? (i := 414) (by decide +kernel)) (by decide +kernel)
theorem m415 : Cond.methodLink RX8 192 yX3_numberOf ∈ gw := gw_of (List.mem_of_getElem? (i := 415) (by decide +kernel)) (by decide +kernel)
theorem m416 : Cond.instanceMethod yX3_numberOf ∈ gw := gw_of (List.mem_of_getElem? (i := 416) (by decide +kernel)) (by decide +kernel)
theorem m417 : Cond.selects RX3 yX3_numberOf yX3_numberOf ∈ gw := gw_of (List.mem_of_getElem? (i := 417) (by decide +kernel)) (by decide +kernel)
theorem m418 : Cond.code yX3_numberOf cX3_numberOf 5 (some .int) ∈ gw := gw_of (List.mem_of_getElem? (i := 418) (by decide +kernel)) (by decide +kernel)
theorem m419 : Cond.methodLink RX3 50 yX3_pairOf ∈ gw := gw_of (List.mem_of_getElem? (i := 419) (by decide +kernel)) (by decide +kernel)
theorem m420 : Cond.methodLink RX8 195 yX0_at ∈ gw := gw_of (List.mem_of_getElem? (i := 420) (by decide +kernel)) (by decide +kernel)
theorem m421 : Cond.instanceMethod yX0_at ∈ gw := gw_of (List.mem_of_getElem? (i := 421) (by decide +kernel)) (by decide +kernel)
theorem m422 : Cond.selects RX0 yX0_at yX0_at ∈ gw := gw_of (List.mem_of_getElem? (i := 422) (by decide +kernel)) (by decide +kernel)
theorem m423 : Cond.code yX0_at cX0_at 2 (some .int) ∈ gw := gw_of (List.mem_of_getElem? (i := 423) (by decide +kernel)) (by decide +kernel)
theorem m424 : Cond.methodLink RL 28 yX8_move ∈ gw := gw_of (List.mem_of_getElem? (i := 424) (by decide +kernel)) (by decide +kernel)
theorem m425 : Cond.instanceMethod yX8_move ∈ gw := gw_of (List.mem_of_getElem? (i := 425) (by decide +kernel)) (by decide +kernel)
theorem m426 : Cond.selects RX8 yX8_move yX8_move ∈ gw := gw_of (List.mem_of_getElem? (i := 426) (by decide +kernel)) (by decide +kernel)
theorem m427 : Cond.code yX8_move cX8_move 3 (some .int) ∈ gw := gw_of (List.mem_of_getElem? (i := 427) (by decide +kernel)) (by decide +kernel)
theorem m428 : Cond.methodLink RX8 122 yX2_allows ∈ gw := gw_of (List.mem_of_getElem? (i := 428) (by decide +kernel)) (by decide +kernel)
theorem m429 : Cond.instanceMethod yX2_allows ∈ gw := gw_of (List.mem_of_getElem? (i := 429) (by decide +kernel)) (by decide +kernel)
theorem m430 : Cond.selects RX2 yX2_allows yX2_allows ∈ gw := gw_of (List.mem_of_getElem? (i := 430) (by decide +kernel)) (by decide +kernel)
theorem m431 : Cond.code yX2_allows cX2_allows 4 (some .boolean) ∈ gw := gw_of (List.mem_of_getElem? (i := 431) (by decide +kernel)) (by decide +kernel)
theorem m432 : Cond.methodLink RX2 53 yX2_caught ∈ gw := gw_of (List.mem_of_getElem? (i := 432) (by decide +kernel)) (by decide +kernel)
theorem m433 : Cond.methodLink RX2 63 yX2_hunterSteps ∈ gw := gw_of (List.mem_of_getElem? (i := 433) (by decide +kernel)) (by decide +kernel)
theorem m435 : Cond.instanceMethod yX2_hunterSteps ∈ gw := gw_of (List.mem_of_getElem? (i := 435) (by decide +kernel)) (by decide +kernel)
theorem m436 : Cond.code yX2_hunterSteps cX2_hunterSteps 3 (some .int) ∈ gw := gw_of (List.mem_of_getElem? (i := 436) (by decide +kernel)) (by decide +kernel)
theorem m437 : Cond.methodLink RX8 126 yX8_makeMove ∈ gw := gw_of (List.mem_of_getElem? (i := 437) (by decide +kernel)) (by decide +kernel)
theorem m439 : Cond.instanceMethod yX8_makeMove ∈ gw := gw_of (List.mem_of_getElem? (i := 439) (by decide +kernel)) (by decide +kernel)
theorem m440 : Cond.code yX8_makeMove cX8_makeMove 3 (some .int) ∈ gw := gw_of (List.mem_of_getElem? (i := 440) (by decide +kernel)) (by decide +kernel)
theorem m441 : Cond.methodLink RX8 233 yX2_make ∈ gw := gw_of (List.mem_of_getElem? (i := 441) (by decide +kernel)) (by decide +kernel)
theorem m442 : Cond.instanceMethod yX2_make ∈ gw := gw_of (List.mem_of_getElem? (i := 442) (by decide +kernel)) (by decide +kernel)
theorem m443 : Cond.selects RX2 yX2_make yX2_make ∈ gw := gw_of (List.mem_of_getElem? (i := 443) (by decide +kernel)) (by decide +kernel)
theorem m444 : Cond.code yX2_make cX2_make 5 none ∈ gw := gw_of (List.mem_of_getElem? (i := 444) (by decide +kernel)) (by decide +kernel)
theorem m445 : Cond.methodLink RX2 67 yX6_place ∈ gw := gw_of (List.mem_of_getElem? (i := 445) (by decide +kernel)) (by decide +kernel)
theorem m446 : Cond.methodLink RL 32 yX8_play ∈ gw := gw_of (List.mem_of_getElem? (i := 446) (by decide +kernel)) (by decide +kernel)
theorem m447 : Cond.instanceMethod yX8_play ∈ gw := gw_of (List.mem_of_getElem? (i := 447) (by decide +kernel)) (by decide +kernel)
theorem m448 : Cond.selects RX8 yX8_play yX8_play ∈ gw := gw_of (List.mem_of_getElem? (i := 448) (by decide +kernel)) (by decide +kernel)
theorem m449 : Cond.code yX8_play cX8_play 2 (some .int) ∈ gw := gw_of (List.mem_of_getElem? (i := 449) (by decide +kernel)) (by decide +kernel)
theorem m450 : Cond.methodLink RX8 130 yX2_bestMove ∈ gw := gw_of (List.mem_of_getElem? (i := 450) (by decide +kernel)) (by decide +kernel)
theorem m451 : Cond.instanceMethod yX2_bestMove ∈ gw := gw_of (List.mem_of_getElem? (i := 451) (by decide +kernel)) (by decide +kernel)
theorem m452 : Cond.selects RX2 yX2_bestMove yX2_bestMove ∈ gw := gw_of (List.mem_of_getElem? (i := 452) (by decide +kernel)) (by decide +kernel)
theorem m453 : Cond.code yX2_bestMove cX2_bestMove 2 (some .int) ∈ gw := gw_of (List.mem_of_getElem? (i := 453) (by decide +kernel)) (by decide +kernel)
theorem m454 : Cond.methodLink RX2 71 yX0_prepare ∈ gw := gw_of (List.mem_of_getElem? (i := 454) (by decide +kernel)) (by decide +kernel)
theorem m455 : Cond.methodLink RX2 77 yX2_bestOfFox ∈ gw := gw_of (List.mem_of_getElem? (i := 455) (by decide +kernel)) (by decide +kernel)
theorem m457 : Cond.instanceMethod yX2_bestOfFox ∈ gw := gw_of (List.mem_of_getElem? (i := 457) (by decide +kernel)) (by decide +kernel)
theorem m458 : Cond.code yX2_bestOfFox cX2_bestOfFox 7 (some .int) ∈ gw := gw_of (List.mem_of_getElem? (i := 458) (by decide +kernel)) (by decide +kernel)
theorem m459 : Cond.methodLink RX2 83 yX2_lengthOf ∈ gw := gw_of (List.mem_of_getElem? (i := 459) (by decide +kernel)) (by decide +kernel)
theorem m461 : Cond.instanceMethod yX2_lengthOf ∈ gw := gw_of (List.mem_of_getElem? (i := 461) (by decide +kernel)) (by decide +kernel)
theorem m462 : Cond.code yX2_lengthOf cX2_lengthOf 6 (some .int) ∈ gw := gw_of (List.mem_of_getElem? (i := 462) (by decide +kernel)) (by decide +kernel)
theorem m463 : Cond.methodLink RX2 92 yX3_numberOf ∈ gw := gw_of (List.mem_of_getElem? (i := 463) (by decide +kernel)) (by decide +kernel)
theorem m464 : Cond.methodLink RX2 95 yX0_at ∈ gw := gw_of (List.mem_of_getElem? (i := 464) (by decide +kernel)) (by decide +kernel)
theorem m465 : Cond.constant RX2 98 1000000 ∈ gw := gw_of (List.mem_of_getElem? (i := 465) (by decide +kernel)) (by decide +kernel)
theorem m466 : Cond.methodLink RX2 80 yX2_bestOfHunters ∈ gw := gw_of (List.mem_of_getElem? (i := 466) (by decide +kernel)) (by decide +kernel)
theorem m468 : Cond.instanceMethod yX2_bestOfHunters ∈ gw := gw_of (List.mem_of_getElem? (i := 468) (by decide +kernel)) (by decide +kernel)
theorem m469 : Cond.code yX2_bestOfHunters cX2_bestOfHunters 8 (some .int) ∈ gw := gw_of (List.mem_of_getElem? (i := 469) (by decide +kernel)) (by decide +kernel)
theorem m470 : Cond.constant RX2 87 1000001 ∈ gw := gw_of (List.mem_of_getElem? (i := 470) (by decide +kernel)) (by decide +kernel)
theorem m471 : Cond.methodLink RX2 88 yX2_worthOf ∈ gw := gw_of (List.mem_of_getElem? (i := 471) (by decide +kernel)) (by decide +kernel)
theorem m473 : Cond.instanceMethod yX2_worthOf ∈ gw := gw_of (List.mem_of_getElem? (i := 473) (by decide +kernel)) (by decide +kernel)
theorem m474 : Cond.code yX2_worthOf cX2_worthOf 5 (some .int) ∈ gw := gw_of (List.mem_of_getElem? (i := 474) (by decide +kernel)) (by decide +kernel)
theorem m475 : Cond.methodLink RX8 134 yX2_fromOf ∈ gw := gw_of (List.mem_of_getElem? (i := 475) (by decide +kernel)) (by decide +kernel)
theorem m476 : Cond.static yX2_fromOf ∈ gw := gw_of (List.mem_of_getElem? (i := 476) (by decide +kernel)) (by decide +kernel)
theorem m477 : Cond.code yX2_fromOf cX2_fromOf 1 (some .int) ∈ gw := gw_of (List.mem_of_getElem? (i := 477) (by decide +kernel)) (by decide +kernel)
theorem m478 : Cond.methodLink RX8 137 yX2_toOf ∈ gw := gw_of (List.mem_of_getElem? (i := 478) (by decide +kernel)) (by decide +kernel)
theorem m479 : Cond.static yX2_toOf ∈ gw := gw_of (List.mem_of_getElem? (i := 479) (by decide +kernel)) (by decide +kernel)
theorem m480 : Cond.code yX2_toOf cX2_toOf 1 (some .int) ∈ gw := gw_of (List.mem_of_getElem? (i := 480) (by decide +kernel)) (by decide +kernel)
theorem m481 : Cond.methodLink RL 37 yX8_readPad ∈ gw := gw_of (List.mem_of_getElem? (i := 481) (by decide +kernel)) (by decide +kernel)
theorem m482 : Cond.instanceMethod yX8_readPad ∈ gw := gw_of (List.mem_of_getElem? (i := 482) (by decide +kernel)) (by decide +kernel)
theorem m483 : Cond.selects RX8 yX8_readPad yX8_readPad ∈ gw := gw_of (List.mem_of_getElem? (i := 483) (by decide +kernel)) (by decide +kernel)
theorem m484 : Cond.code yX8_readPad cX8_readPad 4 (some .int) ∈ gw := gw_of (List.mem_of_getElem? (i := 484) (by decide +kernel)) (by decide +kernel)
theorem m485 : Cond.methodLink RX8 140 yX5_firstFault ∈ gw := gw_of (List.mem_of_getElem? (i := 485) (by decide +kernel)) (by decide +kernel)
theorem m486 : Cond.instanceMethod yX5_firstFault ∈ gw := gw_of (List.mem_of_getElem? (i := 486) (by decide +kernel)) (by decide +kernel)
theorem m487 : Cond.selects RX5 yX5_firstFault yX5_firstFault ∈ gw := gw_of (List.mem_of_getElem? (i := 487) (by decide +kernel)) (by decide +kernel)
theorem m488 : Cond.code yX5_firstFault cX5_firstFault 2 (some .int) ∈ gw := gw_of (List.mem_of_getElem? (i := 488) (by decide +kernel)) (by decide +kernel)
theorem m489 : Cond.methodLink RX5 21 yX5_canStand ∈ gw := gw_of (List.mem_of_getElem? (i := 489) (by decide +kernel)) (by decide +kernel)
theorem m490 : Cond.static yX5_canStand ∈ gw := gw_of (List.mem_of_getElem? (i := 490) (by decide +kernel)) (by decide +kernel)
theorem m491 : Cond.code yX5_canStand cX5_canStand 2 (some .boolean) ∈ gw := gw_of (List.mem_of_getElem? (i := 491) (by decide +kernel)) (by decide +kernel)
theorem m492 : Cond.methodLink RX8 143 yX5_placesOf ∈ gw := gw_of (List.mem_of_getElem? (i := 492) (by decide +kernel)) (by decide +kernel)
theorem m493 : Cond.instanceMethod yX5_placesOf ∈ gw := gw_of (List.mem_of_getElem? (i := 493) (by decide +kernel)) (by decide +kernel)
theorem m494 : Cond.selects RX5 yX5_placesOf yX5_placesOf ∈ gw := gw_of (List.mem_of_getElem? (i := 494) (by decide +kernel)) (by decide +kernel)
theorem m495 : Cond.code yX5_placesOf cX5_placesOf 4 (some .int) ∈ gw := gw_of (List.mem_of_getElem? (i := 495) (by decide +kernel)) (by decide +kernel)
theorem m496 : Cond.methodLink RX8 147 yX5_foxMoves ∈ gw := gw_of (List.mem_of_getElem? (i := 496) (by decide +kernel)) (by decide +kernel)
theorem m497 : Cond.instanceMethod yX5_foxMoves ∈ gw := gw_of (List.mem_of_getElem? (i := 497) (by decide +kernel)) (by decide +kernel)
theorem m498 : Cond.selects RX5 yX5_foxMoves yX5_foxMoves ∈ gw := gw_of (List.mem_of_getElem? (i := 498) (by decide +kernel)) (by decide +kernel)
theorem m499 : Cond.code yX5_foxMoves cX5_foxMoves 1 (some .boolean) ∈ gw := gw_of (List.mem_of_getElem? (i := 499) (by decide +kernel)) (by decide +kernel)
theorem m500 : Cond.methodLink RX8 151 yX3_lowest ∈ gw := gw_of (List.mem_of_getElem? (i := 500) (by decide +kernel)) (by decide +kernel)
theorem m501 : Cond.static yX3_lowest ∈ gw := gw_of (List.mem_of_getElem? (i := 501) (by decide +kernel)) (by decide +kernel)
theorem m502 : Cond.code yX3_lowest cX3_lowest 2 (some .int) ∈ gw := gw_of (List.mem_of_getElem? (i := 502) (by decide +kernel)) (by decide +kernel)
theorem m503 : Cond.methodLink RX8 154 yX3_highest ∈ gw := gw_of (List.mem_of_getElem? (i := 503) (by decide +kernel)) (by decide +kernel)
theorem m504 : Cond.static yX3_highest ∈ gw := gw_of (List.mem_of_getElem? (i := 504) (by decide +kernel)) (by decide +kernel)
theorem m505 : Cond.code yX3_highest cX3_highest 2 (some .int) ∈ gw := gw_of (List.mem_of_getElem? (i := 505) (by decide +kernel)) (by decide +kernel)
theorem m506 : Cond.methodLink RX8 157 yX5_empty ∈ gw := gw_of (List.mem_of_getElem? (i := 506) (by decide +kernel)) (by decide +kernel)
theorem m507 : Cond.instanceMethod yX5_empty ∈ gw := gw_of (List.mem_of_getElem? (i := 507) (by decide +kernel)) (by decide +kernel)
theorem m508 : Cond.selects RX5 yX5_empty yX5_empty ∈ gw := gw_of (List.mem_of_getElem? (i := 508) (by decide +kernel)) (by decide +kernel)
theorem m509 : Cond.code yX5_empty cX5_empty 1 none ∈ gw := gw_of (List.mem_of_getElem? (i := 509) (by decide +kernel)) (by decide +kernel)
theorem m510 : Cond.methodLink RL 41 yX8_now ∈ gw := gw_of (List.mem_of_getElem? (i := 510) (by decide +kernel)) (by decide +kernel)
theorem m511 : Cond.instanceMethod yX8_now ∈ gw := gw_of (List.mem_of_getElem? (i := 511) (by decide +kernel)) (by decide +kernel)
theorem m512 : Cond.selects RX8 yX8_now yX8_now ∈ gw := gw_of (List.mem_of_getElem? (i := 512) (by decide +kernel)) (by decide +kernel)
theorem m513 : Cond.code yX8_now cX8_now 2 (some .int) ∈ gw := gw_of (List.mem_of_getElem? (i := 513) (by decide +kernel)) (by decide +kernel)
theorem m514 : Cond.methodLink RX8 176 yX6_hunterOnFox ∈ gw := gw_of (List.mem_of_getElem? (i := 514) (by decide +kernel)) (by decide +kernel)
theorem m515 : Cond.methodLink RX8 182 yX8_foldedNumber ∈ gw := gw_of (List.mem_of_getElem? (i := 515) (by decide +kernel)) (by decide +kernel)
theorem m517 : Cond.instanceMethod yX8_foldedNumber ∈ gw := gw_of (List.mem_of_getElem? (i := 517) (by decide +kernel)) (by decide +kernel)
theorem m518 : Cond.code yX8_foldedNumber cX8_foldedNumber 2 (some .int) ∈ gw := gw_of (List.mem_of_getElem? (i := 518) (by decide +kernel)) (by decide +kernel)
theorem m519 : Cond.methodLink RX8 224 yX1_prepare ∈ gw := gw_of (List.mem_of_getElem? (i := 519) (by decide +kernel)) (by decide +kernel)
theorem m520 : Cond.instanceMethod yX1_prepare ∈ gw := gw_of (List.mem_of_getElem? (i := 520) (by decide +kernel)) (by decide +kernel)
theorem m521 : Cond.selects RX1 yX1_prepare yX1_prepare ∈ gw := gw_of (List.mem_of_getElem? (i := 521) (by decide +kernel)) (by decide +kernel)
theorem m522 : Cond.code yX1_prepare cX1_prepare 3 none ∈ gw := gw_of (List.mem_of_getElem? (i := 522) (by decide +kernel)) (by decide +kernel)
theorem m523 : Cond.methodLink RX1 26 yX1_imageOf ∈ gw := gw_of (List.mem_of_getElem? (i := 523) (by decide +kernel)) (by decide +kernel)
theorem m525 : Cond.instanceMethod yX1_imageOf ∈ gw := gw_of (List.mem_of_getElem? (i := 525) (by decide +kernel)) (by decide +kernel)
theorem m526 : Cond.code yX1_imageOf cX1_imageOf 5 (some .int) ∈ gw := gw_of (List.mem_of_getElem? (i := 526) (by decide +kernel)) (by decide +kernel)
theorem m527 : Cond.methodLink RX1 30 yX3_image ∈ gw := gw_of (List.mem_of_getElem? (i := 527) (by decide +kernel)) (by decide +kernel)
theorem m528 : Cond.instanceMethod yX3_image ∈ gw := gw_of (List.mem_of_getElem? (i := 528) (by decide +kernel)) (by decide +kernel)
theorem m529 : Cond.selects RX3 yX3_image yX3_image ∈ gw := gw_of (List.mem_of_getElem? (i := 529) (by decide +kernel)) (by decide +kernel)
theorem m530 : Cond.code yX3_image cX3_image 3 (some .int) ∈ gw := gw_of (List.mem_of_getElem? (i := 530) (by decide +kernel)) (by decide +kernel)
theorem m531 : Cond.methodLink RX8 254 yX1_lowestAlike ∈ gw := gw_of (List.mem_of_getElem? (i := 531) (by decide +kernel)) (by decide +kernel)
theorem m532 : Cond.instanceMethod yX1_lowestAlike ∈ gw := gw_of (List.mem_of_getElem? (i := 532) (by decide +kernel)) (by decide +kernel)
theorem m533 : Cond.selects RX1 yX1_lowestAlike yX1_lowestAlike ∈ gw := gw_of (List.mem_of_getElem? (i := 533) (by decide +kernel)) (by decide +kernel)
theorem m534 : Cond.code yX1_lowestAlike cX1_lowestAlike 4 (some .int) ∈ gw := gw_of (List.mem_of_getElem? (i := 534) (by decide +kernel)) (by decide +kernel)
theorem m535 : Cond.methodLink RX1 53 yX1_imageOfNumber ∈ gw := gw_of (List.mem_of_getElem? (i := 535) (by decide +kernel)) (by decide +kernel)
theorem m537 : Cond.instanceMethod yX1_imageOfNumber ∈ gw := gw_of (List.mem_of_getElem? (i := 537) (by decide +kernel)) (by decide +kernel)
theorem m538 : Cond.code yX1_imageOfNumber cX1_imageOfNumber 7 (some .int) ∈ gw := gw_of (List.mem_of_getElem? (i := 538) (by decide +kernel)) (by decide +kernel)
theorem m539 : Cond.methodLink RX1 33 yX3_pairIn ∈ gw := gw_of (List.mem_of_getElem? (i := 539) (by decide +kernel)) (by decide +kernel)
theorem m540 : Cond.static yX3_pairIn ∈ gw := gw_of (List.mem_of_getElem? (i := 540) (by decide +kernel)) (by decide +kernel)
theorem m541 : Cond.code yX3_pairIn cX3_pairIn 1 (some .int) ∈ gw := gw_of (List.mem_of_getElem? (i := 541) (by decide +kernel)) (by decide +kernel)
theorem m542 : Cond.methodLink RX1 37 yX3_foxOf ∈ gw := gw_of (List.mem_of_getElem? (i := 542) (by decide +kernel)) (by decide +kernel)
theorem m543 : Cond.static yX3_foxOf ∈ gw := gw_of (List.mem_of_getElem? (i := 543) (by decide +kernel)) (by decide +kernel)
theorem m544 : Cond.code yX3_foxOf cX3_foxOf 1 (some .int) ∈ gw := gw_of (List.mem_of_getElem? (i := 544) (by decide +kernel)) (by decide +kernel)
theorem m545 : Cond.methodLink RX1 40 yX3_lowerOf ∈ gw := gw_of (List.mem_of_getElem? (i := 545) (by decide +kernel)) (by decide +kernel)
theorem m546 : Cond.methodLink RX1 43 yX3_higherOf ∈ gw := gw_of (List.mem_of_getElem? (i := 546) (by decide +kernel)) (by decide +kernel)
theorem m547 : Cond.methodLink RX1 46 yX3_whoOf ∈ gw := gw_of (List.mem_of_getElem? (i := 547) (by decide +kernel)) (by decide +kernel)
theorem m548 : Cond.static yX3_whoOf ∈ gw := gw_of (List.mem_of_getElem? (i := 548) (by decide +kernel)) (by decide +kernel)
theorem m549 : Cond.code yX3_whoOf cX3_whoOf 1 (some .int) ∈ gw := gw_of (List.mem_of_getElem? (i := 549) (by decide +kernel)) (by decide +kernel)
theorem m550 : Cond.methodLink RX1 49 yX3_numberOf ∈ gw := gw_of (List.mem_of_getElem? (i := 550) (by decide +kernel)) (by decide +kernel)
theorem m551 : Cond.methodLink RX1 56 yJ9_min_7cf53 ∈ gw := gw_of (List.mem_of_getElem? (i := 551) (by decide +kernel)) (by decide +kernel)
theorem m552 : Cond.methodLink RX8 185 yX5_length ∈ gw := gw_of (List.mem_of_getElem? (i := 552) (by decide +kernel)) (by decide +kernel)
theorem m553 : Cond.instanceMethod yX5_length ∈ gw := gw_of (List.mem_of_getElem? (i := 553) (by decide +kernel)) (by decide +kernel)
theorem m554 : Cond.selects RX5 yX5_length yX5_length ∈ gw := gw_of (List.mem_of_getElem? (i := 554) (by decide +kernel)) (by decide +kernel)
theorem m555 : Cond.code yX5_length cX5_length 1 (some .int) ∈ gw := gw_of (List.mem_of_getElem? (i := 555) (by decide +kernel)) (by decide +kernel)
theorem m556 : Cond.methodLink RX8 188 yX4_length ∈ gw := gw_of (List.mem_of_getElem? (i := 556) (by decide +kernel)) (by decide +kernel)
theorem m557 : Cond.instanceMethod yX4_length ∈ gw := gw_of (List.mem_of_getElem? (i := 557) (by decide +kernel)) (by decide +kernel)
theorem m558 : Cond.selects RX4 yX4_length yX4_length ∈ gw := gw_of (List.mem_of_getElem? (i := 558) (by decide +kernel)) (by decide +kernel)
theorem m559 : Cond.code yX4_length cX4_length 1 (some .int) ∈ gw := gw_of (List.mem_of_getElem? (i := 559) (by decide +kernel)) (by decide +kernel)
theorem m560 : Cond.methodLink RL 45 yX8_distance ∈ gw := gw_of (List.mem_of_getElem? (i := 560) (by decide +kernel)) (by decide +kernel)
theorem m561 : Cond.instanceMethod yX8_distance ∈ gw := gw_of (List.mem_of_getElem? (i := 561) (by decide +kernel)) (by decide +kernel)
theorem m562 : Cond.selects RX8 yX8_distance yX8_distance ∈ gw := gw_of (List.mem_of_getElem? (i := 562) (by decide +kernel)) (by decide +kernel)
theorem m563 : Cond.code yX8_distance cX8_distance 6 (some .int) ∈ gw := gw_of (List.mem_of_getElem? (i := 563) (by decide +kernel)) (by decide +kernel)
theorem m564 : Cond.methodLink RL 49 yX8_number ∈ gw := gw_of (List.mem_of_getElem? (i := 564) (by decide +kernel)) (by decide +kernel)
theorem m565 : Cond.instanceMethod yX8_number ∈ gw := gw_of (List.mem_of_getElem? (i := 565) (by decide +kernel)) (by decide +kernel)
theorem m566 : Cond.selects RX8 yX8_number yX8_number ∈ gw := gw_of (List.mem_of_getElem? (i := 566) (by decide +kernel)) (by decide +kernel)
theorem m567 : Cond.code yX8_number cX8_number 6 (some .int) ∈ gw := gw_of (List.mem_of_getElem? (i := 567) (by decide +kernel)) (by decide +kernel)
theorem m568 : Cond.methodLink RL 53 yX8_folded ∈ gw := gw_of (List.mem_of_getElem? (i := 568) (by decide +kernel)) (by decide +kernel)
theorem m569 : Cond.instanceMethod yX8_folded ∈ gw := gw_of (List.mem_of_getElem? (i := 569) (by decide +kernel)) (by decide +kernel)
theorem m570 : Cond.selects RX8 yX8_folded yX8_folded ∈ gw := gw_of (List.mem_of_getElem? (i := 570) (by decide +kernel)) (by decide +kernel)
theorem m571 : Cond.code yX8_folded cX8_folded 6 (some .int) ∈ gw := gw_of (List.mem_of_getElem? (i := 571) (by decide +kernel)) (by decide +kernel)
theorem m572 : Cond.methodLink RL 57 yX8_of ∈ gw := gw_of (List.mem_of_getElem? (i := 572) (by decide +kernel)) (by decide +kernel)
theorem m573 : Cond.instanceMethod yX8_of ∈ gw := gw_of (List.mem_of_getElem? (i := 573) (by decide +kernel)) (by decide +kernel)
theorem m574 : Cond.selects RX8 yX8_of yX8_of ∈ gw := gw_of (List.mem_of_getElem? (i := 574) (by decide +kernel)) (by decide +kernel)
theorem m575 : Cond.code yX8_of cX8_of 3 (some .int) ∈ gw := gw_of (List.mem_of_getElem? (i := 575) (by decide +kernel)) (by decide +kernel)
theorem m576 : Cond.methodLink RX8 198 yX3_isPosition ∈ gw := gw_of (List.mem_of_getElem? (i := 576) (by decide +kernel)) (by decide +kernel)
theorem m577 : Cond.instanceMethod yX3_isPosition ∈ gw := gw_of (List.mem_of_getElem? (i := 577) (by decide +kernel)) (by decide +kernel)
theorem m578 : Cond.selects RX3 yX3_isPosition yX3_isPosition ∈ gw := gw_of (List.mem_of_getElem? (i := 578) (by decide +kernel)) (by decide +kernel)
theorem m579 : Cond.code yX3_isPosition cX3_isPosition 6 (some .boolean) ∈ gw := gw_of (List.mem_of_getElem? (i := 579) (by decide +kernel)) (by decide +kernel)
theorem m580 : Cond.methodLink RX3 53 yX3_pairIn ∈ gw := gw_of (List.mem_of_getElem? (i := 580) (by decide +kernel)) (by decide +kernel)
theorem m581 : Cond.methodLink RX3 56 yX3_foxOf ∈ gw := gw_of (List.mem_of_getElem? (i := 581) (by decide +kernel)) (by decide +kernel)
theorem m582 : Cond.methodLink RX3 59 yX3_placesOf ∈ gw := gw_of (List.mem_of_getElem? (i := 582) (by decide +kernel)) (by decide +kernel)
theorem m583 : Cond.methodLink RX8 202 yX3_whoOf ∈ gw := gw_of (List.mem_of_getElem? (i := 583) (by decide +kernel)) (by decide +kernel)
theorem m584 : Cond.methodLink RX8 205 yX3_foxOf ∈ gw := gw_of (List.mem_of_getElem? (i := 584) (by decide +kernel)) (by decide +kernel)
theorem m585 : Cond.methodLink RX8 208 yX3_pairIn ∈ gw := gw_of (List.mem_of_getElem? (i := 585) (by decide +kernel)) (by decide +kernel)
theorem m586 : Cond.methodLink RX8 211 yX3_lowerOf ∈ gw := gw_of (List.mem_of_getElem? (i := 586) (by decide +kernel)) (by decide +kernel)
theorem m587 : Cond.methodLink RX8 214 yX3_higherOf ∈ gw := gw_of (List.mem_of_getElem? (i := 587) (by decide +kernel)) (by decide +kernel)
theorem m588 : Cond.methodLink RX8 217 yX7_prepare ∈ gw := gw_of (List.mem_of_getElem? (i := 588) (by decide +kernel)) (by decide +kernel)
theorem m589 : Cond.instanceMethod yX7_prepare ∈ gw := gw_of (List.mem_of_getElem? (i := 589) (by decide +kernel)) (by decide +kernel)
theorem m590 : Cond.selects RX7 yX7_prepare yX7_prepare ∈ gw := gw_of (List.mem_of_getElem? (i := 590) (by decide +kernel)) (by decide +kernel)
theorem m591 : Cond.code yX7_prepare cX7_prepare 2 none ∈ gw := gw_of (List.mem_of_getElem? (i := 591) (by decide +kernel)) (by decide +kernel)
theorem m592 : Cond.methodLink RX7 46 yX0_signOf ∈ gw := gw_of (List.mem_of_getElem? (i := 592) (by decide +kernel)) (by decide +kernel)
theorem m593 : Cond.methodLink RX7 52 yX0_prepare ∈ gw := gw_of (List.mem_of_getElem? (i := 593) (by decide +kernel)) (by decide +kernel)
theorem m594 : Cond.methodLink RX7 61 yX1_prepare ∈ gw := gw_of (List.mem_of_getElem? (i := 594) (by decide +kernel)) (by decide +kernel)
theorem m595 : Cond.methodLink RX7 66 yJ7_fill_53178 ∈ gw := gw_of (List.mem_of_getElem? (i := 595) (by decide +kernel)) (by decide +kernel)
theorem m596 : Cond.methodLink RX7 72 yX1_symmetries ∈ gw := gw_of (List.mem_of_getElem? (i := 596) (by decide +kernel)) (by decide +kernel)
theorem m597 : Cond.instanceMethod yX1_symmetries ∈ gw := gw_of (List.mem_of_getElem? (i := 597) (by decide +kernel)) (by decide +kernel)
theorem m598 : Cond.selects RX1 yX1_symmetries yX1_symmetries ∈ gw := gw_of (List.mem_of_getElem? (i := 598) (by decide +kernel)) (by decide +kernel)
theorem m599 : Cond.code yX1_symmetries cX1_symmetries 1 (some .int) ∈ gw := gw_of (List.mem_of_getElem? (i := 599) (by decide +kernel)) (by decide +kernel)
theorem m600 : Cond.methodLink RX7 76 yX7_goThrough ∈ gw := gw_of (List.mem_of_getElem? (i := 600) (by decide +kernel)) (by decide +kernel)
theorem m602 : Cond.instanceMethod yX7_goThrough ∈ gw := gw_of (List.mem_of_getElem? (i := 602) (by decide +kernel)) (by decide +kernel)
theorem m603 : Cond.code yX7_goThrough cX7_goThrough 3 none ∈ gw := gw_of (List.mem_of_getElem? (i := 603) (by decide +kernel)) (by decide +kernel)
theorem m604 : Cond.methodLink RX7 88 yX3_isPosition ∈ gw := gw_of (List.mem_of_getElem? (i := 604) (by decide +kernel)) (by decide +kernel)
theorem m605 : Cond.methodLink RX7 92 yX0_at ∈ gw := gw_of (List.mem_of_getElem? (i := 605) (by decide +kernel)) (by decide +kernel)
theorem m606 : Cond.methodLink RX7 95 yX1_standsForItself ∈ gw := gw_of (List.mem_of_getElem? (i := 606) (by decide +kernel)) (by decide +kernel)
theorem m607 : Cond.instanceMethod yX1_standsForItself ∈ gw := gw_of (List.mem_of_getElem? (i := 607) (by decide +kernel)) (by decide +kernel)
theorem m608 : Cond.selects RX1 yX1_standsForItself yX1_standsForItself ∈ gw := gw_of (List.mem_of_getElem? (i := 608) (by decide +kernel)) (by decide +kernel)
theorem m609 : Cond.code yX1_standsForItself cX1_standsForItself 3 (some .boolean) ∈ gw := gw_of (List.mem_of_getElem? (i := 609) (by decide +kernel)) (by decide +kernel)
theorem m610 : Cond.methodLink RX7 99 yX7_collect ∈ gw := gw_of (List.mem_of_getElem? (i := 610) (by decide +kernel)) (by decide +kernel)
theorem m612 : Cond.instanceMethod yX7_collect ∈ gw := gw_of (List.mem_of_getElem? (i := 612) (by decide +kernel)) (by decide +kernel)
theorem m613 : Cond.code yX7_collect cX7_collect 5 none ∈ gw := gw_of (List.mem_of_getElem? (i := 613) (by decide +kernel)) (by decide +kernel)
theorem m614 : Cond.methodLink RX7 102 yX3_keyOf ∈ gw := gw_of (List.mem_of_getElem? (i := 614) (by decide +kernel)) (by decide +kernel)
theorem m615 : Cond.instanceMethod yX3_keyOf ∈ gw := gw_of (List.mem_of_getElem? (i := 615) (by decide +kernel)) (by decide +kernel)
theorem m616 : Cond.selects RX3 yX3_keyOf yX3_keyOf ∈ gw := gw_of (List.mem_of_getElem? (i := 616) (by decide +kernel)) (by decide +kernel)
theorem m617 : Cond.code yX3_keyOf cX3_keyOf 6 (some .int) ∈ gw := gw_of (List.mem_of_getElem? (i := 617) (by decide +kernel)) (by decide +kernel)
theorem m618 : Cond.methodLink RX3 62 yX3_lowerOf ∈ gw := gw_of (List.mem_of_getElem? (i := 618) (by decide +kernel)) (by decide +kernel)
theorem m619 : Cond.methodLink RX3 65 yX3_higherOf ∈ gw := gw_of (List.mem_of_getElem? (i := 619) (by decide +kernel)) (by decide +kernel)
theorem m620 : Cond.methodLink RX3 68 yX3_whoOf ∈ gw := gw_of (List.mem_of_getElem? (i := 620) (by decide +kernel)) (by decide +kernel)
theorem m621 : Cond.methodLink RX3 71 yJ9_min_7cf53 ∈ gw := gw_of (List.mem_of_getElem? (i := 621) (by decide +kernel)) (by decide +kernel)
theorem m622 : Cond.methodLink RX3 74 yJ9_max_7cf53 ∈ gw := gw_of (List.mem_of_getElem? (i := 622) (by decide +kernel)) (by decide +kernel)
theorem m623 : Cond.methodLink RX7 79 yX7_makeRule ∈ gw := gw_of (List.mem_of_getElem? (i := 623) (by decide +kernel)) (by decide +kernel)
theorem m625 : Cond.instanceMethod yX7_makeRule ∈ gw := gw_of (List.mem_of_getElem? (i := 625) (by decide +kernel)) (by decide +kernel)
theorem m626 : Cond.code yX7_makeRule cX7_makeRule 2 none ∈ gw := gw_of (List.mem_of_getElem? (i := 626) (by decide +kernel)) (by decide +kernel)
theorem m627 : Cond.methodLink RX7 105 yX7_commonest ∈ gw := gw_of (List.mem_of_getElem? (i := 627) (by decide +kernel)) (by decide +kernel)
theorem m629 : Cond.instanceMethod yX7_commonest ∈ gw := gw_of (List.mem_of_getElem? (i := 629) (by decide +kernel)) (by decide +kernel)
theorem m630 : Cond.code yX7_commonest cX7_commonest 6 (some .int) ∈ gw := gw_of (List.mem_of_getElem? (i := 630) (by decide +kernel)) (by decide +kernel)
theorem m631 : Cond.methodLink RX7 42 yX7_distanceOf ∈ gw := gw_of (List.mem_of_getElem? (i := 631) (by decide +kernel)) (by decide +kernel)
theorem m632 : Cond.static yX7_distanceOf ∈ gw := gw_of (List.mem_of_getElem? (i := 632) (by decide +kernel)) (by decide +kernel)
theorem m633 : Cond.code yX7_distanceOf cX7_distanceOf 1 (some .int) ∈ gw := gw_of (List.mem_of_getElem? (i := 633) (by decide +kernel)) (by decide +kernel)
theorem m634 : Cond.methodLink RX7 82 yX7_countExceptions ∈ gw := gw_of (List.mem_of_getElem? (i := 634) (by decide +kernel)) (by decide +kernel)
theorem m636 : Cond.instanceMethod yX7_countExceptions ∈ gw := gw_of (List.mem_of_getElem? (i := 636) (by decide +kernel)) (by decide +kernel)
theorem m637 : Cond.code yX7_countExceptions cX7_countExceptions 5 none ∈ gw := gw_of (List.mem_of_getElem? (i := 637) (by decide +kernel)) (by decide +kernel)
theorem m638 : Cond.methodLink RX7 108 yX7_told ∈ gw := gw_of (List.mem_of_getElem? (i := 638) (by decide +kernel)) (by decide +kernel)
theorem m639 : Cond.instanceMethod yX7_told ∈ gw := gw_of (List.mem_of_getElem? (i := 639) (by decide +kernel)) (by decide +kernel)
theorem m640 : Cond.selects RX7 yX7_told yX7_told ∈ gw := gw_of (List.mem_of_getElem? (i := 640) (by decide +kernel)) (by decide +kernel)
theorem m641 : Cond.code yX7_told cX7_told 2 (some .int) ∈ gw := gw_of (List.mem_of_getElem? (i := 641) (by decide +kernel)) (by decide +kernel)
theorem m642 : Cond.methodLink RX7 110 yX7_countException ∈ gw := gw_of (List.mem_of_getElem? (i := 642) (by decide +kernel)) (by decide +kernel)
theorem m644 : Cond.instanceMethod yX7_countException ∈ gw := gw_of (List.mem_of_getElem? (i := 644) (by decide +kernel)) (by decide +kernel)
theorem m645 : Cond.code yX7_countException cX7_countException 3 none ∈ gw := gw_of (List.mem_of_getElem? (i := 645) (by decide +kernel)) (by decide +kernel)
theorem m646 : Cond.methodLink RX7 114 yJ9_max_7cf53 ∈ gw := gw_of (List.mem_of_getElem? (i := 646) (by decide +kernel)) (by decide +kernel)
theorem m647 : Cond.methodLink RX7 85 yX7_countWith ∈ gw := gw_of (List.mem_of_getElem? (i := 647) (by decide +kernel)) (by decide +kernel)
theorem m648 : Cond.instanceMethod yX7_countWith ∈ gw := gw_of (List.mem_of_getElem? (i := 648) (by decide +kernel)) (by decide +kernel)
theorem m649 : Cond.selects RX7 yX7_countWith yX7_countWith ∈ gw := gw_of (List.mem_of_getElem? (i := 649) (by decide +kernel)) (by decide +kernel)
theorem m650 : Cond.code yX7_countWith cX7_countWith 5 (some .int) ∈ gw := gw_of (List.mem_of_getElem? (i := 650) (by decide +kernel)) (by decide +kernel)
theorem m651 : Cond.methodLink RX8 218 yX3_keyOf ∈ gw := gw_of (List.mem_of_getElem? (i := 651) (by decide +kernel)) (by decide +kernel)
theorem m652 : Cond.methodLink RX8 221 yX7_told ∈ gw := gw_of (List.mem_of_getElem? (i := 652) (by decide +kernel)) (by decide +kernel)
theorem m653 : Cond.methodLink RX8 227 yX1_alike ∈ gw := gw_of (List.mem_of_getElem? (i := 653) (by decide +kernel)) (by decide +kernel)
theorem m654 : Cond.instanceMethod yX1_alike ∈ gw := gw_of (List.mem_of_getElem? (i := 654) (by decide +kernel)) (by decide +kernel)
theorem m655 : Cond.selects RX1 yX1_alike yX1_alike ∈ gw := gw_of (List.mem_of_getElem? (i := 655) (by decide +kernel)) (by decide +kernel)
theorem m656 : Cond.code yX1_alike cX1_alike 4 (some .int) ∈ gw := gw_of (List.mem_of_getElem? (i := 656) (by decide +kernel)) (by decide +kernel)
theorem m657 : Cond.methodLink RX1 61 yX1_symmetries ∈ gw := gw_of (List.mem_of_getElem? (i := 657) (by decide +kernel)) (by decide +kernel)
theorem m658 : Cond.methodLink RL 61 yX8_line ∈ gw := gw_of (List.mem_of_getElem? (i := 658) (by decide +kernel)) (by decide +kernel)
theorem m659 : Cond.instanceMethod yX8_line ∈ gw := gw_of (List.mem_of_getElem? (i := 659) (by decide +kernel)) (by decide +kernel)
theorem m660 : Cond.selects RX8 yX8_line yX8_line ∈ gw := gw_of (List.mem_of_getElem? (i := 660) (by decide +kernel)) (by decide +kernel)
theorem m661 : Cond.code yX8_line cX8_line 4 (some .int) ∈ gw := gw_of (List.mem_of_getElem? (i := 661) (by decide +kernel)) (by decide +kernel)
theorem m662 : Cond.methodLink RX8 230 yX6_take ∈ gw := gw_of (List.mem_of_getElem? (i := 662) (by decide +kernel)) (by decide +kernel)
theorem m663 : Cond.methodLink RL 65 yX8_all ∈ gw := gw_of (List.mem_of_getElem? (i := 663) (by decide +kernel)) (by decide +kernel)
theorem m664 : Cond.instanceMethod yX8_all ∈ gw := gw_of (List.mem_of_getElem? (i := 664) (by decide +kernel)) (by decide +kernel)
theorem m665 : Cond.selects RX8 yX8_all yX8_all ∈ gw := gw_of (List.mem_of_getElem? (i := 665) (by decide +kernel)) (by decide +kernel)
theorem m666 : Cond.code yX8_all cX8_all 2 (some .int) ∈ gw := gw_of (List.mem_of_getElem? (i := 666) (by decide +kernel)) (by decide +kernel)
theorem m667 : Cond.methodLink RX8 237 yX7_total ∈ gw := gw_of (List.mem_of_getElem? (i := 667) (by decide +kernel)) (by decide +kernel)
theorem m668 : Cond.instanceMethod yX7_total ∈ gw := gw_of (List.mem_of_getElem? (i := 668) (by decide +kernel)) (by decide +kernel)
theorem m669 : Cond.selects RX7 yX7_total yX7_total ∈ gw := gw_of (List.mem_of_getElem? (i := 669) (by decide +kernel)) (by decide +kernel)
theorem m670 : Cond.code yX7_total cX7_total 2 (some .int) ∈ gw := gw_of (List.mem_of_getElem? (i := 670) (by decide +kernel)) (by decide +kernel)
theorem m671 : Cond.methodLink RL 69 yX8_withDistance ∈ gw := gw_of (List.mem_of_getElem? (i := 671) (by decide +kernel)) (by decide +kernel)
theorem m672 : Cond.instanceMethod yX8_withDistance ∈ gw := gw_of (List.mem_of_getElem? (i := 672) (by decide +kernel)) (by decide +kernel)
theorem m673 : Cond.selects RX8 yX8_withDistance yX8_withDistance ∈ gw := gw_of (List.mem_of_getElem? (i := 673) (by decide +kernel)) (by decide +kernel)
theorem m674 : Cond.code yX8_withDistance cX8_withDistance 2 (some .int) ∈ gw := gw_of (List.mem_of_getElem? (i := 674) (by decide +kernel)) (by decide +kernel)
theorem m675 : Cond.methodLink RX8 240 yX7_countWith ∈ gw := gw_of (List.mem_of_getElem? (i := 675) (by decide +kernel)) (by decide +kernel)
theorem m676 : Cond.methodLink RL 73 yX8_rule ∈ gw := gw_of (List.mem_of_getElem? (i := 676) (by decide +kernel)) (by decide +kernel)
theorem m677 : Cond.instanceMethod yX8_rule ∈ gw := gw_of (List.mem_of_getElem? (i := 677) (by decide +kernel)) (by decide +kernel)
theorem m678 : Cond.selects RX8 yX8_rule yX8_rule ∈ gw := gw_of (List.mem_of_getElem? (i := 678) (by decide +kernel)) (by decide +kernel)
theorem m679 : Cond.code yX8_rule cX8_rule 2 (some .int) ∈ gw := gw_of (List.mem_of_getElem? (i := 679) (by decide +kernel)) (by decide +kernel)
theorem m680 : Cond.methodLink RL 79 yX8_put ∈ gw := gw_of (List.mem_of_getElem? (i := 680) (by decide +kernel)) (by decide +kernel)
theorem m681 : Cond.instanceMethod yX8_put ∈ gw := gw_of (List.mem_of_getElem? (i := 681) (by decide +kernel)) (by decide +kernel)
theorem m682 : Cond.selects RX8 yX8_put yX8_put ∈ gw := gw_of (List.mem_of_getElem? (i := 682) (by decide +kernel)) (by decide +kernel)
theorem m683 : Cond.code yX8_put cX8_put 4 (some .int) ∈ gw := gw_of (List.mem_of_getElem? (i := 683) (by decide +kernel)) (by decide +kernel)
theorem m684 : Cond.methodLink RX8 243 yX5_countIn ∈ gw := gw_of (List.mem_of_getElem? (i := 684) (by decide +kernel)) (by decide +kernel)
theorem m685 : Cond.static yX5_countIn ∈ gw := gw_of (List.mem_of_getElem? (i := 685) (by decide +kernel)) (by decide +kernel)
theorem m686 : Cond.code yX5_countIn cX5_countIn 7 (some .int) ∈ gw := gw_of (List.mem_of_getElem? (i := 686) (by decide +kernel)) (by decide +kernel)
theorem m687 : Cond.constantLong RX5 19 255 ∈ gw := gw_of (List.mem_of_getElem? (i := 687) (by decide +kernel)) (by decide +kernel)
theorem m688 : Cond.methodLink RX8 247 yX5_append ∈ gw := gw_of (List.mem_of_getElem? (i := 688) (by decide +kernel)) (by decide +kernel)
theorem m689 : Cond.instanceMethod yX5_append ∈ gw := gw_of (List.mem_of_getElem? (i := 689) (by decide +kernel)) (by decide +kernel)
theorem m690 : Cond.selects RX5 yX5_append yX5_append ∈ gw := gw_of (List.mem_of_getElem? (i := 690) (by decide +kernel)) (by decide +kernel)
theorem m691 : Cond.code yX5_append cX5_append 5 none ∈ gw := gw_of (List.mem_of_getElem? (i := 691) (by decide +kernel)) (by decide +kernel)
theorem m692 : Cond.methodLink RL 84 yX8_wipe ∈ gw := gw_of (List.mem_of_getElem? (i := 692) (by decide +kernel)) (by decide +kernel)
theorem m693 : Cond.instanceMethod yX8_wipe ∈ gw := gw_of (List.mem_of_getElem? (i := 693) (by decide +kernel)) (by decide +kernel)
theorem m694 : Cond.selects RX8 yX8_wipe yX8_wipe ∈ gw := gw_of (List.mem_of_getElem? (i := 694) (by decide +kernel)) (by decide +kernel)
theorem m695 : Cond.code yX8_wipe cX8_wipe 2 (some .int) ∈ gw := gw_of (List.mem_of_getElem? (i := 695) (by decide +kernel)) (by decide +kernel)
theorem m696 : Cond.methodLink RL 88 yX8_fault ∈ gw := gw_of (List.mem_of_getElem? (i := 696) (by decide +kernel)) (by decide +kernel)
theorem m697 : Cond.instanceMethod yX8_fault ∈ gw := gw_of (List.mem_of_getElem? (i := 697) (by decide +kernel)) (by decide +kernel)
theorem m698 : Cond.selects RX8 yX8_fault yX8_fault ∈ gw := gw_of (List.mem_of_getElem? (i := 698) (by decide +kernel)) (by decide +kernel)
theorem m699 : Cond.code yX8_fault cX8_fault 1 (some .int) ∈ gw := gw_of (List.mem_of_getElem? (i := 699) (by decide +kernel)) (by decide +kernel)
theorem m700 : Cond.methodLink RL 92 yX8_undo ∈ gw := gw_of (List.mem_of_getElem? (i := 700) (by decide +kernel)) (by decide +kernel)
theorem m701 : Cond.instanceMethod yX8_undo ∈ gw := gw_of (List.mem_of_getElem? (i := 701) (by decide +kernel)) (by decide +kernel)
theorem m702 : Cond.selects RX8 yX8_undo yX8_undo ∈ gw := gw_of (List.mem_of_getElem? (i := 702) (by decide +kernel)) (by decide +kernel)
theorem m703 : Cond.code yX8_undo cX8_undo 1 (some .int) ∈ gw := gw_of (List.mem_of_getElem? (i := 703) (by decide +kernel)) (by decide +kernel)
theorem m704 : Cond.methodLink RX8 251 yX4_takeBack ∈ gw := gw_of (List.mem_of_getElem? (i := 704) (by decide +kernel)) (by decide +kernel)
theorem m705 : Cond.instanceMethod yX4_takeBack ∈ gw := gw_of (List.mem_of_getElem? (i := 705) (by decide +kernel)) (by decide +kernel)
theorem m706 : Cond.selects RX4 yX4_takeBack yX4_takeBack ∈ gw := gw_of (List.mem_of_getElem? (i := 706) (by decide +kernel)) (by decide +kernel)
theorem m707 : Cond.code yX4_takeBack cX4_takeBack 2 none ∈ gw := gw_of (List.mem_of_getElem? (i := 707) (by decide +kernel)) (by decide +kernel)
theorem m708 : Cond.methodLink RL 96 yX8_save ∈ gw := gw_of (List.mem_of_getElem? (i := 708) (by decide +kernel)) (by decide +kernel)
theorem m709 : Cond.instanceMethod yX8_save ∈ gw := gw_of (List.mem_of_getElem? (i := 709) (by decide +kernel)) (by decide +kernel)
theorem m710 : Cond.selects RX8 yX8_save yX8_save ∈ gw := gw_of (List.mem_of_getElem? (i := 710) (by decide +kernel)) (by decide +kernel)
theorem m711 : Cond.code yX8_save cX8_save 2 (some .int) ∈ gw := gw_of (List.mem_of_getElem? (i := 711) (by decide +kernel)) (by decide +kernel)
theorem m712 : Cond.methodLink RL 100 yX8_restore ∈ gw := gw_of (List.mem_of_getElem? (i := 712) (by decide +kernel)) (by decide +kernel)
theorem m713 : Cond.instanceMethod yX8_restore ∈ gw := gw_of (List.mem_of_getElem? (i := 713) (by decide +kernel)) (by decide +kernel)
theorem m714 : Cond.selects RX8 yX8_restore yX8_restore ∈ gw := gw_of (List.mem_of_getElem? (i := 714) (by decide +kernel)) (by decide +kernel)
theorem m715 : Cond.code yX8_restore cX8_restore 2 (some .int) ∈ gw := gw_of (List.mem_of_getElem? (i := 715) (by decide +kernel)) (by decide +kernel)
theorem m716 : Cond.classLink RL 10 RX9 ∈ gw := gw_of (List.mem_of_getElem? (i := 716) (by decide +kernel)) (by decide +kernel)
theorem m717 : Cond.instantiable RX9 21 ∈ gw := gw_of (List.mem_of_getElem? (i := 717) (by decide +kernel)) (by decide +kernel)
theorem m718 : Cond.methodLink RL 12 yX9_init ∈ gw := gw_of (List.mem_of_getElem? (i := 718) (by decide +kernel)) (by decide +kernel)
theorem m719 : Cond.instanceMethod yX9_init ∈ gw := gw_of (List.mem_of_getElem? (i := 719) (by decide +kernel)) (by decide +kernel)
theorem m720 : Cond.code yX9_init cX9_init 4 none ∈ gw := gw_of (List.mem_of_getElem? (i := 720) (by decide +kernel)) (by decide +kernel)
theorem m721 : Cond.methodLink RX9 1 objectInit ∈ gw := gw_of (List.mem_of_getElem? (i := 721) (by decide +kernel)) (by decide +kernel)
theorem m722 : Cond.fieldLink RX9 7 "BoardEndsModel" "at" "[I" ∈ gw := gw_of (List.mem_of_getElem? (i := 722) (by decide +kernel)) (by decide +kernel)
theorem m723 : Cond.fieldLink RX9 13 "BoardEndsModel" "past" "[I" ∈ gw := gw_of (List.mem_of_getElem? (i := 723) (by decide +kernel)) (by decide +kernel)
theorem m724 : Cond.fieldLink RX9 61 "BoardEndsModel" "pastFirst" "I" ∈ gw := gw_of (List.mem_of_getElem? (i := 724) (by decide +kernel)) (by decide +kernel)
theorem m725 : Cond.fieldLink RX9 57 "BoardEndsModel" "pastMany" "I" ∈ gw := gw_of (List.mem_of_getElem? (i := 725) (by decide +kernel)) (by decide +kernel)
theorem m726 : Cond.fieldLink RX9 16 "BoardEndsModel" "slots" "[I" ∈ gw := gw_of (List.mem_of_getElem? (i := 726) (by decide +kernel)) (by decide +kernel)
theorem m727 : Cond.fieldLink RX9 19 "BoardEndsModel" "isSaved" "[Z" ∈ gw := gw_of (List.mem_of_getElem? (i := 727) (by decide +kernel)) (by decide +kernel)
theorem m728 : Cond.fieldLink RX9 23 "BoardEndsModel" "pairLow" "[I" ∈ gw := gw_of (List.mem_of_getElem? (i := 728) (by decide +kernel)) (by decide +kernel)
theorem m729 : Cond.fieldLink RX9 26 "BoardEndsModel" "pairHigh" "[I" ∈ gw := gw_of (List.mem_of_getElem? (i := 729) (by decide +kernel)) (by decide +kernel)
theorem m730 : Cond.fieldLink RX9 29 "BoardEndsModel" "far" "[I" ∈ gw := gw_of (List.mem_of_getElem? (i := 730) (by decide +kernel)) (by decide +kernel)
theorem m731 : Cond.fieldLink RX9 32 "BoardEndsModel" "stands" "[I" ∈ gw := gw_of (List.mem_of_getElem? (i := 731) (by decide +kernel)) (by decide +kernel)
theorem m732 : Cond.fieldLink RX9 35 "BoardEndsModel" "alike" "[I" ∈ gw := gw_of (List.mem_of_getElem? (i := 732) (by decide +kernel)) (by decide +kernel)
theorem m733 : Cond.fieldLink RX9 38 "BoardEndsModel" "ways" "[I" ∈ gw := gw_of (List.mem_of_getElem? (i := 733) (by decide +kernel)) (by decide +kernel)
theorem m734 : Cond.fieldLink RX9 125 "BoardEndsModel" "symmetries" "I" ∈ gw := gw_of (List.mem_of_getElem? (i := 734) (by decide +kernel)) (by decide +kernel)
theorem m735 : Cond.fieldLink RX9 41 "BoardEndsModel" "rules" "[I" ∈ gw := gw_of (List.mem_of_getElem? (i := 735) (by decide +kernel)) (by decide +kernel)
theorem m736 : Cond.fieldLink RX9 44 "BoardEndsModel" "counts" "[I" ∈ gw := gw_of (List.mem_of_getElem? (i := 736) (by decide +kernel)) (by decide +kernel)
theorem m737 : Cond.fieldLink RX9 47 "BoardEndsModel" "worked" "[I" ∈ gw := gw_of (List.mem_of_getElem? (i := 737) (by decide +kernel)) (by decide +kernel)
theorem m738 : Cond.fieldLink RX9 141 "BoardEndsModel" "isWorked" "Z" ∈ gw := gw_of (List.mem_of_getElem? (i := 738) (by decide +kernel)) (by decide +kernel)
theorem m739 : Cond.fieldLink RX9 180 "BoardEndsModel" "bestFrom" "I" ∈ gw := gw_of (List.mem_of_getElem? (i := 739) (by decide +kernel)) (by decide +kernel)
theorem m740 : Cond.fieldLink RX9 183 "BoardEndsModel" "bestTo" "I" ∈ gw := gw_of (List.mem_of_getElem? (i := 740) (by decide +kernel)) (by decide +kernel)
theorem m741 : Cond.fieldLink RX9 50 "BoardEndsModel" "pad" "[I" ∈ gw := gw_of (List.mem_of_getElem? (i := 741) (by decide +kernel)) (by decide +kernel)
theorem m742 : Cond.fieldLink RX9 223 "BoardEndsModel" "padMany" "I" ∈ gw := gw_of (List.mem_of_getElem? (i := 742) (by decide +kernel)) (by decide +kernel)
theorem m786 : Cond.methodLink RL 17 yX9_set ∈ gw := gw_of (List.mem_of_getElem? (i := 786) (by decide +kernel)) (by decide +kernel)
theorem m787 : Cond.instanceMethod yX9_set ∈ gw := gw_of (List.mem_of_getElem? (i := 787) (by decide +kernel)) (by decide +kernel)
theorem m788 : Cond.selects RX9 yX9_set yX9_set ∈ gw := gw_of (List.mem_of_getElem? (i := 788) (by decide +kernel)) (by decide +kernel)
theorem m789 : Cond.code yX9_set cX9_set 4 (some .int) ∈ gw := gw_of (List.mem_of_getElem? (i := 789) (by decide +kernel)) (by decide +kernel)
theorem m790 : Cond.methodLink RX9 53 yX9_in ∈ gw := gw_of (List.mem_of_getElem? (i := 790) (by decide +kernel)) (by decide +kernel)
theorem m791 : Cond.static yX9_in ∈ gw := gw_of (List.mem_of_getElem? (i := 791) (by decide +kernel)) (by decide +kernel)
theorem m792 : Cond.code yX9_in cX9_in 3 (some .boolean) ∈ gw := gw_of (List.mem_of_getElem? (i := 792) (by decide +kernel)) (by decide +kernel)
theorem m793 : Cond.methodLink RX9 192 yX9_keep ∈ gw := gw_of (List.mem_of_getElem? (i := 793) (by decide +kernel)) (by decide +kernel)
theorem m795 : Cond.instanceMethod yX9_keep ∈ gw := gw_of (List.mem_of_getElem? (i := 795) (by decide +kernel)) (by decide +kernel)
theorem m796 : Cond.code yX9_keep cX9_keep 3 none ∈ gw := gw_of (List.mem_of_getElem? (i := 796) (by decide +kernel)) (by decide +kernel)
theorem m797 : Cond.methodLink RL 22 yX9_block ∈ gw := gw_of (List.mem_of_getElem? (i := 797) (by decide +kernel)) (by decide +kernel)
theorem m798 : Cond.instanceMethod yX9_block ∈ gw := gw_of (List.mem_of_getElem? (i := 798) (by decide +kernel)) (by decide +kernel)
theorem m799 : Cond.selects RX9 yX9_block yX9_block ∈ gw := gw_of (List.mem_of_getElem? (i := 799) (by decide +kernel)) (by decide +kernel)
theorem m800 : Cond.code yX9_block cX9_block 2 (some .int) ∈ gw := gw_of (List.mem_of_getElem? (i := 800) (by decide +kernel)) (by decide +kernel)
theorem m801 : Cond.methodLink RX9 195 yX9_isPlace ∈ gw := gw_of (List.mem_of_getElem? (i := 801) (by decide +kernel)) (by decide +kernel)
theorem m802 : Cond.static yX9_isPlace ∈ gw := gw_of (List.mem_of_getElem? (i := 802) (by decide +kernel)) (by decide +kernel)
theorem m803 : Cond.code yX9_isPlace cX9_isPlace 1 (some .boolean) ∈ gw := gw_of (List.mem_of_getElem? (i := 803) (by decide +kernel)) (by decide +kernel)
theorem m804 : Cond.methodLink RX9 91 yX9_isFree ∈ gw := gw_of (List.mem_of_getElem? (i := 804) (by decide +kernel)) (by decide +kernel)
theorem m806 : Cond.instanceMethod yX9_isFree ∈ gw := gw_of (List.mem_of_getElem? (i := 806) (by decide +kernel)) (by decide +kernel)
theorem m807 : Cond.code yX9_isFree cX9_isFree 2 (some .boolean) ∈ gw := gw_of (List.mem_of_getElem? (i := 807) (by decide +kernel)) (by decide +kernel)
theorem m808 : Cond.methodLink RX9 78 yX9_has ∈ gw := gw_of (List.mem_of_getElem? (i := 808) (by decide +kernel)) (by decide +kernel)
theorem m809 : Cond.static yX9_has ∈ gw := gw_of (List.mem_of_getElem? (i := 809) (by decide +kernel)) (by decide +kernel)
theorem m810 : Cond.code yX9_has cX9_has 2 (some .boolean) ∈ gw := gw_of (List.mem_of_getElem? (i := 810) (by decide +kernel)) (by decide +kernel)
theorem m811 : Cond.methodLink RX9 198 yX9_many ∈ gw := gw_of (List.mem_of_getElem? (i := 811) (by decide +kernel)) (by decide +kernel)
theorem m812 : Cond.static yX9_many ∈ gw := gw_of (List.mem_of_getElem? (i := 812) (by decide +kernel)) (by decide +kernel)
theorem m813 : Cond.code yX9_many cX9_many 3 (some .int) ∈ gw := gw_of (List.mem_of_getElem? (i := 813) (by decide +kernel)) (by decide +kernel)
theorem m814 : Cond.methodLink RL 27 yX9_setUp ∈ gw := gw_of (List.mem_of_getElem? (i := 814) (by decide +kernel)) (by decide +kernel)
theorem m815 : Cond.instanceMethod yX9_setUp ∈ gw := gw_of (List.mem_of_getElem? (i := 815) (by decide +kernel)) (by decide +kernel)
theorem m816 : Cond.selects RX9 yX9_setUp yX9_setUp ∈ gw := gw_of (List.mem_of_getElem? (i := 816) (by decide +kernel)) (by decide +kernel)
theorem m817 : Cond.code yX9_setUp cX9_setUp 6 (some .int) ∈ gw := gw_of (List.mem_of_getElem? (i := 817) (by decide +kernel)) (by decide +kernel)
theorem m818 : Cond.methodLink RX9 201 yX9_whyNot ∈ gw := gw_of (List.mem_of_getElem? (i := 818) (by decide +kernel)) (by decide +kernel)
theorem m820 : Cond.instanceMethod yX9_whyNot ∈ gw := gw_of (List.mem_of_getElem? (i := 820) (by decide +kernel)) (by decide +kernel)
theorem m821 : Cond.code yX9_whyNot cX9_whyNot 6 (some .int) ∈ gw := gw_of (List.mem_of_getElem? (i := 821) (by decide +kernel)) (by decide +kernel)
theorem m822 : Cond.methodLink RX9 204 yX9_lay ∈ gw := gw_of (List.mem_of_getElem? (i := 822) (by decide +kernel)) (by decide +kernel)
theorem m824 : Cond.instanceMethod yX9_lay ∈ gw := gw_of (List.mem_of_getElem? (i := 824) (by decide +kernel)) (by decide +kernel)
theorem m825 : Cond.code yX9_lay cX9_lay 5 none ∈ gw := gw_of (List.mem_of_getElem? (i := 825) (by decide +kernel)) (by decide +kernel)
theorem m826 : Cond.methodLink RX9 82 yX9_lesser ∈ gw := gw_of (List.mem_of_getElem? (i := 826) (by decide +kernel)) (by decide +kernel)
theorem m827 : Cond.static yX9_lesser ∈ gw := gw_of (List.mem_of_getElem? (i := 827) (by decide +kernel)) (by decide +kernel)
theorem m828 : Cond.code yX9_lesser cX9_lesser 2 (some .int) ∈ gw := gw_of (List.mem_of_getElem? (i := 828) (by decide +kernel)) (by decide +kernel)
theorem m829 : Cond.methodLink RX9 85 yX9_greater ∈ gw := gw_of (List.mem_of_getElem? (i := 829) (by decide +kernel)) (by decide +kernel)
theorem m830 : Cond.static yX9_greater ∈ gw := gw_of (List.mem_of_getElem? (i := 830) (by decide +kernel)) (by decide +kernel)
theorem m831 : Cond.code yX9_greater cX9_greater 2 (some .int) ∈ gw := gw_of (List.mem_of_getElem? (i := 831) (by decide +kernel)) (by decide +kernel)
theorem m832 : Cond.methodLink RX9 208 yX9_distanceNow ∈ gw := gw_of (List.mem_of_getElem? (i := 832) (by decide +kernel)) (by decide +kernel)
theorem m834 : Cond.instanceMethod yX9_distanceNow ∈ gw := gw_of (List.mem_of_getElem? (i := 834) (by decide +kernel)) (by decide +kernel)
theorem m835 : Cond.code yX9_distanceNow cX9_distanceNow 1 (some .int) ∈ gw := gw_of (List.mem_of_getElem? (i := 835) (by decide +kernel)) (by decide +kernel)
theorem m836 : Cond.methodLink RX9 171 yX9_isCaught ∈ gw := gw_of (List.mem_of_getElem? (i := 836) (by decide +kernel)) (by decide +kernel)
theorem m838 : Cond.instanceMethod yX9_isCaught ∈ gw := gw_of (List.mem_of_getElem? (i := 838) (by decide +kernel)) (by decide +kernel)
theorem m839 : Cond.code yX9_isCaught cX9_isCaught 1 (some .boolean) ∈ gw := gw_of (List.mem_of_getElem? (i := 839) (by decide +kernel)) (by decide +kernel)
theorem m840 : Cond.methodLink RX9 161 yX9_work ∈ gw := gw_of (List.mem_of_getElem? (i := 840) (by decide +kernel)) (by decide +kernel)
theorem m842 : Cond.instanceMethod yX9_work ∈ gw := gw_of (List.mem_of_getElem? (i := 842) (by decide +kernel)) (by decide +kernel)
theorem m843 : Cond.code yX9_work cX9_work 2 none ∈ gw := gw_of (List.mem_of_getElem? (i := 843) (by decide +kernel)) (by decide +kernel)
theorem m844 : Cond.methodLink RX9 145 yX9_isAsWorked ∈ gw := gw_of (List.mem_of_getElem? (i := 844) (by decide +kernel)) (by decide +kernel)
theorem m846 : Cond.instanceMethod yX9_isAsWorked ∈ gw := gw_of (List.mem_of_getElem? (i := 846) (by decide +kernel)) (by decide +kernel)
theorem m847 : Cond.code yX9_isAsWorked cX9_isAsWorked 3 (some .boolean) ∈ gw := gw_of (List.mem_of_getElem? (i := 847) (by decide +kernel)) (by decide +kernel)
theorem m848 : Cond.methodLink RX9 149 yX9_workOutAll ∈ gw := gw_of (List.mem_of_getElem? (i := 848) (by decide +kernel)) (by decide +kernel)
theorem m850 : Cond.instanceMethod yX9_workOutAll ∈ gw := gw_of (List.mem_of_getElem? (i := 850) (by decide +kernel)) (by decide +kernel)
theorem m851 : Cond.code yX9_workOutAll cX9_workOutAll 3 none ∈ gw := gw_of (List.mem_of_getElem? (i := 851) (by decide +kernel)) (by decide +kernel)
theorem m852 : Cond.methodLink RX9 122 yX9_workOut ∈ gw := gw_of (List.mem_of_getElem? (i := 852) (by decide +kernel)) (by decide +kernel)
theorem m854 : Cond.instanceMethod yX9_workOut ∈ gw := gw_of (List.mem_of_getElem? (i := 854) (by decide +kernel)) (by decide +kernel)
theorem m855 : Cond.code yX9_workOut cX9_workOut 7 (some .boolean) ∈ gw := gw_of (List.mem_of_getElem? (i := 855) (by decide +kernel)) (by decide +kernel)
theorem m856 : Cond.methodLink RX9 113 yX9_isPosition ∈ gw := gw_of (List.mem_of_getElem? (i := 856) (by decide +kernel)) (by decide +kernel)
theorem m858 : Cond.instanceMethod yX9_isPosition ∈ gw := gw_of (List.mem_of_getElem? (i := 858) (by decide +kernel)) (by decide +kernel)
theorem m859 : Cond.code yX9_isPosition cX9_isPosition 6 (some .boolean) ∈ gw := gw_of (List.mem_of_getElem? (i := 859) (by decide +kernel)) (by decide +kernel)
theorem m860 : Cond.methodLink RX9 116 yX9_ofHunters ∈ gw := gw_of (List.mem_of_getElem? (i := 860) (by decide +kernel)) (by decide +kernel)
theorem m862 : Cond.instanceMethod yX9_ofHunters ∈ gw := gw_of (List.mem_of_getElem? (i := 862) (by decide +kernel)) (by decide +kernel)
theorem m863 : Cond.code yX9_ofHunters cX9_ofHunters 4 (some .int) ∈ gw := gw_of (List.mem_of_getElem? (i := 863) (by decide +kernel)) (by decide +kernel)
theorem m864 : Cond.methodLink RX9 106 yX9_canCatch ∈ gw := gw_of (List.mem_of_getElem? (i := 864) (by decide +kernel)) (by decide +kernel)
theorem m866 : Cond.instanceMethod yX9_canCatch ∈ gw := gw_of (List.mem_of_getElem? (i := 866) (by decide +kernel)) (by decide +kernel)
theorem m867 : Cond.code yX9_canCatch cX9_canCatch 3 (some .boolean) ∈ gw := gw_of (List.mem_of_getElem? (i := 867) (by decide +kernel)) (by decide +kernel)
theorem m868 : Cond.methodLink RX9 95 yX9_isStep ∈ gw := gw_of (List.mem_of_getElem? (i := 868) (by decide +kernel)) (by decide +kernel)
theorem m869 : Cond.static yX9_isStep ∈ gw := gw_of (List.mem_of_getElem? (i := 869) (by decide +kernel)) (by decide +kernel)
theorem m870 : Cond.code yX9_isStep cX9_isStep 3 (some .boolean) ∈ gw := gw_of (List.mem_of_getElem? (i := 870) (by decide +kernel)) (by decide +kernel)
theorem m871 : Cond.methodLink RX9 75 yX9_between ∈ gw := gw_of (List.mem_of_getElem? (i := 871) (by decide +kernel)) (by decide +kernel)
theorem m872 : Cond.static yX9_between ∈ gw := gw_of (List.mem_of_getElem? (i := 872) (by decide +kernel)) (by decide +kernel)
theorem m873 : Cond.code yX9_between cX9_between 2 (some .int) ∈ gw := gw_of (List.mem_of_getElem? (i := 873) (by decide +kernel)) (by decide +kernel)
theorem m874 : Cond.methodLink RX9 68 yX9_rowsBetween ∈ gw := gw_of (List.mem_of_getElem? (i := 874) (by decide +kernel)) (by decide +kernel)
theorem m875 : Cond.static yX9_rowsBetween ∈ gw := gw_of (List.mem_of_getElem? (i := 875) (by decide +kernel)) (by decide +kernel)
theorem m876 : Cond.code yX9_rowsBetween cX9_rowsBetween 2 (some .int) ∈ gw := gw_of (List.mem_of_getElem? (i := 876) (by decide +kernel)) (by decide +kernel)
theorem m877 : Cond.methodLink RX9 64 yX9_size ∈ gw := gw_of (List.mem_of_getElem? (i := 877) (by decide +kernel)) (by decide +kernel)
theorem m878 : Cond.static yX9_size ∈ gw := gw_of (List.mem_of_getElem? (i := 878) (by decide +kernel)) (by decide +kernel)
theorem m879 : Cond.code yX9_size cX9_size 1 (some .int) ∈ gw := gw_of (List.mem_of_getElem? (i := 879) (by decide +kernel)) (by decide +kernel)
theorem m880 : Cond.methodLink RX9 72 yX9_columnsBetween ∈ gw := gw_of (List.mem_of_getElem? (i := 880) (by decide +kernel)) (by decide +kernel)
theorem m881 : Cond.static yX9_columnsBetween ∈ gw := gw_of (List.mem_of_getElem? (i := 881) (by decide +kernel)) (by decide +kernel)
theorem m882 : Cond.code yX9_columnsBetween cX9_columnsBetween 2 (some .int) ∈ gw := gw_of (List.mem_of_getElem? (i := 882) (by decide +kernel)) (by decide +kernel)
theorem m883 : Cond.methodLink RX9 109 yX9_ofHunter ∈ gw := gw_of (List.mem_of_getElem? (i := 883) (by decide +kernel)) (by decide +kernel)
theorem m885 : Cond.instanceMethod yX9_ofHunter ∈ gw := gw_of (List.mem_of_getElem? (i := 885) (by decide +kernel)) (by decide +kernel)
theorem m886 : Cond.code yX9_ofHunter cX9_ofHunter 6 (some .int) ∈ gw := gw_of (List.mem_of_getElem? (i := 886) (by decide +kernel)) (by decide +kernel)
theorem m887 : Cond.methodLink RX9 99 yX9_numberOf ∈ gw := gw_of (List.mem_of_getElem? (i := 887) (by decide +kernel)) (by decide +kernel)
theorem m888 : Cond.static yX9_numberOf ∈ gw := gw_of (List.mem_of_getElem? (i := 888) (by decide +kernel)) (by decide +kernel)
theorem m889 : Cond.code yX9_numberOf cX9_numberOf 4 (some .int) ∈ gw := gw_of (List.mem_of_getElem? (i := 889) (by decide +kernel)) (by decide +kernel)
theorem m890 : Cond.methodLink RX9 88 yX9_pair ∈ gw := gw_of (List.mem_of_getElem? (i := 890) (by decide +kernel)) (by decide +kernel)
theorem m891 : Cond.static yX9_pair ∈ gw := gw_of (List.mem_of_getElem? (i := 891) (by decide +kernel)) (by decide +kernel)
theorem m892 : Cond.code yX9_pair cX9_pair 4 (some .int) ∈ gw := gw_of (List.mem_of_getElem? (i := 892) (by decide +kernel)) (by decide +kernel)
theorem m893 : Cond.methodLink RX9 103 yX9_nearer ∈ gw := gw_of (List.mem_of_getElem? (i := 893) (by decide +kernel)) (by decide +kernel)
theorem m894 : Cond.static yX9_nearer ∈ gw := gw_of (List.mem_of_getElem? (i := 894) (by decide +kernel)) (by decide +kernel)
theorem m895 : Cond.code yX9_nearer cX9_nearer 2 (some .int) ∈ gw := gw_of (List.mem_of_getElem? (i := 895) (by decide +kernel)) (by decide +kernel)
theorem m896 : Cond.methodLink RX9 119 yX9_ofFox ∈ gw := gw_of (List.mem_of_getElem? (i := 896) (by decide +kernel)) (by decide +kernel)
theorem m898 : Cond.instanceMethod yX9_ofFox ∈ gw := gw_of (List.mem_of_getElem? (i := 898) (by decide +kernel)) (by decide +kernel)
theorem m899 : Cond.code yX9_ofFox cX9_ofFox 7 (some .int) ∈ gw := gw_of (List.mem_of_getElem? (i := 899) (by decide +kernel)) (by decide +kernel)
theorem m900 : Cond.methodLink RX9 152 yX9_findSymmetries ∈ gw := gw_of (List.mem_of_getElem? (i := 900) (by decide +kernel)) (by decide +kernel)
theorem m902 : Cond.instanceMethod yX9_findSymmetries ∈ gw := gw_of (List.mem_of_getElem? (i := 902) (by decide +kernel)) (by decide +kernel)
theorem m903 : Cond.code yX9_findSymmetries cX9_findSymmetries 5 none ∈ gw := gw_of (List.mem_of_getElem? (i := 903) (by decide +kernel)) (by decide +kernel)
theorem m904 : Cond.methodLink RX9 128 yX9_turned ∈ gw := gw_of (List.mem_of_getElem? (i := 904) (by decide +kernel)) (by decide +kernel)
theorem m905 : Cond.static yX9_turned ∈ gw := gw_of (List.mem_of_getElem? (i := 905) (by decide +kernel)) (by decide +kernel)
theorem m906 : Cond.code yX9_turned cX9_turned 6 (some .int) ∈ gw := gw_of (List.mem_of_getElem? (i := 906) (by decide +kernel)) (by decide +kernel)
theorem m907 : Cond.methodLink RX9 155 yX9_fold ∈ gw := gw_of (List.mem_of_getElem? (i := 907) (by decide +kernel)) (by decide +kernel)
theorem m909 : Cond.instanceMethod yX9_fold ∈ gw := gw_of (List.mem_of_getElem? (i := 909) (by decide +kernel)) (by decide +kernel)
theorem m910 : Cond.code yX9_fold cX9_fold 2 none ∈ gw := gw_of (List.mem_of_getElem? (i := 910) (by decide +kernel)) (by decide +kernel)
theorem m911 : Cond.methodLink RX9 131 yX9_foldOne ∈ gw := gw_of (List.mem_of_getElem? (i := 911) (by decide +kernel)) (by decide +kernel)
theorem m913 : Cond.instanceMethod yX9_foldOne ∈ gw := gw_of (List.mem_of_getElem? (i := 913) (by decide +kernel)) (by decide +kernel)
theorem m914 : Cond.code yX9_foldOne cX9_foldOne 8 none ∈ gw := gw_of (List.mem_of_getElem? (i := 914) (by decide +kernel)) (by decide +kernel)
theorem m915 : Cond.methodLink RX9 135 yX9_madeBy ∈ gw := gw_of (List.mem_of_getElem? (i := 915) (by decide +kernel)) (by decide +kernel)
theorem m917 : Cond.instanceMethod yX9_madeBy ∈ gw := gw_of (List.mem_of_getElem? (i := 917) (by decide +kernel)) (by decide +kernel)
theorem m918 : Cond.code yX9_madeBy cX9_madeBy 5 (some .int) ∈ gw := gw_of (List.mem_of_getElem? (i := 918) (by decide +kernel)) (by decide +kernel)
theorem m919 : Cond.methodLink RX9 158 yX9_ruleOf ∈ gw := gw_of (List.mem_of_getElem? (i := 919) (by decide +kernel)) (by decide +kernel)
theorem m921 : Cond.instanceMethod yX9_ruleOf ∈ gw := gw_of (List.mem_of_getElem? (i := 921) (by decide +kernel)) (by decide +kernel)
theorem m922 : Cond.code yX9_ruleOf cX9_ruleOf 6 (some .int) ∈ gw := gw_of (List.mem_of_getElem? (i := 922) (by decide +kernel)) (by decide +kernel)
theorem m923 : Cond.methodLink RX9 138 yX9_key ∈ gw := gw_of (List.mem_of_getElem? (i := 923) (by decide +kernel)) (by decide +kernel)
theorem m925 : Cond.instanceMethod yX9_key ∈ gw := gw_of (List.mem_of_getElem? (i := 925) (by decide +kernel)) (by decide +kernel)
theorem m926 : Cond.code yX9_key cX9_key 6 (some .int) ∈ gw := gw_of (List.mem_of_getElem? (i := 926) (by decide +kernel)) (by decide +kernel)
theorem m927 : Cond.methodLink RX9 164 yX9_isHit ∈ gw := gw_of (List.mem_of_getElem? (i := 927) (by decide +kernel)) (by decide +kernel)
theorem m929 : Cond.instanceMethod yX9_isHit ∈ gw := gw_of (List.mem_of_getElem? (i := 929) (by decide +kernel)) (by decide +kernel)
theorem m930 : Cond.code yX9_isHit cX9_isHit 1 (some .boolean) ∈ gw := gw_of (List.mem_of_getElem? (i := 930) (by decide +kernel)) (by decide +kernel)
theorem m931 : Cond.methodLink RX9 167 yX9_numberNow ∈ gw := gw_of (List.mem_of_getElem? (i := 931) (by decide +kernel)) (by decide +kernel)
theorem m933 : Cond.instanceMethod yX9_numberNow ∈ gw := gw_of (List.mem_of_getElem? (i := 933) (by decide +kernel)) (by decide +kernel)
theorem m934 : Cond.code yX9_numberNow cX9_numberNow 1 (some .int) ∈ gw := gw_of (List.mem_of_getElem? (i := 934) (by decide +kernel)) (by decide +kernel)
theorem m935 : Cond.methodLink RL 31 yX9_move ∈ gw := gw_of (List.mem_of_getElem? (i := 935) (by decide +kernel)) (by decide +kernel)
theorem m936 : Cond.instanceMethod yX9_move ∈ gw := gw_of (List.mem_of_getElem? (i := 936) (by decide +kernel)) (by decide +kernel)
theorem m937 : Cond.selects RX9 yX9_move yX9_move ∈ gw := gw_of (List.mem_of_getElem? (i := 937) (by decide +kernel)) (by decide +kernel)
theorem m938 : Cond.code yX9_move cX9_move 3 (some .int) ∈ gw := gw_of (List.mem_of_getElem? (i := 938) (by decide +kernel)) (by decide +kernel)
theorem m939 : Cond.methodLink RX9 186 yX9_isMove ∈ gw := gw_of (List.mem_of_getElem? (i := 939) (by decide +kernel)) (by decide +kernel)
theorem m941 : Cond.instanceMethod yX9_isMove ∈ gw := gw_of (List.mem_of_getElem? (i := 941) (by decide +kernel)) (by decide +kernel)
theorem m942 : Cond.code yX9_isMove cX9_isMove 3 (some .boolean) ∈ gw := gw_of (List.mem_of_getElem? (i := 942) (by decide +kernel)) (by decide +kernel)
theorem m943 : Cond.methodLink RX9 174 yX9_isHunterMove ∈ gw := gw_of (List.mem_of_getElem? (i := 943) (by decide +kernel)) (by decide +kernel)
theorem m945 : Cond.instanceMethod yX9_isHunterMove ∈ gw := gw_of (List.mem_of_getElem? (i := 945) (by decide +kernel)) (by decide +kernel)
theorem m946 : Cond.code yX9_isHunterMove cX9_isHunterMove 5 (some .boolean) ∈ gw := gw_of (List.mem_of_getElem? (i := 946) (by decide +kernel)) (by decide +kernel)
theorem m947 : Cond.methodLink RX9 177 yX9_isFoxMove ∈ gw := gw_of (List.mem_of_getElem? (i := 947) (by decide +kernel)) (by decide +kernel)
theorem m949 : Cond.instanceMethod yX9_isFoxMove ∈ gw := gw_of (List.mem_of_getElem? (i := 949) (by decide +kernel)) (by decide +kernel)
theorem m950 : Cond.code yX9_isFoxMove cX9_isFoxMove 3 (some .boolean) ∈ gw := gw_of (List.mem_of_getElem? (i := 950) (by decide +kernel)) (by decide +kernel)
theorem m951 : Cond.methodLink RX9 211 yX9_make ∈ gw := gw_of (List.mem_of_getElem? (i := 951) (by decide +kernel)) (by decide +kernel)
theorem m953 : Cond.instanceMethod yX9_make ∈ gw := gw_of (List.mem_of_getElem? (i := 953) (by decide +kernel)) (by decide +kernel)
theorem m954 : Cond.code yX9_make cX9_make 4 (some .int) ∈ gw := gw_of (List.mem_of_getElem? (i := 954) (by decide +kernel)) (by decide +kernel)
theorem m955 : Cond.methodLink RL 36 yX9_play ∈ gw := gw_of (List.mem_of_getElem? (i := 955) (by decide +kernel)) (by decide +kernel)
theorem m956 : Cond.instanceMethod yX9_play ∈ gw := gw_of (List.mem_of_getElem? (i := 956) (by decide +kernel)) (by decide +kernel)
theorem m957 : Cond.selects RX9 yX9_play yX9_play ∈ gw := gw_of (List.mem_of_getElem? (i := 957) (by decide +kernel)) (by decide +kernel)
theorem m958 : Cond.code yX9_play cX9_play 1 (some .int) ∈ gw := gw_of (List.mem_of_getElem? (i := 958) (by decide +kernel)) (by decide +kernel)
theorem m959 : Cond.methodLink RX9 214 yX9_findBest ∈ gw := gw_of (List.mem_of_getElem? (i := 959) (by decide +kernel)) (by decide +kernel)
theorem m961 : Cond.instanceMethod yX9_findBest ∈ gw := gw_of (List.mem_of_getElem? (i := 961) (by decide +kernel)) (by decide +kernel)
theorem m962 : Cond.code yX9_findBest cX9_findBest 4 (some .boolean) ∈ gw := gw_of (List.mem_of_getElem? (i := 962) (by decide +kernel)) (by decide +kernel)
theorem m963 : Cond.methodLink RX9 189 yX9_worth ∈ gw := gw_of (List.mem_of_getElem? (i := 963) (by decide +kernel)) (by decide +kernel)
theorem m965 : Cond.instanceMethod yX9_worth ∈ gw := gw_of (List.mem_of_getElem? (i := 965) (by decide +kernel)) (by decide +kernel)
theorem m966 : Cond.code yX9_worth cX9_worth 6 (some .int) ∈ gw := gw_of (List.mem_of_getElem? (i := 966) (by decide +kernel)) (by decide +kernel)
theorem m967 : Cond.methodLink RL 44 yX9_now ∈ gw := gw_of (List.mem_of_getElem? (i := 967) (by decide +kernel)) (by decide +kernel)
theorem m968 : Cond.instanceMethod yX9_now ∈ gw := gw_of (List.mem_of_getElem? (i := 968) (by decide +kernel)) (by decide +kernel)
theorem m969 : Cond.selects RX9 yX9_now yX9_now ∈ gw := gw_of (List.mem_of_getElem? (i := 969) (by decide +kernel)) (by decide +kernel)
theorem m970 : Cond.code yX9_now cX9_now 2 (some .int) ∈ gw := gw_of (List.mem_of_getElem? (i := 970) (by decide +kernel)) (by decide +kernel)
theorem m971 : Cond.methodLink RX9 217 yX9_best ∈ gw := gw_of (List.mem_of_getElem? (i := 971) (by decide +kernel)) (by decide +kernel)
theorem m973 : Cond.instanceMethod yX9_best ∈ gw := gw_of (List.mem_of_getElem? (i := 973) (by decide +kernel)) (by decide +kernel)
theorem m974 : Cond.code yX9_best cX9_best 2 (some .int) ∈ gw := gw_of (List.mem_of_getElem? (i := 974) (by decide +kernel)) (by decide +kernel)
theorem m975 : Cond.methodLink RX9 220 yX9_standsNow ∈ gw := gw_of (List.mem_of_getElem? (i := 975) (by decide +kernel)) (by decide +kernel)
theorem m977 : Cond.instanceMethod yX9_standsNow ∈ gw := gw_of (List.mem_of_getElem? (i := 977) (by decide +kernel)) (by decide +kernel)
theorem m978 : Cond.code yX9_standsNow cX9_standsNow 1 (some .int) ∈ gw := gw_of (List.mem_of_getElem? (i := 978) (by decide +kernel)) (by decide +kernel)
theorem m979 : Cond.methodLink RL 48 yX9_distance ∈ gw := gw_of (List.mem_of_getElem? (i := 979) (by decide +kernel)) (by decide +kernel)
theorem m980 : Cond.instanceMethod yX9_distance ∈ gw := gw_of (List.mem_of_getElem? (i := 980) (by decide +kernel)) (by decide +kernel)
theorem m981 : Cond.selects RX9 yX9_distance yX9_distance ∈ gw := gw_of (List.mem_of_getElem? (i := 981) (by decide +kernel)) (by decide +kernel)
theorem m982 : Cond.code yX9_distance cX9_distance 6 (some .int) ∈ gw := gw_of (List.mem_of_getElem? (i := 982) (by decide +kernel)) (by decide +kernel)
theorem m983 : Cond.methodLink RL 52 yX9_number ∈ gw := gw_of (List.mem_of_getElem? (i := 983) (by decide +kernel)) (by decide +kernel)
theorem m984 : Cond.instanceMethod yX9_number ∈ gw := gw_of (List.mem_of_getElem? (i := 984) (by decide +kernel)) (by decide +kernel)
theorem m985 : Cond.selects RX9 yX9_number yX9_number ∈ gw := gw_of (List.mem_of_getElem? (i := 985) (by decide +kernel)) (by decide +kernel)
theorem m986 : Cond.code yX9_number cX9_number 6 (some .int) ∈ gw := gw_of (List.mem_of_getElem? (i := 986) (by decide +kernel)) (by decide +kernel)
theorem m987 : Cond.methodLink RL 56 yX9_folded ∈ gw := gw_of (List.mem_of_getElem? (i := 987) (by decide +kernel)) (by decide +kernel)
theorem m988 : Cond.instanceMethod yX9_folded ∈ gw := gw_of (List.mem_of_getElem? (i := 988) (by decide +kernel)) (by decide +kernel)
theorem m989 : Cond.selects RX9 yX9_folded yX9_folded ∈ gw := gw_of (List.mem_of_getElem? (i := 989) (by decide +kernel)) (by decide +kernel)
theorem m990 : Cond.code yX9_folded cX9_folded 6 (some .int) ∈ gw := gw_of (List.mem_of_getElem? (i := 990) (by decide +kernel)) (by decide +kernel)
theorem m991 : Cond.methodLink RL 60 yX9_of ∈ gw := gw_of (List.mem_of_getElem? (i := 991) (by decide +kernel)) (by decide +kernel)
theorem m992 : Cond.instanceMethod yX9_of ∈ gw := gw_of (List.mem_of_getElem? (i := 992) (by decide +kernel)) (by decide +kernel)
theorem m993 : Cond.selects RX9 yX9_of yX9_of ∈ gw := gw_of (List.mem_of_getElem? (i := 993) (by decide +kernel)) (by decide +kernel)
theorem m994 : Cond.code yX9_of cX9_of 3 (some .int) ∈ gw := gw_of (List.mem_of_getElem? (i := 994) (by decide +kernel)) (by decide +kernel)
theorem m995 : Cond.methodLink RL 64 yX9_line ∈ gw := gw_of (List.mem_of_getElem? (i := 995) (by decide +kernel)) (by decide +kernel)
theorem m996 : Cond.instanceMethod yX9_line ∈ gw := gw_of (List.mem_of_getElem? (i := 996) (by decide +kernel)) (by decide +kernel)
theorem m997 : Cond.selects RX9 yX9_line yX9_line ∈ gw := gw_of (List.mem_of_getElem? (i := 997) (by decide +kernel)) (by decide +kernel)
theorem m998 : Cond.code yX9_line cX9_line 8 (some .int) ∈ gw := gw_of (List.mem_of_getElem? (i := 998) (by decide +kernel)) (by decide +kernel)
theorem m999 : Cond.methodLink RL 68 yX9_all ∈ gw := gw_of (List.mem_of_getElem? (i := 999) (by decide +kernel)) (by decide +kernel)
theorem m1000 : Cond.instanceMethod yX9_all ∈ gw := gw_of (List.mem_of_getElem? (i := 1000) (by decide +kernel)) (by decide +kernel)
theorem m1001 : Cond.selects RX9 yX9_all yX9_all ∈ gw := gw_of (List.mem_of_getElem? (i := 1001) (by decide +kernel)) (by decide +kernel)
theorem m1002 : Cond.code yX9_all cX9_all 2 (some .int) ∈ gw := gw_of (List.mem_of_getElem? (i := 1002) (by decide +kernel)) (by decide +kernel)
theorem m1003 : Cond.methodLink RX9 229 yX9_positions ∈ gw := gw_of (List.mem_of_getElem? (i := 1003) (by decide +kernel)) (by decide +kernel)
theorem m1005 : Cond.instanceMethod yX9_positions ∈ gw := gw_of (List.mem_of_getElem? (i := 1005) (by decide +kernel)) (by decide +kernel)
theorem m1006 : Cond.code yX9_positions cX9_positions 4 (some .int) ∈ gw := gw_of (List.mem_of_getElem? (i := 1006) (by decide +kernel)) (by decide +kernel)
theorem m1007 : Cond.methodLink RX9 233 yX9_greatest ∈ gw := gw_of (List.mem_of_getElem? (i := 1007) (by decide +kernel)) (by decide +kernel)
theorem m1009 : Cond.instanceMethod yX9_greatest ∈ gw := gw_of (List.mem_of_getElem? (i := 1009) (by decide +kernel)) (by decide +kernel)
theorem m1010 : Cond.code yX9_greatest cX9_greatest 3 (some .int) ∈ gw := gw_of (List.mem_of_getElem? (i := 1010) (by decide +kernel)) (by decide +kernel)
theorem m1011 : Cond.methodLink RX9 236 yX9_lowestWith ∈ gw := gw_of (List.mem_of_getElem? (i := 1011) (by decide +kernel)) (by decide +kernel)
theorem m1013 : Cond.instanceMethod yX9_lowestWith ∈ gw := gw_of (List.mem_of_getElem? (i := 1013) (by decide +kernel)) (by decide +kernel)
theorem m1014 : Cond.code yX9_lowestWith cX9_lowestWith 3 (some .int) ∈ gw := gw_of (List.mem_of_getElem? (i := 1014) (by decide +kernel)) (by decide +kernel)
theorem m1015 : Cond.methodLink RX9 239 yX9_standingWith ∈ gw := gw_of (List.mem_of_getElem? (i := 1015) (by decide +kernel)) (by decide +kernel)
theorem m1017 : Cond.instanceMethod yX9_standingWith ∈ gw := gw_of (List.mem_of_getElem? (i := 1017) (by decide +kernel)) (by decide +kernel)
theorem m1018 : Cond.code yX9_standingWith cX9_standingWith 4 (some .int) ∈ gw := gw_of (List.mem_of_getElem? (i := 1018) (by decide +kernel)) (by decide +kernel)
theorem m1019 : Cond.methodLink RX9 242 yX9_exceptions ∈ gw := gw_of (List.mem_of_getElem? (i := 1019) (by decide +kernel)) (by decide +kernel)
theorem m1021 : Cond.instanceMethod yX9_exceptions ∈ gw := gw_of (List.mem_of_getElem? (i := 1021) (by decide +kernel)) (by decide +kernel)
theorem m1022 : Cond.code yX9_exceptions cX9_exceptions 3 (some .int) ∈ gw := gw_of (List.mem_of_getElem? (i := 1022) (by decide +kernel)) (by decide +kernel)
theorem m1023 : Cond.methodLink RX9 226 yX9_isException ∈ gw := gw_of (List.mem_of_getElem? (i := 1023) (by decide +kernel)) (by decide +kernel)
theorem m1025 : Cond.instanceMethod yX9_isException ∈ gw := gw_of (List.mem_of_getElem? (i := 1025) (by decide +kernel)) (by decide +kernel)
theorem m1026 : Cond.code yX9_isException cX9_isException 2 (some .boolean) ∈ gw := gw_of (List.mem_of_getElem? (i := 1026) (by decide +kernel)) (by decide +kernel)
theorem m1027 : Cond.methodLink RX9 245 yX9_runs ∈ gw := gw_of (List.mem_of_getElem? (i := 1027) (by decide +kernel)) (by decide +kernel)
theorem m1029 : Cond.instanceMethod yX9_runs ∈ gw := gw_of (List.mem_of_getElem? (i := 1029) (by decide +kernel)) (by decide +kernel)
theorem m1030 : Cond.code yX9_runs cX9_runs 6 (some .int) ∈ gw := gw_of (List.mem_of_getElem? (i := 1030) (by decide +kernel)) (by decide +kernel)
theorem m1031 : Cond.methodLink RX9 248 yX9_blocks ∈ gw := gw_of (List.mem_of_getElem? (i := 1031) (by decide +kernel)) (by decide +kernel)
theorem m1033 : Cond.instanceMethod yX9_blocks ∈ gw := gw_of (List.mem_of_getElem? (i := 1033) (by decide +kernel)) (by decide +kernel)
theorem m1034 : Cond.code yX9_blocks cX9_blocks 5 (some .int) ∈ gw := gw_of (List.mem_of_getElem? (i := 1034) (by decide +kernel)) (by decide +kernel)
theorem m1035 : Cond.methodLink RX9 251 yX9_keys ∈ gw := gw_of (List.mem_of_getElem? (i := 1035) (by decide +kernel)) (by decide +kernel)
theorem m1037 : Cond.instanceMethod yX9_keys ∈ gw := gw_of (List.mem_of_getElem? (i := 1037) (by decide +kernel)) (by decide +kernel)
theorem m1038 : Cond.code yX9_keys cX9_keys 3 (some .int) ∈ gw := gw_of (List.mem_of_getElem? (i := 1038) (by decide +kernel)) (by decide +kernel)
theorem m1039 : Cond.methodLink RL 72 yX9_withDistance ∈ gw := gw_of (List.mem_of_getElem? (i := 1039) (by decide +kernel)) (by decide +kernel)
theorem m1040 : Cond.instanceMethod yX9_withDistance ∈ gw := gw_of (List.mem_of_getElem? (i := 1040) (by decide +kernel)) (by decide +kernel)
theorem m1041 : Cond.selects RX9 yX9_withDistance yX9_withDistance ∈ gw := gw_of (List.mem_of_getElem? (i := 1041) (by decide +kernel)) (by decide +kernel)
theorem m1042 : Cond.code yX9_withDistance cX9_withDistance 2 (some .int) ∈ gw := gw_of (List.mem_of_getElem? (i := 1042) (by decide +kernel)) (by decide +kernel)
theorem m1043 : Cond.methodLink RL 76 yX9_rule ∈ gw := gw_of (List.mem_of_getElem? (i := 1043) (by decide +kernel)) (by decide +kernel)
theorem m1044 : Cond.instanceMethod yX9_rule ∈ gw := gw_of (List.mem_of_getElem? (i := 1044) (by decide +kernel)) (by decide +kernel)
theorem m1045 : Cond.selects RX9 yX9_rule yX9_rule ∈ gw := gw_of (List.mem_of_getElem? (i := 1045) (by decide +kernel)) (by decide +kernel)
theorem m1046 : Cond.code yX9_rule cX9_rule 2 (some .int) ∈ gw := gw_of (List.mem_of_getElem? (i := 1046) (by decide +kernel)) (by decide +kernel)
theorem m1047 : Cond.methodLink RL 83 yX9_put ∈ gw := gw_of (List.mem_of_getElem? (i := 1047) (by decide +kernel)) (by decide +kernel)
theorem m1048 : Cond.instanceMethod yX9_put ∈ gw := gw_of (List.mem_of_getElem? (i := 1048) (by decide +kernel)) (by decide +kernel)
theorem m1049 : Cond.selects RX9 yX9_put yX9_put ∈ gw := gw_of (List.mem_of_getElem? (i := 1049) (by decide +kernel)) (by decide +kernel)
theorem m1050 : Cond.code yX9_put cX9_put 7 (some .int) ∈ gw := gw_of (List.mem_of_getElem? (i := 1050) (by decide +kernel)) (by decide +kernel)
theorem m1051 : Cond.constantLong RX9 254 255 ∈ gw := gw_of (List.mem_of_getElem? (i := 1051) (by decide +kernel)) (by decide +kernel)
theorem m1052 : Cond.methodLink RL 87 yX9_wipe ∈ gw := gw_of (List.mem_of_getElem? (i := 1052) (by decide +kernel)) (by decide +kernel)
theorem m1053 : Cond.instanceMethod yX9_wipe ∈ gw := gw_of (List.mem_of_getElem? (i := 1053) (by decide +kernel)) (by decide +kernel)
theorem m1054 : Cond.selects RX9 yX9_wipe yX9_wipe ∈ gw := gw_of (List.mem_of_getElem? (i := 1054) (by decide +kernel)) (by decide +kernel)
theorem m1055 : Cond.code yX9_wipe cX9_wipe 2 (some .int) ∈ gw := gw_of (List.mem_of_getElem? (i := 1055) (by decide +kernel)) (by decide +kernel)
theorem m1056 : Cond.methodLink RL 91 yX9_fault ∈ gw := gw_of (List.mem_of_getElem? (i := 1056) (by decide +kernel)) (by decide +kernel)
theorem m1057 : Cond.instanceMethod yX9_fault ∈ gw := gw_of (List.mem_of_getElem? (i := 1057) (by decide +kernel)) (by decide +kernel)
theorem m1058 : Cond.selects RX9 yX9_fault yX9_fault ∈ gw := gw_of (List.mem_of_getElem? (i := 1058) (by decide +kernel)) (by decide +kernel)
theorem m1059 : Cond.code yX9_fault cX9_fault 2 (some .int) ∈ gw := gw_of (List.mem_of_getElem? (i := 1059) (by decide +kernel)) (by decide +kernel)
theorem m1060 : Cond.methodLink RX9 256 yX9_canStand ∈ gw := gw_of (List.mem_of_getElem? (i := 1060) (by decide +kernel)) (by decide +kernel)
theorem m1061 : Cond.static yX9_canStand ∈ gw := gw_of (List.mem_of_getElem? (i := 1061) (by decide +kernel)) (by decide +kernel)
theorem m1062 : Cond.code yX9_canStand cX9_canStand 2 (some .boolean) ∈ gw := gw_of (List.mem_of_getElem? (i := 1062) (by decide +kernel)) (by decide +kernel)
theorem m1063 : Cond.methodLink RL 40 yX9_readPad ∈ gw := gw_of (List.mem_of_getElem? (i := 1063) (by decide +kernel)) (by decide +kernel)
theorem m1064 : Cond.instanceMethod yX9_readPad ∈ gw := gw_of (List.mem_of_getElem? (i := 1064) (by decide +kernel)) (by decide +kernel)
theorem m1065 : Cond.selects RX9 yX9_readPad yX9_readPad ∈ gw := gw_of (List.mem_of_getElem? (i := 1065) (by decide +kernel)) (by decide +kernel)
theorem m1066 : Cond.code yX9_readPad cX9_readPad 4 (some .int) ∈ gw := gw_of (List.mem_of_getElem? (i := 1066) (by decide +kernel)) (by decide +kernel)
theorem m1067 : Cond.methodLink RX9 259 yX9_fault ∈ gw := gw_of (List.mem_of_getElem? (i := 1067) (by decide +kernel)) (by decide +kernel)
theorem m1068 : Cond.methodLink RX9 262 yX9_placesOf ∈ gw := gw_of (List.mem_of_getElem? (i := 1068) (by decide +kernel)) (by decide +kernel)
theorem m1070 : Cond.instanceMethod yX9_placesOf ∈ gw := gw_of (List.mem_of_getElem? (i := 1070) (by decide +kernel)) (by decide +kernel)
theorem m1071 : Cond.code yX9_placesOf cX9_placesOf 4 (some .int) ∈ gw := gw_of (List.mem_of_getElem? (i := 1071) (by decide +kernel)) (by decide +kernel)
theorem m1072 : Cond.methodLink RX9 265 yX9_lowest ∈ gw := gw_of (List.mem_of_getElem? (i := 1072) (by decide +kernel)) (by decide +kernel)
theorem m1073 : Cond.static yX9_lowest ∈ gw := gw_of (List.mem_of_getElem? (i := 1073) (by decide +kernel)) (by decide +kernel)
theorem m1074 : Cond.code yX9_lowest cX9_lowest 2 (some .int) ∈ gw := gw_of (List.mem_of_getElem? (i := 1074) (by decide +kernel)) (by decide +kernel)
theorem m1075 : Cond.methodLink RL 95 yX9_undo ∈ gw := gw_of (List.mem_of_getElem? (i := 1075) (by decide +kernel)) (by decide +kernel)
theorem m1076 : Cond.instanceMethod yX9_undo ∈ gw := gw_of (List.mem_of_getElem? (i := 1076) (by decide +kernel)) (by decide +kernel)
theorem m1077 : Cond.selects RX9 yX9_undo yX9_undo ∈ gw := gw_of (List.mem_of_getElem? (i := 1077) (by decide +kernel)) (by decide +kernel)
theorem m1078 : Cond.code yX9_undo cX9_undo 3 (some .int) ∈ gw := gw_of (List.mem_of_getElem? (i := 1078) (by decide +kernel)) (by decide +kernel)
theorem m1079 : Cond.methodLink RL 99 yX9_save ∈ gw := gw_of (List.mem_of_getElem? (i := 1079) (by decide +kernel)) (by decide +kernel)
theorem m1080 : Cond.instanceMethod yX9_save ∈ gw := gw_of (List.mem_of_getElem? (i := 1080) (by decide +kernel)) (by decide +kernel)
theorem m1081 : Cond.selects RX9 yX9_save yX9_save ∈ gw := gw_of (List.mem_of_getElem? (i := 1081) (by decide +kernel)) (by decide +kernel)
theorem m1082 : Cond.code yX9_save cX9_save 3 (some .int) ∈ gw := gw_of (List.mem_of_getElem? (i := 1082) (by decide +kernel)) (by decide +kernel)
theorem m1083 : Cond.methodLink RL 103 yX9_restore ∈ gw := gw_of (List.mem_of_getElem? (i := 1083) (by decide +kernel)) (by decide +kernel)
theorem m1084 : Cond.instanceMethod yX9_restore ∈ gw := gw_of (List.mem_of_getElem? (i := 1084) (by decide +kernel)) (by decide +kernel)
theorem m1085 : Cond.selects RX9 yX9_restore yX9_restore ∈ gw := gw_of (List.mem_of_getElem? (i := 1085) (by decide +kernel)) (by decide +kernel)
theorem m1086 : Cond.code yX9_restore cX9_restore 3 (some .int) ∈ gw := gw_of (List.mem_of_getElem? (i := 1086) (by decide +kernel)) (by decide +kernel)
theorem m1087 : Cond.constantLong RL 77 4294967295 ∈ gw := gw_of (List.mem_of_getElem? (i := 1087) (by decide +kernel)) (by decide +kernel)
theorem mp0 : Cond.selects RX3 yX3_fillSteps yX3_fillSteps ∈ gw := gw_sel (List.mem_of_getElem? (i := 0) (by decide +kernel)) (by decide +kernel)
theorem mp1 : Cond.selects RX3 yX3_fillPairs yX3_fillPairs ∈ gw := gw_sel (List.mem_of_getElem? (i := 1) (by decide +kernel)) (by decide +kernel)
theorem mp2 : Cond.selects RX3 yX3_fillImages yX3_fillImages ∈ gw := gw_sel (List.mem_of_getElem? (i := 2) (by decide +kernel)) (by decide +kernel)
theorem mp3 : Cond.selects RX4 yX4_dropOldest yX4_dropOldest ∈ gw := gw_sel (List.mem_of_getElem? (i := 3) (by decide +kernel)) (by decide +kernel)
theorem mp4 : Cond.selects RX8 yX8_errorOf yX8_errorOf ∈ gw := gw_sel (List.mem_of_getElem? (i := 4) (by decide +kernel)) (by decide +kernel)
theorem mp5 : Cond.selects RX8 yX8_distanceNow yX8_distanceNow ∈ gw := gw_sel (List.mem_of_getElem? (i := 5) (by decide +kernel)) (by decide +kernel)
theorem mp6 : Cond.selects RX2 yX2_foxSteps yX2_foxSteps ∈ gw := gw_sel (List.mem_of_getElem? (i := 6) (by decide +kernel)) (by decide +kernel)
theorem mp7 : Cond.selects RX0 yX0_workOut yX0_workOut ∈ gw := gw_sel (List.mem_of_getElem? (i := 7) (by decide +kernel)) (by decide +kernel)
theorem mp8 : Cond.selects RX0 yX0_foxLevel yX0_foxLevel ∈ gw := gw_sel (List.mem_of_getElem? (i := 8) (by decide +kernel)) (by decide +kernel)
theorem mp9 : Cond.selects RX0 yX0_placesForFox yX0_placesForFox ∈ gw := gw_sel (List.mem_of_getElem? (i := 9) (by decide +kernel)) (by decide +kernel)
theorem mp10 : Cond.selects RX0 yX0_keep yX0_keep ∈ gw := gw_sel (List.mem_of_getElem? (i := 10) (by decide +kernel)) (by decide +kernel)
theorem mp11 : Cond.selects RX0 yX0_huntersLevel yX0_huntersLevel ∈ gw := gw_sel (List.mem_of_getElem? (i := 11) (by decide +kernel)) (by decide +kernel)
theorem mp12 : Cond.selects RX0 yX0_reachedBy yX0_reachedBy ∈ gw := gw_sel (List.mem_of_getElem? (i := 12) (by decide +kernel)) (by decide +kernel)
theorem mp13 : Cond.selects RX0 yX0_knownWith yX0_knownWith ∈ gw := gw_sel (List.mem_of_getElem? (i := 13) (by decide +kernel)) (by decide +kernel)
theorem mp14 : Cond.selects RX8 yX8_numberNow yX8_numberNow ∈ gw := gw_sel (List.mem_of_getElem? (i := 14) (by decide +kernel)) (by decide +kernel)
theorem mp15 : Cond.selects RX2 yX2_hunterSteps yX2_hunterSteps ∈ gw := gw_sel (List.mem_of_getElem? (i := 15) (by decide +kernel)) (by decide +kernel)
theorem mp16 : Cond.selects RX8 yX8_makeMove yX8_makeMove ∈ gw := gw_sel (List.mem_of_getElem? (i := 16) (by decide +kernel)) (by decide +kernel)
theorem mp17 : Cond.selects RX2 yX2_bestOfFox yX2_bestOfFox ∈ gw := gw_sel (List.mem_of_getElem? (i := 17) (by decide +kernel)) (by decide +kernel)
theorem mp18 : Cond.selects RX2 yX2_lengthOf yX2_lengthOf ∈ gw := gw_sel (List.mem_of_getElem? (i := 18) (by decide +kernel)) (by decide +kernel)
theorem mp19 : Cond.selects RX2 yX2_bestOfHunters yX2_bestOfHunters ∈ gw := gw_sel (List.mem_of_getElem? (i := 19) (by decide +kernel)) (by decide +kernel)
theorem mp20 : Cond.selects RX2 yX2_worthOf yX2_worthOf ∈ gw := gw_sel (List.mem_of_getElem? (i := 20) (by decide +kernel)) (by decide +kernel)
theorem mp21 : Cond.selects RX8 yX8_foldedNumber yX8_foldedNumber ∈ gw := gw_sel (List.mem_of_getElem? (i := 21) (by decide +kernel)) (by decide +kernel)
theorem mp22 : Cond.selects RX1 yX1_imageOf yX1_imageOf ∈ gw := gw_sel (List.mem_of_getElem? (i := 22) (by decide +kernel)) (by decide +kernel)
theorem mp23 : Cond.selects RX1 yX1_imageOfNumber yX1_imageOfNumber ∈ gw := gw_sel (List.mem_of_getElem? (i := 23) (by decide +kernel)) (by decide +kernel)
theorem mp24 : Cond.selects RX7 yX7_goThrough yX7_goThrough ∈ gw := gw_sel (List.mem_of_getElem? (i := 24) (by decide +kernel)) (by decide +kernel)
theorem mp25 : Cond.selects RX7 yX7_collect yX7_collect ∈ gw := gw_sel (List.mem_of_getElem? (i := 25) (by decide +kernel)) (by decide +kernel)
theorem mp26 : Cond.selects RX7 yX7_makeRule yX7_makeRule ∈ gw := gw_sel (List.mem_of_getElem? (i := 26) (by decide +kernel)) (by decide +kernel)
theorem mp27 : Cond.selects RX7 yX7_commonest yX7_commonest ∈ gw := gw_sel (List.mem_of_getElem? (i := 27) (by decide +kernel)) (by decide +kernel)
theorem mp28 : Cond.selects RX7 yX7_countExceptions yX7_countExceptions ∈ gw := gw_sel (List.mem_of_getElem? (i := 28) (by decide +kernel)) (by decide +kernel)
theorem mp29 : Cond.selects RX7 yX7_countException yX7_countException ∈ gw := gw_sel (List.mem_of_getElem? (i := 29) (by decide +kernel)) (by decide +kernel)
theorem mp30 : Cond.selects RX9 yX9_keep yX9_keep ∈ gw := gw_sel (List.mem_of_getElem? (i := 30) (by decide +kernel)) (by decide +kernel)
theorem mp31 : Cond.selects RX9 yX9_isFree yX9_isFree ∈ gw := gw_sel (List.mem_of_getElem? (i := 31) (by decide +kernel)) (by decide +kernel)
theorem mp32 : Cond.selects RX9 yX9_whyNot yX9_whyNot ∈ gw := gw_sel (List.mem_of_getElem? (i := 32) (by decide +kernel)) (by decide +kernel)
theorem mp33 : Cond.selects RX9 yX9_lay yX9_lay ∈ gw := gw_sel (List.mem_of_getElem? (i := 33) (by decide +kernel)) (by decide +kernel)
theorem mp34 : Cond.selects RX9 yX9_distanceNow yX9_distanceNow ∈ gw := gw_sel (List.mem_of_getElem? (i := 34) (by decide +kernel)) (by decide +kernel)
theorem mp35 : Cond.selects RX9 yX9_isCaught yX9_isCaught ∈ gw := gw_sel (List.mem_of_getElem? (i := 35) (by decide +kernel)) (by decide +kernel)
theorem mp36 : Cond.selects RX9 yX9_work yX9_work ∈ gw := gw_sel (List.mem_of_getElem? (i := 36) (by decide +kernel)) (by decide +kernel)
theorem mp37 : Cond.selects RX9 yX9_isAsWorked yX9_isAsWorked ∈ gw := gw_sel (List.mem_of_getElem? (i := 37) (by decide +kernel)) (by decide +kernel)
theorem mp38 : Cond.selects RX9 yX9_workOutAll yX9_workOutAll ∈ gw := gw_sel (List.mem_of_getElem? (i := 38) (by decide +kernel)) (by decide +kernel)
theorem mp39 : Cond.selects RX9 yX9_workOut yX9_workOut ∈ gw := gw_sel (List.mem_of_getElem? (i := 39) (by decide +kernel)) (by decide +kernel)
theorem mp40 : Cond.selects RX9 yX9_isPosition yX9_isPosition ∈ gw := gw_sel (List.mem_of_getElem? (i := 40) (by decide +kernel)) (by decide +kernel)
theorem mp41 : Cond.selects RX9 yX9_ofHunters yX9_ofHunters ∈ gw := gw_sel (List.mem_of_getElem? (i := 41) (by decide +kernel)) (by decide +kernel)
theorem mp42 : Cond.selects RX9 yX9_canCatch yX9_canCatch ∈ gw := gw_sel (List.mem_of_getElem? (i := 42) (by decide +kernel)) (by decide +kernel)
theorem mp43 : Cond.selects RX9 yX9_ofHunter yX9_ofHunter ∈ gw := gw_sel (List.mem_of_getElem? (i := 43) (by decide +kernel)) (by decide +kernel)
theorem mp44 : Cond.selects RX9 yX9_ofFox yX9_ofFox ∈ gw := gw_sel (List.mem_of_getElem? (i := 44) (by decide +kernel)) (by decide +kernel)
theorem mp45 : Cond.selects RX9 yX9_findSymmetries yX9_findSymmetries ∈ gw := gw_sel (List.mem_of_getElem? (i := 45) (by decide +kernel)) (by decide +kernel)
theorem mp46 : Cond.selects RX9 yX9_fold yX9_fold ∈ gw := gw_sel (List.mem_of_getElem? (i := 46) (by decide +kernel)) (by decide +kernel)
theorem mp47 : Cond.selects RX9 yX9_foldOne yX9_foldOne ∈ gw := gw_sel (List.mem_of_getElem? (i := 47) (by decide +kernel)) (by decide +kernel)
theorem mp48 : Cond.selects RX9 yX9_madeBy yX9_madeBy ∈ gw := gw_sel (List.mem_of_getElem? (i := 48) (by decide +kernel)) (by decide +kernel)
theorem mp49 : Cond.selects RX9 yX9_ruleOf yX9_ruleOf ∈ gw := gw_sel (List.mem_of_getElem? (i := 49) (by decide +kernel)) (by decide +kernel)
theorem mp50 : Cond.selects RX9 yX9_key yX9_key ∈ gw := gw_sel (List.mem_of_getElem? (i := 50) (by decide +kernel)) (by decide +kernel)
theorem mp51 : Cond.selects RX9 yX9_isHit yX9_isHit ∈ gw := gw_sel (List.mem_of_getElem? (i := 51) (by decide +kernel)) (by decide +kernel)
theorem mp52 : Cond.selects RX9 yX9_numberNow yX9_numberNow ∈ gw := gw_sel (List.mem_of_getElem? (i := 52) (by decide +kernel)) (by decide +kernel)
theorem mp53 : Cond.selects RX9 yX9_isMove yX9_isMove ∈ gw := gw_sel (List.mem_of_getElem? (i := 53) (by decide +kernel)) (by decide +kernel)
theorem mp54 : Cond.selects RX9 yX9_isHunterMove yX9_isHunterMove ∈ gw := gw_sel (List.mem_of_getElem? (i := 54) (by decide +kernel)) (by decide +kernel)
theorem mp55 : Cond.selects RX9 yX9_isFoxMove yX9_isFoxMove ∈ gw := gw_sel (List.mem_of_getElem? (i := 55) (by decide +kernel)) (by decide +kernel)
theorem mp56 : Cond.selects RX9 yX9_make yX9_make ∈ gw := gw_sel (List.mem_of_getElem? (i := 56) (by decide +kernel)) (by decide +kernel)
theorem mp57 : Cond.selects RX9 yX9_findBest yX9_findBest ∈ gw := gw_sel (List.mem_of_getElem? (i := 57) (by decide +kernel)) (by decide +kernel)
theorem mp58 : Cond.selects RX9 yX9_worth yX9_worth ∈ gw := gw_sel (List.mem_of_getElem? (i := 58) (by decide +kernel)) (by decide +kernel)
theorem mp59 : Cond.selects RX9 yX9_best yX9_best ∈ gw := gw_sel (List.mem_of_getElem? (i := 59) (by decide +kernel)) (by decide +kernel)
theorem mp60 : Cond.selects RX9 yX9_standsNow yX9_standsNow ∈ gw := gw_sel (List.mem_of_getElem? (i := 60) (by decide +kernel)) (by decide +kernel)
theorem mp61 : Cond.selects RX9 yX9_positions yX9_positions ∈ gw := gw_sel (List.mem_of_getElem? (i := 61) (by decide +kernel)) (by decide +kernel)
theorem mp62 : Cond.selects RX9 yX9_greatest yX9_greatest ∈ gw := gw_sel (List.mem_of_getElem? (i := 62) (by decide +kernel)) (by decide +kernel)
theorem mp63 : Cond.selects RX9 yX9_lowestWith yX9_lowestWith ∈ gw := gw_sel (List.mem_of_getElem? (i := 63) (by decide +kernel)) (by decide +kernel)
theorem mp64 : Cond.selects RX9 yX9_standingWith yX9_standingWith ∈ gw := gw_sel (List.mem_of_getElem? (i := 64) (by decide +kernel)) (by decide +kernel)
theorem mp65 : Cond.selects RX9 yX9_exceptions yX9_exceptions ∈ gw := gw_sel (List.mem_of_getElem? (i := 65) (by decide +kernel)) (by decide +kernel)
theorem mp66 : Cond.selects RX9 yX9_isException yX9_isException ∈ gw := gw_sel (List.mem_of_getElem? (i := 66) (by decide +kernel)) (by decide +kernel)
theorem mp67 : Cond.selects RX9 yX9_runs yX9_runs ∈ gw := gw_sel (List.mem_of_getElem? (i := 67) (by decide +kernel)) (by decide +kernel)
theorem mp68 : Cond.selects RX9 yX9_blocks yX9_blocks ∈ gw := gw_sel (List.mem_of_getElem? (i := 68) (by decide +kernel)) (by decide +kernel)
theorem mp69 : Cond.selects RX9 yX9_keys yX9_keys ∈ gw := gw_sel (List.mem_of_getElem? (i := 69) (by decide +kernel)) (by decide +kernel)
theorem mp70 : Cond.selects RX9 yX9_placesOf yX9_placesOf ∈ gw := gw_sel (List.mem_of_getElem? (i := 70) (by decide +kernel)) (by decide +kernel)
theorem kX0 : xKl RX0 TX0 9 0 tyX0 := ⟨by decide +kernel, rfl, tyX0_ok, nmX0⟩
theorem kX1 : xKl RX1 TX1 4 1 tyX1 := ⟨by decide +kernel, rfl, tyX1_ok, nmX1⟩
theorem kX2 : xKl RX2 TX2 2 2 tyX2 := ⟨by decide +kernel, rfl, tyX2_ok, nmX2⟩
theorem kX3 : xKl RX3 TX3 7 3 tyX3 := ⟨by decide +kernel, rfl, tyX3_ok, nmX3⟩
theorem kX4 : xKl RX4 TX4 2 4 tyX4 := ⟨by decide +kernel, rfl, tyX4_ok, nmX4⟩
theorem kX5 : xKl RX5 TX5 2 5 tyX5 := ⟨by decide +kernel, rfl, tyX5_ok, nmX5⟩
theorem kX6 : xKl RX6 TX6 6 6 tyX6 := ⟨by decide +kernel, rfl, tyX6_ok, nmX6⟩
theorem kX7 : xKl RX7 TX7 8 7 tyX7 := ⟨by decide +kernel, rfl, tyX7_ok, nmX7⟩
theorem kX8 : xKl RX8 TX8 11 8 tyX8 := ⟨by decide +kernel, rfl, tyX8_ok, nmX8⟩
theorem kX9 : xKl RX9 TX9 21 9 tyX9 := ⟨by decide +kernel, rfl, tyX9_ok, nmX9⟩
theorem g_L_9 : xCI RL 9 yX8_init cX8_init 2 0 := ⟨m16, m17, m1, m18, rfl, by decide +kernel, by decide +kernel, by decide +kernel⟩
theorem g_X8_9 : xCI RX8 9 yX3_init cX3_init 1 0 := ⟨m24, m25, m2, m26, rfl, by decide +kernel, by decide +kernel, by decide +kernel⟩
theorem g_X3_31 : xCV RX3 31 yX3_fillSteps cX3_fillSteps 4 none 0 := ⟨m28, m30, mp0, m2, m31, by decide +kernel, by decide +kernel, by decide +kernel⟩
theorem g_X3_40 : xCS RX3 40 yX3_far cX3_far 2 (some .int) 2 := ⟨m32, m33, m2, m34, by decide +kernel, by decide +kernel, by decide +kernel⟩
theorem g_X3_44 : xCS RX3 44 yJ9_abs_0f7a4 cJ9_abs_0f7a4 1 (some .int) 1 := ⟨m35, m36, m3, m37, by decide +kernel, by decide +kernel, by decide +kernel⟩
theorem g_X3_34 : xCV RX3 34 yX3_fillPairs cX3_fillPairs 4 none 0 := ⟨m38, m40, mp1, m2, m41, by decide +kernel, by decide +kernel, by decide +kernel⟩
theorem g_X3_37 : xCV RX3 37 yX3_fillImages cX3_fillImages 5 none 0 := ⟨m42, m44, mp2, m2, m45, by decide +kernel, by decide +kernel, by decide +kernel⟩
theorem f_X3_9 : xFl RX3 9 TX3 7 0 := ⟨m46, by decide⟩
theorem f_X3_13 : xFl RX3 13 TX3 7 1 := ⟨m47, by decide⟩
theorem f_X3_16 : xFl RX3 16 TX3 7 2 := ⟨m48, by decide⟩
theorem f_X3_19 : xFl RX3 19 TX3 7 3 := ⟨m49, by decide⟩
theorem f_X3_22 : xFl RX3 22 TX3 7 4 := ⟨m50, by decide⟩
theorem f_X3_25 : xFl RX3 25 TX3 7 5 := ⟨m51, by decide⟩
theorem f_X3_28 : xFl RX3 28 TX3 7 6 := ⟨m52, by decide⟩
theorem g_X8_18 : xCI RX8 18 yX0_init cX0_init 2 1 := ⟨m71, m72, m4, m73, rfl, by decide +kernel, by decide +kernel, by decide +kernel⟩
theorem f_X0_9 : xFl RX0 9 TX0 9 0 := ⟨m75, by decide⟩
theorem f_X0_17 : xFl RX0 17 TX0 9 1 := ⟨m76, by decide⟩
theorem f_X0_21 : xFl RX0 21 TX0 9 2 := ⟨m77, by decide⟩
theorem f_X0_24 : xFl RX0 24 TX0 9 3 := ⟨m78, by decide⟩
theorem f_X0_27 : xFl RX0 27 TX0 9 4 := ⟨m79, by decide⟩
theorem f_X0_44 : xFl RX0 44 TX0 9 5 := ⟨m80, by decide⟩
theorem f_X0_51 : xFl RX0 51 TX0 9 6 := ⟨m81, by decide⟩
theorem f_X0_55 : xFl RX0 55 TX0 9 7 := ⟨m82, by decide⟩
theorem f_X0_58 : xFl RX0 58 TX0 9 8 := ⟨m83, by decide⟩
theorem g_X8_27 : xCI RX8 27 yX1_init cX1_init 2 1 := ⟨m105, m106, m5, m107, rfl, by decide +kernel, by decide +kernel, by decide +kernel⟩
theorem f_X1_7 : xFl RX1 7 TX1 4 0 := ⟨m109, by decide⟩
theorem f_X1_15 : xFl RX1 15 TX1 4 1 := ⟨m110, by decide⟩
theorem f_X1_23 : xFl RX1 23 TX1 4 2 := ⟨m111, by decide⟩
theorem f_X1_19 : xFl RX1 19 TX1 4 3 := ⟨m112, by decide⟩
theorem g_X8_34 : xCI RX8 34 yX7_init cX7_init 4 3 := ⟨m124, m125, m6, m126, rfl, by decide +kernel, by decide +kernel, by decide +kernel⟩
theorem f_X7_11 : xFl RX7 11 TX7 8 0 := ⟨m128, by decide⟩
theorem f_X7_15 : xFl RX7 15 TX7 8 1 := ⟨m129, by decide⟩
theorem f_X7_19 : xFl RX7 19 TX7 8 2 := ⟨m130, by decide⟩
theorem f_X7_23 : xFl RX7 23 TX7 8 3 := ⟨m131, by decide⟩
theorem f_X7_29 : xFl RX7 29 TX7 8 4 := ⟨m132, by decide⟩
theorem f_X7_32 : xFl RX7 32 TX7 8 5 := ⟨m133, by decide⟩
theorem f_X7_35 : xFl RX7 35 TX7 8 6 := ⟨m134, by decide⟩
theorem f_X7_38 : xFl RX7 38 TX7 8 7 := ⟨m135, by decide⟩
theorem g_X8_43 : xCI RX8 43 yX2_init cX2_init 3 2 := ⟨m155, m156, m7, m157, rfl, by decide +kernel, by decide +kernel, by decide +kernel⟩
theorem f_X2_9 : xFl RX2 9 TX2 2 0 := ⟨m159, by decide⟩
theorem f_X2_15 : xFl RX2 15 TX2 2 1 := ⟨m160, by decide⟩
theorem g_nest_X6_init : xCN yX6_init cX6_init 1 0 := ⟨m169, m8, m170, rfl, by decide +kernel, by decide +kernel, by decide +kernel⟩
theorem f_X0_31 : xFl RX0 31 TX6 6 0 := ⟨m172, by decide⟩
theorem f_X6_7 : xFl RX6 7 TX6 6 0 := ⟨m173, by decide⟩
theorem f_X0_36 : xFl RX0 36 TX6 6 1 := ⟨m174, by decide⟩
theorem f_X6_13 : xFl RX6 13 TX6 6 1 := ⟨m175, by decide⟩
theorem f_X8_102 : xFl RX8 102 TX6 6 1 := ⟨m176, by decide⟩
theorem f_X2_46 : xFl RX2 46 TX6 6 1 := ⟨m177, by decide⟩
theorem f_X7_56 : xFl RX7 56 TX6 6 1 := ⟨m178, by decide⟩
theorem f_X6_16 : xFl RX6 16 TX6 6 2 := ⟨m179, by decide⟩
theorem f_X2_27 : xFl RX2 27 TX6 6 2 := ⟨m180, by decide⟩
theorem f_X8_160 : xFl RX8 160 TX6 6 2 := ⟨m181, by decide⟩
theorem f_X6_19 : xFl RX6 19 TX6 6 3 := ⟨m182, by decide⟩
theorem f_X2_35 : xFl RX2 35 TX6 6 3 := ⟨m183, by decide⟩
theorem f_X8_163 : xFl RX8 163 TX6 6 3 := ⟨m184, by decide⟩
theorem f_X6_22 : xFl RX6 22 TX6 6 4 := ⟨m185, by decide⟩
theorem f_X2_57 : xFl RX2 57 TX6 6 4 := ⟨m186, by decide⟩
theorem f_X8_166 : xFl RX8 166 TX6 6 4 := ⟨m187, by decide⟩
theorem f_X6_25 : xFl RX6 25 TX6 6 5 := ⟨m188, by decide⟩
theorem f_X2_60 : xFl RX2 60 TX6 6 5 := ⟨m189, by decide⟩
theorem f_X8_169 : xFl RX8 169 TX6 6 5 := ⟨m190, by decide⟩
theorem g_X8_62 : xCI RX8 62 yX4_init cX4_init 2 0 := ⟨m206, m207, m9, m208, rfl, by decide +kernel, by decide +kernel, by decide +kernel⟩
theorem f_X4_11 : xFl RX4 11 TX4 2 0 := ⟨m213, by decide⟩
theorem f_X4_16 : xFl RX4 16 TX4 2 1 := ⟨m214, by decide⟩
theorem g_X8_69 : xCI RX8 69 yX5_init cX5_init 1 0 := ⟨m222, m223, m10, m224, rfl, by decide +kernel, by decide +kernel, by decide +kernel⟩
theorem f_X5_11 : xFl RX5 11 TX5 2 0 := ⟨m226, by decide⟩
theorem f_X5_15 : xFl RX5 15 TX5 2 1 := ⟨m227, by decide⟩
theorem g_X8_82 : xCV RX8 82 yX6_place cX6_place 5 none 4 := ⟨m234, m235, m236, m8, m237, by decide +kernel, by decide +kernel, by decide +kernel⟩
theorem g_X6_28 : xCS RX6 28 yJ9_min_7cf53 cJ9_min_7cf53 2 (some .int) 2 := ⟨m238, m239, m3, m240, by decide +kernel, by decide +kernel, by decide +kernel⟩
theorem g_X6_34 : xCS RX6 34 yJ9_max_7cf53 cJ9_max_7cf53 2 (some .int) 2 := ⟨m241, m242, m3, m243, by decide +kernel, by decide +kernel, by decide +kernel⟩
theorem f_X8_10 : xFl RX8 10 TX8 11 0 := ⟨m244, by decide⟩
theorem f_X8_21 : xFl RX8 21 TX8 11 1 := ⟨m245, by decide⟩
theorem f_X8_28 : xFl RX8 28 TX8 11 2 := ⟨m246, by decide⟩
theorem f_X8_37 : xFl RX8 37 TX8 11 3 := ⟨m247, by decide⟩
theorem f_X8_46 : xFl RX8 46 TX8 11 4 := ⟨m248, by decide⟩
theorem f_X8_53 : xFl RX8 53 TX8 11 5 := ⟨m249, by decide⟩
theorem f_X8_57 : xFl RX8 57 TX8 11 6 := ⟨m250, by decide⟩
theorem f_X8_63 : xFl RX8 63 TX8 11 7 := ⟨m251, by decide⟩
theorem f_X8_70 : xFl RX8 70 TX8 11 8 := ⟨m252, by decide⟩
theorem f_X8_74 : xFl RX8 74 TX8 11 9 := ⟨m253, by decide⟩
theorem f_X8_78 : xFl RX8 78 TX8 11 10 := ⟨m254, by decide⟩
theorem g_L_13 : xCV RL 13 yX8_set cX8_set 4 (some .int) 2 := ⟨m279, m280, m281, m1, m282, by decide +kernel, by decide +kernel, by decide +kernel⟩
theorem g_X8_86 : xCV RX8 86 yX4_record cX4_record 2 none 1 := ⟨m283, m284, m285, m9, m286, by decide +kernel, by decide +kernel, by decide +kernel⟩
theorem g_X4_20 : xCV RX4 20 yX4_dropOldest cX4_dropOldest 3 none 0 := ⟨m287, m289, mp3, m9, m290, by decide +kernel, by decide +kernel, by decide +kernel⟩
theorem g_X4_23 : xCV RX4 23 yX6_take cX6_take 2 none 1 := ⟨m291, m292, m293, m8, m294, by decide +kernel, by decide +kernel, by decide +kernel⟩
theorem g_X8_90 : xCV RX8 90 yX6_setting cX6_setting 2 (some .int) 1 := ⟨m295, m296, m297, m8, m298, by decide +kernel, by decide +kernel, by decide +kernel⟩
theorem g_X8_94 : xCV RX8 94 yX6_change cX6_change 3 none 2 := ⟨m299, m300, m301, m8, m302, by decide +kernel, by decide +kernel, by decide +kernel⟩
theorem g_L_18 : xCV RL 18 yX8_block cX8_block 4 (some .int) 1 := ⟨m303, m304, m305, m1, m306, by decide +kernel, by decide +kernel, by decide +kernel⟩
theorem g_X8_98 : xCS RX8 98 yX3_isPlace cX3_isPlace 1 (some .boolean) 1 := ⟨m307, m308, m2, m309, by decide +kernel, by decide +kernel, by decide +kernel⟩
theorem g_X8_106 : xCS RX8 106 yJ6_bitCount_0f7a4 cJ6_bitCount_0f7a4 1 (some .int) 1 := ⟨m310, m311, m12, m312, by decide +kernel, by decide +kernel, by decide +kernel⟩
theorem g_X8_111 : xCV RX8 111 yX6_taken cX6_taken 1 (some .int) 0 := ⟨m316, m317, m318, m8, m319, by decide +kernel, by decide +kernel, by decide +kernel⟩
theorem g_X6_37 : xCV RX6 37 yX6_hunters cX6_hunters 1 (some .int) 0 := ⟨m320, m321, m322, m8, m323, by decide +kernel, by decide +kernel, by decide +kernel⟩
theorem g_L_23 : xCV RL 23 yX8_setUp cX8_setUp 6 (some .int) 4 := ⟨m324, m325, m326, m1, m327, by decide +kernel, by decide +kernel, by decide +kernel⟩
theorem g_X8_115 : xCV RX8 115 yX8_errorOf cX8_errorOf 8 (some .int) 4 := ⟨m328, m330, mp4, m1, m331, by decide +kernel, by decide +kernel, by decide +kernel⟩
theorem g_X8_119 : xCV RX8 119 yX8_distanceNow cX8_distanceNow 1 (some .int) 0 := ⟨m332, m334, mp5, m1, m335, by decide +kernel, by decide +kernel, by decide +kernel⟩
theorem g_X8_172 : xCV RX8 172 yX2_caught cX2_caught 2 (some .boolean) 1 := ⟨m336, m337, m338, m7, m339, by decide +kernel, by decide +kernel, by decide +kernel⟩
theorem g_X2_21 : xCV RX2 21 yX6_hunterOnFox cX6_hunterOnFox 1 (some .boolean) 0 := ⟨m340, m341, m342, m8, m343, by decide +kernel, by decide +kernel, by decide +kernel⟩
theorem g_X2_31 : xCV RX2 31 yX2_foxSteps cX2_foxSteps 2 (some .int) 1 := ⟨m344, m346, mp6, m7, m347, by decide +kernel, by decide +kernel, by decide +kernel⟩
theorem g_X2_38 : xCV RX2 38 yX6_setting cX6_setting 2 (some .int) 1 := ⟨m348, m296, m297, m8, m298, by decide +kernel, by decide +kernel, by decide +kernel⟩
theorem g_X2_42 : xCV RX2 42 yX3_stepsFrom cX3_stepsFrom 4 (some .int) 2 := ⟨m349, m350, m351, m2, m352, by decide +kernel, by decide +kernel, by decide +kernel⟩
theorem g_X2_49 : xCV RX2 49 yX6_hunters cX6_hunters 1 (some .int) 0 := ⟨m353, m321, m322, m8, m323, by decide +kernel, by decide +kernel, by decide +kernel⟩
theorem g_X8_189 : xCV RX8 189 yX0_prepare cX0_prepare 2 none 1 := ⟨m354, m355, m356, m4, m357, by decide +kernel, by decide +kernel, by decide +kernel⟩
theorem g_X0_39 : xCS RX0 39 yX0_signOf cX0_signOf 1 (some .int) 1 := ⟨m358, m359, m4, m360, by decide +kernel, by decide +kernel, by decide +kernel⟩
theorem g_X0_47 : xCV RX0 47 yX6_setting cX6_setting 2 (some .int) 1 := ⟨m362, m296, m297, m8, m298, by decide +kernel, by decide +kernel, by decide +kernel⟩
theorem g_X0_61 : xCV RX0 61 yX0_workOut cX0_workOut 5 none 0 := ⟨m363, m365, mp7, m4, m366, by decide +kernel, by decide +kernel, by decide +kernel⟩
theorem g_X0_64 : xCS RX0 64 yJ7_fill_53178 cJ7_fill_53178 4 none 2 := ⟨m367, m368, m13, m369, by decide +kernel, by decide +kernel, by decide +kernel⟩
theorem g_X0_70 : xCV RX0 70 yX0_foxLevel cX0_foxLevel 7 (some .int) 2 := ⟨m370, m372, mp8, m4, m373, by decide +kernel, by decide +kernel, by decide +kernel⟩
theorem g_X0_80 : xCV RX0 80 yX0_placesForFox cX0_placesForFox 3 (some .int) 1 := ⟨m374, m376, mp9, m4, m377, by decide +kernel, by decide +kernel, by decide +kernel⟩
theorem g_X0_77 : xCV RX0 77 yX3_placesOf cX3_placesOf 2 (some .int) 1 := ⟨m378, m379, m380, m2, m381, by decide +kernel, by decide +kernel, by decide +kernel⟩
theorem g_X0_83 : xCV RX0 83 yX3_stepsFrom cX3_stepsFrom 4 (some .int) 2 := ⟨m382, m350, m351, m2, m352, by decide +kernel, by decide +kernel, by decide +kernel⟩
theorem g_X0_87 : xCV RX0 87 yX0_keep cX0_keep 6 none 4 := ⟨m383, m385, mp10, m4, m386, by decide +kernel, by decide +kernel, by decide +kernel⟩
theorem g_X0_74 : xCV RX0 74 yX0_huntersLevel cX0_huntersLevel 8 (some .int) 2 := ⟨m387, m389, mp11, m4, m390, by decide +kernel, by decide +kernel, by decide +kernel⟩
theorem g_X0_91 : xCV RX0 91 yX3_lowerOf cX3_lowerOf 2 (some .int) 1 := ⟨m391, m392, m393, m2, m394, by decide +kernel, by decide +kernel, by decide +kernel⟩
theorem g_X0_94 : xCV RX0 94 yX3_higherOf cX3_higherOf 2 (some .int) 1 := ⟨m395, m396, m397, m2, m398, by decide +kernel, by decide +kernel, by decide +kernel⟩
theorem g_X0_97 : xCV RX0 97 yX0_reachedBy cX0_reachedBy 6 (some .int) 2 := ⟨m399, m401, mp12, m4, m402, by decide +kernel, by decide +kernel, by decide +kernel⟩
theorem g_X0_100 : xCV RX0 100 yX3_pairOf cX3_pairOf 3 (some .int) 2 := ⟨m403, m404, m405, m2, m406, by decide +kernel, by decide +kernel, by decide +kernel⟩
theorem g_X0_103 : xCV RX0 103 yX0_knownWith cX0_knownWith 2 (some .int) 1 := ⟨m407, m409, mp13, m4, m410, by decide +kernel, by decide +kernel, by decide +kernel⟩
theorem g_X8_179 : xCV RX8 179 yX8_numberNow cX8_numberNow 2 (some .int) 1 := ⟨m411, m413, mp14, m1, m414, by decide +kernel, by decide +kernel, by decide +kernel⟩
theorem g_X8_192 : xCV RX8 192 yX3_numberOf cX3_numberOf 5 (some .int) 4 := ⟨m415, m416, m417, m2, m418, by decide +kernel, by decide +kernel, by decide +kernel⟩
theorem g_X3_50 : xCV RX3 50 yX3_pairOf cX3_pairOf 3 (some .int) 2 := ⟨m419, m404, m405, m2, m406, by decide +kernel, by decide +kernel, by decide +kernel⟩
theorem g_X8_195 : xCV RX8 195 yX0_at cX0_at 2 (some .int) 1 := ⟨m420, m421, m422, m4, m423, by decide +kernel, by decide +kernel, by decide +kernel⟩
theorem g_L_28 : xCV RL 28 yX8_move cX8_move 3 (some .int) 2 := ⟨m424, m425, m426, m1, m427, by decide +kernel, by decide +kernel, by decide +kernel⟩
theorem g_X8_122 : xCV RX8 122 yX2_allows cX2_allows 4 (some .boolean) 3 := ⟨m428, m429, m430, m7, m431, by decide +kernel, by decide +kernel, by decide +kernel⟩
theorem g_X2_53 : xCV RX2 53 yX2_caught cX2_caught 2 (some .boolean) 1 := ⟨m432, m337, m338, m7, m339, by decide +kernel, by decide +kernel, by decide +kernel⟩
theorem g_X2_63 : xCV RX2 63 yX2_hunterSteps cX2_hunterSteps 3 (some .int) 2 := ⟨m433, m435, mp15, m7, m436, by decide +kernel, by decide +kernel, by decide +kernel⟩
theorem g_X8_126 : xCV RX8 126 yX8_makeMove cX8_makeMove 3 (some .int) 2 := ⟨m437, m439, mp16, m1, m440, by decide +kernel, by decide +kernel, by decide +kernel⟩
theorem g_X8_233 : xCV RX8 233 yX2_make cX2_make 5 none 3 := ⟨m441, m442, m443, m7, m444, by decide +kernel, by decide +kernel, by decide +kernel⟩
theorem g_X2_67 : xCV RX2 67 yX6_place cX6_place 5 none 4 := ⟨m445, m235, m236, m8, m237, by decide +kernel, by decide +kernel, by decide +kernel⟩
theorem g_L_32 : xCV RL 32 yX8_play cX8_play 2 (some .int) 0 := ⟨m446, m447, m448, m1, m449, by decide +kernel, by decide +kernel, by decide +kernel⟩
theorem g_X8_130 : xCV RX8 130 yX2_bestMove cX2_bestMove 2 (some .int) 1 := ⟨m450, m451, m452, m7, m453, by decide +kernel, by decide +kernel, by decide +kernel⟩
theorem g_X2_71 : xCV RX2 71 yX0_prepare cX0_prepare 2 none 1 := ⟨m454, m355, m356, m4, m357, by decide +kernel, by decide +kernel, by decide +kernel⟩
theorem g_X2_77 : xCV RX2 77 yX2_bestOfFox cX2_bestOfFox 7 (some .int) 1 := ⟨m455, m457, mp17, m7, m458, by decide +kernel, by decide +kernel, by decide +kernel⟩
theorem g_X2_83 : xCV RX2 83 yX2_lengthOf cX2_lengthOf 6 (some .int) 4 := ⟨m459, m461, mp18, m7, m462, by decide +kernel, by decide +kernel, by decide +kernel⟩
theorem g_X2_92 : xCV RX2 92 yX3_numberOf cX3_numberOf 5 (some .int) 4 := ⟨m463, m416, m417, m2, m418, by decide +kernel, by decide +kernel, by decide +kernel⟩
theorem g_X2_95 : xCV RX2 95 yX0_at cX0_at 2 (some .int) 1 := ⟨m464, m421, m422, m4, m423, by decide +kernel, by decide +kernel, by decide +kernel⟩
theorem g_X2_80 : xCV RX2 80 yX2_bestOfHunters cX2_bestOfHunters 8 (some .int) 1 := ⟨m466, m468, mp19, m7, m469, by decide +kernel, by decide +kernel, by decide +kernel⟩
theorem g_X2_88 : xCV RX2 88 yX2_worthOf cX2_worthOf 5 (some .int) 3 := ⟨m471, m473, mp20, m7, m474, by decide +kernel, by decide +kernel, by decide +kernel⟩
theorem g_X8_134 : xCS RX8 134 yX2_fromOf cX2_fromOf 1 (some .int) 1 := ⟨m475, m476, m7, m477, by decide +kernel, by decide +kernel, by decide +kernel⟩
theorem g_X8_137 : xCS RX8 137 yX2_toOf cX2_toOf 1 (some .int) 1 := ⟨m478, m479, m7, m480, by decide +kernel, by decide +kernel, by decide +kernel⟩
theorem g_L_37 : xCV RL 37 yX8_readPad cX8_readPad 4 (some .int) 0 := ⟨m481, m482, m483, m1, m484, by decide +kernel, by decide +kernel, by decide +kernel⟩
theorem g_X8_140 : xCV RX8 140 yX5_firstFault cX5_firstFault 2 (some .int) 0 := ⟨m485, m486, m487, m10, m488, by decide +kernel, by decide +kernel, by decide +kernel⟩
theorem g_X5_21 : xCS RX5 21 yX5_canStand cX5_canStand 2 (some .boolean) 2 := ⟨m489, m490, m10, m491, by decide +kernel, by decide +kernel, by decide +kernel⟩
theorem g_X8_143 : xCV RX8 143 yX5_placesOf cX5_placesOf 4 (some .int) 1 := ⟨m492, m493, m494, m10, m495, by decide +kernel, by decide +kernel, by decide +kernel⟩
theorem g_X8_147 : xCV RX8 147 yX5_foxMoves cX5_foxMoves 1 (some .boolean) 0 := ⟨m496, m497, m498, m10, m499, by decide +kernel, by decide +kernel, by decide +kernel⟩
theorem g_X8_151 : xCS RX8 151 yX3_lowest cX3_lowest 2 (some .int) 1 := ⟨m500, m501, m2, m502, by decide +kernel, by decide +kernel, by decide +kernel⟩
theorem g_X8_154 : xCS RX8 154 yX3_highest cX3_highest 2 (some .int) 1 := ⟨m503, m504, m2, m505, by decide +kernel, by decide +kernel, by decide +kernel⟩
theorem g_X8_157 : xCV RX8 157 yX5_empty cX5_empty 1 none 0 := ⟨m506, m507, m508, m10, m509, by decide +kernel, by decide +kernel, by decide +kernel⟩
theorem g_L_41 : xCV RL 41 yX8_now cX8_now 2 (some .int) 1 := ⟨m510, m511, m512, m1, m513, by decide +kernel, by decide +kernel, by decide +kernel⟩
theorem g_X8_176 : xCV RX8 176 yX6_hunterOnFox cX6_hunterOnFox 1 (some .boolean) 0 := ⟨m514, m341, m342, m8, m343, by decide +kernel, by decide +kernel, by decide +kernel⟩
theorem g_X8_182 : xCV RX8 182 yX8_foldedNumber cX8_foldedNumber 2 (some .int) 1 := ⟨m515, m517, mp21, m1, m518, by decide +kernel, by decide +kernel, by decide +kernel⟩
theorem g_X8_224 : xCV RX8 224 yX1_prepare cX1_prepare 3 none 1 := ⟨m519, m520, m521, m5, m522, by decide +kernel, by decide +kernel, by decide +kernel⟩
theorem g_X1_26 : xCV RX1 26 yX1_imageOf cX1_imageOf 5 (some .int) 2 := ⟨m523, m525, mp22, m5, m526, by decide +kernel, by decide +kernel, by decide +kernel⟩
theorem g_X1_30 : xCV RX1 30 yX3_image cX3_image 3 (some .int) 2 := ⟨m527, m528, m529, m2, m530, by decide +kernel, by decide +kernel, by decide +kernel⟩
theorem g_X8_254 : xCV RX8 254 yX1_lowestAlike cX1_lowestAlike 4 (some .int) 1 := ⟨m531, m532, m533, m5, m534, by decide +kernel, by decide +kernel, by decide +kernel⟩
theorem g_X1_53 : xCV RX1 53 yX1_imageOfNumber cX1_imageOfNumber 7 (some .int) 2 := ⟨m535, m537, mp23, m5, m538, by decide +kernel, by decide +kernel, by decide +kernel⟩
theorem g_X1_33 : xCS RX1 33 yX3_pairIn cX3_pairIn 1 (some .int) 1 := ⟨m539, m540, m2, m541, by decide +kernel, by decide +kernel, by decide +kernel⟩
theorem g_X1_37 : xCS RX1 37 yX3_foxOf cX3_foxOf 1 (some .int) 1 := ⟨m542, m543, m2, m544, by decide +kernel, by decide +kernel, by decide +kernel⟩
theorem g_X1_40 : xCV RX1 40 yX3_lowerOf cX3_lowerOf 2 (some .int) 1 := ⟨m545, m392, m393, m2, m394, by decide +kernel, by decide +kernel, by decide +kernel⟩
theorem g_X1_43 : xCV RX1 43 yX3_higherOf cX3_higherOf 2 (some .int) 1 := ⟨m546, m396, m397, m2, m398, by decide +kernel, by decide +kernel, by decide +kernel⟩
theorem g_X1_46 : xCS RX1 46 yX3_whoOf cX3_whoOf 1 (some .int) 1 := ⟨m547, m548, m2, m549, by decide +kernel, by decide +kernel, by decide +kernel⟩
theorem g_X1_49 : xCV RX1 49 yX3_numberOf cX3_numberOf 5 (some .int) 4 := ⟨m550, m416, m417, m2, m418, by decide +kernel, by decide +kernel, by decide +kernel⟩
theorem g_X1_56 : xCS RX1 56 yJ9_min_7cf53 cJ9_min_7cf53 2 (some .int) 2 := ⟨m551, m239, m3, m240, by decide +kernel, by decide +kernel, by decide +kernel⟩
theorem g_X8_185 : xCV RX8 185 yX5_length cX5_length 1 (some .int) 0 := ⟨m552, m553, m554, m10, m555, by decide +kernel, by decide +kernel, by decide +kernel⟩
theorem g_X8_188 : xCV RX8 188 yX4_length cX4_length 1 (some .int) 0 := ⟨m556, m557, m558, m9, m559, by decide +kernel, by decide +kernel, by decide +kernel⟩
theorem g_L_45 : xCV RL 45 yX8_distance cX8_distance 6 (some .int) 4 := ⟨m560, m561, m562, m1, m563, by decide +kernel, by decide +kernel, by decide +kernel⟩
theorem g_L_49 : xCV RL 49 yX8_number cX8_number 6 (some .int) 4 := ⟨m564, m565, m566, m1, m567, by decide +kernel, by decide +kernel, by decide +kernel⟩
theorem g_L_53 : xCV RL 53 yX8_folded cX8_folded 6 (some .int) 4 := ⟨m568, m569, m570, m1, m571, by decide +kernel, by decide +kernel, by decide +kernel⟩
theorem g_L_57 : xCV RL 57 yX8_of cX8_of 3 (some .int) 2 := ⟨m572, m573, m574, m1, m575, by decide +kernel, by decide +kernel, by decide +kernel⟩
theorem g_X8_198 : xCV RX8 198 yX3_isPosition cX3_isPosition 6 (some .boolean) 2 := ⟨m576, m577, m578, m2, m579, by decide +kernel, by decide +kernel, by decide +kernel⟩
theorem g_X3_53 : xCS RX3 53 yX3_pairIn cX3_pairIn 1 (some .int) 1 := ⟨m580, m540, m2, m541, by decide +kernel, by decide +kernel, by decide +kernel⟩
theorem g_X3_56 : xCS RX3 56 yX3_foxOf cX3_foxOf 1 (some .int) 1 := ⟨m581, m543, m2, m544, by decide +kernel, by decide +kernel, by decide +kernel⟩
theorem g_X3_59 : xCV RX3 59 yX3_placesOf cX3_placesOf 2 (some .int) 1 := ⟨m582, m379, m380, m2, m381, by decide +kernel, by decide +kernel, by decide +kernel⟩
theorem g_X8_202 : xCS RX8 202 yX3_whoOf cX3_whoOf 1 (some .int) 1 := ⟨m583, m548, m2, m549, by decide +kernel, by decide +kernel, by decide +kernel⟩
theorem g_X8_205 : xCS RX8 205 yX3_foxOf cX3_foxOf 1 (some .int) 1 := ⟨m584, m543, m2, m544, by decide +kernel, by decide +kernel, by decide +kernel⟩
theorem g_X8_208 : xCS RX8 208 yX3_pairIn cX3_pairIn 1 (some .int) 1 := ⟨m585, m540, m2, m541, by decide +kernel, by decide +kernel, by decide +kernel⟩
theorem g_X8_211 : xCV RX8 211 yX3_lowerOf cX3_lowerOf 2 (some .int) 1 := ⟨m586, m392, m393, m2, m394, by decide +kernel, by decide +kernel, by decide +kernel⟩
theorem g_X8_214 : xCV RX8 214 yX3_higherOf cX3_higherOf 2 (some .int) 1 := ⟨m587, m396, m397, m2, m398, by decide +kernel, by decide +kernel, by decide +kernel⟩
theorem g_X8_217 : xCV RX8 217 yX7_prepare cX7_prepare 2 none 1 := ⟨m588, m589, m590, m6, m591, by decide +kernel, by decide +kernel, by decide +kernel⟩
theorem g_X7_46 : xCS RX7 46 yX0_signOf cX0_signOf 1 (some .int) 1 := ⟨m592, m359, m4, m360, by decide +kernel, by decide +kernel, by decide +kernel⟩
theorem g_X7_52 : xCV RX7 52 yX0_prepare cX0_prepare 2 none 1 := ⟨m593, m355, m356, m4, m357, by decide +kernel, by decide +kernel, by decide +kernel⟩
theorem g_X7_61 : xCV RX7 61 yX1_prepare cX1_prepare 3 none 1 := ⟨m594, m520, m521, m5, m522, by decide +kernel, by decide +kernel, by decide +kernel⟩
theorem g_X7_66 : xCS RX7 66 yJ7_fill_53178 cJ7_fill_53178 4 none 2 := ⟨m595, m368, m13, m369, by decide +kernel, by decide +kernel, by decide +kernel⟩
theorem g_X7_72 : xCV RX7 72 yX1_symmetries cX1_symmetries 1 (some .int) 0 := ⟨m596, m597, m598, m5, m599, by decide +kernel, by decide +kernel, by decide +kernel⟩
theorem g_X7_76 : xCV RX7 76 yX7_goThrough cX7_goThrough 3 none 1 := ⟨m600, m602, mp24, m6, m603, by decide +kernel, by decide +kernel, by decide +kernel⟩
theorem g_X7_88 : xCV RX7 88 yX3_isPosition cX3_isPosition 6 (some .boolean) 2 := ⟨m604, m577, m578, m2, m579, by decide +kernel, by decide +kernel, by decide +kernel⟩
theorem g_X7_92 : xCV RX7 92 yX0_at cX0_at 2 (some .int) 1 := ⟨m605, m421, m422, m4, m423, by decide +kernel, by decide +kernel, by decide +kernel⟩
theorem g_X7_95 : xCV RX7 95 yX1_standsForItself cX1_standsForItself 3 (some .boolean) 1 := ⟨m606, m607, m608, m5, m609, by decide +kernel, by decide +kernel, by decide +kernel⟩
theorem g_X7_99 : xCV RX7 99 yX7_collect cX7_collect 5 none 1 := ⟨m610, m612, mp25, m6, m613, by decide +kernel, by decide +kernel, by decide +kernel⟩
theorem g_X7_102 : xCV RX7 102 yX3_keyOf cX3_keyOf 6 (some .int) 1 := ⟨m614, m615, m616, m2, m617, by decide +kernel, by decide +kernel, by decide +kernel⟩
theorem g_X3_62 : xCV RX3 62 yX3_lowerOf cX3_lowerOf 2 (some .int) 1 := ⟨m618, m392, m393, m2, m394, by decide +kernel, by decide +kernel, by decide +kernel⟩
theorem g_X3_65 : xCV RX3 65 yX3_higherOf cX3_higherOf 2 (some .int) 1 := ⟨m619, m396, m397, m2, m398, by decide +kernel, by decide +kernel, by decide +kernel⟩
theorem g_X3_68 : xCS RX3 68 yX3_whoOf cX3_whoOf 1 (some .int) 1 := ⟨m620, m548, m2, m549, by decide +kernel, by decide +kernel, by decide +kernel⟩
theorem g_X3_71 : xCS RX3 71 yJ9_min_7cf53 cJ9_min_7cf53 2 (some .int) 2 := ⟨m621, m239, m3, m240, by decide +kernel, by decide +kernel, by decide +kernel⟩
theorem g_X3_74 : xCS RX3 74 yJ9_max_7cf53 cJ9_max_7cf53 2 (some .int) 2 := ⟨m622, m242, m3, m243, by decide +kernel, by decide +kernel, by decide +kernel⟩
theorem g_X7_79 : xCV RX7 79 yX7_makeRule cX7_makeRule 2 none 0 := ⟨m623, m625, mp26, m6, m626, by decide +kernel, by decide +kernel, by decide +kernel⟩
theorem g_X7_105 : xCV RX7 105 yX7_commonest cX7_commonest 6 (some .int) 1 := ⟨m627, m629, mp27, m6, m630, by decide +kernel, by decide +kernel, by decide +kernel⟩
theorem g_X7_42 : xCS RX7 42 yX7_distanceOf cX7_distanceOf 1 (some .int) 1 := ⟨m631, m632, m6, m633, by decide +kernel, by decide +kernel, by decide +kernel⟩
theorem g_X7_82 : xCV RX7 82 yX7_countExceptions cX7_countExceptions 5 none 0 := ⟨m634, m636, mp28, m6, m637, by decide +kernel, by decide +kernel, by decide +kernel⟩
theorem g_X7_108 : xCV RX7 108 yX7_told cX7_told 2 (some .int) 1 := ⟨m638, m639, m640, m6, m641, by decide +kernel, by decide +kernel, by decide +kernel⟩
theorem g_X7_110 : xCV RX7 110 yX7_countException cX7_countException 3 none 2 := ⟨m642, m644, mp29, m6, m645, by decide +kernel, by decide +kernel, by decide +kernel⟩
theorem g_X7_114 : xCS RX7 114 yJ9_max_7cf53 cJ9_max_7cf53 2 (some .int) 2 := ⟨m646, m242, m3, m243, by decide +kernel, by decide +kernel, by decide +kernel⟩
theorem g_X7_85 : xCV RX7 85 yX7_countWith cX7_countWith 5 (some .int) 1 := ⟨m647, m648, m649, m6, m650, by decide +kernel, by decide +kernel, by decide +kernel⟩
theorem g_X8_218 : xCV RX8 218 yX3_keyOf cX3_keyOf 6 (some .int) 1 := ⟨m651, m615, m616, m2, m617, by decide +kernel, by decide +kernel, by decide +kernel⟩
theorem g_X8_221 : xCV RX8 221 yX7_told cX7_told 2 (some .int) 1 := ⟨m652, m639, m640, m6, m641, by decide +kernel, by decide +kernel, by decide +kernel⟩
theorem g_X8_227 : xCV RX8 227 yX1_alike cX1_alike 4 (some .int) 1 := ⟨m653, m654, m655, m5, m656, by decide +kernel, by decide +kernel, by decide +kernel⟩
theorem g_X1_61 : xCV RX1 61 yX1_symmetries cX1_symmetries 1 (some .int) 0 := ⟨m657, m597, m598, m5, m599, by decide +kernel, by decide +kernel, by decide +kernel⟩
theorem g_L_61 : xCV RL 61 yX8_line cX8_line 4 (some .int) 1 := ⟨m658, m659, m660, m1, m661, by decide +kernel, by decide +kernel, by decide +kernel⟩
theorem g_X8_230 : xCV RX8 230 yX6_take cX6_take 2 none 1 := ⟨m662, m292, m293, m8, m294, by decide +kernel, by decide +kernel, by decide +kernel⟩
theorem g_L_65 : xCV RL 65 yX8_all cX8_all 2 (some .int) 1 := ⟨m663, m664, m665, m1, m666, by decide +kernel, by decide +kernel, by decide +kernel⟩
theorem g_X8_237 : xCV RX8 237 yX7_total cX7_total 2 (some .int) 1 := ⟨m667, m668, m669, m6, m670, by decide +kernel, by decide +kernel, by decide +kernel⟩
theorem g_L_69 : xCV RL 69 yX8_withDistance cX8_withDistance 2 (some .int) 1 := ⟨m671, m672, m673, m1, m674, by decide +kernel, by decide +kernel, by decide +kernel⟩
theorem g_X8_240 : xCV RX8 240 yX7_countWith cX7_countWith 5 (some .int) 1 := ⟨m675, m648, m649, m6, m650, by decide +kernel, by decide +kernel, by decide +kernel⟩
theorem g_L_73 : xCV RL 73 yX8_rule cX8_rule 2 (some .int) 1 := ⟨m676, m677, m678, m1, m679, by decide +kernel, by decide +kernel, by decide +kernel⟩
theorem g_L_79 : xCV RL 79 yX8_put cX8_put 4 (some .int) 1 := ⟨m680, m681, m682, m1, m683, by decide +kernel, by decide +kernel, by decide +kernel⟩
theorem g_X8_243 : xCS RX8 243 yX5_countIn cX5_countIn 7 (some .int) 1 := ⟨m684, m685, m10, m686, by decide +kernel, by decide +kernel, by decide +kernel⟩
theorem g_X8_247 : xCV RX8 247 yX5_append cX5_append 5 none 2 := ⟨m688, m689, m690, m10, m691, by decide +kernel, by decide +kernel, by decide +kernel⟩
theorem g_L_84 : xCV RL 84 yX8_wipe cX8_wipe 2 (some .int) 0 := ⟨m692, m693, m694, m1, m695, by decide +kernel, by decide +kernel, by decide +kernel⟩
theorem g_L_88 : xCV RL 88 yX8_fault cX8_fault 1 (some .int) 0 := ⟨m696, m697, m698, m1, m699, by decide +kernel, by decide +kernel, by decide +kernel⟩
theorem g_L_92 : xCV RL 92 yX8_undo cX8_undo 1 (some .int) 0 := ⟨m700, m701, m702, m1, m703, by decide +kernel, by decide +kernel, by decide +kernel⟩
theorem g_X8_251 : xCV RX8 251 yX4_takeBack cX4_takeBack 2 none 1 := ⟨m704, m705, m706, m9, m707, by decide +kernel, by decide +kernel, by decide +kernel⟩
theorem g_L_96 : xCV RL 96 yX8_save cX8_save 2 (some .int) 1 := ⟨m708, m709, m710, m1, m711, by decide +kernel, by decide +kernel, by decide +kernel⟩
theorem g_L_100 : xCV RL 100 yX8_restore cX8_restore 2 (some .int) 1 := ⟨m712, m713, m714, m1, m715, by decide +kernel, by decide +kernel, by decide +kernel⟩
theorem g_L_12 : xCI RL 12 yX9_init cX9_init 4 0 := ⟨m718, m719, m11, m720, rfl, by decide +kernel, by decide +kernel, by decide +kernel⟩
theorem f_X9_7 : xFl RX9 7 TX9 21 0 := ⟨m722, by decide⟩
theorem f_X9_13 : xFl RX9 13 TX9 21 1 := ⟨m723, by decide⟩
theorem f_X9_61 : xFl RX9 61 TX9 21 2 := ⟨m724, by decide⟩
theorem f_X9_57 : xFl RX9 57 TX9 21 3 := ⟨m725, by decide⟩
theorem f_X9_16 : xFl RX9 16 TX9 21 4 := ⟨m726, by decide⟩
theorem f_X9_19 : xFl RX9 19 TX9 21 5 := ⟨m727, by decide⟩
theorem f_X9_23 : xFl RX9 23 TX9 21 6 := ⟨m728, by decide⟩
theorem f_X9_26 : xFl RX9 26 TX9 21 7 := ⟨m729, by decide⟩
theorem f_X9_29 : xFl RX9 29 TX9 21 8 := ⟨m730, by decide⟩
theorem f_X9_32 : xFl RX9 32 TX9 21 9 := ⟨m731, by decide⟩
theorem f_X9_35 : xFl RX9 35 TX9 21 10 := ⟨m732, by decide⟩
theorem f_X9_38 : xFl RX9 38 TX9 21 11 := ⟨m733, by decide⟩
theorem f_X9_125 : xFl RX9 125 TX9 21 12 := ⟨m734, by decide⟩
theorem f_X9_41 : xFl RX9 41 TX9 21 13 := ⟨m735, by decide⟩
theorem f_X9_44 : xFl RX9 44 TX9 21 14 := ⟨m736, by decide⟩
theorem f_X9_47 : xFl RX9 47 TX9 21 15 := ⟨m737, by decide⟩
theorem f_X9_141 : xFl RX9 141 TX9 21 16 := ⟨m738, by decide⟩
theorem f_X9_180 : xFl RX9 180 TX9 21 17 := ⟨m739, by decide⟩
theorem f_X9_183 : xFl RX9 183 TX9 21 18 := ⟨m740, by decide⟩
theorem f_X9_50 : xFl RX9 50 TX9 21 19 := ⟨m741, by decide⟩
theorem f_X9_223 : xFl RX9 223 TX9 21 20 := ⟨m742, by decide⟩
theorem g_L_17 : xCV RL 17 yX9_set cX9_set 4 (some .int) 2 := ⟨m786, m787, m788, m11, m789, by decide +kernel, by decide +kernel, by decide +kernel⟩
theorem g_X9_53 : xCS RX9 53 yX9_in cX9_in 3 (some .boolean) 3 := ⟨m790, m791, m11, m792, by decide +kernel, by decide +kernel, by decide +kernel⟩
theorem g_X9_192 : xCV RX9 192 yX9_keep cX9_keep 3 none 0 := ⟨m793, m795, mp30, m11, m796, by decide +kernel, by decide +kernel, by decide +kernel⟩
theorem g_L_22 : xCV RL 22 yX9_block cX9_block 2 (some .int) 1 := ⟨m797, m798, m799, m11, m800, by decide +kernel, by decide +kernel, by decide +kernel⟩
theorem g_X9_195 : xCS RX9 195 yX9_isPlace cX9_isPlace 1 (some .boolean) 1 := ⟨m801, m802, m11, m803, by decide +kernel, by decide +kernel, by decide +kernel⟩
theorem g_X9_91 : xCV RX9 91 yX9_isFree cX9_isFree 2 (some .boolean) 1 := ⟨m804, m806, mp31, m11, m807, by decide +kernel, by decide +kernel, by decide +kernel⟩
theorem g_X9_78 : xCS RX9 78 yX9_has cX9_has 2 (some .boolean) 2 := ⟨m808, m809, m11, m810, by decide +kernel, by decide +kernel, by decide +kernel⟩
theorem g_X9_198 : xCS RX9 198 yX9_many cX9_many 3 (some .int) 1 := ⟨m811, m812, m11, m813, by decide +kernel, by decide +kernel, by decide +kernel⟩
theorem g_L_27 : xCV RL 27 yX9_setUp cX9_setUp 6 (some .int) 4 := ⟨m814, m815, m816, m11, m817, by decide +kernel, by decide +kernel, by decide +kernel⟩
theorem g_X9_201 : xCV RX9 201 yX9_whyNot cX9_whyNot 6 (some .int) 4 := ⟨m818, m820, mp32, m11, m821, by decide +kernel, by decide +kernel, by decide +kernel⟩
theorem g_X9_204 : xCV RX9 204 yX9_lay cX9_lay 5 none 4 := ⟨m822, m824, mp33, m11, m825, by decide +kernel, by decide +kernel, by decide +kernel⟩
theorem g_X9_82 : xCS RX9 82 yX9_lesser cX9_lesser 2 (some .int) 2 := ⟨m826, m827, m11, m828, by decide +kernel, by decide +kernel, by decide +kernel⟩
theorem g_X9_85 : xCS RX9 85 yX9_greater cX9_greater 2 (some .int) 2 := ⟨m829, m830, m11, m831, by decide +kernel, by decide +kernel, by decide +kernel⟩
theorem g_X9_208 : xCV RX9 208 yX9_distanceNow cX9_distanceNow 1 (some .int) 0 := ⟨m832, m834, mp34, m11, m835, by decide +kernel, by decide +kernel, by decide +kernel⟩
theorem g_X9_171 : xCV RX9 171 yX9_isCaught cX9_isCaught 1 (some .boolean) 0 := ⟨m836, m838, mp35, m11, m839, by decide +kernel, by decide +kernel, by decide +kernel⟩
theorem g_X9_161 : xCV RX9 161 yX9_work cX9_work 2 none 0 := ⟨m840, m842, mp36, m11, m843, by decide +kernel, by decide +kernel, by decide +kernel⟩
theorem g_X9_145 : xCV RX9 145 yX9_isAsWorked cX9_isAsWorked 3 (some .boolean) 0 := ⟨m844, m846, mp37, m11, m847, by decide +kernel, by decide +kernel, by decide +kernel⟩
theorem g_X9_149 : xCV RX9 149 yX9_workOutAll cX9_workOutAll 3 none 0 := ⟨m848, m850, mp38, m11, m851, by decide +kernel, by decide +kernel, by decide +kernel⟩
theorem g_X9_122 : xCV RX9 122 yX9_workOut cX9_workOut 7 (some .boolean) 1 := ⟨m852, m854, mp39, m11, m855, by decide +kernel, by decide +kernel, by decide +kernel⟩
theorem g_X9_113 : xCV RX9 113 yX9_isPosition cX9_isPosition 6 (some .boolean) 1 := ⟨m856, m858, mp40, m11, m859, by decide +kernel, by decide +kernel, by decide +kernel⟩
theorem g_X9_116 : xCV RX9 116 yX9_ofHunters cX9_ofHunters 4 (some .int) 2 := ⟨m860, m862, mp41, m11, m863, by decide +kernel, by decide +kernel, by decide +kernel⟩
theorem g_X9_106 : xCV RX9 106 yX9_canCatch cX9_canCatch 3 (some .boolean) 2 := ⟨m864, m866, mp42, m11, m867, by decide +kernel, by decide +kernel, by decide +kernel⟩
theorem g_X9_95 : xCS RX9 95 yX9_isStep cX9_isStep 3 (some .boolean) 3 := ⟨m868, m869, m11, m870, by decide +kernel, by decide +kernel, by decide +kernel⟩
theorem g_X9_75 : xCS RX9 75 yX9_between cX9_between 2 (some .int) 2 := ⟨m871, m872, m11, m873, by decide +kernel, by decide +kernel, by decide +kernel⟩
theorem g_X9_68 : xCS RX9 68 yX9_rowsBetween cX9_rowsBetween 2 (some .int) 2 := ⟨m874, m875, m11, m876, by decide +kernel, by decide +kernel, by decide +kernel⟩
theorem g_X9_64 : xCS RX9 64 yX9_size cX9_size 1 (some .int) 1 := ⟨m877, m878, m11, m879, by decide +kernel, by decide +kernel, by decide +kernel⟩
theorem g_X9_72 : xCS RX9 72 yX9_columnsBetween cX9_columnsBetween 2 (some .int) 2 := ⟨m880, m881, m11, m882, by decide +kernel, by decide +kernel, by decide +kernel⟩
theorem g_X9_109 : xCV RX9 109 yX9_ofHunter cX9_ofHunter 6 (some .int) 3 := ⟨m883, m885, mp43, m11, m886, by decide +kernel, by decide +kernel, by decide +kernel⟩
theorem g_X9_99 : xCS RX9 99 yX9_numberOf cX9_numberOf 4 (some .int) 4 := ⟨m887, m888, m11, m889, by decide +kernel, by decide +kernel, by decide +kernel⟩
theorem g_X9_88 : xCS RX9 88 yX9_pair cX9_pair 4 (some .int) 2 := ⟨m890, m891, m11, m892, by decide +kernel, by decide +kernel, by decide +kernel⟩
theorem g_X9_103 : xCS RX9 103 yX9_nearer cX9_nearer 2 (some .int) 2 := ⟨m893, m894, m11, m895, by decide +kernel, by decide +kernel, by decide +kernel⟩
theorem g_X9_119 : xCV RX9 119 yX9_ofFox cX9_ofFox 7 (some .int) 2 := ⟨m896, m898, mp44, m11, m899, by decide +kernel, by decide +kernel, by decide +kernel⟩
theorem g_X9_152 : xCV RX9 152 yX9_findSymmetries cX9_findSymmetries 5 none 0 := ⟨m900, m902, mp45, m11, m903, by decide +kernel, by decide +kernel, by decide +kernel⟩
theorem g_X9_128 : xCS RX9 128 yX9_turned cX9_turned 6 (some .int) 2 := ⟨m904, m905, m11, m906, by decide +kernel, by decide +kernel, by decide +kernel⟩
theorem g_X9_155 : xCV RX9 155 yX9_fold cX9_fold 2 none 0 := ⟨m907, m909, mp46, m11, m910, by decide +kernel, by decide +kernel, by decide +kernel⟩
theorem g_X9_131 : xCV RX9 131 yX9_foldOne cX9_foldOne 8 none 1 := ⟨m911, m913, mp47, m11, m914, by decide +kernel, by decide +kernel, by decide +kernel⟩
theorem g_X9_135 : xCV RX9 135 yX9_madeBy cX9_madeBy 5 (some .int) 2 := ⟨m915, m917, mp48, m11, m918, by decide +kernel, by decide +kernel, by decide +kernel⟩
theorem g_X9_158 : xCV RX9 158 yX9_ruleOf cX9_ruleOf 6 (some .int) 1 := ⟨m919, m921, mp49, m11, m922, by decide +kernel, by decide +kernel, by decide +kernel⟩
theorem g_X9_138 : xCV RX9 138 yX9_key cX9_key 6 (some .int) 1 := ⟨m923, m925, mp50, m11, m926, by decide +kernel, by decide +kernel, by decide +kernel⟩
theorem g_X9_164 : xCV RX9 164 yX9_isHit cX9_isHit 1 (some .boolean) 0 := ⟨m927, m929, mp51, m11, m930, by decide +kernel, by decide +kernel, by decide +kernel⟩
theorem g_X9_167 : xCV RX9 167 yX9_numberNow cX9_numberNow 1 (some .int) 0 := ⟨m931, m933, mp52, m11, m934, by decide +kernel, by decide +kernel, by decide +kernel⟩
theorem g_L_31 : xCV RL 31 yX9_move cX9_move 3 (some .int) 2 := ⟨m935, m936, m937, m11, m938, by decide +kernel, by decide +kernel, by decide +kernel⟩
theorem g_X9_186 : xCV RX9 186 yX9_isMove cX9_isMove 3 (some .boolean) 2 := ⟨m939, m941, mp53, m11, m942, by decide +kernel, by decide +kernel, by decide +kernel⟩
theorem g_X9_174 : xCV RX9 174 yX9_isHunterMove cX9_isHunterMove 5 (some .boolean) 2 := ⟨m943, m945, mp54, m11, m946, by decide +kernel, by decide +kernel, by decide +kernel⟩
theorem g_X9_177 : xCV RX9 177 yX9_isFoxMove cX9_isFoxMove 3 (some .boolean) 2 := ⟨m947, m949, mp55, m11, m950, by decide +kernel, by decide +kernel, by decide +kernel⟩
theorem g_X9_211 : xCV RX9 211 yX9_make cX9_make 4 (some .int) 2 := ⟨m951, m953, mp56, m11, m954, by decide +kernel, by decide +kernel, by decide +kernel⟩
theorem g_L_36 : xCV RL 36 yX9_play cX9_play 1 (some .int) 0 := ⟨m955, m956, m957, m11, m958, by decide +kernel, by decide +kernel, by decide +kernel⟩
theorem g_X9_214 : xCV RX9 214 yX9_findBest cX9_findBest 4 (some .boolean) 0 := ⟨m959, m961, mp57, m11, m962, by decide +kernel, by decide +kernel, by decide +kernel⟩
theorem g_X9_189 : xCV RX9 189 yX9_worth cX9_worth 6 (some .int) 2 := ⟨m963, m965, mp58, m11, m966, by decide +kernel, by decide +kernel, by decide +kernel⟩
theorem g_L_44 : xCV RL 44 yX9_now cX9_now 2 (some .int) 1 := ⟨m967, m968, m969, m11, m970, by decide +kernel, by decide +kernel, by decide +kernel⟩
theorem g_X9_217 : xCV RX9 217 yX9_best cX9_best 2 (some .int) 1 := ⟨m971, m973, mp59, m11, m974, by decide +kernel, by decide +kernel, by decide +kernel⟩
theorem g_X9_220 : xCV RX9 220 yX9_standsNow cX9_standsNow 1 (some .int) 0 := ⟨m975, m977, mp60, m11, m978, by decide +kernel, by decide +kernel, by decide +kernel⟩
theorem g_L_48 : xCV RL 48 yX9_distance cX9_distance 6 (some .int) 4 := ⟨m979, m980, m981, m11, m982, by decide +kernel, by decide +kernel, by decide +kernel⟩
theorem g_L_52 : xCV RL 52 yX9_number cX9_number 6 (some .int) 4 := ⟨m983, m984, m985, m11, m986, by decide +kernel, by decide +kernel, by decide +kernel⟩
theorem g_L_56 : xCV RL 56 yX9_folded cX9_folded 6 (some .int) 4 := ⟨m987, m988, m989, m11, m990, by decide +kernel, by decide +kernel, by decide +kernel⟩
theorem g_L_60 : xCV RL 60 yX9_of cX9_of 3 (some .int) 2 := ⟨m991, m992, m993, m11, m994, by decide +kernel, by decide +kernel, by decide +kernel⟩
theorem g_L_64 : xCV RL 64 yX9_line cX9_line 8 (some .int) 1 := ⟨m995, m996, m997, m11, m998, by decide +kernel, by decide +kernel, by decide +kernel⟩
theorem g_L_68 : xCV RL 68 yX9_all cX9_all 2 (some .int) 1 := ⟨m999, m1000, m1001, m11, m1002, by decide +kernel, by decide +kernel, by decide +kernel⟩
theorem g_X9_229 : xCV RX9 229 yX9_positions cX9_positions 4 (some .int) 1 := ⟨m1003, m1005, mp61, m11, m1006, by decide +kernel, by decide +kernel, by decide +kernel⟩
theorem g_X9_233 : xCV RX9 233 yX9_greatest cX9_greatest 3 (some .int) 0 := ⟨m1007, m1009, mp62, m11, m1010, by decide +kernel, by decide +kernel, by decide +kernel⟩
theorem g_X9_236 : xCV RX9 236 yX9_lowestWith cX9_lowestWith 3 (some .int) 1 := ⟨m1011, m1013, mp63, m11, m1014, by decide +kernel, by decide +kernel, by decide +kernel⟩
theorem g_X9_239 : xCV RX9 239 yX9_standingWith cX9_standingWith 4 (some .int) 1 := ⟨m1015, m1017, mp64, m11, m1018, by decide +kernel, by decide +kernel, by decide +kernel⟩
theorem g_X9_242 : xCV RX9 242 yX9_exceptions cX9_exceptions 3 (some .int) 0 := ⟨m1019, m1021, mp65, m11, m1022, by decide +kernel, by decide +kernel, by decide +kernel⟩
theorem g_X9_226 : xCV RX9 226 yX9_isException cX9_isException 2 (some .boolean) 1 := ⟨m1023, m1025, mp66, m11, m1026, by decide +kernel, by decide +kernel, by decide +kernel⟩
theorem g_X9_245 : xCV RX9 245 yX9_runs cX9_runs 6 (some .int) 1 := ⟨m1027, m1029, mp67, m11, m1030, by decide +kernel, by decide +kernel, by decide +kernel⟩
theorem g_X9_248 : xCV RX9 248 yX9_blocks cX9_blocks 5 (some .int) 0 := ⟨m1031, m1033, mp68, m11, m1034, by decide +kernel, by decide +kernel, by decide +kernel⟩
theorem g_X9_251 : xCV RX9 251 yX9_keys cX9_keys 3 (some .int) 0 := ⟨m1035, m1037, mp69, m11, m1038, by decide +kernel, by decide +kernel, by decide +kernel⟩
theorem g_L_72 : xCV RL 72 yX9_withDistance cX9_withDistance 2 (some .int) 1 := ⟨m1039, m1040, m1041, m11, m1042, by decide +kernel, by decide +kernel, by decide +kernel⟩
theorem g_L_76 : xCV RL 76 yX9_rule cX9_rule 2 (some .int) 1 := ⟨m1043, m1044, m1045, m11, m1046, by decide +kernel, by decide +kernel, by decide +kernel⟩
theorem g_L_83 : xCV RL 83 yX9_put cX9_put 7 (some .int) 1 := ⟨m1047, m1048, m1049, m11, m1050, by decide +kernel, by decide +kernel, by decide +kernel⟩
theorem g_L_87 : xCV RL 87 yX9_wipe cX9_wipe 2 (some .int) 0 := ⟨m1052, m1053, m1054, m11, m1055, by decide +kernel, by decide +kernel, by decide +kernel⟩
theorem g_L_91 : xCV RL 91 yX9_fault cX9_fault 2 (some .int) 0 := ⟨m1056, m1057, m1058, m11, m1059, by decide +kernel, by decide +kernel, by decide +kernel⟩
theorem g_X9_256 : xCS RX9 256 yX9_canStand cX9_canStand 2 (some .boolean) 2 := ⟨m1060, m1061, m11, m1062, by decide +kernel, by decide +kernel, by decide +kernel⟩
theorem g_L_40 : xCV RL 40 yX9_readPad cX9_readPad 4 (some .int) 0 := ⟨m1063, m1064, m1065, m11, m1066, by decide +kernel, by decide +kernel, by decide +kernel⟩
theorem g_X9_259 : xCV RX9 259 yX9_fault cX9_fault 2 (some .int) 0 := ⟨m1067, m1057, m1058, m11, m1059, by decide +kernel, by decide +kernel, by decide +kernel⟩
theorem g_X9_262 : xCV RX9 262 yX9_placesOf cX9_placesOf 4 (some .int) 1 := ⟨m1068, m1070, mp70, m11, m1071, by decide +kernel, by decide +kernel, by decide +kernel⟩
theorem g_X9_265 : xCS RX9 265 yX9_lowest cX9_lowest 2 (some .int) 1 := ⟨m1072, m1073, m11, m1074, by decide +kernel, by decide +kernel, by decide +kernel⟩
theorem g_L_95 : xCV RL 95 yX9_undo cX9_undo 3 (some .int) 0 := ⟨m1075, m1076, m1077, m11, m1078, by decide +kernel, by decide +kernel, by decide +kernel⟩
theorem g_L_99 : xCV RL 99 yX9_save cX9_save 3 (some .int) 1 := ⟨m1079, m1080, m1081, m11, m1082, by decide +kernel, by decide +kernel, by decide +kernel⟩
theorem g_L_103 : xCV RL 103 yX9_restore cX9_restore 3 (some .int) 1 := ⟨m1083, m1084, m1085, m11, m1086, by decide +kernel, by decide +kernel, by decide +kernel⟩
