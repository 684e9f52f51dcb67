def RX0 : String := "StoneWorks$Asks"
def TX0 : u_T := fun k => match k with
  | 0 => ("StoneWorks$Asks", "trace", "[I", true)
  | _ => ("StoneWorks$Asks", "traced", "I", false)
def tyX0 : Nat → FieldType := fun k => match k with
  | 0 => .array .int
  | _ => .int
theorem nmX0 : ∀ a, a < 2 → ∀ b, b < 2 → a ≠ b → (TX0 a).2.1 ≠ (TX0 b).2.1 := by decide +kernel
theorem tyX0_ok : ∀ k, k < 2 → parseFieldDescriptor (TX0 k).2.2.1 = some (tyX0 k) := by decide +kernel
abbrev cX0_init : ByteArray := prog_2_method_1_code
def yX0_init : MethodName := ⟨RX0, "<init>", "()V"⟩
abbrev cX0_forget : ByteArray := prog_2_method_2_code
def yX0_forget : MethodName := ⟨RX0, "forget", "()V"⟩
abbrev cX0_traced : ByteArray := prog_2_method_3_code
def yX0_traced : MethodName := ⟨RX0, "traced", "(I)I"⟩
abbrev cX0_begin : ByteArray := prog_2_method_4_code
def yX0_begin : MethodName := ⟨RX0, "begin", "(I)V"⟩
abbrev cX0_worth : ByteArray := prog_2_method_5_code
def yX0_worth : MethodName := ⟨RX0, "worth", "(LStoneWorks$Wall;I)I"⟩
abbrev cX0_mark : ByteArray := prog_2_method_6_code
def yX0_mark : MethodName := ⟨RX0, "mark", "(LStoneWorks$Wall;I)I"⟩
abbrev cX0_lentWorth : ByteArray := prog_2_method_7_code
def yX0_lentWorth : MethodName := ⟨RX0, "lentWorth", "(LStoneWorks$Wall;I)I"⟩
abbrev cX0_coverWorth : ByteArray := prog_2_method_8_code
def yX0_coverWorth : MethodName := ⟨RX0, "coverWorth", "(LStoneWorks$Wall;I)I"⟩
abbrev cX0_armourWorth : ByteArray := prog_2_method_9_code
def yX0_armourWorth : MethodName := ⟨RX0, "armourWorth", "(LStoneWorks$Wall;I)I"⟩
abbrev cX0_looseWorth : ByteArray := prog_2_method_10_code
def yX0_looseWorth : MethodName := ⟨RX0, "looseWorth", "(LStoneWorks$Wall;I)I"⟩
abbrev cX0_lentMark : ByteArray := prog_2_method_11_code
def yX0_lentMark : MethodName := ⟨RX0, "lentMark", "(LStoneWorks$Wall;I)I"⟩
abbrev cX0_coverMark : ByteArray := prog_2_method_12_code
def yX0_coverMark : MethodName := ⟨RX0, "coverMark", "(LStoneWorks$Wall;I)I"⟩
abbrev cX0_armourMark : ByteArray := prog_2_method_13_code
def yX0_armourMark : MethodName := ⟨RX0, "armourMark", "(LStoneWorks$Wall;I)I"⟩
abbrev cX0_underMark : ByteArray := prog_2_method_14_code
def yX0_underMark : MethodName := ⟨RX0, "underMark", "(LStoneWorks$Wall;I)I"⟩
def RX1 : String := "StoneWorks$Harbour"
def TX1 : u_T := fun k => match k with
  | _ => ("", "", "", false)
def tyX1 : Nat → FieldType := fun k => match k with
  | _ => .int
theorem nmX1 : ∀ a, a < 0 → ∀ b, b < 0 → a ≠ b → (TX1 a).2.1 ≠ (TX1 b).2.1 := by decide +kernel
theorem tyX1_ok : ∀ k, k < 0 → parseFieldDescriptor (TX1 k).2.2.1 = some (tyX1 k) := by decide +kernel
abbrev cX1_isOne : ByteArray := prog_3_method_2_code
def yX1_isOne : MethodName := ⟨RX1, "isOne", "(III)Z"⟩
abbrev cX1_comesTo : ByteArray := prog_3_method_3_code
def yX1_comesTo : MethodName := ⟨RX1, "comesTo", "(IIIIIII)J"⟩
abbrev cX1_bounced : ByteArray := prog_3_method_4_code
def yX1_bounced : MethodName := ⟨RX1, "bounced", "(III)I"⟩
def RX2 : String := "StoneWorks$Hours"
def TX2 : u_T := fun k => match k with
  | 0 => ("StoneWorks$Hours", "waves", "[I", true)
  | 1 => ("StoneWorks$Hours", "levels", "[I", true)
  | _ => ("StoneWorks$Hours", "hours", "I", false)
def tyX2 : Nat → FieldType := fun k => match k with
  | 0 => .array .int
  | 1 => .array .int
  | _ => .int
theorem nmX2 : ∀ a, a < 3 → ∀ b, b < 3 → a ≠ b → (TX2 a).2.1 ≠ (TX2 b).2.1 := by decide +kernel
theorem tyX2_ok : ∀ k, k < 3 → parseFieldDescriptor (TX2 k).2.2.1 = some (tyX2 k) := by decide +kernel
abbrev cX2_init : ByteArray := prog_4_method_1_code
def yX2_init : MethodName := ⟨RX2, "<init>", "()V"⟩
abbrev cX2_read : ByteArray := prog_4_method_2_code
def yX2_read : MethodName := ⟨RX2, "read", "(LStoneWorks$Sheets;III)Z"⟩
abbrev cX2_harm : ByteArray := prog_4_method_3_code
def yX2_harm : MethodName := ⟨RX2, "harm", "(II)I"⟩
abbrev cX2_over : ByteArray := prog_4_method_4_code
def yX2_over : MethodName := ⟨RX2, "over", "(I)I"⟩
abbrev cX2_leastCrest : ByteArray := prog_4_method_5_code
def yX2_leastCrest : MethodName := ⟨RX2, "leastCrest", "(I)I"⟩
abbrev cX2_leastBlockSize : ByteArray := prog_4_method_6_code
def yX2_leastBlockSize : MethodName := ⟨RX2, "leastBlockSize", "(II)I"⟩
def RX3 : String := "StoneWorks$Pile"
def TX3 : u_T := fun k => match k with
  | 0 => ("StoneWorks$Pile", "lies", "[Z", true)
  | 1 => ("StoneWorks$Pile", "stands", "[Z", true)
  | 2 => ("StoneWorks$Pile", "turns", "[I", true)
  | _ => ("StoneWorks$Pile", "blocks", "I", false)
def tyX3 : Nat → FieldType := fun k => match k with
  | 0 => .array .boolean
  | 1 => .array .boolean
  | 2 => .array .int
  | _ => .int
theorem nmX3 : ∀ a, a < 4 → ∀ b, b < 4 → a ≠ b → (TX3 a).2.1 ≠ (TX3 b).2.1 := by decide +kernel
theorem tyX3_ok : ∀ k, k < 4 → parseFieldDescriptor (TX3 k).2.2.1 = some (tyX3 k) := by decide +kernel
abbrev cX3_init : ByteArray := prog_5_method_1_code
def yX3_init : MethodName := ⟨RX3, "<init>", "()V"⟩
abbrev cX3_isPlace : ByteArray := prog_5_method_2_code
def yX3_isPlace : MethodName := ⟨RX3, "isPlace", "(II)Z"⟩
abbrev cX3_at : ByteArray := prog_5_method_3_code
def yX3_at : MethodName := ⟨RX3, "at", "(II)I"⟩
abbrev cX3_isNear : ByteArray := prog_5_method_4_code
def yX3_isNear : MethodName := ⟨RX3, "isNear", "(IIII)Z"⟩
abbrev cX3_allPlaces : ByteArray := prog_5_method_5_code
def yX3_allPlaces : MethodName := ⟨RX3, "allPlaces", "()I"⟩
abbrev cX3_blocks : ByteArray := prog_5_method_6_code
def yX3_blocks : MethodName := ⟨RX3, "blocks", "()I"⟩
abbrev cX3_add : ByteArray := prog_5_method_7_code
def yX3_add : MethodName := ⟨RX3, "add", "(II)Z"⟩
abbrev cX3_take : ByteArray := prog_5_method_8_code
def yX3_take : MethodName := ⟨RX3, "take", "(II)Z"⟩
abbrev cX3_bears : ByteArray := prog_5_method_9_code
def yX3_bears : MethodName := ⟨RX3, "bears", "(II)Z"⟩
abbrev cX3_isBorne : ByteArray := prog_5_method_10_code
def yX3_isBorne : MethodName := ⟨RX3, "isBorne", "([ZII)Z"⟩
abbrev cX3_putInTurn : ByteArray := prog_5_method_11_code
def yX3_putInTurn : MethodName := ⟨RX3, "putInTurn", "(III)I"⟩
abbrev cX3_turnOf : ByteArray := prog_5_method_12_code
def yX3_turnOf : MethodName := ⟨RX3, "turnOf", "(II)I"⟩
def RX4 : String := "StoneWorks$Quarry"
def TX4 : u_T := fun k => match k with
  | 0 => ("StoneWorks$Quarry", "yields", "[I", true)
  | 1 => ("StoneWorks$Quarry", "needs", "[I", true)
  | 2 => ("StoneWorks$Quarry", "takers", "[I", true)
  | 3 => ("StoneWorks$Quarry", "given", "[I", true)
  | _ => ("StoneWorks$Quarry", "waste", "I", false)
def tyX4 : Nat → FieldType := fun k => match k with
  | 0 => .array .int
  | 1 => .array .int
  | 2 => .array .int
  | 3 => .array .int
  | _ => .int
theorem nmX4 : ∀ a, a < 5 → ∀ b, b < 5 → a ≠ b → (TX4 a).2.1 ≠ (TX4 b).2.1 := by decide +kernel
theorem tyX4_ok : ∀ k, k < 5 → parseFieldDescriptor (TX4 k).2.2.1 = some (tyX4 k) := by decide +kernel
abbrev cX4_init : ByteArray := prog_6_method_1_code
def yX4_init : MethodName := ⟨RX4, "<init>", "()V"⟩
abbrev cX4_read : ByteArray := prog_6_method_2_code
def yX4_read : MethodName := ⟨RX4, "read", "(LStoneWorks$Sheets;II)Z"⟩
abbrev cX4_admit : ByteArray := prog_6_method_3_code
def yX4_admit : MethodName := y_adm
abbrev cX4_share : ByteArray := prog_6_method_4_code
def yX4_share : MethodName := ⟨RX4, "share", "()V"⟩
abbrev cX4_waste : ByteArray := prog_6_method_5_code
def yX4_waste : MethodName := ⟨RX4, "waste", "()I"⟩
abbrev cX4_given : ByteArray := prog_6_method_6_code
def yX4_given : MethodName := ⟨RX4, "given", "(II)I"⟩
abbrev cX4_mostGiven : ByteArray := prog_6_method_7_code
def yX4_mostGiven : MethodName := ⟨RX4, "mostGiven", "()I"⟩
abbrev cX4_cutOff : ByteArray := prog_6_method_8_code
def yX4_cutOff : MethodName := ⟨RX4, "cutOff", "(I)I"⟩
abbrev cX4_isTakenBeyond : ByteArray := prog_6_method_9_code
def yX4_isTakenBeyond : MethodName := ⟨RX4, "isTakenBeyond", "(II)Z"⟩
abbrev cX4_mostBetween : ByteArray := prog_6_method_10_code
def yX4_mostBetween : MethodName := ⟨RX4, "mostBetween", "(III)I"⟩
def RX5 : String := "StoneWorks$Sheets"
def TX5 : u_T := fun k => match k with
  | 0 => ("StoneWorks$Sheets", "items", "[I", true)
  | 1 => ("StoneWorks$Sheets", "lanes", "[I", true)
  | _ => ("StoneWorks$Sheets", "sizes", "[I", true)
def tyX5 : Nat → FieldType := fun k => match k with
  | 0 => .array .int
  | 1 => .array .int
  | _ => .array .int
theorem nmX5 : ∀ a, a < 3 → ∀ b, b < 3 → a ≠ b → (TX5 a).2.1 ≠ (TX5 b).2.1 := by decide +kernel
theorem tyX5_ok : ∀ k, k < 3 → parseFieldDescriptor (TX5 k).2.2.1 = some (tyX5 k) := by decide +kernel
abbrev cX5_init : ByteArray := prog_7_method_1_code
def yX5_init : MethodName := ⟨RX5, "<init>", "()V"⟩
abbrev cX5_isNumber : ByteArray := prog_7_method_2_code
def yX5_isNumber : MethodName := ⟨RX5, "isNumber", "(I)Z"⟩
abbrev cX5_isMissing : ByteArray := prog_7_method_3_code
def yX5_isMissing : MethodName := ⟨RX5, "isMissing", "(I)Z"⟩
abbrev cX5_areOfOneLane : ByteArray := prog_7_method_4_code
def yX5_areOfOneLane : MethodName := ⟨RX5, "areOfOneLane", "(II)Z"⟩
abbrev cX5_hasItems : ByteArray := prog_7_method_5_code
def yX5_hasItems : MethodName := ⟨RX5, "hasItems", "(III)Z"⟩
abbrev cX5_findingAt : ByteArray := prog_7_method_6_code
def yX5_findingAt : MethodName := ⟨RX5, "findingAt", "(III)I"⟩
abbrev cX5_make : ByteArray := prog_7_method_7_code
def yX5_make : MethodName := ⟨RX5, "make", "(III)V"⟩
abbrev cX5_remove : ByteArray := prog_7_method_8_code
def yX5_remove : MethodName := ⟨RX5, "remove", "(I)I"⟩
abbrev cX5_item : ByteArray := prog_7_method_9_code
def yX5_item : MethodName := ⟨RX5, "item", "(II)I"⟩
abbrev cX5_put : ByteArray := prog_7_method_10_code
def yX5_put : MethodName := ⟨RX5, "put", "(III)I"⟩
abbrev cX5_cutToLane : ByteArray := prog_7_method_11_code
def yX5_cutToLane : MethodName := ⟨RX5, "cutToLane", "(II)I"⟩
abbrev cX5_move : ByteArray := prog_7_method_12_code
def yX5_move : MethodName := ⟨RX5, "move", "(IIIII)V"⟩
abbrev cX5_areWithin : ByteArray := prog_7_method_13_code
def yX5_areWithin : MethodName := ⟨RX5, "areWithin", "(IIII)Z"⟩
abbrev cX5_present : ByteArray := prog_7_method_14_code
def yX5_present : MethodName := ⟨RX5, "present", "()I"⟩
def RX6 : String := "StoneWorks$Surveys"
def TX6 : u_T := fun k => match k with
  | 0 => ("StoneWorks$Surveys", "isLost", "[Z", true)
  | 1 => ("StoneWorks$Surveys", "patch", "[I", true)
  | 2 => ("StoneWorks$Surveys", "filled", "I", false)
  | 3 => ("StoneWorks$Surveys", "lost", "I", false)
  | 4 => ("StoneWorks$Surveys", "heaped", "I", false)
  | 5 => ("StoneWorks$Surveys", "patches", "I", false)
  | _ => ("StoneWorks$Surveys", "largest", "I", false)
def tyX6 : Nat → FieldType := fun k => match k with
  | 0 => .array .boolean
  | 1 => .array .int
  | 2 => .int
  | 3 => .int
  | 4 => .int
  | 5 => .int
  | _ => .int
theorem nmX6 : ∀ a, a < 7 → ∀ b, b < 7 → a ≠ b → (TX6 a).2.1 ≠ (TX6 b).2.1 := by decide +kernel
theorem tyX6_ok : ∀ k, k < 7 → parseFieldDescriptor (TX6 k).2.2.1 = some (tyX6 k) := by decide +kernel
abbrev cX6_init : ByteArray := prog_8_method_1_code
def yX6_init : MethodName := ⟨RX6, "<init>", "()V"⟩
abbrev cX6_result : ByteArray := prog_8_method_2_code
def yX6_result : MethodName := ⟨RX6, "result", "(I)I"⟩
abbrev cX6_compare : ByteArray := prog_8_method_3_code
def yX6_compare : MethodName := ⟨RX6, "compare", "(LStoneWorks$Sheets;IIII)V"⟩
abbrev cX6_gather : ByteArray := prog_8_method_4_code
def yX6_gather : MethodName := ⟨RX6, "gather", "(II)V"⟩
abbrev cX6_spread : ByteArray := prog_8_method_5_code
def yX6_spread : MethodName := ⟨RX6, "spread", "(II)V"⟩
abbrev cX6_join : ByteArray := prog_8_method_6_code
def yX6_join : MethodName := ⟨RX6, "join", "(I)V"⟩
def RX7 : String := "StoneWorks$Wall"
def TX7 : u_T := fun k => match k with
  | 0 => ("StoneWorks$Wall", "measures", "[I", true)
  | 1 => ("StoneWorks$Wall", "thicks", "[I", true)
  | 2 => ("StoneWorks$Wall", "weights", "[I", true)
  | _ => ("StoneWorks$Wall", "layers", "I", false)
def tyX7 : Nat → FieldType := fun k => match k with
  | 0 => .array .int
  | 1 => .array .int
  | 2 => .array .int
  | _ => .int
theorem nmX7 : ∀ a, a < 4 → ∀ b, b < 4 → a ≠ b → (TX7 a).2.1 ≠ (TX7 b).2.1 := by decide +kernel
theorem tyX7_ok : ∀ k, k < 4 → parseFieldDescriptor (TX7 k).2.2.1 = some (tyX7 k) := by decide +kernel
abbrev cX7_init : ByteArray := prog_9_method_1_code
def yX7_init : MethodName := ⟨RX7, "<init>", "()V"⟩
abbrev cX7_isMeasure : ByteArray := prog_9_method_2_code
def yX7_isMeasure : MethodName := ⟨RX7, "isMeasure", "(I)Z"⟩
abbrev cX7_mayMeasure : ByteArray := prog_9_method_3_code
def yX7_mayMeasure : MethodName := ⟨RX7, "mayMeasure", "(II)Z"⟩
abbrev cX7_mayBeLayer : ByteArray := prog_9_method_4_code
def yX7_mayBeLayer : MethodName := ⟨RX7, "mayBeLayer", "(II)Z"⟩
abbrev cX7_measure : ByteArray := prog_9_method_5_code
def yX7_measure : MethodName := ⟨RX7, "measure", "(I)I"⟩
abbrev cX7_change : ByteArray := prog_9_method_6_code
def yX7_change : MethodName := ⟨RX7, "change", "(II)I"⟩
abbrev cX7_layers : ByteArray := prog_9_method_7_code
def yX7_layers : MethodName := ⟨RX7, "layers", "()I"⟩
abbrev cX7_hasLayer : ByteArray := prog_9_method_8_code
def yX7_hasLayer : MethodName := ⟨RX7, "hasLayer", "(I)Z"⟩
abbrev cX7_isFull : ByteArray := prog_9_method_9_code
def yX7_isFull : MethodName := ⟨RX7, "isFull", "()Z"⟩
abbrev cX7_addLayer : ByteArray := prog_9_method_10_code
def yX7_addLayer : MethodName := ⟨RX7, "addLayer", "(II)I"⟩
abbrev cX7_putLayer : ByteArray := prog_9_method_11_code
def yX7_putLayer : MethodName := ⟨RX7, "putLayer", "(III)V"⟩
abbrev cX7_thickOf : ByteArray := prog_9_method_12_code
def yX7_thickOf : MethodName := ⟨RX7, "thickOf", "(I)I"⟩
abbrev cX7_weightOf : ByteArray := prog_9_method_13_code
def yX7_weightOf : MethodName := ⟨RX7, "weightOf", "(I)I"⟩
abbrev cX7_widthWithout : ByteArray := prog_9_method_14_code
def yX7_widthWithout : MethodName := ⟨RX7, "widthWithout", "(II)I"⟩
abbrev cX7_volumeOf : ByteArray := prog_9_method_15_code
def yX7_volumeOf : MethodName := ⟨RX7, "volumeOf", "(I)I"⟩
abbrev cX7_wholeVolume : ByteArray := prog_9_method_16_code
def yX7_wholeVolume : MethodName := ⟨RX7, "wholeVolume", "()I"⟩
abbrev cX7_holds : ByteArray := prog_9_method_17_code
def yX7_holds : MethodName := ⟨RX7, "holds", "(I)Z"⟩
abbrev cX7_kindOf : ByteArray := prog_9_method_18_code
def yX7_kindOf : MethodName := ⟨RX7, "kindOf", "(I)I"⟩
abbrev cX7_isOfKind : ByteArray := prog_9_method_19_code
def yX7_isOfKind : MethodName := ⟨RX7, "isOfKind", "(II)Z"⟩
abbrev cX7_holding : ByteArray := prog_9_method_20_code
def yX7_holding : MethodName := ⟨RX7, "holding", "()I"⟩
abbrev cX7_loose : ByteArray := prog_9_method_21_code
def yX7_loose : MethodName := ⟨RX7, "loose", "()I"⟩
abbrev cX7_blockSize : ByteArray := prog_9_method_22_code
def yX7_blockSize : MethodName := ⟨RX7, "blockSize", "()I"⟩
def RX8 : String := "StoneWorks"
def TX8 : u_T := fun k => match k with
  | 0 => ("StoneWorks", "sheets", "LStoneWorks$Sheets;", true)
  | 1 => ("StoneWorks", "wall", "LStoneWorks$Wall;", true)
  | 2 => ("StoneWorks", "quarry", "LStoneWorks$Quarry;", true)
  | 3 => ("StoneWorks", "pile", "LStoneWorks$Pile;", true)
  | 4 => ("StoneWorks", "hours", "LStoneWorks$Hours;", true)
  | 5 => ("StoneWorks", "surveys", "LStoneWorks$Surveys;", true)
  | 6 => ("StoneWorks", "asks", "LStoneWorks$Asks;", true)
  | _ => ("StoneWorks", "status", "I", false)
def tyX8 : Nat → FieldType := fun k => match k with
  | 0 => .object "StoneWorks$Sheets"
  | 1 => .object "StoneWorks$Wall"
  | 2 => .object "StoneWorks$Quarry"
  | 3 => .object "StoneWorks$Pile"
  | 4 => .object "StoneWorks$Hours"
  | 5 => .object "StoneWorks$Surveys"
  | 6 => .object "StoneWorks$Asks"
  | _ => .int
theorem nmX8 : ∀ a, a < 8 → ∀ b, b < 8 → a ≠ b → (TX8 a).2.1 ≠ (TX8 b).2.1 := by decide +kernel
theorem tyX8_ok : ∀ k, k < 8 → parseFieldDescriptor (TX8 k).2.2.1 = some (tyX8 k) := by decide +kernel
abbrev cX8_init : ByteArray := prog_1_method_1_code
def yX8_init : MethodName := ⟨RX8, "<init>", "()V"⟩
abbrev cX8_sheet : ByteArray := prog_1_method_2_code
def yX8_sheet : MethodName := ⟨RX8, "sheet", "(III)I"⟩
abbrev cX8_set : ByteArray := prog_1_method_3_code
def yX8_set : MethodName := ⟨RX8, "set", "(III)I"⟩
abbrev cX8_copy : ByteArray := prog_1_method_4_code
def yX8_copy : MethodName := ⟨RX8, "copy", "(IIIII)I"⟩
abbrev cX8_drop : ByteArray := prog_1_method_5_code
def yX8_drop : MethodName := ⟨RX8, "drop", "(I)I"⟩
abbrev cX8_wall : ByteArray := prog_1_method_6_code
def yX8_wall : MethodName := ⟨RX8, "wall", "(II)I"⟩
abbrev cX8_layer : ByteArray := prog_1_method_7_code
def yX8_layer : MethodName := ⟨RX8, "layer", "(II)I"⟩
abbrev cX8_relay : ByteArray := prog_1_method_8_code
def yX8_relay : MethodName := ⟨RX8, "relay", "(III)I"⟩
abbrev cX8_told : ByteArray := prog_1_method_9_code
def yX8_told : MethodName := ⟨RX8, "told", "(II)I"⟩
abbrev cX8_wide : ByteArray := prog_1_method_10_code
def yX8_wide : MethodName := ⟨RX8, "wide", "(II)I"⟩
abbrev cX8_volume : ByteArray := prog_1_method_11_code
def yX8_volume : MethodName := ⟨RX8, "volume", "(I)I"⟩
abbrev cX8_shared : ByteArray := prog_1_method_12_code
def yX8_shared : MethodName := ⟨RX8, "shared", "(IIII)I"⟩
abbrev cX8_lay : ByteArray := prog_1_method_13_code
def yX8_lay : MethodName := ⟨RX8, "lay", "(II)I"⟩
abbrev cX8_lift : ByteArray := prog_1_method_14_code
def yX8_lift : MethodName := ⟨RX8, "lift", "(II)I"⟩
abbrev cX8_reaches : ByteArray := prog_1_method_15_code
def yX8_reaches : MethodName := ⟨RX8, "reaches", "(IIII)I"⟩
abbrev cX8_order : ByteArray := prog_1_method_16_code
def yX8_order : MethodName := ⟨RX8, "order", "(III)I"⟩
abbrev cX8_planned : ByteArray := prog_1_method_17_code
def yX8_planned : MethodName := ⟨RX8, "planned", "(IIIIIIII)I"⟩
abbrev cX8_dayOf : ByteArray := prog_1_method_18_code
def yX8_dayOf : MethodName := ⟨RX8, "dayOf", "(IIII)I"⟩
abbrev cX8_isCrane : ByteArray := prog_1_method_19_code
def yX8_isCrane : MethodName := ⟨RX8, "isCrane", "(II)Z"⟩
abbrev cX8_storm : ByteArray := prog_1_method_20_code
def yX8_storm : MethodName := ⟨RX8, "storm", "(IIII)I"⟩
abbrev cX8_design : ByteArray := prog_1_method_21_code
def yX8_design : MethodName := ⟨RX8, "design", "(IIIIII)I"⟩
abbrev cX8_readHours : ByteArray := prog_1_method_22_code
def yX8_readHours : MethodName := ⟨RX8, "readHours", "(III)I"⟩
abbrev cX8_leastDesign : ByteArray := prog_1_method_23_code
def yX8_leastDesign : MethodName := ⟨RX8, "leastDesign", "(III)I"⟩
abbrev cX8_survey : ByteArray := prog_1_method_24_code
def yX8_survey : MethodName := ⟨RX8, "survey", "(IIIIII)I"⟩
abbrev cX8_wave : ByteArray := prog_1_method_25_code
def yX8_wave : MethodName := ⟨RX8, "wave", "(IIIIIII)J"⟩
abbrev cX8_calm : ByteArray := prog_1_method_26_code
def yX8_calm : MethodName := ⟨RX8, "calm", "(IIIIII)I"⟩
abbrev cX8_areSpots : ByteArray := prog_1_method_27_code
def yX8_areSpots : MethodName := ⟨RX8, "areSpots", "(IIIII)Z"⟩
abbrev cX8_calmest : ByteArray := prog_1_method_28_code
def yX8_calmest : MethodName := ⟨RX8, "calmest", "(IIIIII)I"⟩
abbrev cX8_kind : ByteArray := prog_1_method_29_code
def yX8_kind : MethodName := ⟨RX8, "kind", "(I)I"⟩
abbrev cX8_as : ByteArray := prog_1_method_30_code
def yX8_as : MethodName := ⟨RX8, "as", "(II)I"⟩
abbrev cX8_ask : ByteArray := prog_1_method_31_code
def yX8_ask : MethodName := ⟨RX8, "ask", "(II)I"⟩
abbrev cX8_trace : ByteArray := prog_1_method_32_code
def yX8_trace : MethodName := ⟨RX8, "trace", "(I)I"⟩
abbrev cX8_count : ByteArray := prog_1_method_33_code
def yX8_count : MethodName := ⟨RX8, "count", "(I)I"⟩
abbrev cX8_status : ByteArray := prog_1_method_34_code
def yX8_status : MethodName := ⟨RX8, "status", "()I"⟩
abbrev cX8_found : ByteArray := prog_1_method_35_code
def yX8_found : MethodName := ⟨RX8, "found", "(I)I"⟩
abbrev cX8_fine : ByteArray := prog_1_method_36_code
def yX8_fine : MethodName := ⟨RX8, "fine", "(I)I"⟩
abbrev cX8_within : ByteArray := prog_1_method_37_code
def yX8_within : MethodName := ⟨RX8, "within", "(III)Z"⟩
def RX9 : String := "StoneWorksModel"
def TX9 : u_T := fun k => match k with
  | 0 => ("StoneWorksModel", "thrown", "I", false)
  | 1 => ("StoneWorksModel", "status", "I", false)
  | 2 => ("StoneWorksModel", "lane", "[I", true)
  | 3 => ("StoneWorksModel", "many", "[I", true)
  | 4 => ("StoneWorksModel", "item", "[I", true)
  | 5 => ("StoneWorksModel", "wall", "[I", true)
  | 6 => ("StoneWorksModel", "layers", "I", false)
  | 7 => ("StoneWorksModel", "thick", "[I", true)
  | 8 => ("StoneWorksModel", "weight", "[I", true)
  | 9 => ("StoneWorksModel", "has", "[I", true)
  | 10 => ("StoneWorksModel", "needs", "[I", true)
  | 11 => ("StoneWorksModel", "isOpen", "[Z", true)
  | 12 => ("StoneWorksModel", "gives", "[I", true)
  | 13 => ("StoneWorksModel", "row", "[I", true)
  | 14 => ("StoneWorksModel", "ordered", "I", false)
  | 15 => ("StoneWorksModel", "orderRow", "[I", true)
  | 16 => ("StoneWorksModel", "orderPlace", "[I", true)
  | 17 => ("StoneWorksModel", "then", "[I", true)
  | 18 => ("StoneWorksModel", "patch", "[I", true)
  | 19 => ("StoneWorksModel", "trace", "[I", true)
  | _ => ("StoneWorksModel", "traced", "I", false)
def tyX9 : Nat → FieldType := fun k => match k with
  | 0 => .int
  | 1 => .int
  | 2 => .array .int
  | 3 => .array .int
  | 4 => .array .int
  | 5 => .array .int
  | 6 => .int
  | 7 => .array .int
  | 8 => .array .int
  | 9 => .array .int
  | 10 => .array .int
  | 11 => .array .boolean
  | 12 => .array .int
  | 13 => .array .int
  | 14 => .int
  | 15 => .array .int
  | 16 => .array .int
  | 17 => .array .int
  | 18 => .array .int
  | 19 => .array .int
  | _ => .int
theorem nmX9 : ∀ a, a < 21 → ∀ b, b < 21 → a ≠ b → (TX9 a).2.1 ≠ (TX9 b).2.1 := by decide +kernel
theorem tyX9_ok : ∀ k, k < 21 → parseFieldDescriptor (TX9 k).2.2.1 = some (tyX9 k) := by decide +kernel
abbrev cX9_init : ByteArray := prog_11_method_1_code
def yX9_init : MethodName := ⟨RX9, "<init>", "()V"⟩
abbrev cX9_in : ByteArray := prog_11_method_3_code
def yX9_in : MethodName := ⟨RX9, "in", "(JJJ)Z"⟩
abbrev cX9_found : ByteArray := prog_11_method_4_code
def yX9_found : MethodName := ⟨RX9, "found", "(I)I"⟩
abbrev cX9_isSheet : ByteArray := prog_11_method_5_code
def yX9_isSheet : MethodName := ⟨RX9, "isSheet", "(I)Z"⟩
abbrev cX9_sheet : ByteArray := prog_11_method_6_code
def yX9_sheet : MethodName := ⟨RX9, "sheet", "(III)I"⟩
abbrev cX9_set : ByteArray := prog_11_method_7_code
def yX9_set : MethodName := ⟨RX9, "set", "(III)I"⟩
abbrev cX9_copy : ByteArray := prog_11_method_8_code
def yX9_copy : MethodName := ⟨RX9, "copy", "(IIIII)I"⟩
abbrev cX9_drop : ByteArray := prog_11_method_9_code
def yX9_drop : MethodName := ⟨RX9, "drop", "(I)I"⟩
abbrev cX9_lookAt : ByteArray := prog_11_method_10_code
def yX9_lookAt : MethodName := ⟨RX9, "lookAt", "(III)I"⟩
abbrev cX9_wall : ByteArray := prog_11_method_11_code
def yX9_wall : MethodName := ⟨RX9, "wall", "(II)I"⟩
abbrev cX9_isLaid : ByteArray := prog_11_method_12_code
def yX9_isLaid : MethodName := ⟨RX9, "isLaid", "(II)Z"⟩
abbrev cX9_isLayer : ByteArray := prog_11_method_13_code
def yX9_isLayer : MethodName := ⟨RX9, "isLayer", "(I)Z"⟩
abbrev cX9_layer : ByteArray := prog_11_method_14_code
def yX9_layer : MethodName := ⟨RX9, "layer", "(II)I"⟩
abbrev cX9_relay : ByteArray := prog_11_method_15_code
def yX9_relay : MethodName := ⟨RX9, "relay", "(III)I"⟩
abbrev cX9_holds : ByteArray := prog_11_method_16_code
def yX9_holds : MethodName := ⟨RX9, "holds", "(I)Z"⟩
abbrev cX9_told : ByteArray := prog_11_method_17_code
def yX9_told : MethodName := ⟨RX9, "told", "(II)I"⟩
abbrev cX9_wideOf : ByteArray := prog_11_method_18_code
def yX9_wideOf : MethodName := ⟨RX9, "wideOf", "(II)I"⟩
abbrev cX9_wide : ByteArray := prog_11_method_19_code
def yX9_wide : MethodName := ⟨RX9, "wide", "(II)I"⟩
abbrev cX9_volume : ByteArray := prog_11_method_20_code
def yX9_volume : MethodName := ⟨RX9, "volume", "(I)I"⟩
abbrev cX9_most : ByteArray := prog_11_method_21_code
def yX9_most : MethodName := ⟨RX9, "most", "()I"⟩
abbrev cX9_shared : ByteArray := prog_11_method_22_code
def yX9_shared : MethodName := ⟨RX9, "shared", "(IIII)I"⟩
abbrev cX9_isPlace : ByteArray := prog_11_method_23_code
def yX9_isPlace : MethodName := ⟨RX9, "isPlace", "(II)Z"⟩
abbrev cX9_isIn : ByteArray := prog_11_method_24_code
def yX9_isIn : MethodName := ⟨RX9, "isIn", "(II)Z"⟩
abbrev cX9_lay : ByteArray := prog_11_method_25_code
def yX9_lay : MethodName := ⟨RX9, "lay", "(II)I"⟩
abbrev cX9_lift : ByteArray := prog_11_method_26_code
def yX9_lift : MethodName := ⟨RX9, "lift", "(II)I"⟩
abbrev cX9_size : ByteArray := prog_11_method_27_code
def yX9_size : MethodName := ⟨RX9, "size", "(I)I"⟩
abbrev cX9_isReached : ByteArray := prog_11_method_28_code
def yX9_isReached : MethodName := ⟨RX9, "isReached", "(IIII)Z"⟩
abbrev cX9_isCrane : ByteArray := prog_11_method_29_code
def yX9_isCrane : MethodName := ⟨RX9, "isCrane", "(II)Z"⟩
abbrev cX9_reaches : ByteArray := prog_11_method_30_code
def yX9_reaches : MethodName := ⟨RX9, "reaches", "(IIII)I"⟩
abbrev cX9_findOrder : ByteArray := prog_11_method_31_code
def yX9_findOrder : MethodName := ⟨RX9, "findOrder", "(III)V"⟩
abbrev cX9_order : ByteArray := prog_11_method_32_code
def yX9_order : MethodName := ⟨RX9, "order", "(III)I"⟩
abbrev cX9_planned : ByteArray := prog_11_method_33_code
def yX9_planned : MethodName := ⟨RX9, "planned", "(IIIIIIII)I"⟩
abbrev cX9_lookStorm : ByteArray := prog_11_method_34_code
def yX9_lookStorm : MethodName := ⟨RX9, "lookStorm", "(III)I"⟩
abbrev cX9_root : ByteArray := prog_11_method_35_code
def yX9_root : MethodName := ⟨RX9, "root", "(I)I"⟩
abbrev cX9_harmBy : ByteArray := prog_11_method_36_code
def yX9_harmBy : MethodName := ⟨RX9, "harmBy", "(III)I"⟩
abbrev cX9_overBy : ByteArray := prog_11_method_37_code
def yX9_overBy : MethodName := ⟨RX9, "overBy", "(III)I"⟩
abbrev cX9_storm : ByteArray := prog_11_method_38_code
def yX9_storm : MethodName := ⟨RX9, "storm", "(IIII)I"⟩
abbrev cX9_design : ByteArray := prog_11_method_39_code
def yX9_design : MethodName := ⟨RX9, "design", "(IIIIII)I"⟩
abbrev cX9_survey : ByteArray := prog_11_method_40_code
def yX9_survey : MethodName := ⟨RX9, "survey", "(IIIIII)I"⟩
abbrev cX9_waveAt : ByteArray := prog_11_method_41_code
def yX9_waveAt : MethodName := ⟨RX9, "waveAt", "(IIIIIII)J"⟩
abbrev cX9_isHarbour : ByteArray := prog_11_method_42_code
def yX9_isHarbour : MethodName := ⟨RX9, "isHarbour", "(III)Z"⟩
abbrev cX9_wave : ByteArray := prog_11_method_43_code
def yX9_wave : MethodName := ⟨RX9, "wave", "(IIIIIII)J"⟩
abbrev cX9_calm : ByteArray := prog_11_method_44_code
def yX9_calm : MethodName := ⟨RX9, "calm", "(IIIIII)I"⟩
abbrev cX9_kindOf : ByteArray := prog_11_method_45_code
def yX9_kindOf : MethodName := ⟨RX9, "kindOf", "(I)I"⟩
abbrev cX9_isOf : ByteArray := prog_11_method_46_code
def yX9_isOf : MethodName := ⟨RX9, "isOf", "(II)Z"⟩
abbrev cX9_kind : ByteArray := prog_11_method_47_code
def yX9_kind : MethodName := ⟨RX9, "kind", "(I)I"⟩
abbrev cX9_as : ByteArray := prog_11_method_48_code
def yX9_as : MethodName := ⟨RX9, "as", "(II)I"⟩
abbrev cX9_began : ByteArray := prog_11_method_49_code
def yX9_began : MethodName := ⟨RX9, "began", "(I)V"⟩
abbrev cX9_coverMark : ByteArray := prog_11_method_50_code
def yX9_coverMark : MethodName := ⟨RX9, "coverMark", "(II)I"⟩
abbrev cX9_plainWorth : ByteArray := prog_11_method_51_code
def yX9_plainWorth : MethodName := ⟨RX9, "plainWorth", "(I)I"⟩
abbrev cX9_worthOf : ByteArray := prog_11_method_52_code
def yX9_worthOf : MethodName := ⟨RX9, "worthOf", "(II)I"⟩
abbrev cX9_markOf : ByteArray := prog_11_method_53_code
def yX9_markOf : MethodName := ⟨RX9, "markOf", "(II)I"⟩
abbrev cX9_ask : ByteArray := prog_11_method_54_code
def yX9_ask : MethodName := ⟨RX9, "ask", "(II)I"⟩
abbrev cX9_trace : ByteArray := prog_11_method_55_code
def yX9_trace : MethodName := ⟨RX9, "trace", "(I)I"⟩
abbrev cX9_count : ByteArray := prog_11_method_56_code
def yX9_count : MethodName := ⟨RX9, "count", "(I)I"⟩
abbrev cX9_status : ByteArray := prog_11_method_57_code
def yX9_status : MethodName := ⟨RX9, "status", "()I"⟩
abbrev classes : List vw_C := [(RX0, TX0, 2), (RX0, TX0, 2), (RX2, TX2, 3), (RX3, TX3, 4), (RX4, TX4, 5), (RX5, TX5, 3), (RX6, TX6, 7), (RX7, TX7, 4), (RX8, TX8, 8), (RX9, TX9, 21)]
abbrev clTy : List (Nat → FieldType) := [tyX0, tyX0, tyX2, tyX3, tyX4, tyX5, tyX6, tyX7, tyX8, tyX9]
def cNs : List String := ["StoneWorks", "StoneWorks$Asks", "StoneWorks$Harbour", "StoneWorks$Hours", "StoneWorks$Pile", "StoneWorks$Quarry", "StoneWorks$Sheets", "StoneWorks$Surveys", "StoneWorks$Wall", "StoneWorksLaw", "StoneWorksModel", "java/util/Arrays"]
/-- the methods: name, bytes, locals, what it gives, frames and locals that it needs, 0: of an object, 1: static; the number of its class's name -/
abbrev Mt : Type := MethodName × ByteArray × Nat × Option FieldType × Nat × Nat × Nat × Nat
noncomputable def mT_0 : List Mt := [
  (⟨"java/util/Arrays", "fill", "([II)V"⟩, prog_14_method_103_code, 4, none, 0, 0, 1, 11),
  (⟨"StoneWorks", "sheet", "(III)I"⟩, prog_1_method_2_code, 4, some .int, 3, 70, 0, 0),
  (⟨"StoneWorks$Sheets", "isNumber", "(I)Z"⟩, prog_7_method_2_code, 1, some .boolean, 1, 22, 1, 6),
  (⟨"StoneWorks", "within", "(III)Z"⟩, prog_1_method_37_code, 3, some .boolean, 0, 0, 1, 0),
  (⟨"StoneWorks", "found", "(I)I"⟩, prog_1_method_35_code, 2, some .int, 0, 0, 0, 0),
  (⟨"StoneWorks$Sheets", "make", "(III)V"⟩, prog_7_method_7_code, 5, none, 2, 46, 0, 6),
  (⟨"java/util/Arrays", "fill", "([IIII)V"⟩, prog_14_method_104_code, 5, none, 1, 22, 1, 11),
  (⟨"java/util/Arrays", "rangeCheck", "(III)V"⟩, prog_14_method_30_code, 3, none, 0, 0, 1, 11),
  (⟨"StoneWorks", "fine", "(I)I"⟩, prog_1_method_36_code, 2, some .int, 0, 0, 0, 0),
  (⟨"StoneWorks", "set", "(III)I"⟩, prog_1_method_3_code, 5, some .int, 2, 46, 0, 0),
  (⟨"StoneWorks$Sheets", "findingAt", "(III)I"⟩, prog_7_method_6_code, 4, some .int, 1, 23, 0, 6),
  (⟨"StoneWorks$Sheets", "isMissing", "(I)Z"⟩, prog_7_method_3_code, 2, some .boolean, 0, 0, 0, 6),
  (⟨"StoneWorks$Sheets", "hasItems", "(III)Z"⟩, prog_7_method_5_code, 4, some .boolean, 0, 0, 0, 6),
  (⟨"StoneWorks$Sheets", "put", "(III)I"⟩, prog_7_method_10_code, 5, some .int, 1, 21, 0, 6),
  (⟨"StoneWorks$Sheets", "cutToLane", "(II)I"⟩, prog_7_method_11_code, 2, some .int, 0, 0, 1, 6),
  (⟨"StoneWorks", "copy", "(IIIII)I"⟩, prog_1_method_4_code, 6, some .int, 2, 51, 0, 0),
  (⟨"StoneWorks$Sheets", "areOfOneLane", "(II)Z"⟩, prog_7_method_4_code, 3, some .boolean, 0, 0, 0, 6),
  (⟨"StoneWorks$Sheets", "move", "(IIIII)V"⟩, prog_7_method_12_code, 6, none, 1, 26, 0, 6),
  (⟨"StoneWorks", "drop", "(I)I"⟩, prog_1_method_5_code, 2, some .int, 2, 42, 0, 0),
  (⟨"StoneWorks$Sheets", "remove", "(I)I"⟩, prog_7_method_8_code, 3, some .int, 0, 0, 0, 6),
  (⟨"StoneWorks", "wall", "(II)I"⟩, prog_1_method_6_code, 3, some .int, 2, 43, 0, 0),
  (⟨"StoneWorks$Wall", "isMeasure", "(I)Z"⟩, prog_9_method_2_code, 1, some .boolean, 1, 22, 1, 8),
  (⟨"StoneWorks$Wall", "mayMeasure", "(II)Z"⟩, prog_9_method_3_code, 2, some .boolean, 1, 22, 1, 8),
  (⟨"StoneWorks$Wall", "change", "(II)I"⟩, prog_9_method_6_code, 4, some .int, 0, 0, 0, 8),
  (⟨"StoneWorks", "layer", "(II)I"⟩, prog_1_method_7_code, 3, some .int, 2, 46, 0, 0),
  (⟨"StoneWorks$Wall", "mayBeLayer", "(II)Z"⟩, prog_9_method_4_code, 2, some .boolean, 1, 22, 1, 8),
  (⟨"StoneWorks$Wall", "isFull", "()Z"⟩, prog_9_method_9_code, 1, some .boolean, 0, 0, 0, 8),
  (⟨"StoneWorks$Wall", "addLayer", "(II)I"⟩, prog_9_method_10_code, 4, some .int, 1, 23, 0, 8),
  (⟨"StoneWorks$Wall", "putLayer", "(III)V"⟩, prog_9_method_11_code, 4, none, 0, 0, 0, 8),
  (⟨"StoneWorks", "relay", "(III)I"⟩, prog_1_method_8_code, 4, some .int, 2, 43, 0, 0)]
noncomputable def mT_1 : List Mt := [
  (⟨"StoneWorks$Wall", "hasLayer", "(I)Z"⟩, prog_9_method_8_code, 2, some .boolean, 1, 22, 0, 8),
  (⟨"StoneWorks", "told", "(II)I"⟩, prog_1_method_9_code, 3, some .int, 2, 43, 0, 0),
  (⟨"StoneWorks$Wall", "measure", "(I)I"⟩, prog_9_method_5_code, 2, some .int, 0, 0, 0, 8),
  (⟨"StoneWorks$Wall", "thickOf", "(I)I"⟩, prog_9_method_12_code, 2, some .int, 0, 0, 0, 8),
  (⟨"StoneWorks$Wall", "weightOf", "(I)I"⟩, prog_9_method_13_code, 2, some .int, 0, 0, 0, 8),
  (⟨"StoneWorks$Wall", "holds", "(I)Z"⟩, prog_9_method_17_code, 3, some .boolean, 0, 0, 0, 8),
  (⟨"StoneWorks", "wide", "(II)I"⟩, prog_1_method_10_code, 3, some .int, 2, 47, 0, 0),
  (⟨"StoneWorks$Wall", "layers", "()I"⟩, prog_9_method_7_code, 1, some .int, 0, 0, 0, 8),
  (⟨"StoneWorks$Wall", "widthWithout", "(II)I"⟩, prog_9_method_14_code, 7, some .int, 1, 21, 0, 8),
  (⟨"StoneWorks", "volume", "(I)I"⟩, prog_1_method_11_code, 2, some .int, 3, 71, 0, 0),
  (⟨"StoneWorks$Wall", "wholeVolume", "()I"⟩, prog_9_method_16_code, 3, some .int, 2, 47, 0, 8),
  (⟨"StoneWorks$Wall", "volumeOf", "(I)I"⟩, prog_9_method_15_code, 5, some .int, 2, 47, 0, 8),
  (⟨"StoneWorks", "shared", "(IIII)I"⟩, prog_1_method_12_code, 7, some .int, 4, 94, 0, 0),
  (⟨"StoneWorks$Quarry", "read", "(LStoneWorks$Sheets;II)Z"⟩, prog_6_method_2_code, 8, some .boolean, 2, 47, 0, 5),
  (⟨"StoneWorks$Sheets", "areWithin", "(IIII)Z"⟩, prog_7_method_13_code, 6, some .boolean, 1, 22, 0, 6),
  (⟨"StoneWorks$Sheets", "item", "(II)I"⟩, prog_7_method_9_code, 3, some .int, 0, 0, 0, 6),
  (y_adm, prog_6_method_3_code, 4, none, 0, 0, 0, 5),
  (⟨"StoneWorks$Quarry", "share", "()V"⟩, prog_6_method_4_code, 5, none, 3, 70, 0, 5),
  (⟨"StoneWorks$Quarry", "mostGiven", "()I"⟩, prog_6_method_7_code, 3, some .int, 2, 45, 0, 5),
  (⟨"StoneWorks$Quarry", "cutOff", "(I)I"⟩, prog_6_method_8_code, 4, some .int, 1, 22, 0, 5),
  (⟨"StoneWorks$Quarry", "isTakenBeyond", "(II)Z"⟩, prog_6_method_9_code, 3, some .boolean, 0, 0, 0, 5),
  (⟨"StoneWorks$Quarry", "mostBetween", "(III)I"⟩, prog_6_method_10_code, 6, some .int, 2, 45, 0, 5),
  (⟨"StoneWorks$Quarry", "waste", "()I"⟩, prog_6_method_5_code, 1, some .int, 0, 0, 0, 5),
  (⟨"StoneWorks$Quarry", "given", "(II)I"⟩, prog_6_method_6_code, 3, some .int, 0, 0, 0, 5),
  (⟨"StoneWorks", "lay", "(II)I"⟩, prog_1_method_13_code, 3, some .int, 3, 65, 0, 0),
  (⟨"StoneWorks$Pile", "isPlace", "(II)Z"⟩, prog_5_method_2_code, 2, some .boolean, 1, 22, 1, 4),
  (⟨"StoneWorks$Pile", "add", "(II)Z"⟩, prog_5_method_7_code, 3, some .boolean, 2, 43, 0, 4),
  (⟨"StoneWorks$Pile", "at", "(II)I"⟩, prog_5_method_3_code, 2, some .int, 0, 0, 1, 4),
  (⟨"StoneWorks$Pile", "isBorne", "([ZII)Z"⟩, prog_5_method_10_code, 3, some .boolean, 1, 21, 1, 4),
  (⟨"StoneWorks", "lift", "(II)I"⟩, prog_1_method_14_code, 3, some .int, 4, 87, 0, 0)]
noncomputable def mT_2 : List Mt := [
  (⟨"StoneWorks$Pile", "take", "(II)Z"⟩, prog_5_method_8_code, 3, some .boolean, 3, 65, 0, 4),
  (⟨"StoneWorks$Pile", "bears", "(II)Z"⟩, prog_5_method_9_code, 3, some .boolean, 2, 43, 0, 4),
  (⟨"StoneWorks", "reaches", "(IIII)I"⟩, prog_1_method_15_code, 5, some .int, 2, 44, 0, 0),
  (⟨"StoneWorks", "isCrane", "(II)Z"⟩, prog_1_method_19_code, 2, some .boolean, 1, 22, 1, 0),
  (⟨"StoneWorks$Pile", "isNear", "(IIII)Z"⟩, prog_5_method_4_code, 4, some .boolean, 1, 21, 1, 4),
  (⟨"StoneWorks", "order", "(III)I"⟩, prog_1_method_16_code, 4, some .int, 3, 72, 0, 0),
  (⟨"StoneWorks$Pile", "putInTurn", "(III)I"⟩, prog_5_method_11_code, 9, some .int, 2, 44, 0, 4),
  (⟨"StoneWorks", "planned", "(IIIIIIII)I"⟩, prog_1_method_17_code, 10, some .int, 3, 72, 0, 0),
  (⟨"StoneWorks$Pile", "turnOf", "(II)I"⟩, prog_5_method_12_code, 3, some .int, 1, 21, 0, 4),
  (⟨"StoneWorks", "dayOf", "(IIII)I"⟩, prog_1_method_18_code, 7, some .int, 1, 22, 0, 0),
  (⟨"StoneWorks", "storm", "(IIII)I"⟩, prog_1_method_20_code, 6, some .int, 3, 71, 0, 0),
  (⟨"StoneWorks", "readHours", "(III)I"⟩, prog_1_method_22_code, 5, some .int, 2, 47, 0, 0),
  (⟨"StoneWorks$Hours", "read", "(LStoneWorks$Sheets;III)Z"⟩, prog_4_method_2_code, 6, some .boolean, 1, 22, 0, 3),
  (⟨"StoneWorks$Wall", "blockSize", "()I"⟩, prog_9_method_22_code, 3, some .int, 0, 0, 0, 8),
  (⟨"StoneWorks$Hours", "harm", "(II)I"⟩, prog_4_method_3_code, 6, some .int, 0, 0, 0, 3),
  (⟨"StoneWorks$Hours", "over", "(I)I"⟩, prog_4_method_4_code, 5, some .int, 0, 0, 0, 3),
  (⟨"StoneWorks", "design", "(IIIIII)I"⟩, prog_1_method_21_code, 8, some .int, 3, 75, 0, 0),
  (⟨"StoneWorks", "leastDesign", "(III)I"⟩, prog_1_method_23_code, 8, some .int, 2, 48, 0, 0),
  (⟨"StoneWorks$Hours", "leastCrest", "(I)I"⟩, prog_4_method_5_code, 3, some .int, 1, 24, 0, 3),
  (⟨"StoneWorks$Hours", "leastBlockSize", "(II)I"⟩, prog_4_method_6_code, 4, some .int, 1, 25, 0, 3),
  (⟨"StoneWorks", "survey", "(IIIIII)I"⟩, prog_1_method_24_code, 7, some .int, 3, 70, 0, 0),
  (⟨"StoneWorks$Surveys", "compare", "(LStoneWorks$Sheets;IIII)V"⟩, prog_8_method_3_code, 9, none, 1, 22, 0, 7),
  (⟨"StoneWorks$Surveys", "gather", "(II)V"⟩, prog_8_method_4_code, 4, none, 2, 47, 0, 7),
  (⟨"StoneWorks$Surveys", "join", "(I)V"⟩, prog_8_method_6_code, 2, none, 0, 0, 0, 7),
  (⟨"StoneWorks$Surveys", "spread", "(II)V"⟩, prog_8_method_5_code, 7, none, 1, 21, 0, 7),
  (⟨"StoneWorks$Surveys", "result", "(I)I"⟩, prog_8_method_2_code, 2, some .int, 0, 0, 0, 7),
  (⟨"StoneWorks", "wave", "(IIIIIII)J"⟩, prog_1_method_25_code, 8, some .long, 2, 55, 0, 0),
  (⟨"StoneWorks$Harbour", "isOne", "(III)Z"⟩, prog_3_method_2_code, 3, some .boolean, 1, 22, 1, 2),
  (⟨"StoneWorks$Harbour", "comesTo", "(IIIIIII)J"⟩, prog_3_method_3_code, 12, some .long, 1, 24, 1, 2),
  (⟨"StoneWorks$Harbour", "bounced", "(III)I"⟩, prog_3_method_4_code, 5, some .int, 0, 0, 1, 2)]
noncomputable def mT_3 : List Mt := [
  (⟨"StoneWorks", "calm", "(IIIIII)I"⟩, prog_1_method_26_code, 8, some .int, 3, 89, 0, 0),
  (⟨"StoneWorks", "areSpots", "(IIIII)Z"⟩, prog_1_method_27_code, 8, some .boolean, 1, 22, 0, 0),
  (⟨"StoneWorks", "calmest", "(IIIIII)I"⟩, prog_1_method_28_code, 15, some .int, 2, 55, 0, 0),
  (⟨"StoneWorks", "kind", "(I)I"⟩, prog_1_method_29_code, 2, some .int, 2, 44, 0, 0),
  (⟨"StoneWorks$Wall", "kindOf", "(I)I"⟩, prog_9_method_18_code, 3, some .int, 1, 22, 0, 8),
  (⟨"StoneWorks", "as", "(II)I"⟩, prog_1_method_30_code, 3, some .int, 3, 67, 0, 0),
  (⟨"StoneWorks$Wall", "isOfKind", "(II)Z"⟩, prog_9_method_19_code, 4, some .boolean, 2, 44, 0, 8),
  (⟨"StoneWorks", "ask", "(II)I"⟩, prog_1_method_31_code, 3, some .int, 6, 131, 0, 0),
  (⟨"StoneWorks$Asks", "forget", "()V"⟩, prog_2_method_2_code, 1, none, 0, 0, 0, 1),
  (⟨"StoneWorks$Asks", "worth", "(LStoneWorks$Wall;I)I"⟩, prog_2_method_5_code, 3, some .int, 5, 109, 0, 1),
  (⟨"StoneWorks$Asks", "armourWorth", "(LStoneWorks$Wall;I)I"⟩, prog_2_method_9_code, 3, some .int, 4, 87, 0, 1),
  (⟨"StoneWorks$Asks", "begin", "(I)V"⟩, prog_2_method_4_code, 2, none, 0, 0, 0, 1),
  (⟨"StoneWorks$Asks", "coverWorth", "(LStoneWorks$Wall;I)I"⟩, prog_2_method_8_code, 3, some .int, 2, 43, 0, 1),
  (⟨"StoneWorks$Asks", "lentWorth", "(LStoneWorks$Wall;I)I"⟩, prog_2_method_7_code, 3, some .int, 1, 21, 0, 1),
  (⟨"StoneWorks$Asks", "armourMark", "(LStoneWorks$Wall;I)I"⟩, prog_2_method_13_code, 3, some .int, 3, 65, 0, 1),
  (⟨"StoneWorks$Asks", "coverMark", "(LStoneWorks$Wall;I)I"⟩, prog_2_method_12_code, 3, some .int, 2, 43, 0, 1),
  (⟨"StoneWorks$Asks", "lentMark", "(LStoneWorks$Wall;I)I"⟩, prog_2_method_11_code, 3, some .int, 1, 21, 0, 1),
  (⟨"StoneWorks$Asks", "looseWorth", "(LStoneWorks$Wall;I)I"⟩, prog_2_method_10_code, 3, some .int, 2, 43, 0, 1),
  (⟨"StoneWorks$Asks", "mark", "(LStoneWorks$Wall;I)I"⟩, prog_2_method_6_code, 3, some .int, 4, 87, 0, 1),
  (⟨"StoneWorks$Asks", "underMark", "(LStoneWorks$Wall;I)I"⟩, prog_2_method_14_code, 3, some .int, 2, 43, 0, 1),
  (⟨"StoneWorks", "trace", "(I)I"⟩, prog_1_method_32_code, 2, some .int, 2, 43, 0, 0),
  (⟨"StoneWorks$Asks", "traced", "(I)I"⟩, prog_2_method_3_code, 2, some .int, 1, 22, 0, 1),
  (⟨"StoneWorks", "count", "(I)I"⟩, prog_1_method_33_code, 2, some .int, 3, 66, 0, 0),
  (⟨"StoneWorks$Sheets", "present", "()I"⟩, prog_7_method_14_code, 3, some .int, 1, 21, 0, 6),
  (⟨"StoneWorks$Wall", "holding", "()I"⟩, prog_9_method_20_code, 3, some .int, 1, 22, 0, 8),
  (⟨"StoneWorks$Wall", "loose", "()I"⟩, prog_9_method_21_code, 3, some .int, 2, 44, 0, 8),
  (⟨"StoneWorks$Pile", "blocks", "()I"⟩, prog_5_method_6_code, 1, some .int, 0, 0, 0, 4),
  (⟨"StoneWorks$Pile", "allPlaces", "()I"⟩, prog_5_method_5_code, 2, some .int, 0, 0, 1, 4),
  (⟨"StoneWorks", "status", "()I"⟩, prog_1_method_34_code, 1, some .int, 0, 0, 0, 0),
  (⟨"StoneWorksModel", "sheet", "(III)I"⟩, prog_11_method_6_code, 5, some .int, 2, 45, 0, 10)]
noncomputable def mT_4 : List Mt := [
  (⟨"StoneWorksModel", "isSheet", "(I)Z"⟩, prog_11_method_5_code, 1, some .boolean, 1, 25, 1, 10),
  (⟨"StoneWorksModel", "in", "(JJJ)Z"⟩, prog_11_method_3_code, 6, some .boolean, 0, 0, 1, 10),
  (⟨"StoneWorksModel", "found", "(I)I"⟩, prog_11_method_4_code, 2, some .int, 0, 0, 0, 10),
  (⟨"StoneWorksModel", "set", "(III)I"⟩, prog_11_method_7_code, 4, some .int, 2, 45, 0, 10),
  (⟨"StoneWorksModel", "copy", "(IIIII)I"⟩, prog_11_method_8_code, 9, some .int, 2, 45, 0, 10),
  (⟨"StoneWorksModel", "drop", "(I)I"⟩, prog_11_method_9_code, 2, some .int, 2, 45, 0, 10),
  (⟨"StoneWorksModel", "wall", "(II)I"⟩, prog_11_method_11_code, 6, some .int, 1, 25, 0, 10),
  (⟨"StoneWorksModel", "layer", "(II)I"⟩, prog_11_method_14_code, 3, some .int, 2, 46, 0, 10),
  (⟨"StoneWorksModel", "isLaid", "(II)Z"⟩, prog_11_method_12_code, 2, some .boolean, 1, 25, 1, 10),
  (⟨"StoneWorksModel", "relay", "(III)I"⟩, prog_11_method_15_code, 4, some .int, 2, 46, 0, 10),
  (⟨"StoneWorksModel", "isLayer", "(I)Z"⟩, prog_11_method_13_code, 2, some .boolean, 1, 25, 0, 10),
  (⟨"StoneWorksModel", "told", "(II)I"⟩, prog_11_method_17_code, 3, some .int, 2, 46, 0, 10),
  (⟨"StoneWorksModel", "holds", "(I)Z"⟩, prog_11_method_16_code, 2, some .boolean, 0, 0, 0, 10),
  (⟨"StoneWorksModel", "wide", "(II)I"⟩, prog_11_method_19_code, 3, some .int, 1, 25, 0, 10),
  (⟨"StoneWorksModel", "wideOf", "(II)I"⟩, prog_11_method_18_code, 5, some .int, 0, 0, 0, 10),
  (⟨"StoneWorksModel", "volume", "(I)I"⟩, prog_11_method_20_code, 5, some .int, 1, 25, 0, 10),
  (⟨"StoneWorksModel", "shared", "(IIII)I"⟩, prog_11_method_22_code, 13, some .int, 2, 45, 0, 10),
  (⟨"StoneWorksModel", "lookAt", "(III)I"⟩, prog_11_method_10_code, 4, some .int, 1, 21, 0, 10),
  (⟨"StoneWorksModel", "most", "()I"⟩, prog_11_method_21_code, 7, some .int, 0, 0, 0, 10),
  (⟨"StoneWorksModel", "lay", "(II)I"⟩, prog_11_method_25_code, 3, some .int, 2, 46, 0, 10),
  (⟨"StoneWorksModel", "isPlace", "(II)Z"⟩, prog_11_method_23_code, 2, some .boolean, 1, 25, 1, 10),
  (⟨"StoneWorksModel", "isIn", "(II)Z"⟩, prog_11_method_24_code, 2, some .boolean, 0, 0, 1, 10),
  (⟨"StoneWorksModel", "lift", "(II)I"⟩, prog_11_method_26_code, 3, some .int, 2, 46, 0, 10),
  (⟨"StoneWorksModel", "reaches", "(IIII)I"⟩, prog_11_method_30_code, 5, some .int, 2, 46, 0, 10),
  (⟨"StoneWorksModel", "isCrane", "(II)Z"⟩, prog_11_method_29_code, 2, some .boolean, 1, 25, 1, 10),
  (⟨"StoneWorksModel", "isReached", "(IIII)Z"⟩, prog_11_method_28_code, 4, some .boolean, 1, 20, 1, 10),
  (⟨"StoneWorksModel", "size", "(I)I"⟩, prog_11_method_27_code, 1, some .int, 0, 0, 1, 10),
  (⟨"StoneWorksModel", "order", "(III)I"⟩, prog_11_method_32_code, 4, some .int, 3, 69, 0, 10),
  (⟨"StoneWorksModel", "findOrder", "(III)V"⟩, prog_11_method_31_code, 7, none, 2, 43, 0, 10),
  (⟨"StoneWorksModel", "planned", "(IIIIIIII)I"⟩, prog_11_method_33_code, 13, some .int, 3, 69, 0, 10)]
noncomputable def mT_5 : List Mt := [
  (⟨"StoneWorksModel", "storm", "(IIII)I"⟩, prog_11_method_38_code, 7, some .int, 3, 70, 0, 10),
  (⟨"StoneWorksModel", "lookStorm", "(III)I"⟩, prog_11_method_34_code, 7, some .int, 2, 44, 0, 10),
  (⟨"StoneWorksModel", "root", "(I)I"⟩, prog_11_method_35_code, 2, some .int, 0, 0, 1, 10),
  (⟨"StoneWorksModel", "harmBy", "(III)I"⟩, prog_11_method_36_code, 7, some .int, 0, 0, 0, 10),
  (⟨"StoneWorksModel", "overBy", "(III)I"⟩, prog_11_method_37_code, 7, some .int, 0, 0, 0, 10),
  (⟨"StoneWorksModel", "design", "(IIIIII)I"⟩, prog_11_method_39_code, 16, some .int, 3, 70, 0, 10),
  (⟨"StoneWorksModel", "survey", "(IIIIII)I"⟩, prog_11_method_40_code, 16, some .int, 2, 45, 0, 10),
  (⟨"StoneWorksModel", "wave", "(IIIIIII)J"⟩, prog_11_method_43_code, 8, some .long, 2, 52, 0, 10),
  (⟨"StoneWorksModel", "isHarbour", "(III)Z"⟩, prog_11_method_42_code, 3, some .boolean, 1, 25, 1, 10),
  (⟨"StoneWorksModel", "waveAt", "(IIIIIII)J"⟩, prog_11_method_41_code, 13, some .long, 1, 20, 1, 10),
  (⟨"StoneWorksModel", "calm", "(IIIIII)I"⟩, prog_11_method_44_code, 15, some .int, 2, 52, 0, 10),
  (⟨"StoneWorksModel", "kind", "(I)I"⟩, prog_11_method_47_code, 2, some .int, 2, 46, 0, 10),
  (⟨"StoneWorksModel", "kindOf", "(I)I"⟩, prog_11_method_45_code, 2, some .int, 1, 21, 0, 10),
  (⟨"StoneWorksModel", "as", "(II)I"⟩, prog_11_method_48_code, 3, some .int, 2, 46, 0, 10),
  (⟨"StoneWorksModel", "isOf", "(II)Z"⟩, prog_11_method_46_code, 2, some .boolean, 0, 0, 1, 10),
  (⟨"StoneWorksModel", "ask", "(II)I"⟩, prog_11_method_54_code, 3, some .int, 3, 66, 0, 10),
  (⟨"StoneWorksModel", "worthOf", "(II)I"⟩, prog_11_method_52_code, 4, some .int, 2, 43, 0, 10),
  (⟨"StoneWorksModel", "began", "(I)V"⟩, prog_11_method_49_code, 2, none, 0, 0, 0, 10),
  (⟨"StoneWorksModel", "plainWorth", "(I)I"⟩, prog_11_method_51_code, 2, some .int, 1, 21, 0, 10),
  (⟨"StoneWorksModel", "coverMark", "(II)I"⟩, prog_11_method_50_code, 3, some .int, 1, 21, 0, 10),
  (⟨"StoneWorksModel", "markOf", "(II)I"⟩, prog_11_method_53_code, 3, some .int, 2, 43, 0, 10),
  (⟨"StoneWorksModel", "trace", "(I)I"⟩, prog_11_method_55_code, 2, some .int, 1, 25, 0, 10),
  (⟨"StoneWorksModel", "count", "(I)I"⟩, prog_11_method_56_code, 5, some .int, 2, 42, 0, 10),
  (⟨"StoneWorksModel", "status", "()I"⟩, prog_11_method_57_code, 1, some .int, 0, 0, 0, 10),
  (⟨"StoneWorksLaw", "law", "([I)Z"⟩, code, 4, some .boolean, 7, 153, 1, 9)]
noncomputable def mT : List Mt := mT_0 ++ (mT_1 ++ (mT_2 ++ (mT_3 ++ (mT_4 ++ (mT_5)))))
abbrev m_Arr_fill2 : Nat := 0
abbrev m_SW_sheet : Nat := 1
abbrev m_Sheets_isNumber : Nat := 2
abbrev m_SW_within : Nat := 3
abbrev m_SW_found : Nat := 4
abbrev m_Sheets_make : Nat := 5
abbrev m_Arr_fill4 : Nat := 6
abbrev m_Arr_rangeCheck : Nat := 7
abbrev m_SW_fine : Nat := 8
abbrev m_SW_set : Nat := 9
abbrev m_Sheets_findingAt : Nat := 10
abbrev m_Sheets_isMissing : Nat := 11
abbrev m_Sheets_hasItems : Nat := 12
abbrev m_Sheets_put : Nat := 13
abbrev m_Sheets_cutToLane : Nat := 14
abbrev m_SW_copy : Nat := 15
abbrev m_Sheets_areOfOneLane : Nat := 16
abbrev m_Sheets_move : Nat := 17
abbrev m_SW_drop : Nat := 18
abbrev m_Sheets_remove : Nat := 19
abbrev m_SW_wall : Nat := 20
abbrev m_Wall_isMeasure : Nat := 21
abbrev m_Wall_mayMeasure : Nat := 22
abbrev m_Wall_change : Nat := 23
abbrev m_SW_layer : Nat := 24
abbrev m_Wall_mayBeLayer : Nat := 25
abbrev m_Wall_isFull : Nat := 26
abbrev m_Wall_addLayer : Nat := 27
abbrev m_Wall_putLayer : Nat := 28
abbrev m_SW_relay : Nat := 29
abbrev m_Wall_hasLayer : Nat := 30
abbrev m_SW_told : Nat := 31
abbrev m_Wall_measure : Nat := 32
abbrev m_Wall_thickOf : Nat := 33
abbrev m_Wall_weightOf : Nat := 34
abbrev m_Wall_holds : Nat := 35
abbrev m_SW_wide : Nat := 36
abbrev m_Wall_layers : Nat := 37
abbrev m_Wall_widthWithout : Nat := 38
abbrev m_SW_volume : Nat := 39
abbrev m_Wall_wholeVolume : Nat := 40
abbrev m_Wall_volumeOf : Nat := 41
abbrev m_SW_shared : Nat := 42
abbrev m_Quarry_read : Nat := 43
abbrev m_Sheets_areWithin : Nat := 44
abbrev m_Sheets_item : Nat := 45
abbrev m_Quarry_admit : Nat := 46
abbrev m_Quarry_share : Nat := 47
abbrev m_Quarry_mostGiven : Nat := 48
abbrev m_Quarry_cutOff : Nat := 49
abbrev m_Quarry_isTakenBeyond : Nat := 50
abbrev m_Quarry_mostBetween : Nat := 51
abbrev m_Quarry_waste : Nat := 52
abbrev m_Quarry_given : Nat := 53
abbrev m_SW_lay : Nat := 54
abbrev m_Pile_isPlace : Nat := 55
abbrev m_Pile_add : Nat := 56
abbrev m_Pile_at : Nat := 57
abbrev m_Pile_isBorne : Nat := 58
abbrev m_SW_lift : Nat := 59
abbrev m_Pile_take : Nat := 60
abbrev m_Pile_bears : Nat := 61
abbrev m_SW_reaches : Nat := 62
abbrev m_SW_isCrane : Nat := 63
abbrev m_Pile_isNear : Nat := 64
abbrev m_SW_order : Nat := 65
abbrev m_Pile_putInTurn : Nat := 66
abbrev m_SW_planned : Nat := 67
abbrev m_Pile_turnOf : Nat := 68
abbrev m_SW_dayOf : Nat := 69
abbrev m_SW_storm : Nat := 70
abbrev m_SW_readHours : Nat := 71
abbrev m_Hours_read : Nat := 72
abbrev m_Wall_blockSize : Nat := 73
abbrev m_Hours_harm : Nat := 74
abbrev m_Hours_over : Nat := 75
abbrev m_SW_design : Nat := 76
abbrev m_SW_leastDesign : Nat := 77
abbrev m_Hours_leastCrest : Nat := 78
abbrev m_Hours_leastBlockSize : Nat := 79
abbrev m_SW_survey : Nat := 80
abbrev m_Surveys_compare : Nat := 81
abbrev m_Surveys_gather : Nat := 82
abbrev m_Surveys_join : Nat := 83
abbrev m_Surveys_spread : Nat := 84
abbrev m_Surveys_result : Nat := 85
abbrev m_SW_wave : Nat := 86
abbrev m_Harbour_isOne : Nat := 87
abbrev m_Harbour_comesTo : Nat := 88
abbrev m_Harbour_bounced : Nat := 89
abbrev m_SW_calm : Nat := 90
abbrev m_SW_areSpots : Nat := 91
abbrev m_SW_calmest : Nat := 92
abbrev m_SW_kind : Nat := 93
abbrev m_Wall_kindOf : Nat := 94
abbrev m_SW_as : Nat := 95
abbrev m_Wall_isOfKind : Nat := 96
abbrev m_SW_ask : Nat := 97
abbrev m_Asks_forget : Nat := 98
abbrev m_Asks_worth : Nat := 99
abbrev m_Asks_armourWorth : Nat := 100
abbrev m_Asks_begin : Nat := 101
abbrev m_Asks_coverWorth : Nat := 102
abbrev m_Asks_lentWorth : Nat := 103
abbrev m_Asks_armourMark : Nat := 104
abbrev m_Asks_coverMark : Nat := 105
abbrev m_Asks_lentMark : Nat := 106
abbrev m_Asks_looseWorth : Nat := 107
abbrev m_Asks_mark : Nat := 108
abbrev m_Asks_underMark : Nat := 109
abbrev m_SW_trace : Nat := 110
abbrev m_Asks_traced : Nat := 111
abbrev m_SW_count : Nat := 112
abbrev m_Sheets_present : Nat := 113
abbrev m_Wall_holding : Nat := 114
abbrev m_Wall_loose : Nat := 115
abbrev m_Pile_blocks : Nat := 116
abbrev m_Pile_allPlaces : Nat := 117
abbrev m_SW_status : Nat := 118
abbrev m_Mo_sheet : Nat := 119
abbrev m_Mo_isSheet : Nat := 120
abbrev m_Mo_in : Nat := 121
abbrev m_Mo_found : Nat := 122
abbrev m_Mo_set : Nat := 123
abbrev m_Mo_copy : Nat := 124
abbrev m_Mo_drop : Nat := 125
abbrev m_Mo_wall : Nat := 126
abbrev m_Mo_layer : Nat := 127
abbrev m_Mo_isLaid : Nat := 128
abbrev m_Mo_relay : Nat := 129
abbrev m_Mo_isLayer : Nat := 130
abbrev m_Mo_told : Nat := 131
abbrev m_Mo_holds : Nat := 132
abbrev m_Mo_wide : Nat := 133
abbrev m_Mo_wideOf : Nat := 134
abbrev m_Mo_volume : Nat := 135
abbrev m_Mo_shared : Nat := 136
abbrev m_Mo_lookAt : Nat := 137
abbrev m_Mo_most : Nat := 138
abbrev m_Mo_lay : Nat := 139
abbrev m_Mo_isPlace : Nat := 140
abbrev m_Mo_isIn : Nat := 141
abbrev m_Mo_lift : Nat := 142
abbrev m_Mo_reaches : Nat := 143
abbrev m_Mo_isCrane : Nat := 144
abbrev m_Mo_isReached : Nat := 145
abbrev m_Mo_size : Nat := 146
abbrev m_Mo_order : Nat := 147
abbrev m_Mo_findOrder : Nat := 148
abbrev m_Mo_planned : Nat := 149
abbrev m_Mo_storm : Nat := 150
abbrev m_Mo_lookStorm : Nat := 151
abbrev m_Mo_root : Nat := 152
abbrev m_Mo_harmBy : Nat := 153
abbrev m_Mo_overBy : Nat := 154
abbrev m_Mo_design : Nat := 155
abbrev m_Mo_survey : Nat := 156
abbrev m_Mo_wave : Nat := 157
abbrev m_Mo_isHarbour : Nat := 158
abbrev m_Mo_waveAt : Nat := 159
abbrev m_Mo_calm : Nat := 160
abbrev m_Mo_kind : Nat := 161
abbrev m_Mo_kindOf : Nat := 162
abbrev m_Mo_as : Nat := 163
abbrev m_Mo_isOf : Nat := 164
abbrev m_Mo_ask : Nat := 165
abbrev m_Mo_worthOf : Nat := 166
abbrev m_Mo_began : Nat := 167
abbrev m_Mo_plainWorth : Nat := 168
abbrev m_Mo_coverMark : Nat := 169
abbrev m_Mo_markOf : Nat := 170
abbrev m_Mo_trace : Nat := 171
abbrev m_Mo_count : Nat := 172
abbrev m_Mo_status : Nat := 173
abbrev m_StoneWorksLaw_law : Nat := 174
abbrev En : Type := Nat × Instr × Nat × Nat × Nat × Int32 × Int64 × List Nat
def ordC : List Nat := [0, 1, 2, 3, 4, 5, 6, 7, 8, 9, 10, 11, 12, 13, 14, 15, 16, 17, 18, 19, 20, 21, 22, 23, 24, 25, 26, 27, 28, 29, 30, 31, 32, 33, 34, 35, 36, 37, 38, 39, 40, 41, 42, 43, 44, 45, 46, 47, 48, 49, 50, 51, 52, 53, 54, 55, 56, 57, 58, 59, 60, 61, 62, 63, 64, 65, 66, 67, 68, 69, 70, 71, 72, 73, 74, 75, 76, 77, 78, 79, 80, 81, 82, 83, 84, 85, 86, 87, 88, 89, 90, 91, 92, 93, 94, 95, 96, 97, 98, 99, 100, 101, 102, 103, 104, 105, 106, 107, 108, 109, 110, 111, 112, 113, 114, 115, 116, 117, 118, 119, 120, 121, 122, 123, 124, 125, 126, 127, 128, 129, 130, 131, 132, 133, 134, 135, 136, 137, 138, 139, 140, 141, 142, 143, 144, 145, 146, 147, 148, 149, 150, 151, 152, 153, 154, 155, 156, 157, 158, 159, 160, 161, 162, 163, 164, 165, 166, 167, 168, 169, 170, 171, 172, 173]
def ordS : List Nat := [0, 2, 3, 6, 7, 14, 21, 22, 25, 55, 57, 58, 63, 64, 87, 88, 89, 117, 120, 121, 128, 140, 141, 144, 145, 146, 152, 158, 159, 164]
def ordI : List Nat := [1, 4, 5, 8, 9, 10, 11, 12, 13, 15, 16, 17, 18, 19, 20, 23, 24, 26, 27, 28, 29, 30, 31, 32, 33, 34, 35, 36, 37, 38, 39, 40, 41, 42, 43, 44, 45, 46, 47, 48, 49, 50, 51, 52, 53, 54, 56, 59, 60, 61, 62, 65, 66, 67, 68, 69, 70, 71, 72, 73, 74, 75, 76, 77, 78, 79, 80, 81, 82, 83, 84, 85, 86, 90, 91, 92, 93, 94, 95, 96, 97, 98, 99, 100, 101, 102, 103, 104, 105, 106, 107, 108, 109, 110, 111, 112, 113, 114, 115, 116, 118, 119, 122, 123, 124, 125, 126, 127, 129, 130, 131, 132, 133, 134, 135, 136, 137, 138, 139, 142, 143, 147, 148, 149, 150, 151, 153, 154, 155, 156, 157, 160, 161, 162, 163, 165, 166, 167, 168, 169, 170, 171, 172, 173]
def ordX : List Nat := [4, 8, 46, 48, 49, 50, 51, 61, 69, 71, 77, 83, 84, 91, 92, 100, 101, 102, 103, 104, 105, 106, 107, 109, 122, 130, 132, 134, 137, 138, 148, 151, 153, 154, 162, 166, 167, 168, 169, 170, 1, 5, 9, 10, 11, 12, 13, 15, 16, 17, 18, 19, 20, 23, 24, 26, 27, 28, 29, 30, 31, 32, 33, 34, 35, 36, 37, 38, 39, 40, 41, 42, 43, 44, 45, 47, 52, 53, 54, 56, 59, 60, 62, 65, 66, 67, 68, 70, 72, 73, 74, 75, 76, 78, 79, 80, 81, 82, 85, 86, 90, 93, 94, 95, 96, 97, 98, 99, 108, 110, 111, 112, 113, 114, 115, 116, 118, 119, 123, 124, 125, 126, 127, 129, 131, 133, 135, 136, 139, 142, 143, 147, 149, 150, 155, 156, 157, 160, 161, 163, 165, 171, 172, 173]
def ordN : List Nat := [9, 0, 6, 11, 8, 5, 4, 3, 7, 1, 10, 2]
def ordU : List (Nat × Nat) := [(5, 0), (5, 1), (5, 2), (7, 0), (7, 1), (7, 2), (7, 3), (4, 0), (4, 1), (4, 2), (4, 3), (4, 4), (3, 0), (3, 1), (3, 2), (3, 3), (2, 0), (2, 1), (2, 2), (6, 0), (6, 1), (6, 2), (6, 3), (6, 4), (6, 5), (6, 6), (0, 0), (0, 1), (8, 0), (8, 1), (8, 2), (8, 3), (8, 4), (8, 5), (8, 6), (8, 7), (9, 0), (9, 1), (9, 2), (9, 3), (9, 4), (9, 5), (9, 6), (9, 7), (9, 8), (9, 9), (9, 10), (9, 11), (9, 12), (9, 13), (9, 14), (9, 15), (9, 16), (9, 17), (9, 18), (9, 19), (9, 20)]
def mls : List (Nat × Nat × Nat) := [(9, 13, 1), (0, 62, 2), (0, 66, 3), (0, 71, 4), (0, 75, 5), (6, 38, 6), (11, 13, 7), (0, 79, 8), (9, 18, 9), (0, 82, 10), (6, 31, 11), (6, 35, 12), (0, 86, 13), (6, 41, 14), (9, 22, 15), (0, 89, 11), (0, 92, 16), (0, 96, 12), (0, 99, 17), (9, 27, 18), (0, 103, 19), (9, 32, 20), (0, 106, 21), (0, 109, 22), (0, 112, 23), (9, 37, 24), (0, 116, 25), (0, 119, 26), (0, 124, 27), (8, 36, 28), (9, 41, 29), (0, 127, 30), (0, 130, 28), (9, 45, 31), (0, 133, 32), (0, 136, 33), (0, 139, 34), (0, 142, 35), (9, 49, 36), (0, 145, 37), (0, 149, 38), (9, 53, 39), (0, 153, 40), (8, 46, 38), (0, 156, 41), (9, 57, 42), (0, 159, 43), (5, 26, 44), (6, 51, 45), (5, 32, 45), (5, 36, 46), (0, 163, 47), (5, 40, 48), (5, 48, 49), (5, 57, 50), (5, 44, 51), (0, 166, 52), (0, 169, 53), (9, 62, 54), (0, 172, 55), (0, 175, 56), (4, 36, 57), (4, 40, 58), (9, 66, 59), (0, 179, 60), (4, 44, 61), (4, 48, 55), (9, 70, 62), (0, 182, 63), (0, 185, 64), (9, 74, 65), (0, 189, 66), (4, 51, 64), (9, 78, 67), (0, 192, 44), (0, 195, 68), (0, 198, 69), (0, 202, 45), (9, 83, 70), (0, 205, 71), (0, 221, 72), (3, 22, 45), (0, 208, 73), (0, 211, 74), (0, 214, 75), (9, 87, 76), (0, 218, 77), (0, 224, 78), (3, 32, 75), (0, 227, 79), (3, 37, 74), (9, 92, 80), (0, 230, 81), (7, 35, 45), (0, 234, 82), (7, 41, 83), (7, 45, 84), (0, 238, 85), (9, 96, 86), (0, 241, 87), (0, 248, 88), (2, 21, 89), (9, 101, 90), (0, 252, 91), (0, 256, 92), (9, 105, 93), (0, 260, 94), (8, 49, 35), (9, 109, 95), (0, 263, 96), (8, 53, 94), (9, 113, 97), (0, 266, 98), (0, 269, 99), (1, 24, 94), (1, 30, 100), (1, 55, 101), (1, 34, 102), (1, 40, 103), (1, 59, 33), (1, 62, 32), (1, 43, 104), (1, 46, 105), (1, 52, 106), (1, 65, 34), (1, 37, 107), (0, 273, 108), (1, 49, 109), (9, 117, 110), (0, 276, 111), (9, 121, 112), (0, 279, 113), (0, 282, 114), (0, 285, 115), (0, 288, 116), (0, 291, 117), (9, 125, 118), (9, 17, 119), (10, 73, 120), (10, 69, 121), (10, 80, 122), (9, 21, 123), (9, 26, 124), (9, 31, 125), (9, 36, 126), (9, 40, 127), (10, 93, 128), (9, 44, 129), (10, 98, 130), (9, 48, 131), (10, 101, 132), (9, 52, 133), (10, 104, 134), (9, 56, 135), (9, 61, 136), (10, 111, 137), (10, 119, 138), (9, 65, 139), (10, 123, 140), (10, 126, 141), (9, 69, 142), (9, 73, 143), (10, 137, 144), (10, 140, 145), (10, 130, 146), (9, 77, 147), (10, 149, 148), (9, 82, 149), (9, 86, 150), (10, 159, 151), (10, 162, 152), (10, 165, 153), (10, 168, 154), (9, 91, 155), (9, 95, 156), (9, 100, 157), (10, 177, 158), (10, 183, 159), (9, 104, 160), (9, 108, 161), (10, 188, 162), (9, 112, 163), (10, 191, 164), (9, 116, 165), (10, 207, 166), (10, 197, 167), (10, 201, 168), (10, 204, 169), (10, 210, 170), (9, 120, 171), (9, 124, 172), (9, 129, 173)]
def nls : List (Nat × Nat × Nat) := [(6, 27, 3), (8, 25, 3), (4, 26, 3), (3, 28, 3), (2, 9, 3), (1, 19, 3)]
def sls : List (Nat × Nat × Nat) := [(6, 45, 903), (8, 40, 900), (5, 52, 901), (4, 30, 902), (7, 49, 900), (2, 15, 902)]
def gls : List (Nat × Nat × Nat) := [(8, 29, 44), (8, 32, 45)]
def fls : List (Nat × Nat × Nat × Nat) := [(6, 11, 5, 0), (6, 15, 5, 1), (6, 18, 5, 2), (8, 9, 7, 0), (8, 15, 7, 1), (8, 18, 7, 2), (8, 21, 7, 3), (5, 9, 4, 0), (5, 13, 4, 1), (5, 16, 4, 2), (5, 19, 4, 3), (5, 22, 4, 4), (4, 11, 3, 0), (4, 15, 3, 1), (4, 18, 3, 2), (4, 22, 3, 3), (3, 11, 2, 0), (3, 15, 2, 1), (3, 18, 2, 2), (7, 11, 6, 0), (7, 15, 6, 1), (7, 19, 6, 2), (7, 23, 6, 3), (7, 26, 6, 4), (7, 29, 6, 5), (7, 32, 6, 6), (1, 11, 0, 0), (1, 15, 0, 1), (0, 10, 8, 0), (0, 19, 8, 1), (0, 26, 8, 2), (0, 33, 8, 3), (0, 40, 8, 4), (0, 47, 8, 5), (0, 54, 8, 6), (0, 58, 8, 7), (10, 59, 9, 0), (10, 63, 9, 1), (10, 7, 9, 2), (10, 13, 9, 3), (10, 16, 9, 4), (10, 19, 9, 5), (10, 90, 9, 6), (10, 22, 9, 7), (10, 25, 9, 8), (10, 28, 9, 9), (10, 31, 9, 10), (10, 34, 9, 11), (10, 38, 9, 12), (10, 41, 9, 13), (10, 144, 9, 14), (10, 44, 9, 15), (10, 47, 9, 16), (10, 50, 9, 17), (10, 53, 9, 18), (10, 56, 9, 19), (10, 194, 9, 20)]
def cIs : List (Nat × Nat × Int32) := [(0, 70, (-1000001)), (0, 294, (-1000010)), (8, 35, 60000), (0, 123, (-1000003)), (0, 152, (-1000000)), (0, 178, (-1000002)), (4, 55, (-1000000)), (0, 217, 1000000), (3, 36, (-1000000)), (1, 23, (-1000000)), (10, 79, (-1000001)), (10, 66, (-1000010)), (10, 97, (-1000003)), (10, 108, (-1000000)), (10, 129, (-1000002)), (10, 187, 1000000)]
def cLs : List (Nat × Nat × Int64) := [(0, 246, (-1000001)), (10, 67, 7), (10, 77, 2), (10, 84, 4), (10, 86, 10), (10, 88, 60000), (10, 109, 3), (10, 115, 100), (10, 117, 15), (10, 133, 11), (10, 135, 30), (10, 147, 8), (10, 153, 20), (10, 157, 48), (10, 155, 200), (10, 171, 1000000), (10, 173, 1000), (10, 175, 50), (10, 181, (-1000001))]
