
/-! ===== BEGIN printed: names, fields, word lists, decode rows ===== -/
def RX0 : String := "SkateBonds$Crew"
def TX0 : u_T := fun k => match k with
  | 0 => ("SkateBonds$Crew", "kinds", "[I", true)
  | 1 => ("SkateBonds$Crew", "weights", "[I", true)
  | _ => ("SkateBonds$Crew", "count", "I", false)
def tyX0 : Nat → FieldType := fun k => match k with
  | 0 => .array .int
  | 1 => .array .int
  | _ => .int
abbrev wsX00 : List Cond := u_ws RX0 TX0 3
theorem nmX0 : ∀ a, a < 3 → ∀ b, b < 3 → a ≠ b → (TX0 a).2.1 ≠ (TX0 b).2.1 := by decide +kernel
theorem tyX0_ok : ∀ k, k < 3 → parseFieldDescriptor (TX0 k).2.2.1 = some (tyX0 k) := by decide +kernel
abbrev cX0_init : ByteArray := prog_2_method_1_code
def yX0_init : MethodName := ⟨RX0, "<init>", "()V"⟩
abbrev cX0_take : ByteArray := prog_2_method_2_code
def yX0_take : MethodName := ⟨RX0, "take", "(LSkateBonds$Text;)V"⟩
abbrev cX0_has : ByteArray := prog_2_method_3_code
def yX0_has : MethodName := ⟨RX0, "has", "(I)Z"⟩
abbrev cX0_load : ByteArray := prog_2_method_4_code
def yX0_load : MethodName := ⟨RX0, "load", "(I)I"⟩
def RX1 : String := "SkateBonds$Deed"
def TX1 : u_T := fun k => match k with
  | 0 => ("SkateBonds$Deed", "strengths", "[I", true)
  | 1 => ("SkateBonds$Deed", "at", "I", false)
  | 2 => ("SkateBonds$Deed", "cut", "I", false)
  | _ => ("SkateBonds$Deed", "firstWrong", "I", false)
def tyX1 : Nat → FieldType := fun k => match k with
  | 0 => .array .int
  | 1 => .int
  | 2 => .int
  | _ => .int
abbrev wsX10 : List Cond := u_ws RX1 TX1 4
theorem nmX1 : ∀ a, a < 4 → ∀ b, b < 4 → a ≠ b → (TX1 a).2.1 ≠ (TX1 b).2.1 := by decide +kernel
theorem tyX1_ok : ∀ k, k < 4 → parseFieldDescriptor (TX1 k).2.2.1 = some (tyX1 k) := by decide +kernel
abbrev cX1_init : ByteArray := prog_3_method_1_code
def yX1_init : MethodName := ⟨RX1, "<init>", "()V"⟩
abbrev cX1_begin : ByteArray := prog_3_method_2_code
def yX1_begin : MethodName := ⟨RX1, "begin", "(LSkateBonds$Ice;I)V"⟩
abbrev cX1_stroke : ByteArray := prog_3_method_3_code
def yX1_stroke : MethodName := ⟨RX1, "stroke", "(LSkateBonds$Ice;III)V"⟩
def RX2 : String := "SkateBonds$Ice"
def TX2 : u_T := fun k => match k with
  | 0 => ("SkateBonds$Ice", "strengths", "[I", true)
  | 1 => ("SkateBonds$Ice", "high", "I", false)
  | 2 => ("SkateBonds$Ice", "wide", "I", false)
  | 3 => ("SkateBonds$Ice", "frost", "I", false)
  | 4 => ("SkateBonds$Ice", "firstColumn", "I", false)
  | _ => ("SkateBonds$Ice", "lastColumn", "I", false)
def tyX2 : Nat → FieldType := fun k => match k with
  | 0 => .array .int
  | 1 => .int
  | 2 => .int
  | 3 => .int
  | 4 => .int
  | _ => .int
abbrev wsX20 : List Cond := u_ws RX2 TX2 6
theorem nmX2 : ∀ a, a < 6 → ∀ b, b < 6 → a ≠ b → (TX2 a).2.1 ≠ (TX2 b).2.1 := by decide +kernel
theorem tyX2_ok : ∀ k, k < 6 → parseFieldDescriptor (TX2 k).2.2.1 = some (tyX2 k) := by decide +kernel
abbrev cX2_init : ByteArray := prog_4_method_1_code
def yX2_init : MethodName := ⟨RX2, "<init>", "()V"⟩
abbrev cX2_take : ByteArray := prog_4_method_2_code
def yX2_take : MethodName := ⟨RX2, "take", "(LSkateBonds$Text;)V"⟩
abbrev cX2_cells : ByteArray := prog_4_method_3_code
def yX2_cells : MethodName := ⟨RX2, "cells", "()I"⟩
abbrev cX2_all : ByteArray := prog_4_method_4_code
def yX2_all : MethodName := ⟨RX2, "all", "()I"⟩
abbrev cX2_has : ByteArray := prog_4_method_5_code
def yX2_has : MethodName := ⟨RX2, "has", "(I)Z"⟩
abbrev cX2_strengthen : ByteArray := prog_4_method_6_code
def yX2_strengthen : MethodName := ⟨RX2, "strengthen", "(I)V"⟩
abbrev cX2_count : ByteArray := prog_4_method_7_code
def yX2_count : MethodName := ⟨RX2, "count", "(I)I"⟩
abbrev cX2_bearing : ByteArray := prog_4_method_8_code
def yX2_bearing : MethodName := ⟨RX2, "bearing", "(II)I"⟩
abbrev cX2_led : ByteArray := prog_4_method_9_code
def yX2_led : MethodName := ⟨RX2, "led", "(II)I"⟩
abbrev cX2_nextTo : ByteArray := prog_4_method_10_code
def yX2_nextTo : MethodName := ⟨RX2, "nextTo", "(I)I"⟩
abbrev cX2_reach : ByteArray := prog_4_method_11_code
def yX2_reach : MethodName := ⟨RX2, "reach", "(II)I"⟩
abbrev cX2_shortest : ByteArray := prog_4_method_12_code
def yX2_shortest : MethodName := ⟨RX2, "shortest", "(IIII)I"⟩
abbrev cX2_strokeOfBond : ByteArray := prog_4_method_13_code
def yX2_strokeOfBond : MethodName := ⟨RX2, "strokeOfBond", "(IIIII)I"⟩
abbrev cX2_beginOfBond : ByteArray := prog_4_method_14_code
def yX2_beginOfBond : MethodName := ⟨RX2, "beginOfBond", "(IIII)I"⟩
def RX3 : String := "SkateBonds$Readings"
def TX3 : u_T := fun k => match k with
  | 0 => ("SkateBonds$Readings", "skaters", "[I", true)
  | 1 => ("SkateBonds$Readings", "cells", "[I", true)
  | 2 => ("SkateBonds$Readings", "bore", "[Z", true)
  | _ => ("SkateBonds$Readings", "count", "I", false)
def tyX3 : Nat → FieldType := fun k => match k with
  | 0 => .array .int
  | 1 => .array .int
  | 2 => .array .boolean
  | _ => .int
abbrev wsX30 : List Cond := u_ws RX3 TX3 4
theorem nmX3 : ∀ a, a < 4 → ∀ b, b < 4 → a ≠ b → (TX3 a).2.1 ≠ (TX3 b).2.1 := by decide +kernel
theorem tyX3_ok : ∀ k, k < 4 → parseFieldDescriptor (TX3 k).2.2.1 = some (tyX3 k) := by decide +kernel
abbrev cX3_init : ByteArray := prog_5_method_1_code
def yX3_init : MethodName := ⟨RX3, "<init>", "()V"⟩
abbrev cX3_add : ByteArray := prog_5_method_2_code
def yX3_add : MethodName := ⟨RX3, "add", "(IIZ)I"⟩
abbrev cX3_areSo : ByteArray := prog_5_method_3_code
def yX3_areSo : MethodName := ⟨RX3, "areSo", "(LSkateBonds$Ice;LSkateBonds$Crew;)Z"⟩
def RX4 : String := "SkateBonds$Sheet"
def TX4 : u_T := fun k => match k with
  | 0 => ("SkateBonds$Sheet", "numbers", "[I", true)
  | 1 => ("SkateBonds$Sheet", "lane", "I", false)
  | _ => ("SkateBonds$Sheet", "length", "I", false)
def tyX4 : Nat → FieldType := fun k => match k with
  | 0 => .array .int
  | 1 => .int
  | _ => .int
abbrev wsX40 : List Cond := u_ws RX4 TX4 3
theorem nmX4 : ∀ a, a < 3 → ∀ b, b < 3 → a ≠ b → (TX4 a).2.1 ≠ (TX4 b).2.1 := by decide +kernel
theorem tyX4_ok : ∀ k, k < 3 → parseFieldDescriptor (TX4 k).2.2.1 = some (tyX4 k) := by decide +kernel
abbrev cX4_init : ByteArray := prog_6_method_1_code
def yX4_init : MethodName := ⟨RX4, "<init>", "()V"⟩
abbrev cX4_begin : ByteArray := prog_6_method_2_code
def yX4_begin : MethodName := ⟨RX4, "begin", "(II)V"⟩
abbrev cX4_clear : ByteArray := prog_6_method_3_code
def yX4_clear : MethodName := ⟨RX4, "clear", "()V"⟩
abbrev cX4_isNothing : ByteArray := prog_6_method_4_code
def yX4_isNothing : MethodName := ⟨RX4, "isNothing", "()Z"⟩
abbrev cX4_has : ByteArray := prog_6_method_5_code
def yX4_has : MethodName := ⟨RX4, "has", "(II)Z"⟩
abbrev cX4_set : ByteArray := prog_6_method_6_code
def yX4_set : MethodName := ⟨RX4, "set", "(II)V"⟩
def RX5 : String := "SkateBonds$Text"
def TX5 : u_T := fun k => match k with
  | 0 => ("SkateBonds$Text", "codes", "[I", true)
  | 1 => ("SkateBonds$Text", "length", "I", false)
  | 2 => ("SkateBonds$Text", "place", "I", false)
  | _ => ("SkateBonds$Text", "isWrong", "Z", false)
def tyX5 : Nat → FieldType := fun k => match k with
  | 0 => .array .int
  | 1 => .int
  | 2 => .int
  | _ => .boolean
abbrev wsX50 : List Cond := u_ws RX5 TX5 4
theorem nmX5 : ∀ a, a < 4 → ∀ b, b < 4 → a ≠ b → (TX5 a).2.1 ≠ (TX5 b).2.1 := by decide +kernel
theorem tyX5_ok : ∀ k, k < 4 → parseFieldDescriptor (TX5 k).2.2.1 = some (tyX5 k) := by decide +kernel
abbrev cX5_init : ByteArray := prog_7_method_1_code
def yX5_init : MethodName := ⟨RX5, "<init>", "()V"⟩
abbrev cX5_begin : ByteArray := prog_7_method_2_code
def yX5_begin : MethodName := ⟨RX5, "begin", "(LSkateBonds$Sheet;II)V"⟩
abbrev cX5_goesOn : ByteArray := prog_7_method_3_code
def yX5_goesOn : MethodName := ⟨RX5, "goesOn", "()Z"⟩
abbrev cX5_take : ByteArray := prog_7_method_4_code
def yX5_take : MethodName := ⟨RX5, "take", "(II)I"⟩
abbrev cX5_digit : ByteArray := prog_7_method_5_code
def yX5_digit : MethodName := ⟨RX5, "digit", "(II)I"⟩
abbrev cX5_sign : ByteArray := prog_7_method_6_code
def yX5_sign : MethodName := ⟨RX5, "sign", "(C)V"⟩
abbrev cX5_kind : ByteArray := prog_7_method_7_code
def yX5_kind : MethodName := ⟨RX5, "kind", "()I"⟩
abbrev cX5_end : ByteArray := prog_7_method_8_code
def yX5_end : MethodName := ⟨RX5, "end", "()V"⟩
def RX6 : String := "SkateBonds"
def TX6 : u_T := fun k => match k with
  | 0 => ("SkateBonds", "sheets", "[LSkateBonds$Sheet;", true)
  | 1 => ("SkateBonds", "text", "LSkateBonds$Text;", true)
  | 2 => ("SkateBonds", "trial", "LSkateBonds$Deed;", true)
  | 3 => ("SkateBonds", "readings", "LSkateBonds$Readings;", true)
  | 4 => ("SkateBonds", "ice", "LSkateBonds$Ice;", false)
  | 5 => ("SkateBonds", "crew", "LSkateBonds$Crew;", false)
  | 6 => ("SkateBonds", "draftIce", "LSkateBonds$Ice;", false)
  | 7 => ("SkateBonds", "draftCrew", "LSkateBonds$Crew;", false)
  | 8 => ("SkateBonds", "latestFault", "I", false)
  | _ => ("SkateBonds", "traced", "I", false)
def tyX6 : Nat → FieldType := fun k => match k with
  | 0 => .array (.object "SkateBonds$Sheet")
  | 1 => .object "SkateBonds$Text"
  | 2 => .object "SkateBonds$Deed"
  | 3 => .object "SkateBonds$Readings"
  | 4 => .object "SkateBonds$Ice"
  | 5 => .object "SkateBonds$Crew"
  | 6 => .object "SkateBonds$Ice"
  | 7 => .object "SkateBonds$Crew"
  | 8 => .int
  | _ => .int
abbrev wsX60 : List Cond := u_ws RX6 TX6 10
theorem nmX6 : ∀ a, a < 10 → ∀ b, b < 10 → a ≠ b → (TX6 a).2.1 ≠ (TX6 b).2.1 := by decide +kernel
theorem tyX6_ok : ∀ k, k < 10 → parseFieldDescriptor (TX6 k).2.2.1 = some (tyX6 k) := by decide +kernel
abbrev cX6_init : ByteArray := prog_1_method_1_code
def yX6_init : MethodName := ⟨RX6, "<init>", "()V"⟩
abbrev cX6_canal : ByteArray := prog_1_method_2_code
def yX6_canal : MethodName := ⟨RX6, "canal", "(IIII)I"⟩
abbrev cX6_ofSkater : ByteArray := prog_1_method_3_code
def yX6_ofSkater : MethodName := ⟨RX6, "ofSkater", "(II)I"⟩
abbrev cX6_strength : ByteArray := prog_1_method_4_code
def yX6_strength : MethodName := ⟨RX6, "strength", "(I)I"⟩
abbrev cX6_freeze : ByteArray := prog_1_method_5_code
def yX6_freeze : MethodName := ⟨RX6, "freeze", "(II)I"⟩
abbrev cX6_frost : ByteArray := prog_1_method_6_code
def yX6_frost : MethodName := ⟨RX6, "frost", "(I)I"⟩
abbrev cX6_deed : ByteArray := prog_1_method_7_code
def yX6_deed : MethodName := ⟨RX6, "deed", "(IIIIIIII)I"⟩
abbrev cX6_write : ByteArray := prog_1_method_8_code
def yX6_write : MethodName := ⟨RX6, "write", "(IIIIIII)I"⟩
abbrev cX6_nights : ByteArray := prog_1_method_9_code
def yX6_nights : MethodName := ⟨RX6, "nights", "(I)I"⟩
abbrev cX6_thaw : ByteArray := prog_1_method_10_code
def yX6_thaw : MethodName := ⟨RX6, "thaw", "(I)I"⟩
abbrev cX6_bond : ByteArray := prog_1_method_11_code
def yX6_bond : MethodName := ⟨RX6, "bond", "(IIIII)I"⟩
abbrev cX6_holds : ByteArray := prog_1_method_12_code
def yX6_holds : MethodName := ⟨RX6, "holds", "(IIII)I"⟩
abbrev cX6_alone : ByteArray := prog_1_method_13_code
def yX6_alone : MethodName := ⟨RX6, "alone", "(II)I"⟩
abbrev cX6_neck : ByteArray := prog_1_method_14_code
def yX6_neck : MethodName := ⟨RX6, "neck", "(IIII)I"⟩
abbrev cX6_reading : ByteArray := prog_1_method_15_code
def yX6_reading : MethodName := ⟨RX6, "reading", "(IIZ)I"⟩
abbrev cX6_back : ByteArray := prog_1_method_16_code
def yX6_back : MethodName := ⟨RX6, "back", "(I)I"⟩
abbrev cX6_weights : ByteArray := prog_1_method_17_code
def yX6_weights : MethodName := ⟨RX6, "weights", "(I)I"⟩
abbrev cX6_kinds : ByteArray := prog_1_method_18_code
def yX6_kinds : MethodName := ⟨RX6, "kinds", "(I)I"⟩
abbrev cX6_strengths : ByteArray := prog_1_method_19_code
def yX6_strengths : MethodName := ⟨RX6, "strengths", "(I)I"⟩
abbrev cX6_odds : ByteArray := prog_1_method_20_code
def yX6_odds : MethodName := ⟨RX6, "odds", "(IIIIII)J"⟩
abbrev cX6_sheet : ByteArray := prog_1_method_21_code
def yX6_sheet : MethodName := ⟨RX6, "sheet", "(III)I"⟩
abbrev cX6_lose : ByteArray := prog_1_method_22_code
def yX6_lose : MethodName := ⟨RX6, "lose", "(I)I"⟩
abbrev cX6_put : ByteArray := prog_1_method_23_code
def yX6_put : MethodName := ⟨RX6, "put", "(III)I"⟩
abbrev cX6_cell : ByteArray := prog_1_method_24_code
def yX6_cell : MethodName := ⟨RX6, "cell", "(III)J"⟩
abbrev cX6_copy : ByteArray := prog_1_method_25_code
def yX6_copy : MethodName := ⟨RX6, "copy", "(IIIII)I"⟩
abbrev cX6_tell : ByteArray := prog_1_method_26_code
def yX6_tell : MethodName := ⟨RX6, "tell", "(I)I"⟩
abbrev cX6_signed : ByteArray := prog_1_method_27_code
def yX6_signed : MethodName := ⟨RX6, "signed", "(I)I"⟩
abbrev cX6_as : ByteArray := prog_1_method_28_code
def yX6_as : MethodName := ⟨RX6, "as", "(II)I"⟩
abbrev cX6_trace : ByteArray := prog_1_method_29_code
def yX6_trace : MethodName := ⟨RX6, "trace", "()I"⟩
abbrev cX6_fault : ByteArray := prog_1_method_30_code
def yX6_fault : MethodName := ⟨RX6, "fault", "()I"⟩
abbrev cX6_many : ByteArray := prog_1_method_31_code
def yX6_many : MethodName := ⟨RX6, "many", "(I)I"⟩
abbrev cX6_isWithin : ByteArray := prog_1_method_32_code
def yX6_isWithin : MethodName := ⟨RX6, "isWithin", "(III)Z"⟩
abbrev cX6_isIn : ByteArray := prog_1_method_33_code
def yX6_isIn : MethodName := ⟨RX6, "isIn", "(II)Z"⟩
abbrev cX6_keepFault : ByteArray := prog_1_method_34_code
def yX6_keepFault : MethodName := ⟨RX6, "keepFault", "(I)I"⟩
abbrev cX6_sheetAt : ByteArray := prog_1_method_35_code
def yX6_sheetAt : MethodName := ⟨RX6, "sheetAt", "(I)LSkateBonds$Sheet;"⟩
abbrev cX6_refusalOfLane : ByteArray := prog_1_method_36_code
def yX6_refusalOfLane : MethodName := ⟨RX6, "refusalOfLane", "(LSkateBonds$Sheet;I)I"⟩
abbrev cX6_refusalOfPart : ByteArray := prog_1_method_37_code
def yX6_refusalOfPart : MethodName := ⟨RX6, "refusalOfPart", "(LSkateBonds$Sheet;III)I"⟩
abbrev cX6_refusalOfWeather : ByteArray := prog_1_method_38_code
def yX6_refusalOfWeather : MethodName := ⟨RX6, "refusalOfWeather", "(I)I"⟩
abbrev cX6_isPair : ByteArray := prog_1_method_39_code
def yX6_isPair : MethodName := ⟨RX6, "isPair", "(II)Z"⟩
abbrev cX6_takeText : ByteArray := prog_1_method_40_code
def yX6_takeText : MethodName := ⟨RX6, "takeText", "(IIII)I"⟩
abbrev cX6_changeToDraft : ByteArray := prog_1_method_41_code
def yX6_changeToDraft : MethodName := ⟨RX6, "changeToDraft", "()V"⟩
abbrev cX6_isDeedKnown : ByteArray := prog_1_method_42_code
def yX6_isDeedKnown : MethodName := ⟨RX6, "isDeedKnown", "(IIII)Z"⟩
abbrev cX6_tryDeed : ByteArray := prog_1_method_43_code
def yX6_tryDeed : MethodName := ⟨RX6, "tryDeed", "(IIIIIII)I"⟩
abbrev cX6_ofTrial : ByteArray := prog_1_method_44_code
def yX6_ofTrial : MethodName := ⟨RX6, "ofTrial", "(II)I"⟩
abbrev cX6_isBondKnown : ByteArray := prog_1_method_45_code
def yX6_isBondKnown : MethodName := ⟨RX6, "isBondKnown", "(IIII)Z"⟩
abbrev cX6_isBond : ByteArray := prog_1_method_46_code
def yX6_isBond : MethodName := ⟨RX6, "isBond", "(IIIII)Z"⟩
abbrev cX6_bondsAsBreaking : ByteArray := prog_1_method_47_code
def yX6_bondsAsBreaking : MethodName := ⟨RX6, "bondsAsBreaking", "(IIIII)I"⟩
abbrev cX6_newRow : ByteArray := prog_1_method_48_code
def yX6_newRow : MethodName := ⟨RX6, "newRow", "(III)I"⟩
abbrev cX6_putNumber : ByteArray := prog_1_method_49_code
def yX6_putNumber : MethodName := ⟨RX6, "putNumber", "(III)I"⟩
abbrev cX6_copyNumbers : ByteArray := prog_1_method_50_code
def yX6_copyNumbers : MethodName := ⟨RX6, "copyNumbers", "(IIIII)I"⟩
abbrev cX6_leave : ByteArray := prog_1_method_51_code
def yX6_leave : MethodName := ⟨RX6, "leave", "(I)V"⟩
abbrev cX6_skaterGives : ByteArray := prog_1_method_52_code
def yX6_skaterGives : MethodName := ⟨RX6, "skaterGives", "(I)I"⟩
abbrev cX6_clerkGives : ByteArray := prog_1_method_53_code
def yX6_clerkGives : MethodName := ⟨RX6, "clerkGives", "(I)I"⟩
abbrev cX6_bankerGives : ByteArray := prog_1_method_54_code
def yX6_bankerGives : MethodName := ⟨RX6, "bankerGives", "(I)I"⟩
abbrev cX6_takeAs : ByteArray := prog_1_method_55_code
def yX6_takeAs : MethodName := ⟨RX6, "takeAs", "(II)I"⟩
def RX7 : String := "SkateBondsModel"
def TX7 : u_T := fun k => match k with
  | 0 => ("SkateBondsModel", "fault", "I", false)
  | 1 => ("SkateBondsModel", "high", "I", false)
  | 2 => ("SkateBondsModel", "wide", "I", false)
  | 3 => ("SkateBondsModel", "frostNow", "I", false)
  | 4 => ("SkateBondsModel", "strengthOf", "[I", true)
  | 5 => ("SkateBondsModel", "skaters", "I", false)
  | 6 => ("SkateBondsModel", "kindOf", "[I", true)
  | 7 => ("SkateBondsModel", "weightOf", "[I", true)
  | 8 => ("SkateBondsModel", "broken", "I", false)
  | 9 => ("SkateBondsModel", "thawed", "I", false)
  | 10 => ("SkateBondsModel", "readAt", "I", false)
  | 11 => ("SkateBondsModel", "readHigh", "I", false)
  | 12 => ("SkateBondsModel", "readWide", "I", false)
  | 13 => ("SkateBondsModel", "readFrost", "I", false)
  | 14 => ("SkateBondsModel", "readSkaters", "I", false)
  | 15 => ("SkateBondsModel", "readStrength", "[I", true)
  | 16 => ("SkateBondsModel", "readKind", "[I", true)
  | 17 => ("SkateBondsModel", "readWeight", "[I", true)
  | 18 => ("SkateBondsModel", "firstWrong", "I", false)
  | 19 => ("SkateBondsModel", "endsAt", "I", false)
  | 20 => ("SkateBondsModel", "cutNow", "I", false)
  | 21 => ("SkateBondsModel", "kept", "[I", true)
  | 22 => ("SkateBondsModel", "leftOf", "[I", true)
  | 23 => ("SkateBondsModel", "readings", "I", false)
  | 24 => ("SkateBondsModel", "readingOf", "[I", true)
  | 25 => ("SkateBondsModel", "readingAt", "[I", true)
  | 26 => ("SkateBondsModel", "readingBore", "[Z", true)
  | 27 => ("SkateBondsModel", "sheetSize", "[I", true)
  | 28 => ("SkateBondsModel", "sheetLane", "[I", true)
  | 29 => ("SkateBondsModel", "sheet", "[I", true)
  | 30 => ("SkateBondsModel", "hands", "[I", true)
  | _ => ("SkateBondsModel", "traceNow", "I", false)
def tyX7 : Nat → FieldType := fun k => match k with
  | 0 => .int
  | 1 => .int
  | 2 => .int
  | 3 => .int
  | 4 => .array .int
  | 5 => .int
  | 6 => .array .int
  | 7 => .array .int
  | 8 => .int
  | 9 => .int
  | 10 => .int
  | 11 => .int
  | 12 => .int
  | 13 => .int
  | 14 => .int
  | 15 => .array .int
  | 16 => .array .int
  | 17 => .array .int
  | 18 => .int
  | 19 => .int
  | 20 => .int
  | 21 => .array .int
  | 22 => .array .int
  | 23 => .int
  | 24 => .array .int
  | 25 => .array .int
  | 26 => .array .boolean
  | 27 => .array .int
  | 28 => .array .int
  | 29 => .array .int
  | 30 => .array .int
  | _ => .int
abbrev wsX70 : List Cond := u_ws RX7 TX7 32
theorem nmX7 : ∀ a, a < 32 → ∀ b, b < 32 → a ≠ b → (TX7 a).2.1 ≠ (TX7 b).2.1 := by decide +kernel
theorem tyX7_ok : ∀ k, k < 32 → parseFieldDescriptor (TX7 k).2.2.1 = some (tyX7 k) := by decide +kernel
abbrev cX7_init : ByteArray := prog_9_method_1_code
def yX7_init : MethodName := ⟨RX7, "<init>", "()V"⟩
abbrev cX7_in : ByteArray := prog_9_method_2_code
def yX7_in : MethodName := ⟨RX7, "in", "(JJJ)Z"⟩
abbrev cX7_lost : ByteArray := prog_9_method_3_code
def yX7_lost : MethodName := ⟨RX7, "lost", "()J"⟩
abbrev cX7_isIn : ByteArray := prog_9_method_4_code
def yX7_isIn : MethodName := ⟨RX7, "isIn", "(II)Z"⟩
abbrev cX7_bits : ByteArray := prog_9_method_5_code
def yX7_bits : MethodName := ⟨RX7, "bits", "(I)I"⟩
abbrev cX7_share : ByteArray := prog_9_method_6_code
def yX7_share : MethodName := ⟨RX7, "share", "(JJI)J"⟩
abbrev cX7_refused : ByteArray := prog_9_method_7_code
def yX7_refused : MethodName := ⟨RX7, "refused", "(I)I"⟩
abbrev cX7_failed : ByteArray := prog_9_method_8_code
def yX7_failed : MethodName := ⟨RX7, "failed", "(I)I"⟩
abbrev cX7_failedLong : ByteArray := prog_9_method_9_code
def yX7_failedLong : MethodName := ⟨RX7, "failedLong", "(I)J"⟩
abbrev cX7_cells : ByteArray := prog_9_method_10_code
def yX7_cells : MethodName := ⟨RX7, "cells", "()I"⟩
abbrev cX7_noPlace : ByteArray := prog_9_method_11_code
def yX7_noPlace : MethodName := ⟨RX7, "noPlace", "(I)Z"⟩
abbrev cX7_noSkater : ByteArray := prog_9_method_12_code
def yX7_noSkater : MethodName := ⟨RX7, "noSkater", "(I)Z"⟩
abbrev cX7_noTwo : ByteArray := prog_9_method_13_code
def yX7_noTwo : MethodName := ⟨RX7, "noTwo", "(II)Z"⟩
abbrev cX7_codeAt : ByteArray := prog_9_method_14_code
def yX7_codeAt : MethodName := ⟨RX7, "codeAt", "(II)I"⟩
abbrev cX7_figure : ByteArray := prog_9_method_15_code
def yX7_figure : MethodName := ⟨RX7, "figure", "(IIII)I"⟩
abbrev cX7_readsPlace : ByteArray := prog_9_method_16_code
def yX7_readsPlace : MethodName := ⟨RX7, "readsPlace", "(III)Z"⟩
abbrev cX7_readsSkater : ByteArray := prog_9_method_17_code
def yX7_readsSkater : MethodName := ⟨RX7, "readsSkater", "(II)Z"⟩
abbrev cX7_readsCanal : ByteArray := prog_9_method_18_code
def yX7_readsCanal : MethodName := ⟨RX7, "readsCanal", "(II)Z"⟩
abbrev cX7_cellsBarred : ByteArray := prog_9_method_19_code
def yX7_cellsBarred : MethodName := ⟨RX7, "cellsBarred", "(IIIJ)I"⟩
abbrev cX7_canal : ByteArray := prog_9_method_20_code
def yX7_canal : MethodName := ⟨RX7, "canal", "(IIII)I"⟩
abbrev cX7_loadOf : ByteArray := prog_9_method_21_code
def yX7_loadOf : MethodName := ⟨RX7, "loadOf", "(I)I"⟩
abbrev cX7_bears : ByteArray := prog_9_method_22_code
def yX7_bears : MethodName := ⟨RX7, "bears", "(II)Z"⟩
abbrev cX7_bearingOf : ByteArray := prog_9_method_23_code
def yX7_bearingOf : MethodName := ⟨RX7, "bearingOf", "(I)I"⟩
abbrev cX7_ofSkater : ByteArray := prog_9_method_24_code
def yX7_ofSkater : MethodName := ⟨RX7, "ofSkater", "(II)I"⟩
abbrev cX7_strength : ByteArray := prog_9_method_25_code
def yX7_strength : MethodName := ⟨RX7, "strength", "(I)I"⟩
abbrev cX7_freeze : ByteArray := prog_9_method_26_code
def yX7_freeze : MethodName := ⟨RX7, "freeze", "(II)I"⟩
abbrev cX7_frost : ByteArray := prog_9_method_27_code
def yX7_frost : MethodName := ⟨RX7, "frost", "(I)I"⟩
abbrev cX7_beside : ByteArray := prog_9_method_28_code
def yX7_beside : MethodName := ⟨RX7, "beside", "(II)I"⟩
abbrev cX7_goDeed : ByteArray := prog_9_method_29_code
def yX7_goDeed : MethodName := ⟨RX7, "goDeed", "(IIIII)V"⟩
abbrev cX7_keep : ByteArray := prog_9_method_30_code
def yX7_keep : MethodName := ⟨RX7, "keep", "()V"⟩
abbrev cX7_putBack : ByteArray := prog_9_method_31_code
def yX7_putBack : MethodName := ⟨RX7, "putBack", "()V"⟩
abbrev cX7_strokesBarred : ByteArray := prog_9_method_32_code
def yX7_strokesBarred : MethodName := ⟨RX7, "strokesBarred", "(IIII)I"⟩
abbrev cX7_deed : ByteArray := prog_9_method_33_code
def yX7_deed : MethodName := ⟨RX7, "deed", "(IIIIIIII)I"⟩
abbrev cX7_write : ByteArray := prog_9_method_34_code
def yX7_write : MethodName := ⟨RX7, "write", "(IIIIIII)I"⟩
abbrev cX7_countOf : ByteArray := prog_9_method_35_code
def yX7_countOf : MethodName := ⟨RX7, "countOf", "(I)I"⟩
abbrev cX7_nights : ByteArray := prog_9_method_36_code
def yX7_nights : MethodName := ⟨RX7, "nights", "(I)I"⟩
abbrev cX7_thaw : ByteArray := prog_9_method_37_code
def yX7_thaw : MethodName := ⟨RX7, "thaw", "(I)I"⟩
abbrev cX7_leftBy : ByteArray := prog_9_method_38_code
def yX7_leftBy : MethodName := ⟨RX7, "leftBy", "(III)I"⟩
abbrev cX7_goBond : ByteArray := prog_9_method_39_code
def yX7_goBond : MethodName := ⟨RX7, "goBond", "(III)V"⟩
abbrev cX7_isBond : ByteArray := prog_9_method_40_code
def yX7_isBond : MethodName := ⟨RX7, "isBond", "(IIII)Z"⟩
abbrev cX7_strokeBy : ByteArray := prog_9_method_41_code
def yX7_strokeBy : MethodName := ⟨RX7, "strokeBy", "(IIII)I"⟩
abbrev cX7_bond : ByteArray := prog_9_method_42_code
def yX7_bond : MethodName := ⟨RX7, "bond", "(IIIII)I"⟩
abbrev cX7_holds : ByteArray := prog_9_method_43_code
def yX7_holds : MethodName := ⟨RX7, "holds", "(IIII)I"⟩
abbrev cX7_alone : ByteArray := prog_9_method_44_code
def yX7_alone : MethodName := ⟨RX7, "alone", "(II)I"⟩
abbrev cX7_neck : ByteArray := prog_9_method_45_code
def yX7_neck : MethodName := ⟨RX7, "neck", "(IIII)I"⟩
abbrev cX7_reading : ByteArray := prog_9_method_46_code
def yX7_reading : MethodName := ⟨RX7, "reading", "(IIZ)I"⟩
abbrev cX7_back : ByteArray := prog_9_method_47_code
def yX7_back : MethodName := ⟨RX7, "back", "(I)I"⟩
abbrev cX7_areSo : ByteArray := prog_9_method_48_code
def yX7_areSo : MethodName := ⟨RX7, "areSo", "()Z"⟩
abbrev cX7_weights : ByteArray := prog_9_method_49_code
def yX7_weights : MethodName := ⟨RX7, "weights", "(I)I"⟩
abbrev cX7_kinds : ByteArray := prog_9_method_50_code
def yX7_kinds : MethodName := ⟨RX7, "kinds", "(I)I"⟩
abbrev cX7_strengths : ByteArray := prog_9_method_51_code
def yX7_strengths : MethodName := ⟨RX7, "strengths", "(I)I"⟩
abbrev cX7_odds : ByteArray := prog_9_method_52_code
def yX7_odds : MethodName := ⟨RX7, "odds", "(IIIIII)J"⟩
abbrev cX7_noSheet : ByteArray := prog_9_method_53_code
def yX7_noSheet : MethodName := ⟨RX7, "noSheet", "(I)Z"⟩
abbrev cX7_sheet : ByteArray := prog_9_method_54_code
def yX7_sheet : MethodName := ⟨RX7, "sheet", "(III)I"⟩
abbrev cX7_lose : ByteArray := prog_9_method_55_code
def yX7_lose : MethodName := ⟨RX7, "lose", "(I)I"⟩
abbrev cX7_noCell : ByteArray := prog_9_method_56_code
def yX7_noCell : MethodName := ⟨RX7, "noCell", "(II)I"⟩
abbrev cX7_put : ByteArray := prog_9_method_57_code
def yX7_put : MethodName := ⟨RX7, "put", "(III)I"⟩
abbrev cX7_cell : ByteArray := prog_9_method_58_code
def yX7_cell : MethodName := ⟨RX7, "cell", "(III)J"⟩
abbrev cX7_isBeyond : ByteArray := prog_9_method_59_code
def yX7_isBeyond : MethodName := ⟨RX7, "isBeyond", "(IJI)Z"⟩
abbrev cX7_copy : ByteArray := prog_9_method_60_code
def yX7_copy : MethodName := ⟨RX7, "copy", "(IIIII)I"⟩
abbrev cX7_traced : ByteArray := prog_9_method_61_code
def yX7_traced : MethodName := ⟨RX7, "traced", "(I)V"⟩
abbrev cX7_tell : ByteArray := prog_9_method_62_code
def yX7_tell : MethodName := ⟨RX7, "tell", "(I)I"⟩
abbrev cX7_signed : ByteArray := prog_9_method_63_code
def yX7_signed : MethodName := ⟨RX7, "signed", "(I)I"⟩
abbrev cX7_as : ByteArray := prog_9_method_64_code
def yX7_as : MethodName := ⟨RX7, "as", "(II)I"⟩
abbrev cX7_trace : ByteArray := prog_9_method_65_code
def yX7_trace : MethodName := ⟨RX7, "trace", "()I"⟩
abbrev cX7_fault : ByteArray := prog_9_method_66_code
def yX7_fault : MethodName := ⟨RX7, "fault", "()I"⟩
abbrev cX7_many : ByteArray := prog_9_method_67_code
def yX7_many : MethodName := ⟨RX7, "many", "(I)I"⟩
def RJ6 : String := "java/lang/Integer"
def TJ6 : u_T := fun k => match k with
  | _ => ("", "", "", false)
def tyJ6 : Nat → FieldType := fun k => match k with
  | _ => .int
abbrev wsJ60 : List Cond := u_ws RJ6 TJ6 0
theorem nmJ6 : ∀ a, a < 0 → ∀ b, b < 0 → a ≠ b → (TJ6 a).2.1 ≠ (TJ6 b).2.1 := by decide +kernel
theorem tyJ6_ok : ∀ k, k < 0 → parseFieldDescriptor (TJ6 k).2.2.1 = some (tyJ6 k) := by decide +kernel
abbrev cJ6_bitCount_0f7a4 : ByteArray := prog_10_method_49_code
def yJ6_bitCount_0f7a4 : MethodName := ⟨RJ6, "bitCount", "(I)I"⟩
def RJ9 : String := "java/lang/Math"
def TJ9 : u_T := fun k => match k with
  | _ => ("", "", "", false)
def tyJ9 : Nat → FieldType := fun k => match k with
  | _ => .int
abbrev wsJ90 : List Cond := u_ws RJ9 TJ9 0
theorem nmJ9 : ∀ a, a < 0 → ∀ b, b < 0 → a ≠ b → (TJ9 a).2.1 ≠ (TJ9 b).2.1 := by decide +kernel
theorem tyJ9_ok : ∀ k, k < 0 → parseFieldDescriptor (TJ9 k).2.2.1 = some (tyJ9 k) := by decide +kernel
abbrev cJ9_max_7cf53 : ByteArray := prog_11_method_65_code
def yJ9_max_7cf53 : MethodName := ⟨RJ9, "max", "(II)I"⟩
abbrev cJ9_min_7cf53 : ByteArray := prog_11_method_69_code
def yJ9_min_7cf53 : MethodName := ⟨RJ9, "min", "(II)I"⟩
def RJ10 : String := "java/lang/System"
def TJ10 : u_T := fun k => match k with
  | _ => ("", "", "", false)
def tyJ10 : Nat → FieldType := fun k => match k with
  | _ => .int
abbrev wsJ100 : List Cond := u_ws RJ10 TJ10 0
theorem nmJ10 : ∀ a, a < 0 → ∀ b, b < 0 → a ≠ b → (TJ10 a).2.1 ≠ (TJ10 b).2.1 := by decide +kernel
theorem tyJ10_ok : ∀ k, k < 0 → parseFieldDescriptor (TJ10 k).2.2.1 = some (tyJ10 k) := by decide +kernel
def RJ7 : String := "java/util/Arrays"
def TJ7 : u_T := fun k => match k with
  | _ => ("", "", "", false)
def tyJ7 : Nat → FieldType := fun k => match k with
  | _ => .int
abbrev wsJ70 : List Cond := u_ws RJ7 TJ7 0
theorem nmJ7 : ∀ a, a < 0 → ∀ b, b < 0 → a ≠ b → (TJ7 a).2.1 ≠ (TJ7 b).2.1 := by decide +kernel
theorem tyJ7_ok : ∀ k, k < 0 → parseFieldDescriptor (TJ7 k).2.2.1 = some (tyJ7 k) := by decide +kernel
abbrev cJ7_fill_53178 : ByteArray := prog_13_method_103_code
def yJ7_fill_53178 : MethodName := ⟨RJ7, "fill", "([II)V"⟩
def RL : String := "SkateBondsLaw"
abbrev cL_law : ByteArray := code
def yL_law : MethodName := ⟨RL, "law", "([I)Z"⟩
abbrev vwCl : List vw_C := [(RX0, TX0, 3), (RX1, TX1, 4), (RX2, TX2, 6), (RX3, TX3, 4), (RX4, TX4, 3), (RX5, TX5, 4), (RX6, TX6, 10), (RX7, TX7, 32)]
/-- a method's instructions: place, instruction, length -/
abbrev dT : Type := List (Nat × Instr × Nat)
def dOk (c : ByteArray) : dT → Bool
  | [] => true
  | q :: r => (match decode c q.1 with | .ok x => decide (x.1 = q.2.1) && decide (x.2 = q.2.2) | .error _ => false) && dOk c r
theorem dOk_at {c : ByteArray} : ∀ {tb : dT}, dOk c tb = true → ∀ (k : Nat) {pc n : Nat} {i : Instr}, tb[k]? = some (pc, i, n) → decode c pc = .ok (i, n)
  | [], _, k, pc, n, i, h => by simp at h
  | q :: r, h, 0, pc, n, i, hk => by
    simp only [List.getElem?_cons_zero, Option.some.injEq] at hk
    subst hk
    simp only [dOk, Bool.and_eq_true] at h
    have h1 := h.1
    split at h1
    · rename_i x hx
      simp only [Bool.and_eq_true, decide_eq_true_eq] at h1
      rw [hx]
      obtain ⟨a, b⟩ := x
      simp only at h1
      rw [h1.1, h1.2]
    · cases h1
  | q :: r, h, k + 1, pc, n, i, hk => by
    simp only [dOk, Bool.and_eq_true] at h
    exact dOk_at h.2 k (by simpa using hk)
def tbX0_init : dT := [(0, .aload_n 0, 1), (1, .invokespecial 3, 3), (4, .aload_n 0, 1), (5, .iconst 4, 1), (6, .newarray .int, 2), (8, .putfield 9, 3), (11, .aload_n 0, 1), (12, .iconst 4, 1), (13, .newarray .int, 2), (15, .putfield 15, 3), (18, .aload_n 0, 1), (19, .iconst 0, 1), (20, .putfield 18, 3), (23, .return_, 1)]
set_option maxRecDepth 100000 in
theorem dX0_init : dOk cX0_init tbX0_init = true := by decide +kernel
def tbX0_take : dT := [(0, .aload_n 0, 1), (1, .iconst 0, 1), (2, .putfield 18, 3), (5, .iconst 0, 1), (6, .istore_n 2, 1), (7, .iload_n 2, 1), (8, .iconst 4, 1), (9, .if_icmp .ge 57, 3), (12, .iload_n 2, 1), (13, .iconst 2, 1), (14, .if_icmp .lt 10, 3), (17, .aload_n 1, 1), (18, .invokevirtual 22, 3), (21, .ifCond .eq 45, 3), (24, .aload_n 1, 1), (25, .bipush 44, 2), (27, .invokevirtual 28, 3), (30, .aload_n 0, 1), (31, .getfield 9, 3), (34, .iload_n 2, 1), (35, .aload_n 1, 1), (36, .invokevirtual 32, 3), (39, .iastore, 1), (40, .aload_n 0, 1), (41, .getfield 15, 3), (44, .iload_n 2, 1), (45, .aload_n 1, 1), (46, .iconst 1, 1), (47, .bipush 9, 2), (49, .invokevirtual 36, 3), (52, .iastore, 1), (53, .aload_n 0, 1), (54, .iload_n 2, 1), (55, .iconst 1, 1), (56, .iadd, 1), (57, .putfield 18, 3), (60, .iinc 2 1, 3), (63, .goto (-56), 3), (66, .return_, 1)]
set_option maxRecDepth 100000 in
theorem dX0_take : dOk cX0_take tbX0_take = true := by decide +kernel
def tbX0_has : dT := [(0, .iload_n 1, 1), (1, .iconst 0, 1), (2, .aload_n 0, 1), (3, .getfield 18, 3), (6, .iconst 1, 1), (7, .isub, 1), (8, .invokestatic 40, 3), (11, .ireturn, 1)]
set_option maxRecDepth 100000 in
theorem dX0_has : dOk cX0_has tbX0_has = true := by decide +kernel
def tbX0_load : dT := [(0, .aload_n 0, 1), (1, .getfield 9, 3), (4, .iload_n 1, 1), (5, .iaload, 1), (6, .lookupswitch 46 #[(1, 37), (2, 26)], 26), (32, .iconst 2, 1), (33, .aload_n 0, 1), (34, .getfield 15, 3), (37, .iload_n 1, 1), (38, .iaload, 1), (39, .iconst 1, 1), (40, .iadd, 1), (41, .imul, 1), (42, .ireturn, 1), (43, .aload_n 0, 1), (44, .getfield 15, 3), (47, .iload_n 1, 1), (48, .iaload, 1), (49, .iconst 1, 1), (50, .iadd, 1), (51, .ireturn, 1), (52, .aload_n 0, 1), (53, .getfield 15, 3), (56, .iload_n 1, 1), (57, .iaload, 1), (58, .ireturn, 1)]
set_option maxRecDepth 100000 in
theorem dX0_load : dOk cX0_load tbX0_load = true := by decide +kernel
def tbX1_init : dT := [(0, .aload_n 0, 1), (1, .invokespecial 3, 3), (4, .aload_n 0, 1), (5, .bipush 20, 2), (7, .newarray .int, 2), (9, .putfield 9, 3), (12, .aload_n 0, 1), (13, .iconst 0, 1), (14, .putfield 15, 3), (17, .aload_n 0, 1), (18, .iconst 0, 1), (19, .putfield 19, 3), (22, .aload_n 0, 1), (23, .bipush (-9), 2), (25, .putfield 22, 3), (28, .return_, 1)]
set_option maxRecDepth 100000 in
theorem dX1_init : dOk cX1_init tbX1_init = true := by decide +kernel
def tbX1_begin : dT := [(0, .aload_n 1, 1), (1, .getfield 25, 3), (4, .iconst 0, 1), (5, .aload_n 0, 1), (6, .getfield 9, 3), (9, .iconst 0, 1), (10, .bipush 20, 2), (12, .invokestatic 28, 3), (15, .aload_n 0, 1), (16, .iload_n 2, 1), (17, .putfield 15, 3), (20, .aload_n 0, 1), (21, .iconst 0, 1), (22, .putfield 19, 3), (25, .aload_n 0, 1), (26, .bipush (-9), 2), (28, .putfield 22, 3), (31, .return_, 1)]
set_option maxRecDepth 100000 in
theorem dX1_begin : dOk cX1_begin tbX1_begin = true := by decide +kernel
def tbX1_stroke : dT := [(0, .aload_n 1, 1), (1, .aload_n 0, 1), (2, .getfield 15, 3), (5, .iload_n 3, 1), (6, .invokevirtual 34, 3), (9, .istore 5, 2), (11, .iload 5, 2), (13, .bipush (-9), 2), (15, .if_icmp .eq 15, 3), (18, .iload 4, 2), (20, .aload_n 0, 1), (21, .getfield 9, 3), (24, .iload 5, 2), (26, .iaload, 1), (27, .if_icmp .le 9, 3), (30, .aload_n 0, 1), (31, .iload_n 2, 1), (32, .putfield 22, 3), (35, .return_, 1), (36, .aload_n 0, 1), (37, .iload 5, 2), (39, .putfield 15, 3), (42, .aload_n 0, 1), (43, .getfield 9, 3), (46, .iload 5, 2), (48, .dup2, 1), (49, .iaload, 1), (50, .iconst 1, 1), (51, .isub, 1), (52, .iastore, 1), (53, .aload_n 0, 1), (54, .dup, 1), (55, .getfield 19, 3), (58, .iconst 1, 1), (59, .iload 5, 2), (61, .ishl, 1), (62, .ior, 1), (63, .putfield 19, 3), (66, .return_, 1)]
set_option maxRecDepth 100000 in
theorem dX1_stroke : dOk cX1_stroke tbX1_stroke = true := by decide +kernel
def tbX2_init : dT := [(0, .aload_n 0, 1), (1, .invokespecial 3, 3), (4, .aload_n 0, 1), (5, .bipush 20, 2), (7, .newarray .int, 2), (9, .putfield 9, 3), (12, .aload_n 0, 1), (13, .iconst 0, 1), (14, .putfield 15, 3), (17, .aload_n 0, 1), (18, .iconst 0, 1), (19, .putfield 19, 3), (22, .aload_n 0, 1), (23, .iconst 0, 1), (24, .putfield 22, 3), (27, .aload_n 0, 1), (28, .iconst 0, 1), (29, .putfield 25, 3), (32, .aload_n 0, 1), (33, .iconst 0, 1), (34, .putfield 28, 3), (37, .return_, 1)]
set_option maxRecDepth 100000 in
theorem dX2_init : dOk cX2_init tbX2_init = true := by decide +kernel
def tbX2_take : dT := [(0, .aload_n 1, 1), (1, .bipush 99, 2), (3, .invokevirtual 31, 3), (6, .aload_n 0, 1), (7, .aload_n 1, 1), (8, .iconst 1, 1), (9, .iconst 4, 1), (10, .invokevirtual 37, 3), (13, .putfield 15, 3), (16, .aload_n 0, 1), (17, .aload_n 1, 1), (18, .iconst 2, 1), (19, .iconst 5, 1), (20, .invokevirtual 37, 3), (23, .putfield 19, 3), (26, .aload_n 0, 1), (27, .aload_n 1, 1), (28, .iconst 0, 1), (29, .bipush 9, 2), (31, .invokevirtual 37, 3), (34, .putfield 22, 3), (37, .aload_n 0, 1), (38, .iconst 0, 1), (39, .putfield 25, 3), (42, .iconst 0, 1), (43, .istore_n 2, 1), (44, .iload_n 2, 1), (45, .aload_n 0, 1), (46, .getfield 15, 3), (49, .if_icmp .ge 68, 3), (52, .aload_n 0, 1), (53, .dup, 1), (54, .getfield 25, 3), (57, .iconst 1, 1), (58, .iload_n 2, 1), (59, .aload_n 0, 1), (60, .getfield 19, 3), (63, .imul, 1), (64, .ishl, 1), (65, .ior, 1), (66, .putfield 25, 3), (69, .aload_n 1, 1), (70, .bipush 59, 2), (72, .invokevirtual 31, 3), (75, .iconst 0, 1), (76, .istore_n 3, 1), (77, .iload_n 3, 1), (78, .aload_n 0, 1), (79, .getfield 19, 3), (82, .if_icmp .ge 29, 3), (85, .aload_n 0, 1), (86, .getfield 9, 3), (89, .iload_n 2, 1), (90, .aload_n 0, 1), (91, .getfield 19, 3), (94, .imul, 1), (95, .iload_n 3, 1), (96, .iadd, 1), (97, .aload_n 1, 1), (98, .iconst 0, 1), (99, .bipush 9, 2), (101, .invokevirtual 37, 3), (104, .iastore, 1), (105, .iinc 3 1, 3), (108, .goto (-31), 3), (111, .iinc 2 1, 3), (114, .goto (-70), 3), (117, .aload_n 0, 1), (118, .aload_n 0, 1), (119, .getfield 25, 3), (122, .aload_n 0, 1), (123, .getfield 19, 3), (126, .iconst 1, 1), (127, .isub, 1), (128, .ishl, 1), (129, .putfield 28, 3), (132, .return_, 1)]
set_option maxRecDepth 100000 in
theorem dX2_take : dOk cX2_take tbX2_take = true := by decide +kernel
def tbX2_cells : dT := [(0, .aload_n 0, 1), (1, .getfield 15, 3), (4, .aload_n 0, 1), (5, .getfield 19, 3), (8, .imul, 1), (9, .ireturn, 1)]
set_option maxRecDepth 100000 in
theorem dX2_cells : dOk cX2_cells tbX2_cells = true := by decide +kernel
def tbX2_all : dT := [(0, .iconst 1, 1), (1, .aload_n 0, 1), (2, .invokevirtual 41, 3), (5, .ishl, 1), (6, .iconst 1, 1), (7, .isub, 1), (8, .ireturn, 1)]
set_option maxRecDepth 100000 in
theorem dX2_all : dOk cX2_all tbX2_all = true := by decide +kernel
def tbX2_has : dT := [(0, .iload_n 1, 1), (1, .iconst 0, 1), (2, .aload_n 0, 1), (3, .invokevirtual 41, 3), (6, .iconst 1, 1), (7, .isub, 1), (8, .invokestatic 45, 3), (11, .ireturn, 1)]
set_option maxRecDepth 100000 in
theorem dX2_has : dOk cX2_has tbX2_has = true := by decide +kernel
def tbX2_strengthen : dT := [(0, .iconst 0, 1), (1, .istore_n 2, 1), (2, .iload_n 2, 1), (3, .aload_n 0, 1), (4, .invokevirtual 41, 3), (7, .if_icmp .ge 32, 3), (10, .aload_n 0, 1), (11, .getfield 9, 3), (14, .iload_n 2, 1), (15, .iconst 0, 1), (16, .bipush 9, 2), (18, .aload_n 0, 1), (19, .getfield 9, 3), (22, .iload_n 2, 1), (23, .iaload, 1), (24, .iload_n 1, 1), (25, .iadd, 1), (26, .invokestatic 49, 3), (29, .invokestatic 54, 3), (32, .iastore, 1), (33, .iinc 2 1, 3), (36, .goto (-34), 3), (39, .return_, 1)]
set_option maxRecDepth 100000 in
theorem dX2_strengthen : dOk cX2_strengthen tbX2_strengthen = true := by decide +kernel
def tbX2_count : dT := [(0, .iconst 0, 1), (1, .istore_n 2, 1), (2, .iconst 0, 1), (3, .istore_n 3, 1), (4, .iload_n 3, 1), (5, .aload_n 0, 1), (6, .invokevirtual 41, 3), (9, .if_icmp .ge 27, 3), (12, .iload_n 2, 1), (13, .aload_n 0, 1), (14, .getfield 9, 3), (17, .iload_n 3, 1), (18, .iaload, 1), (19, .iload_n 1, 1), (20, .if_icmp .ne 7, 3), (23, .iconst 1, 1), (24, .goto 4, 3), (27, .iconst 0, 1), (28, .iadd, 1), (29, .istore_n 2, 1), (30, .iinc 3 1, 3), (33, .goto (-29), 3), (36, .iload_n 2, 1), (37, .ireturn, 1)]
set_option maxRecDepth 100000 in
theorem dX2_count : dOk cX2_count tbX2_count = true := by decide +kernel
def tbX2_bearing : dT := [(0, .iconst 0, 1), (1, .istore_n 3, 1), (2, .iconst 0, 1), (3, .istore 4, 2), (5, .iload 4, 2), (7, .aload_n 0, 1), (8, .invokevirtual 41, 3), (11, .if_icmp .ge 33, 3), (14, .iload_n 3, 1), (15, .iload_n 1, 1), (16, .aload_n 0, 1), (17, .getfield 9, 3), (20, .iload 4, 2), (22, .iaload, 1), (23, .iload_n 2, 1), (24, .isub, 1), (25, .if_icmp .gt 10, 3), (28, .iconst 1, 1), (29, .iload 4, 2), (31, .ishl, 1), (32, .goto 4, 3), (35, .iconst 0, 1), (36, .ior, 1), (37, .istore_n 3, 1), (38, .iinc 4 1, 3), (41, .goto (-36), 3), (44, .iload_n 3, 1), (45, .ireturn, 1)]
set_option maxRecDepth 100000 in
theorem dX2_bearing : dOk cX2_bearing tbX2_bearing = true := by decide +kernel
def tbX2_led : dT := [(0, .iload_n 2, 1), (1, .tableswitch 116 0 3 #[31, 51, 71, 96], 31), (32, .iload_n 1, 1), (33, .aload_n 0, 1), (34, .getfield 19, 3), (37, .if_icmp .lt 12, 3), (40, .iload_n 1, 1), (41, .aload_n 0, 1), (42, .getfield 19, 3), (45, .isub, 1), (46, .goto 5, 3), (49, .bipush (-9), 2), (51, .ireturn, 1), (52, .aload_n 0, 1), (53, .getfield 28, 3), (56, .iload_n 1, 1), (57, .invokestatic 57, 3), (60, .ifCond .eq 8, 3), (63, .bipush (-9), 2), (65, .goto 6, 3), (68, .iload_n 1, 1), (69, .iconst 1, 1), (70, .iadd, 1), (71, .ireturn, 1), (72, .iload_n 1, 1), (73, .aload_n 0, 1), (74, .getfield 19, 3), (77, .iadd, 1), (78, .aload_n 0, 1), (79, .invokevirtual 41, 3), (82, .if_icmp .ge 12, 3), (85, .iload_n 1, 1), (86, .aload_n 0, 1), (87, .getfield 19, 3), (90, .iadd, 1), (91, .goto 5, 3), (94, .bipush (-9), 2), (96, .ireturn, 1), (97, .aload_n 0, 1), (98, .getfield 25, 3), (101, .iload_n 1, 1), (102, .invokestatic 57, 3), (105, .ifCond .eq 8, 3), (108, .bipush (-9), 2), (110, .goto 6, 3), (113, .iload_n 1, 1), (114, .iconst 1, 1), (115, .isub, 1), (116, .ireturn, 1), (117, .bipush (-9), 2), (119, .ireturn, 1)]
set_option maxRecDepth 100000 in
theorem dX2_led : dOk cX2_led tbX2_led = true := by decide +kernel
def tbX2_nextTo : dT := [(0, .iload_n 1, 1), (1, .aload_n 0, 1), (2, .getfield 28, 3), (5, .iconst (-1), 1), (6, .ixor, 1), (7, .iand, 1), (8, .iconst 1, 1), (9, .ishl, 1), (10, .iload_n 1, 1), (11, .aload_n 0, 1), (12, .getfield 25, 3), (15, .iconst (-1), 1), (16, .ixor, 1), (17, .iand, 1), (18, .iconst 1, 1), (19, .ishr, 1), (20, .ior, 1), (21, .istore_n 2, 1), (22, .iload_n 1, 1), (23, .aload_n 0, 1), (24, .getfield 19, 3), (27, .ishl, 1), (28, .iload_n 1, 1), (29, .aload_n 0, 1), (30, .getfield 19, 3), (33, .ishr, 1), (34, .ior, 1), (35, .istore_n 3, 1), (36, .iload_n 2, 1), (37, .iload_n 3, 1), (38, .ior, 1), (39, .aload_n 0, 1), (40, .invokevirtual 61, 3), (43, .iand, 1), (44, .ireturn, 1)]
set_option maxRecDepth 100000 in
theorem dX2_nextTo : dOk cX2_nextTo tbX2_nextTo = true := by decide +kernel
def tbX2_reach : dT := [(0, .iconst 1, 1), (1, .iload_n 1, 1), (2, .ishl, 1), (3, .istore_n 3, 1), (4, .iconst 1, 1), (5, .istore 4, 2), (7, .iload 4, 2), (9, .bipush 20, 2), (11, .if_icmp .ge 19, 3), (14, .iload_n 3, 1), (15, .aload_n 0, 1), (16, .iload_n 3, 1), (17, .invokevirtual 64, 3), (20, .iload_n 2, 1), (21, .iand, 1), (22, .ior, 1), (23, .istore_n 3, 1), (24, .iinc 4 1, 3), (27, .goto (-20), 3), (30, .iload_n 3, 1), (31, .ireturn, 1)]
set_option maxRecDepth 100000 in
theorem dX2_reach : dOk cX2_reach tbX2_reach = true := by decide +kernel
def tbX2_shortest : dT := [(0, .iconst 1, 1), (1, .iload_n 1, 1), (2, .ishl, 1), (3, .istore 5, 2), (5, .iload 5, 2), (7, .istore 6, 2), (9, .iconst 0, 1), (10, .istore 7, 2), (12, .iload 7, 2), (14, .bipush 20, 2), (16, .if_icmp .ge 60, 3), (19, .iload 5, 2), (21, .ifCond .eq 55, 3), (24, .iload 5, 2), (26, .iload_n 2, 1), (27, .invokestatic 57, 3), (30, .ifCond .eq 6, 3), (33, .iload 7, 2), (35, .ireturn, 1), (36, .aload_n 0, 1), (37, .iload 5, 2), (39, .invokevirtual 64, 3), (42, .iload 7, 2), (44, .iconst 2, 1), (45, .irem, 1), (46, .ifCond .ne 7, 3), (49, .iload_n 3, 1), (50, .goto 5, 3), (53, .iload 4, 2), (55, .iand, 1), (56, .iload 6, 2), (58, .iconst (-1), 1), (59, .ixor, 1), (60, .iand, 1), (61, .istore 5, 2), (63, .iload 6, 2), (65, .iload 5, 2), (67, .ior, 1), (68, .istore 6, 2), (70, .iinc 7 1, 3), (73, .goto (-61), 3), (76, .bipush (-9), 2), (78, .ireturn, 1)]
set_option maxRecDepth 100000 in
theorem dX2_shortest : dOk cX2_shortest tbX2_shortest = true := by decide +kernel
def tbX2_strokeOfBond : dT := [(0, .iload_n 2, 1), (1, .istore 6, 2), (3, .bipush (-9), 2), (5, .istore 7, 2), (7, .iconst 0, 1), (8, .istore 8, 2), (10, .iload 8, 2), (12, .iload_n 1, 1), (13, .if_icmp .gt 73, 3), (16, .iload 6, 2), (18, .bipush (-9), 2), (20, .if_icmp .eq 66, 3), (23, .iload 8, 2), (25, .iconst 2, 1), (26, .irem, 1), (27, .ifCond .ne 7, 3), (30, .iconst 1, 1), (31, .goto 4, 3), (34, .iconst 0, 1), (35, .istore 9, 2), (37, .aload_n 0, 1), (38, .iload 6, 2), (40, .iload_n 3, 1), (41, .iload 9, 2), (43, .ifCond .eq 8, 3), (46, .iload 4, 2), (48, .goto 5, 3), (51, .iload 5, 2), (53, .iload 9, 2), (55, .ifCond .eq 8, 3), (58, .iload 5, 2), (60, .goto 5, 3), (63, .iload 4, 2), (65, .invokevirtual 68, 3), (68, .istore 7, 2), (70, .aload_n 0, 1), (71, .iload 6, 2), (73, .iload 7, 2), (75, .invokevirtual 72, 3), (78, .istore 6, 2), (80, .iinc 8 1, 3), (83, .goto (-73), 3), (86, .iload 7, 2), (88, .ireturn, 1)]
set_option maxRecDepth 100000 in
theorem dX2_strokeOfBond : dOk cX2_strokeOfBond tbX2_strokeOfBond = true := by decide +kernel
def tbX2_beginOfBond : dT := [(0, .aload_n 0, 1), (1, .iload_n 1, 1), (2, .iload_n 2, 1), (3, .iload_n 3, 1), (4, .iload 4, 2), (6, .invokevirtual 75, 3), (9, .istore 5, 2), (11, .iconst 0, 1), (12, .istore 6, 2), (14, .iload 6, 2), (16, .iconst 3, 1), (17, .if_icmp .gt 54, 3), (20, .aload_n 0, 1), (21, .iload_n 1, 1), (22, .iload 6, 2), (24, .invokevirtual 72, 3), (27, .istore 7, 2), (29, .iload 7, 2), (31, .bipush (-9), 2), (33, .if_icmp .eq 32, 3), (36, .iload_n 3, 1), (37, .iload 7, 2), (39, .invokestatic 57, 3), (42, .ifCond .eq 23, 3), (45, .aload_n 0, 1), (46, .iload 7, 2), (48, .iload_n 2, 1), (49, .iload 4, 2), (51, .iload_n 3, 1), (52, .invokevirtual 75, 3), (55, .iload 5, 2), (57, .iconst 1, 1), (58, .isub, 1), (59, .if_icmp .ne 6, 3), (62, .iload 6, 2), (64, .ireturn, 1), (65, .iinc 6 1, 3), (68, .goto (-54), 3), (71, .bipush (-9), 2), (73, .ireturn, 1)]
set_option maxRecDepth 100000 in
theorem dX2_beginOfBond : dOk cX2_beginOfBond tbX2_beginOfBond = true := by decide +kernel
def tbX3_init : dT := [(0, .aload_n 0, 1), (1, .invokespecial 3, 3), (4, .aload_n 0, 1), (5, .bipush 8, 2), (7, .newarray .int, 2), (9, .putfield 9, 3), (12, .aload_n 0, 1), (13, .bipush 8, 2), (15, .newarray .int, 2), (17, .putfield 15, 3), (20, .aload_n 0, 1), (21, .bipush 8, 2), (23, .newarray .boolean, 2), (25, .putfield 18, 3), (28, .aload_n 0, 1), (29, .iconst 0, 1), (30, .putfield 22, 3), (33, .return_, 1)]
set_option maxRecDepth 100000 in
theorem dX3_init : dOk cX3_init tbX3_init = true := by decide +kernel
def tbX3_add : dT := [(0, .aload_n 0, 1), (1, .getfield 22, 3), (4, .bipush 8, 2), (6, .if_icmp .lt 6, 3), (9, .bipush (-4), 2), (11, .ireturn, 1), (12, .aload_n 0, 1), (13, .getfield 9, 3), (16, .aload_n 0, 1), (17, .getfield 22, 3), (20, .iload_n 1, 1), (21, .iastore, 1), (22, .aload_n 0, 1), (23, .getfield 15, 3), (26, .aload_n 0, 1), (27, .getfield 22, 3), (30, .iload_n 2, 1), (31, .iastore, 1), (32, .aload_n 0, 1), (33, .getfield 18, 3), (36, .aload_n 0, 1), (37, .getfield 22, 3), (40, .iload_n 3, 1), (41, .bastore, 1), (42, .aload_n 0, 1), (43, .dup, 1), (44, .getfield 22, 3), (47, .iconst 1, 1), (48, .iadd, 1), (49, .putfield 22, 3), (52, .aload_n 0, 1), (53, .getfield 22, 3), (56, .iconst 1, 1), (57, .isub, 1), (58, .ireturn, 1)]
set_option maxRecDepth 100000 in
theorem dX3_add : dOk cX3_add tbX3_add = true := by decide +kernel
def tbX3_areSo : dT := [(0, .iconst 0, 1), (1, .istore_n 3, 1), (2, .iload_n 3, 1), (3, .aload_n 0, 1), (4, .getfield 22, 3), (7, .if_icmp .ge 53, 3), (10, .aload_n 2, 1), (11, .aload_n 0, 1), (12, .getfield 9, 3), (15, .iload_n 3, 1), (16, .iaload, 1), (17, .invokevirtual 26, 3), (20, .aload_n 1, 1), (21, .getfield 32, 3), (24, .aload_n 0, 1), (25, .getfield 15, 3), (28, .iload_n 3, 1), (29, .iaload, 1), (30, .iaload, 1), (31, .if_icmp .gt 7, 3), (34, .iconst 1, 1), (35, .goto 4, 3), (38, .iconst 0, 1), (39, .istore 4, 2), (41, .iload 4, 2), (43, .aload_n 0, 1), (44, .getfield 18, 3), (47, .iload_n 3, 1), (48, .baload, 1), (49, .if_icmp .eq 5, 3), (52, .iconst 0, 1), (53, .ireturn, 1), (54, .iinc 3 1, 3), (57, .goto (-55), 3), (60, .iconst 1, 1), (61, .ireturn, 1)]
set_option maxRecDepth 100000 in
theorem dX3_areSo : dOk cX3_areSo tbX3_areSo = true := by decide +kernel
def tbX4_init : dT := [(0, .aload_n 0, 1), (1, .invokespecial 3, 3), (4, .aload_n 0, 1), (5, .bipush 60, 2), (7, .newarray .int, 2), (9, .putfield 9, 3), (12, .aload_n 0, 1), (13, .iconst (-1), 1), (14, .putfield 15, 3), (17, .aload_n 0, 1), (18, .iconst 0, 1), (19, .putfield 19, 3), (22, .return_, 1)]
set_option maxRecDepth 100000 in
theorem dX4_init : dOk cX4_init tbX4_init = true := by decide +kernel
def tbX4_begin : dT := [(0, .aload_n 0, 1), (1, .iload_n 1, 1), (2, .putfield 15, 3), (5, .aload_n 0, 1), (6, .iload_n 2, 1), (7, .putfield 19, 3), (10, .aload_n 0, 1), (11, .getfield 9, 3), (14, .iconst 0, 1), (15, .invokestatic 22, 3), (18, .return_, 1)]
set_option maxRecDepth 100000 in
theorem dX4_begin : dOk cX4_begin tbX4_begin = true := by decide +kernel
def tbX4_clear : dT := [(0, .aload_n 0, 1), (1, .iconst (-1), 1), (2, .putfield 15, 3), (5, .aload_n 0, 1), (6, .iconst 0, 1), (7, .putfield 19, 3), (10, .return_, 1)]
set_option maxRecDepth 100000 in
theorem dX4_clear : dOk cX4_clear tbX4_clear = true := by decide +kernel
def tbX4_isNothing : dT := [(0, .aload_n 0, 1), (1, .getfield 15, 3), (4, .iconst (-1), 1), (5, .if_icmp .ne 7, 3), (8, .iconst 1, 1), (9, .goto 4, 3), (12, .iconst 0, 1), (13, .ireturn, 1)]
set_option maxRecDepth 100000 in
theorem dX4_isNothing : dOk cX4_isNothing tbX4_isNothing = true := by decide +kernel
def tbX4_has : dT := [(0, .iload_n 1, 1), (1, .iconst 0, 1), (2, .aload_n 0, 1), (3, .getfield 19, 3), (6, .invokestatic 28, 3), (9, .ifCond .eq 21, 3), (12, .iload_n 2, 1), (13, .iconst 0, 1), (14, .aload_n 0, 1), (15, .getfield 19, 3), (18, .iload_n 1, 1), (19, .isub, 1), (20, .invokestatic 28, 3), (23, .ifCond .eq 7, 3), (26, .iconst 1, 1), (27, .goto 4, 3), (30, .iconst 0, 1), (31, .ireturn, 1)]
set_option maxRecDepth 100000 in
theorem dX4_has : dOk cX4_has tbX4_has = true := by decide +kernel
def tbX4_set : dT := [(0, .aload_n 0, 1), (1, .getfield 15, 3), (4, .lookupswitch 50 #[(0, 28), (1, 39)], 28), (32, .aload_n 0, 1), (33, .getfield 9, 3), (36, .iload_n 1, 1), (37, .iload_n 2, 1), (38, .i2b, 1), (39, .iastore, 1), (40, .goto 21, 3), (43, .aload_n 0, 1), (44, .getfield 9, 3), (47, .iload_n 1, 1), (48, .iload_n 2, 1), (49, .i2s, 1), (50, .iastore, 1), (51, .goto 10, 3), (54, .aload_n 0, 1), (55, .getfield 9, 3), (58, .iload_n 1, 1), (59, .iload_n 2, 1), (60, .iastore, 1), (61, .return_, 1)]
set_option maxRecDepth 100000 in
theorem dX4_set : dOk cX4_set tbX4_set = true := by decide +kernel
def tbX5_init : dT := [(0, .aload_n 0, 1), (1, .invokespecial 3, 3), (4, .aload_n 0, 1), (5, .bipush 60, 2), (7, .newarray .int, 2), (9, .putfield 9, 3), (12, .aload_n 0, 1), (13, .iconst 0, 1), (14, .putfield 15, 3), (17, .aload_n 0, 1), (18, .iconst 0, 1), (19, .putfield 19, 3), (22, .aload_n 0, 1), (23, .iconst 0, 1), (24, .putfield 22, 3), (27, .return_, 1)]
set_option maxRecDepth 100000 in
theorem dX5_init : dOk cX5_init tbX5_init = true := by decide +kernel
def tbX5_begin : dT := [(0, .aload_n 1, 1), (1, .getfield 26, 3), (4, .iload_n 2, 1), (5, .aload_n 0, 1), (6, .getfield 9, 3), (9, .iconst 0, 1), (10, .iload_n 3, 1), (11, .invokestatic 31, 3), (14, .aload_n 0, 1), (15, .iload_n 3, 1), (16, .putfield 15, 3), (19, .aload_n 0, 1), (20, .iconst 0, 1), (21, .putfield 19, 3), (24, .aload_n 0, 1), (25, .iconst 0, 1), (26, .putfield 22, 3), (29, .return_, 1)]
set_option maxRecDepth 100000 in
theorem dX5_begin : dOk cX5_begin tbX5_begin = true := by decide +kernel
def tbX5_goesOn : dT := [(0, .aload_n 0, 1), (1, .getfield 22, 3), (4, .ifCond .ne 18, 3), (7, .aload_n 0, 1), (8, .getfield 19, 3), (11, .aload_n 0, 1), (12, .getfield 15, 3), (15, .if_icmp .ge 7, 3), (18, .iconst 1, 1), (19, .goto 4, 3), (22, .iconst 0, 1), (23, .ireturn, 1)]
set_option maxRecDepth 100000 in
theorem dX5_goesOn : dOk cX5_goesOn tbX5_goesOn = true := by decide +kernel
def tbX5_take : dT := [(0, .aload_n 0, 1), (1, .invokevirtual 37, 3), (4, .ifCond .eq 20, 3), (7, .aload_n 0, 1), (8, .getfield 9, 3), (11, .aload_n 0, 1), (12, .getfield 19, 3), (15, .iaload, 1), (16, .iload_n 1, 1), (17, .iload_n 2, 1), (18, .invokestatic 41, 3), (21, .ifCond .ne 10, 3), (24, .aload_n 0, 1), (25, .iconst 1, 1), (26, .putfield 22, 3), (29, .iconst 0, 1), (30, .ireturn, 1), (31, .aload_n 0, 1), (32, .dup, 1), (33, .getfield 19, 3), (36, .iconst 1, 1), (37, .iadd, 1), (38, .putfield 19, 3), (41, .aload_n 0, 1), (42, .getfield 9, 3), (45, .aload_n 0, 1), (46, .getfield 19, 3), (49, .iconst 1, 1), (50, .isub, 1), (51, .iaload, 1), (52, .iload_n 1, 1), (53, .isub, 1), (54, .ireturn, 1)]
set_option maxRecDepth 100000 in
theorem dX5_take : dOk cX5_take tbX5_take = true := by decide +kernel
def tbX5_digit : dT := [(0, .iload_n 1, 1), (1, .aload_n 0, 1), (2, .bipush 48, 2), (4, .iload_n 1, 1), (5, .iadd, 1), (6, .bipush 48, 2), (8, .iload_n 2, 1), (9, .iadd, 1), (10, .invokevirtual 45, 3), (13, .iadd, 1), (14, .ireturn, 1)]
set_option maxRecDepth 100000 in
theorem dX5_digit : dOk cX5_digit tbX5_digit = true := by decide +kernel
def tbX5_sign : dT := [(0, .aload_n 0, 1), (1, .iload_n 1, 1), (2, .iload_n 1, 1), (3, .invokevirtual 45, 3), (6, .pop, 1), (7, .return_, 1)]
set_option maxRecDepth 100000 in
theorem dX5_sign : dOk cX5_sign tbX5_sign = true := by decide +kernel
def tbX5_kind : dT := [(0, .aload_n 0, 1), (1, .invokevirtual 37, 3), (4, .ifCond .eq 15, 3), (7, .aload_n 0, 1), (8, .getfield 9, 3), (11, .aload_n 0, 1), (12, .getfield 19, 3), (15, .iaload, 1), (16, .goto 4, 3), (19, .iconst 0, 1), (20, .istore_n 1, 1), (21, .iload_n 1, 1), (22, .bipush 107, 2), (24, .if_icmp .ne 11, 3), (27, .aload_n 0, 1), (28, .bipush 107, 2), (30, .invokevirtual 49, 3), (33, .iconst 1, 1), (34, .ireturn, 1), (35, .iload_n 1, 1), (36, .bipush 98, 2), (38, .if_icmp .ne 11, 3), (41, .aload_n 0, 1), (42, .bipush 98, 2), (44, .invokevirtual 49, 3), (47, .iconst 2, 1), (48, .ireturn, 1), (49, .aload_n 0, 1), (50, .bipush 115, 2), (52, .invokevirtual 49, 3), (55, .iconst 0, 1), (56, .ireturn, 1)]
set_option maxRecDepth 100000 in
theorem dX5_kind : dOk cX5_kind tbX5_kind = true := by decide +kernel
def tbX5_end : dT := [(0, .aload_n 0, 1), (1, .aload_n 0, 1), (2, .getfield 22, 3), (5, .ifCond .ne 14, 3), (8, .aload_n 0, 1), (9, .getfield 19, 3), (12, .aload_n 0, 1), (13, .getfield 15, 3), (16, .if_icmp .ge 7, 3), (19, .iconst 1, 1), (20, .goto 4, 3), (23, .iconst 0, 1), (24, .putfield 22, 3), (27, .return_, 1)]
set_option maxRecDepth 100000 in
theorem dX5_end : dOk cX5_end tbX5_end = true := by decide +kernel
def tbX6_init : dT := [(0, .aload_n 0, 1), (1, .invokespecial 5, 3), (4, .aload_n 0, 1), (5, .iconst 4, 1), (6, .anewarray 11, 3), (9, .putfield 13, 3), (12, .aload_n 0, 1), (13, .new 17, 3), (16, .dup, 1), (17, .invokespecial 19, 3), (20, .putfield 20, 3), (23, .aload_n 0, 1), (24, .new 24, 3), (27, .dup, 1), (28, .invokespecial 26, 3), (31, .putfield 27, 3), (34, .aload_n 0, 1), (35, .new 31, 3), (38, .dup, 1), (39, .invokespecial 33, 3), (42, .putfield 34, 3), (45, .aload_n 0, 1), (46, .new 38, 3), (49, .dup, 1), (50, .invokespecial 40, 3), (53, .putfield 41, 3), (56, .aload_n 0, 1), (57, .new 45, 3), (60, .dup, 1), (61, .invokespecial 47, 3), (64, .putfield 48, 3), (67, .aload_n 0, 1), (68, .new 38, 3), (71, .dup, 1), (72, .invokespecial 40, 3), (75, .putfield 52, 3), (78, .aload_n 0, 1), (79, .new 45, 3), (82, .dup, 1), (83, .invokespecial 47, 3), (86, .putfield 55, 3), (89, .aload_n 0, 1), (90, .iconst 0, 1), (91, .putfield 58, 3), (94, .aload_n 0, 1), (95, .iconst 0, 1), (96, .putfield 62, 3), (99, .iconst 0, 1), (100, .istore_n 1, 1), (101, .iload_n 1, 1), (102, .iconst 4, 1), (103, .if_icmp .ge 22, 3), (106, .aload_n 0, 1), (107, .getfield 13, 3), (110, .iload_n 1, 1), (111, .new 11, 3), (114, .dup, 1), (115, .invokespecial 65, 3), (118, .aastore, 1), (119, .iinc 1 1, 3), (122, .goto (-21), 3), (125, .return_, 1)]
set_option maxRecDepth 100000 in
theorem dX6_init : dOk cX6_init tbX6_init = true := by decide +kernel
def tbX6_canal : dT := [(0, .aload_n 0, 1), (1, .aload_n 0, 1), (2, .iload_n 1, 1), (3, .iload_n 2, 1), (4, .iload_n 3, 1), (5, .iload 4, 2), (7, .invokevirtual 66, 3), (10, .invokevirtual 70, 3), (13, .ireturn, 1)]
set_option maxRecDepth 100000 in
theorem dX6_canal : dOk cX6_canal tbX6_canal = true := by decide +kernel
def tbX6_ofSkater : dT := [(0, .aload_n 0, 1), (1, .getfield 48, 3), (4, .iload_n 1, 1), (5, .invokevirtual 74, 3), (8, .ifCond .ne 5, 3), (11, .iconst (-1), 1), (12, .ireturn, 1), (13, .iload_n 2, 1), (14, .tableswitch 76 0 3 #[30, 40, 50, 59], 30), (44, .aload_n 0, 1), (45, .getfield 48, 3), (48, .getfield 78, 3), (51, .iload_n 1, 1), (52, .iaload, 1), (53, .ireturn, 1), (54, .aload_n 0, 1), (55, .getfield 48, 3), (58, .getfield 82, 3), (61, .iload_n 1, 1), (62, .iaload, 1), (63, .ireturn, 1), (64, .aload_n 0, 1), (65, .getfield 48, 3), (68, .iload_n 1, 1), (69, .invokevirtual 85, 3), (72, .ireturn, 1), (73, .aload_n 0, 1), (74, .getfield 41, 3), (77, .aload_n 0, 1), (78, .getfield 48, 3), (81, .iload_n 1, 1), (82, .invokevirtual 85, 3), (85, .iconst 0, 1), (86, .invokevirtual 88, 3), (89, .ireturn, 1), (90, .bipush (-2), 2), (92, .ireturn, 1)]
set_option maxRecDepth 100000 in
theorem dX6_ofSkater : dOk cX6_ofSkater tbX6_ofSkater = true := by decide +kernel
def tbX6_strength : dT := [(0, .aload_n 0, 1), (1, .getfield 41, 3), (4, .iload_n 1, 1), (5, .invokevirtual 92, 3), (8, .ifCond .eq 15, 3), (11, .aload_n 0, 1), (12, .getfield 41, 3), (15, .getfield 93, 3), (18, .iload_n 1, 1), (19, .iaload, 1), (20, .goto 4, 3), (23, .iconst (-1), 1), (24, .ireturn, 1)]
set_option maxRecDepth 100000 in
theorem dX6_strength : dOk cX6_strength tbX6_strength = true := by decide +kernel
def tbX6_freeze : dT := [(0, .aload_n 0, 1), (1, .getfield 41, 3), (4, .iload_n 1, 1), (5, .invokevirtual 92, 3), (8, .ifCond .ne 5, 3), (11, .iconst (-1), 1), (12, .ireturn, 1), (13, .iload_n 2, 1), (14, .iconst 0, 1), (15, .bipush 9, 2), (17, .invokestatic 96, 3), (20, .ifCond .ne 6, 3), (23, .bipush (-2), 2), (25, .ireturn, 1), (26, .aload_n 0, 1), (27, .getfield 41, 3), (30, .getfield 93, 3), (33, .iload_n 1, 1), (34, .iaload, 1), (35, .istore_n 3, 1), (36, .aload_n 0, 1), (37, .getfield 41, 3), (40, .getfield 93, 3), (43, .iload_n 1, 1), (44, .iload_n 2, 1), (45, .iastore, 1), (46, .iload_n 3, 1), (47, .ireturn, 1)]
set_option maxRecDepth 100000 in
theorem dX6_freeze : dOk cX6_freeze tbX6_freeze = true := by decide +kernel
def tbX6_frost : dT := [(0, .aload_n 0, 1), (1, .iload_n 1, 1), (2, .invokevirtual 100, 3), (5, .istore_n 2, 1), (6, .iload_n 2, 1), (7, .ifCond .eq 5, 3), (10, .iload_n 2, 1), (11, .ireturn, 1), (12, .aload_n 0, 1), (13, .getfield 41, 3), (16, .getfield 103, 3), (19, .istore_n 3, 1), (20, .aload_n 0, 1), (21, .getfield 41, 3), (24, .iload_n 1, 1), (25, .putfield 103, 3), (28, .iload_n 3, 1), (29, .ireturn, 1)]
set_option maxRecDepth 100000 in
theorem dX6_frost : dOk cX6_frost tbX6_frost = true := by decide +kernel
def tbX6_deed : dT := [(0, .iload 8, 2), (2, .iconst 0, 1), (3, .iconst 4, 1), (4, .invokestatic 96, 3), (7, .ifCond .ne 26, 3), (10, .aload_n 0, 1), (11, .aload_n 0, 1), (12, .iload_n 1, 1), (13, .iload_n 2, 1), (14, .iload_n 3, 1), (15, .iload 4, 2), (17, .invokevirtual 106, 3), (20, .ifCond .eq 8, 3), (23, .bipush (-2), 2), (25, .goto 4, 3), (28, .iconst (-1), 1), (29, .invokevirtual 70, 3), (32, .ireturn, 1), (33, .aload_n 0, 1), (34, .iload_n 1, 1), (35, .iload_n 2, 1), (36, .iload_n 3, 1), (37, .iload 4, 2), (39, .iload 5, 2), (41, .iload 6, 2), (43, .iload 7, 2), (45, .invokevirtual 110, 3), (48, .istore 9, 2), (50, .aload_n 0, 1), (51, .iload 9, 2), (53, .ifCond .ne 14, 3), (56, .aload_n 0, 1), (57, .iload 7, 2), (59, .iload 8, 2), (61, .invokevirtual 114, 3), (64, .goto 5, 3), (67, .iload 9, 2), (69, .invokevirtual 70, 3), (72, .ireturn, 1)]
set_option maxRecDepth 100000 in
theorem dX6_deed : dOk cX6_deed tbX6_deed = true := by decide +kernel
def tbX6_write : dT := [(0, .aload_n 0, 1), (1, .iload_n 1, 1), (2, .iload_n 2, 1), (3, .iload_n 3, 1), (4, .iload 4, 2), (6, .iload 5, 2), (8, .iload 6, 2), (10, .iload 7, 2), (12, .invokevirtual 110, 3), (15, .istore 8, 2), (17, .iload 8, 2), (19, .ifCond .eq 10, 3), (22, .aload_n 0, 1), (23, .iload 8, 2), (25, .invokevirtual 70, 3), (28, .ireturn, 1), (29, .aload_n 0, 1), (30, .getfield 27, 3), (33, .getfield 117, 3), (36, .bipush (-9), 2), (38, .if_icmp .eq 18, 3), (41, .aload_n 0, 1), (42, .bipush (-100), 2), (44, .aload_n 0, 1), (45, .getfield 27, 3), (48, .getfield 117, 3), (51, .isub, 1), (52, .invokevirtual 70, 3), (55, .ireturn, 1), (56, .aload_n 0, 1), (57, .getfield 27, 3), (60, .getfield 120, 3), (63, .iconst 0, 1), (64, .aload_n 0, 1), (65, .getfield 41, 3), (68, .getfield 93, 3), (71, .iconst 0, 1), (72, .bipush 20, 2), (74, .invokestatic 121, 3), (77, .aload_n 0, 1), (78, .iload 7, 2), (80, .invokevirtual 70, 3), (83, .ireturn, 1)]
set_option maxRecDepth 100000 in
theorem dX6_write : dOk cX6_write tbX6_write = true := by decide +kernel
def tbX6_nights : dT := [(0, .aload_n 0, 1), (1, .iload_n 1, 1), (2, .invokevirtual 100, 3), (5, .istore_n 2, 1), (6, .iload_n 2, 1), (7, .ifCond .eq 5, 3), (10, .iload_n 2, 1), (11, .ireturn, 1), (12, .aload_n 0, 1), (13, .getfield 41, 3), (16, .iload_n 1, 1), (17, .aload_n 0, 1), (18, .getfield 41, 3), (21, .getfield 103, 3), (24, .imul, 1), (25, .invokevirtual 127, 3), (28, .aload_n 0, 1), (29, .getfield 41, 3), (32, .bipush 9, 2), (34, .invokevirtual 131, 3), (37, .ireturn, 1)]
set_option maxRecDepth 100000 in
theorem dX6_nights : dOk cX6_nights tbX6_nights = true := by decide +kernel
def tbX6_thaw : dT := [(0, .aload_n 0, 1), (1, .iload_n 1, 1), (2, .invokevirtual 100, 3), (5, .istore_n 2, 1), (6, .iload_n 2, 1), (7, .ifCond .eq 5, 3), (10, .iload_n 2, 1), (11, .ireturn, 1), (12, .aload_n 0, 1), (13, .getfield 41, 3), (16, .iload_n 1, 1), (17, .ineg, 1), (18, .invokevirtual 127, 3), (21, .aload_n 0, 1), (22, .getfield 41, 3), (25, .iconst 0, 1), (26, .invokevirtual 131, 3), (29, .ireturn, 1)]
set_option maxRecDepth 100000 in
theorem dX6_thaw : dOk cX6_thaw tbX6_thaw = true := by decide +kernel
def tbX6_bond : dT := [(0, .aload_n 0, 1), (1, .iload_n 1, 1), (2, .iload_n 2, 1), (3, .iload_n 3, 1), (4, .iload 4, 2), (6, .invokevirtual 134, 3), (9, .ifCond .ne 5, 3), (12, .iconst (-1), 1), (13, .ireturn, 1), (14, .iload 5, 2), (16, .iconst (-1), 1), (17, .bipush 39, 2), (19, .invokestatic 96, 3), (22, .ifCond .ne 6, 3), (25, .bipush (-2), 2), (27, .ireturn, 1), (28, .aload_n 0, 1), (29, .getfield 41, 3), (32, .aload_n 0, 1), (33, .getfield 48, 3), (36, .iload_n 1, 1), (37, .invokevirtual 85, 3), (40, .iconst 0, 1), (41, .invokevirtual 88, 3), (44, .istore 6, 2), (46, .aload_n 0, 1), (47, .getfield 41, 3), (50, .aload_n 0, 1), (51, .getfield 48, 3), (54, .iload_n 2, 1), (55, .invokevirtual 85, 3), (58, .iconst 0, 1), (59, .invokevirtual 88, 3), (62, .istore 7, 2), (64, .aload_n 0, 1), (65, .getfield 41, 3), (68, .iload_n 3, 1), (69, .iload 4, 2), (71, .iload 6, 2), (73, .iload 7, 2), (75, .invokevirtual 137, 3), (78, .istore 8, 2), (80, .iload 5, 2), (82, .iconst (-1), 1), (83, .if_icmp .ne 6, 3), (86, .iload 8, 2), (88, .ireturn, 1), (89, .iload 5, 2), (91, .iload 8, 2), (93, .if_icmp .ge 22, 3), (96, .aload_n 0, 1), (97, .getfield 41, 3), (100, .iload 5, 2), (102, .iload_n 3, 1), (103, .iload 4, 2), (105, .iload 6, 2), (107, .iload 7, 2), (109, .invokevirtual 140, 3), (112, .goto 5, 3), (115, .bipush (-9), 2), (117, .ireturn, 1)]
set_option maxRecDepth 100000 in
theorem dX6_bond : dOk cX6_bond tbX6_bond = true := by decide +kernel
def tbX6_holds : dT := [(0, .aload_n 0, 1), (1, .iload_n 1, 1), (2, .iload_n 2, 1), (3, .iload_n 3, 1), (4, .iload 4, 2), (6, .invokevirtual 134, 3), (9, .ifCond .ne 5, 3), (12, .iconst (-1), 1), (13, .ireturn, 1), (14, .bipush 9, 2), (16, .istore 5, 2), (18, .iload 5, 2), (20, .ifCond .lt 69, 3), (23, .aload_n 0, 1), (24, .getfield 41, 3), (27, .aload_n 0, 1), (28, .getfield 48, 3), (31, .iload_n 1, 1), (32, .invokevirtual 85, 3), (35, .iload 5, 2), (37, .invokevirtual 88, 3), (40, .istore 6, 2), (42, .aload_n 0, 1), (43, .getfield 41, 3), (46, .aload_n 0, 1), (47, .getfield 48, 3), (50, .iload_n 2, 1), (51, .invokevirtual 85, 3), (54, .iload 5, 2), (56, .invokevirtual 88, 3), (59, .istore 7, 2), (61, .aload_n 0, 1), (62, .getfield 41, 3), (65, .iload_n 3, 1), (66, .iload 4, 2), (68, .iload 6, 2), (70, .iload 7, 2), (72, .invokevirtual 137, 3), (75, .bipush (-9), 2), (77, .if_icmp .eq 6, 3), (80, .iload 5, 2), (82, .ireturn, 1), (83, .iinc 5 (-1), 3), (86, .goto (-68), 3), (89, .bipush (-9), 2), (91, .ireturn, 1)]
set_option maxRecDepth 100000 in
theorem dX6_holds : dOk cX6_holds tbX6_holds = true := by decide +kernel
def tbX6_alone : dT := [(0, .aload_n 0, 1), (1, .getfield 48, 3), (4, .iload_n 1, 1), (5, .invokevirtual 74, 3), (8, .ifCond .eq 14, 3), (11, .aload_n 0, 1), (12, .getfield 41, 3), (15, .iload_n 2, 1), (16, .invokevirtual 92, 3), (19, .ifCond .ne 5, 3), (22, .iconst (-1), 1), (23, .ireturn, 1), (24, .aload_n 0, 1), (25, .getfield 41, 3), (28, .iload_n 2, 1), (29, .aload_n 0, 1), (30, .getfield 41, 3), (33, .aload_n 0, 1), (34, .getfield 48, 3), (37, .iload_n 1, 1), (38, .invokevirtual 85, 3), (41, .iconst 0, 1), (42, .invokevirtual 88, 3), (45, .invokevirtual 144, 3), (48, .ireturn, 1)]
set_option maxRecDepth 100000 in
theorem dX6_alone : dOk cX6_alone tbX6_alone = true := by decide +kernel
def tbX6_neck : dT := [(0, .aload_n 0, 1), (1, .iload_n 1, 1), (2, .iload_n 2, 1), (3, .iload_n 3, 1), (4, .iload 4, 2), (6, .invokevirtual 134, 3), (9, .ifCond .ne 5, 3), (12, .iconst (-1), 1), (13, .ireturn, 1), (14, .aload_n 0, 1), (15, .iload_n 1, 1), (16, .iload_n 2, 1), (17, .iload_n 3, 1), (18, .iload 4, 2), (20, .iconst 0, 1), (21, .invokevirtual 147, 3), (24, .ifCond .ne 6, 3), (27, .bipush (-9), 2), (29, .ireturn, 1), (30, .iconst 0, 1), (31, .istore 5, 2), (33, .iload 5, 2), (35, .aload_n 0, 1), (36, .getfield 41, 3), (39, .invokevirtual 151, 3), (42, .if_icmp .ge 41, 3), (45, .iload 5, 2), (47, .iload_n 3, 1), (48, .if_icmp .eq 29, 3), (51, .iload 5, 2), (53, .iload 4, 2), (55, .if_icmp .eq 22, 3), (58, .aload_n 0, 1), (59, .iload_n 1, 1), (60, .iload_n 2, 1), (61, .iload_n 3, 1), (62, .iload 4, 2), (64, .iconst 1, 1), (65, .iload 5, 2), (67, .ishl, 1), (68, .invokevirtual 147, 3), (71, .ifCond .ne 6, 3), (74, .iload 5, 2), (76, .ireturn, 1), (77, .iinc 5 1, 3), (80, .goto (-47), 3), (83, .bipush (-9), 2), (85, .ireturn, 1)]
set_option maxRecDepth 100000 in
theorem dX6_neck : dOk cX6_neck tbX6_neck = true := by decide +kernel
def tbX6_reading : dT := [(0, .aload_n 0, 1), (1, .getfield 48, 3), (4, .iload_n 1, 1), (5, .invokevirtual 74, 3), (8, .ifCond .eq 14, 3), (11, .aload_n 0, 1), (12, .getfield 41, 3), (15, .iload_n 2, 1), (16, .invokevirtual 92, 3), (19, .ifCond .ne 5, 3), (22, .iconst (-1), 1), (23, .ireturn, 1), (24, .aload_n 0, 1), (25, .getfield 34, 3), (28, .iload_n 1, 1), (29, .iload_n 2, 1), (30, .iload_n 3, 1), (31, .invokevirtual 155, 3), (34, .ireturn, 1)]
set_option maxRecDepth 100000 in
theorem dX6_reading : dOk cX6_reading tbX6_reading = true := by decide +kernel
def tbX6_back : dT := [(0, .iload_n 1, 1), (1, .iconst 0, 1), (2, .aload_n 0, 1), (3, .getfield 34, 3), (6, .getfield 159, 3), (9, .invokestatic 96, 3), (12, .ifCond .ne 6, 3), (15, .bipush (-2), 2), (17, .ireturn, 1), (18, .aload_n 0, 1), (19, .getfield 34, 3), (22, .dup, 1), (23, .getfield 159, 3), (26, .iload_n 1, 1), (27, .isub, 1), (28, .putfield 159, 3), (31, .aload_n 0, 1), (32, .getfield 34, 3), (35, .getfield 159, 3), (38, .ireturn, 1)]
set_option maxRecDepth 100000 in
theorem dX6_back : dOk cX6_back tbX6_back = true := by decide +kernel
def tbX6_weights : dT := [(0, .aload_n 0, 1), (1, .getfield 48, 3), (4, .iload_n 1, 1), (5, .invokevirtual 74, 3), (8, .ifCond .ne 5, 3), (11, .iconst (-1), 1), (12, .ireturn, 1), (13, .aload_n 0, 1), (14, .getfield 48, 3), (17, .getfield 82, 3), (20, .iload_n 1, 1), (21, .iaload, 1), (22, .istore_n 2, 1), (23, .iconst 0, 1), (24, .istore_n 3, 1), (25, .iconst 1, 1), (26, .istore 4, 2), (28, .iload 4, 2), (30, .bipush 9, 2), (32, .if_icmp .gt 49, 3), (35, .aload_n 0, 1), (36, .getfield 48, 3), (39, .getfield 82, 3), (42, .iload_n 1, 1), (43, .iload 4, 2), (45, .iastore, 1), (46, .iload_n 3, 1), (47, .aload_n 0, 1), (48, .getfield 34, 3), (51, .aload_n 0, 1), (52, .getfield 41, 3), (55, .aload_n 0, 1), (56, .getfield 48, 3), (59, .invokevirtual 161, 3), (62, .ifCond .eq 10, 3), (65, .iconst 1, 1), (66, .iload 4, 2), (68, .ishl, 1), (69, .goto 4, 3), (72, .iconst 0, 1), (73, .ior, 1), (74, .istore_n 3, 1), (75, .iinc 4 1, 3), (78, .goto (-50), 3), (81, .aload_n 0, 1), (82, .getfield 48, 3), (85, .getfield 82, 3), (88, .iload_n 1, 1), (89, .iload_n 2, 1), (90, .iastore, 1), (91, .iload_n 3, 1), (92, .ireturn, 1)]
set_option maxRecDepth 100000 in
theorem dX6_weights : dOk cX6_weights tbX6_weights = true := by decide +kernel
def tbX6_kinds : dT := [(0, .aload_n 0, 1), (1, .getfield 48, 3), (4, .iload_n 1, 1), (5, .invokevirtual 74, 3), (8, .ifCond .ne 5, 3), (11, .iconst (-1), 1), (12, .ireturn, 1), (13, .aload_n 0, 1), (14, .getfield 48, 3), (17, .getfield 78, 3), (20, .iload_n 1, 1), (21, .iaload, 1), (22, .istore_n 2, 1), (23, .iconst 0, 1), (24, .istore_n 3, 1), (25, .iconst 0, 1), (26, .istore 4, 2), (28, .iload 4, 2), (30, .iconst 2, 1), (31, .if_icmp .gt 49, 3), (34, .aload_n 0, 1), (35, .getfield 48, 3), (38, .getfield 78, 3), (41, .iload_n 1, 1), (42, .iload 4, 2), (44, .iastore, 1), (45, .iload_n 3, 1), (46, .aload_n 0, 1), (47, .getfield 34, 3), (50, .aload_n 0, 1), (51, .getfield 41, 3), (54, .aload_n 0, 1), (55, .getfield 48, 3), (58, .invokevirtual 161, 3), (61, .ifCond .eq 10, 3), (64, .iconst 1, 1), (65, .iload 4, 2), (67, .ishl, 1), (68, .goto 4, 3), (71, .iconst 0, 1), (72, .ior, 1), (73, .istore_n 3, 1), (74, .iinc 4 1, 3), (77, .goto (-49), 3), (80, .aload_n 0, 1), (81, .getfield 48, 3), (84, .getfield 78, 3), (87, .iload_n 1, 1), (88, .iload_n 2, 1), (89, .iastore, 1), (90, .iload_n 3, 1), (91, .ireturn, 1)]
set_option maxRecDepth 100000 in
theorem dX6_kinds : dOk cX6_kinds tbX6_kinds = true := by decide +kernel
def tbX6_strengths : dT := [(0, .aload_n 0, 1), (1, .getfield 41, 3), (4, .iload_n 1, 1), (5, .invokevirtual 92, 3), (8, .ifCond .ne 5, 3), (11, .iconst (-1), 1), (12, .ireturn, 1), (13, .aload_n 0, 1), (14, .getfield 41, 3), (17, .getfield 93, 3), (20, .iload_n 1, 1), (21, .iaload, 1), (22, .istore_n 2, 1), (23, .iconst 0, 1), (24, .istore_n 3, 1), (25, .iconst 0, 1), (26, .istore 4, 2), (28, .iload 4, 2), (30, .bipush 9, 2), (32, .if_icmp .gt 49, 3), (35, .aload_n 0, 1), (36, .getfield 41, 3), (39, .getfield 93, 3), (42, .iload_n 1, 1), (43, .iload 4, 2), (45, .iastore, 1), (46, .iload_n 3, 1), (47, .aload_n 0, 1), (48, .getfield 34, 3), (51, .aload_n 0, 1), (52, .getfield 41, 3), (55, .aload_n 0, 1), (56, .getfield 48, 3), (59, .invokevirtual 161, 3), (62, .ifCond .eq 10, 3), (65, .iconst 1, 1), (66, .iload 4, 2), (68, .ishl, 1), (69, .goto 4, 3), (72, .iconst 0, 1), (73, .ior, 1), (74, .istore_n 3, 1), (75, .iinc 4 1, 3), (78, .goto (-50), 3), (81, .aload_n 0, 1), (82, .getfield 41, 3), (85, .getfield 93, 3), (88, .iload_n 1, 1), (89, .iload_n 2, 1), (90, .iastore, 1), (91, .iload_n 3, 1), (92, .ireturn, 1)]
set_option maxRecDepth 100000 in
theorem dX6_strengths : dOk cX6_strengths tbX6_strengths = true := by decide +kernel
def tbX6_odds : dT := [(0, .aload_n 0, 1), (1, .iload_n 1, 1), (2, .iload_n 2, 1), (3, .iload_n 3, 1), (4, .iload 4, 2), (6, .invokevirtual 134, 3), (9, .ifCond .ne 7, 3), (12, .ldc2_w 165, 3), (15, .lreturn, 1), (16, .iload 5, 2), (18, .aload_n 0, 1), (19, .getfield 41, 3), (22, .invokevirtual 167, 3), (25, .iconst (-1), 1), (26, .ixor, 1), (27, .iand, 1), (28, .ifCond .ne 17, 3), (31, .iload 5, 2), (33, .invokestatic 170, 3), (36, .bipush 8, 2), (38, .if_icmp .gt 7, 3), (41, .iconst 1, 1), (42, .goto 4, 3), (45, .iconst 0, 1), (46, .istore 7, 2), (48, .iload 7, 2), (50, .ifCond .eq 13, 3), (53, .iload 6, 2), (55, .iconst 0, 1), (56, .iconst 1, 1), (57, .invokestatic 96, 3), (60, .ifCond .ne 7, 3), (63, .ldc2_w 165, 3), (66, .lreturn, 1), (67, .aload_n 0, 1), (68, .iload_n 1, 1), (69, .iload_n 2, 1), (70, .iload_n 3, 1), (71, .iload 4, 2), (73, .iload 5, 2), (75, .invokevirtual 175, 3), (78, .istore 8, 2), (80, .iconst 1, 1), (81, .iload 5, 2), (83, .invokestatic 170, 3), (86, .ishl, 1), (87, .istore 9, 2), (89, .iconst 0, 1), (90, .istore 10, 2), (92, .iload 10, 2), (94, .bipush 8, 2), (96, .if_icmp .ge 34, 3), (99, .iload 9, 2), (101, .iconst 1, 1), (102, .if_icmp .le 28, 3), (105, .iload 8, 2), (107, .iconst 2, 1), (108, .irem, 1), (109, .ifCond .ne 21, 3), (112, .iload 8, 2), (114, .iconst 2, 1), (115, .idiv, 1), (116, .istore 8, 2), (118, .iload 9, 2), (120, .iconst 2, 1), (121, .idiv, 1), (122, .istore 9, 2), (124, .iinc 10 1, 3), (127, .goto (-35), 3), (130, .iload 6, 2), (132, .ifCond .ne 9, 3), (135, .iload 8, 2), (137, .i2l, 1), (138, .goto 6, 3), (141, .iload 9, 2), (143, .i2l, 1), (144, .lreturn, 1)]
set_option maxRecDepth 100000 in
theorem dX6_odds : dOk cX6_odds tbX6_odds = true := by decide +kernel
def tbX6_sheet : dT := [(0, .aload_n 0, 1), (1, .aload_n 0, 1), (2, .iload_n 1, 1), (3, .iload_n 2, 1), (4, .iload_n 3, 1), (5, .invokevirtual 178, 3), (8, .invokevirtual 70, 3), (11, .ireturn, 1)]
set_option maxRecDepth 100000 in
theorem dX6_sheet : dOk cX6_sheet tbX6_sheet = true := by decide +kernel
def tbX6_lose : dT := [(0, .aload_n 0, 1), (1, .iload_n 1, 1), (2, .invokevirtual 182, 3), (5, .astore_n 2, 1), (6, .aload_n 2, 1), (7, .ifnonnull 5, 3), (10, .iconst (-1), 1), (11, .ireturn, 1), (12, .aload_n 2, 1), (13, .invokevirtual 186, 3), (16, .ifCond .eq 7, 3), (19, .iconst 0, 1), (20, .goto 4, 3), (23, .iconst 1, 1), (24, .istore_n 3, 1), (25, .aload_n 2, 1), (26, .invokevirtual 190, 3), (29, .iload_n 3, 1), (30, .ireturn, 1)]
set_option maxRecDepth 100000 in
theorem dX6_lose : dOk cX6_lose tbX6_lose = true := by decide +kernel
def tbX6_put : dT := [(0, .aload_n 0, 1), (1, .aload_n 0, 1), (2, .iload_n 1, 1), (3, .iload_n 2, 1), (4, .iload_n 3, 1), (5, .invokevirtual 193, 3), (8, .invokevirtual 70, 3), (11, .ireturn, 1)]
set_option maxRecDepth 100000 in
theorem dX6_put : dOk cX6_put tbX6_put = true := by decide +kernel
def tbX6_cell : dT := [(0, .aload_n 0, 1), (1, .iload_n 1, 1), (2, .invokevirtual 182, 3), (5, .astore 4, 2), (7, .aload_n 0, 1), (8, .aload 4, 2), (10, .iload_n 3, 1), (11, .iload_n 2, 1), (12, .iconst 1, 1), (13, .invokestatic 196, 3), (16, .invokevirtual 70, 3), (19, .istore 5, 2), (21, .aload 4, 2), (23, .ifnull 8, 3), (26, .iload 5, 2), (28, .ifCond .eq 9, 3), (31, .ldc2_w 165, 3), (34, .goto 11, 3), (37, .aload 4, 2), (39, .getfield 200, 3), (42, .iload_n 2, 1), (43, .iaload, 1), (44, .i2l, 1), (45, .lreturn, 1)]
set_option maxRecDepth 100000 in
theorem dX6_cell : dOk cX6_cell tbX6_cell = true := by decide +kernel
def tbX6_copy : dT := [(0, .aload_n 0, 1), (1, .aload_n 0, 1), (2, .iload_n 1, 1), (3, .iload_n 2, 1), (4, .iload_n 3, 1), (5, .iload 4, 2), (7, .iload 5, 2), (9, .invokevirtual 203, 3), (12, .invokevirtual 70, 3), (15, .ireturn, 1)]
set_option maxRecDepth 100000 in
theorem dX6_copy : dOk cX6_copy tbX6_copy = true := by decide +kernel
def tbX6_tell : dT := [(0, .aload_n 0, 1), (1, .getfield 48, 3), (4, .iload_n 1, 1), (5, .invokevirtual 74, 3), (8, .ifCond .ne 5, 3), (11, .iconst (-1), 1), (12, .ireturn, 1), (13, .aload_n 0, 1), (14, .getfield 48, 3), (17, .getfield 82, 3), (20, .iload_n 1, 1), (21, .iaload, 1), (22, .istore_n 2, 1), (23, .aload_n 0, 1), (24, .getfield 48, 3), (27, .getfield 78, 3), (30, .iload_n 1, 1), (31, .iaload, 1), (32, .lookupswitch 40 #[(1, 34), (2, 28)], 28), (60, .aload_n 0, 1), (61, .iload_n 2, 1), (62, .invokevirtual 206, 3), (65, .ireturn, 1), (66, .aload_n 0, 1), (67, .iload_n 2, 1), (68, .invokevirtual 209, 3), (71, .ireturn, 1), (72, .aload_n 0, 1), (73, .iload_n 2, 1), (74, .invokevirtual 212, 3), (77, .ireturn, 1)]
set_option maxRecDepth 100000 in
theorem dX6_tell : dOk cX6_tell tbX6_tell = true := by decide +kernel
def tbX6_signed : dT := [(0, .aload_n 0, 1), (1, .getfield 48, 3), (4, .iload_n 1, 1), (5, .invokevirtual 74, 3), (8, .ifCond .ne 5, 3), (11, .iconst (-1), 1), (12, .ireturn, 1), (13, .aload_n 0, 1), (14, .getfield 48, 3), (17, .getfield 78, 3), (20, .iload_n 1, 1), (21, .iaload, 1), (22, .iconst 2, 1), (23, .if_icmp .ne 11, 3), (26, .aload_n 0, 1), (27, .iconst 5, 1), (28, .invokevirtual 215, 3), (31, .bipush 60, 2), (33, .ireturn, 1), (34, .aload_n 0, 1), (35, .iconst 4, 1), (36, .invokevirtual 215, 3), (39, .iload_n 1, 1), (40, .ireturn, 1)]
set_option maxRecDepth 100000 in
theorem dX6_signed : dOk cX6_signed tbX6_signed = true := by decide +kernel
def tbX6_as : dT := [(0, .aload_n 0, 1), (1, .aload_n 0, 1), (2, .iload_n 1, 1), (3, .iload_n 2, 1), (4, .invokevirtual 218, 3), (7, .invokevirtual 70, 3), (10, .ireturn, 1)]
set_option maxRecDepth 100000 in
theorem dX6_as : dOk cX6_as tbX6_as = true := by decide +kernel
def tbX6_trace : dT := [(0, .aload_n 0, 1), (1, .getfield 62, 3), (4, .ireturn, 1)]
set_option maxRecDepth 100000 in
theorem dX6_trace : dOk cX6_trace tbX6_trace = true := by decide +kernel
def tbX6_fault : dT := [(0, .aload_n 0, 1), (1, .getfield 58, 3), (4, .ireturn, 1)]
set_option maxRecDepth 100000 in
theorem dX6_fault : dOk cX6_fault tbX6_fault = true := by decide +kernel
def tbX6_many : dT := [(0, .iload_n 1, 1), (1, .tableswitch 75 0 4 #[35, 43, 51, 59, 67], 35), (36, .aload_n 0, 1), (37, .getfield 48, 3), (40, .getfield 221, 3), (43, .ireturn, 1), (44, .aload_n 0, 1), (45, .getfield 41, 3), (48, .invokevirtual 151, 3), (51, .ireturn, 1), (52, .aload_n 0, 1), (53, .getfield 41, 3), (56, .getfield 222, 3), (59, .ireturn, 1), (60, .aload_n 0, 1), (61, .getfield 41, 3), (64, .getfield 103, 3), (67, .ireturn, 1), (68, .aload_n 0, 1), (69, .getfield 34, 3), (72, .getfield 159, 3), (75, .ireturn, 1), (76, .bipush (-2), 2), (78, .ireturn, 1)]
set_option maxRecDepth 100000 in
theorem dX6_many : dOk cX6_many tbX6_many = true := by decide +kernel
def tbX6_isWithin : dT := [(0, .iload_n 0, 1), (1, .iload_n 1, 1), (2, .if_icmp .lt 12, 3), (5, .iload_n 0, 1), (6, .iload_n 2, 1), (7, .if_icmp .gt 7, 3), (10, .iconst 1, 1), (11, .goto 4, 3), (14, .iconst 0, 1), (15, .ireturn, 1)]
set_option maxRecDepth 100000 in
theorem dX6_isWithin : dOk cX6_isWithin tbX6_isWithin = true := by decide +kernel
def tbX6_isIn : dT := [(0, .iload_n 0, 1), (1, .iload_n 1, 1), (2, .ishr, 1), (3, .iconst 1, 1), (4, .iand, 1), (5, .iconst 1, 1), (6, .if_icmp .ne 7, 3), (9, .iconst 1, 1), (10, .goto 4, 3), (13, .iconst 0, 1), (14, .ireturn, 1)]
set_option maxRecDepth 100000 in
theorem dX6_isIn : dOk cX6_isIn tbX6_isIn = true := by decide +kernel
def tbX6_keepFault : dT := [(0, .aload_n 0, 1), (1, .iload_n 1, 1), (2, .bipush (-14), 2), (4, .bipush (-11), 2), (6, .invokestatic 96, 3), (9, .ifCond .eq 10, 3), (12, .bipush (-10), 2), (14, .iload_n 1, 1), (15, .isub, 1), (16, .goto 4, 3), (19, .iconst 0, 1), (20, .putfield 58, 3), (23, .iload_n 1, 1), (24, .ireturn, 1)]
set_option maxRecDepth 100000 in
theorem dX6_keepFault : dOk cX6_keepFault tbX6_keepFault = true := by decide +kernel
def tbX6_sheetAt : dT := [(0, .iload_n 1, 1), (1, .iconst 0, 1), (2, .iconst 3, 1), (3, .invokestatic 96, 3), (6, .ifCond .eq 12, 3), (9, .aload_n 0, 1), (10, .getfield 13, 3), (13, .iload_n 1, 1), (14, .aaload, 1), (15, .goto 4, 3), (18, .aconst_null, 1), (19, .areturn, 1)]
set_option maxRecDepth 100000 in
theorem dX6_sheetAt : dOk cX6_sheetAt tbX6_sheetAt = true := by decide +kernel
def tbX6_refusalOfLane : dT := [(0, .aload_n 0, 1), (1, .ifnonnull 5, 3), (4, .iconst (-1), 1), (5, .ireturn, 1), (6, .iload_n 1, 1), (7, .iconst 0, 1), (8, .iconst 2, 1), (9, .invokestatic 96, 3), (12, .ifCond .ne 6, 3), (15, .bipush (-2), 2), (17, .ireturn, 1), (18, .aload_n 0, 1), (19, .invokevirtual 186, 3), (22, .ifCond .eq 6, 3), (25, .bipush (-11), 2), (27, .ireturn, 1), (28, .aload_n 0, 1), (29, .getfield 225, 3), (32, .iload_n 1, 1), (33, .if_icmp .ne 7, 3), (36, .iconst 0, 1), (37, .goto 5, 3), (40, .bipush (-12), 2), (42, .ireturn, 1)]
set_option maxRecDepth 100000 in
theorem dX6_refusalOfLane : dOk cX6_refusalOfLane tbX6_refusalOfLane = true := by decide +kernel
def tbX6_refusalOfPart : dT := [(0, .aload_n 0, 1), (1, .iload_n 1, 1), (2, .invokestatic 228, 3), (5, .istore 4, 2), (7, .aload_n 0, 1), (8, .ifnull 8, 3), (11, .iload 4, 2), (13, .ifCond .eq 6, 3), (16, .iload 4, 2), (18, .ireturn, 1), (19, .aload_n 0, 1), (20, .iload_n 2, 1), (21, .iload_n 3, 1), (22, .invokevirtual 232, 3), (25, .ifCond .eq 7, 3), (28, .iconst 0, 1), (29, .goto 5, 3), (32, .bipush (-13), 2), (34, .ireturn, 1)]
set_option maxRecDepth 100000 in
theorem dX6_refusalOfPart : dOk cX6_refusalOfPart tbX6_refusalOfPart = true := by decide +kernel
def tbX6_refusalOfWeather : dT := [(0, .iload_n 1, 1), (1, .iconst 0, 1), (2, .bipush 9, 2), (4, .invokestatic 96, 3), (7, .ifCond .ne 6, 3), (10, .bipush (-2), 2), (12, .ireturn, 1), (13, .aload_n 0, 1), (14, .getfield 41, 3), (17, .invokevirtual 151, 3), (20, .ifCond .ne 8, 3), (23, .bipush (-3), 2), (25, .goto 4, 3), (28, .iconst 0, 1), (29, .ireturn, 1)]
set_option maxRecDepth 100000 in
theorem dX6_refusalOfWeather : dOk cX6_refusalOfWeather tbX6_refusalOfWeather = true := by decide +kernel
def tbX6_isPair : dT := [(0, .aload_n 0, 1), (1, .getfield 48, 3), (4, .iload_n 1, 1), (5, .invokevirtual 74, 3), (8, .ifCond .eq 23, 3), (11, .aload_n 0, 1), (12, .getfield 48, 3), (15, .iload_n 2, 1), (16, .invokevirtual 74, 3), (19, .ifCond .eq 12, 3), (22, .iload_n 1, 1), (23, .iload_n 2, 1), (24, .if_icmp .eq 7, 3), (27, .iconst 1, 1), (28, .goto 4, 3), (31, .iconst 0, 1), (32, .ireturn, 1)]
set_option maxRecDepth 100000 in
theorem dX6_isPair : dOk cX6_isPair tbX6_isPair = true := by decide +kernel
def tbX6_takeText : dT := [(0, .aload_n 0, 1), (1, .iload_n 1, 1), (2, .invokevirtual 182, 3), (5, .astore 5, 2), (7, .aload 5, 2), (9, .iload_n 2, 1), (10, .invokestatic 228, 3), (13, .istore 6, 2), (15, .aload 5, 2), (17, .ifnull 8, 3), (20, .iload 6, 2), (22, .ifCond .eq 6, 3), (25, .iload 6, 2), (27, .ireturn, 1), (28, .iload 4, 2), (30, .ifCond .ge 6, 3), (33, .bipush (-14), 2), (35, .ireturn, 1), (36, .aload 5, 2), (38, .iload_n 3, 1), (39, .iload 4, 2), (41, .invokevirtual 232, 3), (44, .ifCond .ne 6, 3), (47, .bipush (-13), 2), (49, .ireturn, 1), (50, .aload_n 0, 1), (51, .getfield 20, 3), (54, .aload 5, 2), (56, .iload_n 3, 1), (57, .iload 4, 2), (59, .invokevirtual 235, 3), (62, .aload_n 0, 1), (63, .getfield 52, 3), (66, .aload_n 0, 1), (67, .getfield 20, 3), (70, .invokevirtual 239, 3), (73, .aload_n 0, 1), (74, .getfield 55, 3), (77, .aload_n 0, 1), (78, .getfield 20, 3), (81, .invokevirtual 243, 3), (84, .aload_n 0, 1), (85, .getfield 20, 3), (88, .invokevirtual 244, 3), (91, .aload_n 0, 1), (92, .getfield 20, 3), (95, .getfield 247, 3), (98, .ifCond .eq 14, 3), (101, .bipush (-100), 2), (103, .aload_n 0, 1), (104, .getfield 20, 3), (107, .getfield 251, 3), (110, .isub, 1), (111, .ireturn, 1), (112, .aload_n 0, 1), (113, .invokevirtual 254, 3), (116, .aload_n 0, 1), (117, .getfield 48, 3), (120, .getfield 221, 3), (123, .ireturn, 1)]
set_option maxRecDepth 100000 in
theorem dX6_takeText : dOk cX6_takeText tbX6_takeText = true := by decide +kernel
def tbX6_changeToDraft : dT := [(0, .aload_n 0, 1), (1, .getfield 41, 3), (4, .astore_n 1, 1), (5, .aload_n 0, 1), (6, .getfield 48, 3), (9, .astore_n 2, 1), (10, .aload_n 0, 1), (11, .aload_n 0, 1), (12, .getfield 52, 3), (15, .putfield 41, 3), (18, .aload_n 0, 1), (19, .aload_n 0, 1), (20, .getfield 55, 3), (23, .putfield 48, 3), (26, .aload_n 0, 1), (27, .aload_n 1, 1), (28, .putfield 52, 3), (31, .aload_n 0, 1), (32, .aload_n 2, 1), (33, .putfield 55, 3), (36, .aload_n 0, 1), (37, .getfield 34, 3), (40, .iconst 0, 1), (41, .putfield 159, 3), (44, .return_, 1)]
set_option maxRecDepth 100000 in
theorem dX6_changeToDraft : dOk cX6_changeToDraft tbX6_changeToDraft = true := by decide +kernel
def tbX6_isDeedKnown : dT := [(0, .aload_n 0, 1), (1, .iload_n 1, 1), (2, .iload_n 2, 1), (3, .invokevirtual 257, 3), (6, .ifCond .eq 27, 3), (9, .aload_n 0, 1), (10, .getfield 41, 3), (13, .iload_n 3, 1), (14, .invokevirtual 92, 3), (17, .ifCond .eq 16, 3), (20, .aload_n 0, 1), (21, .iload 4, 2), (23, .invokevirtual 182, 3), (26, .ifnull 7, 3), (29, .iconst 1, 1), (30, .goto 4, 3), (33, .iconst 0, 1), (34, .ireturn, 1)]
set_option maxRecDepth 100000 in
theorem dX6_isDeedKnown : dOk cX6_isDeedKnown tbX6_isDeedKnown = true := by decide +kernel
def tbX6_tryDeed : dT := [(0, .aload_n 0, 1), (1, .iload 4, 2), (3, .invokevirtual 182, 3), (6, .astore 8, 2), (8, .aload 8, 2), (10, .ifnull 15, 3), (13, .aload_n 0, 1), (14, .iload_n 1, 1), (15, .iload_n 2, 1), (16, .iload_n 3, 1), (17, .iload 4, 2), (19, .invokevirtual 106, 3), (22, .ifCond .ne 5, 3), (25, .iconst (-1), 1), (26, .ireturn, 1), (27, .iload 7, 2), (29, .iconst 0, 1), (30, .bipush 40, 2), (32, .invokestatic 96, 3), (35, .ifCond .ne 6, 3), (38, .bipush (-2), 2), (40, .ireturn, 1), (41, .aload 8, 2), (43, .iload 5, 2), (45, .iload 6, 2), (47, .iload 7, 2), (49, .invokestatic 196, 3), (52, .istore 9, 2), (54, .iload 9, 2), (56, .ifCond .eq 6, 3), (59, .iload 9, 2), (61, .ireturn, 1), (62, .iconst 0, 1), (63, .istore 10, 2), (65, .iload 10, 2), (67, .iload 7, 2), (69, .if_icmp .ge 31, 3), (72, .aload 8, 2), (74, .getfield 200, 3), (77, .iload 6, 2), (79, .iload 10, 2), (81, .iadd, 1), (82, .iaload, 1), (83, .iconst 0, 1), (84, .iconst 3, 1), (85, .invokestatic 96, 3), (88, .ifCond .ne 6, 3), (91, .bipush (-2), 2), (93, .ireturn, 1), (94, .iinc 10 1, 3), (97, .goto (-32), 3), (100, .aload_n 0, 1), (101, .getfield 27, 3), (104, .aload_n 0, 1), (105, .getfield 41, 3), (108, .iload_n 3, 1), (109, .invokevirtual 260, 3), (112, .iconst 0, 1), (113, .istore 10, 2), (115, .iload 10, 2), (117, .iload 7, 2), (119, .if_icmp .ge 64, 3), (122, .aload_n 0, 1), (123, .getfield 27, 3), (126, .getfield 117, 3), (129, .bipush (-9), 2), (131, .if_icmp .ne 52, 3), (134, .aload_n 0, 1), (135, .getfield 27, 3), (138, .aload_n 0, 1), (139, .getfield 41, 3), (142, .iload 10, 2), (144, .aload 8, 2), (146, .getfield 200, 3), (149, .iload 6, 2), (151, .iload 10, 2), (153, .iadd, 1), (154, .iaload, 1), (155, .aload_n 0, 1), (156, .getfield 48, 3), (159, .iload 10, 2), (161, .iconst 2, 1), (162, .irem, 1), (163, .ifCond .ne 7, 3), (166, .iload_n 1, 1), (167, .goto 4, 3), (170, .iload_n 2, 1), (171, .invokevirtual 85, 3), (174, .invokevirtual 263, 3), (177, .iinc 10 1, 3), (180, .goto (-65), 3), (183, .iconst 0, 1), (184, .ireturn, 1)]
set_option maxRecDepth 100000 in
theorem dX6_tryDeed : dOk cX6_tryDeed tbX6_tryDeed = true := by decide +kernel
def tbX6_ofTrial : dT := [(0, .iload_n 2, 1), (1, .iconst 1, 1), (2, .if_icmp .ne 11, 3), (5, .aload_n 0, 1), (6, .getfield 27, 3), (9, .getfield 117, 3), (12, .ireturn, 1), (13, .aload_n 0, 1), (14, .getfield 27, 3), (17, .getfield 117, 3), (20, .bipush (-9), 2), (22, .if_icmp .eq 14, 3), (25, .bipush (-100), 2), (27, .aload_n 0, 1), (28, .getfield 27, 3), (31, .getfield 117, 3), (34, .isub, 1), (35, .ireturn, 1), (36, .iload_n 2, 1), (37, .tableswitch 63 0 3 #[31, 63, 39, 47], 31), (68, .aload_n 0, 1), (69, .getfield 27, 3), (72, .getfield 267, 3), (75, .ireturn, 1), (76, .aload_n 0, 1), (77, .getfield 27, 3), (80, .getfield 270, 3), (83, .ireturn, 1), (84, .aload_n 0, 1), (85, .getfield 27, 3), (88, .getfield 120, 3), (91, .aload_n 0, 1), (92, .getfield 27, 3), (95, .getfield 267, 3), (98, .iaload, 1), (99, .ireturn, 1), (100, .iload_n 1, 1), (101, .iconst 1, 1), (102, .iadd, 1), (103, .iconst 2, 1), (104, .idiv, 1), (105, .ireturn, 1)]
set_option maxRecDepth 100000 in
theorem dX6_ofTrial : dOk cX6_ofTrial tbX6_ofTrial = true := by decide +kernel
def tbX6_isBondKnown : dT := [(0, .aload_n 0, 1), (1, .iload_n 1, 1), (2, .iload_n 2, 1), (3, .invokevirtual 257, 3), (6, .ifCond .eq 30, 3), (9, .aload_n 0, 1), (10, .getfield 41, 3), (13, .iload_n 3, 1), (14, .invokevirtual 92, 3), (17, .ifCond .eq 19, 3), (20, .aload_n 0, 1), (21, .getfield 41, 3), (24, .iload 4, 2), (26, .invokevirtual 92, 3), (29, .ifCond .eq 7, 3), (32, .iconst 1, 1), (33, .goto 4, 3), (36, .iconst 0, 1), (37, .ireturn, 1)]
set_option maxRecDepth 100000 in
theorem dX6_isBondKnown : dOk cX6_isBondKnown tbX6_isBondKnown = true := by decide +kernel
def tbX6_isBond : dT := [(0, .aload_n 0, 1), (1, .getfield 41, 3), (4, .aload_n 0, 1), (5, .getfield 48, 3), (8, .iload_n 1, 1), (9, .invokevirtual 85, 3), (12, .iconst 0, 1), (13, .invokevirtual 88, 3), (16, .iload 5, 2), (18, .iconst (-1), 1), (19, .ixor, 1), (20, .iand, 1), (21, .istore 6, 2), (23, .aload_n 0, 1), (24, .getfield 41, 3), (27, .aload_n 0, 1), (28, .getfield 48, 3), (31, .iload_n 2, 1), (32, .invokevirtual 85, 3), (35, .iconst 0, 1), (36, .invokevirtual 88, 3), (39, .iload 5, 2), (41, .iconst (-1), 1), (42, .ixor, 1), (43, .iand, 1), (44, .istore 7, 2), (46, .aload_n 0, 1), (47, .getfield 41, 3), (50, .iload_n 3, 1), (51, .iload 4, 2), (53, .iload 6, 2), (55, .iload 7, 2), (57, .invokevirtual 137, 3), (60, .bipush (-9), 2), (62, .if_icmp .eq 7, 3), (65, .iconst 1, 1), (66, .goto 4, 3), (69, .iconst 0, 1), (70, .ireturn, 1)]
set_option maxRecDepth 100000 in
theorem dX6_isBond : dOk cX6_isBond tbX6_isBond = true := by decide +kernel
def tbX6_bondsAsBreaking : dT := [(0, .iconst 0, 1), (1, .istore 6, 2), (3, .iconst 0, 1), (4, .istore 7, 2), (6, .iconst 0, 1), (7, .istore 8, 2), (9, .iload 8, 2), (11, .iconst 1, 1), (12, .iload 5, 2), (14, .invokestatic 170, 3), (17, .ishl, 1), (18, .if_icmp .ge 43, 3), (21, .iload 6, 2), (23, .aload_n 0, 1), (24, .iload_n 1, 1), (25, .iload_n 2, 1), (26, .iload_n 3, 1), (27, .iload 4, 2), (29, .iload 7, 2), (31, .invokevirtual 147, 3), (34, .ifCond .eq 7, 3), (37, .iconst 1, 1), (38, .goto 4, 3), (41, .iconst 0, 1), (42, .iadd, 1), (43, .istore 6, 2), (45, .iload 7, 2), (47, .iload 5, 2), (49, .isub, 1), (50, .iload 5, 2), (52, .iand, 1), (53, .istore 7, 2), (55, .iinc 8 1, 3), (58, .goto (-49), 3), (61, .iload 6, 2), (63, .ireturn, 1)]
set_option maxRecDepth 100000 in
theorem dX6_bondsAsBreaking : dOk cX6_bondsAsBreaking tbX6_bondsAsBreaking = true := by decide +kernel
def tbX6_newRow : dT := [(0, .aload_n 0, 1), (1, .iload_n 1, 1), (2, .invokevirtual 182, 3), (5, .astore 4, 2), (7, .aload 4, 2), (9, .ifnonnull 5, 3), (12, .iconst (-1), 1), (13, .ireturn, 1), (14, .iload_n 2, 1), (15, .iconst 0, 1), (16, .iconst 2, 1), (17, .invokestatic 96, 3), (20, .ifCond .eq 9, 3), (23, .iload_n 3, 1), (24, .bipush 60, 2), (26, .if_icmp .le 6, 3), (29, .bipush (-2), 2), (31, .ireturn, 1), (32, .iload_n 3, 1), (33, .ifCond .ge 6, 3), (36, .bipush (-14), 2), (38, .ireturn, 1), (39, .aload 4, 2), (41, .iload_n 2, 1), (42, .iload_n 3, 1), (43, .invokevirtual 273, 3), (46, .iconst 1, 1), (47, .ireturn, 1)]
set_option maxRecDepth 100000 in
theorem dX6_newRow : dOk cX6_newRow tbX6_newRow = true := by decide +kernel
def tbX6_putNumber : dT := [(0, .aload_n 0, 1), (1, .iload_n 1, 1), (2, .invokevirtual 182, 3), (5, .astore 4, 2), (7, .aload 4, 2), (9, .ifnonnull 5, 3), (12, .iconst (-1), 1), (13, .ireturn, 1), (14, .aload 4, 2), (16, .invokevirtual 186, 3), (19, .ifCond .eq 6, 3), (22, .bipush (-11), 2), (24, .ireturn, 1), (25, .aload 4, 2), (27, .iload_n 2, 1), (28, .iconst 1, 1), (29, .invokevirtual 232, 3), (32, .ifCond .ne 6, 3), (35, .bipush (-13), 2), (37, .ireturn, 1), (38, .aload 4, 2), (40, .iload_n 2, 1), (41, .iload_n 3, 1), (42, .invokevirtual 276, 3), (45, .iconst 1, 1), (46, .ireturn, 1)]
set_option maxRecDepth 100000 in
theorem dX6_putNumber : dOk cX6_putNumber tbX6_putNumber = true := by decide +kernel
def tbX6_copyNumbers : dT := [(0, .aload_n 0, 1), (1, .iload_n 1, 1), (2, .invokevirtual 182, 3), (5, .astore 6, 2), (7, .aload_n 0, 1), (8, .iload_n 3, 1), (9, .invokevirtual 182, 3), (12, .astore 7, 2), (14, .aload 6, 2), (16, .ifnull 8, 3), (19, .aload 7, 2), (21, .ifnonnull 5, 3), (24, .iconst (-1), 1), (25, .ireturn, 1), (26, .aload 6, 2), (28, .invokevirtual 186, 3), (31, .ifCond .ne 11, 3), (34, .aload 7, 2), (36, .invokevirtual 186, 3), (39, .ifCond .eq 6, 3), (42, .bipush (-11), 2), (44, .ireturn, 1), (45, .aload 6, 2), (47, .getfield 225, 3), (50, .aload 7, 2), (52, .getfield 225, 3), (55, .if_icmp .eq 6, 3), (58, .bipush (-12), 2), (60, .ireturn, 1), (61, .aload 6, 2), (63, .iload_n 2, 1), (64, .iload 5, 2), (66, .invokevirtual 232, 3), (69, .ifCond .eq 15, 3), (72, .aload 7, 2), (74, .iload 4, 2), (76, .iload 5, 2), (78, .invokevirtual 232, 3), (81, .ifCond .ne 6, 3), (84, .bipush (-13), 2), (86, .ireturn, 1), (87, .aload 6, 2), (89, .getfield 200, 3), (92, .iload_n 2, 1), (93, .aload 7, 2), (95, .getfield 200, 3), (98, .iload 4, 2), (100, .iload 5, 2), (102, .invokestatic 121, 3), (105, .iload 5, 2), (107, .ireturn, 1)]
set_option maxRecDepth 100000 in
theorem dX6_copyNumbers : dOk cX6_copyNumbers tbX6_copyNumbers = true := by decide +kernel
def tbX6_leave : dT := [(0, .aload_n 0, 1), (1, .bipush 31, 2), (3, .aload_n 0, 1), (4, .getfield 62, 3), (7, .imul, 1), (8, .iload_n 1, 1), (9, .iadd, 1), (10, .putfield 62, 3), (13, .return_, 1)]
set_option maxRecDepth 100000 in
theorem dX6_leave : dOk cX6_leave tbX6_leave = true := by decide +kernel
def tbX6_skaterGives : dT := [(0, .aload_n 0, 1), (1, .iconst 1, 1), (2, .invokevirtual 215, 3), (5, .iload_n 1, 1), (6, .ireturn, 1)]
set_option maxRecDepth 100000 in
theorem dX6_skaterGives : dOk cX6_skaterGives tbX6_skaterGives = true := by decide +kernel
def tbX6_clerkGives : dT := [(0, .aload_n 0, 1), (1, .iconst 2, 1), (2, .invokevirtual 215, 3), (5, .aload_n 0, 1), (6, .iload_n 1, 1), (7, .invokevirtual 212, 3), (10, .bipush 100, 2), (12, .iadd, 1), (13, .ireturn, 1)]
set_option maxRecDepth 100000 in
theorem dX6_clerkGives : dOk cX6_clerkGives tbX6_clerkGives = true := by decide +kernel
def tbX6_bankerGives : dT := [(0, .aload_n 0, 1), (1, .iconst 3, 1), (2, .invokevirtual 215, 3), (5, .aload_n 0, 1), (6, .iload_n 1, 1), (7, .invokevirtual 209, 3), (10, .istore_n 2, 1), (11, .iload_n 2, 1), (12, .aload_n 0, 1), (13, .iload_n 1, 1), (14, .invokevirtual 212, 3), (17, .iadd, 1), (18, .ireturn, 1)]
set_option maxRecDepth 100000 in
theorem dX6_bankerGives : dOk cX6_bankerGives tbX6_bankerGives = true := by decide +kernel
def tbX6_takeAs : dT := [(0, .aload_n 0, 1), (1, .getfield 48, 3), (4, .iload_n 1, 1), (5, .invokevirtual 74, 3), (8, .ifCond .ne 5, 3), (11, .iconst (-1), 1), (12, .ireturn, 1), (13, .iload_n 2, 1), (14, .iconst 0, 1), (15, .iconst 2, 1), (16, .invokestatic 96, 3), (19, .ifCond .ne 6, 3), (22, .bipush (-2), 2), (24, .ireturn, 1), (25, .aload_n 0, 1), (26, .getfield 48, 3), (29, .getfield 78, 3), (32, .iload_n 1, 1), (33, .iaload, 1), (34, .iload_n 2, 1), (35, .if_icmp .ge 8, 3), (38, .bipush (-12), 2), (40, .goto 4, 3), (43, .iconst 1, 1), (44, .ireturn, 1)]
set_option maxRecDepth 100000 in
theorem dX6_takeAs : dOk cX6_takeAs tbX6_takeAs = true := by decide +kernel
def tbX7_init : dT := [(0, .aload_n 0, 1), (1, .invokespecial 1, 3), (4, .aload_n 0, 1), (5, .bipush 20, 2), (7, .newarray .int, 2), (9, .putfield 7, 3), (12, .aload_n 0, 1), (13, .iconst 4, 1), (14, .newarray .int, 2), (16, .putfield 13, 3), (19, .aload_n 0, 1), (20, .iconst 4, 1), (21, .newarray .int, 2), (23, .putfield 16, 3), (26, .aload_n 0, 1), (27, .bipush 20, 2), (29, .newarray .int, 2), (31, .putfield 19, 3), (34, .aload_n 0, 1), (35, .iconst 4, 1), (36, .newarray .int, 2), (38, .putfield 22, 3), (41, .aload_n 0, 1), (42, .iconst 4, 1), (43, .newarray .int, 2), (45, .putfield 25, 3), (48, .aload_n 0, 1), (49, .bipush 20, 2), (51, .newarray .int, 2), (53, .putfield 28, 3), (56, .aload_n 0, 1), (57, .bipush 40, 2), (59, .newarray .int, 2), (61, .putfield 31, 3), (64, .aload_n 0, 1), (65, .bipush 8, 2), (67, .newarray .int, 2), (69, .putfield 34, 3), (72, .aload_n 0, 1), (73, .bipush 8, 2), (75, .newarray .int, 2), (77, .putfield 37, 3), (80, .aload_n 0, 1), (81, .bipush 8, 2), (83, .newarray .boolean, 2), (85, .putfield 40, 3), (88, .aload_n 0, 1), (89, .iconst 4, 1), (90, .newarray .int, 2), (92, .putfield 44, 3), (95, .aload_n 0, 1), (96, .iconst 4, 1), (97, .newarray .int, 2), (99, .putfield 47, 3), (102, .aload_n 0, 1), (103, .sipush 240, 3), (106, .newarray .int, 2), (108, .putfield 50, 3), (111, .aload_n 0, 1), (112, .bipush 60, 2), (114, .newarray .int, 2), (116, .putfield 53, 3), (119, .iconst 0, 1), (120, .istore_n 1, 1), (121, .iload_n 1, 1), (122, .iconst 4, 1), (123, .if_icmp .ge 16, 3), (126, .aload_n 0, 1), (127, .getfield 44, 3), (130, .iload_n 1, 1), (131, .iconst (-1), 1), (132, .iastore, 1), (133, .iinc 1 1, 3), (136, .goto (-15), 3), (139, .return_, 1)]
set_option maxRecDepth 100000 in
theorem dX7_init : dOk cX7_init tbX7_init = true := by decide +kernel
def tbX7_in : dT := [(0, .lload_n 0, 1), (1, .lload_n 2, 1), (2, .lcmp, 1), (3, .ifCond .lt 14, 3), (6, .lload_n 0, 1), (7, .lload 4, 2), (9, .lcmp, 1), (10, .ifCond .gt 7, 3), (13, .iconst 1, 1), (14, .goto 4, 3), (17, .iconst 0, 1), (18, .ireturn, 1)]
set_option maxRecDepth 100000 in
theorem dX7_in : dOk cX7_in tbX7_in = true := by decide +kernel
def tbX7_lost : dT := [(0, .ldc2_w 56, 3), (3, .lreturn, 1)]
set_option maxRecDepth 100000 in
theorem dX7_lost : dOk cX7_lost tbX7_lost = true := by decide +kernel
def tbX7_isIn : dT := [(0, .iload_n 0, 1), (1, .iload_n 1, 1), (2, .ishr, 1), (3, .iconst 1, 1), (4, .iand, 1), (5, .iconst 1, 1), (6, .if_icmp .ne 7, 3), (9, .iconst 1, 1), (10, .goto 4, 3), (13, .iconst 0, 1), (14, .ireturn, 1)]
set_option maxRecDepth 100000 in
theorem dX7_isIn : dOk cX7_isIn tbX7_isIn = true := by decide +kernel
def tbX7_bits : dT := [(0, .iconst 0, 1), (1, .istore_n 1, 1), (2, .iload_n 0, 1), (3, .istore_n 2, 1), (4, .iload_n 2, 1), (5, .ifCond .le 16, 3), (8, .iload_n 1, 1), (9, .iload_n 2, 1), (10, .iconst 1, 1), (11, .iand, 1), (12, .iadd, 1), (13, .istore_n 1, 1), (14, .iload_n 2, 1), (15, .iconst 1, 1), (16, .ishr, 1), (17, .istore_n 2, 1), (18, .goto (-14), 3), (21, .iload_n 1, 1), (22, .ireturn, 1)]
set_option maxRecDepth 100000 in
theorem dX7_bits : dOk cX7_bits tbX7_bits = true := by decide +kernel
def tbX7_share : dT := [(0, .lload_n 0, 1), (1, .lstore 5, 2), (3, .lload_n 2, 1), (4, .lstore 7, 2), (6, .lload 7, 2), (8, .lconst 0, 1), (9, .lcmp, 1), (10, .ifCond .eq 21, 3), (13, .lload 5, 2), (15, .lload 7, 2), (17, .lrem, 1), (18, .lstore 9, 2), (20, .lload 7, 2), (22, .lstore 5, 2), (24, .lload 9, 2), (26, .lstore 7, 2), (28, .goto (-22), 3), (31, .iload 4, 2), (33, .ifCond .ne 7, 3), (36, .lload_n 0, 1), (37, .goto 4, 3), (40, .lload_n 2, 1), (41, .lload 5, 2), (43, .ldiv, 1), (44, .lreturn, 1)]
set_option maxRecDepth 100000 in
theorem dX7_share : dOk cX7_share tbX7_share = true := by decide +kernel
def tbX7_refused : dT := [(0, .aload_n 0, 1), (1, .iconst 0, 1), (2, .putfield 58, 3), (5, .iload_n 1, 1), (6, .ireturn, 1)]
set_option maxRecDepth 100000 in
theorem dX7_refused : dOk cX7_refused tbX7_refused = true := by decide +kernel
def tbX7_failed : dT := [(0, .aload_n 0, 1), (1, .iload_n 1, 1), (2, .putfield 58, 3), (5, .bipush (-10), 2), (7, .iload_n 1, 1), (8, .isub, 1), (9, .ireturn, 1)]
set_option maxRecDepth 100000 in
theorem dX7_failed : dOk cX7_failed tbX7_failed = true := by decide +kernel
def tbX7_failedLong : dT := [(0, .aload_n 0, 1), (1, .iload_n 1, 1), (2, .putfield 58, 3), (5, .invokestatic 62, 3), (8, .lreturn, 1)]
set_option maxRecDepth 100000 in
theorem dX7_failedLong : dOk cX7_failedLong tbX7_failedLong = true := by decide +kernel
def tbX7_cells : dT := [(0, .aload_n 0, 1), (1, .getfield 66, 3), (4, .aload_n 0, 1), (5, .getfield 69, 3), (8, .imul, 1), (9, .ireturn, 1)]
set_option maxRecDepth 100000 in
theorem dX7_cells : dOk cX7_cells tbX7_cells = true := by decide +kernel
def tbX7_noPlace : dT := [(0, .iload_n 1, 1), (1, .i2l, 1), (2, .lconst 0, 1), (3, .aload_n 0, 1), (4, .invokevirtual 72, 3), (7, .i2l, 1), (8, .lconst 1, 1), (9, .lsub, 1), (10, .invokestatic 76, 3), (13, .ifCond .ne 7, 3), (16, .iconst 1, 1), (17, .goto 4, 3), (20, .iconst 0, 1), (21, .ireturn, 1)]
set_option maxRecDepth 100000 in
theorem dX7_noPlace : dOk cX7_noPlace tbX7_noPlace = true := by decide +kernel
def tbX7_noSkater : dT := [(0, .iload_n 1, 1), (1, .i2l, 1), (2, .lconst 0, 1), (3, .aload_n 0, 1), (4, .getfield 80, 3), (7, .i2l, 1), (8, .lconst 1, 1), (9, .lsub, 1), (10, .invokestatic 76, 3), (13, .ifCond .ne 7, 3), (16, .iconst 1, 1), (17, .goto 4, 3), (20, .iconst 0, 1), (21, .ireturn, 1)]
set_option maxRecDepth 100000 in
theorem dX7_noSkater : dOk cX7_noSkater tbX7_noSkater = true := by decide +kernel
def tbX7_noTwo : dT := [(0, .aload_n 0, 1), (1, .iload_n 1, 1), (2, .invokevirtual 83, 3), (5, .ifCond .ne 16, 3), (8, .aload_n 0, 1), (9, .iload_n 2, 1), (10, .invokevirtual 83, 3), (13, .ifCond .ne 8, 3), (16, .iload_n 1, 1), (17, .iload_n 2, 1), (18, .if_icmp .ne 7, 3), (21, .iconst 1, 1), (22, .goto 4, 3), (25, .iconst 0, 1), (26, .ireturn, 1)]
set_option maxRecDepth 100000 in
theorem dX7_noTwo : dOk cX7_noTwo tbX7_noTwo = true := by decide +kernel
def tbX7_codeAt : dT := [(0, .aload_n 0, 1), (1, .getfield 87, 3), (4, .iload_n 2, 1), (5, .if_icmp .ge 17, 3), (8, .aload_n 0, 1), (9, .getfield 50, 3), (12, .iload_n 1, 1), (13, .aload_n 0, 1), (14, .getfield 87, 3), (17, .iadd, 1), (18, .iaload, 1), (19, .goto 5, 3), (22, .bipush (-9), 2), (24, .ireturn, 1)]
set_option maxRecDepth 100000 in
theorem dX7_codeAt : dOk cX7_codeAt tbX7_codeAt = true := by decide +kernel
def tbX7_figure : dT := [(0, .aload_n 0, 1), (1, .iload_n 1, 1), (2, .iload_n 2, 1), (3, .invokevirtual 90, 3), (6, .bipush 48, 2), (8, .isub, 1), (9, .istore 5, 2), (11, .iload 5, 2), (13, .i2l, 1), (14, .iload_n 3, 1), (15, .i2l, 1), (16, .iload 4, 2), (18, .i2l, 1), (19, .invokestatic 76, 3), (22, .istore 6, 2), (24, .aload_n 0, 1), (25, .dup, 1), (26, .getfield 87, 3), (29, .iload 6, 2), (31, .ifCond .eq 7, 3), (34, .iconst 1, 1), (35, .goto 4, 3), (38, .iconst 0, 1), (39, .iadd, 1), (40, .putfield 87, 3), (43, .iload 6, 2), (45, .ifCond .eq 8, 3), (48, .iload 5, 2), (50, .goto 5, 3), (53, .bipush (-9), 2), (55, .ireturn, 1)]
set_option maxRecDepth 100000 in
theorem dX7_figure : dOk cX7_figure tbX7_figure = true := by decide +kernel
def tbX7_readsPlace : dT := [(0, .iload_n 3, 1), (1, .aload_n 0, 1), (2, .getfield 94, 3), (5, .irem, 1), (6, .ifCond .ne 26, 3), (9, .aload_n 0, 1), (10, .iload_n 1, 1), (11, .iload_n 2, 1), (12, .invokevirtual 90, 3), (15, .bipush 59, 2), (17, .if_icmp .eq 5, 3), (20, .iconst 0, 1), (21, .ireturn, 1), (22, .aload_n 0, 1), (23, .dup, 1), (24, .getfield 87, 3), (27, .iconst 1, 1), (28, .iadd, 1), (29, .putfield 87, 3), (32, .aload_n 0, 1), (33, .getfield 19, 3), (36, .iload_n 3, 1), (37, .aload_n 0, 1), (38, .iload_n 1, 1), (39, .iload_n 2, 1), (40, .iconst 0, 1), (41, .bipush 9, 2), (43, .invokevirtual 97, 3), (46, .iastore, 1), (47, .aload_n 0, 1), (48, .getfield 19, 3), (51, .iload_n 3, 1), (52, .iaload, 1), (53, .ifCond .lt 7, 3), (56, .iconst 1, 1), (57, .goto 4, 3), (60, .iconst 0, 1), (61, .ireturn, 1)]
set_option maxRecDepth 100000 in
theorem dX7_readsPlace : dOk cX7_readsPlace tbX7_readsPlace = true := by decide +kernel
def tbX7_readsSkater : dT := [(0, .aload_n 0, 1), (1, .getfield 101, 3), (4, .iconst 4, 1), (5, .if_icmp .eq 14, 3), (8, .aload_n 0, 1), (9, .iload_n 1, 1), (10, .iload_n 2, 1), (11, .invokevirtual 90, 3), (14, .bipush 44, 2), (16, .if_icmp .eq 5, 3), (19, .iconst 0, 1), (20, .ireturn, 1), (21, .aload_n 0, 1), (22, .dup, 1), (23, .getfield 87, 3), (26, .iconst 1, 1), (27, .iadd, 1), (28, .putfield 87, 3), (31, .aload_n 0, 1), (32, .iload_n 1, 1), (33, .iload_n 2, 1), (34, .invokevirtual 90, 3), (37, .istore_n 3, 1), (38, .iload_n 3, 1), (39, .bipush 115, 2), (41, .if_icmp .eq 17, 3), (44, .iload_n 3, 1), (45, .bipush 107, 2), (47, .if_icmp .eq 11, 3), (50, .iload_n 3, 1), (51, .bipush 98, 2), (53, .if_icmp .eq 5, 3), (56, .iconst 0, 1), (57, .ireturn, 1), (58, .aload_n 0, 1), (59, .dup, 1), (60, .getfield 87, 3), (63, .iconst 1, 1), (64, .iadd, 1), (65, .putfield 87, 3), (68, .aload_n 0, 1), (69, .iload_n 1, 1), (70, .iload_n 2, 1), (71, .iconst 1, 1), (72, .bipush 9, 2), (74, .invokevirtual 97, 3), (77, .istore 4, 2), (79, .iload 4, 2), (81, .ifCond .ge 5, 3), (84, .iconst 0, 1), (85, .ireturn, 1), (86, .aload_n 0, 1), (87, .getfield 22, 3), (90, .aload_n 0, 1), (91, .getfield 101, 3), (94, .iload_n 3, 1), (95, .bipush 115, 2), (97, .if_icmp .ne 7, 3), (100, .iconst 0, 1), (101, .goto 14, 3), (104, .iload_n 3, 1), (105, .bipush 107, 2), (107, .if_icmp .ne 7, 3), (110, .iconst 1, 1), (111, .goto 4, 3), (114, .iconst 2, 1), (115, .iastore, 1), (116, .aload_n 0, 1), (117, .getfield 25, 3), (120, .aload_n 0, 1), (121, .getfield 101, 3), (124, .iload 4, 2), (126, .iastore, 1), (127, .aload_n 0, 1), (128, .dup, 1), (129, .getfield 101, 3), (132, .iconst 1, 1), (133, .iadd, 1), (134, .putfield 101, 3), (137, .iconst 1, 1), (138, .ireturn, 1)]
set_option maxRecDepth 100000 in
theorem dX7_readsSkater : dOk cX7_readsSkater tbX7_readsSkater = true := by decide +kernel
def tbX7_readsCanal : dT := [(0, .aload_n 0, 1), (1, .iconst 0, 1), (2, .putfield 87, 3), (5, .aload_n 0, 1), (6, .iconst 0, 1), (7, .putfield 101, 3), (10, .aload_n 0, 1), (11, .iload_n 1, 1), (12, .iload_n 2, 1), (13, .invokevirtual 90, 3), (16, .bipush 99, 2), (18, .if_icmp .ne 7, 3), (21, .iconst 1, 1), (22, .goto 4, 3), (25, .iconst 0, 1), (26, .istore_n 3, 1), (27, .aload_n 0, 1), (28, .dup, 1), (29, .getfield 87, 3), (32, .iload_n 3, 1), (33, .ifCond .eq 7, 3), (36, .iconst 1, 1), (37, .goto 4, 3), (40, .iconst 0, 1), (41, .iadd, 1), (42, .putfield 87, 3), (45, .aload_n 0, 1), (46, .iload_n 3, 1), (47, .ifCond .eq 14, 3), (50, .aload_n 0, 1), (51, .iload_n 1, 1), (52, .iload_n 2, 1), (53, .iconst 1, 1), (54, .iconst 4, 1), (55, .invokevirtual 97, 3), (58, .goto 5, 3), (61, .bipush (-9), 2), (63, .putfield 104, 3), (66, .aload_n 0, 1), (67, .aload_n 0, 1), (68, .getfield 104, 3), (71, .ifCond .le 14, 3), (74, .aload_n 0, 1), (75, .iload_n 1, 1), (76, .iload_n 2, 1), (77, .iconst 2, 1), (78, .iconst 5, 1), (79, .invokevirtual 97, 3), (82, .goto 5, 3), (85, .bipush (-9), 2), (87, .putfield 94, 3), (90, .aload_n 0, 1), (91, .aload_n 0, 1), (92, .getfield 94, 3), (95, .ifCond .le 15, 3), (98, .aload_n 0, 1), (99, .iload_n 1, 1), (100, .iload_n 2, 1), (101, .iconst 0, 1), (102, .bipush 9, 2), (104, .invokevirtual 97, 3), (107, .goto 5, 3), (110, .bipush (-9), 2), (112, .putfield 107, 3), (115, .aload_n 0, 1), (116, .getfield 107, 3), (119, .ifCond .lt 7, 3), (122, .iconst 1, 1), (123, .goto 4, 3), (126, .iconst 0, 1), (127, .istore_n 3, 1), (128, .iconst 0, 1), (129, .istore 4, 2), (131, .iload_n 3, 1), (132, .ifCond .eq 32, 3), (135, .iload 4, 2), (137, .aload_n 0, 1), (138, .getfield 104, 3), (141, .aload_n 0, 1), (142, .getfield 94, 3), (145, .imul, 1), (146, .if_icmp .ge 18, 3), (149, .aload_n 0, 1), (150, .iload_n 1, 1), (151, .iload_n 2, 1), (152, .iload 4, 2), (154, .invokevirtual 110, 3), (157, .istore_n 3, 1), (158, .iinc 4 1, 3), (161, .goto (-30), 3), (164, .iload_n 3, 1), (165, .ifCond .eq 29, 3), (168, .aload_n 0, 1), (169, .getfield 101, 3), (172, .iconst 2, 1), (173, .if_icmp .lt 11, 3), (176, .aload_n 0, 1), (177, .getfield 87, 3), (180, .iload_n 2, 1), (181, .if_icmp .ge 13, 3), (184, .aload_n 0, 1), (185, .iload_n 1, 1), (186, .iload_n 2, 1), (187, .invokevirtual 114, 3), (190, .istore_n 3, 1), (191, .goto (-27), 3), (194, .iload_n 3, 1), (195, .ireturn, 1)]
set_option maxRecDepth 100000 in
theorem dX7_readsCanal : dOk cX7_readsCanal tbX7_readsCanal = true := by decide +kernel
def tbX7_cellsBarred : dT := [(0, .aload_n 0, 1), (1, .getfield 44, 3), (4, .iload_n 1, 1), (5, .iaload, 1), (6, .ifCond .lt 19, 3), (9, .aload_n 0, 1), (10, .getfield 47, 3), (13, .iload_n 1, 1), (14, .iaload, 1), (15, .iload_n 2, 1), (16, .if_icmp .eq 9, 3), (19, .aload_n 0, 1), (20, .iconst 2, 1), (21, .invokevirtual 118, 3), (24, .ireturn, 1), (25, .aload_n 0, 1), (26, .getfield 44, 3), (29, .iload_n 1, 1), (30, .iaload, 1), (31, .ifCond .ge 9, 3), (34, .aload_n 0, 1), (35, .iconst 1, 1), (36, .invokevirtual 118, 3), (39, .ireturn, 1), (40, .lload 4, 2), (42, .lconst 0, 1), (43, .lcmp, 1), (44, .ifCond .ge 9, 3), (47, .aload_n 0, 1), (48, .iconst 4, 1), (49, .invokevirtual 118, 3), (52, .ireturn, 1), (53, .iload_n 3, 1), (54, .lload 4, 2), (56, .aload_n 0, 1), (57, .getfield 44, 3), (60, .iload_n 1, 1), (61, .iaload, 1), (62, .invokestatic 122, 3), (65, .ifCond .eq 11, 3), (68, .aload_n 0, 1), (69, .iconst 3, 1), (70, .invokevirtual 118, 3), (73, .goto 4, 3), (76, .iconst 0, 1), (77, .ireturn, 1)]
set_option maxRecDepth 100000 in
theorem dX7_cellsBarred : dOk cX7_cellsBarred tbX7_cellsBarred = true := by decide +kernel
def tbX7_canal : dT := [(0, .iload_n 1, 1), (1, .invokestatic 126, 3), (4, .ifCond .eq 9, 3), (7, .aload_n 0, 1), (8, .iconst (-1), 1), (9, .invokevirtual 129, 3), (12, .ireturn, 1), (13, .iload_n 2, 1), (14, .i2l, 1), (15, .lconst 0, 1), (16, .ldc2_w 132, 3), (19, .invokestatic 76, 3), (22, .ifCond .ne 10, 3), (25, .aload_n 0, 1), (26, .bipush (-2), 2), (28, .invokevirtual 129, 3), (31, .ireturn, 1), (32, .aload_n 0, 1), (33, .iload_n 1, 1), (34, .iload_n 2, 1), (35, .iload_n 3, 1), (36, .iload 4, 2), (38, .i2l, 1), (39, .invokevirtual 134, 3), (42, .istore 5, 2), (44, .iload 5, 2), (46, .ifCond .ge 6, 3), (49, .iload 5, 2), (51, .ireturn, 1), (52, .aload_n 0, 1), (53, .bipush 60, 2), (55, .iload_n 1, 1), (56, .imul, 1), (57, .iload_n 3, 1), (58, .iadd, 1), (59, .iload 4, 2), (61, .invokevirtual 138, 3), (64, .ifCond .ne 15, 3), (67, .aload_n 0, 1), (68, .bipush (-100), 2), (70, .aload_n 0, 1), (71, .getfield 87, 3), (74, .isub, 1), (75, .invokevirtual 129, 3), (78, .ireturn, 1), (79, .aload_n 0, 1), (80, .aload_n 0, 1), (81, .getfield 104, 3), (84, .putfield 66, 3), (87, .aload_n 0, 1), (88, .aload_n 0, 1), (89, .getfield 94, 3), (92, .putfield 69, 3), (95, .aload_n 0, 1), (96, .aload_n 0, 1), (97, .getfield 107, 3), (100, .putfield 141, 3), (103, .aload_n 0, 1), (104, .aload_n 0, 1), (105, .getfield 101, 3), (108, .putfield 80, 3), (111, .iconst 0, 1), (112, .istore 6, 2), (114, .iload 6, 2), (116, .aload_n 0, 1), (117, .invokevirtual 72, 3), (120, .if_icmp .ge 23, 3), (123, .aload_n 0, 1), (124, .getfield 7, 3), (127, .iload 6, 2), (129, .aload_n 0, 1), (130, .getfield 19, 3), (133, .iload 6, 2), (135, .iaload, 1), (136, .iastore, 1), (137, .iinc 6 1, 3), (140, .goto (-26), 3), (143, .iconst 0, 1), (144, .istore 6, 2), (146, .iload 6, 2), (148, .aload_n 0, 1), (149, .getfield 80, 3), (152, .if_icmp .ge 37, 3), (155, .aload_n 0, 1), (156, .getfield 13, 3), (159, .iload 6, 2), (161, .aload_n 0, 1), (162, .getfield 22, 3), (165, .iload 6, 2), (167, .iaload, 1), (168, .iastore, 1), (169, .aload_n 0, 1), (170, .getfield 16, 3), (173, .iload 6, 2), (175, .aload_n 0, 1), (176, .getfield 25, 3), (179, .iload 6, 2), (181, .iaload, 1), (182, .iastore, 1), (183, .iinc 6 1, 3), (186, .goto (-40), 3), (189, .aload_n 0, 1), (190, .iconst 0, 1), (191, .putfield 144, 3), (194, .aload_n 0, 1), (195, .aload_n 0, 1), (196, .getfield 80, 3), (199, .invokevirtual 129, 3), (202, .ireturn, 1)]
set_option maxRecDepth 100000 in
theorem dX7_canal : dOk cX7_canal tbX7_canal = true := by decide +kernel
def tbX7_loadOf : dT := [(0, .aload_n 0, 1), (1, .getfield 16, 3), (4, .iload_n 1, 1), (5, .iaload, 1), (6, .istore_n 2, 1), (7, .aload_n 0, 1), (8, .getfield 13, 3), (11, .iload_n 1, 1), (12, .iaload, 1), (13, .ifCond .ne 7, 3), (16, .iload_n 2, 1), (17, .goto 24, 3), (20, .aload_n 0, 1), (21, .getfield 13, 3), (24, .iload_n 1, 1), (25, .iaload, 1), (26, .iconst 1, 1), (27, .if_icmp .ne 9, 3), (30, .iload_n 2, 1), (31, .iconst 1, 1), (32, .iadd, 1), (33, .goto 8, 3), (36, .iconst 2, 1), (37, .iload_n 2, 1), (38, .iconst 1, 1), (39, .iadd, 1), (40, .imul, 1), (41, .ireturn, 1)]
set_option maxRecDepth 100000 in
theorem dX7_loadOf : dOk cX7_loadOf tbX7_loadOf = true := by decide +kernel
def tbX7_bears : dT := [(0, .aload_n 0, 1), (1, .getfield 7, 3), (4, .iload_n 1, 1), (5, .iaload, 1), (6, .aload_n 0, 1), (7, .getfield 147, 3), (10, .isub, 1), (11, .istore_n 3, 1), (12, .aload_n 0, 1), (13, .getfield 150, 3), (16, .iload_n 1, 1), (17, .invokestatic 153, 3), (20, .ifCond .ne 16, 3), (23, .aload_n 0, 1), (24, .iload_n 2, 1), (25, .invokevirtual 156, 3), (28, .iload_n 3, 1), (29, .if_icmp .gt 7, 3), (32, .iconst 1, 1), (33, .goto 4, 3), (36, .iconst 0, 1), (37, .ireturn, 1)]
set_option maxRecDepth 100000 in
theorem dX7_bears : dOk cX7_bears tbX7_bears = true := by decide +kernel
def tbX7_bearingOf : dT := [(0, .iconst 0, 1), (1, .istore_n 2, 1), (2, .iconst 0, 1), (3, .istore_n 3, 1), (4, .iload_n 3, 1), (5, .aload_n 0, 1), (6, .invokevirtual 72, 3), (9, .if_icmp .ge 28, 3), (12, .iload_n 2, 1), (13, .aload_n 0, 1), (14, .iload_n 3, 1), (15, .iload_n 1, 1), (16, .invokevirtual 159, 3), (19, .ifCond .eq 9, 3), (22, .iconst 1, 1), (23, .iload_n 3, 1), (24, .ishl, 1), (25, .goto 4, 3), (28, .iconst 0, 1), (29, .ior, 1), (30, .istore_n 2, 1), (31, .iinc 3 1, 3), (34, .goto (-30), 3), (37, .iload_n 2, 1), (38, .ireturn, 1)]
set_option maxRecDepth 100000 in
theorem dX7_bearingOf : dOk cX7_bearingOf tbX7_bearingOf = true := by decide +kernel
def tbX7_ofSkater : dT := [(0, .aload_n 0, 1), (1, .iload_n 1, 1), (2, .invokevirtual 83, 3), (5, .ifCond .eq 5, 3), (8, .iconst (-1), 1), (9, .ireturn, 1), (10, .iload_n 2, 1), (11, .tableswitch 55 0 3 #[29, 36, 43, 49], 29), (40, .aload_n 0, 1), (41, .getfield 13, 3), (44, .iload_n 1, 1), (45, .iaload, 1), (46, .ireturn, 1), (47, .aload_n 0, 1), (48, .getfield 16, 3), (51, .iload_n 1, 1), (52, .iaload, 1), (53, .ireturn, 1), (54, .aload_n 0, 1), (55, .iload_n 1, 1), (56, .invokevirtual 156, 3), (59, .ireturn, 1), (60, .aload_n 0, 1), (61, .iload_n 1, 1), (62, .invokevirtual 162, 3), (65, .ireturn, 1), (66, .bipush (-2), 2), (68, .ireturn, 1)]
set_option maxRecDepth 100000 in
theorem dX7_ofSkater : dOk cX7_ofSkater tbX7_ofSkater = true := by decide +kernel
def tbX7_strength : dT := [(0, .aload_n 0, 1), (1, .iload_n 1, 1), (2, .invokevirtual 165, 3), (5, .ifCond .eq 7, 3), (8, .iconst (-1), 1), (9, .goto 9, 3), (12, .aload_n 0, 1), (13, .getfield 7, 3), (16, .iload_n 1, 1), (17, .iaload, 1), (18, .ireturn, 1)]
set_option maxRecDepth 100000 in
theorem dX7_strength : dOk cX7_strength tbX7_strength = true := by decide +kernel
def tbX7_freeze : dT := [(0, .aload_n 0, 1), (1, .iload_n 1, 1), (2, .invokevirtual 165, 3), (5, .ifCond .eq 5, 3), (8, .iconst (-1), 1), (9, .ireturn, 1), (10, .iload_n 2, 1), (11, .i2l, 1), (12, .lconst 0, 1), (13, .ldc2_w 168, 3), (16, .invokestatic 76, 3), (19, .ifCond .ne 6, 3), (22, .bipush (-2), 2), (24, .ireturn, 1), (25, .aload_n 0, 1), (26, .getfield 7, 3), (29, .iload_n 1, 1), (30, .iaload, 1), (31, .istore_n 3, 1), (32, .aload_n 0, 1), (33, .getfield 7, 3), (36, .iload_n 1, 1), (37, .iload_n 2, 1), (38, .iastore, 1), (39, .iload_n 3, 1), (40, .ireturn, 1)]
set_option maxRecDepth 100000 in
theorem dX7_freeze : dOk cX7_freeze tbX7_freeze = true := by decide +kernel
def tbX7_frost : dT := [(0, .iload_n 1, 1), (1, .i2l, 1), (2, .lconst 0, 1), (3, .ldc2_w 168, 3), (6, .invokestatic 76, 3), (9, .ifCond .ne 6, 3), (12, .bipush (-2), 2), (14, .ireturn, 1), (15, .aload_n 0, 1), (16, .getfield 80, 3), (19, .ifCond .ne 6, 3), (22, .bipush (-3), 2), (24, .ireturn, 1), (25, .aload_n 0, 1), (26, .getfield 141, 3), (29, .istore_n 2, 1), (30, .aload_n 0, 1), (31, .iload_n 1, 1), (32, .putfield 141, 3), (35, .iload_n 2, 1), (36, .ireturn, 1)]
set_option maxRecDepth 100000 in
theorem dX7_frost : dOk cX7_frost tbX7_frost = true := by decide +kernel
def tbX7_beside : dT := [(0, .iload_n 1, 1), (1, .aload_n 0, 1), (2, .getfield 69, 3), (5, .idiv, 1), (6, .iload_n 2, 1), (7, .ifCond .ne 7, 3), (10, .iconst (-1), 1), (11, .goto 13, 3), (14, .iload_n 2, 1), (15, .iconst 2, 1), (16, .if_icmp .ne 7, 3), (19, .iconst 1, 1), (20, .goto 4, 3), (23, .iconst 0, 1), (24, .iadd, 1), (25, .istore_n 3, 1), (26, .iload_n 1, 1), (27, .aload_n 0, 1), (28, .getfield 69, 3), (31, .irem, 1), (32, .iload_n 2, 1), (33, .iconst 3, 1), (34, .if_icmp .ne 7, 3), (37, .iconst (-1), 1), (38, .goto 13, 3), (41, .iload_n 2, 1), (42, .iconst 1, 1), (43, .if_icmp .ne 7, 3), (46, .iconst 1, 1), (47, .goto 4, 3), (50, .iconst 0, 1), (51, .iadd, 1), (52, .istore 4, 2), (54, .iload_n 3, 1), (55, .i2l, 1), (56, .lconst 0, 1), (57, .aload_n 0, 1), (58, .getfield 66, 3), (61, .i2l, 1), (62, .lconst 1, 1), (63, .lsub, 1), (64, .invokestatic 76, 3), (67, .ifCond .eq 32, 3), (70, .iload 4, 2), (72, .i2l, 1), (73, .lconst 0, 1), (74, .aload_n 0, 1), (75, .getfield 69, 3), (78, .i2l, 1), (79, .lconst 1, 1), (80, .lsub, 1), (81, .invokestatic 76, 3), (84, .ifCond .eq 15, 3), (87, .iload_n 3, 1), (88, .aload_n 0, 1), (89, .getfield 69, 3), (92, .imul, 1), (93, .iload 4, 2), (95, .iadd, 1), (96, .goto 5, 3), (99, .bipush (-9), 2), (101, .ireturn, 1)]
set_option maxRecDepth 100000 in
theorem dX7_beside : dOk cX7_beside tbX7_beside = true := by decide +kernel
def tbX7_goDeed : dT := [(0, .aload_n 0, 1), (1, .bipush (-9), 2), (3, .putfield 170, 3), (6, .aload_n 0, 1), (7, .iload_n 3, 1), (8, .putfield 173, 3), (11, .aload_n 0, 1), (12, .iconst 0, 1), (13, .putfield 176, 3), (16, .iconst 0, 1), (17, .istore 6, 2), (19, .iload 6, 2), (21, .iload 5, 2), (23, .if_icmp .ge 101, 3), (26, .aload_n 0, 1), (27, .getfield 170, 3), (30, .ifCond .ge 94, 3), (33, .aload_n 0, 1), (34, .aload_n 0, 1), (35, .getfield 173, 3), (38, .aload_n 0, 1), (39, .getfield 50, 3), (42, .iload 4, 2), (44, .iload 6, 2), (46, .iadd, 1), (47, .iaload, 1), (48, .invokevirtual 179, 3), (51, .istore 7, 2), (53, .iload 7, 2), (55, .ifCond .lt 24, 3), (58, .aload_n 0, 1), (59, .iload 7, 2), (61, .iload 6, 2), (63, .iconst 2, 1), (64, .irem, 1), (65, .ifCond .ne 7, 3), (68, .iload_n 1, 1), (69, .goto 4, 3), (72, .iload_n 2, 1), (73, .invokevirtual 159, 3), (76, .ifCond .ne 12, 3), (79, .aload_n 0, 1), (80, .iload 6, 2), (82, .putfield 170, 3), (85, .goto 33, 3), (88, .aload_n 0, 1), (89, .iload 7, 2), (91, .putfield 173, 3), (94, .aload_n 0, 1), (95, .dup, 1), (96, .getfield 176, 3), (99, .iconst 1, 1), (100, .iload 7, 2), (102, .ishl, 1), (103, .ior, 1), (104, .putfield 176, 3), (107, .aload_n 0, 1), (108, .getfield 7, 3), (111, .iload 7, 2), (113, .dup2, 1), (114, .iaload, 1), (115, .iconst 1, 1), (116, .isub, 1), (117, .iastore, 1), (118, .iinc 6 1, 3), (121, .goto (-102), 3), (124, .return_, 1)]
set_option maxRecDepth 100000 in
theorem dX7_goDeed : dOk cX7_goDeed tbX7_goDeed = true := by decide +kernel
def tbX7_keep : dT := [(0, .iconst 0, 1), (1, .istore_n 1, 1), (2, .iload_n 1, 1), (3, .bipush 20, 2), (5, .if_icmp .ge 21, 3), (8, .aload_n 0, 1), (9, .getfield 28, 3), (12, .iload_n 1, 1), (13, .aload_n 0, 1), (14, .getfield 7, 3), (17, .iload_n 1, 1), (18, .iaload, 1), (19, .iastore, 1), (20, .iinc 1 1, 3), (23, .goto (-21), 3), (26, .return_, 1)]
set_option maxRecDepth 100000 in
theorem dX7_keep : dOk cX7_keep tbX7_keep = true := by decide +kernel
def tbX7_putBack : dT := [(0, .iconst 0, 1), (1, .istore_n 1, 1), (2, .iload_n 1, 1), (3, .bipush 20, 2), (5, .if_icmp .ge 21, 3), (8, .aload_n 0, 1), (9, .getfield 7, 3), (12, .iload_n 1, 1), (13, .aload_n 0, 1), (14, .getfield 28, 3), (17, .iload_n 1, 1), (18, .iaload, 1), (19, .iastore, 1), (20, .iinc 1 1, 3), (23, .goto (-21), 3), (26, .return_, 1)]
set_option maxRecDepth 100000 in
theorem dX7_putBack : dOk cX7_putBack tbX7_putBack = true := by decide +kernel
def tbX7_strokesBarred : dT := [(0, .aload_n 0, 1), (1, .iload_n 1, 1), (2, .iload_n 2, 1), (3, .iload_n 3, 1), (4, .iload 4, 2), (6, .i2l, 1), (7, .invokevirtual 134, 3), (10, .istore 5, 2), (12, .iload 5, 2), (14, .ifCond .ge 6, 3), (17, .iload 5, 2), (19, .ireturn, 1), (20, .iconst 0, 1), (21, .istore 6, 2), (23, .iload 6, 2), (25, .iload 4, 2), (27, .if_icmp .ge 41, 3), (30, .aload_n 0, 1), (31, .getfield 50, 3), (34, .bipush 60, 2), (36, .iload_n 1, 1), (37, .imul, 1), (38, .iload_n 3, 1), (39, .iadd, 1), (40, .iload 6, 2), (42, .iadd, 1), (43, .iaload, 1), (44, .i2l, 1), (45, .lconst 0, 1), (46, .ldc2_w 182, 3), (49, .invokestatic 76, 3), (52, .ifCond .ne 10, 3), (55, .aload_n 0, 1), (56, .bipush (-2), 2), (58, .invokevirtual 129, 3), (61, .ireturn, 1), (62, .iinc 6 1, 3), (65, .goto (-42), 3), (68, .aload_n 0, 1), (69, .iconst 0, 1), (70, .invokevirtual 129, 3), (73, .ireturn, 1)]
set_option maxRecDepth 100000 in
theorem dX7_strokesBarred : dOk cX7_strokesBarred tbX7_strokesBarred = true := by decide +kernel
def tbX7_deed : dT := [(0, .aload_n 0, 1), (1, .iload_n 1, 1), (2, .iload_n 2, 1), (3, .invokevirtual 184, 3), (6, .ifCond .ne 19, 3), (9, .aload_n 0, 1), (10, .iload_n 3, 1), (11, .invokevirtual 165, 3), (14, .ifCond .ne 11, 3), (17, .iload 4, 2), (19, .invokestatic 126, 3), (22, .ifCond .eq 9, 3), (25, .aload_n 0, 1), (26, .iconst (-1), 1), (27, .invokevirtual 129, 3), (30, .ireturn, 1), (31, .iload 5, 2), (33, .i2l, 1), (34, .lconst 0, 1), (35, .ldc2_w 132, 3), (38, .invokestatic 76, 3), (41, .ifCond .eq 29, 3), (44, .iload 7, 2), (46, .i2l, 1), (47, .lconst 0, 1), (48, .ldc2_w 187, 3), (51, .invokestatic 76, 3), (54, .ifCond .eq 16, 3), (57, .iload 8, 2), (59, .i2l, 1), (60, .lconst 0, 1), (61, .ldc2_w 189, 3), (64, .invokestatic 76, 3), (67, .ifCond .ne 10, 3), (70, .aload_n 0, 1), (71, .bipush (-2), 2), (73, .invokevirtual 129, 3), (76, .ireturn, 1), (77, .aload_n 0, 1), (78, .iload 4, 2), (80, .iload 5, 2), (82, .iload 6, 2), (84, .iload 7, 2), (86, .invokevirtual 191, 3), (89, .istore 9, 2), (91, .iload 9, 2), (93, .ifCond .ge 6, 3), (96, .iload 9, 2), (98, .ireturn, 1), (99, .aload_n 0, 1), (100, .invokevirtual 194, 3), (103, .aload_n 0, 1), (104, .iload_n 1, 1), (105, .iload_n 2, 1), (106, .iload_n 3, 1), (107, .bipush 60, 2), (109, .iload 4, 2), (111, .imul, 1), (112, .iload 6, 2), (114, .iadd, 1), (115, .iload 7, 2), (117, .invokevirtual 197, 3), (120, .aload_n 0, 1), (121, .getfield 7, 3), (124, .aload_n 0, 1), (125, .getfield 173, 3), (128, .iaload, 1), (129, .istore 10, 2), (131, .aload_n 0, 1), (132, .invokevirtual 201, 3), (135, .iload 8, 2), (137, .iconst 1, 1), (138, .if_icmp .ne 8, 3), (141, .aload_n 0, 1), (142, .getfield 170, 3), (145, .ireturn, 1), (146, .aload_n 0, 1), (147, .getfield 170, 3), (150, .ifCond .lt 11, 3), (153, .bipush (-100), 2), (155, .aload_n 0, 1), (156, .getfield 170, 3), (159, .isub, 1), (160, .ireturn, 1), (161, .iload 8, 2), (163, .tableswitch 42 0 3 #[29, 42, 34, 39], 29), (192, .aload_n 0, 1), (193, .getfield 173, 3), (196, .ireturn, 1), (197, .aload_n 0, 1), (198, .getfield 176, 3), (201, .ireturn, 1), (202, .iload 10, 2), (204, .ireturn, 1), (205, .iload 7, 2), (207, .iconst 1, 1), (208, .iadd, 1), (209, .iconst 2, 1), (210, .idiv, 1), (211, .ireturn, 1)]
set_option maxRecDepth 100000 in
theorem dX7_deed : dOk cX7_deed tbX7_deed = true := by decide +kernel
def tbX7_write : dT := [(0, .aload_n 0, 1), (1, .iload_n 1, 1), (2, .iload_n 2, 1), (3, .invokevirtual 184, 3), (6, .ifCond .ne 19, 3), (9, .aload_n 0, 1), (10, .iload_n 3, 1), (11, .invokevirtual 165, 3), (14, .ifCond .ne 11, 3), (17, .iload 4, 2), (19, .invokestatic 126, 3), (22, .ifCond .eq 9, 3), (25, .aload_n 0, 1), (26, .iconst (-1), 1), (27, .invokevirtual 129, 3), (30, .ireturn, 1), (31, .iload 5, 2), (33, .i2l, 1), (34, .lconst 0, 1), (35, .ldc2_w 132, 3), (38, .invokestatic 76, 3), (41, .ifCond .eq 16, 3), (44, .iload 7, 2), (46, .i2l, 1), (47, .lconst 0, 1), (48, .ldc2_w 187, 3), (51, .invokestatic 76, 3), (54, .ifCond .ne 10, 3), (57, .aload_n 0, 1), (58, .bipush (-2), 2), (60, .invokevirtual 129, 3), (63, .ireturn, 1), (64, .aload_n 0, 1), (65, .iload 4, 2), (67, .iload 5, 2), (69, .iload 6, 2), (71, .iload 7, 2), (73, .invokevirtual 191, 3), (76, .istore 8, 2), (78, .iload 8, 2), (80, .ifCond .ge 6, 3), (83, .iload 8, 2), (85, .ireturn, 1), (86, .aload_n 0, 1), (87, .invokevirtual 194, 3), (90, .aload_n 0, 1), (91, .iload_n 1, 1), (92, .iload_n 2, 1), (93, .iload_n 3, 1), (94, .bipush 60, 2), (96, .iload 4, 2), (98, .imul, 1), (99, .iload 6, 2), (101, .iadd, 1), (102, .iload 7, 2), (104, .invokevirtual 197, 3), (107, .aload_n 0, 1), (108, .getfield 170, 3), (111, .ifCond .lt 15, 3), (114, .aload_n 0, 1), (115, .invokevirtual 201, 3), (118, .bipush (-100), 2), (120, .aload_n 0, 1), (121, .getfield 170, 3), (124, .isub, 1), (125, .ireturn, 1), (126, .iload 7, 2), (128, .ireturn, 1)]
set_option maxRecDepth 100000 in
theorem dX7_write : dOk cX7_write tbX7_write = true := by decide +kernel
def tbX7_countOf : dT := [(0, .iconst 0, 1), (1, .istore_n 2, 1), (2, .iconst 0, 1), (3, .istore_n 3, 1), (4, .iload_n 3, 1), (5, .aload_n 0, 1), (6, .invokevirtual 72, 3), (9, .if_icmp .ge 27, 3), (12, .iload_n 2, 1), (13, .aload_n 0, 1), (14, .getfield 7, 3), (17, .iload_n 3, 1), (18, .iaload, 1), (19, .iload_n 1, 1), (20, .if_icmp .ne 7, 3), (23, .iconst 1, 1), (24, .goto 4, 3), (27, .iconst 0, 1), (28, .iadd, 1), (29, .istore_n 2, 1), (30, .iinc 3 1, 3), (33, .goto (-29), 3), (36, .iload_n 2, 1), (37, .ireturn, 1)]
set_option maxRecDepth 100000 in
theorem dX7_countOf : dOk cX7_countOf tbX7_countOf = true := by decide +kernel
def tbX7_nights : dT := [(0, .iload_n 1, 1), (1, .i2l, 1), (2, .lconst 0, 1), (3, .ldc2_w 168, 3), (6, .invokestatic 76, 3), (9, .ifCond .ne 6, 3), (12, .bipush (-2), 2), (14, .ireturn, 1), (15, .aload_n 0, 1), (16, .getfield 80, 3), (19, .ifCond .ne 6, 3), (22, .bipush (-3), 2), (24, .ireturn, 1), (25, .iconst 0, 1), (26, .istore_n 2, 1), (27, .iload_n 2, 1), (28, .aload_n 0, 1), (29, .invokevirtual 72, 3), (32, .if_icmp .ge 41, 3), (35, .aload_n 0, 1), (36, .getfield 7, 3), (39, .iload_n 2, 1), (40, .iaload, 1), (41, .iload_n 1, 1), (42, .aload_n 0, 1), (43, .getfield 141, 3), (46, .imul, 1), (47, .iadd, 1), (48, .istore_n 3, 1), (49, .aload_n 0, 1), (50, .getfield 7, 3), (53, .iload_n 2, 1), (54, .iload_n 3, 1), (55, .bipush 9, 2), (57, .if_icmp .le 8, 3), (60, .bipush 9, 2), (62, .goto 4, 3), (65, .iload_n 3, 1), (66, .iastore, 1), (67, .iinc 2 1, 3), (70, .goto (-43), 3), (73, .aload_n 0, 1), (74, .bipush 9, 2), (76, .invokevirtual 204, 3), (79, .ireturn, 1)]
set_option maxRecDepth 100000 in
theorem dX7_nights : dOk cX7_nights tbX7_nights = true := by decide +kernel
def tbX7_thaw : dT := [(0, .iload_n 1, 1), (1, .i2l, 1), (2, .lconst 0, 1), (3, .ldc2_w 168, 3), (6, .invokestatic 76, 3), (9, .ifCond .ne 6, 3), (12, .bipush (-2), 2), (14, .ireturn, 1), (15, .aload_n 0, 1), (16, .getfield 80, 3), (19, .ifCond .ne 6, 3), (22, .bipush (-3), 2), (24, .ireturn, 1), (25, .iconst 0, 1), (26, .istore_n 2, 1), (27, .iload_n 2, 1), (28, .aload_n 0, 1), (29, .invokevirtual 72, 3), (32, .if_icmp .ge 33, 3), (35, .aload_n 0, 1), (36, .getfield 7, 3), (39, .iload_n 2, 1), (40, .iaload, 1), (41, .iload_n 1, 1), (42, .isub, 1), (43, .istore_n 3, 1), (44, .aload_n 0, 1), (45, .getfield 7, 3), (48, .iload_n 2, 1), (49, .iload_n 3, 1), (50, .ifCond .ge 7, 3), (53, .iconst 0, 1), (54, .goto 4, 3), (57, .iload_n 3, 1), (58, .iastore, 1), (59, .iinc 2 1, 3), (62, .goto (-35), 3), (65, .aload_n 0, 1), (66, .iconst 0, 1), (67, .invokevirtual 204, 3), (70, .ireturn, 1)]
set_option maxRecDepth 100000 in
theorem dX7_thaw : dOk cX7_thaw tbX7_thaw = true := by decide +kernel
def tbX7_leftBy : dT := [(0, .iload_n 1, 1), (1, .bipush 20, 2), (3, .irem, 1), (4, .istore 4, 2), (6, .iload_n 1, 1), (7, .bipush 20, 2), (9, .idiv, 1), (10, .istore 5, 2), (12, .bipush (-9), 2), (14, .istore 6, 2), (16, .iconst 0, 1), (17, .istore 7, 2), (19, .iload 7, 2), (21, .iconst 4, 1), (22, .if_icmp .ge 107, 3), (25, .aload_n 0, 1), (26, .iload 4, 2), (28, .iload 7, 2), (30, .invokevirtual 179, 3), (33, .istore 8, 2), (35, .iload 8, 2), (37, .ifCond .lt 26, 3), (40, .aload_n 0, 1), (41, .iload 8, 2), (43, .iload 5, 2), (45, .ifCond .ne 7, 3), (48, .iload_n 2, 1), (49, .goto 4, 3), (52, .iload_n 3, 1), (53, .invokevirtual 159, 3), (56, .ifCond .eq 7, 3), (59, .iconst 1, 1), (60, .goto 4, 3), (63, .iconst 0, 1), (64, .istore 9, 2), (66, .iload 9, 2), (68, .ifCond .eq 21, 3), (71, .aload_n 0, 1), (72, .getfield 31, 3), (75, .iload 8, 2), (77, .bipush 20, 2), (79, .iconst 1, 1), (80, .iload 5, 2), (82, .isub, 1), (83, .imul, 1), (84, .iadd, 1), (85, .iaload, 1), (86, .goto 5, 3), (89, .bipush (-9), 2), (91, .istore 10, 2), (93, .iload 10, 2), (95, .ifCond .lt 24, 3), (98, .iload 6, 2), (100, .ifCond .lt 12, 3), (103, .iload 10, 2), (105, .iconst 1, 1), (106, .iadd, 1), (107, .iload 6, 2), (109, .if_icmp .ge 10, 3), (112, .iload 10, 2), (114, .iconst 1, 1), (115, .iadd, 1), (116, .goto 5, 3), (119, .iload 6, 2), (121, .istore 6, 2), (123, .iinc 7 1, 3), (126, .goto (-107), 3), (129, .iload 6, 2), (131, .ireturn, 1)]
set_option maxRecDepth 100000 in
theorem dX7_leftBy : dOk cX7_leftBy tbX7_leftBy = true := by decide +kernel
def tbX7_goBond : dT := [(0, .iconst 0, 1), (1, .istore 4, 2), (3, .iload 4, 2), (5, .bipush 40, 2), (7, .if_icmp .ge 31, 3), (10, .aload_n 0, 1), (11, .getfield 31, 3), (14, .iload 4, 2), (16, .iload 4, 2), (18, .bipush 20, 2), (20, .irem, 1), (21, .iload_n 3, 1), (22, .if_icmp .ne 7, 3), (25, .iconst 0, 1), (26, .goto 5, 3), (29, .bipush (-9), 2), (31, .iastore, 1), (32, .iinc 4 1, 3), (35, .goto (-32), 3), (38, .iconst 1, 1), (39, .istore 4, 2), (41, .iload 4, 2), (43, .bipush 41, 2), (45, .if_icmp .ge 100, 3), (48, .iconst 0, 1), (49, .istore 5, 2), (51, .iload 5, 2), (53, .bipush 40, 2), (55, .if_icmp .ge 84, 3), (58, .iload 5, 2), (60, .bipush 20, 2), (62, .irem, 1), (63, .aload_n 0, 1), (64, .invokevirtual 72, 3), (67, .if_icmp .ge 17, 3), (70, .aload_n 0, 1), (71, .getfield 31, 3), (74, .iload 5, 2), (76, .iaload, 1), (77, .ifCond .ge 7, 3), (80, .iconst 1, 1), (81, .goto 4, 3), (84, .iconst 0, 1), (85, .istore 6, 2), (87, .iload 6, 2), (89, .ifCond .eq 14, 3), (92, .aload_n 0, 1), (93, .iload 5, 2), (95, .iload_n 1, 1), (96, .iload_n 2, 1), (97, .invokevirtual 207, 3), (100, .goto 5, 3), (103, .bipush (-9), 2), (105, .istore 7, 2), (107, .aload_n 0, 1), (108, .getfield 31, 3), (111, .iload 5, 2), (113, .iload 7, 2), (115, .iload 4, 2), (117, .if_icmp .ne 8, 3), (120, .iload 7, 2), (122, .goto 10, 3), (125, .aload_n 0, 1), (126, .getfield 31, 3), (129, .iload 5, 2), (131, .iaload, 1), (132, .iastore, 1), (133, .iinc 5 1, 3), (136, .goto (-85), 3), (139, .iinc 4 1, 3), (142, .goto (-101), 3), (145, .return_, 1)]
set_option maxRecDepth 100000 in
theorem dX7_goBond : dOk cX7_goBond tbX7_goBond = true := by decide +kernel
def tbX7_isBond : dT := [(0, .aload_n 0, 1), (1, .iload_n 1, 1), (2, .iload_n 2, 1), (3, .iload 4, 2), (5, .invokevirtual 211, 3), (8, .aload_n 0, 1), (9, .getfield 31, 3), (12, .iload_n 3, 1), (13, .iaload, 1), (14, .ifCond .lt 7, 3), (17, .iconst 1, 1), (18, .goto 4, 3), (21, .iconst 0, 1), (22, .ireturn, 1)]
set_option maxRecDepth 100000 in
theorem dX7_isBond : dOk cX7_isBond tbX7_isBond = true := by decide +kernel
def tbX7_strokeBy : dT := [(0, .bipush (-9), 2), (2, .istore 5, 2), (4, .aload_n 0, 1), (5, .getfield 31, 3), (8, .iload_n 3, 1), (9, .bipush 20, 2), (11, .iload 4, 2), (13, .imul, 1), (14, .iadd, 1), (15, .iaload, 1), (16, .istore 6, 2), (18, .iconst 3, 1), (19, .istore 7, 2), (21, .iload 7, 2), (23, .ifCond .lt 85, 3), (26, .aload_n 0, 1), (27, .iload_n 3, 1), (28, .iload 7, 2), (30, .invokevirtual 179, 3), (33, .istore 8, 2), (35, .iload 8, 2), (37, .ifCond .lt 48, 3), (40, .aload_n 0, 1), (41, .iload 8, 2), (43, .iload 4, 2), (45, .ifCond .ne 7, 3), (48, .iload_n 1, 1), (49, .goto 4, 3), (52, .iload_n 2, 1), (53, .invokevirtual 159, 3), (56, .ifCond .eq 29, 3), (59, .aload_n 0, 1), (60, .getfield 31, 3), (63, .iload 8, 2), (65, .bipush 20, 2), (67, .iconst 1, 1), (68, .iload 4, 2), (70, .isub, 1), (71, .imul, 1), (72, .iadd, 1), (73, .iaload, 1), (74, .iload 6, 2), (76, .iconst 1, 1), (77, .isub, 1), (78, .if_icmp .ne 7, 3), (81, .iconst 1, 1), (82, .goto 4, 3), (85, .iconst 0, 1), (86, .istore 9, 2), (88, .iload 9, 2), (90, .ifCond .eq 8, 3), (93, .iload 7, 2), (95, .goto 5, 3), (98, .iload 5, 2), (100, .istore 5, 2), (102, .iinc 7 (-1), 3), (105, .goto (-84), 3), (108, .iload 5, 2), (110, .ireturn, 1)]
set_option maxRecDepth 100000 in
theorem dX7_strokeBy : dOk cX7_strokeBy tbX7_strokeBy = true := by decide +kernel
def tbX7_bond : dT := [(0, .aload_n 0, 1), (1, .iload_n 1, 1), (2, .iload_n 2, 1), (3, .invokevirtual 184, 3), (6, .ifCond .ne 20, 3), (9, .aload_n 0, 1), (10, .iload_n 3, 1), (11, .invokevirtual 165, 3), (14, .ifCond .ne 12, 3), (17, .aload_n 0, 1), (18, .iload 4, 2), (20, .invokevirtual 165, 3), (23, .ifCond .eq 5, 3), (26, .iconst (-1), 1), (27, .ireturn, 1), (28, .iload 5, 2), (30, .i2l, 1), (31, .ldc2_w 215, 3), (34, .ldc2_w 217, 3), (37, .invokestatic 76, 3), (40, .ifCond .ne 6, 3), (43, .bipush (-2), 2), (45, .ireturn, 1), (46, .aload_n 0, 1), (47, .iload_n 1, 1), (48, .iload_n 2, 1), (49, .iload 4, 2), (51, .invokevirtual 211, 3), (54, .aload_n 0, 1), (55, .getfield 31, 3), (58, .iload_n 3, 1), (59, .iaload, 1), (60, .istore 6, 2), (62, .iload 5, 2), (64, .ifCond .lt 10, 3), (67, .iload 6, 2), (69, .iload 5, 2), (71, .if_icmp .gt 16, 3), (74, .iload 5, 2), (76, .ifCond .ge 8, 3), (79, .iload 6, 2), (81, .goto 5, 3), (84, .bipush (-9), 2), (86, .ireturn, 1), (87, .iload_n 3, 1), (88, .istore 7, 2), (90, .iconst 0, 1), (91, .istore 8, 2), (93, .iload 8, 2), (95, .iload 5, 2), (97, .if_icmp .ge 29, 3), (100, .aload_n 0, 1), (101, .iload 7, 2), (103, .aload_n 0, 1), (104, .iload_n 1, 1), (105, .iload_n 2, 1), (106, .iload 7, 2), (108, .iload 8, 2), (110, .iconst 2, 1), (111, .irem, 1), (112, .invokevirtual 219, 3), (115, .invokevirtual 179, 3), (118, .istore 7, 2), (120, .iinc 8 1, 3), (123, .goto (-30), 3), (126, .aload_n 0, 1), (127, .iload_n 1, 1), (128, .iload_n 2, 1), (129, .iload 7, 2), (131, .iload 5, 2), (133, .iconst 2, 1), (134, .irem, 1), (135, .invokevirtual 219, 3), (138, .ireturn, 1)]
set_option maxRecDepth 100000 in
theorem dX7_bond : dOk cX7_bond tbX7_bond = true := by decide +kernel
def tbX7_holds : dT := [(0, .aload_n 0, 1), (1, .iload_n 1, 1), (2, .iload_n 2, 1), (3, .invokevirtual 184, 3), (6, .ifCond .ne 20, 3), (9, .aload_n 0, 1), (10, .iload_n 3, 1), (11, .invokevirtual 165, 3), (14, .ifCond .ne 12, 3), (17, .aload_n 0, 1), (18, .iload 4, 2), (20, .invokevirtual 165, 3), (23, .ifCond .eq 5, 3), (26, .iconst (-1), 1), (27, .ireturn, 1), (28, .bipush (-9), 2), (30, .istore 5, 2), (32, .iconst 0, 1), (33, .istore 6, 2), (35, .iload 6, 2), (37, .bipush 10, 2), (39, .if_icmp .ge 36, 3), (42, .aload_n 0, 1), (43, .iload 6, 2), (45, .putfield 147, 3), (48, .aload_n 0, 1), (49, .iload_n 1, 1), (50, .iload_n 2, 1), (51, .iload_n 3, 1), (52, .iload 4, 2), (54, .invokevirtual 222, 3), (57, .ifCond .eq 8, 3), (60, .iload 6, 2), (62, .goto 5, 3), (65, .iload 5, 2), (67, .istore 5, 2), (69, .iinc 6 1, 3), (72, .goto (-37), 3), (75, .aload_n 0, 1), (76, .iconst 0, 1), (77, .putfield 147, 3), (80, .iload 5, 2), (82, .ireturn, 1)]
set_option maxRecDepth 100000 in
theorem dX7_holds : dOk cX7_holds tbX7_holds = true := by decide +kernel
def tbX7_alone : dT := [(0, .aload_n 0, 1), (1, .iload_n 1, 1), (2, .invokevirtual 83, 3), (5, .ifCond .ne 11, 3), (8, .aload_n 0, 1), (9, .iload_n 2, 1), (10, .invokevirtual 165, 3), (13, .ifCond .eq 5, 3), (16, .iconst (-1), 1), (17, .ireturn, 1), (18, .iconst 1, 1), (19, .iload_n 2, 1), (20, .ishl, 1), (21, .istore_n 3, 1), (22, .iconst 0, 1), (23, .istore 4, 2), (25, .iload 4, 2), (27, .aload_n 0, 1), (28, .invokevirtual 72, 3), (31, .if_icmp .ge 80, 3), (34, .iconst 0, 1), (35, .istore 5, 2), (37, .iload 5, 2), (39, .iconst 4, 1), (40, .aload_n 0, 1), (41, .invokevirtual 72, 3), (44, .imul, 1), (45, .if_icmp .ge 60, 3), (48, .aload_n 0, 1), (49, .iload 5, 2), (51, .iconst 4, 1), (52, .idiv, 1), (53, .iload 5, 2), (55, .iconst 4, 1), (56, .irem, 1), (57, .invokevirtual 179, 3), (60, .istore 6, 2), (62, .iload_n 3, 1), (63, .iload_n 3, 1), (64, .iload 5, 2), (66, .iconst 4, 1), (67, .idiv, 1), (68, .invokestatic 153, 3), (71, .ifCond .eq 25, 3), (74, .iload 6, 2), (76, .ifCond .lt 20, 3), (79, .aload_n 0, 1), (80, .iload 6, 2), (82, .iload_n 1, 1), (83, .invokevirtual 159, 3), (86, .ifCond .eq 10, 3), (89, .iconst 1, 1), (90, .iload 6, 2), (92, .ishl, 1), (93, .goto 4, 3), (96, .iconst 0, 1), (97, .ior, 1), (98, .istore_n 3, 1), (99, .iinc 5 1, 3), (102, .goto (-65), 3), (105, .iinc 4 1, 3), (108, .goto (-83), 3), (111, .iload_n 3, 1), (112, .ireturn, 1)]
set_option maxRecDepth 100000 in
theorem dX7_alone : dOk cX7_alone tbX7_alone = true := by decide +kernel
def tbX7_neck : dT := [(0, .aload_n 0, 1), (1, .iload_n 1, 1), (2, .iload_n 2, 1), (3, .invokevirtual 184, 3), (6, .ifCond .ne 20, 3), (9, .aload_n 0, 1), (10, .iload_n 3, 1), (11, .invokevirtual 165, 3), (14, .ifCond .ne 12, 3), (17, .aload_n 0, 1), (18, .iload 4, 2), (20, .invokevirtual 165, 3), (23, .ifCond .eq 5, 3), (26, .iconst (-1), 1), (27, .ireturn, 1), (28, .bipush (-9), 2), (30, .istore 5, 2), (32, .aload_n 0, 1), (33, .iload_n 1, 1), (34, .iload_n 2, 1), (35, .iload_n 3, 1), (36, .iload 4, 2), (38, .invokevirtual 222, 3), (41, .ifCond .eq 76, 3), (44, .aload_n 0, 1), (45, .invokevirtual 72, 3), (48, .iconst 1, 1), (49, .isub, 1), (50, .istore 6, 2), (52, .iload 6, 2), (54, .ifCond .lt 63, 3), (57, .aload_n 0, 1), (58, .iconst 1, 1), (59, .iload 6, 2), (61, .ishl, 1), (62, .putfield 150, 3), (65, .iload 6, 2), (67, .iload_n 3, 1), (68, .if_icmp .eq 26, 3), (71, .iload 6, 2), (73, .iload 4, 2), (75, .if_icmp .eq 19, 3), (78, .aload_n 0, 1), (79, .iload_n 1, 1), (80, .iload_n 2, 1), (81, .iload_n 3, 1), (82, .iload 4, 2), (84, .invokevirtual 222, 3), (87, .ifCond .ne 7, 3), (90, .iconst 1, 1), (91, .goto 4, 3), (94, .iconst 0, 1), (95, .istore 7, 2), (97, .iload 7, 2), (99, .ifCond .eq 8, 3), (102, .iload 6, 2), (104, .goto 5, 3), (107, .iload 5, 2), (109, .istore 5, 2), (111, .iinc 6 (-1), 3), (114, .goto (-62), 3), (117, .aload_n 0, 1), (118, .iconst 0, 1), (119, .putfield 150, 3), (122, .iload 5, 2), (124, .ireturn, 1)]
set_option maxRecDepth 100000 in
theorem dX7_neck : dOk cX7_neck tbX7_neck = true := by decide +kernel
def tbX7_reading : dT := [(0, .aload_n 0, 1), (1, .iload_n 1, 1), (2, .invokevirtual 83, 3), (5, .ifCond .ne 11, 3), (8, .aload_n 0, 1), (9, .iload_n 2, 1), (10, .invokevirtual 165, 3), (13, .ifCond .eq 5, 3), (16, .iconst (-1), 1), (17, .ireturn, 1), (18, .aload_n 0, 1), (19, .getfield 144, 3), (22, .bipush 8, 2), (24, .if_icmp .ne 6, 3), (27, .bipush (-4), 2), (29, .ireturn, 1), (30, .aload_n 0, 1), (31, .getfield 34, 3), (34, .aload_n 0, 1), (35, .getfield 144, 3), (38, .iload_n 1, 1), (39, .iastore, 1), (40, .aload_n 0, 1), (41, .getfield 37, 3), (44, .aload_n 0, 1), (45, .getfield 144, 3), (48, .iload_n 2, 1), (49, .iastore, 1), (50, .aload_n 0, 1), (51, .getfield 40, 3), (54, .aload_n 0, 1), (55, .getfield 144, 3), (58, .iload_n 3, 1), (59, .bastore, 1), (60, .aload_n 0, 1), (61, .dup, 1), (62, .getfield 144, 3), (65, .iconst 1, 1), (66, .iadd, 1), (67, .putfield 144, 3), (70, .aload_n 0, 1), (71, .getfield 144, 3), (74, .iconst 1, 1), (75, .isub, 1), (76, .ireturn, 1)]
set_option maxRecDepth 100000 in
theorem dX7_reading : dOk cX7_reading tbX7_reading = true := by decide +kernel
def tbX7_back : dT := [(0, .iload_n 1, 1), (1, .i2l, 1), (2, .lconst 0, 1), (3, .aload_n 0, 1), (4, .getfield 144, 3), (7, .i2l, 1), (8, .invokestatic 76, 3), (11, .ifCond .ne 6, 3), (14, .bipush (-2), 2), (16, .ireturn, 1), (17, .aload_n 0, 1), (18, .dup, 1), (19, .getfield 144, 3), (22, .iload_n 1, 1), (23, .isub, 1), (24, .putfield 144, 3), (27, .aload_n 0, 1), (28, .getfield 144, 3), (31, .ireturn, 1)]
set_option maxRecDepth 100000 in
theorem dX7_back : dOk cX7_back tbX7_back = true := by decide +kernel
def tbX7_areSo : dT := [(0, .iconst 1, 1), (1, .istore_n 1, 1), (2, .iconst 0, 1), (3, .istore_n 2, 1), (4, .iload_n 2, 1), (5, .aload_n 0, 1), (6, .getfield 144, 3), (9, .if_icmp .ge 44, 3), (12, .iload_n 1, 1), (13, .ifCond .eq 32, 3), (16, .aload_n 0, 1), (17, .aload_n 0, 1), (18, .getfield 37, 3), (21, .iload_n 2, 1), (22, .iaload, 1), (23, .aload_n 0, 1), (24, .getfield 34, 3), (27, .iload_n 2, 1), (28, .iaload, 1), (29, .invokevirtual 159, 3), (32, .aload_n 0, 1), (33, .getfield 40, 3), (36, .iload_n 2, 1), (37, .baload, 1), (38, .if_icmp .ne 7, 3), (41, .iconst 1, 1), (42, .goto 4, 3), (45, .iconst 0, 1), (46, .istore_n 1, 1), (47, .iinc 2 1, 3), (50, .goto (-46), 3), (53, .iload_n 1, 1), (54, .ireturn, 1)]
set_option maxRecDepth 100000 in
theorem dX7_areSo : dOk cX7_areSo tbX7_areSo = true := by decide +kernel
def tbX7_weights : dT := [(0, .aload_n 0, 1), (1, .iload_n 1, 1), (2, .invokevirtual 83, 3), (5, .ifCond .eq 5, 3), (8, .iconst (-1), 1), (9, .ireturn, 1), (10, .aload_n 0, 1), (11, .getfield 16, 3), (14, .iload_n 1, 1), (15, .iaload, 1), (16, .istore_n 2, 1), (17, .iconst 0, 1), (18, .istore_n 3, 1), (19, .iconst 1, 1), (20, .istore 4, 2), (22, .iload 4, 2), (24, .bipush 10, 2), (26, .if_icmp .ge 35, 3), (29, .aload_n 0, 1), (30, .getfield 16, 3), (33, .iload_n 1, 1), (34, .iload 4, 2), (36, .iastore, 1), (37, .iload_n 3, 1), (38, .aload_n 0, 1), (39, .invokevirtual 226, 3), (42, .ifCond .eq 10, 3), (45, .iconst 1, 1), (46, .iload 4, 2), (48, .ishl, 1), (49, .goto 4, 3), (52, .iconst 0, 1), (53, .ior, 1), (54, .istore_n 3, 1), (55, .iinc 4 1, 3), (58, .goto (-36), 3), (61, .aload_n 0, 1), (62, .getfield 16, 3), (65, .iload_n 1, 1), (66, .iload_n 2, 1), (67, .iastore, 1), (68, .iload_n 3, 1), (69, .ireturn, 1)]
set_option maxRecDepth 100000 in
theorem dX7_weights : dOk cX7_weights tbX7_weights = true := by decide +kernel
def tbX7_kinds : dT := [(0, .aload_n 0, 1), (1, .iload_n 1, 1), (2, .invokevirtual 83, 3), (5, .ifCond .eq 5, 3), (8, .iconst (-1), 1), (9, .ireturn, 1), (10, .aload_n 0, 1), (11, .getfield 13, 3), (14, .iload_n 1, 1), (15, .iaload, 1), (16, .istore_n 2, 1), (17, .iconst 0, 1), (18, .istore_n 3, 1), (19, .iconst 0, 1), (20, .istore 4, 2), (22, .iload 4, 2), (24, .iconst 3, 1), (25, .if_icmp .ge 35, 3), (28, .aload_n 0, 1), (29, .getfield 13, 3), (32, .iload_n 1, 1), (33, .iload 4, 2), (35, .iastore, 1), (36, .iload_n 3, 1), (37, .aload_n 0, 1), (38, .invokevirtual 226, 3), (41, .ifCond .eq 10, 3), (44, .iconst 1, 1), (45, .iload 4, 2), (47, .ishl, 1), (48, .goto 4, 3), (51, .iconst 0, 1), (52, .ior, 1), (53, .istore_n 3, 1), (54, .iinc 4 1, 3), (57, .goto (-35), 3), (60, .aload_n 0, 1), (61, .getfield 13, 3), (64, .iload_n 1, 1), (65, .iload_n 2, 1), (66, .iastore, 1), (67, .iload_n 3, 1), (68, .ireturn, 1)]
set_option maxRecDepth 100000 in
theorem dX7_kinds : dOk cX7_kinds tbX7_kinds = true := by decide +kernel
def tbX7_strengths : dT := [(0, .aload_n 0, 1), (1, .iload_n 1, 1), (2, .invokevirtual 165, 3), (5, .ifCond .eq 5, 3), (8, .iconst (-1), 1), (9, .ireturn, 1), (10, .aload_n 0, 1), (11, .getfield 7, 3), (14, .iload_n 1, 1), (15, .iaload, 1), (16, .istore_n 2, 1), (17, .iconst 0, 1), (18, .istore_n 3, 1), (19, .iconst 0, 1), (20, .istore 4, 2), (22, .iload 4, 2), (24, .bipush 10, 2), (26, .if_icmp .ge 35, 3), (29, .aload_n 0, 1), (30, .getfield 7, 3), (33, .iload_n 1, 1), (34, .iload 4, 2), (36, .iastore, 1), (37, .iload_n 3, 1), (38, .aload_n 0, 1), (39, .invokevirtual 226, 3), (42, .ifCond .eq 10, 3), (45, .iconst 1, 1), (46, .iload 4, 2), (48, .ishl, 1), (49, .goto 4, 3), (52, .iconst 0, 1), (53, .ior, 1), (54, .istore_n 3, 1), (55, .iinc 4 1, 3), (58, .goto (-36), 3), (61, .aload_n 0, 1), (62, .getfield 7, 3), (65, .iload_n 1, 1), (66, .iload_n 2, 1), (67, .iastore, 1), (68, .iload_n 3, 1), (69, .ireturn, 1)]
set_option maxRecDepth 100000 in
theorem dX7_strengths : dOk cX7_strengths tbX7_strengths = true := by decide +kernel
def tbX7_odds : dT := [(0, .aload_n 0, 1), (1, .iload_n 1, 1), (2, .iload_n 2, 1), (3, .invokevirtual 184, 3), (6, .ifCond .ne 20, 3), (9, .aload_n 0, 1), (10, .iload_n 3, 1), (11, .invokevirtual 165, 3), (14, .ifCond .ne 12, 3), (17, .aload_n 0, 1), (18, .iload 4, 2), (20, .invokevirtual 165, 3), (23, .ifCond .eq 7, 3), (26, .invokestatic 62, 3), (29, .lreturn, 1), (30, .iload 5, 2), (32, .i2l, 1), (33, .lconst 0, 1), (34, .iconst 1, 1), (35, .aload_n 0, 1), (36, .invokevirtual 72, 3), (39, .ishl, 1), (40, .i2l, 1), (41, .lconst 1, 1), (42, .lsub, 1), (43, .invokestatic 76, 3), (46, .ifCond .eq 24, 3), (49, .iload 5, 2), (51, .invokestatic 230, 3), (54, .bipush 8, 2), (56, .if_icmp .gt 14, 3), (59, .iload 6, 2), (61, .i2l, 1), (62, .lconst 0, 1), (63, .lconst 1, 1), (64, .invokestatic 76, 3), (67, .ifCond .ne 7, 3), (70, .invokestatic 62, 3), (73, .lreturn, 1), (74, .lconst 0, 1), (75, .lstore 7, 2), (77, .iload 5, 2), (79, .istore 9, 2), (81, .iconst 1, 1), (82, .istore 10, 2), (84, .iload 10, 2), (86, .ifCond .eq 55, 3), (89, .aload_n 0, 1), (90, .iload 9, 2), (92, .putfield 150, 3), (95, .lload 7, 2), (97, .aload_n 0, 1), (98, .iload_n 1, 1), (99, .iload_n 2, 1), (100, .iload_n 3, 1), (101, .iload 4, 2), (103, .invokevirtual 222, 3), (106, .ifCond .eq 7, 3), (109, .lconst 1, 1), (110, .goto 4, 3), (113, .lconst 0, 1), (114, .ladd, 1), (115, .lstore 7, 2), (117, .iload 9, 2), (119, .ifCond .eq 7, 3), (122, .iconst 1, 1), (123, .goto 4, 3), (126, .iconst 0, 1), (127, .istore 10, 2), (129, .iload 9, 2), (131, .iconst 1, 1), (132, .isub, 1), (133, .iload 5, 2), (135, .iand, 1), (136, .istore 9, 2), (138, .goto (-54), 3), (141, .aload_n 0, 1), (142, .iconst 0, 1), (143, .putfield 150, 3), (146, .lload 7, 2), (148, .lconst 1, 1), (149, .iload 5, 2), (151, .invokestatic 230, 3), (154, .lshl, 1), (155, .iload 6, 2), (157, .invokestatic 233, 3), (160, .lreturn, 1)]
set_option maxRecDepth 100000 in
theorem dX7_odds : dOk cX7_odds tbX7_odds = true := by decide +kernel
def tbX7_noSheet : dT := [(0, .iload_n 0, 1), (1, .i2l, 1), (2, .lconst 0, 1), (3, .ldc2_w 182, 3), (6, .invokestatic 76, 3), (9, .ifCond .ne 7, 3), (12, .iconst 1, 1), (13, .goto 4, 3), (16, .iconst 0, 1), (17, .ireturn, 1)]
set_option maxRecDepth 100000 in
theorem dX7_noSheet : dOk cX7_noSheet tbX7_noSheet = true := by decide +kernel
def tbX7_sheet : dT := [(0, .iload_n 1, 1), (1, .invokestatic 126, 3), (4, .ifCond .eq 9, 3), (7, .aload_n 0, 1), (8, .iconst (-1), 1), (9, .invokevirtual 129, 3), (12, .ireturn, 1), (13, .iload_n 2, 1), (14, .i2l, 1), (15, .lconst 0, 1), (16, .ldc2_w 132, 3), (19, .invokestatic 76, 3), (22, .ifCond .eq 9, 3), (25, .iload_n 3, 1), (26, .bipush 60, 2), (28, .if_icmp .le 10, 3), (31, .aload_n 0, 1), (32, .bipush (-2), 2), (34, .invokevirtual 129, 3), (37, .ireturn, 1), (38, .iload_n 3, 1), (39, .ifCond .ge 9, 3), (42, .aload_n 0, 1), (43, .iconst 4, 1), (44, .invokevirtual 118, 3), (47, .ireturn, 1), (48, .aload_n 0, 1), (49, .getfield 44, 3), (52, .iload_n 1, 1), (53, .iload_n 3, 1), (54, .iastore, 1), (55, .aload_n 0, 1), (56, .getfield 47, 3), (59, .iload_n 1, 1), (60, .iload_n 2, 1), (61, .iastore, 1), (62, .iconst 0, 1), (63, .istore 4, 2), (65, .iload 4, 2), (67, .iload_n 3, 1), (68, .if_icmp .ge 22, 3), (71, .aload_n 0, 1), (72, .getfield 50, 3), (75, .bipush 60, 2), (77, .iload_n 1, 1), (78, .imul, 1), (79, .iload 4, 2), (81, .iadd, 1), (82, .iconst 0, 1), (83, .iastore, 1), (84, .iinc 4 1, 3), (87, .goto (-22), 3), (90, .aload_n 0, 1), (91, .iconst 1, 1), (92, .invokevirtual 129, 3), (95, .ireturn, 1)]
set_option maxRecDepth 100000 in
theorem dX7_sheet : dOk cX7_sheet tbX7_sheet = true := by decide +kernel
def tbX7_lose : dT := [(0, .iload_n 1, 1), (1, .invokestatic 126, 3), (4, .ifCond .eq 5, 3), (7, .iconst (-1), 1), (8, .ireturn, 1), (9, .aload_n 0, 1), (10, .getfield 44, 3), (13, .iload_n 1, 1), (14, .iaload, 1), (15, .ifCond .ge 7, 3), (18, .iconst 0, 1), (19, .goto 4, 3), (22, .iconst 1, 1), (23, .istore_n 2, 1), (24, .aload_n 0, 1), (25, .getfield 44, 3), (28, .iload_n 1, 1), (29, .iconst (-1), 1), (30, .iastore, 1), (31, .iload_n 2, 1), (32, .ireturn, 1)]
set_option maxRecDepth 100000 in
theorem dX7_lose : dOk cX7_lose tbX7_lose = true := by decide +kernel
def tbX7_noCell : dT := [(0, .aload_n 0, 1), (1, .getfield 44, 3), (4, .iload_n 1, 1), (5, .iaload, 1), (6, .ifCond .ge 7, 3), (9, .iconst 1, 1), (10, .goto 26, 3), (13, .iload_n 2, 1), (14, .i2l, 1), (15, .lconst 0, 1), (16, .aload_n 0, 1), (17, .getfield 44, 3), (20, .iload_n 1, 1), (21, .iaload, 1), (22, .i2l, 1), (23, .lconst 1, 1), (24, .lsub, 1), (25, .invokestatic 76, 3), (28, .ifCond .eq 7, 3), (31, .iconst 0, 1), (32, .goto 4, 3), (35, .iconst 3, 1), (36, .ireturn, 1)]
set_option maxRecDepth 100000 in
theorem dX7_noCell : dOk cX7_noCell tbX7_noCell = true := by decide +kernel
def tbX7_put : dT := [(0, .iload_n 1, 1), (1, .invokestatic 126, 3), (4, .ifCond .eq 9, 3), (7, .aload_n 0, 1), (8, .iconst (-1), 1), (9, .invokevirtual 129, 3), (12, .ireturn, 1), (13, .aload_n 0, 1), (14, .iload_n 1, 1), (15, .iload_n 2, 1), (16, .invokevirtual 237, 3), (19, .ifCond .le 14, 3), (22, .aload_n 0, 1), (23, .aload_n 0, 1), (24, .iload_n 1, 1), (25, .iload_n 2, 1), (26, .invokevirtual 237, 3), (29, .invokevirtual 118, 3), (32, .ireturn, 1), (33, .aload_n 0, 1), (34, .getfield 50, 3), (37, .bipush 60, 2), (39, .iload_n 1, 1), (40, .imul, 1), (41, .iload_n 2, 1), (42, .iadd, 1), (43, .aload_n 0, 1), (44, .getfield 47, 3), (47, .iload_n 1, 1), (48, .iaload, 1), (49, .ifCond .ne 8, 3), (52, .iload_n 3, 1), (53, .i2b, 1), (54, .goto 19, 3), (57, .aload_n 0, 1), (58, .getfield 47, 3), (61, .iload_n 1, 1), (62, .iaload, 1), (63, .iconst 1, 1), (64, .if_icmp .ne 8, 3), (67, .iload_n 3, 1), (68, .i2s, 1), (69, .goto 4, 3), (72, .iload_n 3, 1), (73, .iastore, 1), (74, .aload_n 0, 1), (75, .iconst 1, 1), (76, .invokevirtual 129, 3), (79, .ireturn, 1)]
set_option maxRecDepth 100000 in
theorem dX7_put : dOk cX7_put tbX7_put = true := by decide +kernel
def tbX7_cell : dT := [(0, .aload_n 0, 1), (1, .iconst 0, 1), (2, .putfield 58, 3), (5, .iload_n 1, 1), (6, .invokestatic 126, 3), (9, .ifCond .ne 15, 3), (12, .iload_n 3, 1), (13, .i2l, 1), (14, .lconst 0, 1), (15, .ldc2_w 132, 3), (18, .invokestatic 76, 3), (21, .ifCond .ne 7, 3), (24, .invokestatic 62, 3), (27, .lreturn, 1), (28, .aload_n 0, 1), (29, .getfield 44, 3), (32, .iload_n 1, 1), (33, .iaload, 1), (34, .ifCond .lt 19, 3), (37, .aload_n 0, 1), (38, .getfield 47, 3), (41, .iload_n 1, 1), (42, .iaload, 1), (43, .iload_n 3, 1), (44, .if_icmp .eq 9, 3), (47, .aload_n 0, 1), (48, .iconst 2, 1), (49, .invokevirtual 240, 3), (52, .lreturn, 1), (53, .aload_n 0, 1), (54, .iload_n 1, 1), (55, .iload_n 2, 1), (56, .invokevirtual 237, 3), (59, .ifCond .le 16, 3), (62, .aload_n 0, 1), (63, .aload_n 0, 1), (64, .iload_n 1, 1), (65, .iload_n 2, 1), (66, .invokevirtual 237, 3), (69, .invokevirtual 240, 3), (72, .goto 15, 3), (75, .aload_n 0, 1), (76, .getfield 50, 3), (79, .bipush 60, 2), (81, .iload_n 1, 1), (82, .imul, 1), (83, .iload_n 2, 1), (84, .iadd, 1), (85, .iaload, 1), (86, .i2l, 1), (87, .lreturn, 1)]
set_option maxRecDepth 100000 in
theorem dX7_cell : dOk cX7_cell tbX7_cell = true := by decide +kernel
def tbX7_isBeyond : dT := [(0, .iload_n 0, 1), (1, .ifCond .lt 19, 3), (4, .lload_n 1, 1), (5, .lconst 0, 1), (6, .lcmp, 1), (7, .ifCond .lt 13, 3), (10, .iload_n 0, 1), (11, .i2l, 1), (12, .lload_n 1, 1), (13, .ladd, 1), (14, .iload_n 3, 1), (15, .i2l, 1), (16, .lcmp, 1), (17, .ifCond .le 7, 3), (20, .iconst 1, 1), (21, .goto 4, 3), (24, .iconst 0, 1), (25, .ireturn, 1)]
set_option maxRecDepth 100000 in
theorem dX7_isBeyond : dOk cX7_isBeyond tbX7_isBeyond = true := by decide +kernel
def tbX7_copy : dT := [(0, .iload_n 1, 1), (1, .invokestatic 126, 3), (4, .ifCond .ne 10, 3), (7, .iload_n 3, 1), (8, .invokestatic 126, 3), (11, .ifCond .eq 9, 3), (14, .aload_n 0, 1), (15, .iconst (-1), 1), (16, .invokevirtual 129, 3), (19, .ireturn, 1), (20, .aload_n 0, 1), (21, .getfield 44, 3), (24, .iload_n 1, 1), (25, .iaload, 1), (26, .ifCond .lt 12, 3), (29, .aload_n 0, 1), (30, .getfield 44, 3), (33, .iload_n 3, 1), (34, .iaload, 1), (35, .ifCond .ge 9, 3), (38, .aload_n 0, 1), (39, .iconst 1, 1), (40, .invokevirtual 118, 3), (43, .ireturn, 1), (44, .aload_n 0, 1), (45, .getfield 47, 3), (48, .iload_n 1, 1), (49, .iaload, 1), (50, .aload_n 0, 1), (51, .getfield 47, 3), (54, .iload_n 3, 1), (55, .iaload, 1), (56, .if_icmp .eq 9, 3), (59, .aload_n 0, 1), (60, .iconst 2, 1), (61, .invokevirtual 118, 3), (64, .ireturn, 1), (65, .iload_n 2, 1), (66, .iload 5, 2), (68, .i2l, 1), (69, .aload_n 0, 1), (70, .getfield 44, 3), (73, .iload_n 1, 1), (74, .iaload, 1), (75, .invokestatic 122, 3), (78, .ifCond .ne 20, 3), (81, .iload 4, 2), (83, .iload 5, 2), (85, .i2l, 1), (86, .aload_n 0, 1), (87, .getfield 44, 3), (90, .iload_n 3, 1), (91, .iaload, 1), (92, .invokestatic 122, 3), (95, .ifCond .eq 9, 3), (98, .aload_n 0, 1), (99, .iconst 3, 1), (100, .invokevirtual 118, 3), (103, .ireturn, 1), (104, .iconst 0, 1), (105, .istore 6, 2), (107, .iload 6, 2), (109, .iload 5, 2), (111, .if_icmp .ge 30, 3), (114, .aload_n 0, 1), (115, .getfield 53, 3), (118, .iload 6, 2), (120, .aload_n 0, 1), (121, .getfield 50, 3), (124, .bipush 60, 2), (126, .iload_n 1, 1), (127, .imul, 1), (128, .iload_n 2, 1), (129, .iadd, 1), (130, .iload 6, 2), (132, .iadd, 1), (133, .iaload, 1), (134, .iastore, 1), (135, .iinc 6 1, 3), (138, .goto (-31), 3), (141, .iconst 0, 1), (142, .istore 6, 2), (144, .iload 6, 2), (146, .iload 5, 2), (148, .if_icmp .ge 31, 3), (151, .aload_n 0, 1), (152, .getfield 50, 3), (155, .bipush 60, 2), (157, .iload_n 3, 1), (158, .imul, 1), (159, .iload 4, 2), (161, .iadd, 1), (162, .iload 6, 2), (164, .iadd, 1), (165, .aload_n 0, 1), (166, .getfield 53, 3), (169, .iload 6, 2), (171, .iaload, 1), (172, .iastore, 1), (173, .iinc 6 1, 3), (176, .goto (-32), 3), (179, .aload_n 0, 1), (180, .iload 5, 2), (182, .invokevirtual 129, 3), (185, .ireturn, 1)]
set_option maxRecDepth 100000 in
theorem dX7_copy : dOk cX7_copy tbX7_copy = true := by decide +kernel
def tbX7_traced : dT := [(0, .aload_n 0, 1), (1, .bipush 31, 2), (3, .aload_n 0, 1), (4, .getfield 244, 3), (7, .imul, 1), (8, .iload_n 1, 1), (9, .iadd, 1), (10, .putfield 244, 3), (13, .return_, 1)]
set_option maxRecDepth 100000 in
theorem dX7_traced : dOk cX7_traced tbX7_traced = true := by decide +kernel
def tbX7_tell : dT := [(0, .aload_n 0, 1), (1, .iload_n 1, 1), (2, .invokevirtual 83, 3), (5, .ifCond .eq 5, 3), (8, .iconst (-1), 1), (9, .ireturn, 1), (10, .aload_n 0, 1), (11, .getfield 13, 3), (14, .iload_n 1, 1), (15, .iaload, 1), (16, .istore_n 2, 1), (17, .iload_n 2, 1), (18, .iconst 2, 1), (19, .if_icmp .ne 8, 3), (22, .aload_n 0, 1), (23, .iconst 3, 1), (24, .invokevirtual 247, 3), (27, .iload_n 2, 1), (28, .ifCond .le 8, 3), (31, .aload_n 0, 1), (32, .iconst 2, 1), (33, .invokevirtual 247, 3), (36, .aload_n 0, 1), (37, .iconst 1, 1), (38, .invokevirtual 247, 3), (41, .iload_n 2, 1), (42, .iconst 2, 1), (43, .if_icmp .ne 8, 3), (46, .aload_n 0, 1), (47, .iconst 1, 1), (48, .invokevirtual 247, 3), (51, .aload_n 0, 1), (52, .getfield 16, 3), (55, .iload_n 1, 1), (56, .iaload, 1), (57, .istore_n 3, 1), (58, .iload_n 2, 1), (59, .ifCond .ne 7, 3), (62, .iload_n 3, 1), (63, .goto 21, 3), (66, .iload_n 2, 1), (67, .iconst 1, 1), (68, .if_icmp .ne 10, 3), (71, .iload_n 3, 1), (72, .bipush 100, 2), (74, .iadd, 1), (75, .goto 9, 3), (78, .iconst 2, 1), (79, .iload_n 3, 1), (80, .imul, 1), (81, .bipush 100, 2), (83, .iadd, 1), (84, .ireturn, 1)]
set_option maxRecDepth 100000 in
theorem dX7_tell : dOk cX7_tell tbX7_tell = true := by decide +kernel
def tbX7_signed : dT := [(0, .aload_n 0, 1), (1, .iload_n 1, 1), (2, .invokevirtual 83, 3), (5, .ifCond .eq 5, 3), (8, .iconst (-1), 1), (9, .ireturn, 1), (10, .aload_n 0, 1), (11, .aload_n 0, 1), (12, .getfield 13, 3), (15, .iload_n 1, 1), (16, .iaload, 1), (17, .iconst 2, 1), (18, .if_icmp .ne 7, 3), (21, .iconst 5, 1), (22, .goto 4, 3), (25, .iconst 4, 1), (26, .invokevirtual 247, 3), (29, .aload_n 0, 1), (30, .getfield 13, 3), (33, .iload_n 1, 1), (34, .iaload, 1), (35, .iconst 2, 1), (36, .if_icmp .ne 8, 3), (39, .bipush 60, 2), (41, .goto 4, 3), (44, .iload_n 1, 1), (45, .ireturn, 1)]
set_option maxRecDepth 100000 in
theorem dX7_signed : dOk cX7_signed tbX7_signed = true := by decide +kernel
def tbX7_as : dT := [(0, .aload_n 0, 1), (1, .iload_n 1, 1), (2, .invokevirtual 83, 3), (5, .ifCond .eq 9, 3), (8, .aload_n 0, 1), (9, .iconst (-1), 1), (10, .invokevirtual 129, 3), (13, .ireturn, 1), (14, .iload_n 2, 1), (15, .i2l, 1), (16, .lconst 0, 1), (17, .ldc2_w 132, 3), (20, .invokestatic 76, 3), (23, .ifCond .ne 10, 3), (26, .aload_n 0, 1), (27, .bipush (-2), 2), (29, .invokevirtual 129, 3), (32, .ireturn, 1), (33, .aload_n 0, 1), (34, .getfield 13, 3), (37, .iload_n 1, 1), (38, .iaload, 1), (39, .iload_n 2, 1), (40, .if_icmp .lt 11, 3), (43, .aload_n 0, 1), (44, .iconst 1, 1), (45, .invokevirtual 129, 3), (48, .goto 8, 3), (51, .aload_n 0, 1), (52, .iconst 2, 1), (53, .invokevirtual 118, 3), (56, .ireturn, 1)]
set_option maxRecDepth 100000 in
theorem dX7_as : dOk cX7_as tbX7_as = true := by decide +kernel
def tbX7_trace : dT := [(0, .aload_n 0, 1), (1, .getfield 244, 3), (4, .ireturn, 1)]
set_option maxRecDepth 100000 in
theorem dX7_trace : dOk cX7_trace tbX7_trace = true := by decide +kernel
def tbX7_fault : dT := [(0, .aload_n 0, 1), (1, .getfield 58, 3), (4, .ireturn, 1)]
set_option maxRecDepth 100000 in
theorem dX7_fault : dOk cX7_fault tbX7_fault = true := by decide +kernel
def tbX7_many : dT := [(0, .iload_n 1, 1), (1, .tableswitch 60 0 4 #[35, 40, 45, 50, 55], 35), (36, .aload_n 0, 1), (37, .getfield 80, 3), (40, .ireturn, 1), (41, .aload_n 0, 1), (42, .invokevirtual 72, 3), (45, .ireturn, 1), (46, .aload_n 0, 1), (47, .getfield 69, 3), (50, .ireturn, 1), (51, .aload_n 0, 1), (52, .getfield 141, 3), (55, .ireturn, 1), (56, .aload_n 0, 1), (57, .getfield 144, 3), (60, .ireturn, 1), (61, .bipush (-2), 2), (63, .ireturn, 1)]
set_option maxRecDepth 100000 in
theorem dX7_many : dOk cX7_many tbX7_many = true := by decide +kernel
def tbJ6_bitCount_0f7a4 : dT := [(0, .iload_n 0, 1), (1, .iload_n 0, 1), (2, .iconst 1, 1), (3, .iushr, 1), (4, .ldc_w 265, 3), (7, .iand, 1), (8, .isub, 1), (9, .istore_n 0, 1), (10, .iload_n 0, 1), (11, .ldc_w 266, 3), (14, .iand, 1), (15, .iload_n 0, 1), (16, .iconst 2, 1), (17, .iushr, 1), (18, .ldc_w 266, 3), (21, .iand, 1), (22, .iadd, 1), (23, .istore_n 0, 1), (24, .iload_n 0, 1), (25, .iload_n 0, 1), (26, .iconst 4, 1), (27, .iushr, 1), (28, .iadd, 1), (29, .ldc_w 267, 3), (32, .iand, 1), (33, .istore_n 0, 1), (34, .iload_n 0, 1), (35, .iload_n 0, 1), (36, .bipush 8, 2), (38, .iushr, 1), (39, .iadd, 1), (40, .istore_n 0, 1), (41, .iload_n 0, 1), (42, .iload_n 0, 1), (43, .bipush 16, 2), (45, .iushr, 1), (46, .iadd, 1), (47, .istore_n 0, 1), (48, .iload_n 0, 1), (49, .bipush 63, 2), (51, .iand, 1), (52, .ireturn, 1)]
set_option maxRecDepth 100000 in
theorem dJ6_bitCount_0f7a4 : dOk cJ6_bitCount_0f7a4 tbJ6_bitCount_0f7a4 = true := by decide +kernel
def tbJ9_max_7cf53 : dT := [(0, .iload_n 0, 1), (1, .iload_n 1, 1), (2, .if_icmp .lt 7, 3), (5, .iload_n 0, 1), (6, .goto 4, 3), (9, .iload_n 1, 1), (10, .ireturn, 1)]
set_option maxRecDepth 100000 in
theorem dJ9_max_7cf53 : dOk cJ9_max_7cf53 tbJ9_max_7cf53 = true := by decide +kernel
def tbJ9_min_7cf53 : dT := [(0, .iload_n 0, 1), (1, .iload_n 1, 1), (2, .if_icmp .gt 7, 3), (5, .iload_n 0, 1), (6, .goto 4, 3), (9, .iload_n 1, 1), (10, .ireturn, 1)]
set_option maxRecDepth 100000 in
theorem dJ9_min_7cf53 : dOk cJ9_min_7cf53 tbJ9_min_7cf53 = true := by decide +kernel
def tbJ7_fill_53178 : dT := [(0, .iconst 0, 1), (1, .istore_n 2, 1), (2, .aload_n 0, 1), (3, .arraylength, 1), (4, .istore_n 3, 1), (5, .iload_n 2, 1), (6, .iload_n 3, 1), (7, .if_icmp .ge 13, 3), (10, .aload_n 0, 1), (11, .iload_n 2, 1), (12, .iload_n 1, 1), (13, .iastore, 1), (14, .iinc 2 1, 3), (17, .goto (-12), 3), (20, .return_, 1)]
set_option maxRecDepth 100000 in
theorem dJ7_fill_53178 : dOk cJ7_fill_53178 tbJ7_fill_53178 = true := by decide +kernel
def tbL_law_0 : dT := [(0, .new 7, 3), (3, .dup, 1), (4, .invokespecial 9, 3), (7, .astore_n 1, 1), (8, .new 10, 3), (11, .dup, 1), (12, .invokespecial 12, 3), (15, .astore_n 2, 1), (16, .iconst 0, 1), (17, .istore_n 3, 1), (18, .iload_n 3, 1), (19, .aload_n 0, 1), (20, .arraylength, 1), (21, .bipush 9, 2), (23, .isub, 1), (24, .if_icmp .gt 1320, 3), (27, .aload_n 0, 1), (28, .iload_n 3, 1), (29, .iaload, 1), (30, .bipush 31, 2), (32, .iand, 1), (33, .tableswitch 1305 0 29 #[135, 188, 221, 244, 277, 300, 399, 486, 509, 532, 595, 648, 681, 734, 793, 816, 839, 862, 885, 961, 1004, 1027, 1070, 1114, 1177, 1200, 1223, 1256, 1269, 1282], 135), (168, .aload_n 1, 1), (169, .aload_n 0, 1), (170, .iload_n 3, 1), (171, .iconst 1, 1), (172, .iadd, 1), (173, .iaload, 1), (174, .aload_n 0, 1), (175, .iload_n 3, 1), (176, .iconst 2, 1), (177, .iadd, 1), (178, .iaload, 1), (179, .aload_n 0, 1), (180, .iload_n 3, 1), (181, .iconst 3, 1), (182, .iadd, 1), (183, .iaload, 1), (184, .aload_n 0, 1), (185, .iload_n 3, 1), (186, .iconst 4, 1), (187, .iadd, 1), (188, .iaload, 1), (189, .invokevirtual 13, 3), (192, .aload_n 2, 1), (193, .aload_n 0, 1), (194, .iload_n 3, 1), (195, .iconst 1, 1), (196, .iadd, 1), (197, .iaload, 1), (198, .aload_n 0, 1), (199, .iload_n 3, 1), (200, .iconst 2, 1), (201, .iadd, 1), (202, .iaload, 1), (203, .aload_n 0, 1), (204, .iload_n 3, 1), (205, .iconst 3, 1), (206, .iadd, 1), (207, .iaload, 1), (208, .aload_n 0, 1), (209, .iload_n 3, 1), (210, .iconst 4, 1), (211, .iadd, 1), (212, .iaload, 1), (213, .invokevirtual 17, 3), (216, .if_icmp .eq 1122, 3), (219, .iconst 0, 1), (220, .ireturn, 1), (221, .aload_n 1, 1), (222, .aload_n 0, 1), (223, .iload_n 3, 1), (224, .iconst 1, 1), (225, .iadd, 1), (226, .iaload, 1), (227, .aload_n 0, 1), (228, .iload_n 3, 1), (229, .iconst 2, 1), (230, .iadd, 1), (231, .iaload, 1), (232, .invokevirtual 18, 3), (235, .aload_n 2, 1), (236, .aload_n 0, 1), (237, .iload_n 3, 1), (238, .iconst 1, 1), (239, .iadd, 1), (240, .iaload, 1), (241, .aload_n 0, 1), (242, .iload_n 3, 1), (243, .iconst 2, 1), (244, .iadd, 1), (245, .iaload, 1), (246, .invokevirtual 22, 3), (249, .if_icmp .eq 1089, 3), (252, .iconst 0, 1), (253, .ireturn, 1), (254, .aload_n 1, 1), (255, .aload_n 0, 1), (256, .iload_n 3, 1), (257, .iconst 1, 1), (258, .iadd, 1), (259, .iaload, 1), (260, .invokevirtual 23, 3), (263, .aload_n 2, 1), (264, .aload_n 0, 1), (265, .iload_n 3, 1), (266, .iconst 1, 1), (267, .iadd, 1), (268, .iaload, 1), (269, .invokevirtual 27, 3), (272, .if_icmp .eq 1066, 3), (275, .iconst 0, 1), (276, .ireturn, 1), (277, .aload_n 1, 1), (278, .aload_n 0, 1), (279, .iload_n 3, 1), (280, .iconst 1, 1), (281, .iadd, 1), (282, .iaload, 1), (283, .aload_n 0, 1)]
set_option maxRecDepth 100000 in
theorem dL_law_0 : dOk cL_law tbL_law_0 = true := by decide +kernel
def tbL_law_1 : dT := [(284, .iload_n 3, 1), (285, .iconst 2, 1), (286, .iadd, 1), (287, .iaload, 1), (288, .invokevirtual 28, 3), (291, .aload_n 2, 1), (292, .aload_n 0, 1), (293, .iload_n 3, 1), (294, .iconst 1, 1), (295, .iadd, 1), (296, .iaload, 1), (297, .aload_n 0, 1), (298, .iload_n 3, 1), (299, .iconst 2, 1), (300, .iadd, 1), (301, .iaload, 1), (302, .invokevirtual 31, 3), (305, .if_icmp .eq 1033, 3), (308, .iconst 0, 1), (309, .ireturn, 1), (310, .aload_n 1, 1), (311, .aload_n 0, 1), (312, .iload_n 3, 1), (313, .iconst 1, 1), (314, .iadd, 1), (315, .iaload, 1), (316, .invokevirtual 32, 3), (319, .aload_n 2, 1), (320, .aload_n 0, 1), (321, .iload_n 3, 1), (322, .iconst 1, 1), (323, .iadd, 1), (324, .iaload, 1), (325, .invokevirtual 35, 3), (328, .if_icmp .eq 1010, 3), (331, .iconst 0, 1), (332, .ireturn, 1), (333, .aload_n 1, 1), (334, .aload_n 0, 1), (335, .iload_n 3, 1), (336, .iconst 1, 1), (337, .iadd, 1), (338, .iaload, 1), (339, .aload_n 0, 1), (340, .iload_n 3, 1), (341, .iconst 2, 1), (342, .iadd, 1), (343, .iaload, 1), (344, .aload_n 0, 1), (345, .iload_n 3, 1), (346, .iconst 3, 1), (347, .iadd, 1), (348, .iaload, 1), (349, .aload_n 0, 1), (350, .iload_n 3, 1), (351, .iconst 4, 1), (352, .iadd, 1), (353, .iaload, 1), (354, .aload_n 0, 1), (355, .iload_n 3, 1), (356, .iconst 5, 1), (357, .iadd, 1), (358, .iaload, 1), (359, .aload_n 0, 1), (360, .iload_n 3, 1), (361, .bipush 6, 2), (363, .iadd, 1), (364, .iaload, 1), (365, .aload_n 0, 1), (366, .iload_n 3, 1), (367, .bipush 7, 2), (369, .iadd, 1), (370, .iaload, 1), (371, .aload_n 0, 1), (372, .iload_n 3, 1), (373, .bipush 8, 2), (375, .iadd, 1), (376, .iaload, 1), (377, .invokevirtual 36, 3), (380, .aload_n 2, 1), (381, .aload_n 0, 1), (382, .iload_n 3, 1), (383, .iconst 1, 1), (384, .iadd, 1), (385, .iaload, 1), (386, .aload_n 0, 1), (387, .iload_n 3, 1), (388, .iconst 2, 1), (389, .iadd, 1), (390, .iaload, 1), (391, .aload_n 0, 1), (392, .iload_n 3, 1), (393, .iconst 3, 1), (394, .iadd, 1), (395, .iaload, 1), (396, .aload_n 0, 1), (397, .iload_n 3, 1), (398, .iconst 4, 1), (399, .iadd, 1), (400, .iaload, 1), (401, .aload_n 0, 1), (402, .iload_n 3, 1), (403, .iconst 5, 1), (404, .iadd, 1), (405, .iaload, 1), (406, .aload_n 0, 1), (407, .iload_n 3, 1), (408, .bipush 6, 2), (410, .iadd, 1), (411, .iaload, 1), (412, .aload_n 0, 1), (413, .iload_n 3, 1), (414, .bipush 7, 2), (416, .iadd, 1), (417, .iaload, 1), (418, .aload_n 0, 1), (419, .iload_n 3, 1), (420, .bipush 8, 2), (422, .iadd, 1), (423, .iaload, 1)]
set_option maxRecDepth 100000 in
theorem dL_law_1 : dOk cL_law tbL_law_1 = true := by decide +kernel
def tbL_law_2 : dT := [(424, .invokevirtual 40, 3), (427, .if_icmp .eq 911, 3), (430, .iconst 0, 1), (431, .ireturn, 1), (432, .aload_n 1, 1), (433, .aload_n 0, 1), (434, .iload_n 3, 1), (435, .iconst 1, 1), (436, .iadd, 1), (437, .iaload, 1), (438, .aload_n 0, 1), (439, .iload_n 3, 1), (440, .iconst 2, 1), (441, .iadd, 1), (442, .iaload, 1), (443, .aload_n 0, 1), (444, .iload_n 3, 1), (445, .iconst 3, 1), (446, .iadd, 1), (447, .iaload, 1), (448, .aload_n 0, 1), (449, .iload_n 3, 1), (450, .iconst 4, 1), (451, .iadd, 1), (452, .iaload, 1), (453, .aload_n 0, 1), (454, .iload_n 3, 1), (455, .iconst 5, 1), (456, .iadd, 1), (457, .iaload, 1), (458, .aload_n 0, 1), (459, .iload_n 3, 1), (460, .bipush 6, 2), (462, .iadd, 1), (463, .iaload, 1), (464, .aload_n 0, 1), (465, .iload_n 3, 1), (466, .bipush 7, 2), (468, .iadd, 1), (469, .iaload, 1), (470, .invokevirtual 41, 3), (473, .aload_n 2, 1), (474, .aload_n 0, 1), (475, .iload_n 3, 1), (476, .iconst 1, 1), (477, .iadd, 1), (478, .iaload, 1), (479, .aload_n 0, 1), (480, .iload_n 3, 1), (481, .iconst 2, 1), (482, .iadd, 1), (483, .iaload, 1), (484, .aload_n 0, 1), (485, .iload_n 3, 1), (486, .iconst 3, 1), (487, .iadd, 1), (488, .iaload, 1), (489, .aload_n 0, 1), (490, .iload_n 3, 1), (491, .iconst 4, 1), (492, .iadd, 1), (493, .iaload, 1), (494, .aload_n 0, 1), (495, .iload_n 3, 1), (496, .iconst 5, 1), (497, .iadd, 1), (498, .iaload, 1), (499, .aload_n 0, 1), (500, .iload_n 3, 1), (501, .bipush 6, 2), (503, .iadd, 1), (504, .iaload, 1), (505, .aload_n 0, 1), (506, .iload_n 3, 1), (507, .bipush 7, 2), (509, .iadd, 1), (510, .iaload, 1), (511, .invokevirtual 45, 3), (514, .if_icmp .eq 824, 3), (517, .iconst 0, 1), (518, .ireturn, 1), (519, .aload_n 1, 1), (520, .aload_n 0, 1), (521, .iload_n 3, 1), (522, .iconst 1, 1), (523, .iadd, 1), (524, .iaload, 1), (525, .invokevirtual 46, 3), (528, .aload_n 2, 1), (529, .aload_n 0, 1), (530, .iload_n 3, 1), (531, .iconst 1, 1), (532, .iadd, 1), (533, .iaload, 1), (534, .invokevirtual 49, 3), (537, .if_icmp .eq 801, 3), (540, .iconst 0, 1), (541, .ireturn, 1), (542, .aload_n 1, 1), (543, .aload_n 0, 1), (544, .iload_n 3, 1), (545, .iconst 1, 1), (546, .iadd, 1), (547, .iaload, 1), (548, .invokevirtual 50, 3), (551, .aload_n 2, 1), (552, .aload_n 0, 1), (553, .iload_n 3, 1), (554, .iconst 1, 1), (555, .iadd, 1), (556, .iaload, 1), (557, .invokevirtual 53, 3), (560, .if_icmp .eq 778, 3), (563, .iconst 0, 1), (564, .ireturn, 1), (565, .aload_n 1, 1), (566, .aload_n 0, 1), (567, .iload_n 3, 1), (568, .iconst 1, 1), (569, .iadd, 1)]
set_option maxRecDepth 100000 in
theorem dL_law_2 : dOk cL_law tbL_law_2 = true := by decide +kernel
def tbL_law_3 : dT := [(570, .iaload, 1), (571, .aload_n 0, 1), (572, .iload_n 3, 1), (573, .iconst 2, 1), (574, .iadd, 1), (575, .iaload, 1), (576, .aload_n 0, 1), (577, .iload_n 3, 1), (578, .iconst 3, 1), (579, .iadd, 1), (580, .iaload, 1), (581, .aload_n 0, 1), (582, .iload_n 3, 1), (583, .iconst 4, 1), (584, .iadd, 1), (585, .iaload, 1), (586, .aload_n 0, 1), (587, .iload_n 3, 1), (588, .iconst 5, 1), (589, .iadd, 1), (590, .iaload, 1), (591, .invokevirtual 54, 3), (594, .aload_n 2, 1), (595, .aload_n 0, 1), (596, .iload_n 3, 1), (597, .iconst 1, 1), (598, .iadd, 1), (599, .iaload, 1), (600, .aload_n 0, 1), (601, .iload_n 3, 1), (602, .iconst 2, 1), (603, .iadd, 1), (604, .iaload, 1), (605, .aload_n 0, 1), (606, .iload_n 3, 1), (607, .iconst 3, 1), (608, .iadd, 1), (609, .iaload, 1), (610, .aload_n 0, 1), (611, .iload_n 3, 1), (612, .iconst 4, 1), (613, .iadd, 1), (614, .iaload, 1), (615, .aload_n 0, 1), (616, .iload_n 3, 1), (617, .iconst 5, 1), (618, .iadd, 1), (619, .iaload, 1), (620, .invokevirtual 58, 3), (623, .if_icmp .eq 715, 3), (626, .iconst 0, 1), (627, .ireturn, 1), (628, .aload_n 1, 1), (629, .aload_n 0, 1), (630, .iload_n 3, 1), (631, .iconst 1, 1), (632, .iadd, 1), (633, .iaload, 1), (634, .aload_n 0, 1), (635, .iload_n 3, 1), (636, .iconst 2, 1), (637, .iadd, 1), (638, .iaload, 1), (639, .aload_n 0, 1), (640, .iload_n 3, 1), (641, .iconst 3, 1), (642, .iadd, 1), (643, .iaload, 1), (644, .aload_n 0, 1), (645, .iload_n 3, 1), (646, .iconst 4, 1), (647, .iadd, 1), (648, .iaload, 1), (649, .invokevirtual 59, 3), (652, .aload_n 2, 1), (653, .aload_n 0, 1), (654, .iload_n 3, 1), (655, .iconst 1, 1), (656, .iadd, 1), (657, .iaload, 1), (658, .aload_n 0, 1), (659, .iload_n 3, 1), (660, .iconst 2, 1), (661, .iadd, 1), (662, .iaload, 1), (663, .aload_n 0, 1), (664, .iload_n 3, 1), (665, .iconst 3, 1), (666, .iadd, 1), (667, .iaload, 1), (668, .aload_n 0, 1), (669, .iload_n 3, 1), (670, .iconst 4, 1), (671, .iadd, 1), (672, .iaload, 1), (673, .invokevirtual 62, 3), (676, .if_icmp .eq 662, 3), (679, .iconst 0, 1), (680, .ireturn, 1), (681, .aload_n 1, 1), (682, .aload_n 0, 1), (683, .iload_n 3, 1), (684, .iconst 1, 1), (685, .iadd, 1), (686, .iaload, 1), (687, .aload_n 0, 1), (688, .iload_n 3, 1), (689, .iconst 2, 1), (690, .iadd, 1), (691, .iaload, 1), (692, .invokevirtual 63, 3), (695, .aload_n 2, 1), (696, .aload_n 0, 1), (697, .iload_n 3, 1), (698, .iconst 1, 1), (699, .iadd, 1), (700, .iaload, 1), (701, .aload_n 0, 1), (702, .iload_n 3, 1), (703, .iconst 2, 1)]
set_option maxRecDepth 100000 in
theorem dL_law_3 : dOk cL_law tbL_law_3 = true := by decide +kernel
def tbL_law_4 : dT := [(704, .iadd, 1), (705, .iaload, 1), (706, .invokevirtual 66, 3), (709, .if_icmp .eq 629, 3), (712, .iconst 0, 1), (713, .ireturn, 1), (714, .aload_n 1, 1), (715, .aload_n 0, 1), (716, .iload_n 3, 1), (717, .iconst 1, 1), (718, .iadd, 1), (719, .iaload, 1), (720, .aload_n 0, 1), (721, .iload_n 3, 1), (722, .iconst 2, 1), (723, .iadd, 1), (724, .iaload, 1), (725, .aload_n 0, 1), (726, .iload_n 3, 1), (727, .iconst 3, 1), (728, .iadd, 1), (729, .iaload, 1), (730, .aload_n 0, 1), (731, .iload_n 3, 1), (732, .iconst 4, 1), (733, .iadd, 1), (734, .iaload, 1), (735, .invokevirtual 67, 3), (738, .aload_n 2, 1), (739, .aload_n 0, 1), (740, .iload_n 3, 1), (741, .iconst 1, 1), (742, .iadd, 1), (743, .iaload, 1), (744, .aload_n 0, 1), (745, .iload_n 3, 1), (746, .iconst 2, 1), (747, .iadd, 1), (748, .iaload, 1), (749, .aload_n 0, 1), (750, .iload_n 3, 1), (751, .iconst 3, 1), (752, .iadd, 1), (753, .iaload, 1), (754, .aload_n 0, 1), (755, .iload_n 3, 1), (756, .iconst 4, 1), (757, .iadd, 1), (758, .iaload, 1), (759, .invokevirtual 70, 3), (762, .if_icmp .eq 576, 3), (765, .iconst 0, 1), (766, .ireturn, 1), (767, .aload_n 1, 1), (768, .aload_n 0, 1), (769, .iload_n 3, 1), (770, .iconst 1, 1), (771, .iadd, 1), (772, .iaload, 1), (773, .aload_n 0, 1), (774, .iload_n 3, 1), (775, .iconst 2, 1), (776, .iadd, 1), (777, .iaload, 1), (778, .aload_n 0, 1), (779, .iload_n 3, 1), (780, .iconst 3, 1), (781, .iadd, 1), (782, .iaload, 1), (783, .ifCond .eq 7, 3), (786, .iconst 1, 1), (787, .goto 4, 3), (790, .iconst 0, 1), (791, .invokevirtual 71, 3), (794, .aload_n 2, 1), (795, .aload_n 0, 1), (796, .iload_n 3, 1), (797, .iconst 1, 1), (798, .iadd, 1), (799, .iaload, 1), (800, .aload_n 0, 1), (801, .iload_n 3, 1), (802, .iconst 2, 1), (803, .iadd, 1), (804, .iaload, 1), (805, .aload_n 0, 1), (806, .iload_n 3, 1), (807, .iconst 3, 1), (808, .iadd, 1), (809, .iaload, 1), (810, .ifCond .eq 7, 3), (813, .iconst 1, 1), (814, .goto 4, 3), (817, .iconst 0, 1), (818, .invokevirtual 75, 3), (821, .if_icmp .eq 517, 3), (824, .iconst 0, 1), (825, .ireturn, 1), (826, .aload_n 1, 1), (827, .aload_n 0, 1), (828, .iload_n 3, 1), (829, .iconst 1, 1), (830, .iadd, 1), (831, .iaload, 1), (832, .invokevirtual 76, 3), (835, .aload_n 2, 1), (836, .aload_n 0, 1), (837, .iload_n 3, 1), (838, .iconst 1, 1), (839, .iadd, 1), (840, .iaload, 1), (841, .invokevirtual 79, 3), (844, .if_icmp .eq 494, 3), (847, .iconst 0, 1), (848, .ireturn, 1), (849, .aload_n 1, 1), (850, .aload_n 0, 1), (851, .iload_n 3, 1), (852, .iconst 1, 1), (853, .iadd, 1)]
set_option maxRecDepth 100000 in
theorem dL_law_4 : dOk cL_law tbL_law_4 = true := by decide +kernel
def tbL_law_5 : dT := [(854, .iaload, 1), (855, .invokevirtual 80, 3), (858, .aload_n 2, 1), (859, .aload_n 0, 1), (860, .iload_n 3, 1), (861, .iconst 1, 1), (862, .iadd, 1), (863, .iaload, 1), (864, .invokevirtual 83, 3), (867, .if_icmp .eq 471, 3), (870, .iconst 0, 1), (871, .ireturn, 1), (872, .aload_n 1, 1), (873, .aload_n 0, 1), (874, .iload_n 3, 1), (875, .iconst 1, 1), (876, .iadd, 1), (877, .iaload, 1), (878, .invokevirtual 84, 3), (881, .aload_n 2, 1), (882, .aload_n 0, 1), (883, .iload_n 3, 1), (884, .iconst 1, 1), (885, .iadd, 1), (886, .iaload, 1), (887, .invokevirtual 87, 3), (890, .if_icmp .eq 448, 3), (893, .iconst 0, 1), (894, .ireturn, 1), (895, .aload_n 1, 1), (896, .aload_n 0, 1), (897, .iload_n 3, 1), (898, .iconst 1, 1), (899, .iadd, 1), (900, .iaload, 1), (901, .invokevirtual 88, 3), (904, .aload_n 2, 1), (905, .aload_n 0, 1), (906, .iload_n 3, 1), (907, .iconst 1, 1), (908, .iadd, 1), (909, .iaload, 1), (910, .invokevirtual 91, 3), (913, .if_icmp .eq 425, 3), (916, .iconst 0, 1), (917, .ireturn, 1), (918, .aload_n 1, 1), (919, .aload_n 0, 1), (920, .iload_n 3, 1), (921, .iconst 1, 1), (922, .iadd, 1), (923, .iaload, 1), (924, .aload_n 0, 1), (925, .iload_n 3, 1), (926, .iconst 2, 1), (927, .iadd, 1), (928, .iaload, 1), (929, .aload_n 0, 1), (930, .iload_n 3, 1), (931, .iconst 3, 1), (932, .iadd, 1), (933, .iaload, 1), (934, .aload_n 0, 1), (935, .iload_n 3, 1), (936, .iconst 4, 1), (937, .iadd, 1), (938, .iaload, 1), (939, .aload_n 0, 1), (940, .iload_n 3, 1), (941, .iconst 5, 1), (942, .iadd, 1), (943, .iaload, 1), (944, .aload_n 0, 1), (945, .iload_n 3, 1), (946, .bipush 6, 2), (948, .iadd, 1), (949, .iaload, 1), (950, .invokevirtual 92, 3), (953, .aload_n 2, 1), (954, .aload_n 0, 1), (955, .iload_n 3, 1), (956, .iconst 1, 1), (957, .iadd, 1), (958, .iaload, 1), (959, .aload_n 0, 1), (960, .iload_n 3, 1), (961, .iconst 2, 1), (962, .iadd, 1), (963, .iaload, 1), (964, .aload_n 0, 1), (965, .iload_n 3, 1), (966, .iconst 3, 1), (967, .iadd, 1), (968, .iaload, 1), (969, .aload_n 0, 1), (970, .iload_n 3, 1), (971, .iconst 4, 1), (972, .iadd, 1), (973, .iaload, 1), (974, .aload_n 0, 1), (975, .iload_n 3, 1), (976, .iconst 5, 1), (977, .iadd, 1), (978, .iaload, 1), (979, .aload_n 0, 1), (980, .iload_n 3, 1), (981, .bipush 6, 2), (983, .iadd, 1), (984, .iaload, 1), (985, .invokevirtual 96, 3), (988, .lcmp, 1), (989, .ifCond .eq 349, 3), (992, .iconst 0, 1), (993, .ireturn, 1), (994, .aload_n 1, 1), (995, .aload_n 0, 1), (996, .iload_n 3, 1), (997, .iconst 1, 1), (998, .iadd, 1), (999, .iaload, 1)]
set_option maxRecDepth 100000 in
theorem dL_law_5 : dOk cL_law tbL_law_5 = true := by decide +kernel
def tbL_law_6 : dT := [(1000, .aload_n 0, 1), (1001, .iload_n 3, 1), (1002, .iconst 2, 1), (1003, .iadd, 1), (1004, .iaload, 1), (1005, .aload_n 0, 1), (1006, .iload_n 3, 1), (1007, .iconst 3, 1), (1008, .iadd, 1), (1009, .iaload, 1), (1010, .invokevirtual 97, 3), (1013, .aload_n 2, 1), (1014, .aload_n 0, 1), (1015, .iload_n 3, 1), (1016, .iconst 1, 1), (1017, .iadd, 1), (1018, .iaload, 1), (1019, .aload_n 0, 1), (1020, .iload_n 3, 1), (1021, .iconst 2, 1), (1022, .iadd, 1), (1023, .iaload, 1), (1024, .aload_n 0, 1), (1025, .iload_n 3, 1), (1026, .iconst 3, 1), (1027, .iadd, 1), (1028, .iaload, 1), (1029, .invokevirtual 101, 3), (1032, .if_icmp .eq 306, 3), (1035, .iconst 0, 1), (1036, .ireturn, 1), (1037, .aload_n 1, 1), (1038, .aload_n 0, 1), (1039, .iload_n 3, 1), (1040, .iconst 1, 1), (1041, .iadd, 1), (1042, .iaload, 1), (1043, .invokevirtual 102, 3), (1046, .aload_n 2, 1), (1047, .aload_n 0, 1), (1048, .iload_n 3, 1), (1049, .iconst 1, 1), (1050, .iadd, 1), (1051, .iaload, 1), (1052, .invokevirtual 105, 3), (1055, .if_icmp .eq 283, 3), (1058, .iconst 0, 1), (1059, .ireturn, 1), (1060, .aload_n 1, 1), (1061, .aload_n 0, 1), (1062, .iload_n 3, 1), (1063, .iconst 1, 1), (1064, .iadd, 1), (1065, .iaload, 1), (1066, .aload_n 0, 1), (1067, .iload_n 3, 1), (1068, .iconst 2, 1), (1069, .iadd, 1), (1070, .iaload, 1), (1071, .aload_n 0, 1), (1072, .iload_n 3, 1), (1073, .iconst 3, 1), (1074, .iadd, 1), (1075, .iaload, 1), (1076, .invokevirtual 106, 3), (1079, .aload_n 2, 1), (1080, .aload_n 0, 1), (1081, .iload_n 3, 1), (1082, .iconst 1, 1), (1083, .iadd, 1), (1084, .iaload, 1), (1085, .aload_n 0, 1), (1086, .iload_n 3, 1), (1087, .iconst 2, 1), (1088, .iadd, 1), (1089, .iaload, 1), (1090, .aload_n 0, 1), (1091, .iload_n 3, 1), (1092, .iconst 3, 1), (1093, .iadd, 1), (1094, .iaload, 1), (1095, .invokevirtual 109, 3), (1098, .if_icmp .eq 240, 3), (1101, .iconst 0, 1), (1102, .ireturn, 1), (1103, .aload_n 1, 1), (1104, .aload_n 0, 1), (1105, .iload_n 3, 1), (1106, .iconst 1, 1), (1107, .iadd, 1), (1108, .iaload, 1), (1109, .aload_n 0, 1), (1110, .iload_n 3, 1), (1111, .iconst 2, 1), (1112, .iadd, 1), (1113, .iaload, 1), (1114, .aload_n 0, 1), (1115, .iload_n 3, 1), (1116, .iconst 3, 1), (1117, .iadd, 1), (1118, .iaload, 1), (1119, .invokevirtual 110, 3), (1122, .aload_n 2, 1), (1123, .aload_n 0, 1), (1124, .iload_n 3, 1), (1125, .iconst 1, 1), (1126, .iadd, 1), (1127, .iaload, 1), (1128, .aload_n 0, 1), (1129, .iload_n 3, 1), (1130, .iconst 2, 1), (1131, .iadd, 1), (1132, .iaload, 1), (1133, .aload_n 0, 1), (1134, .iload_n 3, 1), (1135, .iconst 3, 1), (1136, .iadd, 1), (1137, .iaload, 1), (1138, .invokevirtual 114, 3), (1141, .lcmp, 1)]
set_option maxRecDepth 100000 in
theorem dL_law_6 : dOk cL_law tbL_law_6 = true := by decide +kernel
def tbL_law_7 : dT := [(1142, .ifCond .eq 196, 3), (1145, .iconst 0, 1), (1146, .ireturn, 1), (1147, .aload_n 1, 1), (1148, .aload_n 0, 1), (1149, .iload_n 3, 1), (1150, .iconst 1, 1), (1151, .iadd, 1), (1152, .iaload, 1), (1153, .aload_n 0, 1), (1154, .iload_n 3, 1), (1155, .iconst 2, 1), (1156, .iadd, 1), (1157, .iaload, 1), (1158, .aload_n 0, 1), (1159, .iload_n 3, 1), (1160, .iconst 3, 1), (1161, .iadd, 1), (1162, .iaload, 1), (1163, .aload_n 0, 1), (1164, .iload_n 3, 1), (1165, .iconst 4, 1), (1166, .iadd, 1), (1167, .iaload, 1), (1168, .aload_n 0, 1), (1169, .iload_n 3, 1), (1170, .iconst 5, 1), (1171, .iadd, 1), (1172, .iaload, 1), (1173, .invokevirtual 115, 3), (1176, .aload_n 2, 1), (1177, .aload_n 0, 1), (1178, .iload_n 3, 1), (1179, .iconst 1, 1), (1180, .iadd, 1), (1181, .iaload, 1), (1182, .aload_n 0, 1), (1183, .iload_n 3, 1), (1184, .iconst 2, 1), (1185, .iadd, 1), (1186, .iaload, 1), (1187, .aload_n 0, 1), (1188, .iload_n 3, 1), (1189, .iconst 3, 1), (1190, .iadd, 1), (1191, .iaload, 1), (1192, .aload_n 0, 1), (1193, .iload_n 3, 1), (1194, .iconst 4, 1), (1195, .iadd, 1), (1196, .iaload, 1), (1197, .aload_n 0, 1), (1198, .iload_n 3, 1), (1199, .iconst 5, 1), (1200, .iadd, 1), (1201, .iaload, 1), (1202, .invokevirtual 118, 3), (1205, .if_icmp .eq 133, 3), (1208, .iconst 0, 1), (1209, .ireturn, 1), (1210, .aload_n 1, 1), (1211, .aload_n 0, 1), (1212, .iload_n 3, 1), (1213, .iconst 1, 1), (1214, .iadd, 1), (1215, .iaload, 1), (1216, .invokevirtual 119, 3), (1219, .aload_n 2, 1), (1220, .aload_n 0, 1), (1221, .iload_n 3, 1), (1222, .iconst 1, 1), (1223, .iadd, 1), (1224, .iaload, 1), (1225, .invokevirtual 122, 3), (1228, .if_icmp .eq 110, 3), (1231, .iconst 0, 1), (1232, .ireturn, 1), (1233, .aload_n 1, 1), (1234, .aload_n 0, 1), (1235, .iload_n 3, 1), (1236, .iconst 1, 1), (1237, .iadd, 1), (1238, .iaload, 1), (1239, .invokevirtual 123, 3), (1242, .aload_n 2, 1), (1243, .aload_n 0, 1), (1244, .iload_n 3, 1), (1245, .iconst 1, 1), (1246, .iadd, 1), (1247, .iaload, 1), (1248, .invokevirtual 126, 3), (1251, .if_icmp .eq 87, 3), (1254, .iconst 0, 1), (1255, .ireturn, 1), (1256, .aload_n 1, 1), (1257, .aload_n 0, 1), (1258, .iload_n 3, 1), (1259, .iconst 1, 1), (1260, .iadd, 1), (1261, .iaload, 1), (1262, .aload_n 0, 1), (1263, .iload_n 3, 1), (1264, .iconst 2, 1), (1265, .iadd, 1), (1266, .iaload, 1), (1267, .invokevirtual 127, 3), (1270, .aload_n 2, 1), (1271, .aload_n 0, 1), (1272, .iload_n 3, 1), (1273, .iconst 1, 1), (1274, .iadd, 1), (1275, .iaload, 1), (1276, .aload_n 0, 1), (1277, .iload_n 3, 1), (1278, .iconst 2, 1), (1279, .iadd, 1), (1280, .iaload, 1), (1281, .invokevirtual 130, 3), (1284, .if_icmp .eq 54, 3), (1287, .iconst 0, 1)]
set_option maxRecDepth 100000 in
theorem dL_law_7 : dOk cL_law tbL_law_7 = true := by decide +kernel
def tbL_law_8 : dT := [(1288, .ireturn, 1), (1289, .aload_n 1, 1), (1290, .invokevirtual 131, 3), (1293, .aload_n 2, 1), (1294, .invokevirtual 135, 3), (1297, .if_icmp .eq 41, 3), (1300, .iconst 0, 1), (1301, .ireturn, 1), (1302, .aload_n 1, 1), (1303, .invokevirtual 136, 3), (1306, .aload_n 2, 1), (1307, .invokevirtual 139, 3), (1310, .if_icmp .eq 28, 3), (1313, .iconst 0, 1), (1314, .ireturn, 1), (1315, .aload_n 1, 1), (1316, .aload_n 0, 1), (1317, .iload_n 3, 1), (1318, .iconst 1, 1), (1319, .iadd, 1), (1320, .iaload, 1), (1321, .invokevirtual 140, 3), (1324, .aload_n 2, 1), (1325, .aload_n 0, 1), (1326, .iload_n 3, 1), (1327, .iconst 1, 1), (1328, .iadd, 1), (1329, .iaload, 1), (1330, .invokevirtual 143, 3), (1333, .if_icmp .eq 5, 3), (1336, .iconst 0, 1), (1337, .ireturn, 1), (1338, .iinc 3 9, 3), (1341, .goto (-1323), 3), (1344, .iconst 1, 1), (1345, .ireturn, 1)]
set_option maxRecDepth 100000 in
theorem dL_law_8 : dOk cL_law tbL_law_8 = true := by decide +kernel
/-! ===== END printed: names ===== -/
