def RX0 : String := "CauldronTypes$Book"
def TX0 : u_T := fun k => match k with
  | 0 => ("CauldronTypes$Book", "cauldrons", "I", false)
  | 1 => ("CauldronTypes$Book", "isBroth", "[Z", true)
  | 2 => ("CauldronTypes$Book", "low", "[I", true)
  | 3 => ("CauldronTypes$Book", "high", "[I", true)
  | 4 => ("CauldronTypes$Book", "contents", "LCauldronTypes$Contents;", true)
  | 5 => ("CauldronTypes$Book", "storesIn", "[I", true)
  | 6 => ("CauldronTypes$Book", "spells", "I", false)
  | 7 => ("CauldronTypes$Book", "texts", "[LCauldronTypes$Spell;", true)
  | 8 => ("CauldronTypes$Book", "cooked", "[I", true)
  | 9 => ("CauldronTypes$Book", "cookedSoFar", "I", false)
  | _ => ("CauldronTypes$Book", "storesSoFar", "I", false)
def tyX0 : Nat → FieldType := fun k => match k with
  | 0 => .int
  | 1 => .array .boolean
  | 2 => .array .int
  | 3 => .array .int
  | 4 => .object "CauldronTypes$Contents"
  | 5 => .array .int
  | 6 => .int
  | 7 => .array (.object "CauldronTypes$Spell")
  | 8 => .array .int
  | 9 => .int
  | _ => .int
abbrev wsX00 : List Cond := u_ws RX0 TX0 11
theorem nmX0 : ∀ a, a < 11 → ∀ b, b < 11 → a ≠ b → (TX0 a).2.1 ≠ (TX0 b).2.1 := by decide +kernel
theorem tyX0_ok : ∀ k, k < 11 → parseFieldDescriptor (TX0 k).2.2.1 = some (tyX0 k) := by decide +kernel
abbrev cX0_init : ByteArray := prog_2_method_1_code
def yX0_init : MethodName := ⟨RX0, "<init>", "()V"⟩
abbrev cX0_copy : ByteArray := prog_2_method_2_code
def yX0_copy : MethodName := ⟨RX0, "copy", "(LCauldronTypes$Book;)V"⟩
abbrev cX0_setUp : ByteArray := prog_2_method_3_code
def yX0_setUp : MethodName := ⟨RX0, "setUp", "(ZII)I"⟩
abbrev cX0_holds : ByteArray := prog_2_method_4_code
def yX0_holds : MethodName := ⟨RX0, "holds", "(IJ)Z"⟩
abbrev cX0_cutContent : ByteArray := prog_2_method_5_code
def yX0_cutContent : MethodName := ⟨RX0, "cutContent", "(I)I"⟩
abbrev cX0_cauldronsOfBroth : ByteArray := prog_2_method_6_code
def yX0_cauldronsOfBroth : MethodName := ⟨RX0, "cauldronsOfBroth", "()I"⟩
abbrev cX0_allDrams : ByteArray := prog_2_method_7_code
def yX0_allDrams : MethodName := ⟨RX0, "allDrams", "()I"⟩
abbrev cX0_spellAt : ByteArray := prog_2_method_8_code
def yX0_spellAt : MethodName := ⟨RX0, "spellAt", "(I)LCauldronTypes$Spell;"⟩
abbrev cX0_putDown : ByteArray := prog_2_method_9_code
def yX0_putDown : MethodName := ⟨RX0, "putDown", "(LCauldronTypes$Spell;)I"⟩
abbrev cX0_strikeOut : ByteArray := prog_2_method_10_code
def yX0_strikeOut : MethodName := ⟨RX0, "strikeOut", "(I)V"⟩
abbrev cX0_settle : ByteArray := prog_2_method_11_code
def yX0_settle : MethodName := ⟨RX0, "settle", "(ILCauldronTypes$Cooking;)V"⟩
abbrev cX0_spellsThat : ByteArray := prog_2_method_12_code
def yX0_spellsThat : MethodName := ⟨RX0, "spellsThat", "(II)I"⟩
abbrev cX0_spellsAhead : ByteArray := prog_2_method_13_code
def yX0_spellsAhead : MethodName := ⟨RX0, "spellsAhead", "(I)I"⟩
abbrev cX0_comesAhead : ByteArray := prog_2_method_14_code
def yX0_comesAhead : MethodName := ⟨RX0, "comesAhead", "(II)Z"⟩
def RX1 : String := "CauldronTypes$Contents"
def TX1 : u_T := fun k => match k with
  | 0 => ("CauldronTypes$Contents", "many", "[I", true)
  | _ => ("CauldronTypes$Contents", "much", "[F", true)
def tyX1 : Nat → FieldType := fun k => match k with
  | 0 => .array .int
  | _ => .array .float
abbrev wsX10 : List Cond := u_ws RX1 TX1 2
theorem nmX1 : ∀ a, a < 2 → ∀ b, b < 2 → a ≠ b → (TX1 a).2.1 ≠ (TX1 b).2.1 := by decide +kernel
theorem tyX1_ok : ∀ k, k < 2 → parseFieldDescriptor (TX1 k).2.2.1 = some (tyX1 k) := by decide +kernel
abbrev cX1_init : ByteArray := prog_3_method_1_code
def yX1_init : MethodName := ⟨RX1, "<init>", "()V"⟩
abbrev cX1_copy : ByteArray := prog_3_method_2_code
def yX1_copy : MethodName := ⟨RX1, "copy", "(LCauldronTypes$Contents;)V"⟩
abbrev cX1_cut : ByteArray := prog_3_method_3_code
def yX1_cut : MethodName := ⟨RX1, "cut", "(ZI)I"⟩
abbrev cX1_differences : ByteArray := prog_3_method_4_code
def yX1_differences : MethodName := ⟨RX1, "differences", "(LCauldronTypes$Contents;)I"⟩
def RX2 : String := "CauldronTypes$Cooking"
def TX2 : u_T := fun k => match k with
  | 0 => ("CauldronTypes$Cooking", "now", "LCauldronTypes$Contents;", true)
  | 1 => ("CauldronTypes$Cooking", "storesIn", "[I", true)
  | 2 => ("CauldronTypes$Cooking", "boilsAt", "I", false)
  | 3 => ("CauldronTypes$Cooking", "cause", "I", false)
  | 4 => ("CauldronTypes$Cooking", "causeDetail", "I", false)
  | 5 => ("CauldronTypes$Cooking", "before", "LCauldronTypes$Contents;", true)
  | 6 => ("CauldronTypes$Cooking", "isBroth", "[Z", true)
  | 7 => ("CauldronTypes$Cooking", "many", "[I", true)
  | 8 => ("CauldronTypes$Cooking", "much", "[F", true)
  | _ => ("CauldronTypes$Cooking", "spoons", "I", false)
def tyX2 : Nat → FieldType := fun k => match k with
  | 0 => .object "CauldronTypes$Contents"
  | 1 => .array .int
  | 2 => .int
  | 3 => .int
  | 4 => .int
  | 5 => .object "CauldronTypes$Contents"
  | 6 => .array .boolean
  | 7 => .array .int
  | 8 => .array .float
  | _ => .int
abbrev wsX20 : List Cond := u_ws RX2 TX2 10
theorem nmX2 : ∀ a, a < 10 → ∀ b, b < 10 → a ≠ b → (TX2 a).2.1 ≠ (TX2 b).2.1 := by decide +kernel
theorem tyX2_ok : ∀ k, k < 10 → parseFieldDescriptor (TX2 k).2.2.1 = some (tyX2 k) := by decide +kernel
abbrev cX2_init : ByteArray := prog_4_method_1_code
def yX2_init : MethodName := ⟨RX2, "<init>", "()V"⟩
abbrev cX2_begin : ByteArray := prog_4_method_2_code
def yX2_begin : MethodName := ⟨RX2, "begin", "(LCauldronTypes$Book;)V"⟩
abbrev cX2_goesOn : ByteArray := prog_4_method_3_code
def yX2_goesOn : MethodName := ⟨RX2, "goesOn", "(LCauldronTypes$Spell;LCauldronTypes$Book;)Z"⟩
abbrev cX2_changes : ByteArray := prog_4_method_4_code
def yX2_changes : MethodName := ⟨RX2, "changes", "()I"⟩
abbrev cX2_goesToken : ByteArray := prog_4_method_5_code
def yX2_goesToken : MethodName := ⟨RX2, "goesToken", "(IILCauldronTypes$Book;)Z"⟩
abbrev cX2_lay : ByteArray := prog_4_method_6_code
def yX2_lay : MethodName := ⟨RX2, "lay", "(ZIF)Z"⟩
abbrev cX2_goesCast : ByteArray := prog_4_method_7_code
def yX2_goesCast : MethodName := ⟨RX2, "goesCast", "(Z)Z"⟩
abbrev cX2_goesReckoning : ByteArray := prog_4_method_8_code
def yX2_goesReckoning : MethodName := ⟨RX2, "goesReckoning", "(I)Z"⟩
abbrev cX2_goesStore : ByteArray := prog_4_method_9_code
def yX2_goesStore : MethodName := ⟨RX2, "goesStore", "(ILCauldronTypes$Book;)Z"⟩
abbrev cX2_boil : ByteArray := prog_4_method_10_code
def yX2_boil : MethodName := ⟨RX2, "boil", "(II)Z"⟩
def RX3 : String := "CauldronTypes$CookingByStores"
def TX3 : u_T := fun k => match k with
  | 0 => ("CauldronTypes$CookingByStores", "isBroth", "[Z", true)
  | 1 => ("CauldronTypes$CookingByStores", "many", "[I", true)
  | _ => ("CauldronTypes$CookingByStores", "much", "[F", true)
def tyX3 : Nat → FieldType := fun k => match k with
  | 0 => .array .boolean
  | 1 => .array .int
  | _ => .array .float
abbrev wsX30 : List Cond := u_ws RX3 TX3 3
theorem nmX3 : ∀ a, a < 3 → ∀ b, b < 3 → a ≠ b → (TX3 a).2.1 ≠ (TX3 b).2.1 := by decide +kernel
theorem tyX3_ok : ∀ k, k < 3 → parseFieldDescriptor (TX3 k).2.2.1 = some (tyX3 k) := by decide +kernel
abbrev cX3_init : ByteArray := prog_5_method_1_code
def yX3_init : MethodName := ⟨RX3, "<init>", "()V"⟩
abbrev cX3_goesWell : ByteArray := prog_5_method_2_code
def yX3_goesWell : MethodName := ⟨RX3, "goesWell", "(LCauldronTypes$Spell;LCauldronTypes$Book;)Z"⟩
abbrev cX3_leaves : ByteArray := prog_5_method_3_code
def yX3_leaves : MethodName := ⟨RX3, "leaves", "(LCauldronTypes$Spell;LCauldronTypes$Book;I)I"⟩
abbrev cX3_goesStore : ByteArray := prog_5_method_4_code
def yX3_goesStore : MethodName := ⟨RX3, "goesStore", "(LCauldronTypes$Spell;LCauldronTypes$Book;I)Z"⟩
abbrev cX3_goesPart : ByteArray := prog_5_method_5_code
def yX3_goesPart : MethodName := ⟨RX3, "goesPart", "(LCauldronTypes$Spell;LCauldronTypes$Book;II)Z"⟩
abbrev cX3_goesTake : ByteArray := prog_5_method_6_code
def yX3_goesTake : MethodName := ⟨RX3, "goesTake", "(LCauldronTypes$Spell;LCauldronTypes$Book;II)Z"⟩
abbrev cX3_goesCast : ByteArray := prog_5_method_7_code
def yX3_goesCast : MethodName := ⟨RX3, "goesCast", "(IIZ)Z"⟩
abbrev cX3_goesReckoning : ByteArray := prog_5_method_8_code
def yX3_goesReckoning : MethodName := ⟨RX3, "goesReckoning", "(IIII)Z"⟩
abbrev cX3_givesBroth : ByteArray := prog_5_method_9_code
def yX3_givesBroth : MethodName := ⟨RX3, "givesBroth", "(IF)Z"⟩
abbrev cX3_givesDrams : ByteArray := prog_5_method_10_code
def yX3_givesDrams : MethodName := ⟨RX3, "givesDrams", "(IJ)Z"⟩
def RX4 : String := "CauldronTypes$History"
def TX4 : u_T := fun k => match k with
  | 0 => ("CauldronTypes$History", "books", "[LCauldronTypes$Book;", true)
  | 1 => ("CauldronTypes$History", "next", "I", false)
  | _ => ("CauldronTypes$History", "changes", "I", false)
def tyX4 : Nat → FieldType := fun k => match k with
  | 0 => .array (.object "CauldronTypes$Book")
  | 1 => .int
  | _ => .int
abbrev wsX40 : List Cond := u_ws RX4 TX4 3
theorem nmX4 : ∀ a, a < 3 → ∀ b, b < 3 → a ≠ b → (TX4 a).2.1 ≠ (TX4 b).2.1 := by decide +kernel
theorem tyX4_ok : ∀ k, k < 3 → parseFieldDescriptor (TX4 k).2.2.1 = some (tyX4 k) := by decide +kernel
abbrev cX4_init : ByteArray := prog_6_method_1_code
def yX4_init : MethodName := ⟨RX4, "<init>", "()V"⟩
abbrev cX4_remember : ByteArray := prog_6_method_2_code
def yX4_remember : MethodName := ⟨RX4, "remember", "(LCauldronTypes$Book;)V"⟩
abbrev cX4_giveBack : ByteArray := prog_6_method_3_code
def yX4_giveBack : MethodName := ⟨RX4, "giveBack", "(LCauldronTypes$Book;)V"⟩
def RX5 : String := "CauldronTypes$Numbers"
def TX5 : u_T := fun k => match k with
  | _ => ("", "", "", false)
def tyX5 : Nat → FieldType := fun k => match k with
  | _ => .int
abbrev wsX50 : List Cond := u_ws RX5 TX5 0
theorem nmX5 : ∀ a, a < 0 → ∀ b, b < 0 → a ≠ b → (TX5 a).2.1 ≠ (TX5 b).2.1 := by decide +kernel
theorem tyX5_ok : ∀ k, k < 0 → parseFieldDescriptor (TX5 k).2.2.1 = some (tyX5 k) := by decide +kernel
abbrev cX5_ofDrams : ByteArray := prog_7_method_2_code
def yX5_ofDrams : MethodName := ⟨RX5, "ofDrams", "(IJJ)J"⟩
abbrev cX5_ofBroth : ByteArray := prog_7_method_3_code
def yX5_ofBroth : MethodName := ⟨RX5, "ofBroth", "(IFF)F"⟩
abbrev cX5_toBroth : ByteArray := prog_7_method_4_code
def yX5_toBroth : MethodName := ⟨RX5, "toBroth", "(I)F"⟩
abbrev cX5_toDrams : ByteArray := prog_7_method_5_code
def yX5_toDrams : MethodName := ⟨RX5, "toDrams", "(F)I"⟩
abbrev cX5_excess : ByteArray := prog_7_method_6_code
def yX5_excess : MethodName := ⟨RX5, "excess", "(J)I"⟩
abbrev cX5_lowest : ByteArray := prog_7_method_7_code
def yX5_lowest : MethodName := ⟨RX5, "lowest", "(IJJJJ)J"⟩
abbrev cX5_highest : ByteArray := prog_7_method_8_code
def yX5_highest : MethodName := ⟨RX5, "highest", "(IJJJJ)J"⟩
abbrev cX5_differ : ByteArray := prog_7_method_9_code
def yX5_differ : MethodName := ⟨RX5, "differ", "(FF)Z"⟩
abbrev cX5_bitsOf : ByteArray := prog_7_method_10_code
def yX5_bitsOf : MethodName := ⟨RX5, "bitsOf", "(F)I"⟩
abbrev cX5_longBitsOf : ByteArray := prog_7_method_11_code
def yX5_longBitsOf : MethodName := ⟨RX5, "longBitsOf", "(D)J"⟩
abbrev cX5_held : ByteArray := prog_7_method_12_code
def yX5_held : MethodName := ⟨RX5, "held", "(F)F"⟩
abbrev cX5_isNegative : ByteArray := prog_7_method_13_code
def yX5_isNegative : MethodName := ⟨RX5, "isNegative", "(D)Z"⟩
abbrev cX5_exponentOf : ByteArray := prog_7_method_14_code
def yX5_exponentOf : MethodName := ⟨RX5, "exponentOf", "(DI)I"⟩
abbrev cX5_scale : ByteArray := prog_7_method_15_code
def yX5_scale : MethodName := ⟨RX5, "scale", "(DI)D"⟩
def RX6 : String := "CauldronTypes$Reader"
def TX6 : u_T := fun k => match k with
  | 0 => ("CauldronTypes$Reader", "tokens", "I", false)
  | 1 => ("CauldronTypes$Reader", "stores", "I", false)
  | 2 => ("CauldronTypes$Reader", "mostSpoons", "I", false)
  | 3 => ("CauldronTypes$Reader", "firsts", "[C", true)
  | 4 => ("CauldronTypes$Reader", "kinds", "[I", true)
  | 5 => ("CauldronTypes$Reader", "values", "[I", true)
  | 6 => ("CauldronTypes$Reader", "parts", "[I", true)
  | 7 => ("CauldronTypes$Reader", "lastParts", "[I", true)
  | 8 => ("CauldronTypes$Reader", "spoonPlaces", "[I", true)
  | 9 => ("CauldronTypes$Reader", "spoons", "I", false)
  | 10 => ("CauldronTypes$Reader", "awaitsLetter", "Z", false)
  | _ => ("CauldronTypes$Reader", "awaitsDigit", "Z", false)
def tyX6 : Nat → FieldType := fun k => match k with
  | 0 => .int
  | 1 => .int
  | 2 => .int
  | 3 => .array .char
  | 4 => .array .int
  | 5 => .array .int
  | 6 => .array .int
  | 7 => .array .int
  | 8 => .array .int
  | 9 => .int
  | 10 => .boolean
  | _ => .boolean
abbrev wsX60 : List Cond := u_ws RX6 TX6 12
theorem nmX6 : ∀ a, a < 12 → ∀ b, b < 12 → a ≠ b → (TX6 a).2.1 ≠ (TX6 b).2.1 := by decide +kernel
theorem tyX6_ok : ∀ k, k < 12 → parseFieldDescriptor (TX6 k).2.2.1 = some (tyX6 k) := by decide +kernel
abbrev cX6_init : ByteArray := prog_8_method_1_code
def yX6_init : MethodName := ⟨RX6, "<init>", "()V"⟩
abbrev cX6_errorIn : ByteArray := prog_8_method_2_code
def yX6_errorIn : MethodName := ⟨RX6, "errorIn", "([CI)I"⟩
abbrev cX6_placeBeyond : ByteArray := prog_8_method_3_code
def yX6_placeBeyond : MethodName := ⟨RX6, "placeBeyond", "(I)I"⟩
abbrev cX6_fits : ByteArray := prog_8_method_4_code
def yX6_fits : MethodName := ⟨RX6, "fits", "(C)Z"⟩
abbrev cX6_isLetter : ByteArray := prog_8_method_5_code
def yX6_isLetter : MethodName := ⟨RX6, "isLetter", "(C)Z"⟩
abbrev cX6_fitsDigit : ByteArray := prog_8_method_6_code
def yX6_fitsDigit : MethodName := ⟨RX6, "fitsDigit", "(C)Z"⟩
abbrev cX6_fitsStore : ByteArray := prog_8_method_7_code
def yX6_fitsStore : MethodName := ⟨RX6, "fitsStore", "(I)Z"⟩
abbrev cX6_fitsToken : ByteArray := prog_8_method_8_code
def yX6_fitsToken : MethodName := ⟨RX6, "fitsToken", "(ICIII)Z"⟩
def RX7 : String := "CauldronTypes$Refusal"
def TX7 : u_T := fun k => match k with
  | 0 => ("CauldronTypes$Refusal", "isKept", "Z", false)
  | 1 => ("CauldronTypes$Refusal", "reason", "I", false)
  | 2 => ("CauldronTypes$Refusal", "detail", "I", false)
  | 3 => ("CauldronTypes$Refusal", "hasCause", "Z", false)
  | 4 => ("CauldronTypes$Refusal", "cause", "I", false)
  | _ => ("CauldronTypes$Refusal", "causeDetail", "I", false)
def tyX7 : Nat → FieldType := fun k => match k with
  | 0 => .boolean
  | 1 => .int
  | 2 => .int
  | 3 => .boolean
  | 4 => .int
  | _ => .int
abbrev wsX70 : List Cond := u_ws RX7 TX7 6
theorem nmX7 : ∀ a, a < 6 → ∀ b, b < 6 → a ≠ b → (TX7 a).2.1 ≠ (TX7 b).2.1 := by decide +kernel
theorem tyX7_ok : ∀ k, k < 6 → parseFieldDescriptor (TX7 k).2.2.1 = some (tyX7 k) := by decide +kernel
abbrev cX7_init : ByteArray := prog_9_method_1_code
def yX7_init : MethodName := ⟨RX7, "<init>", "()V"⟩
abbrev cX7_keep : ByteArray := prog_9_method_2_code
def yX7_keep : MethodName := ⟨RX7, "keep", "(II)V"⟩
abbrev cX7_keepWithCause : ByteArray := prog_9_method_3_code
def yX7_keepWithCause : MethodName := ⟨RX7, "keepWithCause", "(IIII)V"⟩
def RX8 : String := "CauldronTypes$Spell"
def TX8 : u_T := fun k => match k with
  | 0 => ("CauldronTypes$Spell", "text", "[C", true)
  | 1 => ("CauldronTypes$Spell", "tokens", "I", true)
  | 2 => ("CauldronTypes$Spell", "stores", "I", true)
  | 3 => ("CauldronTypes$Spell", "mostSpoons", "I", true)
  | 4 => ("CauldronTypes$Spell", "firsts", "[C", true)
  | 5 => ("CauldronTypes$Spell", "kinds", "[I", true)
  | 6 => ("CauldronTypes$Spell", "values", "[I", true)
  | 7 => ("CauldronTypes$Spell", "parts", "[I", true)
  | _ => ("CauldronTypes$Spell", "lastParts", "[I", true)
def tyX8 : Nat → FieldType := fun k => match k with
  | 0 => .array .char
  | 1 => .int
  | 2 => .int
  | 3 => .int
  | 4 => .array .char
  | 5 => .array .int
  | 6 => .array .int
  | 7 => .array .int
  | _ => .array .int
abbrev wsX80 : List Cond := u_ws RX8 TX8 9
theorem nmX8 : ∀ a, a < 9 → ∀ b, b < 9 → a ≠ b → (TX8 a).2.1 ≠ (TX8 b).2.1 := by decide +kernel
theorem tyX8_ok : ∀ k, k < 9 → parseFieldDescriptor (TX8 k).2.2.1 = some (tyX8 k) := by decide +kernel
abbrev cX8_init : ByteArray := prog_10_method_1_code
def yX8_init : MethodName := ⟨RX8, "<init>", "(LCauldronTypes$Reader;[CI)V"⟩
abbrev cX8_lastAhead : ByteArray := prog_10_method_2_code
def yX8_lastAhead : MethodName := ⟨RX8, "lastAhead", "(III)I"⟩
def RX9 : String := "CauldronTypes$Typing"
def TX9 : u_T := fun k => match k with
  | 0 => ("CauldronTypes$Typing", "faultAt", "I", false)
  | 1 => ("CauldronTypes$Typing", "stores", "I", false)
  | 2 => ("CauldronTypes$Typing", "storeIsBroth", "[Z", true)
  | 3 => ("CauldronTypes$Typing", "storeLow", "[J", true)
  | 4 => ("CauldronTypes$Typing", "storeHigh", "[J", true)
  | 5 => ("CauldronTypes$Typing", "isBroth", "[Z", true)
  | 6 => ("CauldronTypes$Typing", "low", "[J", true)
  | 7 => ("CauldronTypes$Typing", "high", "[J", true)
  | _ => ("CauldronTypes$Typing", "spoons", "I", false)
def tyX9 : Nat → FieldType := fun k => match k with
  | 0 => .int
  | 1 => .int
  | 2 => .array .boolean
  | 3 => .array .long
  | 4 => .array .long
  | 5 => .array .boolean
  | 6 => .array .long
  | 7 => .array .long
  | _ => .int
abbrev wsX90 : List Cond := u_ws RX9 TX9 9
theorem nmX9 : ∀ a, a < 9 → ∀ b, b < 9 → a ≠ b → (TX9 a).2.1 ≠ (TX9 b).2.1 := by decide +kernel
theorem tyX9_ok : ∀ k, k < 9 → parseFieldDescriptor (TX9 k).2.2.1 = some (tyX9 k) := by decide +kernel
abbrev cX9_init : ByteArray := prog_11_method_1_code
def yX9_init : MethodName := ⟨RX9, "<init>", "()V"⟩
abbrev cX9_passes : ByteArray := prog_11_method_2_code
def yX9_passes : MethodName := ⟨RX9, "passes", "(LCauldronTypes$Spell;LCauldronTypes$Book;)Z"⟩
abbrev cX9_passesToken : ByteArray := prog_11_method_3_code
def yX9_passesToken : MethodName := ⟨RX9, "passesToken", "(IILCauldronTypes$Book;)Z"⟩
abbrev cX9_lay : ByteArray := prog_11_method_4_code
def yX9_lay : MethodName := ⟨RX9, "lay", "(ZJJ)Z"⟩
abbrev cX9_passesCast : ByteArray := prog_11_method_5_code
def yX9_passesCast : MethodName := ⟨RX9, "passesCast", "(Z)Z"⟩
abbrev cX9_passesReckoning : ByteArray := prog_11_method_6_code
def yX9_passesReckoning : MethodName := ⟨RX9, "passesReckoning", "(I)Z"⟩
abbrev cX9_passesStore : ByteArray := prog_11_method_7_code
def yX9_passesStore : MethodName := ⟨RX9, "passesStore", "(ILCauldronTypes$Book;)Z"⟩
def RX10 : String := "CauldronTypes$TypingByStores"
def TX10 : u_T := fun k => match k with
  | 0 => ("CauldronTypes$TypingByStores", "isBroth", "[Z", true)
  | 1 => ("CauldronTypes$TypingByStores", "low", "[J", true)
  | _ => ("CauldronTypes$TypingByStores", "high", "[J", true)
def tyX10 : Nat → FieldType := fun k => match k with
  | 0 => .array .boolean
  | 1 => .array .long
  | _ => .array .long
abbrev wsX100 : List Cond := u_ws RX10 TX10 3
theorem nmX10 : ∀ a, a < 3 → ∀ b, b < 3 → a ≠ b → (TX10 a).2.1 ≠ (TX10 b).2.1 := by decide +kernel
theorem tyX10_ok : ∀ k, k < 3 → parseFieldDescriptor (TX10 k).2.2.1 = some (tyX10 k) := by decide +kernel
abbrev cX10_init : ByteArray := prog_12_method_1_code
def yX10_init : MethodName := ⟨RX10, "<init>", "()V"⟩
abbrev cX10_passes : ByteArray := prog_12_method_2_code
def yX10_passes : MethodName := ⟨RX10, "passes", "(LCauldronTypes$Spell;LCauldronTypes$Book;)Z"⟩
abbrev cX10_passesStore : ByteArray := prog_12_method_3_code
def yX10_passesStore : MethodName := ⟨RX10, "passesStore", "(LCauldronTypes$Spell;LCauldronTypes$Book;I)Z"⟩
abbrev cX10_passesPart : ByteArray := prog_12_method_4_code
def yX10_passesPart : MethodName := ⟨RX10, "passesPart", "(LCauldronTypes$Spell;LCauldronTypes$Book;II)Z"⟩
abbrev cX10_passesTake : ByteArray := prog_12_method_5_code
def yX10_passesTake : MethodName := ⟨RX10, "passesTake", "(LCauldronTypes$Book;II)Z"⟩
abbrev cX10_passesCast : ByteArray := prog_12_method_6_code
def yX10_passesCast : MethodName := ⟨RX10, "passesCast", "(IIZ)Z"⟩
abbrev cX10_passesReckoning : ByteArray := prog_12_method_7_code
def yX10_passesReckoning : MethodName := ⟨RX10, "passesReckoning", "(IIII)Z"⟩
abbrev cX10_tellsBroth : ByteArray := prog_12_method_8_code
def yX10_tellsBroth : MethodName := ⟨RX10, "tellsBroth", "(I)Z"⟩
abbrev cX10_tellsDrams : ByteArray := prog_12_method_9_code
def yX10_tellsDrams : MethodName := ⟨RX10, "tellsDrams", "(IJJ)Z"⟩
def RX11 : String := "CauldronTypes"
def TX11 : u_T := fun k => match k with
  | 0 => ("CauldronTypes", "book", "LCauldronTypes$Book;", true)
  | 1 => ("CauldronTypes", "saved", "LCauldronTypes$Book;", true)
  | 2 => ("CauldronTypes", "isSaved", "Z", false)
  | 3 => ("CauldronTypes", "history", "LCauldronTypes$History;", true)
  | 4 => ("CauldronTypes", "refusal", "LCauldronTypes$Refusal;", true)
  | 5 => ("CauldronTypes", "reader", "LCauldronTypes$Reader;", true)
  | 6 => ("CauldronTypes", "typing", "LCauldronTypes$Typing;", true)
  | 7 => ("CauldronTypes", "typingByStores", "LCauldronTypes$TypingByStores;", true)
  | 8 => ("CauldronTypes", "cooking", "LCauldronTypes$Cooking;", true)
  | 9 => ("CauldronTypes", "cookingByStores", "LCauldronTypes$CookingByStores;", true)
  | 10 => ("CauldronTypes", "input", "[C", true)
  | 11 => ("CauldronTypes", "inputLength", "I", false)
  | 12 => ("CauldronTypes", "keptError", "I", false)
  | 13 => ("CauldronTypes", "line", "Ljava/lang/StringBuilder;", true)
  | _ => ("CauldronTypes", "boiledOver", "I", false)
def tyX11 : Nat → FieldType := fun k => match k with
  | 0 => .object "CauldronTypes$Book"
  | 1 => .object "CauldronTypes$Book"
  | 2 => .boolean
  | 3 => .object "CauldronTypes$History"
  | 4 => .object "CauldronTypes$Refusal"
  | 5 => .object "CauldronTypes$Reader"
  | 6 => .object "CauldronTypes$Typing"
  | 7 => .object "CauldronTypes$TypingByStores"
  | 8 => .object "CauldronTypes$Cooking"
  | 9 => .object "CauldronTypes$CookingByStores"
  | 10 => .array .char
  | 11 => .int
  | 12 => .int
  | 13 => .object "java/lang/StringBuilder"
  | _ => .int
abbrev wsX110 : List Cond := u_ws RX11 TX11 15
theorem nmX11 : ∀ a, a < 15 → ∀ b, b < 15 → a ≠ b → (TX11 a).2.1 ≠ (TX11 b).2.1 := by decide +kernel
theorem tyX11_ok : ∀ k, k < 15 → parseFieldDescriptor (TX11 k).2.2.1 = some (tyX11 k) := by decide +kernel
abbrev cX11_init : ByteArray := prog_1_method_1_code
def yX11_init : MethodName := ⟨RX11, "<init>", "()V"⟩
abbrev cX11_drams : ByteArray := prog_1_method_2_code
def yX11_drams : MethodName := ⟨RX11, "drams", "(II)I"⟩
abbrev cX11_broth : ByteArray := prog_1_method_3_code
def yX11_broth : MethodName := ⟨RX11, "broth", "()I"⟩
abbrev cX11_pour : ByteArray := prog_1_method_4_code
def yX11_pour : MethodName := ⟨RX11, "pour", "(II)I"⟩
abbrev cX11_ladle : ByteArray := prog_1_method_5_code
def yX11_ladle : MethodName := ⟨RX11, "ladle", "(II)I"⟩
abbrev cX11_bounds : ByteArray := prog_1_method_6_code
def yX11_bounds : MethodName := ⟨RX11, "bounds", "(III)I"⟩
abbrev cX11_write : ByteArray := prog_1_method_7_code
def yX11_write : MethodName := ⟨RX11, "write", "()I"⟩
abbrev cX11_erase : ByteArray := prog_1_method_8_code
def yX11_erase : MethodName := ⟨RX11, "erase", "(I)I"⟩
abbrev cX11_cook : ByteArray := prog_1_method_9_code
def yX11_cook : MethodName := ⟨RX11, "cook", "(I)I"⟩
abbrev cX11_cookAll : ByteArray := prog_1_method_10_code
def yX11_cookAll : MethodName := ⟨RX11, "cookAll", "()I"⟩
abbrev cX11_cauldronOf : ByteArray := prog_1_method_11_code
def yX11_cauldronOf : MethodName := ⟨RX11, "cauldronOf", "(II)I"⟩
abbrev cX11_bits : ByteArray := prog_1_method_13_code
def yX11_bits : MethodName := ⟨RX11, "bits", "(I)I"⟩
abbrev cX11_spellOf : ByteArray := prog_1_method_14_code
def yX11_spellOf : MethodName := ⟨RX11, "spellOf", "(II)I"⟩
abbrev cX11_token : ByteArray := prog_1_method_15_code
def yX11_token : MethodName := ⟨RX11, "token", "(II)C"⟩
abbrev cX11_types : ByteArray := prog_1_method_16_code
def yX11_types : MethodName := ⟨RX11, "types", "(I)Z"⟩
abbrev cX11_typesAgain : ByteArray := prog_1_method_17_code
def yX11_typesAgain : MethodName := ⟨RX11, "typesAgain", "(I)Z"⟩
abbrev cX11_fault : ByteArray := prog_1_method_18_code
def yX11_fault : MethodName := ⟨RX11, "fault", "(I)I"⟩
abbrev cX11_bound : ByteArray := prog_1_method_19_code
def yX11_bound : MethodName := ⟨RX11, "bound", "(IIZ)I"⟩
abbrev cX11_typed : ByteArray := prog_1_method_20_code
def yX11_typed : MethodName := ⟨RX11, "typed", "()I"⟩
abbrev cX11_would : ByteArray := prog_1_method_21_code
def yX11_would : MethodName := ⟨RX11, "would", "(II)I"⟩
abbrev cX11_wouldAgain : ByteArray := prog_1_method_22_code
def yX11_wouldAgain : MethodName := ⟨RX11, "wouldAgain", "(II)I"⟩
abbrev cX11_boils : ByteArray := prog_1_method_23_code
def yX11_boils : MethodName := ⟨RX11, "boils", "(I)I"⟩
abbrev cX11_lasts : ByteArray := prog_1_method_24_code
def yX11_lasts : MethodName := ⟨RX11, "lasts", "(I)I"⟩
abbrev cX11_ranked : ByteArray := prog_1_method_25_code
def yX11_ranked : MethodName := ⟨RX11, "ranked", "(I)I"⟩
abbrev cX11_widest : ByteArray := prog_1_method_26_code
def yX11_widest : MethodName := ⟨RX11, "widest", "()I"⟩
abbrev cX11_isSafe : ByteArray := prog_1_method_27_code
def yX11_isSafe : MethodName := ⟨RX11, "isSafe", "()Z"⟩
abbrev cX11_tell : ByteArray := prog_1_method_28_code
def yX11_tell : MethodName := ⟨RX11, "tell", "(I)I"⟩
abbrev cX11_tellCauldron : ByteArray := prog_1_method_29_code
def yX11_tellCauldron : MethodName := ⟨RX11, "tellCauldron", "(I)I"⟩
abbrev cX11_character : ByteArray := prog_1_method_30_code
def yX11_character : MethodName := ⟨RX11, "character", "(I)C"⟩
abbrev cX11_meanBits : ByteArray := prog_1_method_31_code
def yX11_meanBits : MethodName := ⟨RX11, "meanBits", "()J"⟩
abbrev cX11_typedShare : ByteArray := prog_1_method_32_code
def yX11_typedShare : MethodName := ⟨RX11, "typedShare", "()F"⟩
abbrev cX11_account : ByteArray := prog_1_method_33_code
def yX11_account : MethodName := ⟨RX11, "account", "(I)I"⟩
abbrev cX11_append : ByteArray := prog_1_method_34_code
def yX11_append : MethodName := ⟨RX11, "append", "(C)I"⟩
abbrev cX11_reason : ByteArray := prog_1_method_36_code
def yX11_reason : MethodName := ⟨RX11, "reason", "(ZZ)I"⟩
abbrev cX11_undo : ByteArray := prog_1_method_37_code
def yX11_undo : MethodName := ⟨RX11, "undo", "()I"⟩
abbrev cX11_needCauldron : ByteArray := prog_1_method_40_code
def yX11_needCauldron : MethodName := ⟨RX11, "needCauldron", "(I)V"⟩
abbrev cX11_needSpell : ByteArray := prog_1_method_41_code
def yX11_needSpell : MethodName := ⟨RX11, "needSpell", "(I)LCauldronTypes$Spell;"⟩
abbrev cX11_needBounds : ByteArray := prog_1_method_42_code
def yX11_needBounds : MethodName := ⟨RX11, "needBounds", "(II)V"⟩
abbrev cX11_needRoomForCauldron : ByteArray := prog_1_method_43_code
def yX11_needRoomForCauldron : MethodName := ⟨RX11, "needRoomForCauldron", "()V"⟩
abbrev cX11_needDrams : ByteArray := prog_1_method_44_code
def yX11_needDrams : MethodName := ⟨RX11, "needDrams", "(I)V"⟩
abbrev cX11_countTyped : ByteArray := prog_1_method_45_code
def yX11_countTyped : MethodName := ⟨RX11, "countTyped", "()I"⟩
def RX12 : String := "CauldronTypesModel"
def TX12 : u_T := fun k => match k with
  | _ => ("", "", "", false)
def tyX12 : Nat → FieldType := fun k => match k with
  | _ => .int
abbrev wsX120 : List Cond := u_ws RX12 TX12 0
theorem nmX12 : ∀ a, a < 0 → ∀ b, b < 0 → a ≠ b → (TX12 a).2.1 ≠ (TX12 b).2.1 := by decide +kernel
theorem tyX12_ok : ∀ k, k < 0 → parseFieldDescriptor (TX12 k).2.2.1 = some (tyX12 k) := by decide +kernel
def RJx145de : String := "java/io/Serializable"
def TJx145de : u_T := fun k => match k with
  | _ => ("", "", "", false)
def tyJx145de : Nat → FieldType := fun k => match k with
  | _ => .int
abbrev wsJx145de0 : List Cond := u_ws RJx145de TJx145de 0
theorem nmJx145de : ∀ a, a < 0 → ∀ b, b < 0 → a ≠ b → (TJx145de a).2.1 ≠ (TJx145de b).2.1 := by decide +kernel
theorem tyJx145de_ok : ∀ k, k < 0 → parseFieldDescriptor (TJx145de k).2.2.1 = some (tyJx145de k) := by decide +kernel
def RJ5 : String := "java/lang/AbstractStringBuilder"
def TJ5 : u_T := fun k => match k with
  | _ => ("", "", "", false)
def tyJ5 : Nat → FieldType := fun k => match k with
  | _ => .int
abbrev wsJ50 : List Cond := u_ws RJ5 TJ5 0
theorem nmJ5 : ∀ a, a < 0 → ∀ b, b < 0 → a ≠ b → (TJ5 a).2.1 ≠ (TJ5 b).2.1 := by decide +kernel
theorem tyJ5_ok : ∀ k, k < 0 → parseFieldDescriptor (TJ5 k).2.2.1 = some (tyJ5 k) := by decide +kernel
abbrev cJ5_init_d00df : ByteArray := prog_16_method_2_code
def yJ5_init_d00df : MethodName := ⟨RJ5, "<init>", "(I)V"⟩
abbrev cJ5_length_8abf5 : ByteArray := prog_16_method_6_code
def yJ5_length_8abf5 : MethodName := ⟨RJ5, "length", "()I"⟩
abbrev cJ5_ensureCapacityInternal_d00df : ByteArray := prog_16_method_9_code
def yJ5_ensureCapacityInternal_d00df : MethodName := ⟨RJ5, "ensureCapacityInternal", "(I)V"⟩
abbrev cJ5_newCapacity_0f7a4 : ByteArray := prog_16_method_10_code
def yJ5_newCapacity_0f7a4 : MethodName := ⟨RJ5, "newCapacity", "(I)I"⟩
abbrev cJ5_inflate_da8c8 : ByteArray := prog_16_method_11_code
def yJ5_inflate_da8c8 : MethodName := ⟨RJ5, "inflate", "()V"⟩
abbrev cJ5_setLength_d00df : ByteArray := prog_16_method_13_code
def yJ5_setLength_d00df : MethodName := ⟨RJ5, "setLength", "(I)V"⟩
abbrev cJ5_charAt_5068e : ByteArray := prog_16_method_14_code
def yJ5_charAt_5068e : MethodName := ⟨RJ5, "charAt", "(I)C"⟩
abbrev cJ5_append_cf1ce : ByteArray := prog_16_method_22_code
def yJ5_append_cf1ce : MethodName := ⟨RJ5, "append", "(Ljava/lang/String;)Ljava/lang/AbstractStringBuilder;"⟩
abbrev cJ5_appendNull_278bc : ByteArray := prog_16_method_26_code
def yJ5_appendNull_278bc : MethodName := ⟨RJ5, "appendNull", "()Ljava/lang/AbstractStringBuilder;"⟩
abbrev cJ5_append_3fe6f : ByteArray := prog_16_method_31_code
def yJ5_append_3fe6f : MethodName := ⟨RJ5, "append", "(C)Ljava/lang/AbstractStringBuilder;"⟩
abbrev cJ5_append_c97b9 : ByteArray := prog_16_method_32_code
def yJ5_append_c97b9 : MethodName := ⟨RJ5, "append", "(I)Ljava/lang/AbstractStringBuilder;"⟩
abbrev cJ5_getValue_6d5f1 : ByteArray := prog_16_method_64_code
def yJ5_getValue_6d5f1 : MethodName := ⟨RJ5, "getValue", "()[B"⟩
abbrev cJ5_isLatin1_aae02 : ByteArray := prog_16_method_68_code
def yJ5_isLatin1_aae02 : MethodName := ⟨RJ5, "isLatin1", "()Z"⟩
abbrev cJ5_inflateIfNeededFor_a7421 : ByteArray := prog_16_method_71_code
def yJ5_inflateIfNeededFor_a7421 : MethodName := ⟨RJ5, "inflateIfNeededFor", "(Ljava/lang/String;)V"⟩
abbrev cJ5_putStringAt_47b60 : ByteArray := prog_16_method_73_code
def yJ5_putStringAt_47b60 : MethodName := ⟨RJ5, "putStringAt", "(ILjava/lang/String;)V"⟩
def RJx2cfe8 : String := "java/lang/Appendable"
def TJx2cfe8 : u_T := fun k => match k with
  | _ => ("", "", "", false)
def tyJx2cfe8 : Nat → FieldType := fun k => match k with
  | _ => .int
abbrev wsJx2cfe80 : List Cond := u_ws RJx2cfe8 TJx2cfe8 0
theorem nmJx2cfe8 : ∀ a, a < 0 → ∀ b, b < 0 → a ≠ b → (TJx2cfe8 a).2.1 ≠ (TJx2cfe8 b).2.1 := by decide +kernel
theorem tyJx2cfe8_ok : ∀ k, k < 0 → parseFieldDescriptor (TJx2cfe8 k).2.2.1 = some (tyJx2cfe8 k) := by decide +kernel
def RJx00060 : String := "java/lang/ArrayIndexOutOfBoundsException"
def TJx00060 : u_T := fun k => match k with
  | 0 => ("java/lang/Throwable", "backtrace", "Ljava/lang/Object;", false)
  | 1 => ("java/lang/Throwable", "detailMessage", "Ljava/lang/String;", false)
  | 2 => ("java/lang/Throwable", "cause", "Ljava/lang/Throwable;", false)
  | 3 => ("java/lang/Throwable", "stackTrace", "[Ljava/lang/StackTraceElement;", false)
  | 4 => ("java/lang/Throwable", "depth", "I", false)
  | _ => ("java/lang/Throwable", "suppressedExceptions", "Ljava/util/List;", false)
def tyJx00060 : Nat → FieldType := fun k => match k with
  | 0 => .object "java/lang/Object"
  | 1 => .object "java/lang/String"
  | 2 => .object "java/lang/Throwable"
  | 3 => .array (.object "java/lang/StackTraceElement")
  | 4 => .int
  | _ => .object "java/util/List"
abbrev wsJx000600 : List Cond := u_ws RJx00060 TJx00060 6
theorem nmJx00060 : ∀ a, a < 6 → ∀ b, b < 6 → a ≠ b → (TJx00060 a).2.1 ≠ (TJx00060 b).2.1 := by decide +kernel
theorem tyJx00060_ok : ∀ k, k < 6 → parseFieldDescriptor (TJx00060 k).2.2.1 = some (tyJx00060 k) := by decide +kernel
abbrev cJx00060_init_a7421 : ByteArray := prog_19_method_2_code
def yJx00060_init_a7421 : MethodName := ⟨RJx00060, "<init>", "(Ljava/lang/String;)V"⟩
abbrev cJx00060_init_d00df : ByteArray := prog_19_method_3_code
def yJx00060_init_d00df : MethodName := ⟨RJx00060, "<init>", "(I)V"⟩
def RJx9f9b0 : String := "java/lang/CharSequence"
def TJx9f9b0 : u_T := fun k => match k with
  | _ => ("", "", "", false)
def tyJx9f9b0 : Nat → FieldType := fun k => match k with
  | _ => .int
abbrev wsJx9f9b00 : List Cond := u_ws RJx9f9b0 TJx9f9b0 0
theorem nmJx9f9b0 : ∀ a, a < 0 → ∀ b, b < 0 → a ≠ b → (TJx9f9b0 a).2.1 ≠ (TJx9f9b0 b).2.1 := by decide +kernel
theorem tyJx9f9b0_ok : ∀ k, k < 0 → parseFieldDescriptor (TJx9f9b0 k).2.2.1 = some (tyJx9f9b0 k) := by decide +kernel
def RJx8e188 : String := "java/lang/Cloneable"
def TJx8e188 : u_T := fun k => match k with
  | _ => ("", "", "", false)
def tyJx8e188 : Nat → FieldType := fun k => match k with
  | _ => .int
abbrev wsJx8e1880 : List Cond := u_ws RJx8e188 TJx8e188 0
theorem nmJx8e188 : ∀ a, a < 0 → ∀ b, b < 0 → a ≠ b → (TJx8e188 a).2.1 ≠ (TJx8e188 b).2.1 := by decide +kernel
theorem tyJx8e188_ok : ∀ k, k < 0 → parseFieldDescriptor (TJx8e188 k).2.2.1 = some (tyJx8e188 k) := by decide +kernel
def RJxb160c : String := "java/lang/Comparable"
def TJxb160c : u_T := fun k => match k with
  | _ => ("", "", "", false)
def tyJxb160c : Nat → FieldType := fun k => match k with
  | _ => .int
abbrev wsJxb160c0 : List Cond := u_ws RJxb160c TJxb160c 0
theorem nmJxb160c : ∀ a, a < 0 → ∀ b, b < 0 → a ≠ b → (TJxb160c a).2.1 ≠ (TJxb160c b).2.1 := by decide +kernel
theorem tyJxb160c_ok : ∀ k, k < 0 → parseFieldDescriptor (TJxb160c k).2.2.1 = some (tyJxb160c k) := by decide +kernel
def RJxe99ae : String := "java/lang/Double"
def TJxe99ae : u_T := fun k => match k with
  | _ => ("", "", "", false)
def tyJxe99ae : Nat → FieldType := fun k => match k with
  | _ => .int
abbrev wsJxe99ae0 : List Cond := u_ws RJxe99ae TJxe99ae 0
theorem nmJxe99ae : ∀ a, a < 0 → ∀ b, b < 0 → a ≠ b → (TJxe99ae a).2.1 ≠ (TJxe99ae b).2.1 := by decide +kernel
theorem tyJxe99ae_ok : ∀ k, k < 0 → parseFieldDescriptor (TJxe99ae k).2.2.1 = some (tyJxe99ae k) := by decide +kernel
abbrev cJxe99ae_isNaN_b9ae7 : ByteArray := prog_23_method_6_code
def yJxe99ae_isNaN_b9ae7 : MethodName := ⟨RJxe99ae, "isNaN", "(D)Z"⟩
abbrev cJxe99ae_doubleToLongBits_ccdee : ByteArray := prog_23_method_23_code
def yJxe99ae_doubleToLongBits_ccdee : MethodName := ⟨RJxe99ae, "doubleToLongBits", "(D)J"⟩
def RJxf58ca : String := "java/lang/Float"
def TJxf58ca : u_T := fun k => match k with
  | _ => ("", "", "", false)
def tyJxf58ca : Nat → FieldType := fun k => match k with
  | _ => .int
abbrev wsJxf58ca0 : List Cond := u_ws RJxf58ca TJxf58ca 0
theorem nmJxf58ca : ∀ a, a < 0 → ∀ b, b < 0 → a ≠ b → (TJxf58ca a).2.1 ≠ (TJxf58ca b).2.1 := by decide +kernel
theorem tyJxf58ca_ok : ∀ k, k < 0 → parseFieldDescriptor (TJxf58ca k).2.2.1 = some (tyJxf58ca k) := by decide +kernel
def RJ6 : String := "java/lang/Integer"
def TJ6 : u_T := fun k => match k with
  | _ => ("", "", "", false)
def tyJ6 : Nat → FieldType := fun k => match k with
  | _ => .int
abbrev wsJ60 : List Cond := u_ws RJ6 TJ6 0
theorem nmJ6 : ∀ a, a < 0 → ∀ b, b < 0 → a ≠ b → (TJ6 a).2.1 ≠ (TJ6 b).2.1 := by decide +kernel
theorem tyJ6_ok : ∀ k, k < 0 → parseFieldDescriptor (TJ6 k).2.2.1 = some (tyJ6 k) := by decide +kernel
abbrev cJ6_getChars_ba4f3 : ByteArray := prog_29_method_12_code
def yJ6_getChars_ba4f3 : MethodName := ⟨RJ6, "getChars", "(II[B)I"⟩
abbrev cJ6_stringSize_0f7a4 : ByteArray := prog_29_method_13_code
def yJ6_stringSize_0f7a4 : MethodName := ⟨RJ6, "stringSize", "(I)I"⟩
def RJ9 : String := "java/lang/Math"
def TJ9 : u_T := fun k => match k with
  | _ => ("", "", "", false)
def tyJ9 : Nat → FieldType := fun k => match k with
  | _ => .int
abbrev wsJ90 : List Cond := u_ws RJ9 TJ9 0
theorem nmJ9 : ∀ a, a < 0 → ∀ b, b < 0 → a ≠ b → (TJ9 a).2.1 ≠ (TJ9 b).2.1 := by decide +kernel
theorem tyJ9_ok : ∀ k, k < 0 → parseFieldDescriptor (TJ9 k).2.2.1 = some (tyJ9 k) := by decide +kernel
abbrev cJ9_max_7cf53 : ByteArray := prog_30_method_65_code
def yJ9_max_7cf53 : MethodName := ⟨RJ9, "max", "(II)I"⟩
abbrev cJ9_max_f86c9 : ByteArray := prog_30_method_66_code
def yJ9_max_f86c9 : MethodName := ⟨RJ9, "max", "(JJ)J"⟩
abbrev cJ9_min_7cf53 : ByteArray := prog_30_method_69_code
def yJ9_min_7cf53 : MethodName := ⟨RJ9, "min", "(II)I"⟩
abbrev cJ9_min_f86c9 : ByteArray := prog_30_method_70_code
def yJ9_min_f86c9 : MethodName := ⟨RJ9, "min", "(JJ)J"⟩
def RJxd2413 : String := "java/lang/Number"
def TJxd2413 : u_T := fun k => match k with
  | _ => ("", "", "", false)
def tyJxd2413 : Nat → FieldType := fun k => match k with
  | _ => .int
abbrev wsJxd24130 : List Cond := u_ws RJxd2413 TJxd2413 0
theorem nmJxd2413 : ∀ a, a < 0 → ∀ b, b < 0 → a ≠ b → (TJxd2413 a).2.1 ≠ (TJxd2413 b).2.1 := by decide +kernel
theorem tyJxd2413_ok : ∀ k, k < 0 → parseFieldDescriptor (TJxd2413 k).2.2.1 = some (tyJxd2413 k) := by decide +kernel
def RJ0 : String := "java/lang/String"
def TJ0 : u_T := fun k => match k with
  | 0 => ("java/lang/String", "value", "[B", true)
  | 1 => ("java/lang/String", "coder", "B", true)
  | 2 => ("java/lang/String", "hash", "I", false)
  | _ => ("java/lang/String", "hashIsZero", "Z", false)
def tyJ0 : Nat → FieldType := fun k => match k with
  | 0 => .array .byte
  | 1 => .byte
  | 2 => .int
  | _ => .boolean
abbrev wsJ00 : List Cond := u_ws RJ0 TJ0 4
theorem nmJ0 : ∀ a, a < 4 → ∀ b, b < 4 → a ≠ b → (TJ0 a).2.1 ≠ (TJ0 b).2.1 := by decide +kernel
theorem tyJ0_ok : ∀ k, k < 4 → parseFieldDescriptor (TJ0 k).2.2.1 = some (tyJ0 k) := by decide +kernel
abbrev cJ0_init_81219 : ByteArray := prog_33_method_53_code
def yJ0_init_81219 : MethodName := ⟨RJ0, "<init>", "(Ljava/lang/StringBuilder;)V"⟩
abbrev cJ0_length_8abf5 : ByteArray := prog_33_method_54_code
def yJ0_length_8abf5 : MethodName := ⟨RJ0, "length", "()I"⟩
abbrev cJ0_charAt_5068e : ByteArray := prog_33_method_56_code
def yJ0_charAt_5068e : MethodName := ⟨RJ0, "charAt", "(I)C"⟩
abbrev cJ0_getBytes_840e7 : ByteArray := prog_33_method_147_code
def yJ0_getBytes_840e7 : MethodName := ⟨RJ0, "getBytes", "([BIB)V"⟩
abbrev cJ0_init_db425 : ByteArray := prog_33_method_150_code
def yJ0_init_db425 : MethodName := ⟨RJ0, "<init>", "(Ljava/lang/AbstractStringBuilder;Ljava/lang/Void;)V"⟩
abbrev cJ0_coder_7d493 : ByteArray := prog_33_method_152_code
def yJ0_coder_7d493 : MethodName := ⟨RJ0, "coder", "()B"⟩
abbrev cJ0_isLatin1_aae02 : ByteArray := prog_33_method_154_code
def yJ0_isLatin1_aae02 : MethodName := ⟨RJ0, "isLatin1", "()Z"⟩
abbrev cJ0_checkIndex_df160 : ByteArray := prog_33_method_155_code
def yJ0_checkIndex_df160 : MethodName := ⟨RJ0, "checkIndex", "(II)V"⟩
abbrev cJ0_checkBoundsOffCount_cabcc : ByteArray := prog_33_method_157_code
def yJ0_checkBoundsOffCount_cabcc : MethodName := ⟨RJ0, "checkBoundsOffCount", "(III)I"⟩
abbrev cJ0_checkBoundsBeginEnd_23922 : ByteArray := prog_33_method_158_code
def yJ0_checkBoundsBeginEnd_23922 : MethodName := ⟨RJ0, "checkBoundsBeginEnd", "(III)V"⟩
def RJ4 : String := "java/lang/StringBuilder"
def TJ4 : u_T := fun k => match k with
  | 0 => ("java/lang/AbstractStringBuilder", "value", "[B", false)
  | 1 => ("java/lang/AbstractStringBuilder", "coder", "B", false)
  | 2 => ("java/lang/AbstractStringBuilder", "maybeLatin1", "Z", false)
  | _ => ("java/lang/AbstractStringBuilder", "count", "I", false)
def tyJ4 : Nat → FieldType := fun k => match k with
  | 0 => .array .byte
  | 1 => .byte
  | 2 => .boolean
  | _ => .int
abbrev wsJ40 : List Cond := u_ws RJ4 TJ4 4
theorem nmJ4 : ∀ a, a < 4 → ∀ b, b < 4 → a ≠ b → (TJ4 a).2.1 ≠ (TJ4 b).2.1 := by decide +kernel
theorem tyJ4_ok : ∀ k, k < 4 → parseFieldDescriptor (TJ4 k).2.2.1 = some (tyJ4 k) := by decide +kernel
abbrev cJ4_init_da8c8 : ByteArray := prog_34_method_1_code
def yJ4_init_da8c8 : MethodName := ⟨RJ4, "<init>", "()V"⟩
abbrev cJ4_append_15ec4 : ByteArray := prog_34_method_7_code
def yJ4_append_15ec4 : MethodName := ⟨RJ4, "append", "(Ljava/lang/String;)Ljava/lang/StringBuilder;"⟩
abbrev cJ4_append_cf468 : ByteArray := prog_34_method_14_code
def yJ4_append_cf468 : MethodName := ⟨RJ4, "append", "(C)Ljava/lang/StringBuilder;"⟩
abbrev cJ4_append_bf812 : ByteArray := prog_34_method_15_code
def yJ4_append_bf812 : MethodName := ⟨RJ4, "append", "(I)Ljava/lang/StringBuilder;"⟩
abbrev cJ4_toString_0e30d : ByteArray := prog_34_method_42_code
def yJ4_toString_0e30d : MethodName := ⟨RJ4, "toString", "()Ljava/lang/String;"⟩
abbrev cJ4_charAt_5068e : ByteArray := prog_34_method_88_code
def yJ4_charAt_5068e : MethodName := ⟨RJ4, "charAt", "(I)C"⟩
abbrev cJ4_setLength_d00df : ByteArray := prog_34_method_89_code
def yJ4_setLength_d00df : MethodName := ⟨RJ4, "setLength", "(I)V"⟩
abbrev cJ4_length_8abf5 : ByteArray := prog_34_method_93_code
def yJ4_length_8abf5 : MethodName := ⟨RJ4, "length", "()I"⟩
def RJx7c733 : String := "java/lang/StringIndexOutOfBoundsException"
def TJx7c733 : u_T := fun k => match k with
  | 0 => ("java/lang/Throwable", "backtrace", "Ljava/lang/Object;", false)
  | 1 => ("java/lang/Throwable", "detailMessage", "Ljava/lang/String;", false)
  | 2 => ("java/lang/Throwable", "cause", "Ljava/lang/Throwable;", false)
  | 3 => ("java/lang/Throwable", "stackTrace", "[Ljava/lang/StackTraceElement;", false)
  | 4 => ("java/lang/Throwable", "depth", "I", false)
  | _ => ("java/lang/Throwable", "suppressedExceptions", "Ljava/util/List;", false)
def tyJx7c733 : Nat → FieldType := fun k => match k with
  | 0 => .object "java/lang/Object"
  | 1 => .object "java/lang/String"
  | 2 => .object "java/lang/Throwable"
  | 3 => .array (.object "java/lang/StackTraceElement")
  | 4 => .int
  | _ => .object "java/util/List"
abbrev wsJx7c7330 : List Cond := u_ws RJx7c733 TJx7c733 6
theorem nmJx7c733 : ∀ a, a < 6 → ∀ b, b < 6 → a ≠ b → (TJx7c733 a).2.1 ≠ (TJx7c733 b).2.1 := by decide +kernel
theorem tyJx7c733_ok : ∀ k, k < 6 → parseFieldDescriptor (TJx7c733 k).2.2.1 = some (tyJx7c733 k) := by decide +kernel
abbrev cJx7c733_init_d00df : ByteArray := prog_35_method_3_code
def yJx7c733_init_d00df : MethodName := ⟨RJx7c733, "<init>", "(I)V"⟩
def RJ1 : String := "java/lang/StringLatin1"
def TJ1 : u_T := fun k => match k with
  | _ => ("", "", "", false)
def tyJ1 : Nat → FieldType := fun k => match k with
  | _ => .int
abbrev wsJ10 : List Cond := u_ws RJ1 TJ1 0
theorem nmJ1 : ∀ a, a < 0 → ∀ b, b < 0 → a ≠ b → (TJ1 a).2.1 ≠ (TJ1 b).2.1 := by decide +kernel
theorem tyJ1_ok : ∀ k, k < 0 → parseFieldDescriptor (TJ1 k).2.2.1 = some (tyJ1 k) := by decide +kernel
abbrev cJ1_charAt_3b067 : ByteArray := prog_36_method_2_code
def yJ1_charAt_3b067 : MethodName := ⟨RJ1, "charAt", "([BI)C"⟩
abbrev cJ1_canEncode_fc78d : ByteArray := prog_36_method_3_code
def yJ1_canEncode_fc78d : MethodName := ⟨RJ1, "canEncode", "(C)Z"⟩
abbrev cJ1_fillNull_b72d1 : ByteArray := prog_36_method_48_code
def yJ1_fillNull_b72d1 : MethodName := ⟨RJ1, "fillNull", "([BII)V"⟩
abbrev cJ1_inflate_0e8fd : ByteArray := prog_36_method_50_code
def yJ1_inflate_0e8fd : MethodName := ⟨RJ1, "inflate", "([BI[BII)V"⟩
def RJ2 : String := "java/lang/StringUTF16"
def TJ2 : u_T := fun k => match k with
  | _ => ("", "", "", false)
def tyJ2 : Nat → FieldType := fun k => match k with
  | _ => .int
abbrev wsJ20 : List Cond := u_ws RJ2 TJ2 0
theorem nmJ2 : ∀ a, a < 0 → ∀ b, b < 0 → a ≠ b → (TJ2 a).2.1 ≠ (TJ2 b).2.1 := by decide +kernel
theorem tyJ2_ok : ∀ k, k < 0 → parseFieldDescriptor (TJ2 k).2.2.1 = some (tyJ2 k) := by decide +kernel
abbrev cJ2_newBytesFor_77867 : ByteArray := prog_37_method_2_code
def yJ2_newBytesFor_77867 : MethodName := ⟨RJ2, "newBytesFor", "(I)[B"⟩
abbrev cJ2_newBytesLength_0f7a4 : ByteArray := prog_37_method_3_code
def yJ2_newBytesLength_0f7a4 : MethodName := ⟨RJ2, "newBytesLength", "(I)I"⟩
abbrev cJ2_putChar_b72d1 : ByteArray := prog_37_method_4_code
def yJ2_putChar_b72d1 : MethodName := ⟨RJ2, "putChar", "([BII)V"⟩
abbrev cJ2_getChar_3b067 : ByteArray := prog_37_method_5_code
def yJ2_getChar_3b067 : MethodName := ⟨RJ2, "getChar", "([BI)C"⟩
abbrev cJ2_length_9d52b : ByteArray := prog_37_method_6_code
def yJ2_length_9d52b : MethodName := ⟨RJ2, "length", "([B)I"⟩
abbrev cJ2_coderFromArrayLen_85cad : ByteArray := prog_37_method_15_code
def yJ2_coderFromArrayLen_85cad : MethodName := ⟨RJ2, "coderFromArrayLen", "([BI)B"⟩
abbrev cJ2_compress_39247 : ByteArray := prog_37_method_17_code
def yJ2_compress_39247 : MethodName := ⟨RJ2, "compress", "([BII)[B"⟩
abbrev cJ2_compress_5af95 : ByteArray := prog_37_method_22_code
def yJ2_compress_5af95 : MethodName := ⟨RJ2, "compress", "([BI[BII)I"⟩
abbrev cJ2_fillNull_b72d1 : ByteArray := prog_37_method_70_code
def yJ2_fillNull_b72d1 : MethodName := ⟨RJ2, "fillNull", "([BII)V"⟩
abbrev cJ2_putCharSB_b72d1 : ByteArray := prog_37_method_71_code
def yJ2_putCharSB_b72d1 : MethodName := ⟨RJ2, "putCharSB", "([BII)V"⟩
abbrev cJ2_getChars_46870 : ByteArray := prog_37_method_77_code
def yJ2_getChars_46870 : MethodName := ⟨RJ2, "getChars", "(III[B)I"⟩
abbrev cJ2_putCharsAt_cd4e5 : ByteArray := prog_37_method_81_code
def yJ2_putCharsAt_cd4e5 : MethodName := ⟨RJ2, "putCharsAt", "([BICCCC)I"⟩
abbrev cJ2_charAt_3b067 : ByteArray := prog_37_method_83_code
def yJ2_charAt_3b067 : MethodName := ⟨RJ2, "charAt", "([BI)C"⟩
abbrev cJ2_inflate_0e8fd : ByteArray := prog_37_method_86_code
def yJ2_inflate_0e8fd : MethodName := ⟨RJ2, "inflate", "([BI[BII)V"⟩
abbrev cJ2_getChars_ba4f3 : ByteArray := prog_37_method_89_code
def yJ2_getChars_ba4f3 : MethodName := ⟨RJ2, "getChars", "(II[B)I"⟩
abbrev cJ2_checkIndex_2214a : ByteArray := prog_37_method_91_code
def yJ2_checkIndex_2214a : MethodName := ⟨RJ2, "checkIndex", "(I[B)V"⟩
abbrev cJ2_checkBoundsBeginEnd_d044e : ByteArray := prog_37_method_93_code
def yJ2_checkBoundsBeginEnd_d044e : MethodName := ⟨RJ2, "checkBoundsBeginEnd", "(II[B)V"⟩
abbrev cJ2_checkBoundsOffCount_d044e : ByteArray := prog_37_method_94_code
def yJ2_checkBoundsOffCount_d044e : MethodName := ⟨RJ2, "checkBoundsOffCount", "(II[B)V"⟩
def RJ10 : String := "java/lang/System"
def TJ10 : u_T := fun k => match k with
  | _ => ("", "", "", false)
def tyJ10 : Nat → FieldType := fun k => match k with
  | _ => .int
abbrev wsJ100 : List Cond := u_ws RJ10 TJ10 0
theorem nmJ10 : ∀ a, a < 0 → ∀ b, b < 0 → a ≠ b → (TJ10 a).2.1 ≠ (TJ10 b).2.1 := by decide +kernel
theorem tyJ10_ok : ∀ k, k < 0 → parseFieldDescriptor (TJ10 k).2.2.1 = some (tyJ10 k) := by decide +kernel
def RJxfd54e : String := "java/lang/constant/Constable"
def TJxfd54e : u_T := fun k => match k with
  | _ => ("", "", "", false)
def tyJxfd54e : Nat → FieldType := fun k => match k with
  | _ => .int
abbrev wsJxfd54e0 : List Cond := u_ws RJxfd54e TJxfd54e 0
theorem nmJxfd54e : ∀ a, a < 0 → ∀ b, b < 0 → a ≠ b → (TJxfd54e a).2.1 ≠ (TJxfd54e b).2.1 := by decide +kernel
theorem tyJxfd54e_ok : ∀ k, k < 0 → parseFieldDescriptor (TJxfd54e k).2.2.1 = some (tyJxfd54e k) := by decide +kernel
def RJx3cf43 : String := "java/lang/constant/ConstantDesc"
def TJx3cf43 : u_T := fun k => match k with
  | _ => ("", "", "", false)
def tyJx3cf43 : Nat → FieldType := fun k => match k with
  | _ => .int
abbrev wsJx3cf430 : List Cond := u_ws RJx3cf43 TJx3cf43 0
theorem nmJx3cf43 : ∀ a, a < 0 → ∀ b, b < 0 → a ≠ b → (TJx3cf43 a).2.1 ≠ (TJx3cf43 b).2.1 := by decide +kernel
theorem tyJx3cf43_ok : ∀ k, k < 0 → parseFieldDescriptor (TJx3cf43 k).2.2.1 = some (tyJx3cf43 k) := by decide +kernel
def RJ7 : String := "java/util/Arrays"
def TJ7 : u_T := fun k => match k with
  | _ => ("", "", "", false)
def tyJ7 : Nat → FieldType := fun k => match k with
  | _ => .int
abbrev wsJ70 : List Cond := u_ws RJ7 TJ7 0
theorem nmJ7 : ∀ a, a < 0 → ∀ b, b < 0 → a ≠ b → (TJ7 a).2.1 ≠ (TJ7 b).2.1 := by decide +kernel
theorem tyJ7_ok : ∀ k, k < 0 → parseFieldDescriptor (TJ7 k).2.2.1 = some (tyJ7 k) := by decide +kernel
abbrev cJ7_rangeCheck_23922 : ByteArray := prog_43_method_30_code
def yJ7_rangeCheck_23922 : MethodName := ⟨RJ7, "rangeCheck", "(III)V"⟩
abbrev cJ7_fill_eb02e : ByteArray := prog_43_method_110_code
def yJ7_fill_eb02e : MethodName := ⟨RJ7, "fill", "([BIIB)V"⟩
abbrev cJ7_copyOf_9075b : ByteArray := prog_43_method_121_code
def yJ7_copyOf_9075b : MethodName := ⟨RJ7, "copyOf", "([BI)[B"⟩
abbrev cJ7_checkLength_df160 : ByteArray := prog_43_method_131_code
def yJ7_checkLength_df160 : MethodName := ⟨RJ7, "checkLength", "(II)V"⟩
abbrev cJ7_copyOfRange_39247 : ByteArray := prog_43_method_132_code
def yJ7_copyOfRange_39247 : MethodName := ⟨RJ7, "copyOfRange", "([BII)[B"⟩
abbrev cJ7_copyOfRangeByte_39247 : ByteArray := prog_43_method_133_code
def yJ7_copyOfRangeByte_39247 : MethodName := ⟨RJ7, "copyOfRangeByte", "([BII)[B"⟩
def RJ8 : String := "jdk/internal/util/ArraysSupport"
def TJ8 : u_T := fun k => match k with
  | _ => ("", "", "", false)
def tyJ8 : Nat → FieldType := fun k => match k with
  | _ => .int
abbrev wsJ80 : List Cond := u_ws RJ8 TJ8 0
theorem nmJ8 : ∀ a, a < 0 → ∀ b, b < 0 → a ≠ b → (TJ8 a).2.1 ≠ (TJ8 b).2.1 := by decide +kernel
theorem tyJ8_ok : ∀ k, k < 0 → parseFieldDescriptor (TJ8 k).2.2.1 = some (tyJ8 k) := by decide +kernel
abbrev cJ8_newLength_cabcc : ByteArray := prog_45_method_27_code
def yJ8_newLength_cabcc : MethodName := ⟨RJ8, "newLength", "(III)I"⟩
abbrev cJ8_hugeLength_7cf53 : ByteArray := prog_45_method_28_code
def yJ8_hugeLength_7cf53 : MethodName := ⟨RJ8, "hugeLength", "(II)I"⟩
def RJ3 : String := "jdk/internal/util/Preconditions"
def TJ3 : u_T := fun k => match k with
  | _ => ("", "", "", false)
def tyJ3 : Nat → FieldType := fun k => match k with
  | _ => .int
abbrev wsJ30 : List Cond := u_ws RJ3 TJ3 0
theorem nmJ3 : ∀ a, a < 0 → ∀ b, b < 0 → a ≠ b → (TJ3 a).2.1 ≠ (TJ3 b).2.1 := by decide +kernel
theorem tyJ3_ok : ∀ k, k < 0 → parseFieldDescriptor (TJ3 k).2.2.1 = some (tyJ3 k) := by decide +kernel
abbrev cJ3_checkIndex_8e157 : ByteArray := prog_46_method_11_code
def yJ3_checkIndex_8e157 : MethodName := ⟨RJ3, "checkIndex", "(IILjava/util/function/BiFunction;)I"⟩
abbrev cJ3_checkFromToIndex_8c36e : ByteArray := prog_46_method_12_code
def yJ3_checkFromToIndex_8c36e : MethodName := ⟨RJ3, "checkFromToIndex", "(IIILjava/util/function/BiFunction;)I"⟩
abbrev cJ3_checkFromIndexSize_8c36e : ByteArray := prog_46_method_13_code
def yJ3_checkFromIndexSize_8c36e : MethodName := ⟨RJ3, "checkFromIndexSize", "(IIILjava/util/function/BiFunction;)I"⟩
def RL : String := "CauldronTypesLaw"
abbrev cL_cell : ByteArray := method_2_code
def yL_cell : MethodName := ⟨RL, "cell", "([II)I"⟩
abbrev cL_drams : ByteArray := method_3_code
def yL_drams : MethodName := ⟨RL, "drams", "(LCauldronTypes;II)I"⟩
abbrev cL_broth : ByteArray := method_4_code
def yL_broth : MethodName := ⟨RL, "broth", "(LCauldronTypes;)I"⟩
abbrev cL_pour : ByteArray := method_5_code
def yL_pour : MethodName := ⟨RL, "pour", "(LCauldronTypes;II)I"⟩
abbrev cL_ladle : ByteArray := method_6_code
def yL_ladle : MethodName := ⟨RL, "ladle", "(LCauldronTypes;II)I"⟩
abbrev cL_bounds : ByteArray := method_7_code
def yL_bounds : MethodName := ⟨RL, "bounds", "(LCauldronTypes;III)I"⟩
abbrev cL_writes : ByteArray := method_8_code
def yL_writes : MethodName := ⟨RL, "writes", "(LCauldronTypes;)I"⟩
abbrev cL_erase : ByteArray := method_9_code
def yL_erase : MethodName := ⟨RL, "erase", "(LCauldronTypes;I)I"⟩
abbrev cL_cook : ByteArray := method_10_code
def yL_cook : MethodName := ⟨RL, "cook", "(LCauldronTypes;I)I"⟩
abbrev cL_cookAll : ByteArray := method_11_code
def yL_cookAll : MethodName := ⟨RL, "cookAll", "(LCauldronTypes;)I"⟩
abbrev cL_of : ByteArray := method_12_code
def yL_of : MethodName := ⟨RL, "of", "(LCauldronTypes;II)I"⟩
abbrev cL_spellOf : ByteArray := method_14_code
def yL_spellOf : MethodName := ⟨RL, "spellOf", "(LCauldronTypes;II)I"⟩
abbrev cL_token : ByteArray := method_15_code
def yL_token : MethodName := ⟨RL, "token", "(LCauldronTypes;II)I"⟩
abbrev cL_types : ByteArray := method_16_code
def yL_types : MethodName := ⟨RL, "types", "(LCauldronTypes;I)I"⟩
abbrev cL_typesAgain : ByteArray := method_17_code
def yL_typesAgain : MethodName := ⟨RL, "typesAgain", "(LCauldronTypes;I)I"⟩
abbrev cL_fault : ByteArray := method_18_code
def yL_fault : MethodName := ⟨RL, "fault", "(LCauldronTypes;I)I"⟩
abbrev cL_bound : ByteArray := method_19_code
def yL_bound : MethodName := ⟨RL, "bound", "(LCauldronTypes;IIZ)I"⟩
abbrev cL_would : ByteArray := method_20_code
def yL_would : MethodName := ⟨RL, "would", "(LCauldronTypes;II)I"⟩
abbrev cL_wouldAgain : ByteArray := method_21_code
def yL_wouldAgain : MethodName := ⟨RL, "wouldAgain", "(LCauldronTypes;II)I"⟩
abbrev cL_boils : ByteArray := method_22_code
def yL_boils : MethodName := ⟨RL, "boils", "(LCauldronTypes;I)I"⟩
abbrev cL_lasts : ByteArray := method_23_code
def yL_lasts : MethodName := ⟨RL, "lasts", "(LCauldronTypes;I)I"⟩
abbrev cL_ranked : ByteArray := method_24_code
def yL_ranked : MethodName := ⟨RL, "ranked", "(LCauldronTypes;I)I"⟩
abbrev cL_widest : ByteArray := method_25_code
def yL_widest : MethodName := ⟨RL, "widest", "(LCauldronTypes;)I"⟩
abbrev cL_tell : ByteArray := method_26_code
def yL_tell : MethodName := ⟨RL, "tell", "(LCauldronTypes;I)I"⟩
abbrev cL_tellCauldron : ByteArray := method_27_code
def yL_tellCauldron : MethodName := ⟨RL, "tellCauldron", "(LCauldronTypes;I)I"⟩
abbrev cL_character : ByteArray := method_28_code
def yL_character : MethodName := ⟨RL, "character", "(LCauldronTypes;I)I"⟩
abbrev cL_append : ByteArray := method_29_code
def yL_append : MethodName := ⟨RL, "append", "(LCauldronTypes;C)I"⟩
abbrev cL_reason : ByteArray := method_31_code
def yL_reason : MethodName := ⟨RL, "reason", "(LCauldronTypes;ZZ)I"⟩
abbrev cL_undo : ByteArray := method_32_code
def yL_undo : MethodName := ⟨RL, "undo", "(LCauldronTypes;)I"⟩
abbrev cL_write : ByteArray := method_33_code
def yL_write : MethodName := ⟨RL, "write", "(LCauldronTypes;Ljava/lang/String;)I"⟩
abbrev cL_store : ByteArray := method_34_code
def yL_store : MethodName := ⟨RL, "store", "(II)Ljava/lang/String;"⟩
abbrev cL_drawn : ByteArray := method_35_code
def yL_drawn : MethodName := ⟨RL, "drawn", "([I)LCauldronTypes;"⟩
abbrev cL_law : ByteArray := code
def yL_law : MethodName := ⟨RL, "law", "([I)Z"⟩
abbrev cL_text : ByteArray := method_37_code
def yL_text : MethodName := ⟨RL, "text", "(LCauldronTypes;I)[C"⟩
abbrev cL_isDigit : ByteArray := method_38_code
def yL_isDigit : MethodName := ⟨RL, "isDigit", "(C)Z"⟩
abbrev cL_tokens : ByteArray := method_39_code
def yL_tokens : MethodName := ⟨RL, "tokens", "(LCauldronTypes;)Z"⟩
abbrev cL_typed : ByteArray := method_40_code
def yL_typed : MethodName := ⟨RL, "typed", "(LCauldronTypes;)Z"⟩
abbrev cL_bits : ByteArray := method_41_code
def yL_bits : MethodName := ⟨RL, "bits", "(LCauldronTypes;)[I"⟩
abbrev cL_unlike : ByteArray := method_42_code
def yL_unlike : MethodName := ⟨RL, "unlike", "([I[I)I"⟩
abbrev cL_thought : ByteArray := method_43_code
def yL_thought : MethodName := ⟨RL, "thought", "(LCauldronTypes;)Z"⟩
abbrev cL_ranks : ByteArray := method_44_code
def yL_ranks : MethodName := ⟨RL, "ranks", "(LCauldronTypes;)Z"⟩
abbrev cL_spells : ByteArray := method_45_code
def yL_spells : MethodName := ⟨RL, "spells", "(LCauldronTypes;ILjava/lang/String;)Z"⟩
abbrev cL_lines : ByteArray := method_46_code
def yL_lines : MethodName := ⟨RL, "lines", "(LCauldronTypes;)Z"⟩
abbrev cL_sum : ByteArray := method_47_code
def yL_sum : MethodName := ⟨RL, "sum", "(LCauldronTypes;)J"⟩
abbrev cL_undone : ByteArray := method_48_code
def yL_undone : MethodName := ⟨RL, "undone", "([ILCauldronTypes;)Z"⟩
abbrev vwCl : List vw_C := [(RJ0, TJ0, 4), (RJ4, TJ4, 4), (RJx00060, TJx00060, 6), (RJx7c733, TJx7c733, 6), (RX0, TX0, 11), (RX1, TX1, 2), (RX2, TX2, 10), (RX3, TX3, 3), (RX4, TX4, 3), (RX6, TX6, 12), (RX7, TX7, 6), (RX8, TX8, 9), (RX9, TX9, 9), (RX10, TX10, 3), (RX11, TX11, 15)]
